theorem hdX0_load : yX0_load.cls ≠ "java/lang/invoke/MethodHandle" ∧ yX0_load.cls ≠ "java/lang/invoke/VarHandle" ∧ (parseMethodDescriptor yX0_load.desc).map (fun d => d.parameters.length) = some 0 := ⟨by decide +kernel, by decide +kernel, by decide +kernel⟩
theorem dX0_load_0 : decode cX0_load 0 = .ok (.iconst 0, 1) := by decide +kernel
theorem dX0_load_1 : decode cX0_load 1 = .ok (.istore_n 1, 1) := by decide +kernel
theorem dX0_load_2 : decode cX0_load 2 = .ok (.iload_n 1, 1) := by decide +kernel
theorem dX0_load_3 : decode cX0_load 3 = .ok (.aload_n 0, 1) := by decide +kernel
theorem dX0_load_4 : decode cX0_load 4 = .ok (.getfield 62, 3) := by decide +kernel
theorem dX0_load_7 : decode cX0_load 7 = .ok (.arraylength, 1) := by decide +kernel
theorem dX0_load_8 : decode cX0_load 8 = .ok (.if_icmp .ge 41, 3) := by decide +kernel
theorem dX0_load_11 : decode cX0_load 11 = .ok (.iload_n 1, 1) := by decide +kernel
theorem dX0_load_12 : decode cX0_load 12 = .ok (.iconst 2, 1) := by decide +kernel
theorem dX0_load_13 : decode cX0_load 13 = .ok (.iushr, 1) := by decide +kernel
theorem dX0_load_14 : decode cX0_load 14 = .ok (.iconst 3, 1) := by decide +kernel
theorem dX0_load_15 : decode cX0_load 15 = .ok (.iand, 1) := by decide +kernel
theorem dX0_load_16 : decode cX0_load 16 = .ok (.istore_n 2, 1) := by decide +kernel
theorem dX0_load_17 : decode cX0_load 17 = .ok (.aload_n 0, 1) := by decide +kernel
theorem dX0_load_18 : decode cX0_load 18 = .ok (.getfield 16, 3) := by decide +kernel
theorem dX0_load_21 : decode cX0_load 21 = .ok (.iload_n 2, 1) := by decide +kernel
theorem dX0_load_22 : decode cX0_load 22 = .ok (.aload_n 0, 1) := by decide +kernel
theorem dX0_load_23 : decode cX0_load 23 = .ok (.getfield 16, 3) := by decide +kernel
theorem dX0_load_26 : decode cX0_load 26 = .ok (.iload_n 2, 1) := by decide +kernel
theorem dX0_load_27 : decode cX0_load 27 = .ok (.iaload, 1) := by decide +kernel
theorem dX0_load_28 : decode cX0_load 28 = .ok (.bipush 8, 2) := by decide +kernel
theorem dX0_load_30 : decode cX0_load 30 = .ok (.ishl, 1) := by decide +kernel
theorem dX0_load_31 : decode cX0_load 31 = .ok (.aload_n 0, 1) := by decide +kernel
theorem dX0_load_32 : decode cX0_load 32 = .ok (.getfield 62, 3) := by decide +kernel
theorem dX0_load_35 : decode cX0_load 35 = .ok (.iload_n 1, 1) := by decide +kernel
theorem dX0_load_36 : decode cX0_load 36 = .ok (.iaload, 1) := by decide +kernel
theorem dX0_load_37 : decode cX0_load 37 = .ok (.sipush 255, 3) := by decide +kernel
theorem dX0_load_40 : decode cX0_load 40 = .ok (.iand, 1) := by decide +kernel
theorem dX0_load_41 : decode cX0_load 41 = .ok (.ior, 1) := by decide +kernel
theorem dX0_load_42 : decode cX0_load 42 = .ok (.iastore, 1) := by decide +kernel
theorem dX0_load_43 : decode cX0_load 43 = .ok (.iinc 1 1, 3) := by decide +kernel
theorem dX0_load_46 : decode cX0_load 46 = .ok (.goto (-44), 3) := by decide +kernel
theorem dX0_load_49 : decode cX0_load 49 = .ok (.return_, 1) := by decide +kernel
set_option maxHeartbeats 4000000 in
set_option maxRecDepth 100000 in
theorem ct_X0_load (ll : Launch) (D : va_G) (ta : Nat → ClassId) {G : (Nat → Prop) → State → Heap → Prop} (hGok : GOK G) (ha : Nat) (b1 : Nat) (b2 : Nat) (b3 : Nat) (b4 : Nat) (b5 : Nat) (b6 : Nat) (R : Nat) (gb : Nat → BitVec 8) (sw : Nat → Int32)  (sz : Nat) : CT ll yX0_load cX0_load 3 none ({ frames := 0, cells := 0, slots := 0, locals := 0 } : Room) D ta G [.ref ha] [(ha, oA b1 b2 b3 b4 b5 b6 R), (b1, aZ ta 16 gb), (b5, aI ta 4 sw)] sz (S := (Nat → Int32)) (fun _ => none) (fun u => (∀ c, c < 4 → u c = wdF gb c)) (fun u => [(ha, oA b1 b2 b3 b4 b5 b6 R), (b1, aZ ta 16 gb), (b5, aI ta 4 u)]) 0 0 := by
  refine CT.of_v rfl (by decide) (Nat.le_of_ble_eq_true rfl) ?_
  intro pp ee ss mm below meth kc A Q hx hb hml hown hin hts hK hA hsz hG hret H locs hP hD hS ls hl
  have hl : lv_has ls 3 [(0, .ref ha)] := hl
  refine lv_iconst (pc := 0) (v := nI 0) hx hb dX0_load_0 (by decide +kernel) ?_
  refine lv_istore_n (pc := 1) (lv' := [(1, .int (nI 0)), (0, .ref ha)]) hx hb dX0_load_1 rfl hl (by decide) rfl (fun ls hl => ?_)
  have LP2 : ∀ (nn2 : Nat) (i : Nat) (s' : Nat → Int32), (i ≤ 16) → (∀ q, q < 4 → s' q = ldS (sw q) gb q (min 4 (i - 4 * q))) → (16 - i < nn2) → ∀ (H : Heap) (locs : List Loc), va_P D vwCl [(ha, oA b1 b2 b3 b4 b5 b6 R), (b1, aZ ta 16 gb), (b5, aI ta 4 s')] H → va_D A [(ha, oA b1 b2 b3 b4 b5 b6 R), (b1, aZ ta 16 gb), (b5, aI ta 4 s')] → va_S A ss.heap H locs → ∀ ls : Array Slot, lv_has ls 3 [(1, .int (nI i)), (0, .ref ha)] → W pp ll ee ({ frames := 0, cells := 0, slots := 0, locals := 0 } : Room) ss mm (([.ref ha] : List Value).toArray) below meth kc H locs 0 0 Q (F0 mm 2 ls []) := by
    intro nn2
    induction nn2 with
    | zero => intro i s' hii hs hmu; exact absurd hmu (Nat.not_lt_zero _)
    | succ nn2 ih2 =>
      intro i s' hii hs hmu2 H locs hP hD hS ls hl
      refine lv_iload_n (pc := 2) hx hb dX0_load_2 rfl (lv_at hl 0 rfl) ?_
      refine lv_aload_n (pc := 3) hx hb dX0_load_3 rfl (lv_at hl 1 rfl) ?_
      refine va_get (pc := 4) (D := D) (ci := 0) (v := .ref b1) (C := RX0) (T := TX0) (N := 7) hx hb hts iu0 hown hK hP 0 rfl rfl 0 (by decide) (hts _ tw_250) (fun x h9 => u_same (hts _ tw_251) x h9) rfl dX0_load_4 ?_
      refine va_alen (pc := 7) hx hb hK hP 1 0 rfl rfl (v := nI 16) rfl dX0_load_7 ?_
      refine lv_icmp_ge (pc := 8) (tgt := 49) hx hb dX0_load_8 (by decide) (fun c_1 => ?_) (fun c_1 => ?_)
      · skip
        rw [nI_leI (by omega) (by omega)] at c_1
        have hq_2 : (∀ c, c < 4 → s' c = wdF gb c) := by
          intro c hc
          rw [hs c hc, show min 4 (i - 4 * c) = 4 by omega, ldS_4]
        exact hret (s') _ _ _ _ dX0_load_49 hq_2 (hP.sub [0, 1, 2] rfl) (hD.sub [0, 1, 2] (by decide) rfl) hS
      · skip
        rw [nI_leI (by omega) (by omega)] at c_1
        refine lv_iload_n (pc := 11) hx hb dX0_load_11 rfl (lv_at hl 0 rfl) ?_
        refine lv_iconst (pc := 12) (v := nI 2) hx hb dX0_load_12 (by decide +kernel) ?_
        refine lv_iushr (pc := 13) (v := nI (i / 4)) hx hb dX0_load_13 (q_ushr (p := 4) (by decide) (by omega)) ?_
        refine lv_iconst (pc := 14) (v := nI 3) hx hb dX0_load_14 (by decide +kernel) ?_
        refine lv_iand (pc := 15) hx hb dX0_load_15 ?_
        refine q_top (y := nI ((i / 4) % 4)) (q_andN (k := 2) (p := 4) (by decide) (by omega)) ?_
        refine lv_istore_n (pc := 16) (lv' := [(2, .int (nI ((i / 4) % 4))), (1, .int (nI i)), (0, .ref ha)]) hx hb dX0_load_16 rfl hl (by decide) rfl (fun ls hl => ?_)
        refine lv_aload_n (pc := 17) hx hb dX0_load_17 rfl (lv_at hl 2 rfl) ?_
        refine va_get (pc := 18) (D := D) (ci := 0) (v := .ref b5) (C := RX0) (T := TX0) (N := 7) hx hb hts iu0 hown hK hP 0 rfl rfl 4 (by decide) (hts _ tw_324) (fun _ h9 => h9) rfl dX0_load_18 ?_
        refine lv_iload_n (pc := 21) hx hb dX0_load_21 rfl (lv_at hl 0 rfl) ?_
        refine lv_aload_n (pc := 22) hx hb dX0_load_22 rfl (lv_at hl 2 rfl) ?_
        refine va_get (pc := 23) (D := D) (ci := 0) (v := .ref b5) (C := RX0) (T := TX0) (N := 7) hx hb hts iu0 hown hK hP 0 rfl rfl 4 (by decide) (hts _ tw_324) (fun _ h9 => h9) rfl dX0_load_23 ?_
        refine lv_iload_n (pc := 26) hx hb dX0_load_26 rfl (lv_at hl 0 rfl) ?_
        refine q_iald (pc := 27) hx hb hK hP 2 0 rfl rfl (k := (i / 4) % 4) (v := s' ((i / 4) % 4)) rfl (by omega) (by omega) rfl dX0_load_27 ?_
        refine lv_bipush (pc := 28) (v := nI 8) hx hb dX0_load_28 (by decide +kernel) ?_
        refine lv_ishl (pc := 30) hx hb dX0_load_30 ?_
        refine lv_aload_n (pc := 31) hx hb dX0_load_31 rfl (lv_at hl 2 rfl) ?_
        refine va_get (pc := 32) (D := D) (ci := 0) (v := .ref b1) (C := RX0) (T := TX0) (N := 7) hx hb hts iu0 hown hK hP 0 rfl rfl 0 (by decide) (hts _ tw_250) (fun x h9 => u_same (hts _ tw_251) x h9) rfl dX0_load_32 ?_
        refine lv_iload_n (pc := 35) hx hb dX0_load_35 rfl (lv_at hl 1 rfl) ?_
        refine q_iald (pc := 36) hx hb hK hP 1 0 rfl rfl (k := i) (v := qz (gb i)) rfl (by omega) (by omega) rfl dX0_load_36 ?_
        refine lv_sipush (pc := 37) (v := nI 255) hx hb dX0_load_37 (by decide +kernel) ?_
        refine lv_iand (pc := 40) hx hb dX0_load_40 ?_
        refine q_top (y := qz (gb i)) (q_and255z _) ?_
        refine lv_ior (pc := 41) hx hb dX0_load_41 ?_
        refine q_iastI (pc := 42) hx hb hK hP hD hS 2 0 rfl rfl (k := (i / 4) % 4) rfl (by omega) (by omega)  dX0_load_42 (fun H locs hP hD hS => ?_)
        have hP : va_P D vwCl [(ha, oA b1 b2 b3 b4 b5 b6 R), (b1, aZ ta 16 gb), (b5, aI ta 4 (qU s' ((i / 4) % 4) (((s' ((i / 4) % 4)) <<< ((nI 8) &&& 31)) ||| (qz (gb i)))))] H := hP
        have hD : va_D A [(ha, oA b1 b2 b3 b4 b5 b6 R), (b1, aZ ta 16 gb), (b5, aI ta 4 (qU s' ((i / 4) % 4) (((s' ((i / 4) % 4)) <<< ((nI 8) &&& 31)) ||| (qz (gb i)))))] := hD
        refine lv_iinc (pc := 43) (v := nI (i + 1)) (lv' := [(1, .int (nI (i + 1))), (2, .int (nI ((i / 4) % 4))), (0, .ref ha)]) hx hb dX0_load_43 hl (k := 1) rfl (by first | exact nI_add i 1 | rfl) (by decide) rfl (fun ls hl => ?_)
        refine lv_goto (pc := 46) (tgt := 2) hx hb dX0_load_46 (by decide) ?_
        exact ih2 (i + 1) (qU s' ((i / 4) % 4) (((s' ((i / 4) % 4)) <<< ((nI 8) &&& 31)) ||| (qz (gb i)))) (by omega) (load_step (by omega) hs) (by omega) _ _ (hP.sub [0, 1, 2] rfl) (hD.sub [0, 1, 2] (by decide) rfl) hS ls (lv_sub hl [0, 2] rfl)
  exact LP2 _ 0 sw (by omega) (fun q _ => by rw [show min 4 (0 - 4 * q) = 0 by omega]; rfl) (Nat.lt_succ_self _) _ _ (hP.sub [0, 1, 2] rfl) (hD.sub [0, 1, 2] (by decide) rfl) hS ls (lv_sub hl [0, 1] rfl)
theorem hdX0_store : yX0_store.cls ≠ "java/lang/invoke/MethodHandle" ∧ yX0_store.cls ≠ "java/lang/invoke/VarHandle" ∧ (parseMethodDescriptor yX0_store.desc).map (fun d => d.parameters.length) = some 0 := ⟨by decide +kernel, by decide +kernel, by decide +kernel⟩
theorem dX0_store_0 : decode cX0_store 0 = .ok (.iconst 0, 1) := by decide +kernel
theorem dX0_store_1 : decode cX0_store 1 = .ok (.istore_n 1, 1) := by decide +kernel
theorem dX0_store_2 : decode cX0_store 2 = .ok (.iload_n 1, 1) := by decide +kernel
theorem dX0_store_3 : decode cX0_store 3 = .ok (.aload_n 0, 1) := by decide +kernel
theorem dX0_store_4 : decode cX0_store 4 = .ok (.getfield 62, 3) := by decide +kernel
theorem dX0_store_7 : decode cX0_store 7 = .ok (.arraylength, 1) := by decide +kernel
theorem dX0_store_8 : decode cX0_store 8 = .ok (.if_icmp .ge 39, 3) := by decide +kernel
theorem dX0_store_11 : decode cX0_store 11 = .ok (.aload_n 0, 1) := by decide +kernel
theorem dX0_store_12 : decode cX0_store 12 = .ok (.getfield 62, 3) := by decide +kernel
theorem dX0_store_15 : decode cX0_store 15 = .ok (.iload_n 1, 1) := by decide +kernel
theorem dX0_store_16 : decode cX0_store 16 = .ok (.aload_n 0, 1) := by decide +kernel
theorem dX0_store_17 : decode cX0_store 17 = .ok (.getfield 16, 3) := by decide +kernel
theorem dX0_store_20 : decode cX0_store 20 = .ok (.iload_n 1, 1) := by decide +kernel
theorem dX0_store_21 : decode cX0_store 21 = .ok (.iconst 2, 1) := by decide +kernel
theorem dX0_store_22 : decode cX0_store 22 = .ok (.iushr, 1) := by decide +kernel
theorem dX0_store_23 : decode cX0_store 23 = .ok (.iconst 3, 1) := by decide +kernel
theorem dX0_store_24 : decode cX0_store 24 = .ok (.iand, 1) := by decide +kernel
theorem dX0_store_25 : decode cX0_store 25 = .ok (.iaload, 1) := by decide +kernel
theorem dX0_store_26 : decode cX0_store 26 = .ok (.bipush 24, 2) := by decide +kernel
theorem dX0_store_28 : decode cX0_store 28 = .ok (.bipush 8, 2) := by decide +kernel
theorem dX0_store_30 : decode cX0_store 30 = .ok (.iload_n 1, 1) := by decide +kernel
theorem dX0_store_31 : decode cX0_store 31 = .ok (.iconst 3, 1) := by decide +kernel
theorem dX0_store_32 : decode cX0_store 32 = .ok (.iand, 1) := by decide +kernel
theorem dX0_store_33 : decode cX0_store 33 = .ok (.imul, 1) := by decide +kernel
theorem dX0_store_34 : decode cX0_store 34 = .ok (.isub, 1) := by decide +kernel
theorem dX0_store_35 : decode cX0_store 35 = .ok (.iushr, 1) := by decide +kernel
theorem dX0_store_36 : decode cX0_store 36 = .ok (.sipush 255, 3) := by decide +kernel
theorem dX0_store_39 : decode cX0_store 39 = .ok (.iand, 1) := by decide +kernel
theorem dX0_store_40 : decode cX0_store 40 = .ok (.iastore, 1) := by decide +kernel
theorem dX0_store_41 : decode cX0_store 41 = .ok (.iinc 1 1, 3) := by decide +kernel
theorem dX0_store_44 : decode cX0_store 44 = .ok (.goto (-42), 3) := by decide +kernel
theorem dX0_store_47 : decode cX0_store 47 = .ok (.return_, 1) := by decide +kernel
set_option maxHeartbeats 4000000 in
set_option maxRecDepth 100000 in
theorem ct_X0_store (ll : Launch) (D : va_G) (ta : Nat → ClassId) {G : (Nat → Prop) → State → Heap → Prop} (hGok : GOK G) (ha : Nat) (b1 : Nat) (b2 : Nat) (b3 : Nat) (b4 : Nat) (b5 : Nat) (b6 : Nat) (R : Nat) (gb : Nat → BitVec 8) (sw : Nat → Int32) (σ : Nat → BitVec 8) (hσ : ∀ c, c < 4 → sw c = wdF σ c) (sz : Nat) : CT ll yX0_store cX0_store 2 none ({ frames := 0, cells := 0, slots := 0, locals := 0 } : Room) D ta G [.ref ha] [(ha, oA b1 b2 b3 b4 b5 b6 R), (b1, aZ ta 16 gb), (b5, aI ta 4 sw)] sz (S := (Nat → BitVec 8)) (fun _ => none) (fun u => (∀ k, k < 16 → u k = σ k)) (fun u => [(ha, oA b1 b2 b3 b4 b5 b6 R), (b1, aZ ta 16 u), (b5, aI ta 4 sw)]) 0 0 := by
  refine CT.of_v rfl (by decide) (Nat.le_of_ble_eq_true rfl) ?_
  intro pp ee ss mm below meth kc A Q hx hb hml hown hin hts hK hA hsz hG hret H locs hP hD hS ls hl
  have hl : lv_has ls 2 [(0, .ref ha)] := hl
  refine lv_iconst (pc := 0) (v := nI 0) hx hb dX0_store_0 (by decide +kernel) ?_
  refine lv_istore_n (pc := 1) (lv' := [(1, .int (nI 0)), (0, .ref ha)]) hx hb dX0_store_1 rfl hl (by decide) rfl (fun ls hl => ?_)
  have LP2 : ∀ (nn2 : Nat) (i : Nat) (g' : Nat → BitVec 8), (i ≤ 16) → (qSeg g' gb 0 i σ) → (16 - i < nn2) → ∀ (H : Heap) (locs : List Loc), va_P D vwCl [(ha, oA b1 b2 b3 b4 b5 b6 R), (b1, aZ ta 16 g'), (b5, aI ta 4 sw)] H → va_D A [(ha, oA b1 b2 b3 b4 b5 b6 R), (b1, aZ ta 16 g'), (b5, aI ta 4 sw)] → va_S A ss.heap H locs → ∀ ls : Array Slot, lv_has ls 2 [(1, .int (nI i)), (0, .ref ha)] → W pp ll ee ({ frames := 0, cells := 0, slots := 0, locals := 0 } : Room) ss mm (([.ref ha] : List Value).toArray) below meth kc H locs 0 0 Q (F0 mm 2 ls []) := by
    intro nn2
    induction nn2 with
    | zero => intro i g' hii hs hmu; exact absurd hmu (Nat.not_lt_zero _)
    | succ nn2 ih2 =>
      intro i g' hii hs hmu2 H locs hP hD hS ls hl
      refine lv_iload_n (pc := 2) hx hb dX0_store_2 rfl (lv_at hl 0 rfl) ?_
      refine lv_aload_n (pc := 3) hx hb dX0_store_3 rfl (lv_at hl 1 rfl) ?_
      refine va_get (pc := 4) (D := D) (ci := 0) (v := .ref b1) (C := RX0) (T := TX0) (N := 7) hx hb hts iu0 hown hK hP 0 rfl rfl 0 (by decide) (hts _ tw_250) (fun x h9 => u_same (hts _ tw_251) x h9) rfl dX0_store_4 ?_
      refine va_alen (pc := 7) hx hb hK hP 1 0 rfl rfl (v := nI 16) rfl dX0_store_7 ?_
      refine lv_icmp_ge (pc := 8) (tgt := 47) hx hb dX0_store_8 (by decide) (fun c_1 => ?_) (fun c_1 => ?_)
      · skip
        rw [nI_leI (by omega) (by omega)] at c_1
        have hq_2 : (∀ k, k < 16 → g' k = σ k) := by
          intro k hk
          exact qSeg_at hs (by omega)
        exact hret (g') _ _ _ _ dX0_store_47 hq_2 (hP.sub [0, 1, 2] rfl) (hD.sub [0, 1, 2] (by decide) rfl) hS
      · skip
        rw [nI_leI (by omega) (by omega)] at c_1
        refine lv_aload_n (pc := 11) hx hb dX0_store_11 rfl (lv_at hl 1 rfl) ?_
        refine va_get (pc := 12) (D := D) (ci := 0) (v := .ref b1) (C := RX0) (T := TX0) (N := 7) hx hb hts iu0 hown hK hP 0 rfl rfl 0 (by decide) (hts _ tw_250) (fun x h9 => u_same (hts _ tw_251) x h9) rfl dX0_store_12 ?_
        refine lv_iload_n (pc := 15) hx hb dX0_store_15 rfl (lv_at hl 0 rfl) ?_
        refine lv_aload_n (pc := 16) hx hb dX0_store_16 rfl (lv_at hl 1 rfl) ?_
        refine va_get (pc := 17) (D := D) (ci := 0) (v := .ref b5) (C := RX0) (T := TX0) (N := 7) hx hb hts iu0 hown hK hP 0 rfl rfl 4 (by decide) (hts _ tw_324) (fun _ h9 => h9) rfl dX0_store_17 ?_
        refine lv_iload_n (pc := 20) hx hb dX0_store_20 rfl (lv_at hl 0 rfl) ?_
        refine lv_iconst (pc := 21) (v := nI 2) hx hb dX0_store_21 (by decide +kernel) ?_
        refine lv_iushr (pc := 22) (v := nI (i / 4)) hx hb dX0_store_22 (q_ushr (p := 4) (by decide) (by omega)) ?_
        refine lv_iconst (pc := 23) (v := nI 3) hx hb dX0_store_23 (by decide +kernel) ?_
        refine lv_iand (pc := 24) hx hb dX0_store_24 ?_
        refine q_top (y := nI ((i / 4) % 4)) (q_andN (k := 2) (p := 4) (by decide) (by omega)) ?_
        refine q_iald (pc := 25) hx hb hK hP 2 0 rfl rfl (k := (i / 4) % 4) (v := sw ((i / 4) % 4)) rfl (by omega) (by omega) rfl dX0_store_25 ?_
        refine lv_bipush (pc := 26) (v := nI 24) hx hb dX0_store_26 (by decide +kernel) ?_
        refine lv_bipush (pc := 28) (v := nI 8) hx hb dX0_store_28 (by decide +kernel) ?_
        refine lv_iload_n (pc := 30) hx hb dX0_store_30 rfl (lv_at hl 0 rfl) ?_
        refine lv_iconst (pc := 31) (v := nI 3) hx hb dX0_store_31 (by decide +kernel) ?_
        refine lv_iand (pc := 32) hx hb dX0_store_32 ?_
        refine q_top (y := nI (i % 4)) (q_andN (k := 2) (p := 4) (by decide) (by omega)) ?_
        refine lv_imul (pc := 33) hx hb dX0_store_33 ?_
        refine q_top (y := nI (8 * (i % 4))) (pk_mul 8 (i % 4)) ?_
        refine lv_isub (pc := 34) hx hb dX0_store_34 ?_
        refine q_top (y := nI (24 - (8 * (i % 4)))) (pk_sub (a := 24) (b := 8 * (i % 4)) (by omega)) ?_
        refine lv_iushr (pc := 35) (v := ush (sw ((i / 4) % 4)) (24 - (8 * (i % 4)))) hx hb dX0_store_35 rfl ?_
        refine lv_sipush (pc := 36) (v := nI 255) hx hb dX0_store_36 (by decide +kernel) ?_
        refine lv_iand (pc := 39) hx hb dX0_store_39 ?_
        refine q_top (y := qz (qlo (ush (sw ((i / 4) % 4)) (24 - (8 * (i % 4)))))) (q_m255 _) ?_
        refine q_iastZ (pc := 40) hx hb hK hP hD hS 1 0 rfl rfl (k := i) rfl (by omega) (by omega) (b := qlo (ush (sw ((i / 4) % 4)) (24 - (8 * (i % 4))))) rfl dX0_store_40 (fun H locs hP hD hS => ?_)
        have hP : va_P D vwCl [(ha, oA b1 b2 b3 b4 b5 b6 R), (b1, aZ ta 16 (qU g' i (qlo (ush (sw ((i / 4) % 4)) (24 - (8 * (i % 4))))))), (b5, aI ta 4 sw)] H := hP
        have hD : va_D A [(ha, oA b1 b2 b3 b4 b5 b6 R), (b1, aZ ta 16 (qU g' i (qlo (ush (sw ((i / 4) % 4)) (24 - (8 * (i % 4))))))), (b5, aI ta 4 sw)] := hD
        refine lv_iinc (pc := 41) (v := nI (i + 1)) (lv' := [(1, .int (nI (i + 1))), (0, .ref ha)]) hx hb dX0_store_41 hl (k := 0) rfl (by first | exact nI_add i 1 | rfl) (by decide) rfl (fun ls hl => ?_)
        refine lv_goto (pc := 44) (tgt := 2) hx hb dX0_store_44 (by decide) ?_
        exact ih2 (i + 1) (qU g' i (qlo (ush (sw ((i / 4) % 4)) (24 - (8 * (i % 4)))))) (by omega) (qSeg_s hs (by omega) (by rw [hσ _ (by omega), show 8 * (i % 4) = 8 * (i % 4) from rfl, wdF_byte (by omega)]; congr 1; omega)) (by omega) _ _ (hP.sub [0, 1, 2] rfl) (hD.sub [0, 1, 2] (by decide) rfl) hS ls (lv_sub hl [0, 1] rfl)
  exact LP2 _ 0 gb (by omega) (qSeg_0) (Nat.lt_succ_self _) _ _ (hP.sub [0, 1, 2] rfl) (hD.sub [0, 1, 2] (by decide) rfl) hS ls (lv_sub hl [0, 1] rfl)
theorem hdX0_addWords : yX0_addWords.cls ≠ "java/lang/invoke/MethodHandle" ∧ yX0_addWords.cls ≠ "java/lang/invoke/VarHandle" ∧ (parseMethodDescriptor yX0_addWords.desc).map (fun d => d.parameters.length) = some 1 := ⟨by decide +kernel, by decide +kernel, by decide +kernel⟩
theorem dX0_addWords_0 : decode cX0_addWords 0 = .ok (.iconst 0, 1) := by decide +kernel
theorem dX0_addWords_1 : decode cX0_addWords 1 = .ok (.istore_n 2, 1) := by decide +kernel
theorem dX0_addWords_2 : decode cX0_addWords 2 = .ok (.iload_n 2, 1) := by decide +kernel
theorem dX0_addWords_3 : decode cX0_addWords 3 = .ok (.iconst 4, 1) := by decide +kernel
theorem dX0_addWords_4 : decode cX0_addWords 4 = .ok (.if_icmp .ge 31, 3) := by decide +kernel
theorem dX0_addWords_7 : decode cX0_addWords 7 = .ok (.aload_n 0, 1) := by decide +kernel
theorem dX0_addWords_8 : decode cX0_addWords 8 = .ok (.getfield 16, 3) := by decide +kernel
theorem dX0_addWords_11 : decode cX0_addWords 11 = .ok (.iload_n 2, 1) := by decide +kernel
theorem dX0_addWords_12 : decode cX0_addWords 12 = .ok (.dup2, 1) := by decide +kernel
theorem dX0_addWords_13 : decode cX0_addWords 13 = .ok (.iaload, 1) := by decide +kernel
theorem dX0_addWords_14 : decode cX0_addWords 14 = .ok (.aload_n 0, 1) := by decide +kernel
theorem dX0_addWords_15 : decode cX0_addWords 15 = .ok (.getfield 13, 3) := by decide +kernel
theorem dX0_addWords_18 : decode cX0_addWords 18 = .ok (.iconst 4, 1) := by decide +kernel
theorem dX0_addWords_19 : decode cX0_addWords 19 = .ok (.iload_n 1, 1) := by decide +kernel
theorem dX0_addWords_20 : decode cX0_addWords 20 = .ok (.imul, 1) := by decide +kernel
theorem dX0_addWords_21 : decode cX0_addWords 21 = .ok (.iload_n 2, 1) := by decide +kernel
theorem dX0_addWords_22 : decode cX0_addWords 22 = .ok (.iadd, 1) := by decide +kernel
theorem dX0_addWords_23 : decode cX0_addWords 23 = .ok (.bipush 63, 2) := by decide +kernel
theorem dX0_addWords_25 : decode cX0_addWords 25 = .ok (.iand, 1) := by decide +kernel
theorem dX0_addWords_26 : decode cX0_addWords 26 = .ok (.iaload, 1) := by decide +kernel
theorem dX0_addWords_27 : decode cX0_addWords 27 = .ok (.ixor, 1) := by decide +kernel
theorem dX0_addWords_28 : decode cX0_addWords 28 = .ok (.iastore, 1) := by decide +kernel
theorem dX0_addWords_29 : decode cX0_addWords 29 = .ok (.iinc 2 1, 3) := by decide +kernel
theorem dX0_addWords_32 : decode cX0_addWords 32 = .ok (.goto (-30), 3) := by decide +kernel
theorem dX0_addWords_35 : decode cX0_addWords 35 = .ok (.return_, 1) := by decide +kernel
set_option maxHeartbeats 4000000 in
set_option maxRecDepth 100000 in
theorem ct_X0_addWords (ll : Launch) (D : va_G) (ta : Nat → ClassId) {G : (Nat → Prop) → State → Heap → Prop} (hGok : GOK G) (ha : Nat) (b1 : Nat) (b2 : Nat) (b3 : Nat) (b4 : Nat) (b5 : Nat) (b6 : Nat) (R : Nat) (sw : Nat → Int32) (kw : Nat → Int32) (σ : Nat → BitVec 8) (rk : Nat → BitVec 8) (r : Nat) (hσ : ∀ c, c < 4 → sw c = wdF σ c) (hkw : ∀ j, j < 4 * (r + 1) → kw j = wdF rk j) (hr : r ≤ 14) (sz : Nat) : CT ll yX0_addWords cX0_addWords 3 none ({ frames := 0, cells := 0, slots := 0, locals := 0 } : Room) D ta G [.ref ha, .int (nI r)] [(ha, oA b1 b2 b3 b4 b5 b6 R), (b4, aI ta 64 kw), (b5, aI ta 4 sw)] sz (S := (Nat → Int32)) (fun _ => none) (fun u => (∀ c, c < 4 → u c = wdF (aAdd σ rk r) c)) (fun u => [(ha, oA b1 b2 b3 b4 b5 b6 R), (b4, aI ta 64 kw), (b5, aI ta 4 u)]) 0 0 := by
  refine CT.of_v rfl (by decide) (Nat.le_of_ble_eq_true rfl) ?_
  intro pp ee ss mm below meth kc A Q hx hb hml hown hin hts hK hA hsz hG hret H locs hP hD hS ls hl
  have hl : lv_has ls 3 [(0, .ref ha), (1, .int (nI r))] := hl
  refine lv_iconst (pc := 0) (v := nI 0) hx hb dX0_addWords_0 (by decide +kernel) ?_
  refine lv_istore_n (pc := 1) (lv' := [(2, .int (nI 0)), (0, .ref ha), (1, .int (nI r))]) hx hb dX0_addWords_1 rfl hl (by decide) rfl (fun ls hl => ?_)
  have LP2 : ∀ (nn2 : Nat) (i : Nat) (s' : Nat → Int32), (i ≤ 4) → (qSeg s' sw 0 i (wdF (aAdd σ rk r))) → (4 - i < nn2) → ∀ (H : Heap) (locs : List Loc), va_P D vwCl [(ha, oA b1 b2 b3 b4 b5 b6 R), (b4, aI ta 64 kw), (b5, aI ta 4 s')] H → va_D A [(ha, oA b1 b2 b3 b4 b5 b6 R), (b4, aI ta 64 kw), (b5, aI ta 4 s')] → va_S A ss.heap H locs → ∀ ls : Array Slot, lv_has ls 3 [(2, .int (nI i)), (0, .ref ha), (1, .int (nI r))] → W pp ll ee ({ frames := 0, cells := 0, slots := 0, locals := 0 } : Room) ss mm (([.ref ha, .int (nI r)] : List Value).toArray) below meth kc H locs 0 0 Q (F0 mm 2 ls []) := by
    intro nn2
    induction nn2 with
    | zero => intro i s' hii hs hmu; exact absurd hmu (Nat.not_lt_zero _)
    | succ nn2 ih2 =>
      intro i s' hii hs hmu2 H locs hP hD hS ls hl
      refine lv_iload_n (pc := 2) hx hb dX0_addWords_2 rfl (lv_at hl 0 rfl) ?_
      refine lv_iconst (pc := 3) (v := nI 4) hx hb dX0_addWords_3 (by decide +kernel) ?_
      refine lv_icmp_ge (pc := 4) (tgt := 35) hx hb dX0_addWords_4 (by decide) (fun c_1 => ?_) (fun c_1 => ?_)
      · skip
        rw [nI_leI (by omega) (by omega)] at c_1
        have hq_2 : (∀ c, c < 4 → s' c = wdF (aAdd σ rk r) c) := by
          intro c hc
          exact qSeg_at hs (by omega)
        exact hret (s') _ _ _ _ dX0_addWords_35 hq_2 (hP.sub [0, 1, 2] rfl) (hD.sub [0, 1, 2] (by decide) rfl) hS
      · skip
        rw [nI_leI (by omega) (by omega)] at c_1
        refine lv_aload_n (pc := 7) hx hb dX0_addWords_7 rfl (lv_at hl 1 rfl) ?_
        refine va_get (pc := 8) (D := D) (ci := 0) (v := .ref b5) (C := RX0) (T := TX0) (N := 7) hx hb hts iu0 hown hK hP 0 rfl rfl 4 (by decide) (hts _ tw_324) (fun _ h9 => h9) rfl dX0_addWords_8 ?_
        refine lv_iload_n (pc := 11) hx hb dX0_addWords_11 rfl (lv_at hl 0 rfl) ?_
        refine lv_dup2_11 (pc := 12) hx hb dX0_addWords_12 rfl rfl ?_
        refine q_iald (pc := 13) hx hb hK hP 2 0 rfl rfl (k := i) (v := s' i) rfl (by omega) (by omega) rfl dX0_addWords_13 ?_
        refine lv_aload_n (pc := 14) hx hb dX0_addWords_14 rfl (lv_at hl 1 rfl) ?_
        refine va_get (pc := 15) (D := D) (ci := 0) (v := .ref b4) (C := RX0) (T := TX0) (N := 7) hx hb hts iu0 hown hK hP 0 rfl rfl 3 (by decide) (hts _ tw_323) (fun _ h9 => h9) rfl dX0_addWords_15 ?_
        refine lv_iconst (pc := 18) (v := nI 4) hx hb dX0_addWords_18 (by decide +kernel) ?_
        refine lv_iload_n (pc := 19) hx hb dX0_addWords_19 rfl (lv_at hl 2 rfl) ?_
        refine lv_imul (pc := 20) hx hb dX0_addWords_20 ?_
        refine q_top (y := nI (4 * r)) (pk_mul 4 r) ?_
        refine lv_iload_n (pc := 21) hx hb dX0_addWords_21 rfl (lv_at hl 0 rfl) ?_
        refine lv_iadd (pc := 22) hx hb dX0_addWords_22 ?_
        refine q_top (y := nI (4 * r + i)) (nI_add (4 * r) i) ?_
        refine lv_bipush (pc := 23) (v := nI 63) hx hb dX0_addWords_23 (by decide +kernel) ?_
        refine lv_iand (pc := 25) hx hb dX0_addWords_25 ?_
        refine q_top (y := nI ((4 * r + i) % 64)) (q_andN (k := 6) (p := 64) (by decide) (by omega)) ?_
        refine q_iald (pc := 26) hx hb hK hP 1 0 rfl rfl (k := (4 * r + i) % 64) (v := kw ((4 * r + i) % 64)) rfl (by omega) (by omega) rfl dX0_addWords_26 ?_
        refine lv_ixor (pc := 27) hx hb dX0_addWords_27 ?_
        refine q_iastI (pc := 28) hx hb hK hP hD hS 2 0 rfl rfl (k := i) rfl (by omega) (by omega)  dX0_addWords_28 (fun H locs hP hD hS => ?_)
        have hP : va_P D vwCl [(ha, oA b1 b2 b3 b4 b5 b6 R), (b4, aI ta 64 kw), (b5, aI ta 4 (qU s' i ((s' i) ^^^ (kw ((4 * r + i) % 64)))))] H := hP
        have hD : va_D A [(ha, oA b1 b2 b3 b4 b5 b6 R), (b4, aI ta 64 kw), (b5, aI ta 4 (qU s' i ((s' i) ^^^ (kw ((4 * r + i) % 64)))))] := hD
        refine lv_iinc (pc := 29) (v := nI (i + 1)) (lv' := [(2, .int (nI (i + 1))), (0, .ref ha), (1, .int (nI r))]) hx hb dX0_addWords_29 hl (k := 0) rfl (by first | exact nI_add i 1 | rfl) (by decide) rfl (fun ls hl => ?_)
        refine lv_goto (pc := 32) (tgt := 2) hx hb dX0_addWords_32 (by decide) ?_
        exact ih2 (i + 1) (qU s' i ((s' i) ^^^ (kw ((4 * r + i) % 64)))) (by omega) (qSeg_s hs (by omega) (by rw [hs.2 _ (by omega), hσ _ (by omega), hkw _ (by omega), show (4 * r + i) % 64 = 4 * r + i by omega]; exact aAdd_wd)) (by omega) _ _ (hP.sub [0, 1, 2] rfl) (hD.sub [0, 1, 2] (by decide) rfl) hS ls (lv_sub hl [0, 1, 2] rfl)
  exact LP2 _ 0 sw (by omega) (qSeg_0) (Nat.lt_succ_self _) _ _ (hP.sub [0, 1, 2] rfl) (hD.sub [0, 1, 2] (by decide) rfl) hS ls (lv_sub hl [0, 1, 2] rfl)
theorem hdX0_boxShifted : yX0_boxShifted.cls ≠ "java/lang/invoke/MethodHandle" ∧ yX0_boxShifted.cls ≠ "java/lang/invoke/VarHandle" ∧ (parseMethodDescriptor yX0_boxShifted.desc).map (fun d => d.parameters.length) = some 2 := ⟨by decide +kernel, by decide +kernel, by decide +kernel⟩
theorem dX0_boxShifted_0 : decode cX0_boxShifted 0 = .ok (.iconst 0, 1) := by decide +kernel
theorem dX0_boxShifted_1 : decode cX0_boxShifted 1 = .ok (.istore_n 3, 1) := by decide +kernel
theorem dX0_boxShifted_2 : decode cX0_boxShifted 2 = .ok (.iload_n 3, 1) := by decide +kernel
theorem dX0_boxShifted_3 : decode cX0_boxShifted 3 = .ok (.iconst 4, 1) := by decide +kernel
theorem dX0_boxShifted_4 : decode cX0_boxShifted 4 = .ok (.if_icmp .ge 98, 3) := by decide +kernel
theorem dX0_boxShifted_7 : decode cX0_boxShifted 7 = .ok (.aload_n 0, 1) := by decide +kernel
theorem dX0_boxShifted_8 : decode cX0_boxShifted 8 = .ok (.getfield 19, 3) := by decide +kernel
theorem dX0_boxShifted_11 : decode cX0_boxShifted 11 = .ok (.iload_n 3, 1) := by decide +kernel
theorem dX0_boxShifted_12 : decode cX0_boxShifted 12 = .ok (.aload_n 1, 1) := by decide +kernel
theorem dX0_boxShifted_13 : decode cX0_boxShifted 13 = .ok (.aload_n 0, 1) := by decide +kernel
theorem dX0_boxShifted_14 : decode cX0_boxShifted 14 = .ok (.getfield 16, 3) := by decide +kernel
theorem dX0_boxShifted_17 : decode cX0_boxShifted 17 = .ok (.iload_n 3, 1) := by decide +kernel
theorem dX0_boxShifted_18 : decode cX0_boxShifted 18 = .ok (.iaload, 1) := by decide +kernel
theorem dX0_boxShifted_19 : decode cX0_boxShifted 19 = .ok (.bipush 24, 2) := by decide +kernel
theorem dX0_boxShifted_21 : decode cX0_boxShifted 21 = .ok (.iushr, 1) := by decide +kernel
theorem dX0_boxShifted_22 : decode cX0_boxShifted 22 = .ok (.sipush 255, 3) := by decide +kernel
theorem dX0_boxShifted_25 : decode cX0_boxShifted 25 = .ok (.iand, 1) := by decide +kernel
theorem dX0_boxShifted_26 : decode cX0_boxShifted 26 = .ok (.iaload, 1) := by decide +kernel
theorem dX0_boxShifted_27 : decode cX0_boxShifted 27 = .ok (.bipush 24, 2) := by decide +kernel
theorem dX0_boxShifted_29 : decode cX0_boxShifted 29 = .ok (.ishl, 1) := by decide +kernel
theorem dX0_boxShifted_30 : decode cX0_boxShifted 30 = .ok (.aload_n 1, 1) := by decide +kernel
theorem dX0_boxShifted_31 : decode cX0_boxShifted 31 = .ok (.aload_n 0, 1) := by decide +kernel
theorem dX0_boxShifted_32 : decode cX0_boxShifted 32 = .ok (.getfield 16, 3) := by decide +kernel
theorem dX0_boxShifted_35 : decode cX0_boxShifted 35 = .ok (.iload_n 3, 1) := by decide +kernel
theorem dX0_boxShifted_36 : decode cX0_boxShifted 36 = .ok (.iload_n 2, 1) := by decide +kernel
theorem dX0_boxShifted_37 : decode cX0_boxShifted 37 = .ok (.iadd, 1) := by decide +kernel
theorem dX0_boxShifted_38 : decode cX0_boxShifted 38 = .ok (.iconst 3, 1) := by decide +kernel
theorem dX0_boxShifted_39 : decode cX0_boxShifted 39 = .ok (.iand, 1) := by decide +kernel
theorem dX0_boxShifted_40 : decode cX0_boxShifted 40 = .ok (.iaload, 1) := by decide +kernel
theorem dX0_boxShifted_41 : decode cX0_boxShifted 41 = .ok (.bipush 16, 2) := by decide +kernel
theorem dX0_boxShifted_43 : decode cX0_boxShifted 43 = .ok (.iushr, 1) := by decide +kernel
theorem dX0_boxShifted_44 : decode cX0_boxShifted 44 = .ok (.sipush 255, 3) := by decide +kernel
theorem dX0_boxShifted_47 : decode cX0_boxShifted 47 = .ok (.iand, 1) := by decide +kernel
theorem dX0_boxShifted_48 : decode cX0_boxShifted 48 = .ok (.iaload, 1) := by decide +kernel
theorem dX0_boxShifted_49 : decode cX0_boxShifted 49 = .ok (.bipush 16, 2) := by decide +kernel
theorem dX0_boxShifted_51 : decode cX0_boxShifted 51 = .ok (.ishl, 1) := by decide +kernel
theorem dX0_boxShifted_52 : decode cX0_boxShifted 52 = .ok (.ior, 1) := by decide +kernel
theorem dX0_boxShifted_53 : decode cX0_boxShifted 53 = .ok (.aload_n 1, 1) := by decide +kernel
theorem dX0_boxShifted_54 : decode cX0_boxShifted 54 = .ok (.aload_n 0, 1) := by decide +kernel
theorem dX0_boxShifted_55 : decode cX0_boxShifted 55 = .ok (.getfield 16, 3) := by decide +kernel
theorem dX0_boxShifted_58 : decode cX0_boxShifted 58 = .ok (.iload_n 3, 1) := by decide +kernel
theorem dX0_boxShifted_59 : decode cX0_boxShifted 59 = .ok (.iconst 2, 1) := by decide +kernel
theorem dX0_boxShifted_60 : decode cX0_boxShifted 60 = .ok (.iadd, 1) := by decide +kernel
theorem dX0_boxShifted_61 : decode cX0_boxShifted 61 = .ok (.iconst 3, 1) := by decide +kernel
theorem dX0_boxShifted_62 : decode cX0_boxShifted 62 = .ok (.iand, 1) := by decide +kernel
theorem dX0_boxShifted_63 : decode cX0_boxShifted 63 = .ok (.iaload, 1) := by decide +kernel
theorem dX0_boxShifted_64 : decode cX0_boxShifted 64 = .ok (.bipush 8, 2) := by decide +kernel
theorem dX0_boxShifted_66 : decode cX0_boxShifted 66 = .ok (.iushr, 1) := by decide +kernel
theorem dX0_boxShifted_67 : decode cX0_boxShifted 67 = .ok (.sipush 255, 3) := by decide +kernel
theorem dX0_boxShifted_70 : decode cX0_boxShifted 70 = .ok (.iand, 1) := by decide +kernel
theorem dX0_boxShifted_71 : decode cX0_boxShifted 71 = .ok (.iaload, 1) := by decide +kernel
theorem dX0_boxShifted_72 : decode cX0_boxShifted 72 = .ok (.bipush 8, 2) := by decide +kernel
theorem dX0_boxShifted_74 : decode cX0_boxShifted 74 = .ok (.ishl, 1) := by decide +kernel
theorem dX0_boxShifted_75 : decode cX0_boxShifted 75 = .ok (.ior, 1) := by decide +kernel
theorem dX0_boxShifted_76 : decode cX0_boxShifted 76 = .ok (.aload_n 1, 1) := by decide +kernel
theorem dX0_boxShifted_77 : decode cX0_boxShifted 77 = .ok (.aload_n 0, 1) := by decide +kernel
theorem dX0_boxShifted_78 : decode cX0_boxShifted 78 = .ok (.getfield 16, 3) := by decide +kernel
theorem dX0_boxShifted_81 : decode cX0_boxShifted 81 = .ok (.iload_n 3, 1) := by decide +kernel
theorem dX0_boxShifted_82 : decode cX0_boxShifted 82 = .ok (.iconst 3, 1) := by decide +kernel
theorem dX0_boxShifted_83 : decode cX0_boxShifted 83 = .ok (.iload_n 2, 1) := by decide +kernel
theorem dX0_boxShifted_84 : decode cX0_boxShifted 84 = .ok (.imul, 1) := by decide +kernel
theorem dX0_boxShifted_85 : decode cX0_boxShifted 85 = .ok (.iadd, 1) := by decide +kernel
theorem dX0_boxShifted_86 : decode cX0_boxShifted 86 = .ok (.iconst 3, 1) := by decide +kernel
theorem dX0_boxShifted_87 : decode cX0_boxShifted 87 = .ok (.iand, 1) := by decide +kernel
theorem dX0_boxShifted_88 : decode cX0_boxShifted 88 = .ok (.iaload, 1) := by decide +kernel
theorem dX0_boxShifted_89 : decode cX0_boxShifted 89 = .ok (.sipush 255, 3) := by decide +kernel
theorem dX0_boxShifted_92 : decode cX0_boxShifted 92 = .ok (.iand, 1) := by decide +kernel
theorem dX0_boxShifted_93 : decode cX0_boxShifted 93 = .ok (.iaload, 1) := by decide +kernel
theorem dX0_boxShifted_94 : decode cX0_boxShifted 94 = .ok (.ior, 1) := by decide +kernel
theorem dX0_boxShifted_95 : decode cX0_boxShifted 95 = .ok (.iastore, 1) := by decide +kernel
theorem dX0_boxShifted_96 : decode cX0_boxShifted 96 = .ok (.iinc 3 1, 3) := by decide +kernel
theorem dX0_boxShifted_99 : decode cX0_boxShifted 99 = .ok (.goto (-97), 3) := by decide +kernel
theorem dX0_boxShifted_102 : decode cX0_boxShifted 102 = .ok (.return_, 1) := by decide +kernel
set_option maxHeartbeats 4000000 in
set_option maxRecDepth 100000 in
theorem ct_X0_boxShifted_f (ll : Launch) (D : va_G) (ta : Nat → ClassId) (gs : Nat → Nat) (ha : Nat) (b1 : Nat) (b2 : Nat) (b3 : Nat) (b4 : Nat) (b5 : Nat) (b6 : Nat) (R : Nat) (sw : Nat → Int32) (xw : Nat → Int32) (σ : Nat → BitVec 8) (hσ : ∀ c, c < 4 → sw c = wdF σ c) (sz : Nat) : CT ll yX0_boxShifted cX0_boxShifted 4 none ({ frames := 0, cells := 0, slots := 0, locals := 0 } : Room) D ta ((GC gs)) [.ref ha, .ref (gs 0), .int (nI 1)] [(ha, oA b1 b2 b3 b4 b5 b6 R), (b5, aI ta 4 sw), (b6, aI ta 4 xw)] sz (S := (Nat → Int32)) (fun _ => none) (fun u => (∀ c, c < 4 → u c = wdF (aSub σ) c)) (fun u => [(ha, oA b1 b2 b3 b4 b5 b6 R), (b5, aI ta 4 sw), (b6, aI ta 4 u)]) 0 0 := by
  refine CT.of_v rfl (by decide) (Nat.le_of_ble_eq_true rfl) ?_
  have hGok := GC_ok gs
  intro pp ee ss mm below meth kc A Q hx hb hml hown hin hts hK hA hsz hG hret H locs hP hD hS ls hl
  have hl : lv_has ls 4 [(0, .ref ha), (1, .ref (gs 0)), (2, .int (nI 1))] := hl
  refine lv_iconst (pc := 0) (v := nI 0) hx hb dX0_boxShifted_0 (by decide +kernel) ?_
  refine lv_istore_n (pc := 1) (lv' := [(3, .int (nI 0)), (0, .ref ha), (1, .ref (gs 0)), (2, .int (nI 1))]) hx hb dX0_boxShifted_1 rfl hl (by decide) rfl (fun ls hl => ?_)
  have LP2 : ∀ (nn2 : Nat) (i : Nat) (x' : Nat → Int32), (i ≤ 4) → (qSeg x' xw 0 i (wdF (aSub σ))) → (4 - i < nn2) → ∀ (H : Heap) (locs : List Loc), va_P D vwCl [(ha, oA b1 b2 b3 b4 b5 b6 R), (b5, aI ta 4 sw), (b6, aI ta 4 x')] H → va_D A [(ha, oA b1 b2 b3 b4 b5 b6 R), (b5, aI ta 4 sw), (b6, aI ta 4 x')] → va_S A ss.heap H locs → ∀ ls : Array Slot, lv_has ls 4 [(3, .int (nI i)), (0, .ref ha), (1, .ref (gs 0)), (2, .int (nI 1))] → W pp ll ee ({ frames := 0, cells := 0, slots := 0, locals := 0 } : Room) ss mm (([.ref ha, .ref (gs 0), .int (nI 1)] : List Value).toArray) below meth kc H locs 0 0 Q (F0 mm 2 ls []) := by
    intro nn2
    induction nn2 with
    | zero => intro i x' hii hs hmu; exact absurd hmu (Nat.not_lt_zero _)
    | succ nn2 ih2 =>
      intro i x' hii hs hmu2 H locs hP hD hS ls hl
      refine lv_iload_n (pc := 2) hx hb dX0_boxShifted_2 rfl (lv_at hl 0 rfl) ?_
      refine lv_iconst (pc := 3) (v := nI 4) hx hb dX0_boxShifted_3 (by decide +kernel) ?_
      refine lv_icmp_ge (pc := 4) (tgt := 102) hx hb dX0_boxShifted_4 (by decide) (fun c_1 => ?_) (fun c_1 => ?_)
      · skip
        rw [nI_leI (by omega) (by omega)] at c_1
        have hq_2 : (∀ c, c < 4 → x' c = wdF (aSub σ) c) := by
          intro c hc
          exact qSeg_at hs (by omega)
        exact hret (x') _ _ _ _ dX0_boxShifted_102 hq_2 (hP.sub [0, 1, 2] rfl) (hD.sub [0, 1, 2] (by decide) rfl) hS
      · skip
        rw [nI_leI (by omega) (by omega)] at c_1
        refine lv_aload_n (pc := 7) hx hb dX0_boxShifted_7 rfl (lv_at hl 1 rfl) ?_
        refine va_get (pc := 8) (D := D) (ci := 0) (v := .ref b6) (C := RX0) (T := TX0) (N := 7) hx hb hts iu0 hown hK hP 0 rfl rfl 5 (by decide) (hts _ tw_325) (fun _ h9 => h9) rfl dX0_boxShifted_8 ?_
        refine lv_iload_n (pc := 11) hx hb dX0_boxShifted_11 rfl (lv_at hl 0 rfl) ?_
        refine lv_aload_n (pc := 12) hx hb dX0_boxShifted_12 rfl (lv_at hl 2 rfl) ?_
        refine lv_aload_n (pc := 13) hx hb dX0_boxShifted_13 rfl (lv_at hl 1 rfl) ?_
        refine va_get (pc := 14) (D := D) (ci := 0) (v := .ref b5) (C := RX0) (T := TX0) (N := 7) hx hb hts iu0 hown hK hP 0 rfl rfl 4 (by decide) (hts _ tw_324) (fun _ h9 => h9) rfl dX0_boxShifted_14 ?_
        refine lv_iload_n (pc := 17) hx hb dX0_boxShifted_17 rfl (lv_at hl 0 rfl) ?_
        refine q_iald (pc := 18) hx hb hK hP 1 0 rfl rfl (k := i) (v := sw i) rfl (by omega) (by omega) rfl dX0_boxShifted_18 ?_
        refine lv_bipush (pc := 19) (v := nI 24) hx hb dX0_boxShifted_19 (by decide +kernel) ?_
        refine lv_iushr (pc := 21) (v := ush (sw i) 24) hx hb dX0_boxShifted_21 rfl ?_
        refine lv_sipush (pc := 22) (v := nI 255) hx hb dX0_boxShifted_22 (by decide +kernel) ?_
        refine lv_iand (pc := 25) hx hb dX0_boxShifted_25 ?_
        refine q_top (y := qz (qlo (ush (sw i) 24))) (q_m255 _) ?_
        refine q_ti (pc := 26) hx hb (GC_t0 hG) hS (k := (qlo (ush (sw i) 24)).toNat) (qz_nat _) (BitVec.isLt _) (by decide) dX0_boxShifted_26 ?_
        refine lv_bipush (pc := 27) (v := nI 24) hx hb dX0_boxShifted_27 (by decide +kernel) ?_
        refine lv_ishl (pc := 29) hx hb dX0_boxShifted_29 ?_
        refine lv_aload_n (pc := 30) hx hb dX0_boxShifted_30 rfl (lv_at hl 2 rfl) ?_
        refine lv_aload_n (pc := 31) hx hb dX0_boxShifted_31 rfl (lv_at hl 1 rfl) ?_
        refine va_get (pc := 32) (D := D) (ci := 0) (v := .ref b5) (C := RX0) (T := TX0) (N := 7) hx hb hts iu0 hown hK hP 0 rfl rfl 4 (by decide) (hts _ tw_324) (fun _ h9 => h9) rfl dX0_boxShifted_32 ?_
        refine lv_iload_n (pc := 35) hx hb dX0_boxShifted_35 rfl (lv_at hl 0 rfl) ?_
        refine lv_iload_n (pc := 36) hx hb dX0_boxShifted_36 rfl (lv_at hl 3 rfl) ?_
        refine lv_iadd (pc := 37) hx hb dX0_boxShifted_37 ?_
        refine q_top (y := nI (i + 1)) (nI_add i 1) ?_
        refine lv_iconst (pc := 38) (v := nI 3) hx hb dX0_boxShifted_38 (by decide +kernel) ?_
        refine lv_iand (pc := 39) hx hb dX0_boxShifted_39 ?_
        refine q_top (y := nI ((i + 1) % 4)) (q_andN (k := 2) (p := 4) (by decide) (by omega)) ?_
        refine q_iald (pc := 40) hx hb hK hP 1 0 rfl rfl (k := (i + 1) % 4) (v := sw ((i + 1) % 4)) rfl (by omega) (by omega) rfl dX0_boxShifted_40 ?_
        refine lv_bipush (pc := 41) (v := nI 16) hx hb dX0_boxShifted_41 (by decide +kernel) ?_
        refine lv_iushr (pc := 43) (v := ush (sw ((i + 1) % 4)) 16) hx hb dX0_boxShifted_43 rfl ?_
        refine lv_sipush (pc := 44) (v := nI 255) hx hb dX0_boxShifted_44 (by decide +kernel) ?_
        refine lv_iand (pc := 47) hx hb dX0_boxShifted_47 ?_
        refine q_top (y := qz (qlo (ush (sw ((i + 1) % 4)) 16))) (q_m255 _) ?_
        refine q_ti (pc := 48) hx hb (GC_t0 hG) hS (k := (qlo (ush (sw ((i + 1) % 4)) 16)).toNat) (qz_nat _) (BitVec.isLt _) (by decide) dX0_boxShifted_48 ?_
        refine lv_bipush (pc := 49) (v := nI 16) hx hb dX0_boxShifted_49 (by decide +kernel) ?_
        refine lv_ishl (pc := 51) hx hb dX0_boxShifted_51 ?_
        refine lv_ior (pc := 52) hx hb dX0_boxShifted_52 ?_
        refine lv_aload_n (pc := 53) hx hb dX0_boxShifted_53 rfl (lv_at hl 2 rfl) ?_
        refine lv_aload_n (pc := 54) hx hb dX0_boxShifted_54 rfl (lv_at hl 1 rfl) ?_
        refine va_get (pc := 55) (D := D) (ci := 0) (v := .ref b5) (C := RX0) (T := TX0) (N := 7) hx hb hts iu0 hown hK hP 0 rfl rfl 4 (by decide) (hts _ tw_324) (fun _ h9 => h9) rfl dX0_boxShifted_55 ?_
        refine lv_iload_n (pc := 58) hx hb dX0_boxShifted_58 rfl (lv_at hl 0 rfl) ?_
        refine lv_iconst (pc := 59) (v := nI 2) hx hb dX0_boxShifted_59 (by decide +kernel) ?_
        refine lv_iadd (pc := 60) hx hb dX0_boxShifted_60 ?_
        refine q_top (y := nI (i + 2)) (nI_add i 2) ?_
        refine lv_iconst (pc := 61) (v := nI 3) hx hb dX0_boxShifted_61 (by decide +kernel) ?_
        refine lv_iand (pc := 62) hx hb dX0_boxShifted_62 ?_
        refine q_top (y := nI ((i + 2) % 4)) (q_andN (k := 2) (p := 4) (by decide) (by omega)) ?_
        refine q_iald (pc := 63) hx hb hK hP 1 0 rfl rfl (k := (i + 2) % 4) (v := sw ((i + 2) % 4)) rfl (by omega) (by omega) rfl dX0_boxShifted_63 ?_
        refine lv_bipush (pc := 64) (v := nI 8) hx hb dX0_boxShifted_64 (by decide +kernel) ?_
        refine lv_iushr (pc := 66) (v := ush (sw ((i + 2) % 4)) 8) hx hb dX0_boxShifted_66 rfl ?_
        refine lv_sipush (pc := 67) (v := nI 255) hx hb dX0_boxShifted_67 (by decide +kernel) ?_
        refine lv_iand (pc := 70) hx hb dX0_boxShifted_70 ?_
        refine q_top (y := qz (qlo (ush (sw ((i + 2) % 4)) 8))) (q_m255 _) ?_
        refine q_ti (pc := 71) hx hb (GC_t0 hG) hS (k := (qlo (ush (sw ((i + 2) % 4)) 8)).toNat) (qz_nat _) (BitVec.isLt _) (by decide) dX0_boxShifted_71 ?_
        refine lv_bipush (pc := 72) (v := nI 8) hx hb dX0_boxShifted_72 (by decide +kernel) ?_
        refine lv_ishl (pc := 74) hx hb dX0_boxShifted_74 ?_
        refine lv_ior (pc := 75) hx hb dX0_boxShifted_75 ?_
        refine lv_aload_n (pc := 76) hx hb dX0_boxShifted_76 rfl (lv_at hl 2 rfl) ?_
        refine lv_aload_n (pc := 77) hx hb dX0_boxShifted_77 rfl (lv_at hl 1 rfl) ?_
        refine va_get (pc := 78) (D := D) (ci := 0) (v := .ref b5) (C := RX0) (T := TX0) (N := 7) hx hb hts iu0 hown hK hP 0 rfl rfl 4 (by decide) (hts _ tw_324) (fun _ h9 => h9) rfl dX0_boxShifted_78 ?_
        refine lv_iload_n (pc := 81) hx hb dX0_boxShifted_81 rfl (lv_at hl 0 rfl) ?_
        refine lv_iconst (pc := 82) (v := nI 3) hx hb dX0_boxShifted_82 (by decide +kernel) ?_
        refine lv_iload_n (pc := 83) hx hb dX0_boxShifted_83 rfl (lv_at hl 3 rfl) ?_
        refine lv_imul (pc := 84) hx hb dX0_boxShifted_84 ?_
        refine q_top (y := nI 3) (by decide +kernel) ?_
        refine lv_iadd (pc := 85) hx hb dX0_boxShifted_85 ?_
        refine q_top (y := nI (i + 3)) (nI_add i 3) ?_
        refine lv_iconst (pc := 86) (v := nI 3) hx hb dX0_boxShifted_86 (by decide +kernel) ?_
        refine lv_iand (pc := 87) hx hb dX0_boxShifted_87 ?_
        refine q_top (y := nI ((i + 3) % 4)) (q_andN (k := 2) (p := 4) (by decide) (by omega)) ?_
        refine q_iald (pc := 88) hx hb hK hP 1 0 rfl rfl (k := (i + 3) % 4) (v := sw ((i + 3) % 4)) rfl (by omega) (by omega) rfl dX0_boxShifted_88 ?_
        refine lv_sipush (pc := 89) (v := nI 255) hx hb dX0_boxShifted_89 (by decide +kernel) ?_
        refine lv_iand (pc := 92) hx hb dX0_boxShifted_92 ?_
        refine q_top (y := qz (qlo (sw ((i + 3) % 4)))) (q_m255 _) ?_
        refine q_ti (pc := 93) hx hb (GC_t0 hG) hS (k := (qlo (sw ((i + 3) % 4))).toNat) (qz_nat _) (BitVec.isLt _) (by decide) dX0_boxShifted_93 ?_
        refine lv_ior (pc := 94) hx hb dX0_boxShifted_94 ?_
        refine q_iastI (pc := 95) hx hb hK hP hD hS 2 0 rfl rfl (k := i) rfl (by omega) (by omega)  dX0_boxShifted_95 (fun H locs hP hD hS => ?_)
        have hP : va_P D vwCl [(ha, oA b1 b2 b3 b4 b5 b6 R), (b5, aI ta 4 sw), (b6, aI ta 4 (qU x' i (((((qz (BOX ((qlo (ush (sw i) 24)).toNat))) <<< ((nI 24) &&& 31)) ||| ((qz (BOX ((qlo (ush (sw ((i + 1) % 4)) 16)).toNat))) <<< ((nI 16) &&& 31))) ||| ((qz (BOX ((qlo (ush (sw ((i + 2) % 4)) 8)).toNat))) <<< ((nI 8) &&& 31))) ||| (qz (BOX ((qlo (sw ((i + 3) % 4))).toNat))))))] H := hP
        have hD : va_D A [(ha, oA b1 b2 b3 b4 b5 b6 R), (b5, aI ta 4 sw), (b6, aI ta 4 (qU x' i (((((qz (BOX ((qlo (ush (sw i) 24)).toNat))) <<< ((nI 24) &&& 31)) ||| ((qz (BOX ((qlo (ush (sw ((i + 1) % 4)) 16)).toNat))) <<< ((nI 16) &&& 31))) ||| ((qz (BOX ((qlo (ush (sw ((i + 2) % 4)) 8)).toNat))) <<< ((nI 8) &&& 31))) ||| (qz (BOX ((qlo (sw ((i + 3) % 4))).toNat))))))] := hD
        refine lv_iinc (pc := 96) (v := nI (i + 1)) (lv' := [(3, .int (nI (i + 1))), (0, .ref ha), (1, .ref (gs 0)), (2, .int (nI 1))]) hx hb dX0_boxShifted_96 hl (k := 0) rfl (by first | exact nI_add i 1 | rfl) (by decide) rfl (fun ls hl => ?_)
        refine lv_goto (pc := 99) (tgt := 2) hx hb dX0_boxShifted_99 (by decide) ?_
        exact ih2 (i + 1) (qU x' i (((((qz (BOX ((qlo (ush (sw i) 24)).toNat))) <<< ((nI 24) &&& 31)) ||| ((qz (BOX ((qlo (ush (sw ((i + 1) % 4)) 16)).toNat))) <<< ((nI 16) &&& 31))) ||| ((qz (BOX ((qlo (ush (sw ((i + 2) % 4)) 8)).toNat))) <<< ((nI 8) &&& 31))) ||| (qz (BOX ((qlo (sw ((i + 3) % 4))).toNat))))) (by omega) (qSeg_s hs (by omega) (by rw [wd_or, hσ _ (by omega), hσ _ (by omega), hσ _ (by omega), hσ _ (by omega)]; exact aSub_wd (by omega))) (by omega) _ _ (hP.sub [0, 1, 2] rfl) (hD.sub [0, 1, 2] (by decide) rfl) hS ls (lv_sub hl [0, 1, 2, 3] rfl)
  exact LP2 _ 0 xw (by omega) (qSeg_0) (Nat.lt_succ_self _) _ _ (hP.sub [0, 1, 2] rfl) (hD.sub [0, 1, 2] (by decide) rfl) hS ls (lv_sub hl [0, 1, 2, 3] rfl)
set_option maxHeartbeats 4000000 in
set_option maxRecDepth 100000 in
theorem ct_X0_boxShifted_b (ll : Launch) (D : va_G) (ta : Nat → ClassId) (gs : Nat → Nat) (ha : Nat) (b1 : Nat) (b2 : Nat) (b3 : Nat) (b4 : Nat) (b5 : Nat) (b6 : Nat) (R : Nat) (sw : Nat → Int32) (xw : Nat → Int32) (σ : Nat → BitVec 8) (hσ : ∀ c, c < 4 → sw c = wdF σ c) (sz : Nat) : CT ll yX0_boxShifted cX0_boxShifted 4 none ({ frames := 0, cells := 0, slots := 0, locals := 0 } : Room) D ta ((GC gs)) [.ref ha, .ref b3, .int (nI 3)] [(ha, oA b1 b2 b3 b4 b5 b6 R), (b3, aZ ta 256 UBOX), (b5, aI ta 4 sw), (b6, aI ta 4 xw)] sz (S := (Nat → Int32)) (fun _ => none) (fun u => (∀ c, c < 4 → u c = wdF (aUns σ) c)) (fun u => [(ha, oA b1 b2 b3 b4 b5 b6 R), (b3, aZ ta 256 UBOX), (b5, aI ta 4 sw), (b6, aI ta 4 u)]) 0 0 := by
  refine CT.of_v rfl (by decide) (Nat.le_of_ble_eq_true rfl) ?_
  have hGok := GC_ok gs
  intro pp ee ss mm below meth kc A Q hx hb hml hown hin hts hK hA hsz hG hret H locs hP hD hS ls hl
  have hl : lv_has ls 4 [(0, .ref ha), (1, .ref b3), (2, .int (nI 3))] := hl
  refine lv_iconst (pc := 0) (v := nI 0) hx hb dX0_boxShifted_0 (by decide +kernel) ?_
  refine lv_istore_n (pc := 1) (lv' := [(3, .int (nI 0)), (0, .ref ha), (1, .ref b3), (2, .int (nI 3))]) hx hb dX0_boxShifted_1 rfl hl (by decide) rfl (fun ls hl => ?_)
  have LP2 : ∀ (nn2 : Nat) (i : Nat) (x' : Nat → Int32), (i ≤ 4) → (qSeg x' xw 0 i (wdF (aUns σ))) → (4 - i < nn2) → ∀ (H : Heap) (locs : List Loc), va_P D vwCl [(ha, oA b1 b2 b3 b4 b5 b6 R), (b3, aZ ta 256 UBOX), (b5, aI ta 4 sw), (b6, aI ta 4 x')] H → va_D A [(ha, oA b1 b2 b3 b4 b5 b6 R), (b3, aZ ta 256 UBOX), (b5, aI ta 4 sw), (b6, aI ta 4 x')] → va_S A ss.heap H locs → ∀ ls : Array Slot, lv_has ls 4 [(3, .int (nI i)), (0, .ref ha), (1, .ref b3), (2, .int (nI 3))] → W pp ll ee ({ frames := 0, cells := 0, slots := 0, locals := 0 } : Room) ss mm (([.ref ha, .ref b3, .int (nI 3)] : List Value).toArray) below meth kc H locs 0 0 Q (F0 mm 2 ls []) := by
    intro nn2
    induction nn2 with
    | zero => intro i x' hii hs hmu; exact absurd hmu (Nat.not_lt_zero _)
    | succ nn2 ih2 =>
      intro i x' hii hs hmu2 H locs hP hD hS ls hl
      refine lv_iload_n (pc := 2) hx hb dX0_boxShifted_2 rfl (lv_at hl 0 rfl) ?_
      refine lv_iconst (pc := 3) (v := nI 4) hx hb dX0_boxShifted_3 (by decide +kernel) ?_
      refine lv_icmp_ge (pc := 4) (tgt := 102) hx hb dX0_boxShifted_4 (by decide) (fun c_1 => ?_) (fun c_1 => ?_)
      · skip
        rw [nI_leI (by omega) (by omega)] at c_1
        have hq_2 : (∀ c, c < 4 → x' c = wdF (aUns σ) c) := by
          intro c hc
          exact qSeg_at hs (by omega)
        exact hret (x') _ _ _ _ dX0_boxShifted_102 hq_2 (hP.sub [0, 1, 2, 3] rfl) (hD.sub [0, 1, 2, 3] (by decide) rfl) hS
      · skip
        rw [nI_leI (by omega) (by omega)] at c_1
        refine lv_aload_n (pc := 7) hx hb dX0_boxShifted_7 rfl (lv_at hl 1 rfl) ?_
        refine va_get (pc := 8) (D := D) (ci := 0) (v := .ref b6) (C := RX0) (T := TX0) (N := 7) hx hb hts iu0 hown hK hP 0 rfl rfl 5 (by decide) (hts _ tw_325) (fun _ h9 => h9) rfl dX0_boxShifted_8 ?_
        refine lv_iload_n (pc := 11) hx hb dX0_boxShifted_11 rfl (lv_at hl 0 rfl) ?_
        refine lv_aload_n (pc := 12) hx hb dX0_boxShifted_12 rfl (lv_at hl 2 rfl) ?_
        refine lv_aload_n (pc := 13) hx hb dX0_boxShifted_13 rfl (lv_at hl 1 rfl) ?_
        refine va_get (pc := 14) (D := D) (ci := 0) (v := .ref b5) (C := RX0) (T := TX0) (N := 7) hx hb hts iu0 hown hK hP 0 rfl rfl 4 (by decide) (hts _ tw_324) (fun _ h9 => h9) rfl dX0_boxShifted_14 ?_
        refine lv_iload_n (pc := 17) hx hb dX0_boxShifted_17 rfl (lv_at hl 0 rfl) ?_
        refine q_iald (pc := 18) hx hb hK hP 2 0 rfl rfl (k := i) (v := sw i) rfl (by omega) (by omega) rfl dX0_boxShifted_18 ?_
        refine lv_bipush (pc := 19) (v := nI 24) hx hb dX0_boxShifted_19 (by decide +kernel) ?_
        refine lv_iushr (pc := 21) (v := ush (sw i) 24) hx hb dX0_boxShifted_21 rfl ?_
        refine lv_sipush (pc := 22) (v := nI 255) hx hb dX0_boxShifted_22 (by decide +kernel) ?_
        refine lv_iand (pc := 25) hx hb dX0_boxShifted_25 ?_
        refine q_top (y := qz (qlo (ush (sw i) 24))) (q_m255 _) ?_
        refine q_iald (pc := 26) hx hb hK hP 1 0 rfl rfl (k := (qlo (ush (sw i) 24)).toNat) (v := qz (UBOX ((qlo (ush (sw i) 24)).toNat))) (qz_nat _) (BitVec.isLt _) (by omega) rfl dX0_boxShifted_26 ?_
        refine lv_bipush (pc := 27) (v := nI 24) hx hb dX0_boxShifted_27 (by decide +kernel) ?_
        refine lv_ishl (pc := 29) hx hb dX0_boxShifted_29 ?_
        refine lv_aload_n (pc := 30) hx hb dX0_boxShifted_30 rfl (lv_at hl 2 rfl) ?_
        refine lv_aload_n (pc := 31) hx hb dX0_boxShifted_31 rfl (lv_at hl 1 rfl) ?_
        refine va_get (pc := 32) (D := D) (ci := 0) (v := .ref b5) (C := RX0) (T := TX0) (N := 7) hx hb hts iu0 hown hK hP 0 rfl rfl 4 (by decide) (hts _ tw_324) (fun _ h9 => h9) rfl dX0_boxShifted_32 ?_
        refine lv_iload_n (pc := 35) hx hb dX0_boxShifted_35 rfl (lv_at hl 0 rfl) ?_
        refine lv_iload_n (pc := 36) hx hb dX0_boxShifted_36 rfl (lv_at hl 3 rfl) ?_
        refine lv_iadd (pc := 37) hx hb dX0_boxShifted_37 ?_
        refine q_top (y := nI (i + 3)) (nI_add i 3) ?_
        refine lv_iconst (pc := 38) (v := nI 3) hx hb dX0_boxShifted_38 (by decide +kernel) ?_
        refine lv_iand (pc := 39) hx hb dX0_boxShifted_39 ?_
        refine q_top (y := nI ((i + 3) % 4)) (q_andN (k := 2) (p := 4) (by decide) (by omega)) ?_
        refine q_iald (pc := 40) hx hb hK hP 2 0 rfl rfl (k := (i + 3) % 4) (v := sw ((i + 3) % 4)) rfl (by omega) (by omega) rfl dX0_boxShifted_40 ?_
        refine lv_bipush (pc := 41) (v := nI 16) hx hb dX0_boxShifted_41 (by decide +kernel) ?_
        refine lv_iushr (pc := 43) (v := ush (sw ((i + 3) % 4)) 16) hx hb dX0_boxShifted_43 rfl ?_
        refine lv_sipush (pc := 44) (v := nI 255) hx hb dX0_boxShifted_44 (by decide +kernel) ?_
        refine lv_iand (pc := 47) hx hb dX0_boxShifted_47 ?_
        refine q_top (y := qz (qlo (ush (sw ((i + 3) % 4)) 16))) (q_m255 _) ?_
        refine q_iald (pc := 48) hx hb hK hP 1 0 rfl rfl (k := (qlo (ush (sw ((i + 3) % 4)) 16)).toNat) (v := qz (UBOX ((qlo (ush (sw ((i + 3) % 4)) 16)).toNat))) (qz_nat _) (BitVec.isLt _) (by omega) rfl dX0_boxShifted_48 ?_
        refine lv_bipush (pc := 49) (v := nI 16) hx hb dX0_boxShifted_49 (by decide +kernel) ?_
        refine lv_ishl (pc := 51) hx hb dX0_boxShifted_51 ?_
        refine lv_ior (pc := 52) hx hb dX0_boxShifted_52 ?_
        refine lv_aload_n (pc := 53) hx hb dX0_boxShifted_53 rfl (lv_at hl 2 rfl) ?_
        refine lv_aload_n (pc := 54) hx hb dX0_boxShifted_54 rfl (lv_at hl 1 rfl) ?_
        refine va_get (pc := 55) (D := D) (ci := 0) (v := .ref b5) (C := RX0) (T := TX0) (N := 7) hx hb hts iu0 hown hK hP 0 rfl rfl 4 (by decide) (hts _ tw_324) (fun _ h9 => h9) rfl dX0_boxShifted_55 ?_
        refine lv_iload_n (pc := 58) hx hb dX0_boxShifted_58 rfl (lv_at hl 0 rfl) ?_
        refine lv_iconst (pc := 59) (v := nI 2) hx hb dX0_boxShifted_59 (by decide +kernel) ?_
        refine lv_iadd (pc := 60) hx hb dX0_boxShifted_60 ?_
        refine q_top (y := nI (i + 2)) (nI_add i 2) ?_
        refine lv_iconst (pc := 61) (v := nI 3) hx hb dX0_boxShifted_61 (by decide +kernel) ?_
        refine lv_iand (pc := 62) hx hb dX0_boxShifted_62 ?_
        refine q_top (y := nI ((i + 2) % 4)) (q_andN (k := 2) (p := 4) (by decide) (by omega)) ?_
        refine q_iald (pc := 63) hx hb hK hP 2 0 rfl rfl (k := (i + 2) % 4) (v := sw ((i + 2) % 4)) rfl (by omega) (by omega) rfl dX0_boxShifted_63 ?_
        refine lv_bipush (pc := 64) (v := nI 8) hx hb dX0_boxShifted_64 (by decide +kernel) ?_
        refine lv_iushr (pc := 66) (v := ush (sw ((i + 2) % 4)) 8) hx hb dX0_boxShifted_66 rfl ?_
        refine lv_sipush (pc := 67) (v := nI 255) hx hb dX0_boxShifted_67 (by decide +kernel) ?_
        refine lv_iand (pc := 70) hx hb dX0_boxShifted_70 ?_
        refine q_top (y := qz (qlo (ush (sw ((i + 2) % 4)) 8))) (q_m255 _) ?_
        refine q_iald (pc := 71) hx hb hK hP 1 0 rfl rfl (k := (qlo (ush (sw ((i + 2) % 4)) 8)).toNat) (v := qz (UBOX ((qlo (ush (sw ((i + 2) % 4)) 8)).toNat))) (qz_nat _) (BitVec.isLt _) (by omega) rfl dX0_boxShifted_71 ?_
        refine lv_bipush (pc := 72) (v := nI 8) hx hb dX0_boxShifted_72 (by decide +kernel) ?_
        refine lv_ishl (pc := 74) hx hb dX0_boxShifted_74 ?_
        refine lv_ior (pc := 75) hx hb dX0_boxShifted_75 ?_
        refine lv_aload_n (pc := 76) hx hb dX0_boxShifted_76 rfl (lv_at hl 2 rfl) ?_
        refine lv_aload_n (pc := 77) hx hb dX0_boxShifted_77 rfl (lv_at hl 1 rfl) ?_
        refine va_get (pc := 78) (D := D) (ci := 0) (v := .ref b5) (C := RX0) (T := TX0) (N := 7) hx hb hts iu0 hown hK hP 0 rfl rfl 4 (by decide) (hts _ tw_324) (fun _ h9 => h9) rfl dX0_boxShifted_78 ?_
        refine lv_iload_n (pc := 81) hx hb dX0_boxShifted_81 rfl (lv_at hl 0 rfl) ?_
        refine lv_iconst (pc := 82) (v := nI 3) hx hb dX0_boxShifted_82 (by decide +kernel) ?_
        refine lv_iload_n (pc := 83) hx hb dX0_boxShifted_83 rfl (lv_at hl 3 rfl) ?_
        refine lv_imul (pc := 84) hx hb dX0_boxShifted_84 ?_
        refine q_top (y := nI 9) (by decide +kernel) ?_
        refine lv_iadd (pc := 85) hx hb dX0_boxShifted_85 ?_
        refine q_top (y := nI (i + 9)) (nI_add i 9) ?_
        refine lv_iconst (pc := 86) (v := nI 3) hx hb dX0_boxShifted_86 (by decide +kernel) ?_
        refine lv_iand (pc := 87) hx hb dX0_boxShifted_87 ?_
        refine q_top (y := nI ((i + 9) % 4)) (q_andN (k := 2) (p := 4) (by decide) (by omega)) ?_
        refine q_iald (pc := 88) hx hb hK hP 2 0 rfl rfl (k := (i + 9) % 4) (v := sw ((i + 9) % 4)) rfl (by omega) (by omega) rfl dX0_boxShifted_88 ?_
        refine lv_sipush (pc := 89) (v := nI 255) hx hb dX0_boxShifted_89 (by decide +kernel) ?_
        refine lv_iand (pc := 92) hx hb dX0_boxShifted_92 ?_
        refine q_top (y := qz (qlo (sw ((i + 9) % 4)))) (q_m255 _) ?_
        refine q_iald (pc := 93) hx hb hK hP 1 0 rfl rfl (k := (qlo (sw ((i + 9) % 4))).toNat) (v := qz (UBOX ((qlo (sw ((i + 9) % 4))).toNat))) (qz_nat _) (BitVec.isLt _) (by omega) rfl dX0_boxShifted_93 ?_
        refine lv_ior (pc := 94) hx hb dX0_boxShifted_94 ?_
        refine q_iastI (pc := 95) hx hb hK hP hD hS 3 0 rfl rfl (k := i) rfl (by omega) (by omega)  dX0_boxShifted_95 (fun H locs hP hD hS => ?_)
        have hP : va_P D vwCl [(ha, oA b1 b2 b3 b4 b5 b6 R), (b3, aZ ta 256 UBOX), (b5, aI ta 4 sw), (b6, aI ta 4 (qU x' i (((((qz (UBOX ((qlo (ush (sw i) 24)).toNat))) <<< ((nI 24) &&& 31)) ||| ((qz (UBOX ((qlo (ush (sw ((i + 3) % 4)) 16)).toNat))) <<< ((nI 16) &&& 31))) ||| ((qz (UBOX ((qlo (ush (sw ((i + 2) % 4)) 8)).toNat))) <<< ((nI 8) &&& 31))) ||| (qz (UBOX ((qlo (sw ((i + 9) % 4))).toNat))))))] H := hP
        have hD : va_D A [(ha, oA b1 b2 b3 b4 b5 b6 R), (b3, aZ ta 256 UBOX), (b5, aI ta 4 sw), (b6, aI ta 4 (qU x' i (((((qz (UBOX ((qlo (ush (sw i) 24)).toNat))) <<< ((nI 24) &&& 31)) ||| ((qz (UBOX ((qlo (ush (sw ((i + 3) % 4)) 16)).toNat))) <<< ((nI 16) &&& 31))) ||| ((qz (UBOX ((qlo (ush (sw ((i + 2) % 4)) 8)).toNat))) <<< ((nI 8) &&& 31))) ||| (qz (UBOX ((qlo (sw ((i + 9) % 4))).toNat))))))] := hD
        refine lv_iinc (pc := 96) (v := nI (i + 1)) (lv' := [(3, .int (nI (i + 1))), (0, .ref ha), (1, .ref b3), (2, .int (nI 3))]) hx hb dX0_boxShifted_96 hl (k := 0) rfl (by first | exact nI_add i 1 | rfl) (by decide) rfl (fun ls hl => ?_)
        refine lv_goto (pc := 99) (tgt := 2) hx hb dX0_boxShifted_99 (by decide) ?_
        exact ih2 (i + 1) (qU x' i (((((qz (UBOX ((qlo (ush (sw i) 24)).toNat))) <<< ((nI 24) &&& 31)) ||| ((qz (UBOX ((qlo (ush (sw ((i + 3) % 4)) 16)).toNat))) <<< ((nI 16) &&& 31))) ||| ((qz (UBOX ((qlo (ush (sw ((i + 2) % 4)) 8)).toNat))) <<< ((nI 8) &&& 31))) ||| (qz (UBOX ((qlo (sw ((i + 9) % 4))).toNat))))) (by omega) (qSeg_s hs (by omega) (by rw [wd_or, hσ _ (by omega), hσ _ (by omega), hσ _ (by omega), hσ _ (by omega)]; exact aUns_wd (by omega))) (by omega) _ _ (hP.sub [0, 1, 2, 3] rfl) (hD.sub [0, 1, 2, 3] (by decide) rfl) hS ls (lv_sub hl [0, 1, 2, 3] rfl)
  exact LP2 _ 0 xw (by omega) (qSeg_0) (Nat.lt_succ_self _) _ _ (hP.sub [0, 1, 2, 3] rfl) (hD.sub [0, 1, 2, 3] (by decide) rfl) hS ls (lv_sub hl [0, 1, 2, 3] rfl)
theorem hdX0_boxWord : yX0_boxWord.cls ≠ "java/lang/invoke/MethodHandle" ∧ yX0_boxWord.cls ≠ "java/lang/invoke/VarHandle" ∧ (parseMethodDescriptor yX0_boxWord.desc).map (fun d => d.parameters.length) = some 1 := ⟨by decide +kernel, by decide +kernel, by decide +kernel⟩
theorem dX0_boxWord_0 : decode cX0_boxWord 0 = .ok (.getstatic 26, 3) := by decide +kernel
theorem dX0_boxWord_3 : decode cX0_boxWord 3 = .ok (.iload_n 0, 1) := by decide +kernel
theorem dX0_boxWord_4 : decode cX0_boxWord 4 = .ok (.bipush 24, 2) := by decide +kernel
theorem dX0_boxWord_6 : decode cX0_boxWord 6 = .ok (.iushr, 1) := by decide +kernel
theorem dX0_boxWord_7 : decode cX0_boxWord 7 = .ok (.sipush 255, 3) := by decide +kernel
theorem dX0_boxWord_10 : decode cX0_boxWord 10 = .ok (.iand, 1) := by decide +kernel
theorem dX0_boxWord_11 : decode cX0_boxWord 11 = .ok (.iaload, 1) := by decide +kernel
theorem dX0_boxWord_12 : decode cX0_boxWord 12 = .ok (.bipush 24, 2) := by decide +kernel
theorem dX0_boxWord_14 : decode cX0_boxWord 14 = .ok (.ishl, 1) := by decide +kernel
theorem dX0_boxWord_15 : decode cX0_boxWord 15 = .ok (.getstatic 26, 3) := by decide +kernel
theorem dX0_boxWord_18 : decode cX0_boxWord 18 = .ok (.iload_n 0, 1) := by decide +kernel
theorem dX0_boxWord_19 : decode cX0_boxWord 19 = .ok (.bipush 16, 2) := by decide +kernel
theorem dX0_boxWord_21 : decode cX0_boxWord 21 = .ok (.iushr, 1) := by decide +kernel
theorem dX0_boxWord_22 : decode cX0_boxWord 22 = .ok (.sipush 255, 3) := by decide +kernel
theorem dX0_boxWord_25 : decode cX0_boxWord 25 = .ok (.iand, 1) := by decide +kernel
theorem dX0_boxWord_26 : decode cX0_boxWord 26 = .ok (.iaload, 1) := by decide +kernel
theorem dX0_boxWord_27 : decode cX0_boxWord 27 = .ok (.bipush 16, 2) := by decide +kernel
theorem dX0_boxWord_29 : decode cX0_boxWord 29 = .ok (.ishl, 1) := by decide +kernel
theorem dX0_boxWord_30 : decode cX0_boxWord 30 = .ok (.ior, 1) := by decide +kernel
theorem dX0_boxWord_31 : decode cX0_boxWord 31 = .ok (.getstatic 26, 3) := by decide +kernel
theorem dX0_boxWord_34 : decode cX0_boxWord 34 = .ok (.iload_n 0, 1) := by decide +kernel
theorem dX0_boxWord_35 : decode cX0_boxWord 35 = .ok (.bipush 8, 2) := by decide +kernel
theorem dX0_boxWord_37 : decode cX0_boxWord 37 = .ok (.iushr, 1) := by decide +kernel
theorem dX0_boxWord_38 : decode cX0_boxWord 38 = .ok (.sipush 255, 3) := by decide +kernel
theorem dX0_boxWord_41 : decode cX0_boxWord 41 = .ok (.iand, 1) := by decide +kernel
theorem dX0_boxWord_42 : decode cX0_boxWord 42 = .ok (.iaload, 1) := by decide +kernel
theorem dX0_boxWord_43 : decode cX0_boxWord 43 = .ok (.bipush 8, 2) := by decide +kernel
theorem dX0_boxWord_45 : decode cX0_boxWord 45 = .ok (.ishl, 1) := by decide +kernel
theorem dX0_boxWord_46 : decode cX0_boxWord 46 = .ok (.ior, 1) := by decide +kernel
theorem dX0_boxWord_47 : decode cX0_boxWord 47 = .ok (.getstatic 26, 3) := by decide +kernel
theorem dX0_boxWord_50 : decode cX0_boxWord 50 = .ok (.iload_n 0, 1) := by decide +kernel
theorem dX0_boxWord_51 : decode cX0_boxWord 51 = .ok (.sipush 255, 3) := by decide +kernel
theorem dX0_boxWord_54 : decode cX0_boxWord 54 = .ok (.iand, 1) := by decide +kernel
theorem dX0_boxWord_55 : decode cX0_boxWord 55 = .ok (.iaload, 1) := by decide +kernel
theorem dX0_boxWord_56 : decode cX0_boxWord 56 = .ok (.ior, 1) := by decide +kernel
theorem dX0_boxWord_57 : decode cX0_boxWord 57 = .ok (.ireturn, 1) := by decide +kernel
set_option maxHeartbeats 4000000 in
set_option maxRecDepth 100000 in
theorem ct_X0_boxWord (ll : Launch) (D : va_G) (ta : Nat → ClassId) (gs : Nat → Nat) (x : Int32)  (sz : Nat) : CT ll yX0_boxWord cX0_boxWord 1 (some .int) ({ frames := 0, cells := 0, slots := 0, locals := 0 } : Room) D ta ((GC gs)) [.int x] [] sz (S := Unit) (fun u => some (.int (cBox x))) (fun u => True) (fun u => []) 0 0 := by
  refine CT.of_i (r := fun u => cBox x) rfl (by decide) (Nat.le_of_ble_eq_true rfl) ?_
  have hGok := GC_ok gs
  intro pp ee ss mm below meth kc A Q hx hb hml hown hin hts hK hA hsz hG hret H locs hP hD hS ls hl
  have hl : lv_has ls 1 [(0, .int x)] := hl
  refine va_gets (pc := 0) hx hb (v := .ref (gs 0)) (GC_z0 hG) hS hown (hts _ tw_320) (fun _ h9 => h9) dX0_boxWord_0 ?_
  refine lv_iload_n (pc := 3) hx hb dX0_boxWord_3 rfl (lv_at hl 0 rfl) ?_
  refine lv_bipush (pc := 4) (v := nI 24) hx hb dX0_boxWord_4 (by decide +kernel) ?_
  refine lv_iushr (pc := 6) (v := ush x 24) hx hb dX0_boxWord_6 rfl ?_
  refine lv_sipush (pc := 7) (v := nI 255) hx hb dX0_boxWord_7 (by decide +kernel) ?_
  refine lv_iand (pc := 10) hx hb dX0_boxWord_10 ?_
  refine q_top (y := qz (qlo (ush x 24))) (q_m255 _) ?_
  refine q_ti (pc := 11) hx hb (GC_t0 hG) hS (k := (qlo (ush x 24)).toNat) (qz_nat _) (BitVec.isLt _) (by decide) dX0_boxWord_11 ?_
  refine lv_bipush (pc := 12) (v := nI 24) hx hb dX0_boxWord_12 (by decide +kernel) ?_
  refine lv_ishl (pc := 14) hx hb dX0_boxWord_14 ?_
  refine va_gets (pc := 15) hx hb (v := .ref (gs 0)) (GC_z0 hG) hS hown (hts _ tw_320) (fun _ h9 => h9) dX0_boxWord_15 ?_
  refine lv_iload_n (pc := 18) hx hb dX0_boxWord_18 rfl (lv_at hl 0 rfl) ?_
  refine lv_bipush (pc := 19) (v := nI 16) hx hb dX0_boxWord_19 (by decide +kernel) ?_
  refine lv_iushr (pc := 21) (v := ush x 16) hx hb dX0_boxWord_21 rfl ?_
  refine lv_sipush (pc := 22) (v := nI 255) hx hb dX0_boxWord_22 (by decide +kernel) ?_
  refine lv_iand (pc := 25) hx hb dX0_boxWord_25 ?_
  refine q_top (y := qz (qlo (ush x 16))) (q_m255 _) ?_
  refine q_ti (pc := 26) hx hb (GC_t0 hG) hS (k := (qlo (ush x 16)).toNat) (qz_nat _) (BitVec.isLt _) (by decide) dX0_boxWord_26 ?_
  refine lv_bipush (pc := 27) (v := nI 16) hx hb dX0_boxWord_27 (by decide +kernel) ?_
  refine lv_ishl (pc := 29) hx hb dX0_boxWord_29 ?_
  refine lv_ior (pc := 30) hx hb dX0_boxWord_30 ?_
  refine va_gets (pc := 31) hx hb (v := .ref (gs 0)) (GC_z0 hG) hS hown (hts _ tw_320) (fun _ h9 => h9) dX0_boxWord_31 ?_
  refine lv_iload_n (pc := 34) hx hb dX0_boxWord_34 rfl (lv_at hl 0 rfl) ?_
  refine lv_bipush (pc := 35) (v := nI 8) hx hb dX0_boxWord_35 (by decide +kernel) ?_
  refine lv_iushr (pc := 37) (v := ush x 8) hx hb dX0_boxWord_37 rfl ?_
  refine lv_sipush (pc := 38) (v := nI 255) hx hb dX0_boxWord_38 (by decide +kernel) ?_
  refine lv_iand (pc := 41) hx hb dX0_boxWord_41 ?_
  refine q_top (y := qz (qlo (ush x 8))) (q_m255 _) ?_
  refine q_ti (pc := 42) hx hb (GC_t0 hG) hS (k := (qlo (ush x 8)).toNat) (qz_nat _) (BitVec.isLt _) (by decide) dX0_boxWord_42 ?_
  refine lv_bipush (pc := 43) (v := nI 8) hx hb dX0_boxWord_43 (by decide +kernel) ?_
  refine lv_ishl (pc := 45) hx hb dX0_boxWord_45 ?_
  refine lv_ior (pc := 46) hx hb dX0_boxWord_46 ?_
  refine va_gets (pc := 47) hx hb (v := .ref (gs 0)) (GC_z0 hG) hS hown (hts _ tw_320) (fun _ h9 => h9) dX0_boxWord_47 ?_
  refine lv_iload_n (pc := 50) hx hb dX0_boxWord_50 rfl (lv_at hl 0 rfl) ?_
  refine lv_sipush (pc := 51) (v := nI 255) hx hb dX0_boxWord_51 (by decide +kernel) ?_
  refine lv_iand (pc := 54) hx hb dX0_boxWord_54 ?_
  refine q_top (y := qz (qlo x)) (q_m255 _) ?_
  refine q_ti (pc := 55) hx hb (GC_t0 hG) hS (k := (qlo x).toNat) (qz_nat _) (BitVec.isLt _) (by decide) dX0_boxWord_55 ?_
  refine lv_ior (pc := 56) hx hb dX0_boxWord_56 ?_
  refine q_top (y := cBox x) wd_or ?_
  have hq_1 : True := trivial
  exact hret () _ _ _ _ dX0_boxWord_57 hq_1 (hP.sub [] rfl) (hD.sub [] (by decide) rfl) hS
theorem hdX0_mix : yX0_mix.cls ≠ "java/lang/invoke/MethodHandle" ∧ yX0_mix.cls ≠ "java/lang/invoke/VarHandle" ∧ (parseMethodDescriptor yX0_mix.desc).map (fun d => d.parameters.length) = some 1 := ⟨by decide +kernel, by decide +kernel, by decide +kernel⟩
theorem dX0_mix_0 : decode cX0_mix 0 = .ok (.iload_n 0, 1) := by decide +kernel
theorem dX0_mix_1 : decode cX0_mix 1 = .ok (.ldc 65, 2) := by decide +kernel
theorem dX0_mix_3 : decode cX0_mix 3 = .ok (.iand, 1) := by decide +kernel
theorem dX0_mix_4 : decode cX0_mix 4 = .ok (.iconst 1, 1) := by decide +kernel
theorem dX0_mix_5 : decode cX0_mix 5 = .ok (.ishl, 1) := by decide +kernel
theorem dX0_mix_6 : decode cX0_mix 6 = .ok (.iload_n 0, 1) := by decide +kernel
theorem dX0_mix_7 : decode cX0_mix 7 = .ok (.bipush 7, 2) := by decide +kernel
theorem dX0_mix_9 : decode cX0_mix 9 = .ok (.iushr, 1) := by decide +kernel
theorem dX0_mix_10 : decode cX0_mix 10 = .ok (.ldc 66, 2) := by decide +kernel
theorem dX0_mix_12 : decode cX0_mix 12 = .ok (.iand, 1) := by decide +kernel
theorem dX0_mix_13 : decode cX0_mix 13 = .ok (.bipush 27, 2) := by decide +kernel
theorem dX0_mix_15 : decode cX0_mix 15 = .ok (.imul, 1) := by decide +kernel
theorem dX0_mix_16 : decode cX0_mix 16 = .ok (.ixor, 1) := by decide +kernel
theorem dX0_mix_17 : decode cX0_mix 17 = .ok (.istore_n 1, 1) := by decide +kernel
theorem dX0_mix_18 : decode cX0_mix 18 = .ok (.iload_n 1, 1) := by decide +kernel
theorem dX0_mix_19 : decode cX0_mix 19 = .ok (.iload_n 0, 1) := by decide +kernel
theorem dX0_mix_20 : decode cX0_mix 20 = .ok (.ixor, 1) := by decide +kernel
theorem dX0_mix_21 : decode cX0_mix 21 = .ok (.istore_n 2, 1) := by decide +kernel
theorem dX0_mix_22 : decode cX0_mix 22 = .ok (.iload_n 1, 1) := by decide +kernel
theorem dX0_mix_23 : decode cX0_mix 23 = .ok (.iload_n 2, 1) := by decide +kernel
theorem dX0_mix_24 : decode cX0_mix 24 = .ok (.bipush 8, 2) := by decide +kernel
theorem dX0_mix_26 : decode cX0_mix 26 = .ok (.ishl, 1) := by decide +kernel
theorem dX0_mix_27 : decode cX0_mix 27 = .ok (.iload_n 2, 1) := by decide +kernel
theorem dX0_mix_28 : decode cX0_mix 28 = .ok (.bipush 24, 2) := by decide +kernel
theorem dX0_mix_30 : decode cX0_mix 30 = .ok (.iushr, 1) := by decide +kernel
theorem dX0_mix_31 : decode cX0_mix 31 = .ok (.ior, 1) := by decide +kernel
theorem dX0_mix_32 : decode cX0_mix 32 = .ok (.ixor, 1) := by decide +kernel
theorem dX0_mix_33 : decode cX0_mix 33 = .ok (.iload_n 0, 1) := by decide +kernel
theorem dX0_mix_34 : decode cX0_mix 34 = .ok (.bipush 16, 2) := by decide +kernel
theorem dX0_mix_36 : decode cX0_mix 36 = .ok (.ishl, 1) := by decide +kernel
theorem dX0_mix_37 : decode cX0_mix 37 = .ok (.iload_n 0, 1) := by decide +kernel
theorem dX0_mix_38 : decode cX0_mix 38 = .ok (.bipush 16, 2) := by decide +kernel
theorem dX0_mix_40 : decode cX0_mix 40 = .ok (.iushr, 1) := by decide +kernel
theorem dX0_mix_41 : decode cX0_mix 41 = .ok (.ior, 1) := by decide +kernel
theorem dX0_mix_42 : decode cX0_mix 42 = .ok (.ixor, 1) := by decide +kernel
theorem dX0_mix_43 : decode cX0_mix 43 = .ok (.iload_n 0, 1) := by decide +kernel
theorem dX0_mix_44 : decode cX0_mix 44 = .ok (.bipush 24, 2) := by decide +kernel
theorem dX0_mix_46 : decode cX0_mix 46 = .ok (.ishl, 1) := by decide +kernel
theorem dX0_mix_47 : decode cX0_mix 47 = .ok (.iload_n 0, 1) := by decide +kernel
theorem dX0_mix_48 : decode cX0_mix 48 = .ok (.bipush 8, 2) := by decide +kernel
theorem dX0_mix_50 : decode cX0_mix 50 = .ok (.iushr, 1) := by decide +kernel
theorem dX0_mix_51 : decode cX0_mix 51 = .ok (.ior, 1) := by decide +kernel
theorem dX0_mix_52 : decode cX0_mix 52 = .ok (.ixor, 1) := by decide +kernel
theorem dX0_mix_53 : decode cX0_mix 53 = .ok (.ireturn, 1) := by decide +kernel
set_option maxHeartbeats 4000000 in
set_option maxRecDepth 100000 in
theorem ct_X0_mix (ll : Launch) (D : va_G) (ta : Nat → ClassId) {G : (Nat → Prop) → State → Heap → Prop} (hGok : GOK G) (x : Int32)  (sz : Nat) : CT ll yX0_mix cX0_mix 3 (some .int) ({ frames := 0, cells := 0, slots := 0, locals := 0 } : Room) D ta G [.int x] [] sz (S := Unit) (fun u => some (.int (cMix x))) (fun u => True) (fun u => []) 0 0 := by
  refine CT.of_i (r := fun u => cMix x) rfl (by decide) (Nat.le_of_ble_eq_true rfl) ?_
  intro pp ee ss mm below meth kc A Q hx hb hml hown hin hts hK hA hsz hG hret H locs hP hD hS ls hl
  have hl : lv_has ls 3 [(0, .int x)] := hl
  refine lv_iload_n (pc := 0) hx hb dX0_mix_0 rfl (lv_at hl 0 rfl) ?_
  refine lv_ldc (pc := 1) (v := (nI 2139062143)) hx hb hown (q_at (hts _ tw_556) (by decide +kernel)) dX0_mix_1 ?_
  refine lv_iand (pc := 3) hx hb dX0_mix_3 ?_
  refine lv_iconst (pc := 4) (v := nI 1) hx hb dX0_mix_4 (by decide +kernel) ?_
  refine lv_ishl (pc := 5) hx hb dX0_mix_5 ?_
  refine lv_iload_n (pc := 6) hx hb dX0_mix_6 rfl (lv_at hl 0 rfl) ?_
  refine lv_bipush (pc := 7) (v := nI 7) hx hb dX0_mix_7 (by decide +kernel) ?_
  refine lv_iushr (pc := 9) (v := ush x 7) hx hb dX0_mix_9 rfl ?_
  refine lv_ldc (pc := 10) (v := (nI 16843009)) hx hb hown (q_at (hts _ tw_557) (by decide +kernel)) dX0_mix_10 ?_
  refine lv_iand (pc := 12) hx hb dX0_mix_12 ?_
  refine lv_bipush (pc := 13) (v := nI 27) hx hb dX0_mix_13 (by decide +kernel) ?_
  refine lv_imul (pc := 15) hx hb dX0_mix_15 ?_
  refine lv_ixor (pc := 16) hx hb dX0_mix_16 ?_
  refine lv_istore_n (pc := 17) (lv' := [(1, .int (((x &&& (nI 2139062143)) <<< ((nI 1) &&& 31)) ^^^ (((ush x 7) &&& (nI 16843009)) * (nI 27)))), (0, .int x)]) hx hb dX0_mix_17 rfl hl (by decide) rfl (fun ls hl => ?_)
  refine lv_iload_n (pc := 18) hx hb dX0_mix_18 rfl (lv_at hl 0 rfl) ?_
  refine lv_iload_n (pc := 19) hx hb dX0_mix_19 rfl (lv_at hl 1 rfl) ?_
  refine lv_ixor (pc := 20) hx hb dX0_mix_20 ?_
  refine lv_istore_n (pc := 21) (lv' := [(2, .int ((((x &&& (nI 2139062143)) <<< ((nI 1) &&& 31)) ^^^ (((ush x 7) &&& (nI 16843009)) * (nI 27))) ^^^ x)), (1, .int (((x &&& (nI 2139062143)) <<< ((nI 1) &&& 31)) ^^^ (((ush x 7) &&& (nI 16843009)) * (nI 27)))), (0, .int x)]) hx hb dX0_mix_21 rfl hl (by decide) rfl (fun ls hl => ?_)
  refine lv_iload_n (pc := 22) hx hb dX0_mix_22 rfl (lv_at hl 1 rfl) ?_
  refine lv_iload_n (pc := 23) hx hb dX0_mix_23 rfl (lv_at hl 0 rfl) ?_
  refine lv_bipush (pc := 24) (v := nI 8) hx hb dX0_mix_24 (by decide +kernel) ?_
  refine lv_ishl (pc := 26) hx hb dX0_mix_26 ?_
  refine lv_iload_n (pc := 27) hx hb dX0_mix_27 rfl (lv_at hl 0 rfl) ?_
  refine lv_bipush (pc := 28) (v := nI 24) hx hb dX0_mix_28 (by decide +kernel) ?_
  refine lv_iushr (pc := 30) (v := ush ((((x &&& (nI 2139062143)) <<< ((nI 1) &&& 31)) ^^^ (((ush x 7) &&& (nI 16843009)) * (nI 27))) ^^^ x) 24) hx hb dX0_mix_30 rfl ?_
  refine lv_ior (pc := 31) hx hb dX0_mix_31 ?_
  refine lv_ixor (pc := 32) hx hb dX0_mix_32 ?_
  refine lv_iload_n (pc := 33) hx hb dX0_mix_33 rfl (lv_at hl 2 rfl) ?_
  refine lv_bipush (pc := 34) (v := nI 16) hx hb dX0_mix_34 (by decide +kernel) ?_
  refine lv_ishl (pc := 36) hx hb dX0_mix_36 ?_
  refine lv_iload_n (pc := 37) hx hb dX0_mix_37 rfl (lv_at hl 2 rfl) ?_
  refine lv_bipush (pc := 38) (v := nI 16) hx hb dX0_mix_38 (by decide +kernel) ?_
  refine lv_iushr (pc := 40) (v := ush x 16) hx hb dX0_mix_40 rfl ?_
  refine lv_ior (pc := 41) hx hb dX0_mix_41 ?_
  refine lv_ixor (pc := 42) hx hb dX0_mix_42 ?_
  refine lv_iload_n (pc := 43) hx hb dX0_mix_43 rfl (lv_at hl 2 rfl) ?_
  refine lv_bipush (pc := 44) (v := nI 24) hx hb dX0_mix_44 (by decide +kernel) ?_
  refine lv_ishl (pc := 46) hx hb dX0_mix_46 ?_
  refine lv_iload_n (pc := 47) hx hb dX0_mix_47 rfl (lv_at hl 2 rfl) ?_
  refine lv_bipush (pc := 48) (v := nI 8) hx hb dX0_mix_48 (by decide +kernel) ?_
  refine lv_iushr (pc := 50) (v := ush x 8) hx hb dX0_mix_50 rfl ?_
  refine lv_ior (pc := 51) hx hb dX0_mix_51 ?_
  refine lv_ixor (pc := 52) hx hb dX0_mix_52 ?_
  refine q_top (y := cMix x) rfl ?_
  have hq_1 : True := trivial
  exact hret () _ _ _ _ dX0_mix_53 hq_1 (hP.sub [] rfl) (hD.sub [] (by decide) rfl) hS
theorem hdX0_beforeMix : yX0_beforeMix.cls ≠ "java/lang/invoke/MethodHandle" ∧ yX0_beforeMix.cls ≠ "java/lang/invoke/VarHandle" ∧ (parseMethodDescriptor yX0_beforeMix.desc).map (fun d => d.parameters.length) = some 1 := ⟨by decide +kernel, by decide +kernel, by decide +kernel⟩
theorem dX0_beforeMix_0 : decode cX0_beforeMix 0 = .ok (.iload_n 0, 1) := by decide +kernel
theorem dX0_beforeMix_1 : decode cX0_beforeMix 1 = .ok (.iload_n 0, 1) := by decide +kernel
theorem dX0_beforeMix_2 : decode cX0_beforeMix 2 = .ok (.bipush 16, 2) := by decide +kernel
theorem dX0_beforeMix_4 : decode cX0_beforeMix 4 = .ok (.ishl, 1) := by decide +kernel
theorem dX0_beforeMix_5 : decode cX0_beforeMix 5 = .ok (.iload_n 0, 1) := by decide +kernel
theorem dX0_beforeMix_6 : decode cX0_beforeMix 6 = .ok (.bipush 16, 2) := by decide +kernel
theorem dX0_beforeMix_8 : decode cX0_beforeMix 8 = .ok (.iushr, 1) := by decide +kernel
theorem dX0_beforeMix_9 : decode cX0_beforeMix 9 = .ok (.ior, 1) := by decide +kernel
theorem dX0_beforeMix_10 : decode cX0_beforeMix 10 = .ok (.ixor, 1) := by decide +kernel
theorem dX0_beforeMix_11 : decode cX0_beforeMix 11 = .ok (.istore_n 1, 1) := by decide +kernel
theorem dX0_beforeMix_12 : decode cX0_beforeMix 12 = .ok (.iload_n 0, 1) := by decide +kernel
theorem dX0_beforeMix_13 : decode cX0_beforeMix 13 = .ok (.iload_n 1, 1) := by decide +kernel
theorem dX0_beforeMix_14 : decode cX0_beforeMix 14 = .ok (.ldc 67, 2) := by decide +kernel
theorem dX0_beforeMix_16 : decode cX0_beforeMix 16 = .ok (.iand, 1) := by decide +kernel
theorem dX0_beforeMix_17 : decode cX0_beforeMix 17 = .ok (.iconst 2, 1) := by decide +kernel
theorem dX0_beforeMix_18 : decode cX0_beforeMix 18 = .ok (.ishl, 1) := by decide +kernel
theorem dX0_beforeMix_19 : decode cX0_beforeMix 19 = .ok (.ixor, 1) := by decide +kernel
theorem dX0_beforeMix_20 : decode cX0_beforeMix 20 = .ok (.iload_n 1, 1) := by decide +kernel
theorem dX0_beforeMix_21 : decode cX0_beforeMix 21 = .ok (.bipush 6, 2) := by decide +kernel
theorem dX0_beforeMix_23 : decode cX0_beforeMix 23 = .ok (.iushr, 1) := by decide +kernel
theorem dX0_beforeMix_24 : decode cX0_beforeMix 24 = .ok (.ldc 66, 2) := by decide +kernel
theorem dX0_beforeMix_26 : decode cX0_beforeMix 26 = .ok (.iand, 1) := by decide +kernel
theorem dX0_beforeMix_27 : decode cX0_beforeMix 27 = .ok (.bipush 27, 2) := by decide +kernel
theorem dX0_beforeMix_29 : decode cX0_beforeMix 29 = .ok (.imul, 1) := by decide +kernel
theorem dX0_beforeMix_30 : decode cX0_beforeMix 30 = .ok (.ixor, 1) := by decide +kernel
theorem dX0_beforeMix_31 : decode cX0_beforeMix 31 = .ok (.iload_n 1, 1) := by decide +kernel
theorem dX0_beforeMix_32 : decode cX0_beforeMix 32 = .ok (.bipush 7, 2) := by decide +kernel
theorem dX0_beforeMix_34 : decode cX0_beforeMix 34 = .ok (.iushr, 1) := by decide +kernel
theorem dX0_beforeMix_35 : decode cX0_beforeMix 35 = .ok (.ldc 66, 2) := by decide +kernel
theorem dX0_beforeMix_37 : decode cX0_beforeMix 37 = .ok (.iand, 1) := by decide +kernel
theorem dX0_beforeMix_38 : decode cX0_beforeMix 38 = .ok (.bipush 54, 2) := by decide +kernel
theorem dX0_beforeMix_40 : decode cX0_beforeMix 40 = .ok (.imul, 1) := by decide +kernel
theorem dX0_beforeMix_41 : decode cX0_beforeMix 41 = .ok (.ixor, 1) := by decide +kernel
theorem dX0_beforeMix_42 : decode cX0_beforeMix 42 = .ok (.ireturn, 1) := by decide +kernel
set_option maxHeartbeats 4000000 in
set_option maxRecDepth 100000 in
theorem ct_X0_beforeMix (ll : Launch) (D : va_G) (ta : Nat → ClassId) {G : (Nat → Prop) → State → Heap → Prop} (hGok : GOK G) (x : Int32)  (sz : Nat) : CT ll yX0_beforeMix cX0_beforeMix 2 (some .int) ({ frames := 0, cells := 0, slots := 0, locals := 0 } : Room) D ta G [.int x] [] sz (S := Unit) (fun u => some (.int (cBef x))) (fun u => True) (fun u => []) 0 0 := by
  refine CT.of_i (r := fun u => cBef x) rfl (by decide) (Nat.le_of_ble_eq_true rfl) ?_
  intro pp ee ss mm below meth kc A Q hx hb hml hown hin hts hK hA hsz hG hret H locs hP hD hS ls hl
  have hl : lv_has ls 2 [(0, .int x)] := hl
  refine lv_iload_n (pc := 0) hx hb dX0_beforeMix_0 rfl (lv_at hl 0 rfl) ?_
  refine lv_iload_n (pc := 1) hx hb dX0_beforeMix_1 rfl (lv_at hl 0 rfl) ?_
  refine lv_bipush (pc := 2) (v := nI 16) hx hb dX0_beforeMix_2 (by decide +kernel) ?_
  refine lv_ishl (pc := 4) hx hb dX0_beforeMix_4 ?_
  refine lv_iload_n (pc := 5) hx hb dX0_beforeMix_5 rfl (lv_at hl 0 rfl) ?_
  refine lv_bipush (pc := 6) (v := nI 16) hx hb dX0_beforeMix_6 (by decide +kernel) ?_
  refine lv_iushr (pc := 8) (v := ush x 16) hx hb dX0_beforeMix_8 rfl ?_
  refine lv_ior (pc := 9) hx hb dX0_beforeMix_9 ?_
  refine lv_ixor (pc := 10) hx hb dX0_beforeMix_10 ?_
  refine lv_istore_n (pc := 11) (lv' := [(1, .int (x ^^^ ((x <<< ((nI 16) &&& 31)) ||| (ush x 16)))), (0, .int x)]) hx hb dX0_beforeMix_11 rfl hl (by decide) rfl (fun ls hl => ?_)
  refine lv_iload_n (pc := 12) hx hb dX0_beforeMix_12 rfl (lv_at hl 1 rfl) ?_
  refine lv_iload_n (pc := 13) hx hb dX0_beforeMix_13 rfl (lv_at hl 0 rfl) ?_
  refine lv_ldc (pc := 14) (v := (nI 1061109567)) hx hb hown (q_at (hts _ tw_827) (by decide +kernel)) dX0_beforeMix_14 ?_
  refine lv_iand (pc := 16) hx hb dX0_beforeMix_16 ?_
  refine lv_iconst (pc := 17) (v := nI 2) hx hb dX0_beforeMix_17 (by decide +kernel) ?_
  refine lv_ishl (pc := 18) hx hb dX0_beforeMix_18 ?_
  refine lv_ixor (pc := 19) hx hb dX0_beforeMix_19 ?_
  refine lv_iload_n (pc := 20) hx hb dX0_beforeMix_20 rfl (lv_at hl 0 rfl) ?_
  refine lv_bipush (pc := 21) (v := nI 6) hx hb dX0_beforeMix_21 (by decide +kernel) ?_
  refine lv_iushr (pc := 23) (v := ush (x ^^^ ((x <<< ((nI 16) &&& 31)) ||| (ush x 16))) 6) hx hb dX0_beforeMix_23 rfl ?_
  refine lv_ldc (pc := 24) (v := (nI 16843009)) hx hb hown (q_at (hts _ tw_557) (by decide +kernel)) dX0_beforeMix_24 ?_
  refine lv_iand (pc := 26) hx hb dX0_beforeMix_26 ?_
  refine lv_bipush (pc := 27) (v := nI 27) hx hb dX0_beforeMix_27 (by decide +kernel) ?_
  refine lv_imul (pc := 29) hx hb dX0_beforeMix_29 ?_
  refine lv_ixor (pc := 30) hx hb dX0_beforeMix_30 ?_
  refine lv_iload_n (pc := 31) hx hb dX0_beforeMix_31 rfl (lv_at hl 0 rfl) ?_
  refine lv_bipush (pc := 32) (v := nI 7) hx hb dX0_beforeMix_32 (by decide +kernel) ?_
  refine lv_iushr (pc := 34) (v := ush (x ^^^ ((x <<< ((nI 16) &&& 31)) ||| (ush x 16))) 7) hx hb dX0_beforeMix_34 rfl ?_
  refine lv_ldc (pc := 35) (v := (nI 16843009)) hx hb hown (q_at (hts _ tw_557) (by decide +kernel)) dX0_beforeMix_35 ?_
  refine lv_iand (pc := 37) hx hb dX0_beforeMix_37 ?_
  refine lv_bipush (pc := 38) (v := nI 54) hx hb dX0_beforeMix_38 (by decide +kernel) ?_
  refine lv_imul (pc := 40) hx hb dX0_beforeMix_40 ?_
  refine lv_ixor (pc := 41) hx hb dX0_beforeMix_41 ?_
  refine q_top (y := cBef x) rfl ?_
  have hq_1 : True := trivial
  exact hret () _ _ _ _ dX0_beforeMix_42 hq_1 (hP.sub [] rfl) (hD.sub [] (by decide) rfl) hS
theorem hdX0_there : yX0_there.cls ≠ "java/lang/invoke/MethodHandle" ∧ yX0_there.cls ≠ "java/lang/invoke/VarHandle" ∧ (parseMethodDescriptor yX0_there.desc).map (fun d => d.parameters.length) = some 0 := ⟨by decide +kernel, by decide +kernel, by decide +kernel⟩
theorem dX0_there_0 : decode cX0_there 0 = .ok (.aload_n 0, 1) := by decide +kernel
theorem dX0_there_1 : decode cX0_there 1 = .ok (.invokevirtual 42, 3) := by decide +kernel
theorem dX0_there_4 : decode cX0_there 4 = .ok (.aload_n 0, 1) := by decide +kernel
theorem dX0_there_5 : decode cX0_there 5 = .ok (.iconst 0, 1) := by decide +kernel
theorem dX0_there_6 : decode cX0_there 6 = .ok (.invokevirtual 46, 3) := by decide +kernel
theorem dX0_there_9 : decode cX0_there 9 = .ok (.iconst 1, 1) := by decide +kernel
theorem dX0_there_10 : decode cX0_there 10 = .ok (.istore_n 1, 1) := by decide +kernel
theorem dX0_there_11 : decode cX0_there 11 = .ok (.iload_n 1, 1) := by decide +kernel
theorem dX0_there_12 : decode cX0_there 12 = .ok (.aload_n 0, 1) := by decide +kernel
theorem dX0_there_13 : decode cX0_there 13 = .ok (.getfield 22, 3) := by decide +kernel
theorem dX0_there_16 : decode cX0_there 16 = .ok (.if_icmp .gt 67, 3) := by decide +kernel
theorem dX0_there_19 : decode cX0_there 19 = .ok (.aload_n 0, 1) := by decide +kernel
theorem dX0_there_20 : decode cX0_there 20 = .ok (.getstatic 26, 3) := by decide +kernel
theorem dX0_there_23 : decode cX0_there 23 = .ok (.iconst 1, 1) := by decide +kernel
theorem dX0_there_24 : decode cX0_there 24 = .ok (.invokevirtual 49, 3) := by decide +kernel
theorem dX0_there_27 : decode cX0_there 27 = .ok (.iconst 0, 1) := by decide +kernel
theorem dX0_there_28 : decode cX0_there 28 = .ok (.istore_n 2, 1) := by decide +kernel
theorem dX0_there_29 : decode cX0_there 29 = .ok (.iload_n 2, 1) := by decide +kernel
theorem dX0_there_30 : decode cX0_there 30 = .ok (.iconst 4, 1) := by decide +kernel
theorem dX0_there_31 : decode cX0_there 31 = .ok (.if_icmp .ge 41, 3) := by decide +kernel
theorem dX0_there_34 : decode cX0_there 34 = .ok (.aload_n 0, 1) := by decide +kernel
theorem dX0_there_35 : decode cX0_there 35 = .ok (.getfield 16, 3) := by decide +kernel
theorem dX0_there_38 : decode cX0_there 38 = .ok (.iload_n 2, 1) := by decide +kernel
theorem dX0_there_39 : decode cX0_there 39 = .ok (.iload_n 1, 1) := by decide +kernel
theorem dX0_there_40 : decode cX0_there 40 = .ok (.aload_n 0, 1) := by decide +kernel
theorem dX0_there_41 : decode cX0_there 41 = .ok (.getfield 22, 3) := by decide +kernel
theorem dX0_there_44 : decode cX0_there 44 = .ok (.if_icmp .ge 15, 3) := by decide +kernel
theorem dX0_there_47 : decode cX0_there 47 = .ok (.aload_n 0, 1) := by decide +kernel
theorem dX0_there_48 : decode cX0_there 48 = .ok (.getfield 19, 3) := by decide +kernel
theorem dX0_there_51 : decode cX0_there 51 = .ok (.iload_n 2, 1) := by decide +kernel
theorem dX0_there_52 : decode cX0_there 52 = .ok (.iaload, 1) := by decide +kernel
theorem dX0_there_53 : decode cX0_there 53 = .ok (.invokestatic 53, 3) := by decide +kernel
theorem dX0_there_56 : decode cX0_there 56 = .ok (.goto 9, 3) := by decide +kernel
theorem dX0_there_59 : decode cX0_there 59 = .ok (.aload_n 0, 1) := by decide +kernel
theorem dX0_there_60 : decode cX0_there 60 = .ok (.getfield 19, 3) := by decide +kernel
theorem dX0_there_63 : decode cX0_there 63 = .ok (.iload_n 2, 1) := by decide +kernel
theorem dX0_there_64 : decode cX0_there 64 = .ok (.iaload, 1) := by decide +kernel
theorem dX0_there_65 : decode cX0_there 65 = .ok (.iastore, 1) := by decide +kernel
theorem dX0_there_66 : decode cX0_there 66 = .ok (.iinc 2 1, 3) := by decide +kernel
theorem dX0_there_69 : decode cX0_there 69 = .ok (.goto (-40), 3) := by decide +kernel
theorem dX0_there_72 : decode cX0_there 72 = .ok (.aload_n 0, 1) := by decide +kernel
theorem dX0_there_73 : decode cX0_there 73 = .ok (.iload_n 1, 1) := by decide +kernel
theorem dX0_there_74 : decode cX0_there 74 = .ok (.invokevirtual 46, 3) := by decide +kernel
theorem dX0_there_77 : decode cX0_there 77 = .ok (.iinc 1 1, 3) := by decide +kernel
theorem dX0_there_80 : decode cX0_there 80 = .ok (.goto (-69), 3) := by decide +kernel
theorem dX0_there_83 : decode cX0_there 83 = .ok (.aload_n 0, 1) := by decide +kernel
theorem dX0_there_84 : decode cX0_there 84 = .ok (.invokevirtual 56, 3) := by decide +kernel
theorem dX0_there_87 : decode cX0_there 87 = .ok (.return_, 1) := by decide +kernel
set_option maxHeartbeats 4000000 in
set_option maxRecDepth 100000 in
theorem ct_X0_there (ll : Launch) (D : va_G) (ta : Nat → ClassId) (gs : Nat → Nat) (ha : Nat) (b1 : Nat) (b2 : Nat) (b3 : Nat) (b4 : Nat) (b5 : Nat) (b6 : Nat) (R : Nat) (gb : Nat → BitVec 8) (kw : Nat → Int32) (sw : Nat → Int32) (xw : Nat → Int32) (rk : Nat → BitVec 8) (hkw : ∀ j, j < 4 * (R + 1) → kw j = wdF rk j) (hR : 1 ≤ R ∧ R ≤ 14) (sz : Nat) : CT ll yX0_there cX0_there 3 none ({ frames := 1, cells := 0, slots := 0, locals := 23 } : Room) D ta ((GC gs)) [.ref ha] [(ha, oA b1 b2 b3 b4 b5 b6 R), (b1, aZ ta 16 gb), (b3, aZ ta 256 UBOX), (b4, aI ta 64 kw), (b5, aI ta 4 sw), (b6, aI ta 4 xw)] sz (S := (Nat → BitVec 8) × (Nat → Int32) × (Nat → Int32)) (fun _ => none) (fun u => (∀ k, k < 16 → u.1 k = aE rk R gb R k)) (fun u => [(ha, oA b1 b2 b3 b4 b5 b6 R), (b1, aZ ta 16 u.1), (b3, aZ ta 256 UBOX), (b4, aI ta 64 kw), (b5, aI ta 4 u.2.1), (b6, aI ta 4 u.2.2)]) 0 0 := by
  refine CT.of_v rfl (by decide) (Nat.le_of_ble_eq_true rfl) ?_
  have hGok := GC_ok gs
  intro pp ee ss mm below meth kc A Q hx hb hml hown hin hts hK hA hsz hG hret H locs hP hD hS ls hl
  have hl : lv_has ls 3 [(0, .ref ha)] := hl
  refine lv_aload_n (pc := 0) hx hb dX0_there_0 rfl (lv_at hl 0 rfl) ?_
  refine cs_V (pc := 1) (idx := 42) (n := 0) (wr := [(b3, aZ ta 256 UBOX), (b4, aI ta 64 kw), (b6, aI ta 4 xw)]) (As := []) (rest := []) (ci := 0) hx hb hml hown hts hGok hK hA hG hl.1 hP hD hS (ct_X0_load ll D ta hGok ha b1 b2 b3 b4 b5 b6 R gb sw  H.size) tw_544 tw_541 tw_543 tw_5 tw_74 hdX0_load rfl ⟨rfl, rfl, Nat.le_of_ble_eq_true rfl, Nat.le_of_ble_eq_true rfl, Nat.le_of_ble_eq_true rfl, Nat.le_of_ble_eq_true rfl⟩ rfl rfl (q0 := 0) rfl [0, 1, 4] [2, 3, 5] rfl rfl (by decide) rfl (Nat.le_of_ble_eq_true rfl) dX0_there_1 (fun u H locs hq hP hD hS => ?_)
  generalize u = sw1_1 at hq hP hD ⊢
  have hq : (∀ cz, cz < 4 → sw1_1 cz = wdF gb cz) := hq
  have hs_1 := hq
  refine W.eq (g2 := F0 mm 4 ls []) rfl ?_
  have hP : va_P D vwCl [(b3, aZ ta 256 UBOX), (b4, aI ta 64 kw), (b6, aI ta 4 xw), (ha, oA b1 b2 b3 b4 b5 b6 R), (b1, aZ ta 16 gb), (b5, aI ta 4 sw1_1)] H := hP
  have hD : va_D A [(b3, aZ ta 256 UBOX), (b4, aI ta 64 kw), (b6, aI ta 4 xw), (ha, oA b1 b2 b3 b4 b5 b6 R), (b1, aZ ta 16 gb), (b5, aI ta 4 sw1_1)] := hD
  refine lv_aload_n (pc := 4) hx hb dX0_there_4 rfl (lv_at hl 0 rfl) ?_
  refine lv_iconst (pc := 5) (v := nI 0) hx hb dX0_there_5 (by decide +kernel) ?_
  refine cs_V (pc := 6) (idx := 46) (n := 1) (wr := [(b3, aZ ta 256 UBOX), (b6, aI ta 4 xw), (b1, aZ ta 16 gb)]) (As := [.int (nI 0)]) (rest := []) (ci := 0) hx hb hml hown hts hGok hK hA hG hl.1 hP hD hS (ct_X0_addWords ll D ta hGok ha b1 b2 b3 b4 b5 b6 R sw1_1 kw gb rk 0 (hs_1) (fun j hj => hkw j (by omega)) (by first | assumption | omega | rfl | decide) H.size) tw_548 tw_545 tw_547 tw_6 tw_74 hdX0_addWords rfl ⟨rfl, rfl, Nat.le_of_ble_eq_true rfl, Nat.le_of_ble_eq_true rfl, Nat.le_of_ble_eq_true rfl, Nat.le_of_ble_eq_true rfl⟩ rfl rfl (q0 := 3) rfl [3, 1, 5] [0, 2, 4] rfl rfl (by decide) rfl (Nat.le_of_ble_eq_true rfl) dX0_there_6 (fun u H locs hq hP hD hS => ?_)
  generalize u = sw1_6 at hq hP hD ⊢
  have hq : (∀ cz, cz < 4 → sw1_6 cz = wdF (aAdd gb rk 0) cz) := hq
  have hs_6 := hq
  refine W.eq (g2 := F0 mm 9 ls []) rfl ?_
  have hP : va_P D vwCl [(b3, aZ ta 256 UBOX), (b6, aI ta 4 xw), (b1, aZ ta 16 gb), (ha, oA b1 b2 b3 b4 b5 b6 R), (b4, aI ta 64 kw), (b5, aI ta 4 sw1_6)] H := hP
  have hD : va_D A [(b3, aZ ta 256 UBOX), (b6, aI ta 4 xw), (b1, aZ ta 16 gb), (ha, oA b1 b2 b3 b4 b5 b6 R), (b4, aI ta 64 kw), (b5, aI ta 4 sw1_6)] := hD
  refine lv_iconst (pc := 9) (v := nI 1) hx hb dX0_there_9 (by decide +kernel) ?_
  refine lv_istore_n (pc := 10) (lv' := [(1, .int (nI 1)), (0, .ref ha)]) hx hb dX0_there_10 rfl hl (by decide) rfl (fun ls hl => ?_)
  have LP11 : ∀ (nn11 : Nat) (c : Nat) (s' : Nat → Int32) (x' : Nat → Int32), (c ≤ R) → (∀ q, q < 4 → s' q = wdF (aE rk R gb c) q) → (R - c < nn11) → ∀ (H : Heap) (locs : List Loc), va_P D vwCl [(b3, aZ ta 256 UBOX), (b6, aI ta 4 x'), (b1, aZ ta 16 gb), (ha, oA b1 b2 b3 b4 b5 b6 R), (b4, aI ta 64 kw), (b5, aI ta 4 s')] H → va_D A [(b3, aZ ta 256 UBOX), (b6, aI ta 4 x'), (b1, aZ ta 16 gb), (ha, oA b1 b2 b3 b4 b5 b6 R), (b4, aI ta 64 kw), (b5, aI ta 4 s')] → va_S A ss.heap H locs → ∀ ls : Array Slot, lv_has ls 3 [(1, .int (nI (c + 1))), (0, .ref ha)] → W pp ll ee ({ frames := 1, cells := 0, slots := 0, locals := 23 } : Room) ss mm (([.ref ha] : List Value).toArray) below meth kc H locs 0 0 Q (F0 mm 11 ls []) := by
    intro nn11
    induction nn11 with
    | zero => intro c s' x' hcc hs hmu; exact absurd hmu (Nat.not_lt_zero _)
    | succ nn11 ih11 =>
      intro c s' x' hcc hs hmu11 H locs hP hD hS ls hl
      refine lv_iload_n (pc := 11) hx hb dX0_there_11 rfl (lv_at hl 0 rfl) ?_
      refine lv_aload_n (pc := 12) hx hb dX0_there_12 rfl (lv_at hl 1 rfl) ?_
      refine va_get (pc := 13) (D := D) (ci := 0) (v := .int (nI R)) (C := RX0) (T := TX0) (N := 7) hx hb hts iu0 hown hK hP 3 rfl rfl 6 (by decide) (hts _ tw_326) (fun _ h9 => h9) rfl dX0_there_13 ?_
      refine lv_icmp_gt (pc := 16) (tgt := 83) hx hb dX0_there_16 (by decide) (fun c_1 => ?_) (fun c_1 => ?_)
      · skip
        rw [nI_ltI (by omega) (by omega)] at c_1
        refine lv_aload_n (pc := 83) hx hb dX0_there_83 rfl (lv_at hl 1 rfl) ?_
        refine cs_V (pc := 84) (idx := 56) (n := 0) (wr := [(b3, aZ ta 256 UBOX), (b6, aI ta 4 x'), (b4, aI ta 64 kw)]) (As := []) (rest := []) (ci := 0) hx hb hml hown hts hGok hK hA hG hl.1 hP hD hS (ct_X0_store ll D ta hGok ha b1 b2 b3 b4 b5 b6 R gb s' (aE rk R gb R) (fun q hq => by rw [hs q hq, show c = R by omega]) H.size) tw_561 tw_558 tw_560 tw_8 tw_74 hdX0_store rfl ⟨rfl, rfl, Nat.le_of_ble_eq_true rfl, Nat.le_of_ble_eq_true rfl, Nat.le_of_ble_eq_true rfl, Nat.le_of_ble_eq_true rfl⟩ rfl rfl (q0 := 3) rfl [3, 2, 5] [0, 1, 4] rfl rfl (by decide) rfl (Nat.le_of_ble_eq_true rfl) dX0_there_84 (fun u H locs hq hP hD hS => ?_)
        generalize u = gb1_84 at hq hP hD ⊢
        have hq : (∀ kz, kz < 16 → gb1_84 kz = (aE rk R gb R) kz) := hq
        have hs_84 := hq
        refine W.eq (g2 := F0 mm 87 ls []) rfl ?_
        have hP : va_P D vwCl [(b3, aZ ta 256 UBOX), (b6, aI ta 4 x'), (b4, aI ta 64 kw), (ha, oA b1 b2 b3 b4 b5 b6 R), (b1, aZ ta 16 gb1_84), (b5, aI ta 4 s')] H := hP
        have hD : va_D A [(b3, aZ ta 256 UBOX), (b6, aI ta 4 x'), (b4, aI ta 64 kw), (ha, oA b1 b2 b3 b4 b5 b6 R), (b1, aZ ta 16 gb1_84), (b5, aI ta 4 s')] := hD
        have hq_2 : (∀ k, k < 16 → gb1_84 k = aE rk R gb R k) := by
          exact hs_84
        exact hret (⟨(gb1_84), (s'), (x')⟩ : (Nat → BitVec 8) × (Nat → Int32) × (Nat → Int32)) _ _ _ _ dX0_there_87 hq_2 (hP.sub [3, 4, 0, 2, 5, 1] rfl) (hD.sub [3, 4, 0, 2, 5, 1] (by decide) rfl) hS
      · skip
        rw [nI_ltI (by omega) (by omega)] at c_1
        refine lv_aload_n (pc := 19) hx hb dX0_there_19 rfl (lv_at hl 1 rfl) ?_
        refine va_gets (pc := 20) hx hb (v := .ref (gs 0)) (GC_z0 hG) hS hown (hts _ tw_320) (fun _ h9 => h9) dX0_there_20 ?_
        refine lv_iconst (pc := 23) (v := nI 1) hx hb dX0_there_23 (by decide +kernel) ?_
        refine cs_V (pc := 24) (idx := 49) (n := 2) (wr := [(b3, aZ ta 256 UBOX), (b1, aZ ta 16 gb), (b4, aI ta 64 kw)]) (As := [.ref (gs 0), .int (nI 1)]) (rest := []) (ci := 0) hx hb hml hown hts hGok hK hA hG hl.1 hP hD hS (ct_X0_boxShifted_f ll D ta gs ha b1 b2 b3 b4 b5 b6 R s' x' (aE rk R gb c) (hs) H.size) tw_552 tw_549 tw_551 tw_7 tw_74 hdX0_boxShifted rfl ⟨rfl, rfl, Nat.le_of_ble_eq_true rfl, Nat.le_of_ble_eq_true rfl, Nat.le_of_ble_eq_true rfl, Nat.le_of_ble_eq_true rfl⟩ rfl rfl (q0 := 3) rfl [3, 5, 1] [0, 2, 4] rfl rfl (by decide) rfl (Nat.le_of_ble_eq_true rfl) dX0_there_24 (fun u H locs hq hP hD hS => ?_)
        generalize u = xw1_24 at hq hP hD ⊢
        have hq : (∀ cz, cz < 4 → xw1_24 cz = wdF (aSub (aE rk R gb c)) cz) := hq
        have hs_24 := hq
        refine W.eq (g2 := F0 mm 27 ls []) rfl ?_
        have hP : va_P D vwCl [(b3, aZ ta 256 UBOX), (b1, aZ ta 16 gb), (b4, aI ta 64 kw), (ha, oA b1 b2 b3 b4 b5 b6 R), (b5, aI ta 4 s'), (b6, aI ta 4 xw1_24)] H := hP
        have hD : va_D A [(b3, aZ ta 256 UBOX), (b1, aZ ta 16 gb), (b4, aI ta 64 kw), (ha, oA b1 b2 b3 b4 b5 b6 R), (b5, aI ta 4 s'), (b6, aI ta 4 xw1_24)] := hD
        refine lv_iconst (pc := 27) (v := nI 0) hx hb dX0_there_27 (by decide +kernel) ?_
        refine lv_istore_n (pc := 28) (lv' := [(2, .int (nI 0)), (1, .int (nI (c + 1))), (0, .ref ha)]) hx hb dX0_there_28 rfl hl (by decide) rfl (fun ls hl => ?_)
        have LP29 : ∀ (nn29 : Nat) (d : Nat) (d' : Nat → Int32), (d ≤ 4) → (qSeg d' s' 0 d (wdF (if c + 1 < R then aMix 2 3 1 1 (aSub (aE rk R gb c)) else aSub (aE rk R gb c)))) → (4 - d < nn29) → ∀ (H : Heap) (locs : List Loc), va_P D vwCl [(b3, aZ ta 256 UBOX), (b1, aZ ta 16 gb), (b4, aI ta 64 kw), (ha, oA b1 b2 b3 b4 b5 b6 R), (b5, aI ta 4 d'), (b6, aI ta 4 xw1_24)] H → va_D A [(b3, aZ ta 256 UBOX), (b1, aZ ta 16 gb), (b4, aI ta 64 kw), (ha, oA b1 b2 b3 b4 b5 b6 R), (b5, aI ta 4 d'), (b6, aI ta 4 xw1_24)] → va_S A ss.heap H locs → ∀ ls : Array Slot, lv_has ls 3 [(2, .int (nI d)), (1, .int (nI (c + 1))), (0, .ref ha)] → W pp ll ee ({ frames := 1, cells := 0, slots := 0, locals := 23 } : Room) ss mm (([.ref ha] : List Value).toArray) below meth kc H locs 0 0 Q (F0 mm 29 ls []) := by
          intro nn29
          induction nn29 with
          | zero => intro d d' hdd hd hmu; exact absurd hmu (Nat.not_lt_zero _)
          | succ nn29 ih29 =>
            intro d d' hdd hd hmu29 H locs hP hD hS ls hl
            refine lv_iload_n (pc := 29) hx hb dX0_there_29 rfl (lv_at hl 0 rfl) ?_
            refine lv_iconst (pc := 30) (v := nI 4) hx hb dX0_there_30 (by decide +kernel) ?_
            refine lv_icmp_ge (pc := 31) (tgt := 72) hx hb dX0_there_31 (by decide) (fun c_3 => ?_) (fun c_3 => ?_)
            · skip
              rw [nI_leI (by omega) (by omega)] at c_3
              refine lv_aload_n (pc := 72) hx hb dX0_there_72 rfl (lv_at hl 2 rfl) ?_
              refine lv_iload_n (pc := 73) hx hb dX0_there_73 rfl (lv_at hl 1 rfl) ?_
              refine cs_V (pc := 74) (idx := 46) (n := 1) (wr := [(b3, aZ ta 256 UBOX), (b1, aZ ta 16 gb), (b6, aI ta 4 xw1_24)]) (As := [.int (nI (c + 1))]) (rest := []) (ci := 0) hx hb hml hown hts hGok hK hA hG hl.1 hP hD hS (ct_X0_addWords ll D ta hGok ha b1 b2 b3 b4 b5 b6 R d' kw (if c + 1 < R then aMix 2 3 1 1 (aSub (aE rk R gb c)) else aSub (aE rk R gb c)) rk (c + 1) (fun q hq => qSeg_at hd (by omega)) (fun j hj => hkw j (by omega)) (by first | assumption | omega | rfl | decide) H.size) tw_548 tw_545 tw_547 tw_6 tw_74 hdX0_addWords rfl ⟨rfl, rfl, Nat.le_of_ble_eq_true rfl, Nat.le_of_ble_eq_true rfl, Nat.le_of_ble_eq_true rfl, Nat.le_of_ble_eq_true rfl⟩ rfl rfl (q0 := 3) rfl [3, 2, 4] [0, 1, 5] rfl rfl (by decide) rfl (Nat.le_of_ble_eq_true rfl) dX0_there_74 (fun u H locs hq hP hD hS => ?_)
              generalize u = sw1_74 at hq hP hD ⊢
              have hq : (∀ cz, cz < 4 → sw1_74 cz = wdF (aAdd (if c + 1 < R then aMix 2 3 1 1 (aSub (aE rk R gb c)) else aSub (aE rk R gb c)) rk (c + 1)) cz) := hq
              have hs_74 := hq
              refine W.eq (g2 := F0 mm 77 ls []) rfl ?_
              have hP : va_P D vwCl [(b3, aZ ta 256 UBOX), (b1, aZ ta 16 gb), (b6, aI ta 4 xw1_24), (ha, oA b1 b2 b3 b4 b5 b6 R), (b4, aI ta 64 kw), (b5, aI ta 4 sw1_74)] H := hP
              have hD : va_D A [(b3, aZ ta 256 UBOX), (b1, aZ ta 16 gb), (b6, aI ta 4 xw1_24), (ha, oA b1 b2 b3 b4 b5 b6 R), (b4, aI ta 64 kw), (b5, aI ta 4 sw1_74)] := hD
              refine lv_iinc (pc := 77) (v := nI (c + 2)) (lv' := [(1, .int (nI (c + 2))), (2, .int (nI d)), (0, .ref ha)]) hx hb dX0_there_77 hl (k := 1) rfl (by first | exact nI_add (c + 1) 1 | rfl) (by decide) rfl (fun ls hl => ?_)
              refine lv_goto (pc := 80) (tgt := 11) hx hb dX0_there_80 (by decide) ?_
              exact ih11 (c + 1) sw1_74 xw1_24 (by omega) (hs_74) (by omega) _ _ (hP.sub [0, 2, 1, 3, 4, 5] rfl) (hD.sub [0, 2, 1, 3, 4, 5] (by decide) rfl) hS ls (lv_sub hl [0, 2] rfl)
            · skip
              rw [nI_leI (by omega) (by omega)] at c_3
              refine lv_aload_n (pc := 34) hx hb dX0_there_34 rfl (lv_at hl 2 rfl) ?_
              refine va_get (pc := 35) (D := D) (ci := 0) (v := .ref b5) (C := RX0) (T := TX0) (N := 7) hx hb hts iu0 hown hK hP 3 rfl rfl 4 (by decide) (hts _ tw_324) (fun _ h9 => h9) rfl dX0_there_35 ?_
              refine lv_iload_n (pc := 38) hx hb dX0_there_38 rfl (lv_at hl 0 rfl) ?_
              refine lv_iload_n (pc := 39) hx hb dX0_there_39 rfl (lv_at hl 1 rfl) ?_
              refine lv_aload_n (pc := 40) hx hb dX0_there_40 rfl (lv_at hl 2 rfl) ?_
              refine va_get (pc := 41) (D := D) (ci := 0) (v := .int (nI R)) (C := RX0) (T := TX0) (N := 7) hx hb hts iu0 hown hK hP 3 rfl rfl 6 (by decide) (hts _ tw_326) (fun _ h9 => h9) rfl dX0_there_41 ?_
              refine lv_icmp_ge (pc := 44) (tgt := 59) hx hb dX0_there_44 (by decide) (fun c_4 => ?_) (fun c_4 => ?_)
              · skip
                rw [nI_leI (by omega) (by omega)] at c_4
                refine lv_aload_n (pc := 59) hx hb dX0_there_59 rfl (lv_at hl 2 rfl) ?_
                refine va_get (pc := 60) (D := D) (ci := 0) (v := .ref b6) (C := RX0) (T := TX0) (N := 7) hx hb hts iu0 hown hK hP 3 rfl rfl 5 (by decide) (hts _ tw_325) (fun _ h9 => h9) rfl dX0_there_60 ?_
                refine lv_iload_n (pc := 63) hx hb dX0_there_63 rfl (lv_at hl 0 rfl) ?_
                refine q_iald (pc := 64) hx hb hK hP 5 0 rfl rfl (k := d) (v := xw1_24 d) rfl (by omega) (by omega) rfl dX0_there_64 ?_
                refine q_iastI (pc := 65) hx hb hK hP hD hS 4 0 rfl rfl (k := d) rfl (by omega) (by omega)  dX0_there_65 (fun H locs hP hD hS => ?_)
                have hP : va_P D vwCl [(b3, aZ ta 256 UBOX), (b1, aZ ta 16 gb), (b4, aI ta 64 kw), (ha, oA b1 b2 b3 b4 b5 b6 R), (b5, aI ta 4 (qU d' d (xw1_24 d))), (b6, aI ta 4 xw1_24)] H := hP
                have hD : va_D A [(b3, aZ ta 256 UBOX), (b1, aZ ta 16 gb), (b4, aI ta 64 kw), (ha, oA b1 b2 b3 b4 b5 b6 R), (b5, aI ta 4 (qU d' d (xw1_24 d))), (b6, aI ta 4 xw1_24)] := hD
                refine lv_iinc (pc := 66) (v := nI (d + 1)) (lv' := [(2, .int (nI (d + 1))), (1, .int (nI (c + 1))), (0, .ref ha)]) hx hb dX0_there_66 hl (k := 0) rfl (by first | exact nI_add d 1 | rfl) (by decide) rfl (fun ls hl => ?_)
                refine lv_goto (pc := 69) (tgt := 29) hx hb dX0_there_69 (by decide) ?_
                exact ih29 (d + 1) (qU d' d (xw1_24 d)) (by omega) (qSeg_s hd (by omega) (by first | (rw [if_pos (by omega), hs_24 _ (by omega), wdF_mix]) | (rw [if_neg (by omega), hs_24 _ (by omega)]))) (by omega) _ _ (hP.sub [0, 1, 2, 3, 4, 5] rfl) (hD.sub [0, 1, 2, 3, 4, 5] (by decide) rfl) hS ls (lv_sub hl [0, 1, 2] rfl)
              · skip
                rw [nI_leI (by omega) (by omega)] at c_4
                refine lv_aload_n (pc := 47) hx hb dX0_there_47 rfl (lv_at hl 2 rfl) ?_
                refine va_get (pc := 48) (D := D) (ci := 0) (v := .ref b6) (C := RX0) (T := TX0) (N := 7) hx hb hts iu0 hown hK hP 3 rfl rfl 5 (by decide) (hts _ tw_325) (fun _ h9 => h9) rfl dX0_there_48 ?_
                refine lv_iload_n (pc := 51) hx hb dX0_there_51 rfl (lv_at hl 0 rfl) ?_
                refine q_iald (pc := 52) hx hb hK hP 5 0 rfl rfl (k := d) (v := xw1_24 d) rfl (by omega) (by omega) rfl dX0_there_52 ?_
                refine cs_S (pc := 53) (idx := 53) (n := 1) (wr := [(b3, aZ ta 256 UBOX), (b1, aZ ta 16 gb), (b4, aI ta 64 kw), (ha, oA b1 b2 b3 b4 b5 b6 R), (b5, aI ta 4 d'), (b6, aI ta 4 xw1_24)]) (As := [.int (xw1_24 d)]) (rest := [.int (nI d), .ref b5]) hx hb hml hown hts hGok hK hA hG hl.1 hP hD hS (ct_X0_mix ll D ta hGok (xw1_24 d)  H.size) tw_555 tw_553 tw_554 tw_74 hdX0_mix rfl ⟨rfl, rfl, Nat.le_of_ble_eq_true rfl, Nat.le_of_ble_eq_true rfl, Nat.le_of_ble_eq_true rfl, Nat.le_of_ble_eq_true rfl⟩ [] [0, 1, 2, 3, 4, 5] rfl rfl (by decide) rfl (Nat.le_of_ble_eq_true rfl) dX0_there_53 (fun u H locs hq hP hD hS => ?_)
                refine W.eq (g2 := F0 mm 56 ls [.int (cMix (xw1_24 d)), .int (nI d), .ref b5]) rfl ?_
                have hP : va_P D vwCl [(b3, aZ ta 256 UBOX), (b1, aZ ta 16 gb), (b4, aI ta 64 kw), (ha, oA b1 b2 b3 b4 b5 b6 R), (b5, aI ta 4 d'), (b6, aI ta 4 xw1_24)] H := hP
                have hD : va_D A [(b3, aZ ta 256 UBOX), (b1, aZ ta 16 gb), (b4, aI ta 64 kw), (ha, oA b1 b2 b3 b4 b5 b6 R), (b5, aI ta 4 d'), (b6, aI ta 4 xw1_24)] := hD
                refine lv_goto (pc := 56) (tgt := 65) hx hb dX0_there_56 (by decide) ?_
                refine q_iastI (pc := 65) hx hb hK hP hD hS 4 0 rfl rfl (k := d) rfl (by omega) (by omega)  dX0_there_65 (fun H locs hP hD hS => ?_)
                have hP : va_P D vwCl [(b3, aZ ta 256 UBOX), (b1, aZ ta 16 gb), (b4, aI ta 64 kw), (ha, oA b1 b2 b3 b4 b5 b6 R), (b5, aI ta 4 (qU d' d (cMix (xw1_24 d)))), (b6, aI ta 4 xw1_24)] H := hP
                have hD : va_D A [(b3, aZ ta 256 UBOX), (b1, aZ ta 16 gb), (b4, aI ta 64 kw), (ha, oA b1 b2 b3 b4 b5 b6 R), (b5, aI ta 4 (qU d' d (cMix (xw1_24 d)))), (b6, aI ta 4 xw1_24)] := hD
                refine lv_iinc (pc := 66) (v := nI (d + 1)) (lv' := [(2, .int (nI (d + 1))), (1, .int (nI (c + 1))), (0, .ref ha)]) hx hb dX0_there_66 hl (k := 0) rfl (by first | exact nI_add d 1 | rfl) (by decide) rfl (fun ls hl => ?_)
                refine lv_goto (pc := 69) (tgt := 29) hx hb dX0_there_69 (by decide) ?_
                exact ih29 (d + 1) (qU d' d (cMix (xw1_24 d))) (by omega) (qSeg_s hd (by omega) (by first | (rw [if_pos (by omega), hs_24 _ (by omega), wdF_mix]) | (rw [if_neg (by omega), hs_24 _ (by omega)]))) (by omega) _ _ (hP.sub [0, 1, 2, 3, 4, 5] rfl) (hD.sub [0, 1, 2, 3, 4, 5] (by decide) rfl) hS ls (lv_sub hl [0, 1, 2] rfl)
        exact LP29 _ 0 s' (by omega) (qSeg_0) (Nat.lt_succ_self _) _ _ (hP.sub [0, 1, 2, 3, 4, 5] rfl) (hD.sub [0, 1, 2, 3, 4, 5] (by decide) rfl) hS ls (lv_sub hl [0, 1, 2] rfl)
  exact LP11 _ 0 sw1_6 xw (by omega) (hs_6) (Nat.lt_succ_self _) _ _ (hP.sub [0, 1, 2, 3, 4, 5] rfl) (hD.sub [0, 1, 2, 3, 4, 5] (by decide) rfl) hS ls (lv_sub hl [0, 1] rfl)
theorem hdX0_back : yX0_back.cls ≠ "java/lang/invoke/MethodHandle" ∧ yX0_back.cls ≠ "java/lang/invoke/VarHandle" ∧ (parseMethodDescriptor yX0_back.desc).map (fun d => d.parameters.length) = some 0 := ⟨by decide +kernel, by decide +kernel, by decide +kernel⟩
theorem dX0_back_0 : decode cX0_back 0 = .ok (.aload_n 0, 1) := by decide +kernel
theorem dX0_back_1 : decode cX0_back 1 = .ok (.invokevirtual 42, 3) := by decide +kernel
theorem dX0_back_4 : decode cX0_back 4 = .ok (.aload_n 0, 1) := by decide +kernel
theorem dX0_back_5 : decode cX0_back 5 = .ok (.aload_n 0, 1) := by decide +kernel
theorem dX0_back_6 : decode cX0_back 6 = .ok (.getfield 22, 3) := by decide +kernel
theorem dX0_back_9 : decode cX0_back 9 = .ok (.invokevirtual 46, 3) := by decide +kernel
theorem dX0_back_12 : decode cX0_back 12 = .ok (.aload_n 0, 1) := by decide +kernel
theorem dX0_back_13 : decode cX0_back 13 = .ok (.getfield 22, 3) := by decide +kernel
theorem dX0_back_16 : decode cX0_back 16 = .ok (.iconst 1, 1) := by decide +kernel
theorem dX0_back_17 : decode cX0_back 17 = .ok (.isub, 1) := by decide +kernel
theorem dX0_back_18 : decode cX0_back 18 = .ok (.istore_n 1, 1) := by decide +kernel
theorem dX0_back_19 : decode cX0_back 19 = .ok (.iload_n 1, 1) := by decide +kernel
theorem dX0_back_20 : decode cX0_back 20 = .ok (.ifCond .lt 83, 3) := by decide +kernel
theorem dX0_back_23 : decode cX0_back 23 = .ok (.aload_n 0, 1) := by decide +kernel
theorem dX0_back_24 : decode cX0_back 24 = .ok (.aload_n 0, 1) := by decide +kernel
theorem dX0_back_25 : decode cX0_back 25 = .ok (.getfield 7, 3) := by decide +kernel
theorem dX0_back_28 : decode cX0_back 28 = .ok (.iconst 3, 1) := by decide +kernel
theorem dX0_back_29 : decode cX0_back 29 = .ok (.invokevirtual 49, 3) := by decide +kernel
theorem dX0_back_32 : decode cX0_back 32 = .ok (.iconst 0, 1) := by decide +kernel
theorem dX0_back_33 : decode cX0_back 33 = .ok (.istore_n 2, 1) := by decide +kernel
theorem dX0_back_34 : decode cX0_back 34 = .ok (.iload_n 2, 1) := by decide +kernel
theorem dX0_back_35 : decode cX0_back 35 = .ok (.iconst 4, 1) := by decide +kernel
theorem dX0_back_36 : decode cX0_back 36 = .ok (.if_icmp .ge 21, 3) := by decide +kernel
theorem dX0_back_39 : decode cX0_back 39 = .ok (.aload_n 0, 1) := by decide +kernel
theorem dX0_back_40 : decode cX0_back 40 = .ok (.getfield 16, 3) := by decide +kernel
theorem dX0_back_43 : decode cX0_back 43 = .ok (.iload_n 2, 1) := by decide +kernel
theorem dX0_back_44 : decode cX0_back 44 = .ok (.aload_n 0, 1) := by decide +kernel
theorem dX0_back_45 : decode cX0_back 45 = .ok (.getfield 19, 3) := by decide +kernel
theorem dX0_back_48 : decode cX0_back 48 = .ok (.iload_n 2, 1) := by decide +kernel
theorem dX0_back_49 : decode cX0_back 49 = .ok (.iaload, 1) := by decide +kernel
theorem dX0_back_50 : decode cX0_back 50 = .ok (.iastore, 1) := by decide +kernel
theorem dX0_back_51 : decode cX0_back 51 = .ok (.iinc 2 1, 3) := by decide +kernel
theorem dX0_back_54 : decode cX0_back 54 = .ok (.goto (-20), 3) := by decide +kernel
theorem dX0_back_57 : decode cX0_back 57 = .ok (.aload_n 0, 1) := by decide +kernel
theorem dX0_back_58 : decode cX0_back 58 = .ok (.iload_n 1, 1) := by decide +kernel
theorem dX0_back_59 : decode cX0_back 59 = .ok (.invokevirtual 46, 3) := by decide +kernel
theorem dX0_back_62 : decode cX0_back 62 = .ok (.iconst 0, 1) := by decide +kernel
theorem dX0_back_63 : decode cX0_back 63 = .ok (.istore_n 2, 1) := by decide +kernel
theorem dX0_back_64 : decode cX0_back 64 = .ok (.iload_n 2, 1) := by decide +kernel
theorem dX0_back_65 : decode cX0_back 65 = .ok (.iconst 4, 1) := by decide +kernel
theorem dX0_back_66 : decode cX0_back 66 = .ok (.if_icmp .ge 31, 3) := by decide +kernel
theorem dX0_back_69 : decode cX0_back 69 = .ok (.iload_n 1, 1) := by decide +kernel
theorem dX0_back_70 : decode cX0_back 70 = .ok (.ifCond .le 27, 3) := by decide +kernel
theorem dX0_back_73 : decode cX0_back 73 = .ok (.aload_n 0, 1) := by decide +kernel
theorem dX0_back_74 : decode cX0_back 74 = .ok (.getfield 16, 3) := by decide +kernel
theorem dX0_back_77 : decode cX0_back 77 = .ok (.iload_n 2, 1) := by decide +kernel
theorem dX0_back_78 : decode cX0_back 78 = .ok (.aload_n 0, 1) := by decide +kernel
theorem dX0_back_79 : decode cX0_back 79 = .ok (.getfield 16, 3) := by decide +kernel
theorem dX0_back_82 : decode cX0_back 82 = .ok (.iload_n 2, 1) := by decide +kernel
theorem dX0_back_83 : decode cX0_back 83 = .ok (.iaload, 1) := by decide +kernel
theorem dX0_back_84 : decode cX0_back 84 = .ok (.invokestatic 59, 3) := by decide +kernel
theorem dX0_back_87 : decode cX0_back 87 = .ok (.invokestatic 53, 3) := by decide +kernel
theorem dX0_back_90 : decode cX0_back 90 = .ok (.iastore, 1) := by decide +kernel
theorem dX0_back_91 : decode cX0_back 91 = .ok (.iinc 2 1, 3) := by decide +kernel
theorem dX0_back_94 : decode cX0_back 94 = .ok (.goto (-30), 3) := by decide +kernel
theorem dX0_back_97 : decode cX0_back 97 = .ok (.iinc 1 (-1), 3) := by decide +kernel
theorem dX0_back_100 : decode cX0_back 100 = .ok (.goto (-81), 3) := by decide +kernel
theorem dX0_back_103 : decode cX0_back 103 = .ok (.aload_n 0, 1) := by decide +kernel
theorem dX0_back_104 : decode cX0_back 104 = .ok (.invokevirtual 56, 3) := by decide +kernel
theorem dX0_back_107 : decode cX0_back 107 = .ok (.return_, 1) := by decide +kernel
set_option maxHeartbeats 4000000 in
set_option maxRecDepth 100000 in
theorem ct_X0_back (ll : Launch) (D : va_G) (ta : Nat → ClassId) (gs : Nat → Nat) (ha : Nat) (b1 : Nat) (b2 : Nat) (b3 : Nat) (b4 : Nat) (b5 : Nat) (b6 : Nat) (R : Nat) (gb : Nat → BitVec 8) (kw : Nat → Int32) (sw : Nat → Int32) (xw : Nat → Int32) (rk : Nat → BitVec 8) (hkw : ∀ j, j < 4 * (R + 1) → kw j = wdF rk j) (hR : 1 ≤ R ∧ R ≤ 14) (sz : Nat) : CT ll yX0_back cX0_back 3 none ({ frames := 1, cells := 0, slots := 0, locals := 23 } : Room) D ta ((GC gs)) [.ref ha] [(ha, oA b1 b2 b3 b4 b5 b6 R), (b1, aZ ta 16 gb), (b3, aZ ta 256 UBOX), (b4, aI ta 64 kw), (b5, aI ta 4 sw), (b6, aI ta 4 xw)] sz (S := (Nat → BitVec 8) × (Nat → Int32) × (Nat → Int32)) (fun _ => none) (fun u => (∀ k, k < 16 → u.1 k = aD rk R gb R k)) (fun u => [(ha, oA b1 b2 b3 b4 b5 b6 R), (b1, aZ ta 16 u.1), (b3, aZ ta 256 UBOX), (b4, aI ta 64 kw), (b5, aI ta 4 u.2.1), (b6, aI ta 4 u.2.2)]) 0 0 := by
  refine CT.of_v rfl (by decide) (Nat.le_of_ble_eq_true rfl) ?_
  have hGok := GC_ok gs
  intro pp ee ss mm below meth kc A Q hx hb hml hown hin hts hK hA hsz hG hret H locs hP hD hS ls hl
  have hl : lv_has ls 3 [(0, .ref ha)] := hl
  refine lv_aload_n (pc := 0) hx hb dX0_back_0 rfl (lv_at hl 0 rfl) ?_
  refine cs_V (pc := 1) (idx := 42) (n := 0) (wr := [(b3, aZ ta 256 UBOX), (b4, aI ta 64 kw), (b6, aI ta 4 xw)]) (As := []) (rest := []) (ci := 0) hx hb hml hown hts hGok hK hA hG hl.1 hP hD hS (ct_X0_load ll D ta hGok ha b1 b2 b3 b4 b5 b6 R gb sw  H.size) tw_544 tw_541 tw_543 tw_5 tw_74 hdX0_load rfl ⟨rfl, rfl, Nat.le_of_ble_eq_true rfl, Nat.le_of_ble_eq_true rfl, Nat.le_of_ble_eq_true rfl, Nat.le_of_ble_eq_true rfl⟩ rfl rfl (q0 := 0) rfl [0, 1, 4] [2, 3, 5] rfl rfl (by decide) rfl (Nat.le_of_ble_eq_true rfl) dX0_back_1 (fun u H locs hq hP hD hS => ?_)
  generalize u = sw1_1 at hq hP hD ⊢
  have hq : (∀ cz, cz < 4 → sw1_1 cz = wdF gb cz) := hq
  have hs_1 := hq
  refine W.eq (g2 := F0 mm 4 ls []) rfl ?_
  have hP : va_P D vwCl [(b3, aZ ta 256 UBOX), (b4, aI ta 64 kw), (b6, aI ta 4 xw), (ha, oA b1 b2 b3 b4 b5 b6 R), (b1, aZ ta 16 gb), (b5, aI ta 4 sw1_1)] H := hP
  have hD : va_D A [(b3, aZ ta 256 UBOX), (b4, aI ta 64 kw), (b6, aI ta 4 xw), (ha, oA b1 b2 b3 b4 b5 b6 R), (b1, aZ ta 16 gb), (b5, aI ta 4 sw1_1)] := hD
  refine lv_aload_n (pc := 4) hx hb dX0_back_4 rfl (lv_at hl 0 rfl) ?_
  refine lv_aload_n (pc := 5) hx hb dX0_back_5 rfl (lv_at hl 0 rfl) ?_
  refine va_get (pc := 6) (D := D) (ci := 0) (v := .int (nI R)) (C := RX0) (T := TX0) (N := 7) hx hb hts iu0 hown hK hP 3 rfl rfl 6 (by decide) (hts _ tw_326) (fun _ h9 => h9) rfl dX0_back_6 ?_
  refine cs_V (pc := 9) (idx := 46) (n := 1) (wr := [(b3, aZ ta 256 UBOX), (b6, aI ta 4 xw), (b1, aZ ta 16 gb)]) (As := [.int (nI R)]) (rest := []) (ci := 0) hx hb hml hown hts hGok hK hA hG hl.1 hP hD hS (ct_X0_addWords ll D ta hGok ha b1 b2 b3 b4 b5 b6 R sw1_1 kw gb rk R (hs_1) (fun j hj => hkw j (by omega)) (by first | assumption | omega | rfl | decide) H.size) tw_548 tw_545 tw_547 tw_6 tw_74 hdX0_addWords rfl ⟨rfl, rfl, Nat.le_of_ble_eq_true rfl, Nat.le_of_ble_eq_true rfl, Nat.le_of_ble_eq_true rfl, Nat.le_of_ble_eq_true rfl⟩ rfl rfl (q0 := 3) rfl [3, 1, 5] [0, 2, 4] rfl rfl (by decide) rfl (Nat.le_of_ble_eq_true rfl) dX0_back_9 (fun u H locs hq hP hD hS => ?_)
  generalize u = sw1_9 at hq hP hD ⊢
  have hq : (∀ cz, cz < 4 → sw1_9 cz = wdF (aAdd gb rk R) cz) := hq
  have hs_9 := hq
  refine W.eq (g2 := F0 mm 12 ls []) rfl ?_
  have hP : va_P D vwCl [(b3, aZ ta 256 UBOX), (b6, aI ta 4 xw), (b1, aZ ta 16 gb), (ha, oA b1 b2 b3 b4 b5 b6 R), (b4, aI ta 64 kw), (b5, aI ta 4 sw1_9)] H := hP
  have hD : va_D A [(b3, aZ ta 256 UBOX), (b6, aI ta 4 xw), (b1, aZ ta 16 gb), (ha, oA b1 b2 b3 b4 b5 b6 R), (b4, aI ta 64 kw), (b5, aI ta 4 sw1_9)] := hD
  refine lv_aload_n (pc := 12) hx hb dX0_back_12 rfl (lv_at hl 0 rfl) ?_
  refine va_get (pc := 13) (D := D) (ci := 0) (v := .int (nI R)) (C := RX0) (T := TX0) (N := 7) hx hb hts iu0 hown hK hP 3 rfl rfl 6 (by decide) (hts _ tw_326) (fun _ h9 => h9) rfl dX0_back_13 ?_
  refine lv_iconst (pc := 16) (v := nI 1) hx hb dX0_back_16 (by decide +kernel) ?_
  refine lv_isub (pc := 17) hx hb dX0_back_17 ?_
  refine q_top (y := qI R) (qI_of R) ?_
  refine lv_istore_n (pc := 18) (lv' := [(1, .int (qI R)), (0, .ref ha)]) hx hb dX0_back_18 rfl hl (by decide) rfl (fun ls hl => ?_)
  have LP19 : ∀ (nn19 : Nat) (m : Nat) (s' : Nat → Int32) (x' : Nat → Int32), (m ≤ R) → (∀ q, q < 4 → s' q = wdF (aD rk R gb (R - m)) q) → (m < nn19) → ∀ (H : Heap) (locs : List Loc), va_P D vwCl [(b3, aZ ta 256 UBOX), (b6, aI ta 4 x'), (b1, aZ ta 16 gb), (ha, oA b1 b2 b3 b4 b5 b6 R), (b4, aI ta 64 kw), (b5, aI ta 4 s')] H → va_D A [(b3, aZ ta 256 UBOX), (b6, aI ta 4 x'), (b1, aZ ta 16 gb), (ha, oA b1 b2 b3 b4 b5 b6 R), (b4, aI ta 64 kw), (b5, aI ta 4 s')] → va_S A ss.heap H locs → ∀ ls : Array Slot, lv_has ls 3 [(1, .int (qI m)), (0, .ref ha)] → W pp ll ee ({ frames := 1, cells := 0, slots := 0, locals := 23 } : Room) ss mm (([.ref ha] : List Value).toArray) below meth kc H locs 0 0 Q (F0 mm 19 ls []) := by
    intro nn19
    induction nn19 with
    | zero => intro m s' x' hcc hs hmu; exact absurd hmu (Nat.not_lt_zero _)
    | succ nn19 ih19 =>
      intro m s' x' hcc hs hmu19 H locs hP hD hS ls hl
      refine lv_iload_n (pc := 19) hx hb dX0_back_19 rfl (lv_at hl 0 rfl) ?_
      refine lv_if_lt (pc := 20) (tgt := 103) hx hb dX0_back_20 (by decide) (fun c_1 => ?_) (fun c_1 => ?_)
      · skip
        rw [qI_neg (by omega)] at c_1
        subst c_1
        refine lv_aload_n (pc := 103) hx hb dX0_back_103 rfl (lv_at hl 1 rfl) ?_
        refine cs_V (pc := 104) (idx := 56) (n := 0) (wr := [(b3, aZ ta 256 UBOX), (b6, aI ta 4 x'), (b4, aI ta 64 kw)]) (As := []) (rest := []) (ci := 0) hx hb hml hown hts hGok hK hA hG hl.1 hP hD hS (ct_X0_store ll D ta hGok ha b1 b2 b3 b4 b5 b6 R gb s' (aD rk R gb R) (fun q hq => by rw [hs q hq, Nat.sub_zero]) H.size) tw_561 tw_558 tw_560 tw_8 tw_74 hdX0_store rfl ⟨rfl, rfl, Nat.le_of_ble_eq_true rfl, Nat.le_of_ble_eq_true rfl, Nat.le_of_ble_eq_true rfl, Nat.le_of_ble_eq_true rfl⟩ rfl rfl (q0 := 3) rfl [3, 2, 5] [0, 1, 4] rfl rfl (by decide) rfl (Nat.le_of_ble_eq_true rfl) dX0_back_104 (fun u H locs hq hP hD hS => ?_)
        generalize u = gb1_104 at hq hP hD ⊢
        have hq : (∀ kz, kz < 16 → gb1_104 kz = (aD rk R gb R) kz) := hq
        have hs_104 := hq
        refine W.eq (g2 := F0 mm 107 ls []) rfl ?_
        have hP : va_P D vwCl [(b3, aZ ta 256 UBOX), (b6, aI ta 4 x'), (b4, aI ta 64 kw), (ha, oA b1 b2 b3 b4 b5 b6 R), (b1, aZ ta 16 gb1_104), (b5, aI ta 4 s')] H := hP
        have hD : va_D A [(b3, aZ ta 256 UBOX), (b6, aI ta 4 x'), (b4, aI ta 64 kw), (ha, oA b1 b2 b3 b4 b5 b6 R), (b1, aZ ta 16 gb1_104), (b5, aI ta 4 s')] := hD
        have hq_2 : (∀ k, k < 16 → gb1_104 k = aD rk R gb R k) := by
          exact hs_104
        exact hret (⟨(gb1_104), (s'), (x')⟩ : (Nat → BitVec 8) × (Nat → Int32) × (Nat → Int32)) _ _ _ _ dX0_back_107 hq_2 (hP.sub [3, 4, 0, 2, 5, 1] rfl) (hD.sub [3, 4, 0, 2, 5, 1] (by decide) rfl) hS
      · skip
        rw [qI_neg (by omega)] at c_1
        obtain ⟨t, rfl⟩ : ∃ t, m = t + 1 := ⟨m - 1, by omega⟩
        rw [qI_s] at hl
        refine lv_aload_n (pc := 23) hx hb dX0_back_23 rfl (lv_at hl 1 rfl) ?_
        refine lv_aload_n (pc := 24) hx hb dX0_back_24 rfl (lv_at hl 1 rfl) ?_
        refine va_get (pc := 25) (D := D) (ci := 0) (v := .ref b3) (C := RX0) (T := TX0) (N := 7) hx hb hts iu0 hown hK hP 3 rfl rfl 2 (by decide) (hts _ tw_322) (fun _ h9 => h9) rfl dX0_back_25 ?_
        refine lv_iconst (pc := 28) (v := nI 3) hx hb dX0_back_28 (by decide +kernel) ?_
        refine cs_V (pc := 29) (idx := 49) (n := 2) (wr := [(b1, aZ ta 16 gb), (b4, aI ta 64 kw)]) (As := [.ref b3, .int (nI 3)]) (rest := []) (ci := 0) hx hb hml hown hts hGok hK hA hG hl.1 hP hD hS (ct_X0_boxShifted_b ll D ta gs ha b1 b2 b3 b4 b5 b6 R s' x' (aD rk R gb (R - (t + 1))) (hs) H.size) tw_552 tw_549 tw_551 tw_7 tw_74 hdX0_boxShifted rfl ⟨rfl, rfl, Nat.le_of_ble_eq_true rfl, Nat.le_of_ble_eq_true rfl, Nat.le_of_ble_eq_true rfl, Nat.le_of_ble_eq_true rfl⟩ rfl rfl (q0 := 3) rfl [3, 0, 5, 1] [2, 4] rfl rfl (by decide) rfl (Nat.le_of_ble_eq_true rfl) dX0_back_29 (fun u H locs hq hP hD hS => ?_)
        generalize u = xw1_29 at hq hP hD ⊢
        have hq : (∀ cz, cz < 4 → xw1_29 cz = wdF (aUns (aD rk R gb (R - (t + 1)))) cz) := hq
        have hs_29 := hq
        refine W.eq (g2 := F0 mm 32 ls []) rfl ?_
        have hP : va_P D vwCl [(b1, aZ ta 16 gb), (b4, aI ta 64 kw), (ha, oA b1 b2 b3 b4 b5 b6 R), (b3, aZ ta 256 UBOX), (b5, aI ta 4 s'), (b6, aI ta 4 xw1_29)] H := hP
        have hD : va_D A [(b1, aZ ta 16 gb), (b4, aI ta 64 kw), (ha, oA b1 b2 b3 b4 b5 b6 R), (b3, aZ ta 256 UBOX), (b5, aI ta 4 s'), (b6, aI ta 4 xw1_29)] := hD
        refine lv_iconst (pc := 32) (v := nI 0) hx hb dX0_back_32 (by decide +kernel) ?_
        refine lv_istore_n (pc := 33) (lv' := [(2, .int (nI 0)), (1, .int (nI t)), (0, .ref ha)]) hx hb dX0_back_33 rfl hl (by decide) rfl (fun ls hl => ?_)
        have LP34 : ∀ (nn34 : Nat) (d : Nat) (d' : Nat → Int32), (d ≤ 4) → (qSeg d' s' 0 d (wdF (aUns (aD rk R gb (R - (t + 1)))))) → (4 - d < nn34) → ∀ (H : Heap) (locs : List Loc), va_P D vwCl [(b1, aZ ta 16 gb), (b4, aI ta 64 kw), (ha, oA b1 b2 b3 b4 b5 b6 R), (b3, aZ ta 256 UBOX), (b5, aI ta 4 d'), (b6, aI ta 4 xw1_29)] H → va_D A [(b1, aZ ta 16 gb), (b4, aI ta 64 kw), (ha, oA b1 b2 b3 b4 b5 b6 R), (b3, aZ ta 256 UBOX), (b5, aI ta 4 d'), (b6, aI ta 4 xw1_29)] → va_S A ss.heap H locs → ∀ ls : Array Slot, lv_has ls 3 [(2, .int (nI d)), (1, .int (nI t)), (0, .ref ha)] → W pp ll ee ({ frames := 1, cells := 0, slots := 0, locals := 23 } : Room) ss mm (([.ref ha] : List Value).toArray) below meth kc H locs 0 0 Q (F0 mm 34 ls []) := by
          intro nn34
          induction nn34 with
          | zero => intro d d' hdd hd hmu; exact absurd hmu (Nat.not_lt_zero _)
          | succ nn34 ih34 =>
            intro d d' hdd hd hmu34 H locs hP hD hS ls hl
            refine lv_iload_n (pc := 34) hx hb dX0_back_34 rfl (lv_at hl 0 rfl) ?_
            refine lv_iconst (pc := 35) (v := nI 4) hx hb dX0_back_35 (by decide +kernel) ?_
            refine lv_icmp_ge (pc := 36) (tgt := 57) hx hb dX0_back_36 (by decide) (fun c_3 => ?_) (fun c_3 => ?_)
            · skip
              rw [nI_leI (by omega) (by omega)] at c_3
              refine lv_aload_n (pc := 57) hx hb dX0_back_57 rfl (lv_at hl 2 rfl) ?_
              refine lv_iload_n (pc := 58) hx hb dX0_back_58 rfl (lv_at hl 1 rfl) ?_
              refine cs_V (pc := 59) (idx := 46) (n := 1) (wr := [(b1, aZ ta 16 gb), (b3, aZ ta 256 UBOX), (b6, aI ta 4 xw1_29)]) (As := [.int (nI t)]) (rest := []) (ci := 0) hx hb hml hown hts hGok hK hA hG hl.1 hP hD hS (ct_X0_addWords ll D ta hGok ha b1 b2 b3 b4 b5 b6 R d' kw (aUns (aD rk R gb (R - (t + 1)))) rk t (fun q hq => qSeg_at hd (by omega)) (fun j hj => hkw j (by omega)) (by first | assumption | omega | rfl | decide) H.size) tw_548 tw_545 tw_547 tw_6 tw_74 hdX0_addWords rfl ⟨rfl, rfl, Nat.le_of_ble_eq_true rfl, Nat.le_of_ble_eq_true rfl, Nat.le_of_ble_eq_true rfl, Nat.le_of_ble_eq_true rfl⟩ rfl rfl (q0 := 2) rfl [2, 1, 4] [0, 3, 5] rfl rfl (by decide) rfl (Nat.le_of_ble_eq_true rfl) dX0_back_59 (fun u H locs hq hP hD hS => ?_)
              generalize u = sw1_59 at hq hP hD ⊢
              have hq : (∀ cz, cz < 4 → sw1_59 cz = wdF (aAdd (aUns (aD rk R gb (R - (t + 1)))) rk t) cz) := hq
              have hs_59 := hq
              refine W.eq (g2 := F0 mm 62 ls []) rfl ?_
              have hP : va_P D vwCl [(b1, aZ ta 16 gb), (b3, aZ ta 256 UBOX), (b6, aI ta 4 xw1_29), (ha, oA b1 b2 b3 b4 b5 b6 R), (b4, aI ta 64 kw), (b5, aI ta 4 sw1_59)] H := hP
              have hD : va_D A [(b1, aZ ta 16 gb), (b3, aZ ta 256 UBOX), (b6, aI ta 4 xw1_29), (ha, oA b1 b2 b3 b4 b5 b6 R), (b4, aI ta 64 kw), (b5, aI ta 4 sw1_59)] := hD
              refine lv_iconst (pc := 62) (v := nI 0) hx hb dX0_back_62 (by decide +kernel) ?_
              refine lv_istore_n (pc := 63) (lv' := [(2, .int (nI 0)), (1, .int (nI t)), (0, .ref ha)]) hx hb dX0_back_63 rfl hl (by decide) rfl (fun ls hl => ?_)
              have LP64 : ∀ (nn64 : Nat) (e : Nat) (e' : Nat → Int32), (e ≤ 4 ∧ (t = 0 → e = 0)) → (qSeg e' sw1_59 0 e (wdF (aMix 14 11 13 9 (aAdd (aUns (aD rk R gb (R - (t + 1)))) rk t)))) → (∀ q, q < 4 → sw1_59 q = wdF (aAdd (aUns (aD rk R gb (R - (t + 1)))) rk t) q) → (4 - e < nn64) → ∀ (H : Heap) (locs : List Loc), va_P D vwCl [(b1, aZ ta 16 gb), (b3, aZ ta 256 UBOX), (b6, aI ta 4 xw1_29), (ha, oA b1 b2 b3 b4 b5 b6 R), (b4, aI ta 64 kw), (b5, aI ta 4 e')] H → va_D A [(b1, aZ ta 16 gb), (b3, aZ ta 256 UBOX), (b6, aI ta 4 xw1_29), (ha, oA b1 b2 b3 b4 b5 b6 R), (b4, aI ta 64 kw), (b5, aI ta 4 e')] → va_S A ss.heap H locs → ∀ ls : Array Slot, lv_has ls 3 [(2, .int (nI e)), (1, .int (nI t)), (0, .ref ha)] → W pp ll ee ({ frames := 1, cells := 0, slots := 0, locals := 23 } : Room) ss mm (([.ref ha] : List Value).toArray) below meth kc H locs 0 0 Q (F0 mm 64 ls []) := by
                intro nn64
                induction nn64 with
                | zero => intro e e' hee he he0 hmu; exact absurd hmu (Nat.not_lt_zero _)
                | succ nn64 ih64 =>
                  intro e e' hee he he0 hmu64 H locs hP hD hS ls hl
                  refine lv_iload_n (pc := 64) hx hb dX0_back_64 rfl (lv_at hl 0 rfl) ?_
                  refine lv_iconst (pc := 65) (v := nI 4) hx hb dX0_back_65 (by decide +kernel) ?_
                  refine lv_icmp_ge (pc := 66) (tgt := 97) hx hb dX0_back_66 (by decide) (fun c_4 => ?_) (fun c_4 => ?_)
                  · skip
                    rw [nI_leI (by omega) (by omega)] at c_4
                    refine lv_iinc (pc := 97) (v := qI t) (lv' := [(1, .int (qI t)), (2, .int (nI e)), (0, .ref ha)]) hx hb dX0_back_97 hl (k := 1) rfl rfl (by decide) rfl (fun ls hl => ?_)
                    refine lv_goto (pc := 100) (tgt := 19) hx hb dX0_back_100 (by decide) ?_
                    exact ih19 t e' xw1_29 (by omega) (aD_words (by omega) (by omega) ⟨he, he0, hee.2⟩) (by omega) _ _ (hP.sub [1, 2, 0, 3, 4, 5] rfl) (hD.sub [1, 2, 0, 3, 4, 5] (by decide) rfl) hS ls (lv_sub hl [0, 2] rfl)
                  · skip
                    rw [nI_leI (by omega) (by omega)] at c_4
                    refine lv_iload_n (pc := 69) hx hb dX0_back_69 rfl (lv_at hl 1 rfl) ?_
                    refine lv_if_le (pc := 70) (tgt := 97) hx hb dX0_back_70 (by decide) (fun c_5 => ?_) (fun c_5 => ?_)
                    · skip
                      rw [q_le0 (by omega)] at c_5
                      refine lv_iinc (pc := 97) (v := qI t) (lv' := [(1, .int (qI t)), (2, .int (nI e)), (0, .ref ha)]) hx hb dX0_back_97 hl (k := 1) rfl rfl (by decide) rfl (fun ls hl => ?_)
                      refine lv_goto (pc := 100) (tgt := 19) hx hb dX0_back_100 (by decide) ?_
                      exact ih19 t e' xw1_29 (by omega) (aD_words (by omega) (by omega) ⟨he, he0, hee.2⟩) (by omega) _ _ (hP.sub [1, 2, 0, 3, 4, 5] rfl) (hD.sub [1, 2, 0, 3, 4, 5] (by decide) rfl) hS ls (lv_sub hl [0, 2] rfl)
                    · skip
                      rw [q_le0 (by omega)] at c_5
                      refine lv_aload_n (pc := 73) hx hb dX0_back_73 rfl (lv_at hl 2 rfl) ?_
                      refine va_get (pc := 74) (D := D) (ci := 0) (v := .ref b5) (C := RX0) (T := TX0) (N := 7) hx hb hts iu0 hown hK hP 3 rfl rfl 4 (by decide) (hts _ tw_324) (fun _ h9 => h9) rfl dX0_back_74 ?_
                      refine lv_iload_n (pc := 77) hx hb dX0_back_77 rfl (lv_at hl 0 rfl) ?_
                      refine lv_aload_n (pc := 78) hx hb dX0_back_78 rfl (lv_at hl 2 rfl) ?_
                      refine va_get (pc := 79) (D := D) (ci := 0) (v := .ref b5) (C := RX0) (T := TX0) (N := 7) hx hb hts iu0 hown hK hP 3 rfl rfl 4 (by decide) (hts _ tw_324) (fun _ h9 => h9) rfl dX0_back_79 ?_
                      refine lv_iload_n (pc := 82) hx hb dX0_back_82 rfl (lv_at hl 0 rfl) ?_
                      refine q_iald (pc := 83) hx hb hK hP 5 0 rfl rfl (k := e) (v := e' e) rfl (by omega) (by omega) rfl dX0_back_83 ?_
                      refine cs_S (pc := 84) (idx := 59) (n := 1) (wr := [(b1, aZ ta 16 gb), (b3, aZ ta 256 UBOX), (b6, aI ta 4 xw1_29), (ha, oA b1 b2 b3 b4 b5 b6 R), (b4, aI ta 64 kw), (b5, aI ta 4 e')]) (As := [.int (e' e)]) (rest := [.int (nI e), .ref b5]) hx hb hml hown hts hGok hK hA hG hl.1 hP hD hS (ct_X0_beforeMix ll D ta hGok (e' e)  H.size) tw_826 tw_824 tw_825 tw_74 hdX0_beforeMix rfl ⟨rfl, rfl, Nat.le_of_ble_eq_true rfl, Nat.le_of_ble_eq_true rfl, Nat.le_of_ble_eq_true rfl, Nat.le_of_ble_eq_true rfl⟩ [] [0, 1, 2, 3, 4, 5] rfl rfl (by decide) rfl (Nat.le_of_ble_eq_true rfl) dX0_back_84 (fun u H locs hq hP hD hS => ?_)
                      refine W.eq (g2 := F0 mm 87 ls [.int (cBef (e' e)), .int (nI e), .ref b5]) rfl ?_
                      have hP : va_P D vwCl [(b1, aZ ta 16 gb), (b3, aZ ta 256 UBOX), (b6, aI ta 4 xw1_29), (ha, oA b1 b2 b3 b4 b5 b6 R), (b4, aI ta 64 kw), (b5, aI ta 4 e')] H := hP
                      have hD : va_D A [(b1, aZ ta 16 gb), (b3, aZ ta 256 UBOX), (b6, aI ta 4 xw1_29), (ha, oA b1 b2 b3 b4 b5 b6 R), (b4, aI ta 64 kw), (b5, aI ta 4 e')] := hD
                      refine cs_S (pc := 87) (idx := 53) (n := 1) (wr := [(b1, aZ ta 16 gb), (b3, aZ ta 256 UBOX), (b6, aI ta 4 xw1_29), (ha, oA b1 b2 b3 b4 b5 b6 R), (b4, aI ta 64 kw), (b5, aI ta 4 e')]) (As := [.int (cBef (e' e))]) (rest := [.int (nI e), .ref b5]) hx hb hml hown hts hGok hK hA hG hl.1 hP hD hS (ct_X0_mix ll D ta hGok (cBef (e' e))  H.size) tw_555 tw_553 tw_554 tw_74 hdX0_mix rfl ⟨rfl, rfl, Nat.le_of_ble_eq_true rfl, Nat.le_of_ble_eq_true rfl, Nat.le_of_ble_eq_true rfl, Nat.le_of_ble_eq_true rfl⟩ [] [0, 1, 2, 3, 4, 5] rfl rfl (by decide) rfl (Nat.le_of_ble_eq_true rfl) dX0_back_87 (fun u H locs hq hP hD hS => ?_)
                      refine W.eq (g2 := F0 mm 90 ls [.int (cMix (cBef (e' e))), .int (nI e), .ref b5]) rfl ?_
                      have hP : va_P D vwCl [(b1, aZ ta 16 gb), (b3, aZ ta 256 UBOX), (b6, aI ta 4 xw1_29), (ha, oA b1 b2 b3 b4 b5 b6 R), (b4, aI ta 64 kw), (b5, aI ta 4 e')] H := hP
                      have hD : va_D A [(b1, aZ ta 16 gb), (b3, aZ ta 256 UBOX), (b6, aI ta 4 xw1_29), (ha, oA b1 b2 b3 b4 b5 b6 R), (b4, aI ta 64 kw), (b5, aI ta 4 e')] := hD
                      refine q_iastI (pc := 90) hx hb hK hP hD hS 5 0 rfl rfl (k := e) rfl (by omega) (by omega)  dX0_back_90 (fun H locs hP hD hS => ?_)
                      have hP : va_P D vwCl [(b1, aZ ta 16 gb), (b3, aZ ta 256 UBOX), (b6, aI ta 4 xw1_29), (ha, oA b1 b2 b3 b4 b5 b6 R), (b4, aI ta 64 kw), (b5, aI ta 4 (qU e' e (cMix (cBef (e' e)))))] H := hP
                      have hD : va_D A [(b1, aZ ta 16 gb), (b3, aZ ta 256 UBOX), (b6, aI ta 4 xw1_29), (ha, oA b1 b2 b3 b4 b5 b6 R), (b4, aI ta 64 kw), (b5, aI ta 4 (qU e' e (cMix (cBef (e' e)))))] := hD
                      refine lv_iinc (pc := 91) (v := nI (e + 1)) (lv' := [(2, .int (nI (e + 1))), (1, .int (nI t)), (0, .ref ha)]) hx hb dX0_back_91 hl (k := 0) rfl (by first | exact nI_add e 1 | rfl) (by decide) rfl (fun ls hl => ?_)
                      refine lv_goto (pc := 94) (tgt := 64) hx hb dX0_back_94 (by decide) ?_
                      exact ih64 (e + 1) (qU e' e (cMix (cBef (e' e)))) (by omega) (qSeg_s he (by omega) (by rw [he.2 _ (by omega), he0 _ (by omega), wdF_unmix])) (he0) (by omega) _ _ (hP.sub [0, 1, 2, 3, 4, 5] rfl) (hD.sub [0, 1, 2, 3, 4, 5] (by decide) rfl) hS ls (lv_sub hl [0, 1, 2] rfl)
              exact LP64 _ 0 sw1_59 (by omega) (qSeg_0) (hs_59) (Nat.lt_succ_self _) _ _ (hP.sub [0, 1, 2, 3, 4, 5] rfl) (hD.sub [0, 1, 2, 3, 4, 5] (by decide) rfl) hS ls (lv_sub hl [0, 1, 2] rfl)
            · skip
              rw [nI_leI (by omega) (by omega)] at c_3
              refine lv_aload_n (pc := 39) hx hb dX0_back_39 rfl (lv_at hl 2 rfl) ?_
              refine va_get (pc := 40) (D := D) (ci := 0) (v := .ref b5) (C := RX0) (T := TX0) (N := 7) hx hb hts iu0 hown hK hP 2 rfl rfl 4 (by decide) (hts _ tw_324) (fun _ h9 => h9) rfl dX0_back_40 ?_
              refine lv_iload_n (pc := 43) hx hb dX0_back_43 rfl (lv_at hl 0 rfl) ?_
              refine lv_aload_n (pc := 44) hx hb dX0_back_44 rfl (lv_at hl 2 rfl) ?_
              refine va_get (pc := 45) (D := D) (ci := 0) (v := .ref b6) (C := RX0) (T := TX0) (N := 7) hx hb hts iu0 hown hK hP 2 rfl rfl 5 (by decide) (hts _ tw_325) (fun _ h9 => h9) rfl dX0_back_45 ?_
              refine lv_iload_n (pc := 48) hx hb dX0_back_48 rfl (lv_at hl 0 rfl) ?_
              refine q_iald (pc := 49) hx hb hK hP 5 0 rfl rfl (k := d) (v := xw1_29 d) rfl (by omega) (by omega) rfl dX0_back_49 ?_
              refine q_iastI (pc := 50) hx hb hK hP hD hS 4 0 rfl rfl (k := d) rfl (by omega) (by omega)  dX0_back_50 (fun H locs hP hD hS => ?_)
              have hP : va_P D vwCl [(b1, aZ ta 16 gb), (b4, aI ta 64 kw), (ha, oA b1 b2 b3 b4 b5 b6 R), (b3, aZ ta 256 UBOX), (b5, aI ta 4 (qU d' d (xw1_29 d))), (b6, aI ta 4 xw1_29)] H := hP
              have hD : va_D A [(b1, aZ ta 16 gb), (b4, aI ta 64 kw), (ha, oA b1 b2 b3 b4 b5 b6 R), (b3, aZ ta 256 UBOX), (b5, aI ta 4 (qU d' d (xw1_29 d))), (b6, aI ta 4 xw1_29)] := hD
              refine lv_iinc (pc := 51) (v := nI (d + 1)) (lv' := [(2, .int (nI (d + 1))), (1, .int (nI t)), (0, .ref ha)]) hx hb dX0_back_51 hl (k := 0) rfl (by first | exact nI_add d 1 | rfl) (by decide) rfl (fun ls hl => ?_)
              refine lv_goto (pc := 54) (tgt := 34) hx hb dX0_back_54 (by decide) ?_
              exact ih34 (d + 1) (qU d' d (xw1_29 d)) (by omega) (qSeg_s hd (by omega) (hs_29 _ (by omega))) (by omega) _ _ (hP.sub [0, 1, 2, 3, 4, 5] rfl) (hD.sub [0, 1, 2, 3, 4, 5] (by decide) rfl) hS ls (lv_sub hl [0, 1, 2] rfl)
        exact LP34 _ 0 s' (by omega) (qSeg_0) (Nat.lt_succ_self _) _ _ (hP.sub [0, 1, 2, 3, 4, 5] rfl) (hD.sub [0, 1, 2, 3, 4, 5] (by decide) rfl) hS ls (lv_sub hl [0, 1, 2] rfl)
  exact LP19 _ R sw1_9 xw (by omega) (by rw [Nat.sub_self]; exact hs_9) (Nat.lt_succ_self _) _ _ (hP.sub [0, 1, 2, 3, 4, 5] rfl) (hD.sub [0, 1, 2, 3, 4, 5] (by decide) rfl) hS ls (lv_sub hl [0, 1] rfl)
theorem hdX0_setKey : yX0_setKey.cls ≠ "java/lang/invoke/MethodHandle" ∧ yX0_setKey.cls ≠ "java/lang/invoke/VarHandle" ∧ (parseMethodDescriptor yX0_setKey.desc).map (fun d => d.parameters.length) = some 1 := ⟨by decide +kernel, by decide +kernel, by decide +kernel⟩
theorem dX0_setKey_0 : decode cX0_setKey 0 = .ok (.aload_n 1, 1) := by decide +kernel
theorem dX0_setKey_1 : decode cX0_setKey 1 = .ok (.invokevirtual 29, 3) := by decide +kernel
theorem dX0_setKey_4 : decode cX0_setKey 4 = .ok (.iconst 4, 1) := by decide +kernel
theorem dX0_setKey_5 : decode cX0_setKey 5 = .ok (.idiv, 1) := by decide +kernel
theorem dX0_setKey_6 : decode cX0_setKey 6 = .ok (.istore_n 2, 1) := by decide +kernel
theorem dX0_setKey_7 : decode cX0_setKey 7 = .ok (.iload_n 2, 1) := by decide +kernel
theorem dX0_setKey_8 : decode cX0_setKey 8 = .ok (.iconst 4, 1) := by decide +kernel
theorem dX0_setKey_9 : decode cX0_setKey 9 = .ok (.if_icmp .lt 9, 3) := by decide +kernel
theorem dX0_setKey_12 : decode cX0_setKey 12 = .ok (.iload_n 2, 1) := by decide +kernel
theorem dX0_setKey_13 : decode cX0_setKey 13 = .ok (.bipush 8, 2) := by decide +kernel
theorem dX0_setKey_15 : decode cX0_setKey 15 = .ok (.if_icmp .le 4, 3) := by decide +kernel
theorem dX0_setKey_18 : decode cX0_setKey 18 = .ok (.return_, 1) := by decide +kernel
theorem dX0_setKey_19 : decode cX0_setKey 19 = .ok (.aload_n 0, 1) := by decide +kernel
theorem dX0_setKey_20 : decode cX0_setKey 20 = .ok (.iload_n 2, 1) := by decide +kernel
theorem dX0_setKey_21 : decode cX0_setKey 21 = .ok (.bipush 6, 2) := by decide +kernel
theorem dX0_setKey_23 : decode cX0_setKey 23 = .ok (.iadd, 1) := by decide +kernel
theorem dX0_setKey_24 : decode cX0_setKey 24 = .ok (.putfield 22, 3) := by decide +kernel
theorem dX0_setKey_27 : decode cX0_setKey 27 = .ok (.iconst 0, 1) := by decide +kernel
theorem dX0_setKey_28 : decode cX0_setKey 28 = .ok (.istore_n 3, 1) := by decide +kernel
theorem dX0_setKey_29 : decode cX0_setKey 29 = .ok (.iload_n 3, 1) := by decide +kernel
theorem dX0_setKey_30 : decode cX0_setKey 30 = .ok (.iload_n 2, 1) := by decide +kernel
theorem dX0_setKey_31 : decode cX0_setKey 31 = .ok (.if_icmp .ge 61, 3) := by decide +kernel
theorem dX0_setKey_34 : decode cX0_setKey 34 = .ok (.aload_n 0, 1) := by decide +kernel
theorem dX0_setKey_35 : decode cX0_setKey 35 = .ok (.getfield 13, 3) := by decide +kernel
theorem dX0_setKey_38 : decode cX0_setKey 38 = .ok (.iload_n 3, 1) := by decide +kernel
theorem dX0_setKey_39 : decode cX0_setKey 39 = .ok (.iconst 0, 1) := by decide +kernel
theorem dX0_setKey_40 : decode cX0_setKey 40 = .ok (.iastore, 1) := by decide +kernel
theorem dX0_setKey_41 : decode cX0_setKey 41 = .ok (.iconst 0, 1) := by decide +kernel
theorem dX0_setKey_42 : decode cX0_setKey 42 = .ok (.istore 4, 2) := by decide +kernel
theorem dX0_setKey_44 : decode cX0_setKey 44 = .ok (.iload 4, 2) := by decide +kernel
theorem dX0_setKey_46 : decode cX0_setKey 46 = .ok (.iconst 4, 1) := by decide +kernel
theorem dX0_setKey_47 : decode cX0_setKey 47 = .ok (.if_icmp .ge 39, 3) := by decide +kernel
theorem dX0_setKey_50 : decode cX0_setKey 50 = .ok (.aload_n 0, 1) := by decide +kernel
theorem dX0_setKey_51 : decode cX0_setKey 51 = .ok (.getfield 13, 3) := by decide +kernel
theorem dX0_setKey_54 : decode cX0_setKey 54 = .ok (.iload_n 3, 1) := by decide +kernel
theorem dX0_setKey_55 : decode cX0_setKey 55 = .ok (.aload_n 0, 1) := by decide +kernel
theorem dX0_setKey_56 : decode cX0_setKey 56 = .ok (.getfield 13, 3) := by decide +kernel
theorem dX0_setKey_59 : decode cX0_setKey 59 = .ok (.iload_n 3, 1) := by decide +kernel
theorem dX0_setKey_60 : decode cX0_setKey 60 = .ok (.iaload, 1) := by decide +kernel
theorem dX0_setKey_61 : decode cX0_setKey 61 = .ok (.bipush 8, 2) := by decide +kernel
theorem dX0_setKey_63 : decode cX0_setKey 63 = .ok (.ishl, 1) := by decide +kernel
theorem dX0_setKey_64 : decode cX0_setKey 64 = .ok (.aload_n 1, 1) := by decide +kernel
theorem dX0_setKey_65 : decode cX0_setKey 65 = .ok (.iconst 4, 1) := by decide +kernel
theorem dX0_setKey_66 : decode cX0_setKey 66 = .ok (.iload_n 3, 1) := by decide +kernel
theorem dX0_setKey_67 : decode cX0_setKey 67 = .ok (.imul, 1) := by decide +kernel
theorem dX0_setKey_68 : decode cX0_setKey 68 = .ok (.iload 4, 2) := by decide +kernel
theorem dX0_setKey_70 : decode cX0_setKey 70 = .ok (.iadd, 1) := by decide +kernel
theorem dX0_setKey_71 : decode cX0_setKey 71 = .ok (.invokevirtual 35, 3) := by decide +kernel
theorem dX0_setKey_74 : decode cX0_setKey 74 = .ok (.sipush 255, 3) := by decide +kernel
theorem dX0_setKey_77 : decode cX0_setKey 77 = .ok (.iand, 1) := by decide +kernel
theorem dX0_setKey_78 : decode cX0_setKey 78 = .ok (.ior, 1) := by decide +kernel
theorem dX0_setKey_79 : decode cX0_setKey 79 = .ok (.iastore, 1) := by decide +kernel
theorem dX0_setKey_80 : decode cX0_setKey 80 = .ok (.iinc 4 1, 3) := by decide +kernel
theorem dX0_setKey_83 : decode cX0_setKey 83 = .ok (.goto (-39), 3) := by decide +kernel
theorem dX0_setKey_86 : decode cX0_setKey 86 = .ok (.iinc 3 1, 3) := by decide +kernel
theorem dX0_setKey_89 : decode cX0_setKey 89 = .ok (.goto (-60), 3) := by decide +kernel
theorem dX0_setKey_92 : decode cX0_setKey 92 = .ok (.iconst 1, 1) := by decide +kernel
theorem dX0_setKey_93 : decode cX0_setKey 93 = .ok (.istore_n 3, 1) := by decide +kernel
theorem dX0_setKey_94 : decode cX0_setKey 94 = .ok (.iload_n 2, 1) := by decide +kernel
theorem dX0_setKey_95 : decode cX0_setKey 95 = .ok (.istore 4, 2) := by decide +kernel
theorem dX0_setKey_97 : decode cX0_setKey 97 = .ok (.iload 4, 2) := by decide +kernel
theorem dX0_setKey_99 : decode cX0_setKey 99 = .ok (.iconst 4, 1) := by decide +kernel
theorem dX0_setKey_100 : decode cX0_setKey 100 = .ok (.aload_n 0, 1) := by decide +kernel
theorem dX0_setKey_101 : decode cX0_setKey 101 = .ok (.getfield 22, 3) := by decide +kernel
theorem dX0_setKey_104 : decode cX0_setKey 104 = .ok (.iconst 1, 1) := by decide +kernel
theorem dX0_setKey_105 : decode cX0_setKey 105 = .ok (.iadd, 1) := by decide +kernel
theorem dX0_setKey_106 : decode cX0_setKey 106 = .ok (.imul, 1) := by decide +kernel
theorem dX0_setKey_107 : decode cX0_setKey 107 = .ok (.if_icmp .ge 113, 3) := by decide +kernel
theorem dX0_setKey_110 : decode cX0_setKey 110 = .ok (.aload_n 0, 1) := by decide +kernel
theorem dX0_setKey_111 : decode cX0_setKey 111 = .ok (.getfield 13, 3) := by decide +kernel
theorem dX0_setKey_114 : decode cX0_setKey 114 = .ok (.iload 4, 2) := by decide +kernel
theorem dX0_setKey_116 : decode cX0_setKey 116 = .ok (.iconst 1, 1) := by decide +kernel
theorem dX0_setKey_117 : decode cX0_setKey 117 = .ok (.isub, 1) := by decide +kernel
theorem dX0_setKey_118 : decode cX0_setKey 118 = .ok (.bipush 63, 2) := by decide +kernel
theorem dX0_setKey_120 : decode cX0_setKey 120 = .ok (.iand, 1) := by decide +kernel
theorem dX0_setKey_121 : decode cX0_setKey 121 = .ok (.iaload, 1) := by decide +kernel
theorem dX0_setKey_122 : decode cX0_setKey 122 = .ok (.istore 5, 2) := by decide +kernel
theorem dX0_setKey_124 : decode cX0_setKey 124 = .ok (.iload 4, 2) := by decide +kernel
theorem dX0_setKey_126 : decode cX0_setKey 126 = .ok (.iload_n 2, 1) := by decide +kernel
theorem dX0_setKey_127 : decode cX0_setKey 127 = .ok (.irem, 1) := by decide +kernel
theorem dX0_setKey_128 : decode cX0_setKey 128 = .ok (.ifCond .ne 40, 3) := by decide +kernel
theorem dX0_setKey_131 : decode cX0_setKey 131 = .ok (.iload 5, 2) := by decide +kernel
theorem dX0_setKey_133 : decode cX0_setKey 133 = .ok (.bipush 8, 2) := by decide +kernel
theorem dX0_setKey_135 : decode cX0_setKey 135 = .ok (.ishl, 1) := by decide +kernel
theorem dX0_setKey_136 : decode cX0_setKey 136 = .ok (.iload 5, 2) := by decide +kernel
theorem dX0_setKey_138 : decode cX0_setKey 138 = .ok (.bipush 24, 2) := by decide +kernel
theorem dX0_setKey_140 : decode cX0_setKey 140 = .ok (.iushr, 1) := by decide +kernel
theorem dX0_setKey_141 : decode cX0_setKey 141 = .ok (.ior, 1) := by decide +kernel
theorem dX0_setKey_142 : decode cX0_setKey 142 = .ok (.invokestatic 39, 3) := by decide +kernel
theorem dX0_setKey_145 : decode cX0_setKey 145 = .ok (.iload_n 3, 1) := by decide +kernel
theorem dX0_setKey_146 : decode cX0_setKey 146 = .ok (.bipush 24, 2) := by decide +kernel
theorem dX0_setKey_148 : decode cX0_setKey 148 = .ok (.ishl, 1) := by decide +kernel
theorem dX0_setKey_149 : decode cX0_setKey 149 = .ok (.ixor, 1) := by decide +kernel
theorem dX0_setKey_150 : decode cX0_setKey 150 = .ok (.istore 5, 2) := by decide +kernel
theorem dX0_setKey_152 : decode cX0_setKey 152 = .ok (.iload_n 3, 1) := by decide +kernel
theorem dX0_setKey_153 : decode cX0_setKey 153 = .ok (.iconst 1, 1) := by decide +kernel
theorem dX0_setKey_154 : decode cX0_setKey 154 = .ok (.ishl, 1) := by decide +kernel
theorem dX0_setKey_155 : decode cX0_setKey 155 = .ok (.iload_n 3, 1) := by decide +kernel
theorem dX0_setKey_156 : decode cX0_setKey 156 = .ok (.bipush 7, 2) := by decide +kernel
theorem dX0_setKey_158 : decode cX0_setKey 158 = .ok (.iushr, 1) := by decide +kernel
theorem dX0_setKey_159 : decode cX0_setKey 159 = .ok (.sipush 283, 3) := by decide +kernel
theorem dX0_setKey_162 : decode cX0_setKey 162 = .ok (.imul, 1) := by decide +kernel
theorem dX0_setKey_163 : decode cX0_setKey 163 = .ok (.ixor, 1) := by decide +kernel
theorem dX0_setKey_164 : decode cX0_setKey 164 = .ok (.istore_n 3, 1) := by decide +kernel
theorem dX0_setKey_165 : decode cX0_setKey 165 = .ok (.goto 24, 3) := by decide +kernel
theorem dX0_setKey_168 : decode cX0_setKey 168 = .ok (.iload_n 2, 1) := by decide +kernel
theorem dX0_setKey_169 : decode cX0_setKey 169 = .ok (.bipush 6, 2) := by decide +kernel
theorem dX0_setKey_171 : decode cX0_setKey 171 = .ok (.if_icmp .le 18, 3) := by decide +kernel
theorem dX0_setKey_174 : decode cX0_setKey 174 = .ok (.iload 4, 2) := by decide +kernel
theorem dX0_setKey_176 : decode cX0_setKey 176 = .ok (.iload_n 2, 1) := by decide +kernel
theorem dX0_setKey_177 : decode cX0_setKey 177 = .ok (.irem, 1) := by decide +kernel
theorem dX0_setKey_178 : decode cX0_setKey 178 = .ok (.iconst 4, 1) := by decide +kernel
theorem dX0_setKey_179 : decode cX0_setKey 179 = .ok (.if_icmp .ne 10, 3) := by decide +kernel
theorem dX0_setKey_182 : decode cX0_setKey 182 = .ok (.iload 5, 2) := by decide +kernel
theorem dX0_setKey_184 : decode cX0_setKey 184 = .ok (.invokestatic 39, 3) := by decide +kernel
theorem dX0_setKey_187 : decode cX0_setKey 187 = .ok (.istore 5, 2) := by decide +kernel
theorem dX0_setKey_189 : decode cX0_setKey 189 = .ok (.aload_n 0, 1) := by decide +kernel
theorem dX0_setKey_190 : decode cX0_setKey 190 = .ok (.getfield 13, 3) := by decide +kernel
theorem dX0_setKey_193 : decode cX0_setKey 193 = .ok (.iload 4, 2) := by decide +kernel
theorem dX0_setKey_195 : decode cX0_setKey 195 = .ok (.bipush 63, 2) := by decide +kernel
theorem dX0_setKey_197 : decode cX0_setKey 197 = .ok (.iand, 1) := by decide +kernel
theorem dX0_setKey_198 : decode cX0_setKey 198 = .ok (.aload_n 0, 1) := by decide +kernel
theorem dX0_setKey_199 : decode cX0_setKey 199 = .ok (.getfield 13, 3) := by decide +kernel
theorem dX0_setKey_202 : decode cX0_setKey 202 = .ok (.iload 4, 2) := by decide +kernel
theorem dX0_setKey_204 : decode cX0_setKey 204 = .ok (.iload_n 2, 1) := by decide +kernel
theorem dX0_setKey_205 : decode cX0_setKey 205 = .ok (.isub, 1) := by decide +kernel
theorem dX0_setKey_206 : decode cX0_setKey 206 = .ok (.bipush 63, 2) := by decide +kernel
theorem dX0_setKey_208 : decode cX0_setKey 208 = .ok (.iand, 1) := by decide +kernel
theorem dX0_setKey_209 : decode cX0_setKey 209 = .ok (.iaload, 1) := by decide +kernel
theorem dX0_setKey_210 : decode cX0_setKey 210 = .ok (.iload 5, 2) := by decide +kernel
theorem dX0_setKey_212 : decode cX0_setKey 212 = .ok (.ixor, 1) := by decide +kernel
theorem dX0_setKey_213 : decode cX0_setKey 213 = .ok (.iastore, 1) := by decide +kernel
theorem dX0_setKey_214 : decode cX0_setKey 214 = .ok (.iinc 4 1, 3) := by decide +kernel
theorem dX0_setKey_217 : decode cX0_setKey 217 = .ok (.goto (-120), 3) := by decide +kernel
theorem dX0_setKey_220 : decode cX0_setKey 220 = .ok (.return_, 1) := by decide +kernel
set_option maxHeartbeats 4000000 in
set_option maxRecDepth 100000 in
theorem ct_X0_setKey_4 (ll : Launch) (D : va_G) (ta : Nat → ClassId) (gs : Nat → Nat) (ha : Nat) (b1 : Nat) (b2 : Nat) (b3 : Nat) (b4 : Nat) (b5 : Nat) (b6 : Nat) (R : Nat) (kw : Nat → Int32) (hr : Nat) (br : Nat) (capr : Nat) (gr : Nat → BitVec 8) (hcp : 16 ≤ capr) (hcr : capr < 2147483648) (sz : Nat) : CT ll yX0_setKey cX0_setKey 6 none ({ frames := 1, cells := 0, slots := 0, locals := 21 } : Room) D ta ((GC gs)) [.ref ha, .ref hr] [(ha, oA b1 b2 b3 b4 b5 b6 R), (b4, aI ta 64 kw), (hr, oR br 16), (br, aZ ta capr gr)] sz (S := (Nat → Int32)) (fun _ => none) (fun u => (∀ j, j < 44 → u j = wdF (aKey gr 4 40) j)) (fun u => [(ha, oA b1 b2 b3 b4 b5 b6 10), (b4, aI ta 64 u), (hr, oR br 16), (br, aZ ta capr gr)]) 0 0 := by
  refine CT.of_v rfl (by decide) (Nat.le_of_ble_eq_true rfl) ?_
  have hGok := GC_ok gs
  intro pp ee ss mm below meth kc A Q hx hb hml hown hin hts hK hA hsz hG hret H locs hP hD hS ls hl
  have hl : lv_has ls 6 [(0, .ref ha), (1, .ref hr)] := hl
  refine lv_aload_n (pc := 0) hx hb dX0_setKey_0 rfl (lv_at hl 1 rfl) ?_
  refine cs_V (pc := 1) (idx := 29) (n := 0) (wr := [(ha, oA b1 b2 b3 b4 b5 b6 R), (b4, aI ta 64 kw)]) (As := []) (rest := []) (ci := 5) hx hb hml hown hts hGok hK hA hG hl.1 hP hD hS (ct_X6_size ll D ta hGok hr br capr gr 16  H.size) tw_393 tw_516 tw_391 tw_392 tw_66 hdX6_size rfl ⟨rfl, rfl, Nat.le_of_ble_eq_true rfl, Nat.le_of_ble_eq_true rfl, Nat.le_of_ble_eq_true rfl, Nat.le_of_ble_eq_true rfl⟩ rfl rfl (q0 := 2) rfl [2, 3] [0, 1] rfl rfl (by decide) rfl (Nat.le_of_ble_eq_true rfl) dX0_setKey_1 (fun u H locs hq hP hD hS => ?_)
  refine W.eq (g2 := F0 mm 4 ls [.int (nI 16)]) rfl ?_
  have hP : va_P D vwCl [(ha, oA b1 b2 b3 b4 b5 b6 R), (b4, aI ta 64 kw), (hr, oR br 16), (br, aZ ta capr gr)] H := hP
  have hD : va_D A [(ha, oA b1 b2 b3 b4 b5 b6 R), (b4, aI ta 64 kw), (hr, oR br 16), (br, aZ ta capr gr)] := hD
  refine lv_iconst (pc := 4) (v := nI 4) hx hb dX0_setKey_4 (by decide +kernel) ?_
  refine lv_idiv (pc := 5) hx hb dX0_setKey_5 (q_ne0 (by omega) (by omega)) ?_
  refine q_top (y := nI (16 / 4)) (pk_div (by omega) (by omega) (by omega)) ?_
  refine q_top (y := nI 4) (by decide) ?_
  refine lv_istore_n (pc := 6) (lv' := [(2, .int (nI 4)), (0, .ref ha), (1, .ref hr)]) hx hb dX0_setKey_6 rfl hl (by decide) rfl (fun ls hl => ?_)
  refine lv_iload_n (pc := 7) hx hb dX0_setKey_7 rfl (lv_at hl 0 rfl) ?_
  refine lv_iconst (pc := 8) (v := nI 4) hx hb dX0_setKey_8 (by decide +kernel) ?_
  refine lv_icmp_lt (pc := 9) (tgt := 18) hx hb dX0_setKey_9 (by decide) (fun c_1 => absurd c_1 (by decide)) (fun _ => ?_)
  refine lv_iload_n (pc := 12) hx hb dX0_setKey_12 rfl (lv_at hl 0 rfl) ?_
  refine lv_bipush (pc := 13) (v := nI 8) hx hb dX0_setKey_13 (by decide +kernel) ?_
  refine lv_icmp_le (pc := 15) (tgt := 19) hx hb dX0_setKey_15 (by decide) (fun _ => ?_) (fun c_2 => absurd (by decide) c_2)
  refine lv_aload_n (pc := 19) hx hb dX0_setKey_19 rfl (lv_at hl 1 rfl) ?_
  refine lv_iload_n (pc := 20) hx hb dX0_setKey_20 rfl (lv_at hl 0 rfl) ?_
  refine lv_bipush (pc := 21) (v := nI 6) hx hb dX0_setKey_21 (by decide +kernel) ?_
  refine lv_iadd (pc := 23) hx hb dX0_setKey_23 ?_
  refine q_top (y := nI 10) (by decide +kernel) ?_
  refine va_put (pc := 24) (D := D) (ci := 0) (v := .int (nI 10)) (ty := .int) (C := RX0) (T := TX0) (N := 7) hx hb hts iu0 tyX0 tyX0_ok nmX0 hown hK hP hD hS 0 rfl rfl 6 (by decide) (hts _ tw_326) (fun _ h9 => h9) rfl (by decide +kernel) rfl rfl (Nat.le_of_ble_eq_true rfl) dX0_setKey_24 (fun H locs hP hD hS => ?_)
  have hP : va_P D vwCl [(ha, oA b1 b2 b3 b4 b5 b6 10), (b4, aI ta 64 kw), (hr, oR br 16), (br, aZ ta capr gr)] H := hP
  have hD : va_D A [(ha, oA b1 b2 b3 b4 b5 b6 10), (b4, aI ta 64 kw), (hr, oR br 16), (br, aZ ta capr gr)] := hD
  refine lv_iconst (pc := 27) (v := nI 0) hx hb dX0_setKey_27 (by decide +kernel) ?_
  refine lv_istore_n (pc := 28) (lv' := [(3, .int (nI 0)), (2, .int (nI 4)), (0, .ref ha), (1, .ref hr)]) hx hb dX0_setKey_28 rfl hl (by decide) rfl (fun ls hl => ?_)
  have LP29 : ∀ (nn29 : Nat) (i : Nat) (w' : Nat → Int32), (i ≤ 4) → (∀ q, q < i → w' q = wdF gr q) → (4 - i < nn29) → ∀ (H : Heap) (locs : List Loc), va_P D vwCl [(ha, oA b1 b2 b3 b4 b5 b6 10), (b4, aI ta 64 w'), (hr, oR br 16), (br, aZ ta capr gr)] H → va_D A [(ha, oA b1 b2 b3 b4 b5 b6 10), (b4, aI ta 64 w'), (hr, oR br 16), (br, aZ ta capr gr)] → va_S A ss.heap H locs → ∀ ls : Array Slot, lv_has ls 6 [(3, .int (nI i)), (2, .int (nI 4)), (0, .ref ha), (1, .ref hr)] → W pp ll ee ({ frames := 1, cells := 0, slots := 0, locals := 21 } : Room) ss mm (([.ref ha, .ref hr] : List Value).toArray) below meth kc H locs 0 0 Q (F0 mm 29 ls []) := by
    intro nn29
    induction nn29 with
    | zero => intro i w' hii hs hmu; exact absurd hmu (Nat.not_lt_zero _)
    | succ nn29 ih29 =>
      intro i w' hii hs hmu29 H locs hP hD hS ls hl
      refine lv_iload_n (pc := 29) hx hb dX0_setKey_29 rfl (lv_at hl 0 rfl) ?_
      refine lv_iload_n (pc := 30) hx hb dX0_setKey_30 rfl (lv_at hl 1 rfl) ?_
      refine lv_icmp_ge (pc := 31) (tgt := 92) hx hb dX0_setKey_31 (by decide) (fun c_3 => ?_) (fun c_3 => ?_)
      · skip
        rw [nI_leI (by omega) (by omega)] at c_3
        refine lv_iconst (pc := 92) (v := nI 1) hx hb dX0_setKey_92 (by decide +kernel) ?_
        refine q_top (y := qz (1#8)) (by decide) ?_
        refine lv_istore_n (pc := 93) (lv' := [(3, .int (qz (1#8))), (2, .int (nI 4)), (0, .ref ha), (1, .ref hr)]) hx hb dX0_setKey_93 rfl hl (by decide) rfl (fun ls hl => ?_)
        refine lv_iload_n (pc := 94) hx hb dX0_setKey_94 rfl (lv_at hl 1 rfl) ?_
        refine lv_istore (pc := 95) (lv' := [(4, .int (nI 4)), (3, .int (qz (1#8))), (2, .int (nI 4)), (0, .ref ha), (1, .ref hr)]) hx hb dX0_setKey_95 hl (by decide) rfl (fun ls hl => ?_)
        have LP97 : ∀ (nn97 : Nat) (c : Nat) (k1 : BitVec 8) (u' : Nat → Int32), (c ≤ 40) → (k1 = xtn 1#8 ((4 + c - 1) / 4)) → (∀ q, q < 4 + c → u' q = wdF (aKey gr 4 c) q) → (40 - c < nn97) → ∀ (H : Heap) (locs : List Loc), va_P D vwCl [(ha, oA b1 b2 b3 b4 b5 b6 10), (b4, aI ta 64 u'), (hr, oR br 16), (br, aZ ta capr gr)] H → va_D A [(ha, oA b1 b2 b3 b4 b5 b6 10), (b4, aI ta 64 u'), (hr, oR br 16), (br, aZ ta capr gr)] → va_S A ss.heap H locs → ∀ ls : Array Slot, lv_has ls 6 [(4, .int (nI (4 + c))), (3, .int (qz k1)), (2, .int (nI 4)), (0, .ref ha), (1, .ref hr)] → W pp ll ee ({ frames := 1, cells := 0, slots := 0, locals := 21 } : Room) ss mm (([.ref ha, .ref hr] : List Value).toArray) below meth kc H locs 0 0 Q (F0 mm 97 ls []) := by
          intro nn97
          induction nn97 with
          | zero => intro c k1 u' hcc hk1 hs3 hmu; exact absurd hmu (Nat.not_lt_zero _)
          | succ nn97 ih97 =>
            intro c k1 u' hcc hk1 hs3 hmu97 H locs hP hD hS ls hl
            refine lv_iload (pc := 97) hx hb dX0_setKey_97 (lv_at hl 0 rfl) ?_
            refine lv_iconst (pc := 99) (v := nI 4) hx hb dX0_setKey_99 (by decide +kernel) ?_
            refine lv_aload_n (pc := 100) hx hb dX0_setKey_100 rfl (lv_at hl 3 rfl) ?_
            refine va_get (pc := 101) (D := D) (ci := 0) (v := .int (nI 10)) (C := RX0) (T := TX0) (N := 7) hx hb hts iu0 hown hK hP 0 rfl rfl 6 (by decide) (hts _ tw_326) (fun _ h9 => h9) rfl dX0_setKey_101 ?_
            refine lv_iconst (pc := 104) (v := nI 1) hx hb dX0_setKey_104 (by decide +kernel) ?_
            refine lv_iadd (pc := 105) hx hb dX0_setKey_105 ?_
            refine q_top (y := nI 11) (by decide +kernel) ?_
            refine lv_imul (pc := 106) hx hb dX0_setKey_106 ?_
            refine q_top (y := nI 44) (by decide +kernel) ?_
            refine lv_icmp_ge (pc := 107) (tgt := 220) hx hb dX0_setKey_107 (by decide) (fun c_4 => ?_) (fun c_4 => ?_)
            · skip
              rw [nI_leI (by omega) (by omega)] at c_4
              have hq_5 : (∀ j, j < 44 → u' j = wdF (aKey gr 4 40) j) := by
                intro j hj
                rw [hs3 j (by omega), show c = 40 by omega]
              exact hret (u') _ _ _ _ dX0_setKey_220 hq_5 (hP.sub [0, 1, 2, 3] rfl) (hD.sub [0, 1, 2, 3] (by decide) rfl) hS
            · skip
              rw [nI_leI (by omega) (by omega)] at c_4
              refine lv_aload_n (pc := 110) hx hb dX0_setKey_110 rfl (lv_at hl 3 rfl) ?_
              refine va_get (pc := 111) (D := D) (ci := 0) (v := .ref b4) (C := RX0) (T := TX0) (N := 7) hx hb hts iu0 hown hK hP 0 rfl rfl 3 (by decide) (hts _ tw_323) (fun _ h9 => h9) rfl dX0_setKey_111 ?_
              refine lv_iload (pc := 114) hx hb dX0_setKey_114 (lv_at hl 0 rfl) ?_
              refine lv_iconst (pc := 116) (v := nI 1) hx hb dX0_setKey_116 (by decide +kernel) ?_
              refine lv_isub (pc := 117) hx hb dX0_setKey_117 ?_
              refine q_top (y := nI (4 + c - 1)) (pk_sub (a := 4 + c) (b := 1) (by omega)) ?_
              refine lv_bipush (pc := 118) (v := nI 63) hx hb dX0_setKey_118 (by decide +kernel) ?_
              refine lv_iand (pc := 120) hx hb dX0_setKey_120 ?_
              refine q_top (y := nI ((4 + c - 1) % 64)) (q_andN (k := 6) (p := 64) (by decide) (by omega)) ?_
              refine q_iald (pc := 121) hx hb hK hP 1 0 rfl rfl (k := (4 + c - 1) % 64) (v := u' ((4 + c - 1) % 64)) rfl (by omega) (by omega) rfl dX0_setKey_121 ?_
              refine lv_istore (pc := 122) (lv' := [(5, .int (u' ((4 + c - 1) % 64))), (4, .int (nI (4 + c))), (3, .int (qz k1)), (2, .int (nI 4)), (0, .ref ha), (1, .ref hr)]) hx hb dX0_setKey_122 hl (by decide) rfl (fun ls hl => ?_)
              refine lv_iload (pc := 124) hx hb dX0_setKey_124 (lv_at hl 1 rfl) ?_
              refine lv_iload_n (pc := 126) hx hb dX0_setKey_126 rfl (lv_at hl 3 rfl) ?_
              refine lv_irem (pc := 127) hx hb dX0_setKey_127 (q_ne0 (by omega) (by omega)) ?_
              refine q_top (y := nI ((4 + c) % 4)) (pk_rem (by omega) (by omega) (by omega)) ?_
              refine lv_if_ne (pc := 128) (tgt := 168) hx hb dX0_setKey_128 (by decide) (fun c_6 => ?_) (fun c_6 => ?_)
              · skip
                rw [q_eq0 (by omega)] at c_6
                have h128 := c_6
                refine lv_iload_n (pc := 168) hx hb dX0_setKey_168 rfl (lv_at hl 3 rfl) ?_
                refine lv_bipush (pc := 169) (v := nI 6) hx hb dX0_setKey_169 (by decide +kernel) ?_
                refine lv_icmp_le (pc := 171) (tgt := 189) hx hb dX0_setKey_171 (by decide) (fun _ => ?_) (fun c_7 => absurd (by decide) c_7)
                refine lv_aload_n (pc := 189) hx hb dX0_setKey_189 rfl (lv_at hl 4 rfl) ?_
                refine va_get (pc := 190) (D := D) (ci := 0) (v := .ref b4) (C := RX0) (T := TX0) (N := 7) hx hb hts iu0 hown hK hP 0 rfl rfl 3 (by decide) (hts _ tw_323) (fun _ h9 => h9) rfl dX0_setKey_190 ?_
                refine lv_iload (pc := 193) hx hb dX0_setKey_193 (lv_at hl 1 rfl) ?_
                refine lv_bipush (pc := 195) (v := nI 63) hx hb dX0_setKey_195 (by decide +kernel) ?_
                refine lv_iand (pc := 197) hx hb dX0_setKey_197 ?_
                refine q_top (y := nI ((4 + c) % 64)) (q_andN (k := 6) (p := 64) (by decide) (by omega)) ?_
                refine lv_aload_n (pc := 198) hx hb dX0_setKey_198 rfl (lv_at hl 4 rfl) ?_
                refine va_get (pc := 199) (D := D) (ci := 0) (v := .ref b4) (C := RX0) (T := TX0) (N := 7) hx hb hts iu0 hown hK hP 0 rfl rfl 3 (by decide) (hts _ tw_323) (fun _ h9 => h9) rfl dX0_setKey_199 ?_
                refine lv_iload (pc := 202) hx hb dX0_setKey_202 (lv_at hl 1 rfl) ?_
                refine lv_iload_n (pc := 204) hx hb dX0_setKey_204 rfl (lv_at hl 3 rfl) ?_
                refine lv_isub (pc := 205) hx hb dX0_setKey_205 ?_
                refine q_top (y := nI (4 + c - 4)) (pk_sub (a := 4 + c) (b := 4) (by omega)) ?_
                refine lv_bipush (pc := 206) (v := nI 63) hx hb dX0_setKey_206 (by decide +kernel) ?_
                refine lv_iand (pc := 208) hx hb dX0_setKey_208 ?_
                refine q_top (y := nI ((4 + c - 4) % 64)) (q_andN (k := 6) (p := 64) (by decide) (by omega)) ?_
                refine q_iald (pc := 209) hx hb hK hP 1 0 rfl rfl (k := (4 + c - 4) % 64) (v := u' ((4 + c - 4) % 64)) rfl (by omega) (by omega) rfl dX0_setKey_209 ?_
                refine lv_iload (pc := 210) hx hb dX0_setKey_210 (lv_at hl 0 rfl) ?_
                refine lv_ixor (pc := 212) hx hb dX0_setKey_212 ?_
                refine q_iastI (pc := 213) hx hb hK hP hD hS 1 0 rfl rfl (k := (4 + c) % 64) rfl (by omega) (by omega)  dX0_setKey_213 (fun H locs hP hD hS => ?_)
                have hP : va_P D vwCl [(ha, oA b1 b2 b3 b4 b5 b6 10), (b4, aI ta 64 (qU u' ((4 + c) % 64) ((u' ((4 + c - 4) % 64)) ^^^ (u' ((4 + c - 1) % 64))))), (hr, oR br 16), (br, aZ ta capr gr)] H := hP
                have hD : va_D A [(ha, oA b1 b2 b3 b4 b5 b6 10), (b4, aI ta 64 (qU u' ((4 + c) % 64) ((u' ((4 + c - 4) % 64)) ^^^ (u' ((4 + c - 1) % 64))))), (hr, oR br 16), (br, aZ ta capr gr)] := hD
                refine lv_iinc (pc := 214) (v := nI (4 + c + 1)) (lv' := [(4, .int (nI (4 + c + 1))), (5, .int (u' ((4 + c - 1) % 64))), (3, .int (qz k1)), (2, .int (nI 4)), (0, .ref ha), (1, .ref hr)]) hx hb dX0_setKey_214 hl (k := 1) rfl (by first | exact nI_add (4 + c) 1 | rfl) (by decide) rfl (fun ls hl => ?_)
                refine lv_goto (pc := 217) (tgt := 97) hx hb dX0_setKey_217 (by decide) ?_
                exact ih97 (c + 1) k1 (qU u' ((4 + c) % 64) ((u' ((4 + c - 4) % 64)) ^^^ (u' ((4 + c - 1) % 64)))) (by omega) (by subst hk1; first | (rw [show (4 + (c + 1) - 1) / 4 = (4 + c - 1) / 4 + 1 by omega]; rfl) | (rw [show (4 + (c + 1) - 1) / 4 = (4 + c - 1) / 4 by omega])) (kw_step (by omega) hs3 (by rw [hs3 _ (by omega), hs3 _ (by omega), show (4 + c - 4) % 64 = c by omega, show (4 + c - 1) % 64 = 4 + c - 1 by omega]; first | exact aKey_A h128 hk1 | exact aKey_B h128 ⟨rfl, h179⟩ | exact aKey_C h128 (by omega))) (by omega) _ _ (hP.sub [0, 1, 2, 3] rfl) (hD.sub [0, 1, 2, 3] (by decide) rfl) hS ls (lv_sub hl [0, 2, 3, 4, 5] rfl)
              · skip
                rw [q_eq0 (by omega)] at c_6
                have h128 := c_6
                refine lv_iload (pc := 131) hx hb dX0_setKey_131 (lv_at hl 0 rfl) ?_
                refine lv_bipush (pc := 133) (v := nI 8) hx hb dX0_setKey_133 (by decide +kernel) ?_
                refine lv_ishl (pc := 135) hx hb dX0_setKey_135 ?_
                refine lv_iload (pc := 136) hx hb dX0_setKey_136 (lv_at hl 0 rfl) ?_
                refine lv_bipush (pc := 138) (v := nI 24) hx hb dX0_setKey_138 (by decide +kernel) ?_
                refine lv_iushr (pc := 140) (v := ush (u' ((4 + c - 1) % 64)) 24) hx hb dX0_setKey_140 rfl ?_
                refine lv_ior (pc := 141) hx hb dX0_setKey_141 ?_
                refine cs_S (pc := 142) (idx := 39) (n := 1) (wr := [(ha, oA b1 b2 b3 b4 b5 b6 10), (b4, aI ta 64 u'), (hr, oR br 16), (br, aZ ta capr gr)]) (As := [.int (((u' ((4 + c - 1) % 64)) <<< ((nI 8) &&& 31)) ||| (ush (u' ((4 + c - 1) % 64)) 24))]) (rest := []) hx hb hml hown hts hGok hK hA hG hl.1 hP hD hS (ct_X0_boxWord ll D ta gs (((u' ((4 + c - 1) % 64)) <<< ((nI 8) &&& 31)) ||| (ush (u' ((4 + c - 1) % 64)) 24))  H.size) tw_520 tw_518 tw_519 tw_74 hdX0_boxWord rfl ⟨rfl, rfl, Nat.le_of_ble_eq_true rfl, Nat.le_of_ble_eq_true rfl, Nat.le_of_ble_eq_true rfl, Nat.le_of_ble_eq_true rfl⟩ [] [0, 1, 2, 3] rfl rfl (by decide) rfl (Nat.le_of_ble_eq_true rfl) dX0_setKey_142 (fun u H locs hq hP hD hS => ?_)
                refine W.eq (g2 := F0 mm 145 ls [.int (cBox (((u' ((4 + c - 1) % 64)) <<< ((nI 8) &&& 31)) ||| (ush (u' ((4 + c - 1) % 64)) 24)))]) rfl ?_
                have hP : va_P D vwCl [(ha, oA b1 b2 b3 b4 b5 b6 10), (b4, aI ta 64 u'), (hr, oR br 16), (br, aZ ta capr gr)] H := hP
                have hD : va_D A [(ha, oA b1 b2 b3 b4 b5 b6 10), (b4, aI ta 64 u'), (hr, oR br 16), (br, aZ ta capr gr)] := hD
                refine lv_iload_n (pc := 145) hx hb dX0_setKey_145 rfl (lv_at hl 2 rfl) ?_
                refine lv_bipush (pc := 146) (v := nI 24) hx hb dX0_setKey_146 (by decide +kernel) ?_
                refine lv_ishl (pc := 148) hx hb dX0_setKey_148 ?_
                refine lv_ixor (pc := 149) hx hb dX0_setKey_149 ?_
                refine lv_istore (pc := 150) (lv' := [(5, .int ((cBox (((u' ((4 + c - 1) % 64)) <<< ((nI 8) &&& 31)) ||| (ush (u' ((4 + c - 1) % 64)) 24))) ^^^ ((qz k1) <<< ((nI 24) &&& 31)))), (4, .int (nI (4 + c))), (3, .int (qz k1)), (2, .int (nI 4)), (0, .ref ha), (1, .ref hr)]) hx hb dX0_setKey_150 hl (by decide) rfl (fun ls hl => ?_)
                refine lv_iload_n (pc := 152) hx hb dX0_setKey_152 rfl (lv_at hl 2 rfl) ?_
                refine lv_iconst (pc := 153) (v := nI 1) hx hb dX0_setKey_153 (by decide +kernel) ?_
                refine lv_ishl (pc := 154) hx hb dX0_setKey_154 ?_
                refine lv_iload_n (pc := 155) hx hb dX0_setKey_155 rfl (lv_at hl 2 rfl) ?_
                refine lv_bipush (pc := 156) (v := nI 7) hx hb dX0_setKey_156 (by decide +kernel) ?_
                refine lv_iushr (pc := 158) (v := ush (qz k1) 7) hx hb dX0_setKey_158 rfl ?_
                refine lv_sipush (pc := 159) (v := nI 283) hx hb dX0_setKey_159 (by decide +kernel) ?_
                refine lv_imul (pc := 162) hx hb dX0_setKey_162 ?_
                refine lv_ixor (pc := 163) hx hb dX0_setKey_163 ?_
                refine q_top (y := qz (xt k1)) (const_xt k1) ?_
                refine lv_istore_n (pc := 164) (lv' := [(3, .int (qz (xt k1))), (5, .int ((cBox (((u' ((4 + c - 1) % 64)) <<< ((nI 8) &&& 31)) ||| (ush (u' ((4 + c - 1) % 64)) 24))) ^^^ ((qz k1) <<< ((nI 24) &&& 31)))), (4, .int (nI (4 + c))), (2, .int (nI 4)), (0, .ref ha), (1, .ref hr)]) hx hb dX0_setKey_164 rfl hl (by decide) rfl (fun ls hl => ?_)
                refine lv_goto (pc := 165) (tgt := 189) hx hb dX0_setKey_165 (by decide) ?_
                refine lv_aload_n (pc := 189) hx hb dX0_setKey_189 rfl (lv_at hl 4 rfl) ?_
                refine va_get (pc := 190) (D := D) (ci := 0) (v := .ref b4) (C := RX0) (T := TX0) (N := 7) hx hb hts iu0 hown hK hP 0 rfl rfl 3 (by decide) (hts _ tw_323) (fun _ h9 => h9) rfl dX0_setKey_190 ?_
                refine lv_iload (pc := 193) hx hb dX0_setKey_193 (lv_at hl 2 rfl) ?_
                refine lv_bipush (pc := 195) (v := nI 63) hx hb dX0_setKey_195 (by decide +kernel) ?_
                refine lv_iand (pc := 197) hx hb dX0_setKey_197 ?_
                refine q_top (y := nI ((4 + c) % 64)) (q_andN (k := 6) (p := 64) (by decide) (by omega)) ?_
                refine lv_aload_n (pc := 198) hx hb dX0_setKey_198 rfl (lv_at hl 4 rfl) ?_
                refine va_get (pc := 199) (D := D) (ci := 0) (v := .ref b4) (C := RX0) (T := TX0) (N := 7) hx hb hts iu0 hown hK hP 0 rfl rfl 3 (by decide) (hts _ tw_323) (fun _ h9 => h9) rfl dX0_setKey_199 ?_
                refine lv_iload (pc := 202) hx hb dX0_setKey_202 (lv_at hl 2 rfl) ?_
                refine lv_iload_n (pc := 204) hx hb dX0_setKey_204 rfl (lv_at hl 3 rfl) ?_
                refine lv_isub (pc := 205) hx hb dX0_setKey_205 ?_
                refine q_top (y := nI (4 + c - 4)) (pk_sub (a := 4 + c) (b := 4) (by omega)) ?_
                refine lv_bipush (pc := 206) (v := nI 63) hx hb dX0_setKey_206 (by decide +kernel) ?_
                refine lv_iand (pc := 208) hx hb dX0_setKey_208 ?_
                refine q_top (y := nI ((4 + c - 4) % 64)) (q_andN (k := 6) (p := 64) (by decide) (by omega)) ?_
                refine q_iald (pc := 209) hx hb hK hP 1 0 rfl rfl (k := (4 + c - 4) % 64) (v := u' ((4 + c - 4) % 64)) rfl (by omega) (by omega) rfl dX0_setKey_209 ?_
                refine lv_iload (pc := 210) hx hb dX0_setKey_210 (lv_at hl 1 rfl) ?_
                refine lv_ixor (pc := 212) hx hb dX0_setKey_212 ?_
                refine q_iastI (pc := 213) hx hb hK hP hD hS 1 0 rfl rfl (k := (4 + c) % 64) rfl (by omega) (by omega)  dX0_setKey_213 (fun H locs hP hD hS => ?_)
                have hP : va_P D vwCl [(ha, oA b1 b2 b3 b4 b5 b6 10), (b4, aI ta 64 (qU u' ((4 + c) % 64) ((u' ((4 + c - 4) % 64)) ^^^ ((cBox (((u' ((4 + c - 1) % 64)) <<< ((nI 8) &&& 31)) ||| (ush (u' ((4 + c - 1) % 64)) 24))) ^^^ ((qz k1) <<< ((nI 24) &&& 31)))))), (hr, oR br 16), (br, aZ ta capr gr)] H := hP
                have hD : va_D A [(ha, oA b1 b2 b3 b4 b5 b6 10), (b4, aI ta 64 (qU u' ((4 + c) % 64) ((u' ((4 + c - 4) % 64)) ^^^ ((cBox (((u' ((4 + c - 1) % 64)) <<< ((nI 8) &&& 31)) ||| (ush (u' ((4 + c - 1) % 64)) 24))) ^^^ ((qz k1) <<< ((nI 24) &&& 31)))))), (hr, oR br 16), (br, aZ ta capr gr)] := hD
                refine lv_iinc (pc := 214) (v := nI (4 + c + 1)) (lv' := [(4, .int (nI (4 + c + 1))), (3, .int (qz (xt k1))), (5, .int ((cBox (((u' ((4 + c - 1) % 64)) <<< ((nI 8) &&& 31)) ||| (ush (u' ((4 + c - 1) % 64)) 24))) ^^^ ((qz k1) <<< ((nI 24) &&& 31)))), (2, .int (nI 4)), (0, .ref ha), (1, .ref hr)]) hx hb dX0_setKey_214 hl (k := 2) rfl (by first | exact nI_add (4 + c) 1 | rfl) (by decide) rfl (fun ls hl => ?_)
                refine lv_goto (pc := 217) (tgt := 97) hx hb dX0_setKey_217 (by decide) ?_
                exact ih97 (c + 1) (xt k1) (qU u' ((4 + c) % 64) ((u' ((4 + c - 4) % 64)) ^^^ ((cBox (((u' ((4 + c - 1) % 64)) <<< ((nI 8) &&& 31)) ||| (ush (u' ((4 + c - 1) % 64)) 24))) ^^^ ((qz k1) <<< ((nI 24) &&& 31))))) (by omega) (by subst hk1; first | (rw [show (4 + (c + 1) - 1) / 4 = (4 + c - 1) / 4 + 1 by omega]; rfl) | (rw [show (4 + (c + 1) - 1) / 4 = (4 + c - 1) / 4 by omega])) (kw_step (by omega) hs3 (by rw [hs3 _ (by omega), hs3 _ (by omega), show (4 + c - 4) % 64 = c by omega, show (4 + c - 1) % 64 = 4 + c - 1 by omega]; first | exact aKey_A h128 hk1 | exact aKey_B h128 ⟨rfl, h179⟩ | exact aKey_C h128 (by omega))) (by omega) _ _ (hP.sub [0, 1, 2, 3] rfl) (hD.sub [0, 1, 2, 3] (by decide) rfl) hS ls (lv_sub hl [0, 1, 3, 4, 5] rfl)
        exact LP97 _ 0 (1#8) w' (by omega) (rfl) (fun q hq => hs q (by omega)) (Nat.lt_succ_self _) _ _ (hP.sub [0, 1, 2, 3] rfl) (hD.sub [0, 1, 2, 3] (by decide) rfl) hS ls (lv_sub hl [0, 1, 2, 3, 4] rfl)
      · skip
        rw [nI_leI (by omega) (by omega)] at c_3
        refine lv_aload_n (pc := 34) hx hb dX0_setKey_34 rfl (lv_at hl 2 rfl) ?_
        refine va_get (pc := 35) (D := D) (ci := 0) (v := .ref b4) (C := RX0) (T := TX0) (N := 7) hx hb hts iu0 hown hK hP 0 rfl rfl 3 (by decide) (hts _ tw_323) (fun _ h9 => h9) rfl dX0_setKey_35 ?_
        refine lv_iload_n (pc := 38) hx hb dX0_setKey_38 rfl (lv_at hl 0 rfl) ?_
        refine lv_iconst (pc := 39) (v := nI 0) hx hb dX0_setKey_39 (by decide +kernel) ?_
        refine q_iastI (pc := 40) hx hb hK hP hD hS 1 0 rfl rfl (k := i) rfl (by omega) (by omega)  dX0_setKey_40 (fun H locs hP hD hS => ?_)
        have hP : va_P D vwCl [(ha, oA b1 b2 b3 b4 b5 b6 10), (b4, aI ta 64 (qU w' i (nI 0))), (hr, oR br 16), (br, aZ ta capr gr)] H := hP
        have hD : va_D A [(ha, oA b1 b2 b3 b4 b5 b6 10), (b4, aI ta 64 (qU w' i (nI 0))), (hr, oR br 16), (br, aZ ta capr gr)] := hD
        refine lv_iconst (pc := 41) (v := nI 0) hx hb dX0_setKey_41 (by decide +kernel) ?_
        refine lv_istore (pc := 42) (lv' := [(4, .int (nI 0)), (3, .int (nI i)), (2, .int (nI 4)), (0, .ref ha), (1, .ref hr)]) hx hb dX0_setKey_42 hl (by decide) rfl (fun ls hl => ?_)
        have LP44 : ∀ (nn44 : Nat) (j : Nat) (v' : Nat → Int32), (j ≤ 4) → ((∀ q, q < i → v' q = wdF gr q) ∧ v' i = ldS (nI 0) gr i j) → (4 - j < nn44) → ∀ (H : Heap) (locs : List Loc), va_P D vwCl [(ha, oA b1 b2 b3 b4 b5 b6 10), (b4, aI ta 64 v'), (hr, oR br 16), (br, aZ ta capr gr)] H → va_D A [(ha, oA b1 b2 b3 b4 b5 b6 10), (b4, aI ta 64 v'), (hr, oR br 16), (br, aZ ta capr gr)] → va_S A ss.heap H locs → ∀ ls : Array Slot, lv_has ls 6 [(4, .int (nI j)), (3, .int (nI i)), (2, .int (nI 4)), (0, .ref ha), (1, .ref hr)] → W pp ll ee ({ frames := 1, cells := 0, slots := 0, locals := 21 } : Room) ss mm (([.ref ha, .ref hr] : List Value).toArray) below meth kc H locs 0 0 Q (F0 mm 44 ls []) := by
          intro nn44
          induction nn44 with
          | zero => intro j v' hjj hs2 hmu; exact absurd hmu (Nat.not_lt_zero _)
          | succ nn44 ih44 =>
            intro j v' hjj hs2 hmu44 H locs hP hD hS ls hl
            refine lv_iload (pc := 44) hx hb dX0_setKey_44 (lv_at hl 0 rfl) ?_
            refine lv_iconst (pc := 46) (v := nI 4) hx hb dX0_setKey_46 (by decide +kernel) ?_
            refine lv_icmp_ge (pc := 47) (tgt := 86) hx hb dX0_setKey_47 (by decide) (fun c_8 => ?_) (fun c_8 => ?_)
            · skip
              rw [nI_leI (by omega) (by omega)] at c_8
              refine lv_iinc (pc := 86) (v := nI (i + 1)) (lv' := [(3, .int (nI (i + 1))), (4, .int (nI j)), (2, .int (nI 4)), (0, .ref ha), (1, .ref hr)]) hx hb dX0_setKey_86 hl (k := 1) rfl (by first | exact nI_add i 1 | rfl) (by decide) rfl (fun ls hl => ?_)
              refine lv_goto (pc := 89) (tgt := 29) hx hb dX0_setKey_89 (by decide) ?_
              exact ih29 (i + 1) v' (by omega) (by intro q hq; rcases Nat.lt_or_ge q i with z | z; exact hs2.1 q z; rw [show q = i by omega, hs2.2, show j = 4 by omega, ldS_4]) (by omega) _ _ (hP.sub [0, 1, 2, 3] rfl) (hD.sub [0, 1, 2, 3] (by decide) rfl) hS ls (lv_sub hl [0, 2, 3, 4] rfl)
            · skip
              rw [nI_leI (by omega) (by omega)] at c_8
              refine lv_aload_n (pc := 50) hx hb dX0_setKey_50 rfl (lv_at hl 3 rfl) ?_
              refine va_get (pc := 51) (D := D) (ci := 0) (v := .ref b4) (C := RX0) (T := TX0) (N := 7) hx hb hts iu0 hown hK hP 0 rfl rfl 3 (by decide) (hts _ tw_323) (fun _ h9 => h9) rfl dX0_setKey_51 ?_
              refine lv_iload_n (pc := 54) hx hb dX0_setKey_54 rfl (lv_at hl 1 rfl) ?_
              refine lv_aload_n (pc := 55) hx hb dX0_setKey_55 rfl (lv_at hl 3 rfl) ?_
              refine va_get (pc := 56) (D := D) (ci := 0) (v := .ref b4) (C := RX0) (T := TX0) (N := 7) hx hb hts iu0 hown hK hP 0 rfl rfl 3 (by decide) (hts _ tw_323) (fun _ h9 => h9) rfl dX0_setKey_56 ?_
              refine lv_iload_n (pc := 59) hx hb dX0_setKey_59 rfl (lv_at hl 1 rfl) ?_
              refine q_iald (pc := 60) hx hb hK hP 1 0 rfl rfl (k := i) (v := v' i) rfl (by omega) (by omega) rfl dX0_setKey_60 ?_
              refine lv_bipush (pc := 61) (v := nI 8) hx hb dX0_setKey_61 (by decide +kernel) ?_
              refine lv_ishl (pc := 63) hx hb dX0_setKey_63 ?_
              refine lv_aload_n (pc := 64) hx hb dX0_setKey_64 rfl (lv_at hl 4 rfl) ?_
              refine lv_iconst (pc := 65) (v := nI 4) hx hb dX0_setKey_65 (by decide +kernel) ?_
              refine lv_iload_n (pc := 66) hx hb dX0_setKey_66 rfl (lv_at hl 1 rfl) ?_
              refine lv_imul (pc := 67) hx hb dX0_setKey_67 ?_
              refine q_top (y := nI (4 * i)) (pk_mul 4 i) ?_
              refine lv_iload (pc := 68) hx hb dX0_setKey_68 (lv_at hl 0 rfl) ?_
              refine lv_iadd (pc := 70) hx hb dX0_setKey_70 ?_
              refine q_top (y := nI (4 * i + j)) (nI_add (4 * i) j) ?_
              refine cs_V (pc := 71) (idx := 35) (n := 1) (wr := [(ha, oA b1 b2 b3 b4 b5 b6 10), (b4, aI ta 64 v')]) (As := [.int (nI (4 * i + j))]) (rest := [.int ((v' i) <<< ((nI 8) &&& 31)), .int (nI i), .ref b4]) (ci := 5) hx hb hml hown hts hGok hK hA hG hl.1 hP hD hS (ct_X6_at_in ll D ta hGok hr br capr gr 16 (4 * i + j) (by first | assumption | omega | rfl | decide) (by first | assumption | omega | rfl | decide) (by first | assumption | omega | rfl | decide) H.size) tw_413 tw_517 tw_411 tw_412 tw_66 hdX6_at rfl ⟨rfl, rfl, Nat.le_of_ble_eq_true rfl, Nat.le_of_ble_eq_true rfl, Nat.le_of_ble_eq_true rfl, Nat.le_of_ble_eq_true rfl⟩ rfl rfl (q0 := 2) rfl [2, 3] [0, 1] rfl rfl (by decide) rfl (Nat.le_of_ble_eq_true rfl) dX0_setKey_71 (fun u H locs hq hP hD hS => ?_)
              refine W.eq (g2 := F0 mm 74 ls [.int (qz (gr (4 * i + j))), .int ((v' i) <<< ((nI 8) &&& 31)), .int (nI i), .ref b4]) rfl ?_
              have hP : va_P D vwCl [(ha, oA b1 b2 b3 b4 b5 b6 10), (b4, aI ta 64 v'), (hr, oR br 16), (br, aZ ta capr gr)] H := hP
              have hD : va_D A [(ha, oA b1 b2 b3 b4 b5 b6 10), (b4, aI ta 64 v'), (hr, oR br 16), (br, aZ ta capr gr)] := hD
              refine lv_sipush (pc := 74) (v := nI 255) hx hb dX0_setKey_74 (by decide +kernel) ?_
              refine lv_iand (pc := 77) hx hb dX0_setKey_77 ?_
              refine q_top (y := qz (gr (4 * i + j))) (q_and255z _) ?_
              refine lv_ior (pc := 78) hx hb dX0_setKey_78 ?_
              refine q_iastI (pc := 79) hx hb hK hP hD hS 1 0 rfl rfl (k := i) rfl (by omega) (by omega)  dX0_setKey_79 (fun H locs hP hD hS => ?_)
              have hP : va_P D vwCl [(ha, oA b1 b2 b3 b4 b5 b6 10), (b4, aI ta 64 (qU v' i (((v' i) <<< ((nI 8) &&& 31)) ||| (qz (gr (4 * i + j)))))), (hr, oR br 16), (br, aZ ta capr gr)] H := hP
              have hD : va_D A [(ha, oA b1 b2 b3 b4 b5 b6 10), (b4, aI ta 64 (qU v' i (((v' i) <<< ((nI 8) &&& 31)) ||| (qz (gr (4 * i + j)))))), (hr, oR br 16), (br, aZ ta capr gr)] := hD
              refine lv_iinc (pc := 80) (v := nI (j + 1)) (lv' := [(4, .int (nI (j + 1))), (3, .int (nI i)), (2, .int (nI 4)), (0, .ref ha), (1, .ref hr)]) hx hb dX0_setKey_80 hl (k := 0) rfl (by first | exact nI_add j 1 | rfl) (by decide) rfl (fun ls hl => ?_)
              refine lv_goto (pc := 83) (tgt := 44) hx hb dX0_setKey_83 (by decide) ?_
              exact ih44 (j + 1) (qU v' i (((v' i) <<< ((nI 8) &&& 31)) ||| (qz (gr (4 * i + j))))) (by omega) (⟨fun q hq => by rw [qU_ne (by omega)]; exact hs2.1 q hq, by rw [qU_same, hs2.2]; rfl⟩) (by omega) _ _ (hP.sub [0, 1, 2, 3] rfl) (hD.sub [0, 1, 2, 3] (by decide) rfl) hS ls (lv_sub hl [0, 1, 2, 3, 4] rfl)
        exact LP44 _ 0 (qU w' i (nI 0)) (by omega) (⟨fun q hq => by rw [qU_ne (by omega)]; exact hs q hq, qU_same⟩) (Nat.lt_succ_self _) _ _ (hP.sub [0, 1, 2, 3] rfl) (hD.sub [0, 1, 2, 3] (by decide) rfl) hS ls (lv_sub hl [0, 1, 2, 3, 4] rfl)
  exact LP29 _ 0 kw (by omega) (fun q hq => absurd hq (Nat.not_lt_zero _)) (Nat.lt_succ_self _) _ _ (hP.sub [0, 1, 2, 3] rfl) (hD.sub [0, 1, 2, 3] (by decide) rfl) hS ls (lv_sub hl [0, 1, 2, 3] rfl)
set_option maxHeartbeats 4000000 in
set_option maxRecDepth 100000 in
theorem ct_X0_setKey_6 (ll : Launch) (D : va_G) (ta : Nat → ClassId) (gs : Nat → Nat) (ha : Nat) (b1 : Nat) (b2 : Nat) (b3 : Nat) (b4 : Nat) (b5 : Nat) (b6 : Nat) (R : Nat) (kw : Nat → Int32) (hr : Nat) (br : Nat) (capr : Nat) (gr : Nat → BitVec 8) (hcp : 24 ≤ capr) (hcr : capr < 2147483648) (sz : Nat) : CT ll yX0_setKey cX0_setKey 6 none ({ frames := 1, cells := 0, slots := 0, locals := 21 } : Room) D ta ((GC gs)) [.ref ha, .ref hr] [(ha, oA b1 b2 b3 b4 b5 b6 R), (b4, aI ta 64 kw), (hr, oR br 24), (br, aZ ta capr gr)] sz (S := (Nat → Int32)) (fun _ => none) (fun u => (∀ j, j < 52 → u j = wdF (aKey gr 6 46) j)) (fun u => [(ha, oA b1 b2 b3 b4 b5 b6 12), (b4, aI ta 64 u), (hr, oR br 24), (br, aZ ta capr gr)]) 0 0 := by
  refine CT.of_v rfl (by decide) (Nat.le_of_ble_eq_true rfl) ?_
  have hGok := GC_ok gs
  intro pp ee ss mm below meth kc A Q hx hb hml hown hin hts hK hA hsz hG hret H locs hP hD hS ls hl
  have hl : lv_has ls 6 [(0, .ref ha), (1, .ref hr)] := hl
  refine lv_aload_n (pc := 0) hx hb dX0_setKey_0 rfl (lv_at hl 1 rfl) ?_
  refine cs_V (pc := 1) (idx := 29) (n := 0) (wr := [(ha, oA b1 b2 b3 b4 b5 b6 R), (b4, aI ta 64 kw)]) (As := []) (rest := []) (ci := 5) hx hb hml hown hts hGok hK hA hG hl.1 hP hD hS (ct_X6_size ll D ta hGok hr br capr gr 24  H.size) tw_393 tw_516 tw_391 tw_392 tw_66 hdX6_size rfl ⟨rfl, rfl, Nat.le_of_ble_eq_true rfl, Nat.le_of_ble_eq_true rfl, Nat.le_of_ble_eq_true rfl, Nat.le_of_ble_eq_true rfl⟩ rfl rfl (q0 := 2) rfl [2, 3] [0, 1] rfl rfl (by decide) rfl (Nat.le_of_ble_eq_true rfl) dX0_setKey_1 (fun u H locs hq hP hD hS => ?_)
  refine W.eq (g2 := F0 mm 4 ls [.int (nI 24)]) rfl ?_
  have hP : va_P D vwCl [(ha, oA b1 b2 b3 b4 b5 b6 R), (b4, aI ta 64 kw), (hr, oR br 24), (br, aZ ta capr gr)] H := hP
  have hD : va_D A [(ha, oA b1 b2 b3 b4 b5 b6 R), (b4, aI ta 64 kw), (hr, oR br 24), (br, aZ ta capr gr)] := hD
  refine lv_iconst (pc := 4) (v := nI 4) hx hb dX0_setKey_4 (by decide +kernel) ?_
  refine lv_idiv (pc := 5) hx hb dX0_setKey_5 (q_ne0 (by omega) (by omega)) ?_
  refine q_top (y := nI (24 / 4)) (pk_div (by omega) (by omega) (by omega)) ?_
  refine q_top (y := nI 6) (by decide) ?_
  refine lv_istore_n (pc := 6) (lv' := [(2, .int (nI 6)), (0, .ref ha), (1, .ref hr)]) hx hb dX0_setKey_6 rfl hl (by decide) rfl (fun ls hl => ?_)
  refine lv_iload_n (pc := 7) hx hb dX0_setKey_7 rfl (lv_at hl 0 rfl) ?_
  refine lv_iconst (pc := 8) (v := nI 4) hx hb dX0_setKey_8 (by decide +kernel) ?_
  refine lv_icmp_lt (pc := 9) (tgt := 18) hx hb dX0_setKey_9 (by decide) (fun c_1 => absurd c_1 (by decide)) (fun _ => ?_)
  refine lv_iload_n (pc := 12) hx hb dX0_setKey_12 rfl (lv_at hl 0 rfl) ?_
  refine lv_bipush (pc := 13) (v := nI 8) hx hb dX0_setKey_13 (by decide +kernel) ?_
  refine lv_icmp_le (pc := 15) (tgt := 19) hx hb dX0_setKey_15 (by decide) (fun _ => ?_) (fun c_2 => absurd (by decide) c_2)
  refine lv_aload_n (pc := 19) hx hb dX0_setKey_19 rfl (lv_at hl 1 rfl) ?_
  refine lv_iload_n (pc := 20) hx hb dX0_setKey_20 rfl (lv_at hl 0 rfl) ?_
  refine lv_bipush (pc := 21) (v := nI 6) hx hb dX0_setKey_21 (by decide +kernel) ?_
  refine lv_iadd (pc := 23) hx hb dX0_setKey_23 ?_
  refine q_top (y := nI 12) (by decide +kernel) ?_
  refine va_put (pc := 24) (D := D) (ci := 0) (v := .int (nI 12)) (ty := .int) (C := RX0) (T := TX0) (N := 7) hx hb hts iu0 tyX0 tyX0_ok nmX0 hown hK hP hD hS 0 rfl rfl 6 (by decide) (hts _ tw_326) (fun _ h9 => h9) rfl (by decide +kernel) rfl rfl (Nat.le_of_ble_eq_true rfl) dX0_setKey_24 (fun H locs hP hD hS => ?_)
  have hP : va_P D vwCl [(ha, oA b1 b2 b3 b4 b5 b6 12), (b4, aI ta 64 kw), (hr, oR br 24), (br, aZ ta capr gr)] H := hP
  have hD : va_D A [(ha, oA b1 b2 b3 b4 b5 b6 12), (b4, aI ta 64 kw), (hr, oR br 24), (br, aZ ta capr gr)] := hD
  refine lv_iconst (pc := 27) (v := nI 0) hx hb dX0_setKey_27 (by decide +kernel) ?_
  refine lv_istore_n (pc := 28) (lv' := [(3, .int (nI 0)), (2, .int (nI 6)), (0, .ref ha), (1, .ref hr)]) hx hb dX0_setKey_28 rfl hl (by decide) rfl (fun ls hl => ?_)
  have LP29 : ∀ (nn29 : Nat) (i : Nat) (w' : Nat → Int32), (i ≤ 6) → (∀ q, q < i → w' q = wdF gr q) → (6 - i < nn29) → ∀ (H : Heap) (locs : List Loc), va_P D vwCl [(ha, oA b1 b2 b3 b4 b5 b6 12), (b4, aI ta 64 w'), (hr, oR br 24), (br, aZ ta capr gr)] H → va_D A [(ha, oA b1 b2 b3 b4 b5 b6 12), (b4, aI ta 64 w'), (hr, oR br 24), (br, aZ ta capr gr)] → va_S A ss.heap H locs → ∀ ls : Array Slot, lv_has ls 6 [(3, .int (nI i)), (2, .int (nI 6)), (0, .ref ha), (1, .ref hr)] → W pp ll ee ({ frames := 1, cells := 0, slots := 0, locals := 21 } : Room) ss mm (([.ref ha, .ref hr] : List Value).toArray) below meth kc H locs 0 0 Q (F0 mm 29 ls []) := by
    intro nn29
    induction nn29 with
    | zero => intro i w' hii hs hmu; exact absurd hmu (Nat.not_lt_zero _)
    | succ nn29 ih29 =>
      intro i w' hii hs hmu29 H locs hP hD hS ls hl
      refine lv_iload_n (pc := 29) hx hb dX0_setKey_29 rfl (lv_at hl 0 rfl) ?_
      refine lv_iload_n (pc := 30) hx hb dX0_setKey_30 rfl (lv_at hl 1 rfl) ?_
      refine lv_icmp_ge (pc := 31) (tgt := 92) hx hb dX0_setKey_31 (by decide) (fun c_3 => ?_) (fun c_3 => ?_)
      · skip
        rw [nI_leI (by omega) (by omega)] at c_3
        refine lv_iconst (pc := 92) (v := nI 1) hx hb dX0_setKey_92 (by decide +kernel) ?_
        refine q_top (y := qz (1#8)) (by decide) ?_
        refine lv_istore_n (pc := 93) (lv' := [(3, .int (qz (1#8))), (2, .int (nI 6)), (0, .ref ha), (1, .ref hr)]) hx hb dX0_setKey_93 rfl hl (by decide) rfl (fun ls hl => ?_)
        refine lv_iload_n (pc := 94) hx hb dX0_setKey_94 rfl (lv_at hl 1 rfl) ?_
        refine lv_istore (pc := 95) (lv' := [(4, .int (nI 6)), (3, .int (qz (1#8))), (2, .int (nI 6)), (0, .ref ha), (1, .ref hr)]) hx hb dX0_setKey_95 hl (by decide) rfl (fun ls hl => ?_)
        have LP97 : ∀ (nn97 : Nat) (c : Nat) (k1 : BitVec 8) (u' : Nat → Int32), (c ≤ 46) → (k1 = xtn 1#8 ((6 + c - 1) / 6)) → (∀ q, q < 6 + c → u' q = wdF (aKey gr 6 c) q) → (46 - c < nn97) → ∀ (H : Heap) (locs : List Loc), va_P D vwCl [(ha, oA b1 b2 b3 b4 b5 b6 12), (b4, aI ta 64 u'), (hr, oR br 24), (br, aZ ta capr gr)] H → va_D A [(ha, oA b1 b2 b3 b4 b5 b6 12), (b4, aI ta 64 u'), (hr, oR br 24), (br, aZ ta capr gr)] → va_S A ss.heap H locs → ∀ ls : Array Slot, lv_has ls 6 [(4, .int (nI (6 + c))), (3, .int (qz k1)), (2, .int (nI 6)), (0, .ref ha), (1, .ref hr)] → W pp ll ee ({ frames := 1, cells := 0, slots := 0, locals := 21 } : Room) ss mm (([.ref ha, .ref hr] : List Value).toArray) below meth kc H locs 0 0 Q (F0 mm 97 ls []) := by
          intro nn97
          induction nn97 with
          | zero => intro c k1 u' hcc hk1 hs3 hmu; exact absurd hmu (Nat.not_lt_zero _)
          | succ nn97 ih97 =>
            intro c k1 u' hcc hk1 hs3 hmu97 H locs hP hD hS ls hl
            refine lv_iload (pc := 97) hx hb dX0_setKey_97 (lv_at hl 0 rfl) ?_
            refine lv_iconst (pc := 99) (v := nI 4) hx hb dX0_setKey_99 (by decide +kernel) ?_
            refine lv_aload_n (pc := 100) hx hb dX0_setKey_100 rfl (lv_at hl 3 rfl) ?_
            refine va_get (pc := 101) (D := D) (ci := 0) (v := .int (nI 12)) (C := RX0) (T := TX0) (N := 7) hx hb hts iu0 hown hK hP 0 rfl rfl 6 (by decide) (hts _ tw_326) (fun _ h9 => h9) rfl dX0_setKey_101 ?_
            refine lv_iconst (pc := 104) (v := nI 1) hx hb dX0_setKey_104 (by decide +kernel) ?_
            refine lv_iadd (pc := 105) hx hb dX0_setKey_105 ?_
            refine q_top (y := nI 13) (by decide +kernel) ?_
            refine lv_imul (pc := 106) hx hb dX0_setKey_106 ?_
            refine q_top (y := nI 52) (by decide +kernel) ?_
            refine lv_icmp_ge (pc := 107) (tgt := 220) hx hb dX0_setKey_107 (by decide) (fun c_4 => ?_) (fun c_4 => ?_)
            · skip
              rw [nI_leI (by omega) (by omega)] at c_4
              have hq_5 : (∀ j, j < 52 → u' j = wdF (aKey gr 6 46) j) := by
                intro j hj
                rw [hs3 j (by omega), show c = 46 by omega]
              exact hret (u') _ _ _ _ dX0_setKey_220 hq_5 (hP.sub [0, 1, 2, 3] rfl) (hD.sub [0, 1, 2, 3] (by decide) rfl) hS
            · skip
              rw [nI_leI (by omega) (by omega)] at c_4
              refine lv_aload_n (pc := 110) hx hb dX0_setKey_110 rfl (lv_at hl 3 rfl) ?_
              refine va_get (pc := 111) (D := D) (ci := 0) (v := .ref b4) (C := RX0) (T := TX0) (N := 7) hx hb hts iu0 hown hK hP 0 rfl rfl 3 (by decide) (hts _ tw_323) (fun _ h9 => h9) rfl dX0_setKey_111 ?_
              refine lv_iload (pc := 114) hx hb dX0_setKey_114 (lv_at hl 0 rfl) ?_
              refine lv_iconst (pc := 116) (v := nI 1) hx hb dX0_setKey_116 (by decide +kernel) ?_
              refine lv_isub (pc := 117) hx hb dX0_setKey_117 ?_
              refine q_top (y := nI (6 + c - 1)) (pk_sub (a := 6 + c) (b := 1) (by omega)) ?_
              refine lv_bipush (pc := 118) (v := nI 63) hx hb dX0_setKey_118 (by decide +kernel) ?_
              refine lv_iand (pc := 120) hx hb dX0_setKey_120 ?_
              refine q_top (y := nI ((6 + c - 1) % 64)) (q_andN (k := 6) (p := 64) (by decide) (by omega)) ?_
              refine q_iald (pc := 121) hx hb hK hP 1 0 rfl rfl (k := (6 + c - 1) % 64) (v := u' ((6 + c - 1) % 64)) rfl (by omega) (by omega) rfl dX0_setKey_121 ?_
              refine lv_istore (pc := 122) (lv' := [(5, .int (u' ((6 + c - 1) % 64))), (4, .int (nI (6 + c))), (3, .int (qz k1)), (2, .int (nI 6)), (0, .ref ha), (1, .ref hr)]) hx hb dX0_setKey_122 hl (by decide) rfl (fun ls hl => ?_)
              refine lv_iload (pc := 124) hx hb dX0_setKey_124 (lv_at hl 1 rfl) ?_
              refine lv_iload_n (pc := 126) hx hb dX0_setKey_126 rfl (lv_at hl 3 rfl) ?_
              refine lv_irem (pc := 127) hx hb dX0_setKey_127 (q_ne0 (by omega) (by omega)) ?_
              refine q_top (y := nI ((6 + c) % 6)) (pk_rem (by omega) (by omega) (by omega)) ?_
              refine lv_if_ne (pc := 128) (tgt := 168) hx hb dX0_setKey_128 (by decide) (fun c_6 => ?_) (fun c_6 => ?_)
              · skip
                rw [q_eq0 (by omega)] at c_6
                have h128 := c_6
                refine lv_iload_n (pc := 168) hx hb dX0_setKey_168 rfl (lv_at hl 3 rfl) ?_
                refine lv_bipush (pc := 169) (v := nI 6) hx hb dX0_setKey_169 (by decide +kernel) ?_
                refine lv_icmp_le (pc := 171) (tgt := 189) hx hb dX0_setKey_171 (by decide) (fun _ => ?_) (fun c_7 => absurd (by decide) c_7)
                refine lv_aload_n (pc := 189) hx hb dX0_setKey_189 rfl (lv_at hl 4 rfl) ?_
                refine va_get (pc := 190) (D := D) (ci := 0) (v := .ref b4) (C := RX0) (T := TX0) (N := 7) hx hb hts iu0 hown hK hP 0 rfl rfl 3 (by decide) (hts _ tw_323) (fun _ h9 => h9) rfl dX0_setKey_190 ?_
                refine lv_iload (pc := 193) hx hb dX0_setKey_193 (lv_at hl 1 rfl) ?_
                refine lv_bipush (pc := 195) (v := nI 63) hx hb dX0_setKey_195 (by decide +kernel) ?_
                refine lv_iand (pc := 197) hx hb dX0_setKey_197 ?_
                refine q_top (y := nI ((6 + c) % 64)) (q_andN (k := 6) (p := 64) (by decide) (by omega)) ?_
                refine lv_aload_n (pc := 198) hx hb dX0_setKey_198 rfl (lv_at hl 4 rfl) ?_
                refine va_get (pc := 199) (D := D) (ci := 0) (v := .ref b4) (C := RX0) (T := TX0) (N := 7) hx hb hts iu0 hown hK hP 0 rfl rfl 3 (by decide) (hts _ tw_323) (fun _ h9 => h9) rfl dX0_setKey_199 ?_
                refine lv_iload (pc := 202) hx hb dX0_setKey_202 (lv_at hl 1 rfl) ?_
                refine lv_iload_n (pc := 204) hx hb dX0_setKey_204 rfl (lv_at hl 3 rfl) ?_
                refine lv_isub (pc := 205) hx hb dX0_setKey_205 ?_
                refine q_top (y := nI (6 + c - 6)) (pk_sub (a := 6 + c) (b := 6) (by omega)) ?_
                refine lv_bipush (pc := 206) (v := nI 63) hx hb dX0_setKey_206 (by decide +kernel) ?_
                refine lv_iand (pc := 208) hx hb dX0_setKey_208 ?_
                refine q_top (y := nI ((6 + c - 6) % 64)) (q_andN (k := 6) (p := 64) (by decide) (by omega)) ?_
                refine q_iald (pc := 209) hx hb hK hP 1 0 rfl rfl (k := (6 + c - 6) % 64) (v := u' ((6 + c - 6) % 64)) rfl (by omega) (by omega) rfl dX0_setKey_209 ?_
                refine lv_iload (pc := 210) hx hb dX0_setKey_210 (lv_at hl 0 rfl) ?_
                refine lv_ixor (pc := 212) hx hb dX0_setKey_212 ?_
                refine q_iastI (pc := 213) hx hb hK hP hD hS 1 0 rfl rfl (k := (6 + c) % 64) rfl (by omega) (by omega)  dX0_setKey_213 (fun H locs hP hD hS => ?_)
                have hP : va_P D vwCl [(ha, oA b1 b2 b3 b4 b5 b6 12), (b4, aI ta 64 (qU u' ((6 + c) % 64) ((u' ((6 + c - 6) % 64)) ^^^ (u' ((6 + c - 1) % 64))))), (hr, oR br 24), (br, aZ ta capr gr)] H := hP
                have hD : va_D A [(ha, oA b1 b2 b3 b4 b5 b6 12), (b4, aI ta 64 (qU u' ((6 + c) % 64) ((u' ((6 + c - 6) % 64)) ^^^ (u' ((6 + c - 1) % 64))))), (hr, oR br 24), (br, aZ ta capr gr)] := hD
                refine lv_iinc (pc := 214) (v := nI (6 + c + 1)) (lv' := [(4, .int (nI (6 + c + 1))), (5, .int (u' ((6 + c - 1) % 64))), (3, .int (qz k1)), (2, .int (nI 6)), (0, .ref ha), (1, .ref hr)]) hx hb dX0_setKey_214 hl (k := 1) rfl (by first | exact nI_add (6 + c) 1 | rfl) (by decide) rfl (fun ls hl => ?_)
                refine lv_goto (pc := 217) (tgt := 97) hx hb dX0_setKey_217 (by decide) ?_
                exact ih97 (c + 1) k1 (qU u' ((6 + c) % 64) ((u' ((6 + c - 6) % 64)) ^^^ (u' ((6 + c - 1) % 64)))) (by omega) (by subst hk1; first | (rw [show (6 + (c + 1) - 1) / 6 = (6 + c - 1) / 6 + 1 by omega]; rfl) | (rw [show (6 + (c + 1) - 1) / 6 = (6 + c - 1) / 6 by omega])) (kw_step (by omega) hs3 (by rw [hs3 _ (by omega), hs3 _ (by omega), show (6 + c - 6) % 64 = c by omega, show (6 + c - 1) % 64 = 6 + c - 1 by omega]; first | exact aKey_A h128 hk1 | exact aKey_B h128 ⟨rfl, h179⟩ | exact aKey_C h128 (by omega))) (by omega) _ _ (hP.sub [0, 1, 2, 3] rfl) (hD.sub [0, 1, 2, 3] (by decide) rfl) hS ls (lv_sub hl [0, 2, 3, 4, 5] rfl)
              · skip
                rw [q_eq0 (by omega)] at c_6
                have h128 := c_6
                refine lv_iload (pc := 131) hx hb dX0_setKey_131 (lv_at hl 0 rfl) ?_
                refine lv_bipush (pc := 133) (v := nI 8) hx hb dX0_setKey_133 (by decide +kernel) ?_
                refine lv_ishl (pc := 135) hx hb dX0_setKey_135 ?_
                refine lv_iload (pc := 136) hx hb dX0_setKey_136 (lv_at hl 0 rfl) ?_
                refine lv_bipush (pc := 138) (v := nI 24) hx hb dX0_setKey_138 (by decide +kernel) ?_
                refine lv_iushr (pc := 140) (v := ush (u' ((6 + c - 1) % 64)) 24) hx hb dX0_setKey_140 rfl ?_
                refine lv_ior (pc := 141) hx hb dX0_setKey_141 ?_
                refine cs_S (pc := 142) (idx := 39) (n := 1) (wr := [(ha, oA b1 b2 b3 b4 b5 b6 12), (b4, aI ta 64 u'), (hr, oR br 24), (br, aZ ta capr gr)]) (As := [.int (((u' ((6 + c - 1) % 64)) <<< ((nI 8) &&& 31)) ||| (ush (u' ((6 + c - 1) % 64)) 24))]) (rest := []) hx hb hml hown hts hGok hK hA hG hl.1 hP hD hS (ct_X0_boxWord ll D ta gs (((u' ((6 + c - 1) % 64)) <<< ((nI 8) &&& 31)) ||| (ush (u' ((6 + c - 1) % 64)) 24))  H.size) tw_520 tw_518 tw_519 tw_74 hdX0_boxWord rfl ⟨rfl, rfl, Nat.le_of_ble_eq_true rfl, Nat.le_of_ble_eq_true rfl, Nat.le_of_ble_eq_true rfl, Nat.le_of_ble_eq_true rfl⟩ [] [0, 1, 2, 3] rfl rfl (by decide) rfl (Nat.le_of_ble_eq_true rfl) dX0_setKey_142 (fun u H locs hq hP hD hS => ?_)
                refine W.eq (g2 := F0 mm 145 ls [.int (cBox (((u' ((6 + c - 1) % 64)) <<< ((nI 8) &&& 31)) ||| (ush (u' ((6 + c - 1) % 64)) 24)))]) rfl ?_
                have hP : va_P D vwCl [(ha, oA b1 b2 b3 b4 b5 b6 12), (b4, aI ta 64 u'), (hr, oR br 24), (br, aZ ta capr gr)] H := hP
                have hD : va_D A [(ha, oA b1 b2 b3 b4 b5 b6 12), (b4, aI ta 64 u'), (hr, oR br 24), (br, aZ ta capr gr)] := hD
                refine lv_iload_n (pc := 145) hx hb dX0_setKey_145 rfl (lv_at hl 2 rfl) ?_
                refine lv_bipush (pc := 146) (v := nI 24) hx hb dX0_setKey_146 (by decide +kernel) ?_
                refine lv_ishl (pc := 148) hx hb dX0_setKey_148 ?_
                refine lv_ixor (pc := 149) hx hb dX0_setKey_149 ?_
                refine lv_istore (pc := 150) (lv' := [(5, .int ((cBox (((u' ((6 + c - 1) % 64)) <<< ((nI 8) &&& 31)) ||| (ush (u' ((6 + c - 1) % 64)) 24))) ^^^ ((qz k1) <<< ((nI 24) &&& 31)))), (4, .int (nI (6 + c))), (3, .int (qz k1)), (2, .int (nI 6)), (0, .ref ha), (1, .ref hr)]) hx hb dX0_setKey_150 hl (by decide) rfl (fun ls hl => ?_)
                refine lv_iload_n (pc := 152) hx hb dX0_setKey_152 rfl (lv_at hl 2 rfl) ?_
                refine lv_iconst (pc := 153) (v := nI 1) hx hb dX0_setKey_153 (by decide +kernel) ?_
                refine lv_ishl (pc := 154) hx hb dX0_setKey_154 ?_
                refine lv_iload_n (pc := 155) hx hb dX0_setKey_155 rfl (lv_at hl 2 rfl) ?_
                refine lv_bipush (pc := 156) (v := nI 7) hx hb dX0_setKey_156 (by decide +kernel) ?_
                refine lv_iushr (pc := 158) (v := ush (qz k1) 7) hx hb dX0_setKey_158 rfl ?_
                refine lv_sipush (pc := 159) (v := nI 283) hx hb dX0_setKey_159 (by decide +kernel) ?_
                refine lv_imul (pc := 162) hx hb dX0_setKey_162 ?_
                refine lv_ixor (pc := 163) hx hb dX0_setKey_163 ?_
                refine q_top (y := qz (xt k1)) (const_xt k1) ?_
                refine lv_istore_n (pc := 164) (lv' := [(3, .int (qz (xt k1))), (5, .int ((cBox (((u' ((6 + c - 1) % 64)) <<< ((nI 8) &&& 31)) ||| (ush (u' ((6 + c - 1) % 64)) 24))) ^^^ ((qz k1) <<< ((nI 24) &&& 31)))), (4, .int (nI (6 + c))), (2, .int (nI 6)), (0, .ref ha), (1, .ref hr)]) hx hb dX0_setKey_164 rfl hl (by decide) rfl (fun ls hl => ?_)
                refine lv_goto (pc := 165) (tgt := 189) hx hb dX0_setKey_165 (by decide) ?_
                refine lv_aload_n (pc := 189) hx hb dX0_setKey_189 rfl (lv_at hl 4 rfl) ?_
                refine va_get (pc := 190) (D := D) (ci := 0) (v := .ref b4) (C := RX0) (T := TX0) (N := 7) hx hb hts iu0 hown hK hP 0 rfl rfl 3 (by decide) (hts _ tw_323) (fun _ h9 => h9) rfl dX0_setKey_190 ?_
                refine lv_iload (pc := 193) hx hb dX0_setKey_193 (lv_at hl 2 rfl) ?_
                refine lv_bipush (pc := 195) (v := nI 63) hx hb dX0_setKey_195 (by decide +kernel) ?_
                refine lv_iand (pc := 197) hx hb dX0_setKey_197 ?_
                refine q_top (y := nI ((6 + c) % 64)) (q_andN (k := 6) (p := 64) (by decide) (by omega)) ?_
                refine lv_aload_n (pc := 198) hx hb dX0_setKey_198 rfl (lv_at hl 4 rfl) ?_
                refine va_get (pc := 199) (D := D) (ci := 0) (v := .ref b4) (C := RX0) (T := TX0) (N := 7) hx hb hts iu0 hown hK hP 0 rfl rfl 3 (by decide) (hts _ tw_323) (fun _ h9 => h9) rfl dX0_setKey_199 ?_
                refine lv_iload (pc := 202) hx hb dX0_setKey_202 (lv_at hl 2 rfl) ?_
                refine lv_iload_n (pc := 204) hx hb dX0_setKey_204 rfl (lv_at hl 3 rfl) ?_
                refine lv_isub (pc := 205) hx hb dX0_setKey_205 ?_
                refine q_top (y := nI (6 + c - 6)) (pk_sub (a := 6 + c) (b := 6) (by omega)) ?_
                refine lv_bipush (pc := 206) (v := nI 63) hx hb dX0_setKey_206 (by decide +kernel) ?_
                refine lv_iand (pc := 208) hx hb dX0_setKey_208 ?_
                refine q_top (y := nI ((6 + c - 6) % 64)) (q_andN (k := 6) (p := 64) (by decide) (by omega)) ?_
                refine q_iald (pc := 209) hx hb hK hP 1 0 rfl rfl (k := (6 + c - 6) % 64) (v := u' ((6 + c - 6) % 64)) rfl (by omega) (by omega) rfl dX0_setKey_209 ?_
                refine lv_iload (pc := 210) hx hb dX0_setKey_210 (lv_at hl 1 rfl) ?_
                refine lv_ixor (pc := 212) hx hb dX0_setKey_212 ?_
                refine q_iastI (pc := 213) hx hb hK hP hD hS 1 0 rfl rfl (k := (6 + c) % 64) rfl (by omega) (by omega)  dX0_setKey_213 (fun H locs hP hD hS => ?_)
                have hP : va_P D vwCl [(ha, oA b1 b2 b3 b4 b5 b6 12), (b4, aI ta 64 (qU u' ((6 + c) % 64) ((u' ((6 + c - 6) % 64)) ^^^ ((cBox (((u' ((6 + c - 1) % 64)) <<< ((nI 8) &&& 31)) ||| (ush (u' ((6 + c - 1) % 64)) 24))) ^^^ ((qz k1) <<< ((nI 24) &&& 31)))))), (hr, oR br 24), (br, aZ ta capr gr)] H := hP
                have hD : va_D A [(ha, oA b1 b2 b3 b4 b5 b6 12), (b4, aI ta 64 (qU u' ((6 + c) % 64) ((u' ((6 + c - 6) % 64)) ^^^ ((cBox (((u' ((6 + c - 1) % 64)) <<< ((nI 8) &&& 31)) ||| (ush (u' ((6 + c - 1) % 64)) 24))) ^^^ ((qz k1) <<< ((nI 24) &&& 31)))))), (hr, oR br 24), (br, aZ ta capr gr)] := hD
                refine lv_iinc (pc := 214) (v := nI (6 + c + 1)) (lv' := [(4, .int (nI (6 + c + 1))), (3, .int (qz (xt k1))), (5, .int ((cBox (((u' ((6 + c - 1) % 64)) <<< ((nI 8) &&& 31)) ||| (ush (u' ((6 + c - 1) % 64)) 24))) ^^^ ((qz k1) <<< ((nI 24) &&& 31)))), (2, .int (nI 6)), (0, .ref ha), (1, .ref hr)]) hx hb dX0_setKey_214 hl (k := 2) rfl (by first | exact nI_add (6 + c) 1 | rfl) (by decide) rfl (fun ls hl => ?_)
                refine lv_goto (pc := 217) (tgt := 97) hx hb dX0_setKey_217 (by decide) ?_
                exact ih97 (c + 1) (xt k1) (qU u' ((6 + c) % 64) ((u' ((6 + c - 6) % 64)) ^^^ ((cBox (((u' ((6 + c - 1) % 64)) <<< ((nI 8) &&& 31)) ||| (ush (u' ((6 + c - 1) % 64)) 24))) ^^^ ((qz k1) <<< ((nI 24) &&& 31))))) (by omega) (by subst hk1; first | (rw [show (6 + (c + 1) - 1) / 6 = (6 + c - 1) / 6 + 1 by omega]; rfl) | (rw [show (6 + (c + 1) - 1) / 6 = (6 + c - 1) / 6 by omega])) (kw_step (by omega) hs3 (by rw [hs3 _ (by omega), hs3 _ (by omega), show (6 + c - 6) % 64 = c by omega, show (6 + c - 1) % 64 = 6 + c - 1 by omega]; first | exact aKey_A h128 hk1 | exact aKey_B h128 ⟨rfl, h179⟩ | exact aKey_C h128 (by omega))) (by omega) _ _ (hP.sub [0, 1, 2, 3] rfl) (hD.sub [0, 1, 2, 3] (by decide) rfl) hS ls (lv_sub hl [0, 1, 3, 4, 5] rfl)
        exact LP97 _ 0 (1#8) w' (by omega) (rfl) (fun q hq => hs q (by omega)) (Nat.lt_succ_self _) _ _ (hP.sub [0, 1, 2, 3] rfl) (hD.sub [0, 1, 2, 3] (by decide) rfl) hS ls (lv_sub hl [0, 1, 2, 3, 4] rfl)
      · skip
        rw [nI_leI (by omega) (by omega)] at c_3
        refine lv_aload_n (pc := 34) hx hb dX0_setKey_34 rfl (lv_at hl 2 rfl) ?_
        refine va_get (pc := 35) (D := D) (ci := 0) (v := .ref b4) (C := RX0) (T := TX0) (N := 7) hx hb hts iu0 hown hK hP 0 rfl rfl 3 (by decide) (hts _ tw_323) (fun _ h9 => h9) rfl dX0_setKey_35 ?_
        refine lv_iload_n (pc := 38) hx hb dX0_setKey_38 rfl (lv_at hl 0 rfl) ?_
        refine lv_iconst (pc := 39) (v := nI 0) hx hb dX0_setKey_39 (by decide +kernel) ?_
        refine q_iastI (pc := 40) hx hb hK hP hD hS 1 0 rfl rfl (k := i) rfl (by omega) (by omega)  dX0_setKey_40 (fun H locs hP hD hS => ?_)
        have hP : va_P D vwCl [(ha, oA b1 b2 b3 b4 b5 b6 12), (b4, aI ta 64 (qU w' i (nI 0))), (hr, oR br 24), (br, aZ ta capr gr)] H := hP
        have hD : va_D A [(ha, oA b1 b2 b3 b4 b5 b6 12), (b4, aI ta 64 (qU w' i (nI 0))), (hr, oR br 24), (br, aZ ta capr gr)] := hD
        refine lv_iconst (pc := 41) (v := nI 0) hx hb dX0_setKey_41 (by decide +kernel) ?_
        refine lv_istore (pc := 42) (lv' := [(4, .int (nI 0)), (3, .int (nI i)), (2, .int (nI 6)), (0, .ref ha), (1, .ref hr)]) hx hb dX0_setKey_42 hl (by decide) rfl (fun ls hl => ?_)
        have LP44 : ∀ (nn44 : Nat) (j : Nat) (v' : Nat → Int32), (j ≤ 4) → ((∀ q, q < i → v' q = wdF gr q) ∧ v' i = ldS (nI 0) gr i j) → (4 - j < nn44) → ∀ (H : Heap) (locs : List Loc), va_P D vwCl [(ha, oA b1 b2 b3 b4 b5 b6 12), (b4, aI ta 64 v'), (hr, oR br 24), (br, aZ ta capr gr)] H → va_D A [(ha, oA b1 b2 b3 b4 b5 b6 12), (b4, aI ta 64 v'), (hr, oR br 24), (br, aZ ta capr gr)] → va_S A ss.heap H locs → ∀ ls : Array Slot, lv_has ls 6 [(4, .int (nI j)), (3, .int (nI i)), (2, .int (nI 6)), (0, .ref ha), (1, .ref hr)] → W pp ll ee ({ frames := 1, cells := 0, slots := 0, locals := 21 } : Room) ss mm (([.ref ha, .ref hr] : List Value).toArray) below meth kc H locs 0 0 Q (F0 mm 44 ls []) := by
          intro nn44
          induction nn44 with
          | zero => intro j v' hjj hs2 hmu; exact absurd hmu (Nat.not_lt_zero _)
          | succ nn44 ih44 =>
            intro j v' hjj hs2 hmu44 H locs hP hD hS ls hl
            refine lv_iload (pc := 44) hx hb dX0_setKey_44 (lv_at hl 0 rfl) ?_
            refine lv_iconst (pc := 46) (v := nI 4) hx hb dX0_setKey_46 (by decide +kernel) ?_
            refine lv_icmp_ge (pc := 47) (tgt := 86) hx hb dX0_setKey_47 (by decide) (fun c_8 => ?_) (fun c_8 => ?_)
            · skip
              rw [nI_leI (by omega) (by omega)] at c_8
              refine lv_iinc (pc := 86) (v := nI (i + 1)) (lv' := [(3, .int (nI (i + 1))), (4, .int (nI j)), (2, .int (nI 6)), (0, .ref ha), (1, .ref hr)]) hx hb dX0_setKey_86 hl (k := 1) rfl (by first | exact nI_add i 1 | rfl) (by decide) rfl (fun ls hl => ?_)
              refine lv_goto (pc := 89) (tgt := 29) hx hb dX0_setKey_89 (by decide) ?_
              exact ih29 (i + 1) v' (by omega) (by intro q hq; rcases Nat.lt_or_ge q i with z | z; exact hs2.1 q z; rw [show q = i by omega, hs2.2, show j = 4 by omega, ldS_4]) (by omega) _ _ (hP.sub [0, 1, 2, 3] rfl) (hD.sub [0, 1, 2, 3] (by decide) rfl) hS ls (lv_sub hl [0, 2, 3, 4] rfl)
            · skip
              rw [nI_leI (by omega) (by omega)] at c_8
              refine lv_aload_n (pc := 50) hx hb dX0_setKey_50 rfl (lv_at hl 3 rfl) ?_
              refine va_get (pc := 51) (D := D) (ci := 0) (v := .ref b4) (C := RX0) (T := TX0) (N := 7) hx hb hts iu0 hown hK hP 0 rfl rfl 3 (by decide) (hts _ tw_323) (fun _ h9 => h9) rfl dX0_setKey_51 ?_
              refine lv_iload_n (pc := 54) hx hb dX0_setKey_54 rfl (lv_at hl 1 rfl) ?_
              refine lv_aload_n (pc := 55) hx hb dX0_setKey_55 rfl (lv_at hl 3 rfl) ?_
              refine va_get (pc := 56) (D := D) (ci := 0) (v := .ref b4) (C := RX0) (T := TX0) (N := 7) hx hb hts iu0 hown hK hP 0 rfl rfl 3 (by decide) (hts _ tw_323) (fun _ h9 => h9) rfl dX0_setKey_56 ?_
              refine lv_iload_n (pc := 59) hx hb dX0_setKey_59 rfl (lv_at hl 1 rfl) ?_
              refine q_iald (pc := 60) hx hb hK hP 1 0 rfl rfl (k := i) (v := v' i) rfl (by omega) (by omega) rfl dX0_setKey_60 ?_
              refine lv_bipush (pc := 61) (v := nI 8) hx hb dX0_setKey_61 (by decide +kernel) ?_
              refine lv_ishl (pc := 63) hx hb dX0_setKey_63 ?_
              refine lv_aload_n (pc := 64) hx hb dX0_setKey_64 rfl (lv_at hl 4 rfl) ?_
              refine lv_iconst (pc := 65) (v := nI 4) hx hb dX0_setKey_65 (by decide +kernel) ?_
              refine lv_iload_n (pc := 66) hx hb dX0_setKey_66 rfl (lv_at hl 1 rfl) ?_
              refine lv_imul (pc := 67) hx hb dX0_setKey_67 ?_
              refine q_top (y := nI (4 * i)) (pk_mul 4 i) ?_
              refine lv_iload (pc := 68) hx hb dX0_setKey_68 (lv_at hl 0 rfl) ?_
              refine lv_iadd (pc := 70) hx hb dX0_setKey_70 ?_
              refine q_top (y := nI (4 * i + j)) (nI_add (4 * i) j) ?_
              refine cs_V (pc := 71) (idx := 35) (n := 1) (wr := [(ha, oA b1 b2 b3 b4 b5 b6 12), (b4, aI ta 64 v')]) (As := [.int (nI (4 * i + j))]) (rest := [.int ((v' i) <<< ((nI 8) &&& 31)), .int (nI i), .ref b4]) (ci := 5) hx hb hml hown hts hGok hK hA hG hl.1 hP hD hS (ct_X6_at_in ll D ta hGok hr br capr gr 24 (4 * i + j) (by first | assumption | omega | rfl | decide) (by first | assumption | omega | rfl | decide) (by first | assumption | omega | rfl | decide) H.size) tw_413 tw_517 tw_411 tw_412 tw_66 hdX6_at rfl ⟨rfl, rfl, Nat.le_of_ble_eq_true rfl, Nat.le_of_ble_eq_true rfl, Nat.le_of_ble_eq_true rfl, Nat.le_of_ble_eq_true rfl⟩ rfl rfl (q0 := 2) rfl [2, 3] [0, 1] rfl rfl (by decide) rfl (Nat.le_of_ble_eq_true rfl) dX0_setKey_71 (fun u H locs hq hP hD hS => ?_)
              refine W.eq (g2 := F0 mm 74 ls [.int (qz (gr (4 * i + j))), .int ((v' i) <<< ((nI 8) &&& 31)), .int (nI i), .ref b4]) rfl ?_
              have hP : va_P D vwCl [(ha, oA b1 b2 b3 b4 b5 b6 12), (b4, aI ta 64 v'), (hr, oR br 24), (br, aZ ta capr gr)] H := hP
              have hD : va_D A [(ha, oA b1 b2 b3 b4 b5 b6 12), (b4, aI ta 64 v'), (hr, oR br 24), (br, aZ ta capr gr)] := hD
              refine lv_sipush (pc := 74) (v := nI 255) hx hb dX0_setKey_74 (by decide +kernel) ?_
              refine lv_iand (pc := 77) hx hb dX0_setKey_77 ?_
              refine q_top (y := qz (gr (4 * i + j))) (q_and255z _) ?_
              refine lv_ior (pc := 78) hx hb dX0_setKey_78 ?_
              refine q_iastI (pc := 79) hx hb hK hP hD hS 1 0 rfl rfl (k := i) rfl (by omega) (by omega)  dX0_setKey_79 (fun H locs hP hD hS => ?_)
              have hP : va_P D vwCl [(ha, oA b1 b2 b3 b4 b5 b6 12), (b4, aI ta 64 (qU v' i (((v' i) <<< ((nI 8) &&& 31)) ||| (qz (gr (4 * i + j)))))), (hr, oR br 24), (br, aZ ta capr gr)] H := hP
              have hD : va_D A [(ha, oA b1 b2 b3 b4 b5 b6 12), (b4, aI ta 64 (qU v' i (((v' i) <<< ((nI 8) &&& 31)) ||| (qz (gr (4 * i + j)))))), (hr, oR br 24), (br, aZ ta capr gr)] := hD
              refine lv_iinc (pc := 80) (v := nI (j + 1)) (lv' := [(4, .int (nI (j + 1))), (3, .int (nI i)), (2, .int (nI 6)), (0, .ref ha), (1, .ref hr)]) hx hb dX0_setKey_80 hl (k := 0) rfl (by first | exact nI_add j 1 | rfl) (by decide) rfl (fun ls hl => ?_)
              refine lv_goto (pc := 83) (tgt := 44) hx hb dX0_setKey_83 (by decide) ?_
              exact ih44 (j + 1) (qU v' i (((v' i) <<< ((nI 8) &&& 31)) ||| (qz (gr (4 * i + j))))) (by omega) (⟨fun q hq => by rw [qU_ne (by omega)]; exact hs2.1 q hq, by rw [qU_same, hs2.2]; rfl⟩) (by omega) _ _ (hP.sub [0, 1, 2, 3] rfl) (hD.sub [0, 1, 2, 3] (by decide) rfl) hS ls (lv_sub hl [0, 1, 2, 3, 4] rfl)
        exact LP44 _ 0 (qU w' i (nI 0)) (by omega) (⟨fun q hq => by rw [qU_ne (by omega)]; exact hs q hq, qU_same⟩) (Nat.lt_succ_self _) _ _ (hP.sub [0, 1, 2, 3] rfl) (hD.sub [0, 1, 2, 3] (by decide) rfl) hS ls (lv_sub hl [0, 1, 2, 3, 4] rfl)
  exact LP29 _ 0 kw (by omega) (fun q hq => absurd hq (Nat.not_lt_zero _)) (Nat.lt_succ_self _) _ _ (hP.sub [0, 1, 2, 3] rfl) (hD.sub [0, 1, 2, 3] (by decide) rfl) hS ls (lv_sub hl [0, 1, 2, 3] rfl)
set_option maxHeartbeats 4000000 in
set_option maxRecDepth 100000 in
theorem ct_X0_setKey_8 (ll : Launch) (D : va_G) (ta : Nat → ClassId) (gs : Nat → Nat) (ha : Nat) (b1 : Nat) (b2 : Nat) (b3 : Nat) (b4 : Nat) (b5 : Nat) (b6 : Nat) (R : Nat) (kw : Nat → Int32) (hr : Nat) (br : Nat) (capr : Nat) (gr : Nat → BitVec 8) (hcp : 32 ≤ capr) (hcr : capr < 2147483648) (sz : Nat) : CT ll yX0_setKey cX0_setKey 6 none ({ frames := 1, cells := 0, slots := 0, locals := 21 } : Room) D ta ((GC gs)) [.ref ha, .ref hr] [(ha, oA b1 b2 b3 b4 b5 b6 R), (b4, aI ta 64 kw), (hr, oR br 32), (br, aZ ta capr gr)] sz (S := (Nat → Int32)) (fun _ => none) (fun u => (∀ j, j < 60 → u j = wdF (aKey gr 8 52) j)) (fun u => [(ha, oA b1 b2 b3 b4 b5 b6 14), (b4, aI ta 64 u), (hr, oR br 32), (br, aZ ta capr gr)]) 0 0 := by
  refine CT.of_v rfl (by decide) (Nat.le_of_ble_eq_true rfl) ?_
  have hGok := GC_ok gs
  intro pp ee ss mm below meth kc A Q hx hb hml hown hin hts hK hA hsz hG hret H locs hP hD hS ls hl
  have hl : lv_has ls 6 [(0, .ref ha), (1, .ref hr)] := hl
  refine lv_aload_n (pc := 0) hx hb dX0_setKey_0 rfl (lv_at hl 1 rfl) ?_
  refine cs_V (pc := 1) (idx := 29) (n := 0) (wr := [(ha, oA b1 b2 b3 b4 b5 b6 R), (b4, aI ta 64 kw)]) (As := []) (rest := []) (ci := 5) hx hb hml hown hts hGok hK hA hG hl.1 hP hD hS (ct_X6_size ll D ta hGok hr br capr gr 32  H.size) tw_393 tw_516 tw_391 tw_392 tw_66 hdX6_size rfl ⟨rfl, rfl, Nat.le_of_ble_eq_true rfl, Nat.le_of_ble_eq_true rfl, Nat.le_of_ble_eq_true rfl, Nat.le_of_ble_eq_true rfl⟩ rfl rfl (q0 := 2) rfl [2, 3] [0, 1] rfl rfl (by decide) rfl (Nat.le_of_ble_eq_true rfl) dX0_setKey_1 (fun u H locs hq hP hD hS => ?_)
  refine W.eq (g2 := F0 mm 4 ls [.int (nI 32)]) rfl ?_
  have hP : va_P D vwCl [(ha, oA b1 b2 b3 b4 b5 b6 R), (b4, aI ta 64 kw), (hr, oR br 32), (br, aZ ta capr gr)] H := hP
  have hD : va_D A [(ha, oA b1 b2 b3 b4 b5 b6 R), (b4, aI ta 64 kw), (hr, oR br 32), (br, aZ ta capr gr)] := hD
  refine lv_iconst (pc := 4) (v := nI 4) hx hb dX0_setKey_4 (by decide +kernel) ?_
  refine lv_idiv (pc := 5) hx hb dX0_setKey_5 (q_ne0 (by omega) (by omega)) ?_
  refine q_top (y := nI (32 / 4)) (pk_div (by omega) (by omega) (by omega)) ?_
  refine q_top (y := nI 8) (by decide) ?_
  refine lv_istore_n (pc := 6) (lv' := [(2, .int (nI 8)), (0, .ref ha), (1, .ref hr)]) hx hb dX0_setKey_6 rfl hl (by decide) rfl (fun ls hl => ?_)
  refine lv_iload_n (pc := 7) hx hb dX0_setKey_7 rfl (lv_at hl 0 rfl) ?_
  refine lv_iconst (pc := 8) (v := nI 4) hx hb dX0_setKey_8 (by decide +kernel) ?_
  refine lv_icmp_lt (pc := 9) (tgt := 18) hx hb dX0_setKey_9 (by decide) (fun c_1 => absurd c_1 (by decide)) (fun _ => ?_)
  refine lv_iload_n (pc := 12) hx hb dX0_setKey_12 rfl (lv_at hl 0 rfl) ?_
  refine lv_bipush (pc := 13) (v := nI 8) hx hb dX0_setKey_13 (by decide +kernel) ?_
  refine lv_icmp_le (pc := 15) (tgt := 19) hx hb dX0_setKey_15 (by decide) (fun _ => ?_) (fun c_2 => absurd (by decide) c_2)
  refine lv_aload_n (pc := 19) hx hb dX0_setKey_19 rfl (lv_at hl 1 rfl) ?_
  refine lv_iload_n (pc := 20) hx hb dX0_setKey_20 rfl (lv_at hl 0 rfl) ?_
  refine lv_bipush (pc := 21) (v := nI 6) hx hb dX0_setKey_21 (by decide +kernel) ?_
  refine lv_iadd (pc := 23) hx hb dX0_setKey_23 ?_
  refine q_top (y := nI 14) (by decide +kernel) ?_
  refine va_put (pc := 24) (D := D) (ci := 0) (v := .int (nI 14)) (ty := .int) (C := RX0) (T := TX0) (N := 7) hx hb hts iu0 tyX0 tyX0_ok nmX0 hown hK hP hD hS 0 rfl rfl 6 (by decide) (hts _ tw_326) (fun _ h9 => h9) rfl (by decide +kernel) rfl rfl (Nat.le_of_ble_eq_true rfl) dX0_setKey_24 (fun H locs hP hD hS => ?_)
  have hP : va_P D vwCl [(ha, oA b1 b2 b3 b4 b5 b6 14), (b4, aI ta 64 kw), (hr, oR br 32), (br, aZ ta capr gr)] H := hP
  have hD : va_D A [(ha, oA b1 b2 b3 b4 b5 b6 14), (b4, aI ta 64 kw), (hr, oR br 32), (br, aZ ta capr gr)] := hD
  refine lv_iconst (pc := 27) (v := nI 0) hx hb dX0_setKey_27 (by decide +kernel) ?_
  refine lv_istore_n (pc := 28) (lv' := [(3, .int (nI 0)), (2, .int (nI 8)), (0, .ref ha), (1, .ref hr)]) hx hb dX0_setKey_28 rfl hl (by decide) rfl (fun ls hl => ?_)
  have LP29 : ∀ (nn29 : Nat) (i : Nat) (w' : Nat → Int32), (i ≤ 8) → (∀ q, q < i → w' q = wdF gr q) → (8 - i < nn29) → ∀ (H : Heap) (locs : List Loc), va_P D vwCl [(ha, oA b1 b2 b3 b4 b5 b6 14), (b4, aI ta 64 w'), (hr, oR br 32), (br, aZ ta capr gr)] H → va_D A [(ha, oA b1 b2 b3 b4 b5 b6 14), (b4, aI ta 64 w'), (hr, oR br 32), (br, aZ ta capr gr)] → va_S A ss.heap H locs → ∀ ls : Array Slot, lv_has ls 6 [(3, .int (nI i)), (2, .int (nI 8)), (0, .ref ha), (1, .ref hr)] → W pp ll ee ({ frames := 1, cells := 0, slots := 0, locals := 21 } : Room) ss mm (([.ref ha, .ref hr] : List Value).toArray) below meth kc H locs 0 0 Q (F0 mm 29 ls []) := by
    intro nn29
    induction nn29 with
    | zero => intro i w' hii hs hmu; exact absurd hmu (Nat.not_lt_zero _)
    | succ nn29 ih29 =>
      intro i w' hii hs hmu29 H locs hP hD hS ls hl
      refine lv_iload_n (pc := 29) hx hb dX0_setKey_29 rfl (lv_at hl 0 rfl) ?_
      refine lv_iload_n (pc := 30) hx hb dX0_setKey_30 rfl (lv_at hl 1 rfl) ?_
      refine lv_icmp_ge (pc := 31) (tgt := 92) hx hb dX0_setKey_31 (by decide) (fun c_3 => ?_) (fun c_3 => ?_)
      · skip
        rw [nI_leI (by omega) (by omega)] at c_3
        refine lv_iconst (pc := 92) (v := nI 1) hx hb dX0_setKey_92 (by decide +kernel) ?_
        refine q_top (y := qz (1#8)) (by decide) ?_
        refine lv_istore_n (pc := 93) (lv' := [(3, .int (qz (1#8))), (2, .int (nI 8)), (0, .ref ha), (1, .ref hr)]) hx hb dX0_setKey_93 rfl hl (by decide) rfl (fun ls hl => ?_)
        refine lv_iload_n (pc := 94) hx hb dX0_setKey_94 rfl (lv_at hl 1 rfl) ?_
        refine lv_istore (pc := 95) (lv' := [(4, .int (nI 8)), (3, .int (qz (1#8))), (2, .int (nI 8)), (0, .ref ha), (1, .ref hr)]) hx hb dX0_setKey_95 hl (by decide) rfl (fun ls hl => ?_)
        have LP97 : ∀ (nn97 : Nat) (c : Nat) (k1 : BitVec 8) (u' : Nat → Int32), (c ≤ 52) → (k1 = xtn 1#8 ((8 + c - 1) / 8)) → (∀ q, q < 8 + c → u' q = wdF (aKey gr 8 c) q) → (52 - c < nn97) → ∀ (H : Heap) (locs : List Loc), va_P D vwCl [(ha, oA b1 b2 b3 b4 b5 b6 14), (b4, aI ta 64 u'), (hr, oR br 32), (br, aZ ta capr gr)] H → va_D A [(ha, oA b1 b2 b3 b4 b5 b6 14), (b4, aI ta 64 u'), (hr, oR br 32), (br, aZ ta capr gr)] → va_S A ss.heap H locs → ∀ ls : Array Slot, lv_has ls 6 [(4, .int (nI (8 + c))), (3, .int (qz k1)), (2, .int (nI 8)), (0, .ref ha), (1, .ref hr)] → W pp ll ee ({ frames := 1, cells := 0, slots := 0, locals := 21 } : Room) ss mm (([.ref ha, .ref hr] : List Value).toArray) below meth kc H locs 0 0 Q (F0 mm 97 ls []) := by
          intro nn97
          induction nn97 with
          | zero => intro c k1 u' hcc hk1 hs3 hmu; exact absurd hmu (Nat.not_lt_zero _)
          | succ nn97 ih97 =>
            intro c k1 u' hcc hk1 hs3 hmu97 H locs hP hD hS ls hl
            refine lv_iload (pc := 97) hx hb dX0_setKey_97 (lv_at hl 0 rfl) ?_
            refine lv_iconst (pc := 99) (v := nI 4) hx hb dX0_setKey_99 (by decide +kernel) ?_
            refine lv_aload_n (pc := 100) hx hb dX0_setKey_100 rfl (lv_at hl 3 rfl) ?_
            refine va_get (pc := 101) (D := D) (ci := 0) (v := .int (nI 14)) (C := RX0) (T := TX0) (N := 7) hx hb hts iu0 hown hK hP 0 rfl rfl 6 (by decide) (hts _ tw_326) (fun _ h9 => h9) rfl dX0_setKey_101 ?_
            refine lv_iconst (pc := 104) (v := nI 1) hx hb dX0_setKey_104 (by decide +kernel) ?_
            refine lv_iadd (pc := 105) hx hb dX0_setKey_105 ?_
            refine q_top (y := nI 15) (by decide +kernel) ?_
            refine lv_imul (pc := 106) hx hb dX0_setKey_106 ?_
            refine q_top (y := nI 60) (by decide +kernel) ?_
            refine lv_icmp_ge (pc := 107) (tgt := 220) hx hb dX0_setKey_107 (by decide) (fun c_4 => ?_) (fun c_4 => ?_)
            · skip
              rw [nI_leI (by omega) (by omega)] at c_4
              have hq_5 : (∀ j, j < 60 → u' j = wdF (aKey gr 8 52) j) := by
                intro j hj
                rw [hs3 j (by omega), show c = 52 by omega]
              exact hret (u') _ _ _ _ dX0_setKey_220 hq_5 (hP.sub [0, 1, 2, 3] rfl) (hD.sub [0, 1, 2, 3] (by decide) rfl) hS
            · skip
              rw [nI_leI (by omega) (by omega)] at c_4
              refine lv_aload_n (pc := 110) hx hb dX0_setKey_110 rfl (lv_at hl 3 rfl) ?_
              refine va_get (pc := 111) (D := D) (ci := 0) (v := .ref b4) (C := RX0) (T := TX0) (N := 7) hx hb hts iu0 hown hK hP 0 rfl rfl 3 (by decide) (hts _ tw_323) (fun _ h9 => h9) rfl dX0_setKey_111 ?_
              refine lv_iload (pc := 114) hx hb dX0_setKey_114 (lv_at hl 0 rfl) ?_
              refine lv_iconst (pc := 116) (v := nI 1) hx hb dX0_setKey_116 (by decide +kernel) ?_
              refine lv_isub (pc := 117) hx hb dX0_setKey_117 ?_
              refine q_top (y := nI (8 + c - 1)) (pk_sub (a := 8 + c) (b := 1) (by omega)) ?_
              refine lv_bipush (pc := 118) (v := nI 63) hx hb dX0_setKey_118 (by decide +kernel) ?_
              refine lv_iand (pc := 120) hx hb dX0_setKey_120 ?_
              refine q_top (y := nI ((8 + c - 1) % 64)) (q_andN (k := 6) (p := 64) (by decide) (by omega)) ?_
              refine q_iald (pc := 121) hx hb hK hP 1 0 rfl rfl (k := (8 + c - 1) % 64) (v := u' ((8 + c - 1) % 64)) rfl (by omega) (by omega) rfl dX0_setKey_121 ?_
              refine lv_istore (pc := 122) (lv' := [(5, .int (u' ((8 + c - 1) % 64))), (4, .int (nI (8 + c))), (3, .int (qz k1)), (2, .int (nI 8)), (0, .ref ha), (1, .ref hr)]) hx hb dX0_setKey_122 hl (by decide) rfl (fun ls hl => ?_)
              refine lv_iload (pc := 124) hx hb dX0_setKey_124 (lv_at hl 1 rfl) ?_
              refine lv_iload_n (pc := 126) hx hb dX0_setKey_126 rfl (lv_at hl 3 rfl) ?_
              refine lv_irem (pc := 127) hx hb dX0_setKey_127 (q_ne0 (by omega) (by omega)) ?_
              refine q_top (y := nI ((8 + c) % 8)) (pk_rem (by omega) (by omega) (by omega)) ?_
              refine lv_if_ne (pc := 128) (tgt := 168) hx hb dX0_setKey_128 (by decide) (fun c_6 => ?_) (fun c_6 => ?_)
              · skip
                rw [q_eq0 (by omega)] at c_6
                have h128 := c_6
                refine lv_iload_n (pc := 168) hx hb dX0_setKey_168 rfl (lv_at hl 3 rfl) ?_
                refine lv_bipush (pc := 169) (v := nI 6) hx hb dX0_setKey_169 (by decide +kernel) ?_
                refine lv_icmp_le (pc := 171) (tgt := 189) hx hb dX0_setKey_171 (by decide) (fun c_7 => absurd c_7 (by decide)) (fun _ => ?_)
                refine lv_iload (pc := 174) hx hb dX0_setKey_174 (lv_at hl 1 rfl) ?_
                refine lv_iload_n (pc := 176) hx hb dX0_setKey_176 rfl (lv_at hl 3 rfl) ?_
                refine lv_irem (pc := 177) hx hb dX0_setKey_177 (q_ne0 (by omega) (by omega)) ?_
                refine q_top (y := nI ((8 + c) % 8)) (pk_rem (by omega) (by omega) (by omega)) ?_
                refine lv_iconst (pc := 178) (v := nI 4) hx hb dX0_setKey_178 (by decide +kernel) ?_
                refine lv_icmp_ne (pc := 179) (tgt := 189) hx hb dX0_setKey_179 (by decide) (fun c_8 => ?_) (fun c_8 => ?_)
                · skip
                  rw [nI_eq (by omega) (by omega)] at c_8
                  have h179 := c_8
                  refine lv_aload_n (pc := 189) hx hb dX0_setKey_189 rfl (lv_at hl 4 rfl) ?_
                  refine va_get (pc := 190) (D := D) (ci := 0) (v := .ref b4) (C := RX0) (T := TX0) (N := 7) hx hb hts iu0 hown hK hP 0 rfl rfl 3 (by decide) (hts _ tw_323) (fun _ h9 => h9) rfl dX0_setKey_190 ?_
                  refine lv_iload (pc := 193) hx hb dX0_setKey_193 (lv_at hl 1 rfl) ?_
                  refine lv_bipush (pc := 195) (v := nI 63) hx hb dX0_setKey_195 (by decide +kernel) ?_
                  refine lv_iand (pc := 197) hx hb dX0_setKey_197 ?_
                  refine q_top (y := nI ((8 + c) % 64)) (q_andN (k := 6) (p := 64) (by decide) (by omega)) ?_
                  refine lv_aload_n (pc := 198) hx hb dX0_setKey_198 rfl (lv_at hl 4 rfl) ?_
                  refine va_get (pc := 199) (D := D) (ci := 0) (v := .ref b4) (C := RX0) (T := TX0) (N := 7) hx hb hts iu0 hown hK hP 0 rfl rfl 3 (by decide) (hts _ tw_323) (fun _ h9 => h9) rfl dX0_setKey_199 ?_
                  refine lv_iload (pc := 202) hx hb dX0_setKey_202 (lv_at hl 1 rfl) ?_
                  refine lv_iload_n (pc := 204) hx hb dX0_setKey_204 rfl (lv_at hl 3 rfl) ?_
                  refine lv_isub (pc := 205) hx hb dX0_setKey_205 ?_
                  refine q_top (y := nI (8 + c - 8)) (pk_sub (a := 8 + c) (b := 8) (by omega)) ?_
                  refine lv_bipush (pc := 206) (v := nI 63) hx hb dX0_setKey_206 (by decide +kernel) ?_
                  refine lv_iand (pc := 208) hx hb dX0_setKey_208 ?_
                  refine q_top (y := nI ((8 + c - 8) % 64)) (q_andN (k := 6) (p := 64) (by decide) (by omega)) ?_
                  refine q_iald (pc := 209) hx hb hK hP 1 0 rfl rfl (k := (8 + c - 8) % 64) (v := u' ((8 + c - 8) % 64)) rfl (by omega) (by omega) rfl dX0_setKey_209 ?_
                  refine lv_iload (pc := 210) hx hb dX0_setKey_210 (lv_at hl 0 rfl) ?_
                  refine lv_ixor (pc := 212) hx hb dX0_setKey_212 ?_
                  refine q_iastI (pc := 213) hx hb hK hP hD hS 1 0 rfl rfl (k := (8 + c) % 64) rfl (by omega) (by omega)  dX0_setKey_213 (fun H locs hP hD hS => ?_)
                  have hP : va_P D vwCl [(ha, oA b1 b2 b3 b4 b5 b6 14), (b4, aI ta 64 (qU u' ((8 + c) % 64) ((u' ((8 + c - 8) % 64)) ^^^ (u' ((8 + c - 1) % 64))))), (hr, oR br 32), (br, aZ ta capr gr)] H := hP
                  have hD : va_D A [(ha, oA b1 b2 b3 b4 b5 b6 14), (b4, aI ta 64 (qU u' ((8 + c) % 64) ((u' ((8 + c - 8) % 64)) ^^^ (u' ((8 + c - 1) % 64))))), (hr, oR br 32), (br, aZ ta capr gr)] := hD
                  refine lv_iinc (pc := 214) (v := nI (8 + c + 1)) (lv' := [(4, .int (nI (8 + c + 1))), (5, .int (u' ((8 + c - 1) % 64))), (3, .int (qz k1)), (2, .int (nI 8)), (0, .ref ha), (1, .ref hr)]) hx hb dX0_setKey_214 hl (k := 1) rfl (by first | exact nI_add (8 + c) 1 | rfl) (by decide) rfl (fun ls hl => ?_)
                  refine lv_goto (pc := 217) (tgt := 97) hx hb dX0_setKey_217 (by decide) ?_
                  exact ih97 (c + 1) k1 (qU u' ((8 + c) % 64) ((u' ((8 + c - 8) % 64)) ^^^ (u' ((8 + c - 1) % 64)))) (by omega) (by subst hk1; first | (rw [show (8 + (c + 1) - 1) / 8 = (8 + c - 1) / 8 + 1 by omega]; rfl) | (rw [show (8 + (c + 1) - 1) / 8 = (8 + c - 1) / 8 by omega])) (kw_step (by omega) hs3 (by rw [hs3 _ (by omega), hs3 _ (by omega), show (8 + c - 8) % 64 = c by omega, show (8 + c - 1) % 64 = 8 + c - 1 by omega]; first | exact aKey_A h128 hk1 | exact aKey_B h128 ⟨rfl, h179⟩ | exact aKey_C h128 (by omega))) (by omega) _ _ (hP.sub [0, 1, 2, 3] rfl) (hD.sub [0, 1, 2, 3] (by decide) rfl) hS ls (lv_sub hl [0, 2, 3, 4, 5] rfl)
                · skip
                  rw [nI_eq (by omega) (by omega)] at c_8
                  have h179 := c_8
                  refine lv_iload (pc := 182) hx hb dX0_setKey_182 (lv_at hl 0 rfl) ?_
                  refine cs_S (pc := 184) (idx := 39) (n := 1) (wr := [(ha, oA b1 b2 b3 b4 b5 b6 14), (b4, aI ta 64 u'), (hr, oR br 32), (br, aZ ta capr gr)]) (As := [.int (u' ((8 + c - 1) % 64))]) (rest := []) hx hb hml hown hts hGok hK hA hG hl.1 hP hD hS (ct_X0_boxWord ll D ta gs (u' ((8 + c - 1) % 64))  H.size) tw_520 tw_518 tw_519 tw_74 hdX0_boxWord rfl ⟨rfl, rfl, Nat.le_of_ble_eq_true rfl, Nat.le_of_ble_eq_true rfl, Nat.le_of_ble_eq_true rfl, Nat.le_of_ble_eq_true rfl⟩ [] [0, 1, 2, 3] rfl rfl (by decide) rfl (Nat.le_of_ble_eq_true rfl) dX0_setKey_184 (fun u H locs hq hP hD hS => ?_)
                  refine W.eq (g2 := F0 mm 187 ls [.int (cBox (u' ((8 + c - 1) % 64)))]) rfl ?_
                  have hP : va_P D vwCl [(ha, oA b1 b2 b3 b4 b5 b6 14), (b4, aI ta 64 u'), (hr, oR br 32), (br, aZ ta capr gr)] H := hP
                  have hD : va_D A [(ha, oA b1 b2 b3 b4 b5 b6 14), (b4, aI ta 64 u'), (hr, oR br 32), (br, aZ ta capr gr)] := hD
                  refine lv_istore (pc := 187) (lv' := [(5, .int (cBox (u' ((8 + c - 1) % 64)))), (4, .int (nI (8 + c))), (3, .int (qz k1)), (2, .int (nI 8)), (0, .ref ha), (1, .ref hr)]) hx hb dX0_setKey_187 hl (by decide) rfl (fun ls hl => ?_)
                  refine lv_aload_n (pc := 189) hx hb dX0_setKey_189 rfl (lv_at hl 4 rfl) ?_
                  refine va_get (pc := 190) (D := D) (ci := 0) (v := .ref b4) (C := RX0) (T := TX0) (N := 7) hx hb hts iu0 hown hK hP 0 rfl rfl 3 (by decide) (hts _ tw_323) (fun _ h9 => h9) rfl dX0_setKey_190 ?_
                  refine lv_iload (pc := 193) hx hb dX0_setKey_193 (lv_at hl 1 rfl) ?_
                  refine lv_bipush (pc := 195) (v := nI 63) hx hb dX0_setKey_195 (by decide +kernel) ?_
                  refine lv_iand (pc := 197) hx hb dX0_setKey_197 ?_
                  refine q_top (y := nI ((8 + c) % 64)) (q_andN (k := 6) (p := 64) (by decide) (by omega)) ?_
                  refine lv_aload_n (pc := 198) hx hb dX0_setKey_198 rfl (lv_at hl 4 rfl) ?_
                  refine va_get (pc := 199) (D := D) (ci := 0) (v := .ref b4) (C := RX0) (T := TX0) (N := 7) hx hb hts iu0 hown hK hP 0 rfl rfl 3 (by decide) (hts _ tw_323) (fun _ h9 => h9) rfl dX0_setKey_199 ?_
                  refine lv_iload (pc := 202) hx hb dX0_setKey_202 (lv_at hl 1 rfl) ?_
                  refine lv_iload_n (pc := 204) hx hb dX0_setKey_204 rfl (lv_at hl 3 rfl) ?_
                  refine lv_isub (pc := 205) hx hb dX0_setKey_205 ?_
                  refine q_top (y := nI (8 + c - 8)) (pk_sub (a := 8 + c) (b := 8) (by omega)) ?_
                  refine lv_bipush (pc := 206) (v := nI 63) hx hb dX0_setKey_206 (by decide +kernel) ?_
                  refine lv_iand (pc := 208) hx hb dX0_setKey_208 ?_
                  refine q_top (y := nI ((8 + c - 8) % 64)) (q_andN (k := 6) (p := 64) (by decide) (by omega)) ?_
                  refine q_iald (pc := 209) hx hb hK hP 1 0 rfl rfl (k := (8 + c - 8) % 64) (v := u' ((8 + c - 8) % 64)) rfl (by omega) (by omega) rfl dX0_setKey_209 ?_
                  refine lv_iload (pc := 210) hx hb dX0_setKey_210 (lv_at hl 0 rfl) ?_
                  refine lv_ixor (pc := 212) hx hb dX0_setKey_212 ?_
                  refine q_iastI (pc := 213) hx hb hK hP hD hS 1 0 rfl rfl (k := (8 + c) % 64) rfl (by omega) (by omega)  dX0_setKey_213 (fun H locs hP hD hS => ?_)
                  have hP : va_P D vwCl [(ha, oA b1 b2 b3 b4 b5 b6 14), (b4, aI ta 64 (qU u' ((8 + c) % 64) ((u' ((8 + c - 8) % 64)) ^^^ (cBox (u' ((8 + c - 1) % 64)))))), (hr, oR br 32), (br, aZ ta capr gr)] H := hP
                  have hD : va_D A [(ha, oA b1 b2 b3 b4 b5 b6 14), (b4, aI ta 64 (qU u' ((8 + c) % 64) ((u' ((8 + c - 8) % 64)) ^^^ (cBox (u' ((8 + c - 1) % 64)))))), (hr, oR br 32), (br, aZ ta capr gr)] := hD
                  refine lv_iinc (pc := 214) (v := nI (8 + c + 1)) (lv' := [(4, .int (nI (8 + c + 1))), (5, .int (cBox (u' ((8 + c - 1) % 64)))), (3, .int (qz k1)), (2, .int (nI 8)), (0, .ref ha), (1, .ref hr)]) hx hb dX0_setKey_214 hl (k := 1) rfl (by first | exact nI_add (8 + c) 1 | rfl) (by decide) rfl (fun ls hl => ?_)
                  refine lv_goto (pc := 217) (tgt := 97) hx hb dX0_setKey_217 (by decide) ?_
                  exact ih97 (c + 1) k1 (qU u' ((8 + c) % 64) ((u' ((8 + c - 8) % 64)) ^^^ (cBox (u' ((8 + c - 1) % 64))))) (by omega) (by subst hk1; first | (rw [show (8 + (c + 1) - 1) / 8 = (8 + c - 1) / 8 + 1 by omega]; rfl) | (rw [show (8 + (c + 1) - 1) / 8 = (8 + c - 1) / 8 by omega])) (kw_step (by omega) hs3 (by rw [hs3 _ (by omega), hs3 _ (by omega), show (8 + c - 8) % 64 = c by omega, show (8 + c - 1) % 64 = 8 + c - 1 by omega]; first | exact aKey_A h128 hk1 | exact aKey_B h128 ⟨rfl, h179⟩ | exact aKey_C h128 (by omega))) (by omega) _ _ (hP.sub [0, 1, 2, 3] rfl) (hD.sub [0, 1, 2, 3] (by decide) rfl) hS ls (lv_sub hl [0, 2, 3, 4, 5] rfl)
              · skip
                rw [q_eq0 (by omega)] at c_6
                have h128 := c_6
                refine lv_iload (pc := 131) hx hb dX0_setKey_131 (lv_at hl 0 rfl) ?_
                refine lv_bipush (pc := 133) (v := nI 8) hx hb dX0_setKey_133 (by decide +kernel) ?_
                refine lv_ishl (pc := 135) hx hb dX0_setKey_135 ?_
                refine lv_iload (pc := 136) hx hb dX0_setKey_136 (lv_at hl 0 rfl) ?_
                refine lv_bipush (pc := 138) (v := nI 24) hx hb dX0_setKey_138 (by decide +kernel) ?_
                refine lv_iushr (pc := 140) (v := ush (u' ((8 + c - 1) % 64)) 24) hx hb dX0_setKey_140 rfl ?_
                refine lv_ior (pc := 141) hx hb dX0_setKey_141 ?_
                refine cs_S (pc := 142) (idx := 39) (n := 1) (wr := [(ha, oA b1 b2 b3 b4 b5 b6 14), (b4, aI ta 64 u'), (hr, oR br 32), (br, aZ ta capr gr)]) (As := [.int (((u' ((8 + c - 1) % 64)) <<< ((nI 8) &&& 31)) ||| (ush (u' ((8 + c - 1) % 64)) 24))]) (rest := []) hx hb hml hown hts hGok hK hA hG hl.1 hP hD hS (ct_X0_boxWord ll D ta gs (((u' ((8 + c - 1) % 64)) <<< ((nI 8) &&& 31)) ||| (ush (u' ((8 + c - 1) % 64)) 24))  H.size) tw_520 tw_518 tw_519 tw_74 hdX0_boxWord rfl ⟨rfl, rfl, Nat.le_of_ble_eq_true rfl, Nat.le_of_ble_eq_true rfl, Nat.le_of_ble_eq_true rfl, Nat.le_of_ble_eq_true rfl⟩ [] [0, 1, 2, 3] rfl rfl (by decide) rfl (Nat.le_of_ble_eq_true rfl) dX0_setKey_142 (fun u H locs hq hP hD hS => ?_)
                refine W.eq (g2 := F0 mm 145 ls [.int (cBox (((u' ((8 + c - 1) % 64)) <<< ((nI 8) &&& 31)) ||| (ush (u' ((8 + c - 1) % 64)) 24)))]) rfl ?_
                have hP : va_P D vwCl [(ha, oA b1 b2 b3 b4 b5 b6 14), (b4, aI ta 64 u'), (hr, oR br 32), (br, aZ ta capr gr)] H := hP
                have hD : va_D A [(ha, oA b1 b2 b3 b4 b5 b6 14), (b4, aI ta 64 u'), (hr, oR br 32), (br, aZ ta capr gr)] := hD
                refine lv_iload_n (pc := 145) hx hb dX0_setKey_145 rfl (lv_at hl 2 rfl) ?_
                refine lv_bipush (pc := 146) (v := nI 24) hx hb dX0_setKey_146 (by decide +kernel) ?_
                refine lv_ishl (pc := 148) hx hb dX0_setKey_148 ?_
                refine lv_ixor (pc := 149) hx hb dX0_setKey_149 ?_
                refine lv_istore (pc := 150) (lv' := [(5, .int ((cBox (((u' ((8 + c - 1) % 64)) <<< ((nI 8) &&& 31)) ||| (ush (u' ((8 + c - 1) % 64)) 24))) ^^^ ((qz k1) <<< ((nI 24) &&& 31)))), (4, .int (nI (8 + c))), (3, .int (qz k1)), (2, .int (nI 8)), (0, .ref ha), (1, .ref hr)]) hx hb dX0_setKey_150 hl (by decide) rfl (fun ls hl => ?_)
                refine lv_iload_n (pc := 152) hx hb dX0_setKey_152 rfl (lv_at hl 2 rfl) ?_
                refine lv_iconst (pc := 153) (v := nI 1) hx hb dX0_setKey_153 (by decide +kernel) ?_
                refine lv_ishl (pc := 154) hx hb dX0_setKey_154 ?_
                refine lv_iload_n (pc := 155) hx hb dX0_setKey_155 rfl (lv_at hl 2 rfl) ?_
                refine lv_bipush (pc := 156) (v := nI 7) hx hb dX0_setKey_156 (by decide +kernel) ?_
                refine lv_iushr (pc := 158) (v := ush (qz k1) 7) hx hb dX0_setKey_158 rfl ?_
                refine lv_sipush (pc := 159) (v := nI 283) hx hb dX0_setKey_159 (by decide +kernel) ?_
                refine lv_imul (pc := 162) hx hb dX0_setKey_162 ?_
                refine lv_ixor (pc := 163) hx hb dX0_setKey_163 ?_
                refine q_top (y := qz (xt k1)) (const_xt k1) ?_
                refine lv_istore_n (pc := 164) (lv' := [(3, .int (qz (xt k1))), (5, .int ((cBox (((u' ((8 + c - 1) % 64)) <<< ((nI 8) &&& 31)) ||| (ush (u' ((8 + c - 1) % 64)) 24))) ^^^ ((qz k1) <<< ((nI 24) &&& 31)))), (4, .int (nI (8 + c))), (2, .int (nI 8)), (0, .ref ha), (1, .ref hr)]) hx hb dX0_setKey_164 rfl hl (by decide) rfl (fun ls hl => ?_)
                refine lv_goto (pc := 165) (tgt := 189) hx hb dX0_setKey_165 (by decide) ?_
                refine lv_aload_n (pc := 189) hx hb dX0_setKey_189 rfl (lv_at hl 4 rfl) ?_
                refine va_get (pc := 190) (D := D) (ci := 0) (v := .ref b4) (C := RX0) (T := TX0) (N := 7) hx hb hts iu0 hown hK hP 0 rfl rfl 3 (by decide) (hts _ tw_323) (fun _ h9 => h9) rfl dX0_setKey_190 ?_
                refine lv_iload (pc := 193) hx hb dX0_setKey_193 (lv_at hl 2 rfl) ?_
                refine lv_bipush (pc := 195) (v := nI 63) hx hb dX0_setKey_195 (by decide +kernel) ?_
                refine lv_iand (pc := 197) hx hb dX0_setKey_197 ?_
                refine q_top (y := nI ((8 + c) % 64)) (q_andN (k := 6) (p := 64) (by decide) (by omega)) ?_
                refine lv_aload_n (pc := 198) hx hb dX0_setKey_198 rfl (lv_at hl 4 rfl) ?_
                refine va_get (pc := 199) (D := D) (ci := 0) (v := .ref b4) (C := RX0) (T := TX0) (N := 7) hx hb hts iu0 hown hK hP 0 rfl rfl 3 (by decide) (hts _ tw_323) (fun _ h9 => h9) rfl dX0_setKey_199 ?_
                refine lv_iload (pc := 202) hx hb dX0_setKey_202 (lv_at hl 2 rfl) ?_
                refine lv_iload_n (pc := 204) hx hb dX0_setKey_204 rfl (lv_at hl 3 rfl) ?_
                refine lv_isub (pc := 205) hx hb dX0_setKey_205 ?_
                refine q_top (y := nI (8 + c - 8)) (pk_sub (a := 8 + c) (b := 8) (by omega)) ?_
                refine lv_bipush (pc := 206) (v := nI 63) hx hb dX0_setKey_206 (by decide +kernel) ?_
                refine lv_iand (pc := 208) hx hb dX0_setKey_208 ?_
                refine q_top (y := nI ((8 + c - 8) % 64)) (q_andN (k := 6) (p := 64) (by decide) (by omega)) ?_
                refine q_iald (pc := 209) hx hb hK hP 1 0 rfl rfl (k := (8 + c - 8) % 64) (v := u' ((8 + c - 8) % 64)) rfl (by omega) (by omega) rfl dX0_setKey_209 ?_
                refine lv_iload (pc := 210) hx hb dX0_setKey_210 (lv_at hl 1 rfl) ?_
                refine lv_ixor (pc := 212) hx hb dX0_setKey_212 ?_
                refine q_iastI (pc := 213) hx hb hK hP hD hS 1 0 rfl rfl (k := (8 + c) % 64) rfl (by omega) (by omega)  dX0_setKey_213 (fun H locs hP hD hS => ?_)
                have hP : va_P D vwCl [(ha, oA b1 b2 b3 b4 b5 b6 14), (b4, aI ta 64 (qU u' ((8 + c) % 64) ((u' ((8 + c - 8) % 64)) ^^^ ((cBox (((u' ((8 + c - 1) % 64)) <<< ((nI 8) &&& 31)) ||| (ush (u' ((8 + c - 1) % 64)) 24))) ^^^ ((qz k1) <<< ((nI 24) &&& 31)))))), (hr, oR br 32), (br, aZ ta capr gr)] H := hP
                have hD : va_D A [(ha, oA b1 b2 b3 b4 b5 b6 14), (b4, aI ta 64 (qU u' ((8 + c) % 64) ((u' ((8 + c - 8) % 64)) ^^^ ((cBox (((u' ((8 + c - 1) % 64)) <<< ((nI 8) &&& 31)) ||| (ush (u' ((8 + c - 1) % 64)) 24))) ^^^ ((qz k1) <<< ((nI 24) &&& 31)))))), (hr, oR br 32), (br, aZ ta capr gr)] := hD
                refine lv_iinc (pc := 214) (v := nI (8 + c + 1)) (lv' := [(4, .int (nI (8 + c + 1))), (3, .int (qz (xt k1))), (5, .int ((cBox (((u' ((8 + c - 1) % 64)) <<< ((nI 8) &&& 31)) ||| (ush (u' ((8 + c - 1) % 64)) 24))) ^^^ ((qz k1) <<< ((nI 24) &&& 31)))), (2, .int (nI 8)), (0, .ref ha), (1, .ref hr)]) hx hb dX0_setKey_214 hl (k := 2) rfl (by first | exact nI_add (8 + c) 1 | rfl) (by decide) rfl (fun ls hl => ?_)
                refine lv_goto (pc := 217) (tgt := 97) hx hb dX0_setKey_217 (by decide) ?_
                exact ih97 (c + 1) (xt k1) (qU u' ((8 + c) % 64) ((u' ((8 + c - 8) % 64)) ^^^ ((cBox (((u' ((8 + c - 1) % 64)) <<< ((nI 8) &&& 31)) ||| (ush (u' ((8 + c - 1) % 64)) 24))) ^^^ ((qz k1) <<< ((nI 24) &&& 31))))) (by omega) (by subst hk1; first | (rw [show (8 + (c + 1) - 1) / 8 = (8 + c - 1) / 8 + 1 by omega]; rfl) | (rw [show (8 + (c + 1) - 1) / 8 = (8 + c - 1) / 8 by omega])) (kw_step (by omega) hs3 (by rw [hs3 _ (by omega), hs3 _ (by omega), show (8 + c - 8) % 64 = c by omega, show (8 + c - 1) % 64 = 8 + c - 1 by omega]; first | exact aKey_A h128 hk1 | exact aKey_B h128 ⟨rfl, h179⟩ | exact aKey_C h128 (by omega))) (by omega) _ _ (hP.sub [0, 1, 2, 3] rfl) (hD.sub [0, 1, 2, 3] (by decide) rfl) hS ls (lv_sub hl [0, 1, 3, 4, 5] rfl)
        exact LP97 _ 0 (1#8) w' (by omega) (rfl) (fun q hq => hs q (by omega)) (Nat.lt_succ_self _) _ _ (hP.sub [0, 1, 2, 3] rfl) (hD.sub [0, 1, 2, 3] (by decide) rfl) hS ls (lv_sub hl [0, 1, 2, 3, 4] rfl)
      · skip
        rw [nI_leI (by omega) (by omega)] at c_3
        refine lv_aload_n (pc := 34) hx hb dX0_setKey_34 rfl (lv_at hl 2 rfl) ?_
        refine va_get (pc := 35) (D := D) (ci := 0) (v := .ref b4) (C := RX0) (T := TX0) (N := 7) hx hb hts iu0 hown hK hP 0 rfl rfl 3 (by decide) (hts _ tw_323) (fun _ h9 => h9) rfl dX0_setKey_35 ?_
        refine lv_iload_n (pc := 38) hx hb dX0_setKey_38 rfl (lv_at hl 0 rfl) ?_
        refine lv_iconst (pc := 39) (v := nI 0) hx hb dX0_setKey_39 (by decide +kernel) ?_
        refine q_iastI (pc := 40) hx hb hK hP hD hS 1 0 rfl rfl (k := i) rfl (by omega) (by omega)  dX0_setKey_40 (fun H locs hP hD hS => ?_)
        have hP : va_P D vwCl [(ha, oA b1 b2 b3 b4 b5 b6 14), (b4, aI ta 64 (qU w' i (nI 0))), (hr, oR br 32), (br, aZ ta capr gr)] H := hP
        have hD : va_D A [(ha, oA b1 b2 b3 b4 b5 b6 14), (b4, aI ta 64 (qU w' i (nI 0))), (hr, oR br 32), (br, aZ ta capr gr)] := hD
        refine lv_iconst (pc := 41) (v := nI 0) hx hb dX0_setKey_41 (by decide +kernel) ?_
        refine lv_istore (pc := 42) (lv' := [(4, .int (nI 0)), (3, .int (nI i)), (2, .int (nI 8)), (0, .ref ha), (1, .ref hr)]) hx hb dX0_setKey_42 hl (by decide) rfl (fun ls hl => ?_)
        have LP44 : ∀ (nn44 : Nat) (j : Nat) (v' : Nat → Int32), (j ≤ 4) → ((∀ q, q < i → v' q = wdF gr q) ∧ v' i = ldS (nI 0) gr i j) → (4 - j < nn44) → ∀ (H : Heap) (locs : List Loc), va_P D vwCl [(ha, oA b1 b2 b3 b4 b5 b6 14), (b4, aI ta 64 v'), (hr, oR br 32), (br, aZ ta capr gr)] H → va_D A [(ha, oA b1 b2 b3 b4 b5 b6 14), (b4, aI ta 64 v'), (hr, oR br 32), (br, aZ ta capr gr)] → va_S A ss.heap H locs → ∀ ls : Array Slot, lv_has ls 6 [(4, .int (nI j)), (3, .int (nI i)), (2, .int (nI 8)), (0, .ref ha), (1, .ref hr)] → W pp ll ee ({ frames := 1, cells := 0, slots := 0, locals := 21 } : Room) ss mm (([.ref ha, .ref hr] : List Value).toArray) below meth kc H locs 0 0 Q (F0 mm 44 ls []) := by
          intro nn44
          induction nn44 with
          | zero => intro j v' hjj hs2 hmu; exact absurd hmu (Nat.not_lt_zero _)
          | succ nn44 ih44 =>
            intro j v' hjj hs2 hmu44 H locs hP hD hS ls hl
            refine lv_iload (pc := 44) hx hb dX0_setKey_44 (lv_at hl 0 rfl) ?_
            refine lv_iconst (pc := 46) (v := nI 4) hx hb dX0_setKey_46 (by decide +kernel) ?_
            refine lv_icmp_ge (pc := 47) (tgt := 86) hx hb dX0_setKey_47 (by decide) (fun c_9 => ?_) (fun c_9 => ?_)
            · skip
              rw [nI_leI (by omega) (by omega)] at c_9
              refine lv_iinc (pc := 86) (v := nI (i + 1)) (lv' := [(3, .int (nI (i + 1))), (4, .int (nI j)), (2, .int (nI 8)), (0, .ref ha), (1, .ref hr)]) hx hb dX0_setKey_86 hl (k := 1) rfl (by first | exact nI_add i 1 | rfl) (by decide) rfl (fun ls hl => ?_)
              refine lv_goto (pc := 89) (tgt := 29) hx hb dX0_setKey_89 (by decide) ?_
              exact ih29 (i + 1) v' (by omega) (by intro q hq; rcases Nat.lt_or_ge q i with z | z; exact hs2.1 q z; rw [show q = i by omega, hs2.2, show j = 4 by omega, ldS_4]) (by omega) _ _ (hP.sub [0, 1, 2, 3] rfl) (hD.sub [0, 1, 2, 3] (by decide) rfl) hS ls (lv_sub hl [0, 2, 3, 4] rfl)
            · skip
              rw [nI_leI (by omega) (by omega)] at c_9
              refine lv_aload_n (pc := 50) hx hb dX0_setKey_50 rfl (lv_at hl 3 rfl) ?_
              refine va_get (pc := 51) (D := D) (ci := 0) (v := .ref b4) (C := RX0) (T := TX0) (N := 7) hx hb hts iu0 hown hK hP 0 rfl rfl 3 (by decide) (hts _ tw_323) (fun _ h9 => h9) rfl dX0_setKey_51 ?_
              refine lv_iload_n (pc := 54) hx hb dX0_setKey_54 rfl (lv_at hl 1 rfl) ?_
              refine lv_aload_n (pc := 55) hx hb dX0_setKey_55 rfl (lv_at hl 3 rfl) ?_
              refine va_get (pc := 56) (D := D) (ci := 0) (v := .ref b4) (C := RX0) (T := TX0) (N := 7) hx hb hts iu0 hown hK hP 0 rfl rfl 3 (by decide) (hts _ tw_323) (fun _ h9 => h9) rfl dX0_setKey_56 ?_
              refine lv_iload_n (pc := 59) hx hb dX0_setKey_59 rfl (lv_at hl 1 rfl) ?_
              refine q_iald (pc := 60) hx hb hK hP 1 0 rfl rfl (k := i) (v := v' i) rfl (by omega) (by omega) rfl dX0_setKey_60 ?_
              refine lv_bipush (pc := 61) (v := nI 8) hx hb dX0_setKey_61 (by decide +kernel) ?_
              refine lv_ishl (pc := 63) hx hb dX0_setKey_63 ?_
              refine lv_aload_n (pc := 64) hx hb dX0_setKey_64 rfl (lv_at hl 4 rfl) ?_
              refine lv_iconst (pc := 65) (v := nI 4) hx hb dX0_setKey_65 (by decide +kernel) ?_
              refine lv_iload_n (pc := 66) hx hb dX0_setKey_66 rfl (lv_at hl 1 rfl) ?_
              refine lv_imul (pc := 67) hx hb dX0_setKey_67 ?_
              refine q_top (y := nI (4 * i)) (pk_mul 4 i) ?_
              refine lv_iload (pc := 68) hx hb dX0_setKey_68 (lv_at hl 0 rfl) ?_
              refine lv_iadd (pc := 70) hx hb dX0_setKey_70 ?_
              refine q_top (y := nI (4 * i + j)) (nI_add (4 * i) j) ?_
              refine cs_V (pc := 71) (idx := 35) (n := 1) (wr := [(ha, oA b1 b2 b3 b4 b5 b6 14), (b4, aI ta 64 v')]) (As := [.int (nI (4 * i + j))]) (rest := [.int ((v' i) <<< ((nI 8) &&& 31)), .int (nI i), .ref b4]) (ci := 5) hx hb hml hown hts hGok hK hA hG hl.1 hP hD hS (ct_X6_at_in ll D ta hGok hr br capr gr 32 (4 * i + j) (by first | assumption | omega | rfl | decide) (by first | assumption | omega | rfl | decide) (by first | assumption | omega | rfl | decide) H.size) tw_413 tw_517 tw_411 tw_412 tw_66 hdX6_at rfl ⟨rfl, rfl, Nat.le_of_ble_eq_true rfl, Nat.le_of_ble_eq_true rfl, Nat.le_of_ble_eq_true rfl, Nat.le_of_ble_eq_true rfl⟩ rfl rfl (q0 := 2) rfl [2, 3] [0, 1] rfl rfl (by decide) rfl (Nat.le_of_ble_eq_true rfl) dX0_setKey_71 (fun u H locs hq hP hD hS => ?_)
              refine W.eq (g2 := F0 mm 74 ls [.int (qz (gr (4 * i + j))), .int ((v' i) <<< ((nI 8) &&& 31)), .int (nI i), .ref b4]) rfl ?_
              have hP : va_P D vwCl [(ha, oA b1 b2 b3 b4 b5 b6 14), (b4, aI ta 64 v'), (hr, oR br 32), (br, aZ ta capr gr)] H := hP
              have hD : va_D A [(ha, oA b1 b2 b3 b4 b5 b6 14), (b4, aI ta 64 v'), (hr, oR br 32), (br, aZ ta capr gr)] := hD
              refine lv_sipush (pc := 74) (v := nI 255) hx hb dX0_setKey_74 (by decide +kernel) ?_
              refine lv_iand (pc := 77) hx hb dX0_setKey_77 ?_
              refine q_top (y := qz (gr (4 * i + j))) (q_and255z _) ?_
              refine lv_ior (pc := 78) hx hb dX0_setKey_78 ?_
              refine q_iastI (pc := 79) hx hb hK hP hD hS 1 0 rfl rfl (k := i) rfl (by omega) (by omega)  dX0_setKey_79 (fun H locs hP hD hS => ?_)
              have hP : va_P D vwCl [(ha, oA b1 b2 b3 b4 b5 b6 14), (b4, aI ta 64 (qU v' i (((v' i) <<< ((nI 8) &&& 31)) ||| (qz (gr (4 * i + j)))))), (hr, oR br 32), (br, aZ ta capr gr)] H := hP
              have hD : va_D A [(ha, oA b1 b2 b3 b4 b5 b6 14), (b4, aI ta 64 (qU v' i (((v' i) <<< ((nI 8) &&& 31)) ||| (qz (gr (4 * i + j)))))), (hr, oR br 32), (br, aZ ta capr gr)] := hD
              refine lv_iinc (pc := 80) (v := nI (j + 1)) (lv' := [(4, .int (nI (j + 1))), (3, .int (nI i)), (2, .int (nI 8)), (0, .ref ha), (1, .ref hr)]) hx hb dX0_setKey_80 hl (k := 0) rfl (by first | exact nI_add j 1 | rfl) (by decide) rfl (fun ls hl => ?_)
              refine lv_goto (pc := 83) (tgt := 44) hx hb dX0_setKey_83 (by decide) ?_
              exact ih44 (j + 1) (qU v' i (((v' i) <<< ((nI 8) &&& 31)) ||| (qz (gr (4 * i + j))))) (by omega) (⟨fun q hq => by rw [qU_ne (by omega)]; exact hs2.1 q hq, by rw [qU_same, hs2.2]; rfl⟩) (by omega) _ _ (hP.sub [0, 1, 2, 3] rfl) (hD.sub [0, 1, 2, 3] (by decide) rfl) hS ls (lv_sub hl [0, 1, 2, 3, 4] rfl)
        exact LP44 _ 0 (qU w' i (nI 0)) (by omega) (⟨fun q hq => by rw [qU_ne (by omega)]; exact hs q hq, qU_same⟩) (Nat.lt_succ_self _) _ _ (hP.sub [0, 1, 2, 3] rfl) (hD.sub [0, 1, 2, 3] (by decide) rfl) hS ls (lv_sub hl [0, 1, 2, 3, 4] rfl)
  exact LP29 _ 0 kw (by omega) (fun q hq => absurd hq (Nat.not_lt_zero _)) (Nat.lt_succ_self _) _ _ (hP.sub [0, 1, 2, 3] rfl) (hD.sub [0, 1, 2, 3] (by decide) rfl) hS ls (lv_sub hl [0, 1, 2, 3] rfl)
set_option maxHeartbeats 4000000 in
set_option maxRecDepth 100000 in
theorem ct_X0_setKey (ll : Launch) (D : va_G) (ta : Nat → ClassId) (gs : Nat → Nat) (ha : Nat) (b1 : Nat) (b2 : Nat) (b3 : Nat) (b4 : Nat) (b5 : Nat) (b6 : Nat) (R : Nat) (kw : Nat → Int32) (hr : Nat) (br : Nat) (capr : Nat) (gr : Nat → BitVec 8) (n : Nat) (hn : n = 16 ∨ n = 24 ∨ n = 32) (hcp : n ≤ capr) (hcr : capr < 2147483648) (sz : Nat) : CT ll yX0_setKey cX0_setKey 6 none ({ frames := 1, cells := 0, slots := 0, locals := 21 } : Room) D ta ((GC gs)) [.ref ha, .ref hr] [(ha, oA b1 b2 b3 b4 b5 b6 R), (b4, aI ta 64 kw), (hr, oR br n), (br, aZ ta capr gr)] sz (S := (Nat → Int32)) (fun _ => none) (fun u => (∀ j, j < 4 * (n / 4 + 7) → u j = wdF (aKx (qL gr n)) j)) (fun u => [(ha, oA b1 b2 b3 b4 b5 b6 (n / 4 + 6)), (b4, aI ta 64 u), (hr, oR br n), (br, aZ ta capr gr)]) 0 0 := by
  rcases hn with rfl | rfl | rfl
  · exact CT.mono (ct_X0_setKey_4 ll D ta gs ha b1 b2 b3 b4 b5 b6 R kw hr br capr gr hcp hcr sz) (fun u hu => aKx_wd (by omega) hu)
  · exact CT.mono (ct_X0_setKey_6 ll D ta gs ha b1 b2 b3 b4 b5 b6 R kw hr br capr gr hcp hcr sz) (fun u hu => aKx_wd (by omega) hu)
  · exact CT.mono (ct_X0_setKey_8 ll D ta gs ha b1 b2 b3 b4 b5 b6 R kw hr br capr gr hcp hcr sz) (fun u hu => aKx_wd (by omega) hu)
