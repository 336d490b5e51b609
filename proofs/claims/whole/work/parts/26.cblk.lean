set_option maxHeartbeats 4000000 in
set_option maxRecDepth 100000 in
theorem ct_X2_there_L (ll : Launch) (D : va_G) (ta : Nat → ClassId) (gs : Nat → Nat) (ha : Nat) (b1 : Nat) (b2 : Nat) (b3 : Nat) (b4 : Nat) (b5 : Nat) (tri : Bool) (gb : Nat → BitVec 8) (f : Nat → Int64) (s : Nat → Int64) (spb : Nat → Int32) (K : Bytes) (hsp : spbOK spb) (hkf : dkS f (K.take 8)) (hks : tri = true → dkS s (K.drop 8)) (sz : Nat) : CT ll yX2_there cX2_there 3 none ({ frames := 1, cells := 0, slots := 0, locals := 34 } : Room) D ta ((GC gs)) [.ref ha] [(ha, oD b1 b2 b3 b4 b5 tri), (b1, aZ ta 8 gb), (b3, aI ta 512 spb), (b4, aJ ta 16 f), (b5, aJ ta 16 s)] sz (S := (Nat → BitVec 8)) (fun _ => none) (fun u => (qL u 8 = cE tri K false (qL gb 8))) (fun u => [(ha, oD b1 b2 b3 b4 b5 tri), (b1, aZ ta 8 u), (b3, aI ta 512 spb), (b4, aJ ta 16 f), (b5, aJ ta 16 s)]) 0 0 := by
  exact CT.mono (ct_X2_there ll D ta gs ha b1 b2 b3 b4 b5 tri gb f s spb sz) (fun u hu => des_blk hsp hkf hks hu)
set_option maxHeartbeats 4000000 in
set_option maxRecDepth 100000 in
theorem ct_X0_there_L (ll : Launch) (D : va_G) (ta : Nat → ClassId) (gs : Nat → Nat) (ha : Nat) (b1 : Nat) (b2 : Nat) (b3 : Nat) (b4 : Nat) (b5 : Nat) (b6 : Nat) (gb : Nat → BitVec 8) (kw : Nat → Int32) (sw : Nat → Int32) (xw : Nat → Int32) (K : Bytes) (nK : Nat) (hKn : K.length = nK) (hn3 : nK = 16 ∨ nK = 24 ∨ nK = 32) (hkw : ∀ j, j < 4 * (nK / 4 + 7) → kw j = wdF (aKx K) j) (sz : Nat) : CT ll yX0_there cX0_there 3 none ({ frames := 1, cells := 0, slots := 0, locals := 23 } : Room) D ta ((GC gs)) [.ref ha] [(ha, oA b1 b2 b3 b4 b5 b6 (nK / 4 + 6)), (b1, aZ ta 16 gb), (b3, aZ ta 256 UBOX), (b4, aI ta 64 kw), (b5, aI ta 4 sw), (b6, aI ta 4 xw)] sz (S := (Nat → BitVec 8) × (Nat → Int32) × (Nat → Int32)) (fun _ => none) (fun u => (qL u.1 16 = aesE K (qL gb 16))) (fun u => [(ha, oA b1 b2 b3 b4 b5 b6 (nK / 4 + 6)), (b1, aZ ta 16 u.1), (b3, aZ ta 256 UBOX), (b4, aI ta 64 kw), (b5, aI ta 4 u.2.1), (b6, aI ta 4 u.2.2)]) 0 0 := by
  exact CT.mono (ct_X0_there ll D ta gs ha b1 b2 b3 b4 b5 b6 (nK / 4 + 6) gb kw sw xw (aKx K) (fun j hj => hkw j (by omega)) (by omega) sz) (fun u hu => aes_blk hKn hu)
set_option maxHeartbeats 4000000 in
set_option maxRecDepth 100000 in
theorem ct_X2_back_L (ll : Launch) (D : va_G) (ta : Nat → ClassId) (gs : Nat → Nat) (ha : Nat) (b1 : Nat) (b2 : Nat) (b3 : Nat) (b4 : Nat) (b5 : Nat) (tri : Bool) (gb : Nat → BitVec 8) (f : Nat → Int64) (s : Nat → Int64) (spb : Nat → Int32) (K : Bytes) (hsp : spbOK spb) (hkf : dkS f (K.take 8)) (hks : tri = true → dkS s (K.drop 8)) (sz : Nat) : CT ll yX2_back cX2_back 3 none ({ frames := 1, cells := 0, slots := 0, locals := 34 } : Room) D ta ((GC gs)) [.ref ha] [(ha, oD b1 b2 b3 b4 b5 tri), (b1, aZ ta 8 gb), (b3, aI ta 512 spb), (b4, aJ ta 16 f), (b5, aJ ta 16 s)] sz (S := (Nat → BitVec 8)) (fun _ => none) (fun u => (qL u 8 = cE tri K true (qL gb 8))) (fun u => [(ha, oD b1 b2 b3 b4 b5 tri), (b1, aZ ta 8 u), (b3, aI ta 512 spb), (b4, aJ ta 16 f), (b5, aJ ta 16 s)]) 0 0 := by
  exact CT.mono (ct_X2_back ll D ta gs ha b1 b2 b3 b4 b5 tri gb f s spb sz) (fun u hu => des_blk hsp hkf hks hu)
set_option maxHeartbeats 4000000 in
set_option maxRecDepth 100000 in
theorem ct_X0_back_L (ll : Launch) (D : va_G) (ta : Nat → ClassId) (gs : Nat → Nat) (ha : Nat) (b1 : Nat) (b2 : Nat) (b3 : Nat) (b4 : Nat) (b5 : Nat) (b6 : Nat) (gb : Nat → BitVec 8) (kw : Nat → Int32) (sw : Nat → Int32) (xw : Nat → Int32) (K : Bytes) (nK : Nat) (hKn : K.length = nK) (hn3 : nK = 16 ∨ nK = 24 ∨ nK = 32) (hkw : ∀ j, j < 4 * (nK / 4 + 7) → kw j = wdF (aKx K) j) (sz : Nat) : CT ll yX0_back cX0_back 3 none ({ frames := 1, cells := 0, slots := 0, locals := 23 } : Room) D ta ((GC gs)) [.ref ha] [(ha, oA b1 b2 b3 b4 b5 b6 (nK / 4 + 6)), (b1, aZ ta 16 gb), (b3, aZ ta 256 UBOX), (b4, aI ta 64 kw), (b5, aI ta 4 sw), (b6, aI ta 4 xw)] sz (S := (Nat → BitVec 8) × (Nat → Int32) × (Nat → Int32)) (fun _ => none) (fun u => (qL u.1 16 = aesD K (qL gb 16))) (fun u => [(ha, oA b1 b2 b3 b4 b5 b6 (nK / 4 + 6)), (b1, aZ ta 16 u.1), (b3, aZ ta 256 UBOX), (b4, aI ta 64 kw), (b5, aI ta 4 u.2.1), (b6, aI ta 4 u.2.2)]) 0 0 := by
  exact CT.mono (ct_X0_back ll D ta gs ha b1 b2 b3 b4 b5 b6 (nK / 4 + 6) gb kw sw xw (aKx K) (fun j hj => hkw j (by omega)) (by omega) sz) (fun u hu => aesD_blk hKn hu)
theorem hdX1_startFrom : yX1_startFrom.cls ≠ "java/lang/invoke/MethodHandle" ∧ yX1_startFrom.cls ≠ "java/lang/invoke/VarHandle" ∧ (parseMethodDescriptor yX1_startFrom.desc).map (fun d => d.parameters.length) = some 1 := ⟨by decide +kernel, by decide +kernel, by decide +kernel⟩
theorem dX1_startFrom_0 : decode cX1_startFrom 0 = .ok (.iconst 0, 1) := by decide +kernel
theorem dX1_startFrom_1 : decode cX1_startFrom 1 = .ok (.istore_n 2, 1) := by decide +kernel
theorem dX1_startFrom_2 : decode cX1_startFrom 2 = .ok (.iload_n 2, 1) := by decide +kernel
theorem dX1_startFrom_3 : decode cX1_startFrom 3 = .ok (.aload_n 0, 1) := by decide +kernel
theorem dX1_startFrom_4 : decode cX1_startFrom 4 = .ok (.getfield 13, 3) := by decide +kernel
theorem dX1_startFrom_7 : decode cX1_startFrom 7 = .ok (.arraylength, 1) := by decide +kernel
theorem dX1_startFrom_8 : decode cX1_startFrom 8 = .ok (.if_icmp .ge 24, 3) := by decide +kernel
theorem dX1_startFrom_11 : decode cX1_startFrom 11 = .ok (.aload_n 0, 1) := by decide +kernel
theorem dX1_startFrom_12 : decode cX1_startFrom 12 = .ok (.getfield 13, 3) := by decide +kernel
theorem dX1_startFrom_15 : decode cX1_startFrom 15 = .ok (.iload_n 2, 1) := by decide +kernel
theorem dX1_startFrom_16 : decode cX1_startFrom 16 = .ok (.aload_n 1, 1) := by decide +kernel
theorem dX1_startFrom_17 : decode cX1_startFrom 17 = .ok (.iload_n 2, 1) := by decide +kernel
theorem dX1_startFrom_18 : decode cX1_startFrom 18 = .ok (.invokevirtual 16, 3) := by decide +kernel
theorem dX1_startFrom_21 : decode cX1_startFrom 21 = .ok (.sipush 255, 3) := by decide +kernel
theorem dX1_startFrom_24 : decode cX1_startFrom 24 = .ok (.iand, 1) := by decide +kernel
theorem dX1_startFrom_25 : decode cX1_startFrom 25 = .ok (.iastore, 1) := by decide +kernel
theorem dX1_startFrom_26 : decode cX1_startFrom 26 = .ok (.iinc 2 1, 3) := by decide +kernel
theorem dX1_startFrom_29 : decode cX1_startFrom 29 = .ok (.goto (-27), 3) := by decide +kernel
theorem dX1_startFrom_32 : decode cX1_startFrom 32 = .ok (.return_, 1) := by decide +kernel
set_option maxHeartbeats 4000000 in
set_option maxRecDepth 100000 in
theorem ct_X1_startFrom_D (ll : Launch) (D : va_G) (ta : Nat → ClassId) {G : (Nat → Prop) → State → Heap → Prop} (hGok : GOK G) (ha : Nat) (b1 : Nat) (b2 : Nat) (b3 : Nat) (b4 : Nat) (b5 : Nat) (tri : Bool) (bf : Nat → BitVec 8) (hr : Nat) (br : Nat) (capr : Nat) (gr : Nat → BitVec 8) (n : Nat) (hn : n ≤ capr) (hcr : capr < 2147483648) (hw : 8 ≤ n) (sz : Nat) : CT ll yX1_startFrom cX1_startFrom 3 none ({ frames := 1, cells := 0, slots := 0, locals := 21 } : Room) D ta G [.ref ha, .ref hr] [(ha, oD b1 b2 b3 b4 b5 tri), (b2, aZ ta 8 bf), (hr, oR br n), (br, aZ ta capr gr)] sz (S := (Nat → BitVec 8)) (fun _ => none) (fun u => (qL u 8 = qL gr 8)) (fun u => [(ha, oD b1 b2 b3 b4 b5 tri), (b2, aZ ta 8 u), (hr, oR br n), (br, aZ ta capr gr)]) 0 0 := by
  refine CT.of_v rfl (by decide) (Nat.le_of_ble_eq_true rfl) ?_
  intro pp ee ss mm below meth kc A Q hx hb hml hown hin hts hK hA hsz hG hret H locs hP hD hS ls hl
  have hl : lv_has ls 3 [(0, .ref ha), (1, .ref hr)] := hl
  refine lv_iconst (pc := 0) (v := nI 0) hx hb dX1_startFrom_0 (by decide +kernel) ?_
  refine lv_istore_n (pc := 1) (lv' := [(2, .int (nI 0)), (0, .ref ha), (1, .ref hr)]) hx hb dX1_startFrom_1 rfl hl (by decide) rfl (fun ls hl => ?_)
  have LP2 : ∀ (nn2 : Nat) (i : Nat) (b' : Nat → BitVec 8), (i ≤ 8) → (qSeg b' bf 0 i gr) → (8 - i < nn2) → ∀ (H : Heap) (locs : List Loc), va_P D vwCl [(ha, oD b1 b2 b3 b4 b5 tri), (b2, aZ ta 8 b'), (hr, oR br n), (br, aZ ta capr gr)] H → va_D A [(ha, oD b1 b2 b3 b4 b5 tri), (b2, aZ ta 8 b'), (hr, oR br n), (br, aZ ta capr gr)] → va_S A ss.heap H locs → ∀ ls : Array Slot, lv_has ls 3 [(2, .int (nI i)), (0, .ref ha), (1, .ref hr)] → W pp ll ee ({ frames := 1, cells := 0, slots := 0, locals := 21 } : Room) ss mm (([.ref ha, .ref hr] : List Value).toArray) below meth kc H locs 0 0 Q (F0 mm 2 ls []) := by
    intro nn2
    induction nn2 with
    | zero => intro i b' hii hs hmu; exact absurd hmu (Nat.not_lt_zero _)
    | succ nn2 ih2 =>
      intro i b' hii hs hmu2 H locs hP hD hS ls hl
      refine lv_iload_n (pc := 2) hx hb dX1_startFrom_2 rfl (lv_at hl 0 rfl) ?_
      refine lv_aload_n (pc := 3) hx hb dX1_startFrom_3 rfl (lv_at hl 1 rfl) ?_
      refine va_get (pc := 4) (D := D) (ci := 1) (v := .ref b2) (C := RX2) (T := TX2) (N := 6) hx hb hts iu2 hown hK hP 0 rfl rfl 1 (by decide) (hts _ tw_254) (fun _ h9 => h9) rfl dX1_startFrom_4 ?_
      refine va_alen (pc := 7) hx hb hK hP 1 0 rfl rfl (v := nI 8) rfl dX1_startFrom_7 ?_
      refine lv_icmp_ge (pc := 8) (tgt := 32) hx hb dX1_startFrom_8 (by decide) (fun c_1 => ?_) (fun c_1 => ?_)
      · skip
        rw [nI_leI (by omega) (by omega)] at c_1
        have hq_2 : (qL b' 8 = qL gr 8) := by
          rw [← seg_0, qSeg_segk hs (by omega)]
        exact hret (b') _ _ _ _ dX1_startFrom_32 hq_2 (hP.sub [0, 1, 2, 3] rfl) (hD.sub [0, 1, 2, 3] (by decide) rfl) hS
      · skip
        rw [nI_leI (by omega) (by omega)] at c_1
        refine lv_aload_n (pc := 11) hx hb dX1_startFrom_11 rfl (lv_at hl 1 rfl) ?_
        refine va_get (pc := 12) (D := D) (ci := 1) (v := .ref b2) (C := RX2) (T := TX2) (N := 6) hx hb hts iu2 hown hK hP 0 rfl rfl 1 (by decide) (hts _ tw_254) (fun _ h9 => h9) rfl dX1_startFrom_12 ?_
        refine lv_iload_n (pc := 15) hx hb dX1_startFrom_15 rfl (lv_at hl 0 rfl) ?_
        refine lv_aload_n (pc := 16) hx hb dX1_startFrom_16 rfl (lv_at hl 2 rfl) ?_
        refine lv_iload_n (pc := 17) hx hb dX1_startFrom_17 rfl (lv_at hl 0 rfl) ?_
        refine cs_V (pc := 18) (idx := 16) (n := 1) (wr := [(ha, oD b1 b2 b3 b4 b5 tri), (b2, aZ ta 8 b')]) (As := [.int (nI i)]) (rest := [.int (nI i), .ref b2]) (ci := 5) hx hb hml hown hts hGok hK hA hG hl.1 hP hD hS (ct_X6_at_in ll D ta hGok hr br capr gr n i (by first | assumption | omega | rfl | decide) (by first | assumption | omega | rfl | decide) (by first | assumption | omega | rfl | decide) H.size) tw_413 tw_528 tw_411 tw_412 tw_66 hdX6_at rfl ⟨rfl, rfl, Nat.le_of_ble_eq_true rfl, Nat.le_of_ble_eq_true rfl, Nat.le_of_ble_eq_true rfl, Nat.le_of_ble_eq_true rfl⟩ rfl rfl (q0 := 2) rfl [2, 3] [0, 1] rfl rfl (by decide) rfl (Nat.le_of_ble_eq_true rfl) dX1_startFrom_18 (fun u H locs hq hP hD hS => ?_)
        refine W.eq (g2 := F0 mm 21 ls [.int (qz (gr i)), .int (nI i), .ref b2]) rfl ?_
        have hP : va_P D vwCl [(ha, oD b1 b2 b3 b4 b5 tri), (b2, aZ ta 8 b'), (hr, oR br n), (br, aZ ta capr gr)] H := hP
        have hD : va_D A [(ha, oD b1 b2 b3 b4 b5 tri), (b2, aZ ta 8 b'), (hr, oR br n), (br, aZ ta capr gr)] := hD
        refine lv_sipush (pc := 21) (v := nI 255) hx hb dX1_startFrom_21 (by decide +kernel) ?_
        refine lv_iand (pc := 24) hx hb dX1_startFrom_24 ?_
        refine q_top (y := qz (gr i)) (q_and255z _) ?_
        refine q_iastZ (pc := 25) hx hb hK hP hD hS 1 0 rfl rfl (k := i) rfl (by omega) (by omega) (b := gr i) rfl dX1_startFrom_25 (fun H locs hP hD hS => ?_)
        have hP : va_P D vwCl [(ha, oD b1 b2 b3 b4 b5 tri), (b2, aZ ta 8 (qU b' i (gr i))), (hr, oR br n), (br, aZ ta capr gr)] H := hP
        have hD : va_D A [(ha, oD b1 b2 b3 b4 b5 tri), (b2, aZ ta 8 (qU b' i (gr i))), (hr, oR br n), (br, aZ ta capr gr)] := hD
        refine lv_iinc (pc := 26) (v := nI (i + 1)) (lv' := [(2, .int (nI (i + 1))), (0, .ref ha), (1, .ref hr)]) hx hb dX1_startFrom_26 hl (k := 0) rfl (by first | exact nI_add i 1 | rfl) (by decide) rfl (fun ls hl => ?_)
        refine lv_goto (pc := 29) (tgt := 2) hx hb dX1_startFrom_29 (by decide) ?_
        exact ih2 (i + 1) (qU b' i (gr i)) (by omega) (qSeg_s hs (by omega) rfl) (by omega) _ _ (hP.sub [0, 1, 2, 3] rfl) (hD.sub [0, 1, 2, 3] (by decide) rfl) hS ls (lv_sub hl [0, 1, 2] rfl)
  exact LP2 _ 0 bf (by omega) (qSeg_0) (Nat.lt_succ_self _) _ _ (hP.sub [0, 1, 2, 3] rfl) (hD.sub [0, 1, 2, 3] (by decide) rfl) hS ls (lv_sub hl [0, 1, 2] rfl)
theorem hdX1_chainThere : yX1_chainThere.cls ≠ "java/lang/invoke/MethodHandle" ∧ yX1_chainThere.cls ≠ "java/lang/invoke/VarHandle" ∧ (parseMethodDescriptor yX1_chainThere.desc).map (fun d => d.parameters.length) = some 3 := ⟨by decide +kernel, by decide +kernel, by decide +kernel⟩
theorem dX1_chainThere_0 : decode cX1_chainThere 0 = .ok (.iload_n 2, 1) := by decide +kernel
theorem dX1_chainThere_1 : decode cX1_chainThere 1 = .ok (.istore 4, 2) := by decide +kernel
theorem dX1_chainThere_3 : decode cX1_chainThere 3 = .ok (.iload 4, 2) := by decide +kernel
theorem dX1_chainThere_5 : decode cX1_chainThere 5 = .ok (.iload_n 3, 1) := by decide +kernel
theorem dX1_chainThere_6 : decode cX1_chainThere 6 = .ok (.if_icmp .ge 136, 3) := by decide +kernel
theorem dX1_chainThere_9 : decode cX1_chainThere 9 = .ok (.iconst 0, 1) := by decide +kernel
theorem dX1_chainThere_10 : decode cX1_chainThere 10 = .ok (.istore 5, 2) := by decide +kernel
theorem dX1_chainThere_12 : decode cX1_chainThere 12 = .ok (.iload 5, 2) := by decide +kernel
theorem dX1_chainThere_14 : decode cX1_chainThere 14 = .ok (.aload_n 0, 1) := by decide +kernel
theorem dX1_chainThere_15 : decode cX1_chainThere 15 = .ok (.getfield 7, 3) := by decide +kernel
theorem dX1_chainThere_18 : decode cX1_chainThere 18 = .ok (.arraylength, 1) := by decide +kernel
theorem dX1_chainThere_19 : decode cX1_chainThere 19 = .ok (.if_icmp .ge 47, 3) := by decide +kernel
theorem dX1_chainThere_22 : decode cX1_chainThere 22 = .ok (.iload 5, 2) := by decide +kernel
theorem dX1_chainThere_24 : decode cX1_chainThere 24 = .ok (.aload_n 0, 1) := by decide +kernel
theorem dX1_chainThere_25 : decode cX1_chainThere 25 = .ok (.getfield 13, 3) := by decide +kernel
theorem dX1_chainThere_28 : decode cX1_chainThere 28 = .ok (.arraylength, 1) := by decide +kernel
theorem dX1_chainThere_29 : decode cX1_chainThere 29 = .ok (.if_icmp .ge 37, 3) := by decide +kernel
theorem dX1_chainThere_32 : decode cX1_chainThere 32 = .ok (.aload_n 0, 1) := by decide +kernel
theorem dX1_chainThere_33 : decode cX1_chainThere 33 = .ok (.getfield 7, 3) := by decide +kernel
theorem dX1_chainThere_36 : decode cX1_chainThere 36 = .ok (.iload 5, 2) := by decide +kernel
theorem dX1_chainThere_38 : decode cX1_chainThere 38 = .ok (.aload_n 1, 1) := by decide +kernel
theorem dX1_chainThere_39 : decode cX1_chainThere 39 = .ok (.iload 4, 2) := by decide +kernel
theorem dX1_chainThere_41 : decode cX1_chainThere 41 = .ok (.iload 5, 2) := by decide +kernel
theorem dX1_chainThere_43 : decode cX1_chainThere 43 = .ok (.iadd, 1) := by decide +kernel
theorem dX1_chainThere_44 : decode cX1_chainThere 44 = .ok (.invokevirtual 16, 3) := by decide +kernel
theorem dX1_chainThere_47 : decode cX1_chainThere 47 = .ok (.aload_n 0, 1) := by decide +kernel
theorem dX1_chainThere_48 : decode cX1_chainThere 48 = .ok (.getfield 13, 3) := by decide +kernel
theorem dX1_chainThere_51 : decode cX1_chainThere 51 = .ok (.iload 5, 2) := by decide +kernel
theorem dX1_chainThere_53 : decode cX1_chainThere 53 = .ok (.iaload, 1) := by decide +kernel
theorem dX1_chainThere_54 : decode cX1_chainThere 54 = .ok (.ixor, 1) := by decide +kernel
theorem dX1_chainThere_55 : decode cX1_chainThere 55 = .ok (.sipush 255, 3) := by decide +kernel
theorem dX1_chainThere_58 : decode cX1_chainThere 58 = .ok (.iand, 1) := by decide +kernel
theorem dX1_chainThere_59 : decode cX1_chainThere 59 = .ok (.iastore, 1) := by decide +kernel
theorem dX1_chainThere_60 : decode cX1_chainThere 60 = .ok (.iinc 5 1, 3) := by decide +kernel
theorem dX1_chainThere_63 : decode cX1_chainThere 63 = .ok (.goto (-51), 3) := by decide +kernel
theorem dX1_chainThere_66 : decode cX1_chainThere 66 = .ok (.aload_n 0, 1) := by decide +kernel
theorem dX1_chainThere_67 : decode cX1_chainThere 67 = .ok (.invokevirtual 22, 3) := by decide +kernel
theorem dX1_chainThere_70 : decode cX1_chainThere 70 = .ok (.iconst 0, 1) := by decide +kernel
theorem dX1_chainThere_71 : decode cX1_chainThere 71 = .ok (.istore 5, 2) := by decide +kernel
theorem dX1_chainThere_73 : decode cX1_chainThere 73 = .ok (.iload 5, 2) := by decide +kernel
theorem dX1_chainThere_75 : decode cX1_chainThere 75 = .ok (.aload_n 0, 1) := by decide +kernel
theorem dX1_chainThere_76 : decode cX1_chainThere 76 = .ok (.getfield 7, 3) := by decide +kernel
theorem dX1_chainThere_79 : decode cX1_chainThere 79 = .ok (.arraylength, 1) := by decide +kernel
theorem dX1_chainThere_80 : decode cX1_chainThere 80 = .ok (.if_icmp .ge 49, 3) := by decide +kernel
theorem dX1_chainThere_83 : decode cX1_chainThere 83 = .ok (.iload 5, 2) := by decide +kernel
theorem dX1_chainThere_85 : decode cX1_chainThere 85 = .ok (.aload_n 0, 1) := by decide +kernel
theorem dX1_chainThere_86 : decode cX1_chainThere 86 = .ok (.getfield 13, 3) := by decide +kernel
theorem dX1_chainThere_89 : decode cX1_chainThere 89 = .ok (.arraylength, 1) := by decide +kernel
theorem dX1_chainThere_90 : decode cX1_chainThere 90 = .ok (.if_icmp .ge 39, 3) := by decide +kernel
theorem dX1_chainThere_93 : decode cX1_chainThere 93 = .ok (.aload_n 1, 1) := by decide +kernel
theorem dX1_chainThere_94 : decode cX1_chainThere 94 = .ok (.iload 4, 2) := by decide +kernel
theorem dX1_chainThere_96 : decode cX1_chainThere 96 = .ok (.iload 5, 2) := by decide +kernel
theorem dX1_chainThere_98 : decode cX1_chainThere 98 = .ok (.iadd, 1) := by decide +kernel
theorem dX1_chainThere_99 : decode cX1_chainThere 99 = .ok (.aload_n 0, 1) := by decide +kernel
theorem dX1_chainThere_100 : decode cX1_chainThere 100 = .ok (.getfield 7, 3) := by decide +kernel
theorem dX1_chainThere_103 : decode cX1_chainThere 103 = .ok (.iload 5, 2) := by decide +kernel
theorem dX1_chainThere_105 : decode cX1_chainThere 105 = .ok (.iaload, 1) := by decide +kernel
theorem dX1_chainThere_106 : decode cX1_chainThere 106 = .ok (.invokevirtual 25, 3) := by decide +kernel
theorem dX1_chainThere_109 : decode cX1_chainThere 109 = .ok (.aload_n 0, 1) := by decide +kernel
theorem dX1_chainThere_110 : decode cX1_chainThere 110 = .ok (.getfield 13, 3) := by decide +kernel
theorem dX1_chainThere_113 : decode cX1_chainThere 113 = .ok (.iload 5, 2) := by decide +kernel
theorem dX1_chainThere_115 : decode cX1_chainThere 115 = .ok (.aload_n 0, 1) := by decide +kernel
theorem dX1_chainThere_116 : decode cX1_chainThere 116 = .ok (.getfield 7, 3) := by decide +kernel
theorem dX1_chainThere_119 : decode cX1_chainThere 119 = .ok (.iload 5, 2) := by decide +kernel
theorem dX1_chainThere_121 : decode cX1_chainThere 121 = .ok (.iaload, 1) := by decide +kernel
theorem dX1_chainThere_122 : decode cX1_chainThere 122 = .ok (.iastore, 1) := by decide +kernel
theorem dX1_chainThere_123 : decode cX1_chainThere 123 = .ok (.iinc 5 1, 3) := by decide +kernel
theorem dX1_chainThere_126 : decode cX1_chainThere 126 = .ok (.goto (-53), 3) := by decide +kernel
theorem dX1_chainThere_129 : decode cX1_chainThere 129 = .ok (.iload 4, 2) := by decide +kernel
theorem dX1_chainThere_131 : decode cX1_chainThere 131 = .ok (.aload_n 0, 1) := by decide +kernel
theorem dX1_chainThere_132 : decode cX1_chainThere 132 = .ok (.getfield 7, 3) := by decide +kernel
theorem dX1_chainThere_135 : decode cX1_chainThere 135 = .ok (.arraylength, 1) := by decide +kernel
theorem dX1_chainThere_136 : decode cX1_chainThere 136 = .ok (.iadd, 1) := by decide +kernel
theorem dX1_chainThere_137 : decode cX1_chainThere 137 = .ok (.istore 4, 2) := by decide +kernel
theorem dX1_chainThere_139 : decode cX1_chainThere 139 = .ok (.goto (-136), 3) := by decide +kernel
theorem dX1_chainThere_142 : decode cX1_chainThere 142 = .ok (.return_, 1) := by decide +kernel
set_option maxHeartbeats 4000000 in
set_option maxRecDepth 100000 in
theorem ct_X1_chainThere_D (ll : Launch) (D : va_G) (ta : Nat → ClassId) (gs : Nat → Nat) (ha : Nat) (b1 : Nat) (b2 : Nat) (b3 : Nat) (b4 : Nat) (b5 : Nat) (tri : Bool) (gb : Nat → BitVec 8) (bf : Nat → BitVec 8) (f : Nat → Int64) (s : Nat → Int64) (spb : Nat → Int32) (K : Bytes) (hr : Nat) (br : Nat) (capr : Nat) (gr : Nat → BitVec 8) (n : Nat) (f0 : Nat) (t0 : Nat) (m : Nat) (hsp : spbOK spb) (hkf : dkS f (K.take 8)) (hks : tri = true → dkS s (K.drop 8)) (hn : n ≤ capr) (hcr : capr < 2147483648) (ht : t0 = f0 + 8 * m) (htn : t0 ≤ n) (sz : Nat) : CT ll yX1_chainThere cX1_chainThere 6 none ({ frames := 2, cells := 0, slots := 0, locals := 56 } : Room) D ta ((GC gs)) [.ref ha, .ref hr, .int (nI f0), .int (nI t0)] [(ha, oD b1 b2 b3 b4 b5 tri), (b1, aZ ta 8 gb), (b2, aZ ta 8 bf), (b3, aI ta 512 spb), (b4, aJ ta 16 f), (b5, aJ ta 16 s), (hr, oR br n), (br, aZ ta capr gr)] sz (S := (Nat → BitVec 8) × (Nat → BitVec 8) × (Nat → BitVec 8)) (fun _ => none) (fun u => (qSeg u.2.2 gr f0 (8 * m) (encF (cE tri K false) 8 (qL bf 8) (seg gr f0 (8 * m)))) ∧ (qL u.2.1 8 = cbcM (cE tri K false) 8 (qL bf 8) (seg gr f0 (8 * m)) m)) (fun u => [(ha, oD b1 b2 b3 b4 b5 tri), (b1, aZ ta 8 u.1), (b2, aZ ta 8 u.2.1), (b3, aI ta 512 spb), (b4, aJ ta 16 f), (b5, aJ ta 16 s), (hr, oR br n), (br, aZ ta capr u.2.2)]) 0 0 := by
  refine CT.of_v rfl (by decide) (Nat.le_of_ble_eq_true rfl) ?_
  have hGok := GC_ok gs
  intro pp ee ss mm below meth kc A Q hx hb hml hown hin hts hK hA hsz hG hret H locs hP hD hS ls hl
  have hl : lv_has ls 6 [(0, .ref ha), (1, .ref hr), (2, .int (nI f0)), (3, .int (nI t0))] := hl
  refine lv_iload_n (pc := 0) hx hb dX1_chainThere_0 rfl (lv_at hl 2 rfl) ?_
  refine lv_istore (pc := 1) (lv' := [(4, .int (nI f0)), (0, .ref ha), (1, .ref hr), (2, .int (nI f0)), (3, .int (nI t0))]) hx hb dX1_chainThere_1 hl (by decide) rfl (fun ls hl => ?_)
  have LP3 : ∀ (nn3 : Nat) (c : Nat) (g' : Nat → BitVec 8) (b' : Nat → BitVec 8) (r' : Nat → BitVec 8), (c ≤ m) → (qSeg r' gr f0 (8 * c) (encF (cE tri K false) 8 (qL bf 8) (seg gr f0 (8 * m)))) → (qL b' 8 = cbcM (cE tri K false) 8 (qL bf 8) (seg gr f0 (8 * m)) c) → (m - c < nn3) → ∀ (H : Heap) (locs : List Loc), va_P D vwCl [(ha, oD b1 b2 b3 b4 b5 tri), (b1, aZ ta 8 g'), (b2, aZ ta 8 b'), (b3, aI ta 512 spb), (b4, aJ ta 16 f), (b5, aJ ta 16 s), (hr, oR br n), (br, aZ ta capr r')] H → va_D A [(ha, oD b1 b2 b3 b4 b5 tri), (b1, aZ ta 8 g'), (b2, aZ ta 8 b'), (b3, aI ta 512 spb), (b4, aJ ta 16 f), (b5, aJ ta 16 s), (hr, oR br n), (br, aZ ta capr r')] → va_S A ss.heap H locs → ∀ ls : Array Slot, lv_has ls 6 [(4, .int (nI (f0 + 8 * c))), (0, .ref ha), (1, .ref hr), (2, .int (nI f0)), (3, .int (nI t0))] → W pp ll ee ({ frames := 2, cells := 0, slots := 0, locals := 56 } : Room) ss mm (([.ref ha, .ref hr, .int (nI f0), .int (nI t0)] : List Value).toArray) below meth kc H locs 0 0 Q (F0 mm 3 ls []) := by
    intro nn3
    induction nn3 with
    | zero => intro c g' b' r' hcc hr1 hb1 hmu; exact absurd hmu (Nat.not_lt_zero _)
    | succ nn3 ih3 =>
      intro c g' b' r' hcc hr1 hb1 hmu3 H locs hP hD hS ls hl
      refine lv_iload (pc := 3) hx hb dX1_chainThere_3 (lv_at hl 0 rfl) ?_
      refine lv_iload_n (pc := 5) hx hb dX1_chainThere_5 rfl (lv_at hl 4 rfl) ?_
      refine lv_icmp_ge (pc := 6) (tgt := 142) hx hb dX1_chainThere_6 (by decide) (fun c_1 => ?_) (fun c_1 => ?_)
      · skip
        rw [nI_leI (by omega) (by omega)] at c_1
        have hq_2 : (qSeg r' gr f0 (8 * m) (encF (cE tri K false) 8 (qL bf 8) (seg gr f0 (8 * m)))) ∧ (qL b' 8 = cbcM (cE tri K false) 8 (qL bf 8) (seg gr f0 (8 * m)) m) := by
          have ec : c = m := by omega
          subst ec
          exact ⟨hr1, hb1⟩
        exact hret (⟨(g'), (b'), (r')⟩ : (Nat → BitVec 8) × (Nat → BitVec 8) × (Nat → BitVec 8)) _ _ _ _ dX1_chainThere_142 hq_2 (hP.sub [0, 1, 2, 3, 4, 5, 6, 7] rfl) (hD.sub [0, 1, 2, 3, 4, 5, 6, 7] (by decide) rfl) hS
      · skip
        rw [nI_leI (by omega) (by omega)] at c_1
        refine lv_iconst (pc := 9) (v := nI 0) hx hb dX1_chainThere_9 (by decide +kernel) ?_
        refine lv_istore (pc := 10) (lv' := [(5, .int (nI 0)), (4, .int (nI (f0 + 8 * c))), (0, .ref ha), (1, .ref hr), (2, .int (nI f0)), (3, .int (nI t0))]) hx hb dX1_chainThere_10 hl (by decide) rfl (fun ls hl => ?_)
        have LP12 : ∀ (nn12 : Nat) (d : Nat) (d' : Nat → BitVec 8), (d ≤ 8) → (qSeg d' g' 0 d (fun k => r' (f0 + 8 * c + k) ^^^ b' k)) → (8 - d < nn12) → ∀ (H : Heap) (locs : List Loc), va_P D vwCl [(ha, oD b1 b2 b3 b4 b5 tri), (b1, aZ ta 8 d'), (b2, aZ ta 8 b'), (b3, aI ta 512 spb), (b4, aJ ta 16 f), (b5, aJ ta 16 s), (hr, oR br n), (br, aZ ta capr r')] H → va_D A [(ha, oD b1 b2 b3 b4 b5 tri), (b1, aZ ta 8 d'), (b2, aZ ta 8 b'), (b3, aI ta 512 spb), (b4, aJ ta 16 f), (b5, aJ ta 16 s), (hr, oR br n), (br, aZ ta capr r')] → va_S A ss.heap H locs → ∀ ls : Array Slot, lv_has ls 6 [(5, .int (nI d)), (4, .int (nI (f0 + 8 * c))), (0, .ref ha), (1, .ref hr), (2, .int (nI f0)), (3, .int (nI t0))] → W pp ll ee ({ frames := 2, cells := 0, slots := 0, locals := 56 } : Room) ss mm (([.ref ha, .ref hr, .int (nI f0), .int (nI t0)] : List Value).toArray) below meth kc H locs 0 0 Q (F0 mm 12 ls []) := by
          intro nn12
          induction nn12 with
          | zero => intro d d' hdd hd hmu; exact absurd hmu (Nat.not_lt_zero _)
          | succ nn12 ih12 =>
            intro d d' hdd hd hmu12 H locs hP hD hS ls hl
            refine lv_iload (pc := 12) hx hb dX1_chainThere_12 (lv_at hl 0 rfl) ?_
            refine lv_aload_n (pc := 14) hx hb dX1_chainThere_14 rfl (lv_at hl 2 rfl) ?_
            refine va_get (pc := 15) (D := D) (ci := 1) (v := .ref b1) (C := RX2) (T := TX2) (N := 6) hx hb hts iu2 hown hK hP 0 rfl rfl 0 (by decide) (hts _ tw_249) (fun _ h9 => h9) rfl dX1_chainThere_15 ?_
            refine va_alen (pc := 18) hx hb hK hP 1 0 rfl rfl (v := nI 8) rfl dX1_chainThere_18 ?_
            refine lv_icmp_ge (pc := 19) (tgt := 66) hx hb dX1_chainThere_19 (by decide) (fun c_3 => ?_) (fun c_3 => ?_)
            · skip
              rw [nI_leI (by omega) (by omega)] at c_3
              refine lv_aload_n (pc := 66) hx hb dX1_chainThere_66 rfl (lv_at hl 2 rfl) ?_
              refine cs_U (pc := 67) (idx := 22) (n := 0) (wr := [(b2, aZ ta 8 b'), (hr, oR br n), (br, aZ ta capr r')]) (As := []) (rest := []) (ci := 1) (x := ⟨"LineGuard$BlockCipher", "there", "()V"⟩) (owner := "LineGuard$BlockCipher") hx hb hml hown hts hGok hK hA hG hl.1 hP hD hS (ct_X2_there_L ll D ta gs ha b1 b2 b3 b4 b5 tri d' f s spb K (by first | assumption | omega | rfl | decide) (by first | assumption | omega | rfl | decide) (by first | assumption | omega | rfl | decide) H.size) tw_564 tw_535 tw_563 tw_562 tw_72 tw_537 (va_Decl.abs (GC_w536 hG)) ⟨by decide +kernel, by decide +kernel, by decide +kernel⟩ rfl ⟨rfl, rfl, Nat.le_of_ble_eq_true rfl, Nat.le_of_ble_eq_true rfl, Nat.le_of_ble_eq_true rfl, Nat.le_of_ble_eq_true rfl⟩ rfl (q0 := 0) rfl [0, 1, 3, 4, 5] [2, 6, 7] rfl rfl (by decide) rfl (Nat.le_of_ble_eq_true rfl) dX1_chainThere_67 (fun u H locs hq hP hD hS => ?_)
              generalize u = gb1_67 at hq hP hD ⊢
              have hq : (qL gb1_67 8 = cE tri K false (qL d' 8)) := hq
              have hs_67 := hq
              refine W.eq (g2 := F0 mm 70 ls []) rfl ?_
              have hP : va_P D vwCl [(b2, aZ ta 8 b'), (hr, oR br n), (br, aZ ta capr r'), (ha, oD b1 b2 b3 b4 b5 tri), (b1, aZ ta 8 gb1_67), (b3, aI ta 512 spb), (b4, aJ ta 16 f), (b5, aJ ta 16 s)] H := hP
              have hD : va_D A [(b2, aZ ta 8 b'), (hr, oR br n), (br, aZ ta capr r'), (ha, oD b1 b2 b3 b4 b5 tri), (b1, aZ ta 8 gb1_67), (b3, aI ta 512 spb), (b4, aJ ta 16 f), (b5, aJ ta 16 s)] := hD
              have hB := cbc_blk hr1 hb1 (by omega) (by omega) hd hs_67
              refine lv_iconst (pc := 70) (v := nI 0) hx hb dX1_chainThere_70 (by decide +kernel) ?_
              refine lv_istore (pc := 71) (lv' := [(5, .int (nI 0)), (4, .int (nI (f0 + 8 * c))), (0, .ref ha), (1, .ref hr), (2, .int (nI f0)), (3, .int (nI t0))]) hx hb dX1_chainThere_71 hl (by decide) rfl (fun ls hl => ?_)
              have LP73 : ∀ (nn73 : Nat) (e : Nat) (e' : Nat → BitVec 8) (c' : Nat → BitVec 8), (e ≤ 8) → (qSeg e' gr f0 (8 * c + e) (encF (cE tri K false) 8 (qL bf 8) (seg gr f0 (8 * m)))) → (qSeg c' b' 0 e gb1_67) → (8 - e < nn73) → ∀ (H : Heap) (locs : List Loc), va_P D vwCl [(b2, aZ ta 8 c'), (hr, oR br n), (br, aZ ta capr e'), (ha, oD b1 b2 b3 b4 b5 tri), (b1, aZ ta 8 gb1_67), (b3, aI ta 512 spb), (b4, aJ ta 16 f), (b5, aJ ta 16 s)] H → va_D A [(b2, aZ ta 8 c'), (hr, oR br n), (br, aZ ta capr e'), (ha, oD b1 b2 b3 b4 b5 tri), (b1, aZ ta 8 gb1_67), (b3, aI ta 512 spb), (b4, aJ ta 16 f), (b5, aJ ta 16 s)] → va_S A ss.heap H locs → ∀ ls : Array Slot, lv_has ls 6 [(5, .int (nI e)), (4, .int (nI (f0 + 8 * c))), (0, .ref ha), (1, .ref hr), (2, .int (nI f0)), (3, .int (nI t0))] → W pp ll ee ({ frames := 2, cells := 0, slots := 0, locals := 56 } : Room) ss mm (([.ref ha, .ref hr, .int (nI f0), .int (nI t0)] : List Value).toArray) below meth kc H locs 0 0 Q (F0 mm 73 ls []) := by
                intro nn73
                induction nn73 with
                | zero => intro e e' c' hee hr2 hb2 hmu; exact absurd hmu (Nat.not_lt_zero _)
                | succ nn73 ih73 =>
                  intro e e' c' hee hr2 hb2 hmu73 H locs hP hD hS ls hl
                  refine lv_iload (pc := 73) hx hb dX1_chainThere_73 (lv_at hl 0 rfl) ?_
                  refine lv_aload_n (pc := 75) hx hb dX1_chainThere_75 rfl (lv_at hl 2 rfl) ?_
                  refine va_get (pc := 76) (D := D) (ci := 1) (v := .ref b1) (C := RX2) (T := TX2) (N := 6) hx hb hts iu2 hown hK hP 3 rfl rfl 0 (by decide) (hts _ tw_249) (fun _ h9 => h9) rfl dX1_chainThere_76 ?_
                  refine va_alen (pc := 79) hx hb hK hP 4 0 rfl rfl (v := nI 8) rfl dX1_chainThere_79 ?_
                  refine lv_icmp_ge (pc := 80) (tgt := 129) hx hb dX1_chainThere_80 (by decide) (fun c_4 => ?_) (fun c_4 => ?_)
                  · skip
                    rw [nI_leI (by omega) (by omega)] at c_4
                    refine lv_iload (pc := 129) hx hb dX1_chainThere_129 (lv_at hl 1 rfl) ?_
                    refine lv_aload_n (pc := 131) hx hb dX1_chainThere_131 rfl (lv_at hl 2 rfl) ?_
                    refine va_get (pc := 132) (D := D) (ci := 1) (v := .ref b1) (C := RX2) (T := TX2) (N := 6) hx hb hts iu2 hown hK hP 3 rfl rfl 0 (by decide) (hts _ tw_249) (fun _ h9 => h9) rfl dX1_chainThere_132 ?_
                    refine va_alen (pc := 135) hx hb hK hP 4 0 rfl rfl (v := nI 8) rfl dX1_chainThere_135 ?_
                    refine lv_iadd (pc := 136) hx hb dX1_chainThere_136 ?_
                    refine q_top (y := nI (f0 + 8 * c + 8)) (nI_add (f0 + 8 * c) 8) ?_
                    refine lv_istore (pc := 137) (lv' := [(4, .int (nI (f0 + 8 * c + 8))), (5, .int (nI e)), (0, .ref ha), (1, .ref hr), (2, .int (nI f0)), (3, .int (nI t0))]) hx hb dX1_chainThere_137 hl (by decide) rfl (fun ls hl => ?_)
                    refine lv_goto (pc := 139) (tgt := 3) hx hb dX1_chainThere_139 (by decide) ?_
                    exact ih3 (c + 1) gb1_67 c' e' (by omega) (by rw [show 8 * (c + 1) = 8 * c + e by omega]; exact hr2) (by rw [← hB, ← seg_0, qSeg_segk hb2 (by omega)]) (by omega) _ _ (hP.sub [3, 4, 0, 5, 6, 7, 1, 2] rfl) (hD.sub [3, 4, 0, 5, 6, 7, 1, 2] (by decide) rfl) hS ls (lv_sub hl [0, 2, 3, 4, 5] rfl)
                  · skip
                    rw [nI_leI (by omega) (by omega)] at c_4
                    refine lv_iload (pc := 83) hx hb dX1_chainThere_83 (lv_at hl 0 rfl) ?_
                    refine lv_aload_n (pc := 85) hx hb dX1_chainThere_85 rfl (lv_at hl 2 rfl) ?_
                    refine va_get (pc := 86) (D := D) (ci := 1) (v := .ref b2) (C := RX2) (T := TX2) (N := 6) hx hb hts iu2 hown hK hP 3 rfl rfl 1 (by decide) (hts _ tw_254) (fun _ h9 => h9) rfl dX1_chainThere_86 ?_
                    refine va_alen (pc := 89) hx hb hK hP 0 0 rfl rfl (v := nI 8) rfl dX1_chainThere_89 ?_
                    refine lv_icmp_ge (pc := 90) (tgt := 129) hx hb dX1_chainThere_90 (by decide) (fun c_5 => ?_) (fun c_5 => ?_)
                    · skip
                      rw [nI_leI (by omega) (by omega)] at c_5
                      refine lv_iload (pc := 129) hx hb dX1_chainThere_129 (lv_at hl 1 rfl) ?_
                      refine lv_aload_n (pc := 131) hx hb dX1_chainThere_131 rfl (lv_at hl 2 rfl) ?_
                      refine va_get (pc := 132) (D := D) (ci := 1) (v := .ref b1) (C := RX2) (T := TX2) (N := 6) hx hb hts iu2 hown hK hP 3 rfl rfl 0 (by decide) (hts _ tw_249) (fun _ h9 => h9) rfl dX1_chainThere_132 ?_
                      refine va_alen (pc := 135) hx hb hK hP 4 0 rfl rfl (v := nI 8) rfl dX1_chainThere_135 ?_
                      refine lv_iadd (pc := 136) hx hb dX1_chainThere_136 ?_
                      refine q_top (y := nI (f0 + 8 * c + 8)) (nI_add (f0 + 8 * c) 8) ?_
                      refine lv_istore (pc := 137) (lv' := [(4, .int (nI (f0 + 8 * c + 8))), (5, .int (nI e)), (0, .ref ha), (1, .ref hr), (2, .int (nI f0)), (3, .int (nI t0))]) hx hb dX1_chainThere_137 hl (by decide) rfl (fun ls hl => ?_)
                      refine lv_goto (pc := 139) (tgt := 3) hx hb dX1_chainThere_139 (by decide) ?_
                      exact ih3 (c + 1) gb1_67 c' e' (by omega) (by rw [show 8 * (c + 1) = 8 * c + e by omega]; exact hr2) (by rw [← hB, ← seg_0, qSeg_segk hb2 (by omega)]) (by omega) _ _ (hP.sub [3, 4, 0, 5, 6, 7, 1, 2] rfl) (hD.sub [3, 4, 0, 5, 6, 7, 1, 2] (by decide) rfl) hS ls (lv_sub hl [0, 2, 3, 4, 5] rfl)
                    · skip
                      rw [nI_leI (by omega) (by omega)] at c_5
                      refine lv_aload_n (pc := 93) hx hb dX1_chainThere_93 rfl (lv_at hl 3 rfl) ?_
                      refine lv_iload (pc := 94) hx hb dX1_chainThere_94 (lv_at hl 1 rfl) ?_
                      refine lv_iload (pc := 96) hx hb dX1_chainThere_96 (lv_at hl 0 rfl) ?_
                      refine lv_iadd (pc := 98) hx hb dX1_chainThere_98 ?_
                      refine q_top (y := nI (f0 + 8 * c + e)) (nI_add (f0 + 8 * c) e) ?_
                      refine lv_aload_n (pc := 99) hx hb dX1_chainThere_99 rfl (lv_at hl 2 rfl) ?_
                      refine va_get (pc := 100) (D := D) (ci := 1) (v := .ref b1) (C := RX2) (T := TX2) (N := 6) hx hb hts iu2 hown hK hP 3 rfl rfl 0 (by decide) (hts _ tw_249) (fun _ h9 => h9) rfl dX1_chainThere_100 ?_
                      refine lv_iload (pc := 103) hx hb dX1_chainThere_103 (lv_at hl 0 rfl) ?_
                      refine q_iald (pc := 105) hx hb hK hP 4 0 rfl rfl (k := e) (v := qz (gb1_67 e)) rfl (by omega) (by omega) rfl dX1_chainThere_105 ?_
                      refine cs_V (pc := 106) (idx := 25) (n := 2) (wr := [(b2, aZ ta 8 c'), (ha, oD b1 b2 b3 b4 b5 tri), (b1, aZ ta 8 gb1_67), (b3, aI ta 512 spb), (b4, aJ ta 16 f), (b5, aJ ta 16 s)]) (As := [.int (nI (f0 + 8 * c + e)), .int (qz (gb1_67 e))]) (rest := []) (ci := 5) hx hb hml hown hts hGok hK hA hG hl.1 hP hD hS (ct_X6_put ll D ta hGok hr br capr e' n (f0 + 8 * c + e) (qz (gb1_67 e)) (by first | assumption | omega | rfl | decide) (by first | assumption | omega | rfl | decide) (by first | assumption | omega | rfl | decide) H.size) tw_425 tw_585 tw_423 tw_424 tw_66 hdX6_put rfl ⟨rfl, rfl, Nat.le_of_ble_eq_true rfl, Nat.le_of_ble_eq_true rfl, Nat.le_of_ble_eq_true rfl, Nat.le_of_ble_eq_true rfl⟩ rfl rfl (q0 := 1) rfl [1, 2] [0, 3, 4, 5, 6, 7] rfl rfl (by decide) rfl (Nat.le_of_ble_eq_true rfl) dX1_chainThere_106 (fun u H locs hq hP hD hS => ?_)
                      generalize u = g1_106 at hq hP hD ⊢
                      have hq : (g1_106 = qU e' (f0 + 8 * c + e) (qlo (qz (gb1_67 e)))) := hq
                      have hg_106 := hq
                      refine W.eq (g2 := F0 mm 109 ls []) rfl ?_
                      have hP : va_P D vwCl [(b2, aZ ta 8 c'), (ha, oD b1 b2 b3 b4 b5 tri), (b1, aZ ta 8 gb1_67), (b3, aI ta 512 spb), (b4, aJ ta 16 f), (b5, aJ ta 16 s), (hr, oR br n), (br, aZ ta capr g1_106)] H := hP
                      have hD : va_D A [(b2, aZ ta 8 c'), (ha, oD b1 b2 b3 b4 b5 tri), (b1, aZ ta 8 gb1_67), (b3, aI ta 512 spb), (b4, aJ ta 16 f), (b5, aJ ta 16 s), (hr, oR br n), (br, aZ ta capr g1_106)] := hD
                      refine lv_aload_n (pc := 109) hx hb dX1_chainThere_109 rfl (lv_at hl 2 rfl) ?_
                      refine va_get (pc := 110) (D := D) (ci := 1) (v := .ref b2) (C := RX2) (T := TX2) (N := 6) hx hb hts iu2 hown hK hP 1 rfl rfl 1 (by decide) (hts _ tw_254) (fun _ h9 => h9) rfl dX1_chainThere_110 ?_
                      refine lv_iload (pc := 113) hx hb dX1_chainThere_113 (lv_at hl 0 rfl) ?_
                      refine lv_aload_n (pc := 115) hx hb dX1_chainThere_115 rfl (lv_at hl 2 rfl) ?_
                      refine va_get (pc := 116) (D := D) (ci := 1) (v := .ref b1) (C := RX2) (T := TX2) (N := 6) hx hb hts iu2 hown hK hP 1 rfl rfl 0 (by decide) (hts _ tw_249) (fun _ h9 => h9) rfl dX1_chainThere_116 ?_
                      refine lv_iload (pc := 119) hx hb dX1_chainThere_119 (lv_at hl 0 rfl) ?_
                      refine q_iald (pc := 121) hx hb hK hP 2 0 rfl rfl (k := e) (v := qz (gb1_67 e)) rfl (by omega) (by omega) rfl dX1_chainThere_121 ?_
                      refine q_iastZ (pc := 122) hx hb hK hP hD hS 0 0 rfl rfl (k := e) rfl (by omega) (by omega) (b := gb1_67 e) rfl dX1_chainThere_122 (fun H locs hP hD hS => ?_)
                      have hP : va_P D vwCl [(b2, aZ ta 8 (qU c' e (gb1_67 e))), (ha, oD b1 b2 b3 b4 b5 tri), (b1, aZ ta 8 gb1_67), (b3, aI ta 512 spb), (b4, aJ ta 16 f), (b5, aJ ta 16 s), (hr, oR br n), (br, aZ ta capr g1_106)] H := hP
                      have hD : va_D A [(b2, aZ ta 8 (qU c' e (gb1_67 e))), (ha, oD b1 b2 b3 b4 b5 tri), (b1, aZ ta 8 gb1_67), (b3, aI ta 512 spb), (b4, aJ ta 16 f), (b5, aJ ta 16 s), (hr, oR br n), (br, aZ ta capr g1_106)] := hD
                      refine lv_iinc (pc := 123) (v := nI (e + 1)) (lv' := [(5, .int (nI (e + 1))), (4, .int (nI (f0 + 8 * c))), (0, .ref ha), (1, .ref hr), (2, .int (nI f0)), (3, .int (nI t0))]) hx hb dX1_chainThere_123 hl (k := 0) rfl (by first | exact nI_add e 1 | rfl) (by decide) rfl (fun ls hl => ?_)
                      refine lv_goto (pc := 126) (tgt := 73) hx hb dX1_chainThere_126 (by decide) ?_
                      exact ih73 (e + 1) g1_106 (qU c' e (gb1_67 e)) (by omega) (by rw [hg_106]; exact cbc_put (by omega) hr2 hB (by omega) (qlo_qz _)) (qSeg_s hb2 (by omega) rfl) (by omega) _ _ (hP.sub [0, 6, 7, 1, 2, 3, 4, 5] rfl) (hD.sub [0, 6, 7, 1, 2, 3, 4, 5] (by decide) rfl) hS ls (lv_sub hl [0, 1, 2, 3, 4, 5] rfl)
              exact LP73 _ 0 r' b' (by omega) (hr1) (qSeg_0) (Nat.lt_succ_self _) _ _ (hP.sub [0, 1, 2, 3, 4, 5, 6, 7] rfl) (hD.sub [0, 1, 2, 3, 4, 5, 6, 7] (by decide) rfl) hS ls (lv_sub hl [0, 1, 2, 3, 4, 5] rfl)
            · skip
              rw [nI_leI (by omega) (by omega)] at c_3
              refine lv_iload (pc := 22) hx hb dX1_chainThere_22 (lv_at hl 0 rfl) ?_
              refine lv_aload_n (pc := 24) hx hb dX1_chainThere_24 rfl (lv_at hl 2 rfl) ?_
              refine va_get (pc := 25) (D := D) (ci := 1) (v := .ref b2) (C := RX2) (T := TX2) (N := 6) hx hb hts iu2 hown hK hP 0 rfl rfl 1 (by decide) (hts _ tw_254) (fun _ h9 => h9) rfl dX1_chainThere_25 ?_
              refine va_alen (pc := 28) hx hb hK hP 2 0 rfl rfl (v := nI 8) rfl dX1_chainThere_28 ?_
              refine lv_icmp_ge (pc := 29) (tgt := 66) hx hb dX1_chainThere_29 (by decide) (fun c_6 => ?_) (fun c_6 => ?_)
              · skip
                rw [nI_leI (by omega) (by omega)] at c_6
                refine lv_aload_n (pc := 66) hx hb dX1_chainThere_66 rfl (lv_at hl 2 rfl) ?_
                refine cs_U (pc := 67) (idx := 22) (n := 0) (wr := [(b2, aZ ta 8 b'), (hr, oR br n), (br, aZ ta capr r')]) (As := []) (rest := []) (ci := 1) (x := ⟨"LineGuard$BlockCipher", "there", "()V"⟩) (owner := "LineGuard$BlockCipher") hx hb hml hown hts hGok hK hA hG hl.1 hP hD hS (ct_X2_there_L ll D ta gs ha b1 b2 b3 b4 b5 tri d' f s spb K (by first | assumption | omega | rfl | decide) (by first | assumption | omega | rfl | decide) (by first | assumption | omega | rfl | decide) H.size) tw_564 tw_535 tw_563 tw_562 tw_72 tw_537 (va_Decl.abs (GC_w536 hG)) ⟨by decide +kernel, by decide +kernel, by decide +kernel⟩ rfl ⟨rfl, rfl, Nat.le_of_ble_eq_true rfl, Nat.le_of_ble_eq_true rfl, Nat.le_of_ble_eq_true rfl, Nat.le_of_ble_eq_true rfl⟩ rfl (q0 := 0) rfl [0, 1, 3, 4, 5] [2, 6, 7] rfl rfl (by decide) rfl (Nat.le_of_ble_eq_true rfl) dX1_chainThere_67 (fun u H locs hq hP hD hS => ?_)
                generalize u = gb1_67 at hq hP hD ⊢
                have hq : (qL gb1_67 8 = cE tri K false (qL d' 8)) := hq
                have hs_67 := hq
                refine W.eq (g2 := F0 mm 70 ls []) rfl ?_
                have hP : va_P D vwCl [(b2, aZ ta 8 b'), (hr, oR br n), (br, aZ ta capr r'), (ha, oD b1 b2 b3 b4 b5 tri), (b1, aZ ta 8 gb1_67), (b3, aI ta 512 spb), (b4, aJ ta 16 f), (b5, aJ ta 16 s)] H := hP
                have hD : va_D A [(b2, aZ ta 8 b'), (hr, oR br n), (br, aZ ta capr r'), (ha, oD b1 b2 b3 b4 b5 tri), (b1, aZ ta 8 gb1_67), (b3, aI ta 512 spb), (b4, aJ ta 16 f), (b5, aJ ta 16 s)] := hD
                have hB := cbc_blk hr1 hb1 (by omega) (by omega) hd hs_67
                refine lv_iconst (pc := 70) (v := nI 0) hx hb dX1_chainThere_70 (by decide +kernel) ?_
                refine lv_istore (pc := 71) (lv' := [(5, .int (nI 0)), (4, .int (nI (f0 + 8 * c))), (0, .ref ha), (1, .ref hr), (2, .int (nI f0)), (3, .int (nI t0))]) hx hb dX1_chainThere_71 hl (by decide) rfl (fun ls hl => ?_)
                have LP73 : ∀ (nn73 : Nat) (e : Nat) (e' : Nat → BitVec 8) (c' : Nat → BitVec 8), (e ≤ 8) → (qSeg e' gr f0 (8 * c + e) (encF (cE tri K false) 8 (qL bf 8) (seg gr f0 (8 * m)))) → (qSeg c' b' 0 e gb1_67) → (8 - e < nn73) → ∀ (H : Heap) (locs : List Loc), va_P D vwCl [(b2, aZ ta 8 c'), (hr, oR br n), (br, aZ ta capr e'), (ha, oD b1 b2 b3 b4 b5 tri), (b1, aZ ta 8 gb1_67), (b3, aI ta 512 spb), (b4, aJ ta 16 f), (b5, aJ ta 16 s)] H → va_D A [(b2, aZ ta 8 c'), (hr, oR br n), (br, aZ ta capr e'), (ha, oD b1 b2 b3 b4 b5 tri), (b1, aZ ta 8 gb1_67), (b3, aI ta 512 spb), (b4, aJ ta 16 f), (b5, aJ ta 16 s)] → va_S A ss.heap H locs → ∀ ls : Array Slot, lv_has ls 6 [(5, .int (nI e)), (4, .int (nI (f0 + 8 * c))), (0, .ref ha), (1, .ref hr), (2, .int (nI f0)), (3, .int (nI t0))] → W pp ll ee ({ frames := 2, cells := 0, slots := 0, locals := 56 } : Room) ss mm (([.ref ha, .ref hr, .int (nI f0), .int (nI t0)] : List Value).toArray) below meth kc H locs 0 0 Q (F0 mm 73 ls []) := by
                  intro nn73
                  induction nn73 with
                  | zero => intro e e' c' hee hr2 hb2 hmu; exact absurd hmu (Nat.not_lt_zero _)
                  | succ nn73 ih73 =>
                    intro e e' c' hee hr2 hb2 hmu73 H locs hP hD hS ls hl
                    refine lv_iload (pc := 73) hx hb dX1_chainThere_73 (lv_at hl 0 rfl) ?_
                    refine lv_aload_n (pc := 75) hx hb dX1_chainThere_75 rfl (lv_at hl 2 rfl) ?_
                    refine va_get (pc := 76) (D := D) (ci := 1) (v := .ref b1) (C := RX2) (T := TX2) (N := 6) hx hb hts iu2 hown hK hP 3 rfl rfl 0 (by decide) (hts _ tw_249) (fun _ h9 => h9) rfl dX1_chainThere_76 ?_
                    refine va_alen (pc := 79) hx hb hK hP 4 0 rfl rfl (v := nI 8) rfl dX1_chainThere_79 ?_
                    refine lv_icmp_ge (pc := 80) (tgt := 129) hx hb dX1_chainThere_80 (by decide) (fun c_7 => ?_) (fun c_7 => ?_)
                    · skip
                      rw [nI_leI (by omega) (by omega)] at c_7
                      refine lv_iload (pc := 129) hx hb dX1_chainThere_129 (lv_at hl 1 rfl) ?_
                      refine lv_aload_n (pc := 131) hx hb dX1_chainThere_131 rfl (lv_at hl 2 rfl) ?_
                      refine va_get (pc := 132) (D := D) (ci := 1) (v := .ref b1) (C := RX2) (T := TX2) (N := 6) hx hb hts iu2 hown hK hP 3 rfl rfl 0 (by decide) (hts _ tw_249) (fun _ h9 => h9) rfl dX1_chainThere_132 ?_
                      refine va_alen (pc := 135) hx hb hK hP 4 0 rfl rfl (v := nI 8) rfl dX1_chainThere_135 ?_
                      refine lv_iadd (pc := 136) hx hb dX1_chainThere_136 ?_
                      refine q_top (y := nI (f0 + 8 * c + 8)) (nI_add (f0 + 8 * c) 8) ?_
                      refine lv_istore (pc := 137) (lv' := [(4, .int (nI (f0 + 8 * c + 8))), (5, .int (nI e)), (0, .ref ha), (1, .ref hr), (2, .int (nI f0)), (3, .int (nI t0))]) hx hb dX1_chainThere_137 hl (by decide) rfl (fun ls hl => ?_)
                      refine lv_goto (pc := 139) (tgt := 3) hx hb dX1_chainThere_139 (by decide) ?_
                      exact ih3 (c + 1) gb1_67 c' e' (by omega) (by rw [show 8 * (c + 1) = 8 * c + e by omega]; exact hr2) (by rw [← hB, ← seg_0, qSeg_segk hb2 (by omega)]) (by omega) _ _ (hP.sub [3, 4, 0, 5, 6, 7, 1, 2] rfl) (hD.sub [3, 4, 0, 5, 6, 7, 1, 2] (by decide) rfl) hS ls (lv_sub hl [0, 2, 3, 4, 5] rfl)
                    · skip
                      rw [nI_leI (by omega) (by omega)] at c_7
                      refine lv_iload (pc := 83) hx hb dX1_chainThere_83 (lv_at hl 0 rfl) ?_
                      refine lv_aload_n (pc := 85) hx hb dX1_chainThere_85 rfl (lv_at hl 2 rfl) ?_
                      refine va_get (pc := 86) (D := D) (ci := 1) (v := .ref b2) (C := RX2) (T := TX2) (N := 6) hx hb hts iu2 hown hK hP 3 rfl rfl 1 (by decide) (hts _ tw_254) (fun _ h9 => h9) rfl dX1_chainThere_86 ?_
                      refine va_alen (pc := 89) hx hb hK hP 0 0 rfl rfl (v := nI 8) rfl dX1_chainThere_89 ?_
                      refine lv_icmp_ge (pc := 90) (tgt := 129) hx hb dX1_chainThere_90 (by decide) (fun c_8 => ?_) (fun c_8 => ?_)
                      · skip
                        rw [nI_leI (by omega) (by omega)] at c_8
                        refine lv_iload (pc := 129) hx hb dX1_chainThere_129 (lv_at hl 1 rfl) ?_
                        refine lv_aload_n (pc := 131) hx hb dX1_chainThere_131 rfl (lv_at hl 2 rfl) ?_
                        refine va_get (pc := 132) (D := D) (ci := 1) (v := .ref b1) (C := RX2) (T := TX2) (N := 6) hx hb hts iu2 hown hK hP 3 rfl rfl 0 (by decide) (hts _ tw_249) (fun _ h9 => h9) rfl dX1_chainThere_132 ?_
                        refine va_alen (pc := 135) hx hb hK hP 4 0 rfl rfl (v := nI 8) rfl dX1_chainThere_135 ?_
                        refine lv_iadd (pc := 136) hx hb dX1_chainThere_136 ?_
                        refine q_top (y := nI (f0 + 8 * c + 8)) (nI_add (f0 + 8 * c) 8) ?_
                        refine lv_istore (pc := 137) (lv' := [(4, .int (nI (f0 + 8 * c + 8))), (5, .int (nI e)), (0, .ref ha), (1, .ref hr), (2, .int (nI f0)), (3, .int (nI t0))]) hx hb dX1_chainThere_137 hl (by decide) rfl (fun ls hl => ?_)
                        refine lv_goto (pc := 139) (tgt := 3) hx hb dX1_chainThere_139 (by decide) ?_
                        exact ih3 (c + 1) gb1_67 c' e' (by omega) (by rw [show 8 * (c + 1) = 8 * c + e by omega]; exact hr2) (by rw [← hB, ← seg_0, qSeg_segk hb2 (by omega)]) (by omega) _ _ (hP.sub [3, 4, 0, 5, 6, 7, 1, 2] rfl) (hD.sub [3, 4, 0, 5, 6, 7, 1, 2] (by decide) rfl) hS ls (lv_sub hl [0, 2, 3, 4, 5] rfl)
                      · skip
                        rw [nI_leI (by omega) (by omega)] at c_8
                        refine lv_aload_n (pc := 93) hx hb dX1_chainThere_93 rfl (lv_at hl 3 rfl) ?_
                        refine lv_iload (pc := 94) hx hb dX1_chainThere_94 (lv_at hl 1 rfl) ?_
                        refine lv_iload (pc := 96) hx hb dX1_chainThere_96 (lv_at hl 0 rfl) ?_
                        refine lv_iadd (pc := 98) hx hb dX1_chainThere_98 ?_
                        refine q_top (y := nI (f0 + 8 * c + e)) (nI_add (f0 + 8 * c) e) ?_
                        refine lv_aload_n (pc := 99) hx hb dX1_chainThere_99 rfl (lv_at hl 2 rfl) ?_
                        refine va_get (pc := 100) (D := D) (ci := 1) (v := .ref b1) (C := RX2) (T := TX2) (N := 6) hx hb hts iu2 hown hK hP 3 rfl rfl 0 (by decide) (hts _ tw_249) (fun _ h9 => h9) rfl dX1_chainThere_100 ?_
                        refine lv_iload (pc := 103) hx hb dX1_chainThere_103 (lv_at hl 0 rfl) ?_
                        refine q_iald (pc := 105) hx hb hK hP 4 0 rfl rfl (k := e) (v := qz (gb1_67 e)) rfl (by omega) (by omega) rfl dX1_chainThere_105 ?_
                        refine cs_V (pc := 106) (idx := 25) (n := 2) (wr := [(b2, aZ ta 8 c'), (ha, oD b1 b2 b3 b4 b5 tri), (b1, aZ ta 8 gb1_67), (b3, aI ta 512 spb), (b4, aJ ta 16 f), (b5, aJ ta 16 s)]) (As := [.int (nI (f0 + 8 * c + e)), .int (qz (gb1_67 e))]) (rest := []) (ci := 5) hx hb hml hown hts hGok hK hA hG hl.1 hP hD hS (ct_X6_put ll D ta hGok hr br capr e' n (f0 + 8 * c + e) (qz (gb1_67 e)) (by first | assumption | omega | rfl | decide) (by first | assumption | omega | rfl | decide) (by first | assumption | omega | rfl | decide) H.size) tw_425 tw_585 tw_423 tw_424 tw_66 hdX6_put rfl ⟨rfl, rfl, Nat.le_of_ble_eq_true rfl, Nat.le_of_ble_eq_true rfl, Nat.le_of_ble_eq_true rfl, Nat.le_of_ble_eq_true rfl⟩ rfl rfl (q0 := 1) rfl [1, 2] [0, 3, 4, 5, 6, 7] rfl rfl (by decide) rfl (Nat.le_of_ble_eq_true rfl) dX1_chainThere_106 (fun u H locs hq hP hD hS => ?_)
                        generalize u = g1_106 at hq hP hD ⊢
                        have hq : (g1_106 = qU e' (f0 + 8 * c + e) (qlo (qz (gb1_67 e)))) := hq
                        have hg_106 := hq
                        refine W.eq (g2 := F0 mm 109 ls []) rfl ?_
                        have hP : va_P D vwCl [(b2, aZ ta 8 c'), (ha, oD b1 b2 b3 b4 b5 tri), (b1, aZ ta 8 gb1_67), (b3, aI ta 512 spb), (b4, aJ ta 16 f), (b5, aJ ta 16 s), (hr, oR br n), (br, aZ ta capr g1_106)] H := hP
                        have hD : va_D A [(b2, aZ ta 8 c'), (ha, oD b1 b2 b3 b4 b5 tri), (b1, aZ ta 8 gb1_67), (b3, aI ta 512 spb), (b4, aJ ta 16 f), (b5, aJ ta 16 s), (hr, oR br n), (br, aZ ta capr g1_106)] := hD
                        refine lv_aload_n (pc := 109) hx hb dX1_chainThere_109 rfl (lv_at hl 2 rfl) ?_
                        refine va_get (pc := 110) (D := D) (ci := 1) (v := .ref b2) (C := RX2) (T := TX2) (N := 6) hx hb hts iu2 hown hK hP 1 rfl rfl 1 (by decide) (hts _ tw_254) (fun _ h9 => h9) rfl dX1_chainThere_110 ?_
                        refine lv_iload (pc := 113) hx hb dX1_chainThere_113 (lv_at hl 0 rfl) ?_
                        refine lv_aload_n (pc := 115) hx hb dX1_chainThere_115 rfl (lv_at hl 2 rfl) ?_
                        refine va_get (pc := 116) (D := D) (ci := 1) (v := .ref b1) (C := RX2) (T := TX2) (N := 6) hx hb hts iu2 hown hK hP 1 rfl rfl 0 (by decide) (hts _ tw_249) (fun _ h9 => h9) rfl dX1_chainThere_116 ?_
                        refine lv_iload (pc := 119) hx hb dX1_chainThere_119 (lv_at hl 0 rfl) ?_
                        refine q_iald (pc := 121) hx hb hK hP 2 0 rfl rfl (k := e) (v := qz (gb1_67 e)) rfl (by omega) (by omega) rfl dX1_chainThere_121 ?_
                        refine q_iastZ (pc := 122) hx hb hK hP hD hS 0 0 rfl rfl (k := e) rfl (by omega) (by omega) (b := gb1_67 e) rfl dX1_chainThere_122 (fun H locs hP hD hS => ?_)
                        have hP : va_P D vwCl [(b2, aZ ta 8 (qU c' e (gb1_67 e))), (ha, oD b1 b2 b3 b4 b5 tri), (b1, aZ ta 8 gb1_67), (b3, aI ta 512 spb), (b4, aJ ta 16 f), (b5, aJ ta 16 s), (hr, oR br n), (br, aZ ta capr g1_106)] H := hP
                        have hD : va_D A [(b2, aZ ta 8 (qU c' e (gb1_67 e))), (ha, oD b1 b2 b3 b4 b5 tri), (b1, aZ ta 8 gb1_67), (b3, aI ta 512 spb), (b4, aJ ta 16 f), (b5, aJ ta 16 s), (hr, oR br n), (br, aZ ta capr g1_106)] := hD
                        refine lv_iinc (pc := 123) (v := nI (e + 1)) (lv' := [(5, .int (nI (e + 1))), (4, .int (nI (f0 + 8 * c))), (0, .ref ha), (1, .ref hr), (2, .int (nI f0)), (3, .int (nI t0))]) hx hb dX1_chainThere_123 hl (k := 0) rfl (by first | exact nI_add e 1 | rfl) (by decide) rfl (fun ls hl => ?_)
                        refine lv_goto (pc := 126) (tgt := 73) hx hb dX1_chainThere_126 (by decide) ?_
                        exact ih73 (e + 1) g1_106 (qU c' e (gb1_67 e)) (by omega) (by rw [hg_106]; exact cbc_put (by omega) hr2 hB (by omega) (qlo_qz _)) (qSeg_s hb2 (by omega) rfl) (by omega) _ _ (hP.sub [0, 6, 7, 1, 2, 3, 4, 5] rfl) (hD.sub [0, 6, 7, 1, 2, 3, 4, 5] (by decide) rfl) hS ls (lv_sub hl [0, 1, 2, 3, 4, 5] rfl)
                exact LP73 _ 0 r' b' (by omega) (hr1) (qSeg_0) (Nat.lt_succ_self _) _ _ (hP.sub [0, 1, 2, 3, 4, 5, 6, 7] rfl) (hD.sub [0, 1, 2, 3, 4, 5, 6, 7] (by decide) rfl) hS ls (lv_sub hl [0, 1, 2, 3, 4, 5] rfl)
              · skip
                rw [nI_leI (by omega) (by omega)] at c_6
                refine lv_aload_n (pc := 32) hx hb dX1_chainThere_32 rfl (lv_at hl 2 rfl) ?_
                refine va_get (pc := 33) (D := D) (ci := 1) (v := .ref b1) (C := RX2) (T := TX2) (N := 6) hx hb hts iu2 hown hK hP 0 rfl rfl 0 (by decide) (hts _ tw_249) (fun _ h9 => h9) rfl dX1_chainThere_33 ?_
                refine lv_iload (pc := 36) hx hb dX1_chainThere_36 (lv_at hl 0 rfl) ?_
                refine lv_aload_n (pc := 38) hx hb dX1_chainThere_38 rfl (lv_at hl 3 rfl) ?_
                refine lv_iload (pc := 39) hx hb dX1_chainThere_39 (lv_at hl 1 rfl) ?_
                refine lv_iload (pc := 41) hx hb dX1_chainThere_41 (lv_at hl 0 rfl) ?_
                refine lv_iadd (pc := 43) hx hb dX1_chainThere_43 ?_
                refine q_top (y := nI (f0 + 8 * c + d)) (nI_add (f0 + 8 * c) d) ?_
                refine cs_V (pc := 44) (idx := 16) (n := 1) (wr := [(ha, oD b1 b2 b3 b4 b5 tri), (b1, aZ ta 8 d'), (b2, aZ ta 8 b'), (b3, aI ta 512 spb), (b4, aJ ta 16 f), (b5, aJ ta 16 s)]) (As := [.int (nI (f0 + 8 * c + d))]) (rest := [.int (nI d), .ref b1]) (ci := 5) hx hb hml hown hts hGok hK hA hG hl.1 hP hD hS (ct_X6_at_in ll D ta hGok hr br capr r' n (f0 + 8 * c + d) (by first | assumption | omega | rfl | decide) (by first | assumption | omega | rfl | decide) (by first | assumption | omega | rfl | decide) H.size) tw_413 tw_528 tw_411 tw_412 tw_66 hdX6_at rfl ⟨rfl, rfl, Nat.le_of_ble_eq_true rfl, Nat.le_of_ble_eq_true rfl, Nat.le_of_ble_eq_true rfl, Nat.le_of_ble_eq_true rfl⟩ rfl rfl (q0 := 6) rfl [6, 7] [0, 1, 2, 3, 4, 5] rfl rfl (by decide) rfl (Nat.le_of_ble_eq_true rfl) dX1_chainThere_44 (fun u H locs hq hP hD hS => ?_)
                refine W.eq (g2 := F0 mm 47 ls [.int (qz (r' (f0 + 8 * c + d))), .int (nI d), .ref b1]) rfl ?_
                have hP : va_P D vwCl [(ha, oD b1 b2 b3 b4 b5 tri), (b1, aZ ta 8 d'), (b2, aZ ta 8 b'), (b3, aI ta 512 spb), (b4, aJ ta 16 f), (b5, aJ ta 16 s), (hr, oR br n), (br, aZ ta capr r')] H := hP
                have hD : va_D A [(ha, oD b1 b2 b3 b4 b5 tri), (b1, aZ ta 8 d'), (b2, aZ ta 8 b'), (b3, aI ta 512 spb), (b4, aJ ta 16 f), (b5, aJ ta 16 s), (hr, oR br n), (br, aZ ta capr r')] := hD
                refine lv_aload_n (pc := 47) hx hb dX1_chainThere_47 rfl (lv_at hl 2 rfl) ?_
                refine va_get (pc := 48) (D := D) (ci := 1) (v := .ref b2) (C := RX2) (T := TX2) (N := 6) hx hb hts iu2 hown hK hP 0 rfl rfl 1 (by decide) (hts _ tw_254) (fun _ h9 => h9) rfl dX1_chainThere_48 ?_
                refine lv_iload (pc := 51) hx hb dX1_chainThere_51 (lv_at hl 0 rfl) ?_
                refine q_iald (pc := 53) hx hb hK hP 2 0 rfl rfl (k := d) (v := qz (b' d)) rfl (by omega) (by omega) rfl dX1_chainThere_53 ?_
                refine lv_ixor (pc := 54) hx hb dX1_chainThere_54 ?_
                refine q_top (y := qz ((r' (f0 + 8 * c + d)) ^^^ (b' d))) (q_xor_z _ _) ?_
                refine lv_sipush (pc := 55) (v := nI 255) hx hb dX1_chainThere_55 (by decide +kernel) ?_
                refine lv_iand (pc := 58) hx hb dX1_chainThere_58 ?_
                refine q_top (y := qz ((r' (f0 + 8 * c + d)) ^^^ (b' d))) (q_and255z _) ?_
                refine q_iastZ (pc := 59) hx hb hK hP hD hS 1 0 rfl rfl (k := d) rfl (by omega) (by omega) (b := (r' (f0 + 8 * c + d)) ^^^ (b' d)) rfl dX1_chainThere_59 (fun H locs hP hD hS => ?_)
                have hP : va_P D vwCl [(ha, oD b1 b2 b3 b4 b5 tri), (b1, aZ ta 8 (qU d' d ((r' (f0 + 8 * c + d)) ^^^ (b' d)))), (b2, aZ ta 8 b'), (b3, aI ta 512 spb), (b4, aJ ta 16 f), (b5, aJ ta 16 s), (hr, oR br n), (br, aZ ta capr r')] H := hP
                have hD : va_D A [(ha, oD b1 b2 b3 b4 b5 tri), (b1, aZ ta 8 (qU d' d ((r' (f0 + 8 * c + d)) ^^^ (b' d)))), (b2, aZ ta 8 b'), (b3, aI ta 512 spb), (b4, aJ ta 16 f), (b5, aJ ta 16 s), (hr, oR br n), (br, aZ ta capr r')] := hD
                refine lv_iinc (pc := 60) (v := nI (d + 1)) (lv' := [(5, .int (nI (d + 1))), (4, .int (nI (f0 + 8 * c))), (0, .ref ha), (1, .ref hr), (2, .int (nI f0)), (3, .int (nI t0))]) hx hb dX1_chainThere_60 hl (k := 0) rfl (by first | exact nI_add d 1 | rfl) (by decide) rfl (fun ls hl => ?_)
                refine lv_goto (pc := 63) (tgt := 12) hx hb dX1_chainThere_63 (by decide) ?_
                exact ih12 (d + 1) (qU d' d ((r' (f0 + 8 * c + d)) ^^^ (b' d))) (by omega) (qSeg_s hd (by omega) rfl) (by omega) _ _ (hP.sub [0, 1, 2, 3, 4, 5, 6, 7] rfl) (hD.sub [0, 1, 2, 3, 4, 5, 6, 7] (by decide) rfl) hS ls (lv_sub hl [0, 1, 2, 3, 4, 5] rfl)
        exact LP12 _ 0 g' (by omega) (qSeg_0) (Nat.lt_succ_self _) _ _ (hP.sub [0, 1, 2, 3, 4, 5, 6, 7] rfl) (hD.sub [0, 1, 2, 3, 4, 5, 6, 7] (by decide) rfl) hS ls (lv_sub hl [0, 1, 2, 3, 4, 5] rfl)
  exact LP3 _ 0 gb bf gr (by omega) (qSeg_0) (rfl) (Nat.lt_succ_self _) _ _ (hP.sub [0, 1, 2, 3, 4, 5, 6, 7] rfl) (hD.sub [0, 1, 2, 3, 4, 5, 6, 7] (by decide) rfl) hS ls (lv_sub hl [0, 1, 2, 3, 4] rfl)
theorem hdX1_chainBack : yX1_chainBack.cls ≠ "java/lang/invoke/MethodHandle" ∧ yX1_chainBack.cls ≠ "java/lang/invoke/VarHandle" ∧ (parseMethodDescriptor yX1_chainBack.desc).map (fun d => d.parameters.length) = some 3 := ⟨by decide +kernel, by decide +kernel, by decide +kernel⟩
theorem dX1_chainBack_0 : decode cX1_chainBack 0 = .ok (.iload_n 2, 1) := by decide +kernel
theorem dX1_chainBack_1 : decode cX1_chainBack 1 = .ok (.istore 4, 2) := by decide +kernel
theorem dX1_chainBack_3 : decode cX1_chainBack 3 = .ok (.iload 4, 2) := by decide +kernel
theorem dX1_chainBack_5 : decode cX1_chainBack 5 = .ok (.iload_n 3, 1) := by decide +kernel
theorem dX1_chainBack_6 : decode cX1_chainBack 6 = .ok (.if_icmp .ge 136, 3) := by decide +kernel
theorem dX1_chainBack_9 : decode cX1_chainBack 9 = .ok (.iconst 0, 1) := by decide +kernel
theorem dX1_chainBack_10 : decode cX1_chainBack 10 = .ok (.istore 5, 2) := by decide +kernel
theorem dX1_chainBack_12 : decode cX1_chainBack 12 = .ok (.iload 5, 2) := by decide +kernel
theorem dX1_chainBack_14 : decode cX1_chainBack 14 = .ok (.aload_n 0, 1) := by decide +kernel
theorem dX1_chainBack_15 : decode cX1_chainBack 15 = .ok (.getfield 7, 3) := by decide +kernel
theorem dX1_chainBack_18 : decode cX1_chainBack 18 = .ok (.arraylength, 1) := by decide +kernel
theorem dX1_chainBack_19 : decode cX1_chainBack 19 = .ok (.if_icmp .ge 29, 3) := by decide +kernel
theorem dX1_chainBack_22 : decode cX1_chainBack 22 = .ok (.aload_n 0, 1) := by decide +kernel
theorem dX1_chainBack_23 : decode cX1_chainBack 23 = .ok (.getfield 7, 3) := by decide +kernel
theorem dX1_chainBack_26 : decode cX1_chainBack 26 = .ok (.iload 5, 2) := by decide +kernel
theorem dX1_chainBack_28 : decode cX1_chainBack 28 = .ok (.aload_n 1, 1) := by decide +kernel
theorem dX1_chainBack_29 : decode cX1_chainBack 29 = .ok (.iload 4, 2) := by decide +kernel
theorem dX1_chainBack_31 : decode cX1_chainBack 31 = .ok (.iload 5, 2) := by decide +kernel
theorem dX1_chainBack_33 : decode cX1_chainBack 33 = .ok (.iadd, 1) := by decide +kernel
theorem dX1_chainBack_34 : decode cX1_chainBack 34 = .ok (.invokevirtual 16, 3) := by decide +kernel
theorem dX1_chainBack_37 : decode cX1_chainBack 37 = .ok (.sipush 255, 3) := by decide +kernel
theorem dX1_chainBack_40 : decode cX1_chainBack 40 = .ok (.iand, 1) := by decide +kernel
theorem dX1_chainBack_41 : decode cX1_chainBack 41 = .ok (.iastore, 1) := by decide +kernel
theorem dX1_chainBack_42 : decode cX1_chainBack 42 = .ok (.iinc 5 1, 3) := by decide +kernel
theorem dX1_chainBack_45 : decode cX1_chainBack 45 = .ok (.goto (-33), 3) := by decide +kernel
theorem dX1_chainBack_48 : decode cX1_chainBack 48 = .ok (.aload_n 0, 1) := by decide +kernel
theorem dX1_chainBack_49 : decode cX1_chainBack 49 = .ok (.invokevirtual 29, 3) := by decide +kernel
theorem dX1_chainBack_52 : decode cX1_chainBack 52 = .ok (.iconst 0, 1) := by decide +kernel
theorem dX1_chainBack_53 : decode cX1_chainBack 53 = .ok (.istore 5, 2) := by decide +kernel
theorem dX1_chainBack_55 : decode cX1_chainBack 55 = .ok (.iload 5, 2) := by decide +kernel
theorem dX1_chainBack_57 : decode cX1_chainBack 57 = .ok (.aload_n 0, 1) := by decide +kernel
theorem dX1_chainBack_58 : decode cX1_chainBack 58 = .ok (.getfield 7, 3) := by decide +kernel
theorem dX1_chainBack_61 : decode cX1_chainBack 61 = .ok (.arraylength, 1) := by decide +kernel
theorem dX1_chainBack_62 : decode cX1_chainBack 62 = .ok (.if_icmp .ge 67, 3) := by decide +kernel
theorem dX1_chainBack_65 : decode cX1_chainBack 65 = .ok (.iload 5, 2) := by decide +kernel
theorem dX1_chainBack_67 : decode cX1_chainBack 67 = .ok (.aload_n 0, 1) := by decide +kernel
theorem dX1_chainBack_68 : decode cX1_chainBack 68 = .ok (.getfield 13, 3) := by decide +kernel
theorem dX1_chainBack_71 : decode cX1_chainBack 71 = .ok (.arraylength, 1) := by decide +kernel
theorem dX1_chainBack_72 : decode cX1_chainBack 72 = .ok (.if_icmp .ge 57, 3) := by decide +kernel
theorem dX1_chainBack_75 : decode cX1_chainBack 75 = .ok (.aload_n 1, 1) := by decide +kernel
theorem dX1_chainBack_76 : decode cX1_chainBack 76 = .ok (.iload 4, 2) := by decide +kernel
theorem dX1_chainBack_78 : decode cX1_chainBack 78 = .ok (.iload 5, 2) := by decide +kernel
theorem dX1_chainBack_80 : decode cX1_chainBack 80 = .ok (.iadd, 1) := by decide +kernel
theorem dX1_chainBack_81 : decode cX1_chainBack 81 = .ok (.invokevirtual 16, 3) := by decide +kernel
theorem dX1_chainBack_84 : decode cX1_chainBack 84 = .ok (.sipush 255, 3) := by decide +kernel
theorem dX1_chainBack_87 : decode cX1_chainBack 87 = .ok (.iand, 1) := by decide +kernel
theorem dX1_chainBack_88 : decode cX1_chainBack 88 = .ok (.istore 6, 2) := by decide +kernel
theorem dX1_chainBack_90 : decode cX1_chainBack 90 = .ok (.aload_n 1, 1) := by decide +kernel
theorem dX1_chainBack_91 : decode cX1_chainBack 91 = .ok (.iload 4, 2) := by decide +kernel
theorem dX1_chainBack_93 : decode cX1_chainBack 93 = .ok (.iload 5, 2) := by decide +kernel
theorem dX1_chainBack_95 : decode cX1_chainBack 95 = .ok (.iadd, 1) := by decide +kernel
theorem dX1_chainBack_96 : decode cX1_chainBack 96 = .ok (.aload_n 0, 1) := by decide +kernel
theorem dX1_chainBack_97 : decode cX1_chainBack 97 = .ok (.getfield 7, 3) := by decide +kernel
theorem dX1_chainBack_100 : decode cX1_chainBack 100 = .ok (.iload 5, 2) := by decide +kernel
theorem dX1_chainBack_102 : decode cX1_chainBack 102 = .ok (.iaload, 1) := by decide +kernel
theorem dX1_chainBack_103 : decode cX1_chainBack 103 = .ok (.aload_n 0, 1) := by decide +kernel
theorem dX1_chainBack_104 : decode cX1_chainBack 104 = .ok (.getfield 13, 3) := by decide +kernel
theorem dX1_chainBack_107 : decode cX1_chainBack 107 = .ok (.iload 5, 2) := by decide +kernel
theorem dX1_chainBack_109 : decode cX1_chainBack 109 = .ok (.iaload, 1) := by decide +kernel
theorem dX1_chainBack_110 : decode cX1_chainBack 110 = .ok (.ixor, 1) := by decide +kernel
theorem dX1_chainBack_111 : decode cX1_chainBack 111 = .ok (.invokevirtual 25, 3) := by decide +kernel
theorem dX1_chainBack_114 : decode cX1_chainBack 114 = .ok (.aload_n 0, 1) := by decide +kernel
theorem dX1_chainBack_115 : decode cX1_chainBack 115 = .ok (.getfield 13, 3) := by decide +kernel
theorem dX1_chainBack_118 : decode cX1_chainBack 118 = .ok (.iload 5, 2) := by decide +kernel
theorem dX1_chainBack_120 : decode cX1_chainBack 120 = .ok (.iload 6, 2) := by decide +kernel
theorem dX1_chainBack_122 : decode cX1_chainBack 122 = .ok (.iastore, 1) := by decide +kernel
theorem dX1_chainBack_123 : decode cX1_chainBack 123 = .ok (.iinc 5 1, 3) := by decide +kernel
theorem dX1_chainBack_126 : decode cX1_chainBack 126 = .ok (.goto (-71), 3) := by decide +kernel
theorem dX1_chainBack_129 : decode cX1_chainBack 129 = .ok (.iload 4, 2) := by decide +kernel
theorem dX1_chainBack_131 : decode cX1_chainBack 131 = .ok (.aload_n 0, 1) := by decide +kernel
theorem dX1_chainBack_132 : decode cX1_chainBack 132 = .ok (.getfield 7, 3) := by decide +kernel
theorem dX1_chainBack_135 : decode cX1_chainBack 135 = .ok (.arraylength, 1) := by decide +kernel
theorem dX1_chainBack_136 : decode cX1_chainBack 136 = .ok (.iadd, 1) := by decide +kernel
theorem dX1_chainBack_137 : decode cX1_chainBack 137 = .ok (.istore 4, 2) := by decide +kernel
theorem dX1_chainBack_139 : decode cX1_chainBack 139 = .ok (.goto (-136), 3) := by decide +kernel
theorem dX1_chainBack_142 : decode cX1_chainBack 142 = .ok (.return_, 1) := by decide +kernel
set_option maxHeartbeats 4000000 in
set_option maxRecDepth 100000 in
theorem ct_X1_chainBack_D (ll : Launch) (D : va_G) (ta : Nat → ClassId) (gs : Nat → Nat) (ha : Nat) (b1 : Nat) (b2 : Nat) (b3 : Nat) (b4 : Nat) (b5 : Nat) (tri : Bool) (gb : Nat → BitVec 8) (bf : Nat → BitVec 8) (f : Nat → Int64) (s : Nat → Int64) (spb : Nat → Int32) (K : Bytes) (hr : Nat) (br : Nat) (capr : Nat) (gr : Nat → BitVec 8) (n : Nat) (f0 : Nat) (t0 : Nat) (m : Nat) (hsp : spbOK spb) (hkf : dkS f (K.take 8)) (hks : tri = true → dkS s (K.drop 8)) (hn : n ≤ capr) (hcr : capr < 2147483648) (ht : t0 = f0 + 8 * m) (htn : t0 ≤ n) (sz : Nat) : CT ll yX1_chainBack cX1_chainBack 7 none ({ frames := 2, cells := 0, slots := 0, locals := 56 } : Room) D ta ((GC gs)) [.ref ha, .ref hr, .int (nI f0), .int (nI t0)] [(ha, oD b1 b2 b3 b4 b5 tri), (b1, aZ ta 8 gb), (b2, aZ ta 8 bf), (b3, aI ta 512 spb), (b4, aJ ta 16 f), (b5, aJ ta 16 s), (hr, oR br n), (br, aZ ta capr gr)] sz (S := (Nat → BitVec 8) × (Nat → BitVec 8) × (Nat → BitVec 8)) (fun _ => none) (fun u => (qSeg u.2.2 gr f0 (8 * m) (decF (cE tri K true) 8 (qL bf 8) (seg gr f0 (8 * m))))) (fun u => [(ha, oD b1 b2 b3 b4 b5 tri), (b1, aZ ta 8 u.1), (b2, aZ ta 8 u.2.1), (b3, aI ta 512 spb), (b4, aJ ta 16 f), (b5, aJ ta 16 s), (hr, oR br n), (br, aZ ta capr u.2.2)]) 0 0 := by
  refine CT.of_v rfl (by decide) (Nat.le_of_ble_eq_true rfl) ?_
  have hGok := GC_ok gs
  intro pp ee ss mm below meth kc A Q hx hb hml hown hin hts hK hA hsz hG hret H locs hP hD hS ls hl
  have hl : lv_has ls 7 [(0, .ref ha), (1, .ref hr), (2, .int (nI f0)), (3, .int (nI t0))] := hl
  refine lv_iload_n (pc := 0) hx hb dX1_chainBack_0 rfl (lv_at hl 2 rfl) ?_
  refine lv_istore (pc := 1) (lv' := [(4, .int (nI f0)), (0, .ref ha), (1, .ref hr), (2, .int (nI f0)), (3, .int (nI t0))]) hx hb dX1_chainBack_1 hl (by decide) rfl (fun ls hl => ?_)
  have LP3 : ∀ (nn3 : Nat) (c : Nat) (g' : Nat → BitVec 8) (b' : Nat → BitVec 8) (r' : Nat → BitVec 8), (c ≤ m) → (qSeg r' gr f0 (8 * c) (decF (cE tri K true) 8 (qL bf 8) (seg gr f0 (8 * m)))) → (qL b' 8 = if c = 0 then (qL bf 8) else seg gr (f0 + 8 * (c - 1)) 8) → (m - c < nn3) → ∀ (H : Heap) (locs : List Loc), va_P D vwCl [(ha, oD b1 b2 b3 b4 b5 tri), (b1, aZ ta 8 g'), (b2, aZ ta 8 b'), (b3, aI ta 512 spb), (b4, aJ ta 16 f), (b5, aJ ta 16 s), (hr, oR br n), (br, aZ ta capr r')] H → va_D A [(ha, oD b1 b2 b3 b4 b5 tri), (b1, aZ ta 8 g'), (b2, aZ ta 8 b'), (b3, aI ta 512 spb), (b4, aJ ta 16 f), (b5, aJ ta 16 s), (hr, oR br n), (br, aZ ta capr r')] → va_S A ss.heap H locs → ∀ ls : Array Slot, lv_has ls 7 [(4, .int (nI (f0 + 8 * c))), (0, .ref ha), (1, .ref hr), (2, .int (nI f0)), (3, .int (nI t0))] → W pp ll ee ({ frames := 2, cells := 0, slots := 0, locals := 56 } : Room) ss mm (([.ref ha, .ref hr, .int (nI f0), .int (nI t0)] : List Value).toArray) below meth kc H locs 0 0 Q (F0 mm 3 ls []) := by
    intro nn3
    induction nn3 with
    | zero => intro c g' b' r' hcc hr1 hb1 hmu; exact absurd hmu (Nat.not_lt_zero _)
    | succ nn3 ih3 =>
      intro c g' b' r' hcc hr1 hb1 hmu3 H locs hP hD hS ls hl
      refine lv_iload (pc := 3) hx hb dX1_chainBack_3 (lv_at hl 0 rfl) ?_
      refine lv_iload_n (pc := 5) hx hb dX1_chainBack_5 rfl (lv_at hl 4 rfl) ?_
      refine lv_icmp_ge (pc := 6) (tgt := 142) hx hb dX1_chainBack_6 (by decide) (fun c_1 => ?_) (fun c_1 => ?_)
      · skip
        rw [nI_leI (by omega) (by omega)] at c_1
        have hq_2 : (qSeg r' gr f0 (8 * m) (decF (cE tri K true) 8 (qL bf 8) (seg gr f0 (8 * m)))) := by
          have ec : c = m := by omega
          subst ec
          exact hr1
        exact hret (⟨(g'), (b'), (r')⟩ : (Nat → BitVec 8) × (Nat → BitVec 8) × (Nat → BitVec 8)) _ _ _ _ dX1_chainBack_142 hq_2 (hP.sub [0, 1, 2, 3, 4, 5, 6, 7] rfl) (hD.sub [0, 1, 2, 3, 4, 5, 6, 7] (by decide) rfl) hS
      · skip
        rw [nI_leI (by omega) (by omega)] at c_1
        refine lv_iconst (pc := 9) (v := nI 0) hx hb dX1_chainBack_9 (by decide +kernel) ?_
        refine lv_istore (pc := 10) (lv' := [(5, .int (nI 0)), (4, .int (nI (f0 + 8 * c))), (0, .ref ha), (1, .ref hr), (2, .int (nI f0)), (3, .int (nI t0))]) hx hb dX1_chainBack_10 hl (by decide) rfl (fun ls hl => ?_)
        have LP12 : ∀ (nn12 : Nat) (d : Nat) (d' : Nat → BitVec 8), (d ≤ 8) → (qSeg d' g' 0 d (fun k => gr (f0 + 8 * c + k))) → (8 - d < nn12) → ∀ (H : Heap) (locs : List Loc), va_P D vwCl [(ha, oD b1 b2 b3 b4 b5 tri), (b1, aZ ta 8 d'), (b2, aZ ta 8 b'), (b3, aI ta 512 spb), (b4, aJ ta 16 f), (b5, aJ ta 16 s), (hr, oR br n), (br, aZ ta capr r')] H → va_D A [(ha, oD b1 b2 b3 b4 b5 tri), (b1, aZ ta 8 d'), (b2, aZ ta 8 b'), (b3, aI ta 512 spb), (b4, aJ ta 16 f), (b5, aJ ta 16 s), (hr, oR br n), (br, aZ ta capr r')] → va_S A ss.heap H locs → ∀ ls : Array Slot, lv_has ls 7 [(5, .int (nI d)), (4, .int (nI (f0 + 8 * c))), (0, .ref ha), (1, .ref hr), (2, .int (nI f0)), (3, .int (nI t0))] → W pp ll ee ({ frames := 2, cells := 0, slots := 0, locals := 56 } : Room) ss mm (([.ref ha, .ref hr, .int (nI f0), .int (nI t0)] : List Value).toArray) below meth kc H locs 0 0 Q (F0 mm 12 ls []) := by
          intro nn12
          induction nn12 with
          | zero => intro d d' hdd hd hmu; exact absurd hmu (Nat.not_lt_zero _)
          | succ nn12 ih12 =>
            intro d d' hdd hd hmu12 H locs hP hD hS ls hl
            refine lv_iload (pc := 12) hx hb dX1_chainBack_12 (lv_at hl 0 rfl) ?_
            refine lv_aload_n (pc := 14) hx hb dX1_chainBack_14 rfl (lv_at hl 2 rfl) ?_
            refine va_get (pc := 15) (D := D) (ci := 1) (v := .ref b1) (C := RX2) (T := TX2) (N := 6) hx hb hts iu2 hown hK hP 0 rfl rfl 0 (by decide) (hts _ tw_249) (fun _ h9 => h9) rfl dX1_chainBack_15 ?_
            refine va_alen (pc := 18) hx hb hK hP 1 0 rfl rfl (v := nI 8) rfl dX1_chainBack_18 ?_
            refine lv_icmp_ge (pc := 19) (tgt := 48) hx hb dX1_chainBack_19 (by decide) (fun c_3 => ?_) (fun c_3 => ?_)
            · skip
              rw [nI_leI (by omega) (by omega)] at c_3
              refine lv_aload_n (pc := 48) hx hb dX1_chainBack_48 rfl (lv_at hl 2 rfl) ?_
              refine cs_U (pc := 49) (idx := 29) (n := 0) (wr := [(b2, aZ ta 8 b'), (hr, oR br n), (br, aZ ta capr r')]) (As := []) (rest := []) (ci := 1) (x := ⟨"LineGuard$BlockCipher", "back", "()V"⟩) (owner := "LineGuard$BlockCipher") hx hb hml hown hts hGok hK hA hG hl.1 hP hD hS (ct_X2_back_L ll D ta gs ha b1 b2 b3 b4 b5 tri d' f s spb K (by first | assumption | omega | rfl | decide) (by first | assumption | omega | rfl | decide) (by first | assumption | omega | rfl | decide) H.size) tw_830 tw_818 tw_829 tw_828 tw_72 tw_820 (va_Decl.abs (GC_w819 hG)) ⟨by decide +kernel, by decide +kernel, by decide +kernel⟩ rfl ⟨rfl, rfl, Nat.le_of_ble_eq_true rfl, Nat.le_of_ble_eq_true rfl, Nat.le_of_ble_eq_true rfl, Nat.le_of_ble_eq_true rfl⟩ rfl (q0 := 0) rfl [0, 1, 3, 4, 5] [2, 6, 7] rfl rfl (by decide) rfl (Nat.le_of_ble_eq_true rfl) dX1_chainBack_49 (fun u H locs hq hP hD hS => ?_)
              generalize u = gb1_49 at hq hP hD ⊢
              have hq : (qL gb1_49 8 = cE tri K true (qL d' 8)) := hq
              have hs_49 := hq
              refine W.eq (g2 := F0 mm 52 ls []) rfl ?_
              have hP : va_P D vwCl [(b2, aZ ta 8 b'), (hr, oR br n), (br, aZ ta capr r'), (ha, oD b1 b2 b3 b4 b5 tri), (b1, aZ ta 8 gb1_49), (b3, aI ta 512 spb), (b4, aJ ta 16 f), (b5, aJ ta 16 s)] H := hP
              have hD : va_D A [(b2, aZ ta 8 b'), (hr, oR br n), (br, aZ ta capr r'), (ha, oD b1 b2 b3 b4 b5 tri), (b1, aZ ta 8 gb1_49), (b3, aI ta 512 spb), (b4, aJ ta 16 f), (b5, aJ ta 16 s)] := hD
              have hB := hs_49
              rw [← seg_0 (g := d'), qSeg_segk hd (by omega)] at hB
              refine lv_iconst (pc := 52) (v := nI 0) hx hb dX1_chainBack_52 (by decide +kernel) ?_
              refine lv_istore (pc := 53) (lv' := [(5, .int (nI 0)), (4, .int (nI (f0 + 8 * c))), (0, .ref ha), (1, .ref hr), (2, .int (nI f0)), (3, .int (nI t0))]) hx hb dX1_chainBack_53 hl (by decide) rfl (fun ls hl => ?_)
              have LP55 : ∀ (nn55 : Nat) (e : Nat) (e' : Nat → BitVec 8) (c' : Nat → BitVec 8), (e ≤ 8) → (qSeg e' gr f0 (8 * c + e) (decF (cE tri K true) 8 (qL bf 8) (seg gr f0 (8 * m)))) → (qSeg c' b' 0 e (fun k => gr (f0 + 8 * c + k))) → (8 - e < nn55) → ∀ (H : Heap) (locs : List Loc), va_P D vwCl [(b2, aZ ta 8 c'), (hr, oR br n), (br, aZ ta capr e'), (ha, oD b1 b2 b3 b4 b5 tri), (b1, aZ ta 8 gb1_49), (b3, aI ta 512 spb), (b4, aJ ta 16 f), (b5, aJ ta 16 s)] H → va_D A [(b2, aZ ta 8 c'), (hr, oR br n), (br, aZ ta capr e'), (ha, oD b1 b2 b3 b4 b5 tri), (b1, aZ ta 8 gb1_49), (b3, aI ta 512 spb), (b4, aJ ta 16 f), (b5, aJ ta 16 s)] → va_S A ss.heap H locs → ∀ ls : Array Slot, lv_has ls 7 [(5, .int (nI e)), (4, .int (nI (f0 + 8 * c))), (0, .ref ha), (1, .ref hr), (2, .int (nI f0)), (3, .int (nI t0))] → W pp ll ee ({ frames := 2, cells := 0, slots := 0, locals := 56 } : Room) ss mm (([.ref ha, .ref hr, .int (nI f0), .int (nI t0)] : List Value).toArray) below meth kc H locs 0 0 Q (F0 mm 55 ls []) := by
                intro nn55
                induction nn55 with
                | zero => intro e e' c' hee hr2 hb2 hmu; exact absurd hmu (Nat.not_lt_zero _)
                | succ nn55 ih55 =>
                  intro e e' c' hee hr2 hb2 hmu55 H locs hP hD hS ls hl
                  refine lv_iload (pc := 55) hx hb dX1_chainBack_55 (lv_at hl 0 rfl) ?_
                  refine lv_aload_n (pc := 57) hx hb dX1_chainBack_57 rfl (lv_at hl 2 rfl) ?_
                  refine va_get (pc := 58) (D := D) (ci := 1) (v := .ref b1) (C := RX2) (T := TX2) (N := 6) hx hb hts iu2 hown hK hP 3 rfl rfl 0 (by decide) (hts _ tw_249) (fun _ h9 => h9) rfl dX1_chainBack_58 ?_
                  refine va_alen (pc := 61) hx hb hK hP 4 0 rfl rfl (v := nI 8) rfl dX1_chainBack_61 ?_
                  refine lv_icmp_ge (pc := 62) (tgt := 129) hx hb dX1_chainBack_62 (by decide) (fun c_4 => ?_) (fun c_4 => ?_)
                  · skip
                    rw [nI_leI (by omega) (by omega)] at c_4
                    refine lv_iload (pc := 129) hx hb dX1_chainBack_129 (lv_at hl 1 rfl) ?_
                    refine lv_aload_n (pc := 131) hx hb dX1_chainBack_131 rfl (lv_at hl 2 rfl) ?_
                    refine va_get (pc := 132) (D := D) (ci := 1) (v := .ref b1) (C := RX2) (T := TX2) (N := 6) hx hb hts iu2 hown hK hP 3 rfl rfl 0 (by decide) (hts _ tw_249) (fun _ h9 => h9) rfl dX1_chainBack_132 ?_
                    refine va_alen (pc := 135) hx hb hK hP 4 0 rfl rfl (v := nI 8) rfl dX1_chainBack_135 ?_
                    refine lv_iadd (pc := 136) hx hb dX1_chainBack_136 ?_
                    refine q_top (y := nI (f0 + 8 * c + 8)) (nI_add (f0 + 8 * c) 8) ?_
                    refine lv_istore (pc := 137) (lv' := [(4, .int (nI (f0 + 8 * c + 8))), (5, .int (nI e)), (0, .ref ha), (1, .ref hr), (2, .int (nI f0)), (3, .int (nI t0))]) hx hb dX1_chainBack_137 hl (by decide) rfl (fun ls hl => ?_)
                    refine lv_goto (pc := 139) (tgt := 3) hx hb dX1_chainBack_139 (by decide) ?_
                    exact ih3 (c + 1) gb1_49 c' e' (by omega) (by rw [show 8 * (c + 1) = 8 * c + e by omega]; exact hr2) (by rw [if_neg (by omega), ← seg_0, qSeg_segk hb2 (by omega)]; rfl) (by omega) _ _ (hP.sub [3, 4, 0, 5, 6, 7, 1, 2] rfl) (hD.sub [3, 4, 0, 5, 6, 7, 1, 2] (by decide) rfl) hS ls (lv_sub hl [0, 2, 3, 4, 5] rfl)
                  · skip
                    rw [nI_leI (by omega) (by omega)] at c_4
                    refine lv_iload (pc := 65) hx hb dX1_chainBack_65 (lv_at hl 0 rfl) ?_
                    refine lv_aload_n (pc := 67) hx hb dX1_chainBack_67 rfl (lv_at hl 2 rfl) ?_
                    refine va_get (pc := 68) (D := D) (ci := 1) (v := .ref b2) (C := RX2) (T := TX2) (N := 6) hx hb hts iu2 hown hK hP 3 rfl rfl 1 (by decide) (hts _ tw_254) (fun _ h9 => h9) rfl dX1_chainBack_68 ?_
                    refine va_alen (pc := 71) hx hb hK hP 0 0 rfl rfl (v := nI 8) rfl dX1_chainBack_71 ?_
                    refine lv_icmp_ge (pc := 72) (tgt := 129) hx hb dX1_chainBack_72 (by decide) (fun c_5 => ?_) (fun c_5 => ?_)
                    · skip
                      rw [nI_leI (by omega) (by omega)] at c_5
                      refine lv_iload (pc := 129) hx hb dX1_chainBack_129 (lv_at hl 1 rfl) ?_
                      refine lv_aload_n (pc := 131) hx hb dX1_chainBack_131 rfl (lv_at hl 2 rfl) ?_
                      refine va_get (pc := 132) (D := D) (ci := 1) (v := .ref b1) (C := RX2) (T := TX2) (N := 6) hx hb hts iu2 hown hK hP 3 rfl rfl 0 (by decide) (hts _ tw_249) (fun _ h9 => h9) rfl dX1_chainBack_132 ?_
                      refine va_alen (pc := 135) hx hb hK hP 4 0 rfl rfl (v := nI 8) rfl dX1_chainBack_135 ?_
                      refine lv_iadd (pc := 136) hx hb dX1_chainBack_136 ?_
                      refine q_top (y := nI (f0 + 8 * c + 8)) (nI_add (f0 + 8 * c) 8) ?_
                      refine lv_istore (pc := 137) (lv' := [(4, .int (nI (f0 + 8 * c + 8))), (5, .int (nI e)), (0, .ref ha), (1, .ref hr), (2, .int (nI f0)), (3, .int (nI t0))]) hx hb dX1_chainBack_137 hl (by decide) rfl (fun ls hl => ?_)
                      refine lv_goto (pc := 139) (tgt := 3) hx hb dX1_chainBack_139 (by decide) ?_
                      exact ih3 (c + 1) gb1_49 c' e' (by omega) (by rw [show 8 * (c + 1) = 8 * c + e by omega]; exact hr2) (by rw [if_neg (by omega), ← seg_0, qSeg_segk hb2 (by omega)]; rfl) (by omega) _ _ (hP.sub [3, 4, 0, 5, 6, 7, 1, 2] rfl) (hD.sub [3, 4, 0, 5, 6, 7, 1, 2] (by decide) rfl) hS ls (lv_sub hl [0, 2, 3, 4, 5] rfl)
                    · skip
                      rw [nI_leI (by omega) (by omega)] at c_5
                      refine lv_aload_n (pc := 75) hx hb dX1_chainBack_75 rfl (lv_at hl 3 rfl) ?_
                      refine lv_iload (pc := 76) hx hb dX1_chainBack_76 (lv_at hl 1 rfl) ?_
                      refine lv_iload (pc := 78) hx hb dX1_chainBack_78 (lv_at hl 0 rfl) ?_
                      refine lv_iadd (pc := 80) hx hb dX1_chainBack_80 ?_
                      refine q_top (y := nI (f0 + 8 * c + e)) (nI_add (f0 + 8 * c) e) ?_
                      refine cs_V (pc := 81) (idx := 16) (n := 1) (wr := [(b2, aZ ta 8 c'), (ha, oD b1 b2 b3 b4 b5 tri), (b1, aZ ta 8 gb1_49), (b3, aI ta 512 spb), (b4, aJ ta 16 f), (b5, aJ ta 16 s)]) (As := [.int (nI (f0 + 8 * c + e))]) (rest := []) (ci := 5) hx hb hml hown hts hGok hK hA hG hl.1 hP hD hS (ct_X6_at_in ll D ta hGok hr br capr e' n (f0 + 8 * c + e) (by first | assumption | omega | rfl | decide) (by first | assumption | omega | rfl | decide) (by first | assumption | omega | rfl | decide) H.size) tw_413 tw_528 tw_411 tw_412 tw_66 hdX6_at rfl ⟨rfl, rfl, Nat.le_of_ble_eq_true rfl, Nat.le_of_ble_eq_true rfl, Nat.le_of_ble_eq_true rfl, Nat.le_of_ble_eq_true rfl⟩ rfl rfl (q0 := 1) rfl [1, 2] [0, 3, 4, 5, 6, 7] rfl rfl (by decide) rfl (Nat.le_of_ble_eq_true rfl) dX1_chainBack_81 (fun u H locs hq hP hD hS => ?_)
                      refine W.eq (g2 := F0 mm 84 ls [.int (qz (e' (f0 + 8 * c + e)))]) rfl ?_
                      have hP : va_P D vwCl [(b2, aZ ta 8 c'), (ha, oD b1 b2 b3 b4 b5 tri), (b1, aZ ta 8 gb1_49), (b3, aI ta 512 spb), (b4, aJ ta 16 f), (b5, aJ ta 16 s), (hr, oR br n), (br, aZ ta capr e')] H := hP
                      have hD : va_D A [(b2, aZ ta 8 c'), (ha, oD b1 b2 b3 b4 b5 tri), (b1, aZ ta 8 gb1_49), (b3, aI ta 512 spb), (b4, aJ ta 16 f), (b5, aJ ta 16 s), (hr, oR br n), (br, aZ ta capr e')] := hD
                      refine lv_sipush (pc := 84) (v := nI 255) hx hb dX1_chainBack_84 (by decide +kernel) ?_
                      refine lv_iand (pc := 87) hx hb dX1_chainBack_87 ?_
                      refine q_top (y := qz (e' (f0 + 8 * c + e))) (q_and255z _) ?_
                      refine lv_istore (pc := 88) (lv' := [(6, .int (qz (e' (f0 + 8 * c + e)))), (5, .int (nI e)), (4, .int (nI (f0 + 8 * c))), (0, .ref ha), (1, .ref hr), (2, .int (nI f0)), (3, .int (nI t0))]) hx hb dX1_chainBack_88 hl (by decide) rfl (fun ls hl => ?_)
                      refine lv_aload_n (pc := 90) hx hb dX1_chainBack_90 rfl (lv_at hl 4 rfl) ?_
                      refine lv_iload (pc := 91) hx hb dX1_chainBack_91 (lv_at hl 2 rfl) ?_
                      refine lv_iload (pc := 93) hx hb dX1_chainBack_93 (lv_at hl 1 rfl) ?_
                      refine lv_iadd (pc := 95) hx hb dX1_chainBack_95 ?_
                      refine q_top (y := nI (f0 + 8 * c + e)) (nI_add (f0 + 8 * c) e) ?_
                      refine lv_aload_n (pc := 96) hx hb dX1_chainBack_96 rfl (lv_at hl 3 rfl) ?_
                      refine va_get (pc := 97) (D := D) (ci := 1) (v := .ref b1) (C := RX2) (T := TX2) (N := 6) hx hb hts iu2 hown hK hP 1 rfl rfl 0 (by decide) (hts _ tw_249) (fun _ h9 => h9) rfl dX1_chainBack_97 ?_
                      refine lv_iload (pc := 100) hx hb dX1_chainBack_100 (lv_at hl 1 rfl) ?_
                      refine q_iald (pc := 102) hx hb hK hP 2 0 rfl rfl (k := e) (v := qz (gb1_49 e)) rfl (by omega) (by omega) rfl dX1_chainBack_102 ?_
                      refine lv_aload_n (pc := 103) hx hb dX1_chainBack_103 rfl (lv_at hl 3 rfl) ?_
                      refine va_get (pc := 104) (D := D) (ci := 1) (v := .ref b2) (C := RX2) (T := TX2) (N := 6) hx hb hts iu2 hown hK hP 1 rfl rfl 1 (by decide) (hts _ tw_254) (fun _ h9 => h9) rfl dX1_chainBack_104 ?_
                      refine lv_iload (pc := 107) hx hb dX1_chainBack_107 (lv_at hl 1 rfl) ?_
                      refine q_iald (pc := 109) hx hb hK hP 0 0 rfl rfl (k := e) (v := qz (c' e)) rfl (by omega) (by omega) rfl dX1_chainBack_109 ?_
                      refine lv_ixor (pc := 110) hx hb dX1_chainBack_110 ?_
                      refine q_top (y := qz ((gb1_49 e) ^^^ (c' e))) (q_xor_z _ _) ?_
                      refine cs_V (pc := 111) (idx := 25) (n := 2) (wr := [(b2, aZ ta 8 c'), (ha, oD b1 b2 b3 b4 b5 tri), (b1, aZ ta 8 gb1_49), (b3, aI ta 512 spb), (b4, aJ ta 16 f), (b5, aJ ta 16 s)]) (As := [.int (nI (f0 + 8 * c + e)), .int (qz ((gb1_49 e) ^^^ (c' e)))]) (rest := []) (ci := 5) hx hb hml hown hts hGok hK hA hG hl.1 hP hD hS (ct_X6_put ll D ta hGok hr br capr e' n (f0 + 8 * c + e) (qz ((gb1_49 e) ^^^ (c' e))) (by first | assumption | omega | rfl | decide) (by first | assumption | omega | rfl | decide) (by first | assumption | omega | rfl | decide) H.size) tw_425 tw_585 tw_423 tw_424 tw_66 hdX6_put rfl ⟨rfl, rfl, Nat.le_of_ble_eq_true rfl, Nat.le_of_ble_eq_true rfl, Nat.le_of_ble_eq_true rfl, Nat.le_of_ble_eq_true rfl⟩ rfl rfl (q0 := 6) rfl [6, 7] [0, 1, 2, 3, 4, 5] rfl rfl (by decide) rfl (Nat.le_of_ble_eq_true rfl) dX1_chainBack_111 (fun u H locs hq hP hD hS => ?_)
                      generalize u = g1_111 at hq hP hD ⊢
                      have hq : (g1_111 = qU e' (f0 + 8 * c + e) (qlo (qz ((gb1_49 e) ^^^ (c' e))))) := hq
                      have hg_111 := hq
                      refine W.eq (g2 := F0 mm 114 ls []) rfl ?_
                      have hP : va_P D vwCl [(b2, aZ ta 8 c'), (ha, oD b1 b2 b3 b4 b5 tri), (b1, aZ ta 8 gb1_49), (b3, aI ta 512 spb), (b4, aJ ta 16 f), (b5, aJ ta 16 s), (hr, oR br n), (br, aZ ta capr g1_111)] H := hP
                      have hD : va_D A [(b2, aZ ta 8 c'), (ha, oD b1 b2 b3 b4 b5 tri), (b1, aZ ta 8 gb1_49), (b3, aI ta 512 spb), (b4, aJ ta 16 f), (b5, aJ ta 16 s), (hr, oR br n), (br, aZ ta capr g1_111)] := hD
                      refine lv_aload_n (pc := 114) hx hb dX1_chainBack_114 rfl (lv_at hl 3 rfl) ?_
                      refine va_get (pc := 115) (D := D) (ci := 1) (v := .ref b2) (C := RX2) (T := TX2) (N := 6) hx hb hts iu2 hown hK hP 1 rfl rfl 1 (by decide) (hts _ tw_254) (fun _ h9 => h9) rfl dX1_chainBack_115 ?_
                      refine lv_iload (pc := 118) hx hb dX1_chainBack_118 (lv_at hl 1 rfl) ?_
                      refine lv_iload (pc := 120) hx hb dX1_chainBack_120 (lv_at hl 0 rfl) ?_
                      refine q_iastZ (pc := 122) hx hb hK hP hD hS 0 0 rfl rfl (k := e) rfl (by omega) (by omega) (b := e' (f0 + 8 * c + e)) rfl dX1_chainBack_122 (fun H locs hP hD hS => ?_)
                      have hP : va_P D vwCl [(b2, aZ ta 8 (qU c' e (e' (f0 + 8 * c + e)))), (ha, oD b1 b2 b3 b4 b5 tri), (b1, aZ ta 8 gb1_49), (b3, aI ta 512 spb), (b4, aJ ta 16 f), (b5, aJ ta 16 s), (hr, oR br n), (br, aZ ta capr g1_111)] H := hP
                      have hD : va_D A [(b2, aZ ta 8 (qU c' e (e' (f0 + 8 * c + e)))), (ha, oD b1 b2 b3 b4 b5 tri), (b1, aZ ta 8 gb1_49), (b3, aI ta 512 spb), (b4, aJ ta 16 f), (b5, aJ ta 16 s), (hr, oR br n), (br, aZ ta capr g1_111)] := hD
                      refine lv_iinc (pc := 123) (v := nI (e + 1)) (lv' := [(5, .int (nI (e + 1))), (6, .int (qz (e' (f0 + 8 * c + e)))), (4, .int (nI (f0 + 8 * c))), (0, .ref ha), (1, .ref hr), (2, .int (nI f0)), (3, .int (nI t0))]) hx hb dX1_chainBack_123 hl (k := 1) rfl (by first | exact nI_add e 1 | rfl) (by decide) rfl (fun ls hl => ?_)
                      refine lv_goto (pc := 126) (tgt := 55) hx hb dX1_chainBack_126 (by decide) ?_
                      exact ih55 (e + 1) g1_111 (qU c' e (e' (f0 + 8 * c + e))) (by omega) (by rw [hg_111, hb2.2 _ (by omega)]; exact dec_put (by omega) (by omega) hr2 hB hb1 (by omega) (qlo_qz _)) (qSeg_s hb2 (by omega) (by rw [hr2.2 _ (by omega)])) (by omega) _ _ (hP.sub [0, 6, 7, 1, 2, 3, 4, 5] rfl) (hD.sub [0, 6, 7, 1, 2, 3, 4, 5] (by decide) rfl) hS ls (lv_sub hl [0, 2, 3, 4, 5, 6] rfl)
              exact LP55 _ 0 r' b' (by omega) (hr1) (qSeg_0) (Nat.lt_succ_self _) _ _ (hP.sub [0, 1, 2, 3, 4, 5, 6, 7] rfl) (hD.sub [0, 1, 2, 3, 4, 5, 6, 7] (by decide) rfl) hS ls (lv_sub hl [0, 1, 2, 3, 4, 5] rfl)
            · skip
              rw [nI_leI (by omega) (by omega)] at c_3
              refine lv_aload_n (pc := 22) hx hb dX1_chainBack_22 rfl (lv_at hl 2 rfl) ?_
              refine va_get (pc := 23) (D := D) (ci := 1) (v := .ref b1) (C := RX2) (T := TX2) (N := 6) hx hb hts iu2 hown hK hP 0 rfl rfl 0 (by decide) (hts _ tw_249) (fun _ h9 => h9) rfl dX1_chainBack_23 ?_
              refine lv_iload (pc := 26) hx hb dX1_chainBack_26 (lv_at hl 0 rfl) ?_
              refine lv_aload_n (pc := 28) hx hb dX1_chainBack_28 rfl (lv_at hl 3 rfl) ?_
              refine lv_iload (pc := 29) hx hb dX1_chainBack_29 (lv_at hl 1 rfl) ?_
              refine lv_iload (pc := 31) hx hb dX1_chainBack_31 (lv_at hl 0 rfl) ?_
              refine lv_iadd (pc := 33) hx hb dX1_chainBack_33 ?_
              refine q_top (y := nI (f0 + 8 * c + d)) (nI_add (f0 + 8 * c) d) ?_
              refine cs_V (pc := 34) (idx := 16) (n := 1) (wr := [(ha, oD b1 b2 b3 b4 b5 tri), (b1, aZ ta 8 d'), (b2, aZ ta 8 b'), (b3, aI ta 512 spb), (b4, aJ ta 16 f), (b5, aJ ta 16 s)]) (As := [.int (nI (f0 + 8 * c + d))]) (rest := [.int (nI d), .ref b1]) (ci := 5) hx hb hml hown hts hGok hK hA hG hl.1 hP hD hS (ct_X6_at_in ll D ta hGok hr br capr r' n (f0 + 8 * c + d) (by first | assumption | omega | rfl | decide) (by first | assumption | omega | rfl | decide) (by first | assumption | omega | rfl | decide) H.size) tw_413 tw_528 tw_411 tw_412 tw_66 hdX6_at rfl ⟨rfl, rfl, Nat.le_of_ble_eq_true rfl, Nat.le_of_ble_eq_true rfl, Nat.le_of_ble_eq_true rfl, Nat.le_of_ble_eq_true rfl⟩ rfl rfl (q0 := 6) rfl [6, 7] [0, 1, 2, 3, 4, 5] rfl rfl (by decide) rfl (Nat.le_of_ble_eq_true rfl) dX1_chainBack_34 (fun u H locs hq hP hD hS => ?_)
              refine W.eq (g2 := F0 mm 37 ls [.int (qz (r' (f0 + 8 * c + d))), .int (nI d), .ref b1]) rfl ?_
              have hP : va_P D vwCl [(ha, oD b1 b2 b3 b4 b5 tri), (b1, aZ ta 8 d'), (b2, aZ ta 8 b'), (b3, aI ta 512 spb), (b4, aJ ta 16 f), (b5, aJ ta 16 s), (hr, oR br n), (br, aZ ta capr r')] H := hP
              have hD : va_D A [(ha, oD b1 b2 b3 b4 b5 tri), (b1, aZ ta 8 d'), (b2, aZ ta 8 b'), (b3, aI ta 512 spb), (b4, aJ ta 16 f), (b5, aJ ta 16 s), (hr, oR br n), (br, aZ ta capr r')] := hD
              refine lv_sipush (pc := 37) (v := nI 255) hx hb dX1_chainBack_37 (by decide +kernel) ?_
              refine lv_iand (pc := 40) hx hb dX1_chainBack_40 ?_
              refine q_top (y := qz (r' (f0 + 8 * c + d))) (q_and255z _) ?_
              refine q_iastZ (pc := 41) hx hb hK hP hD hS 1 0 rfl rfl (k := d) rfl (by omega) (by omega) (b := r' (f0 + 8 * c + d)) rfl dX1_chainBack_41 (fun H locs hP hD hS => ?_)
              have hP : va_P D vwCl [(ha, oD b1 b2 b3 b4 b5 tri), (b1, aZ ta 8 (qU d' d (r' (f0 + 8 * c + d)))), (b2, aZ ta 8 b'), (b3, aI ta 512 spb), (b4, aJ ta 16 f), (b5, aJ ta 16 s), (hr, oR br n), (br, aZ ta capr r')] H := hP
              have hD : va_D A [(ha, oD b1 b2 b3 b4 b5 tri), (b1, aZ ta 8 (qU d' d (r' (f0 + 8 * c + d)))), (b2, aZ ta 8 b'), (b3, aI ta 512 spb), (b4, aJ ta 16 f), (b5, aJ ta 16 s), (hr, oR br n), (br, aZ ta capr r')] := hD
              refine lv_iinc (pc := 42) (v := nI (d + 1)) (lv' := [(5, .int (nI (d + 1))), (4, .int (nI (f0 + 8 * c))), (0, .ref ha), (1, .ref hr), (2, .int (nI f0)), (3, .int (nI t0))]) hx hb dX1_chainBack_42 hl (k := 0) rfl (by first | exact nI_add d 1 | rfl) (by decide) rfl (fun ls hl => ?_)
              refine lv_goto (pc := 45) (tgt := 12) hx hb dX1_chainBack_45 (by decide) ?_
              exact ih12 (d + 1) (qU d' d (r' (f0 + 8 * c + d))) (by omega) (qSeg_s hd (by omega) (by rw [hr1.2 _ (by omega)])) (by omega) _ _ (hP.sub [0, 1, 2, 3, 4, 5, 6, 7] rfl) (hD.sub [0, 1, 2, 3, 4, 5, 6, 7] (by decide) rfl) hS ls (lv_sub hl [0, 1, 2, 3, 4, 5] rfl)
        exact LP12 _ 0 g' (by omega) (qSeg_0) (Nat.lt_succ_self _) _ _ (hP.sub [0, 1, 2, 3, 4, 5, 6, 7] rfl) (hD.sub [0, 1, 2, 3, 4, 5, 6, 7] (by decide) rfl) hS ls (lv_sub hl [0, 1, 2, 3, 4, 5] rfl)
  exact LP3 _ 0 gb bf gr (by omega) (qSeg_0) (rfl) (Nat.lt_succ_self _) _ _ (hP.sub [0, 1, 2, 3, 4, 5, 6, 7] rfl) (hD.sub [0, 1, 2, 3, 4, 5, 6, 7] (by decide) rfl) hS ls (lv_sub hl [0, 1, 2, 3, 4] rfl)
set_option maxHeartbeats 4000000 in
set_option maxRecDepth 100000 in
theorem ct_X1_startFrom_A (ll : Launch) (D : va_G) (ta : Nat → ClassId) {G : (Nat → Prop) → State → Heap → Prop} (hGok : GOK G) (ha : Nat) (b1 : Nat) (b2 : Nat) (b3 : Nat) (b4 : Nat) (b5 : Nat) (b6 : Nat) (R : Nat) (bf : Nat → BitVec 8) (hr : Nat) (br : Nat) (capr : Nat) (gr : Nat → BitVec 8) (n : Nat) (hn : n ≤ capr) (hcr : capr < 2147483648) (hw : 16 ≤ n) (sz : Nat) : CT ll yX1_startFrom cX1_startFrom 3 none ({ frames := 1, cells := 0, slots := 0, locals := 21 } : Room) D ta G [.ref ha, .ref hr] [(ha, oA b1 b2 b3 b4 b5 b6 R), (b2, aZ ta 16 bf), (hr, oR br n), (br, aZ ta capr gr)] sz (S := (Nat → BitVec 8)) (fun _ => none) (fun u => (qL u 16 = qL gr 16)) (fun u => [(ha, oA b1 b2 b3 b4 b5 b6 R), (b2, aZ ta 16 u), (hr, oR br n), (br, aZ ta capr gr)]) 0 0 := by
  refine CT.of_v rfl (by decide) (Nat.le_of_ble_eq_true rfl) ?_
  intro pp ee ss mm below meth kc A Q hx hb hml hown hin hts hK hA hsz hG hret H locs hP hD hS ls hl
  have hl : lv_has ls 3 [(0, .ref ha), (1, .ref hr)] := hl
  refine lv_iconst (pc := 0) (v := nI 0) hx hb dX1_startFrom_0 (by decide +kernel) ?_
  refine lv_istore_n (pc := 1) (lv' := [(2, .int (nI 0)), (0, .ref ha), (1, .ref hr)]) hx hb dX1_startFrom_1 rfl hl (by decide) rfl (fun ls hl => ?_)
  have LP2 : ∀ (nn2 : Nat) (i : Nat) (b' : Nat → BitVec 8), (i ≤ 16) → (qSeg b' bf 0 i gr) → (16 - i < nn2) → ∀ (H : Heap) (locs : List Loc), va_P D vwCl [(ha, oA b1 b2 b3 b4 b5 b6 R), (b2, aZ ta 16 b'), (hr, oR br n), (br, aZ ta capr gr)] H → va_D A [(ha, oA b1 b2 b3 b4 b5 b6 R), (b2, aZ ta 16 b'), (hr, oR br n), (br, aZ ta capr gr)] → va_S A ss.heap H locs → ∀ ls : Array Slot, lv_has ls 3 [(2, .int (nI i)), (0, .ref ha), (1, .ref hr)] → W pp ll ee ({ frames := 1, cells := 0, slots := 0, locals := 21 } : Room) ss mm (([.ref ha, .ref hr] : List Value).toArray) below meth kc H locs 0 0 Q (F0 mm 2 ls []) := by
    intro nn2
    induction nn2 with
    | zero => intro i b' hii hs hmu; exact absurd hmu (Nat.not_lt_zero _)
    | succ nn2 ih2 =>
      intro i b' hii hs hmu2 H locs hP hD hS ls hl
      refine lv_iload_n (pc := 2) hx hb dX1_startFrom_2 rfl (lv_at hl 0 rfl) ?_
      refine lv_aload_n (pc := 3) hx hb dX1_startFrom_3 rfl (lv_at hl 1 rfl) ?_
      refine va_get (pc := 4) (D := D) (ci := 0) (v := .ref b2) (C := RX0) (T := TX0) (N := 7) hx hb hts iu0 hown hK hP 0 rfl rfl 1 (by decide) (hts _ tw_254) (fun _ h9 => h9) rfl dX1_startFrom_4 ?_
      refine va_alen (pc := 7) hx hb hK hP 1 0 rfl rfl (v := nI 16) rfl dX1_startFrom_7 ?_
      refine lv_icmp_ge (pc := 8) (tgt := 32) hx hb dX1_startFrom_8 (by decide) (fun c_1 => ?_) (fun c_1 => ?_)
      · skip
        rw [nI_leI (by omega) (by omega)] at c_1
        have hq_2 : (qL b' 16 = qL gr 16) := by
          rw [← seg_0, qSeg_segk hs (by omega)]
        exact hret (b') _ _ _ _ dX1_startFrom_32 hq_2 (hP.sub [0, 1, 2, 3] rfl) (hD.sub [0, 1, 2, 3] (by decide) rfl) hS
      · skip
        rw [nI_leI (by omega) (by omega)] at c_1
        refine lv_aload_n (pc := 11) hx hb dX1_startFrom_11 rfl (lv_at hl 1 rfl) ?_
        refine va_get (pc := 12) (D := D) (ci := 0) (v := .ref b2) (C := RX0) (T := TX0) (N := 7) hx hb hts iu0 hown hK hP 0 rfl rfl 1 (by decide) (hts _ tw_254) (fun _ h9 => h9) rfl dX1_startFrom_12 ?_
        refine lv_iload_n (pc := 15) hx hb dX1_startFrom_15 rfl (lv_at hl 0 rfl) ?_
        refine lv_aload_n (pc := 16) hx hb dX1_startFrom_16 rfl (lv_at hl 2 rfl) ?_
        refine lv_iload_n (pc := 17) hx hb dX1_startFrom_17 rfl (lv_at hl 0 rfl) ?_
        refine cs_V (pc := 18) (idx := 16) (n := 1) (wr := [(ha, oA b1 b2 b3 b4 b5 b6 R), (b2, aZ ta 16 b')]) (As := [.int (nI i)]) (rest := [.int (nI i), .ref b2]) (ci := 5) hx hb hml hown hts hGok hK hA hG hl.1 hP hD hS (ct_X6_at_in ll D ta hGok hr br capr gr n i (by first | assumption | omega | rfl | decide) (by first | assumption | omega | rfl | decide) (by first | assumption | omega | rfl | decide) H.size) tw_413 tw_528 tw_411 tw_412 tw_66 hdX6_at rfl ⟨rfl, rfl, Nat.le_of_ble_eq_true rfl, Nat.le_of_ble_eq_true rfl, Nat.le_of_ble_eq_true rfl, Nat.le_of_ble_eq_true rfl⟩ rfl rfl (q0 := 2) rfl [2, 3] [0, 1] rfl rfl (by decide) rfl (Nat.le_of_ble_eq_true rfl) dX1_startFrom_18 (fun u H locs hq hP hD hS => ?_)
        refine W.eq (g2 := F0 mm 21 ls [.int (qz (gr i)), .int (nI i), .ref b2]) rfl ?_
        have hP : va_P D vwCl [(ha, oA b1 b2 b3 b4 b5 b6 R), (b2, aZ ta 16 b'), (hr, oR br n), (br, aZ ta capr gr)] H := hP
        have hD : va_D A [(ha, oA b1 b2 b3 b4 b5 b6 R), (b2, aZ ta 16 b'), (hr, oR br n), (br, aZ ta capr gr)] := hD
        refine lv_sipush (pc := 21) (v := nI 255) hx hb dX1_startFrom_21 (by decide +kernel) ?_
        refine lv_iand (pc := 24) hx hb dX1_startFrom_24 ?_
        refine q_top (y := qz (gr i)) (q_and255z _) ?_
        refine q_iastZ (pc := 25) hx hb hK hP hD hS 1 0 rfl rfl (k := i) rfl (by omega) (by omega) (b := gr i) rfl dX1_startFrom_25 (fun H locs hP hD hS => ?_)
        have hP : va_P D vwCl [(ha, oA b1 b2 b3 b4 b5 b6 R), (b2, aZ ta 16 (qU b' i (gr i))), (hr, oR br n), (br, aZ ta capr gr)] H := hP
        have hD : va_D A [(ha, oA b1 b2 b3 b4 b5 b6 R), (b2, aZ ta 16 (qU b' i (gr i))), (hr, oR br n), (br, aZ ta capr gr)] := hD
        refine lv_iinc (pc := 26) (v := nI (i + 1)) (lv' := [(2, .int (nI (i + 1))), (0, .ref ha), (1, .ref hr)]) hx hb dX1_startFrom_26 hl (k := 0) rfl (by first | exact nI_add i 1 | rfl) (by decide) rfl (fun ls hl => ?_)
        refine lv_goto (pc := 29) (tgt := 2) hx hb dX1_startFrom_29 (by decide) ?_
        exact ih2 (i + 1) (qU b' i (gr i)) (by omega) (qSeg_s hs (by omega) rfl) (by omega) _ _ (hP.sub [0, 1, 2, 3] rfl) (hD.sub [0, 1, 2, 3] (by decide) rfl) hS ls (lv_sub hl [0, 1, 2] rfl)
  exact LP2 _ 0 bf (by omega) (qSeg_0) (Nat.lt_succ_self _) _ _ (hP.sub [0, 1, 2, 3] rfl) (hD.sub [0, 1, 2, 3] (by decide) rfl) hS ls (lv_sub hl [0, 1, 2] rfl)
set_option maxHeartbeats 4000000 in
set_option maxRecDepth 100000 in
theorem ct_X1_chainThere_A (ll : Launch) (D : va_G) (ta : Nat → ClassId) (gs : Nat → Nat) (ha : Nat) (b1 : Nat) (b2 : Nat) (b3 : Nat) (b4 : Nat) (b5 : Nat) (b6 : Nat) (gb : Nat → BitVec 8) (bf : Nat → BitVec 8) (kw : Nat → Int32) (is : Nat → Int32) (ix : Nat → Int32) (K : Bytes) (nK : Nat) (hr : Nat) (br : Nat) (capr : Nat) (gr : Nat → BitVec 8) (n : Nat) (f0 : Nat) (t0 : Nat) (m : Nat) (hKn : K.length = nK) (hn3 : nK = 16 ∨ nK = 24 ∨ nK = 32) (hkw : ∀ j, j < 4 * (nK / 4 + 7) → kw j = wdF (aKx K) j) (hn : n ≤ capr) (hcr : capr < 2147483648) (ht : t0 = f0 + 16 * m) (htn : t0 ≤ n) (sz : Nat) : CT ll yX1_chainThere cX1_chainThere 6 none ({ frames := 2, cells := 0, slots := 0, locals := 56 } : Room) D ta ((GC gs)) [.ref ha, .ref hr, .int (nI f0), .int (nI t0)] [(ha, oA b1 b2 b3 b4 b5 b6 (nK / 4 + 6)), (b1, aZ ta 16 gb), (b2, aZ ta 16 bf), (b3, aZ ta 256 UBOX), (b4, aI ta 64 kw), (b5, aI ta 4 is), (b6, aI ta 4 ix), (hr, oR br n), (br, aZ ta capr gr)] sz (S := (Nat → BitVec 8) × (Nat → BitVec 8) × (Nat → Int32) × (Nat → Int32) × (Nat → BitVec 8)) (fun _ => none) (fun u => (qSeg u.2.2.2.2 gr f0 (16 * m) (encF (aesE K) 16 (qL bf 16) (seg gr f0 (16 * m)))) ∧ (qL u.2.1 16 = cbcM (aesE K) 16 (qL bf 16) (seg gr f0 (16 * m)) m)) (fun u => [(ha, oA b1 b2 b3 b4 b5 b6 (nK / 4 + 6)), (b1, aZ ta 16 u.1), (b2, aZ ta 16 u.2.1), (b3, aZ ta 256 UBOX), (b4, aI ta 64 kw), (b5, aI ta 4 u.2.2.1), (b6, aI ta 4 u.2.2.2.1), (hr, oR br n), (br, aZ ta capr u.2.2.2.2)]) 0 0 := by
  refine CT.of_v rfl (by decide) (Nat.le_of_ble_eq_true rfl) ?_
  have hGok := GC_ok gs
  intro pp ee ss mm below meth kc A Q hx hb hml hown hin hts hK hA hsz hG hret H locs hP hD hS ls hl
  have hl : lv_has ls 6 [(0, .ref ha), (1, .ref hr), (2, .int (nI f0)), (3, .int (nI t0))] := hl
  refine lv_iload_n (pc := 0) hx hb dX1_chainThere_0 rfl (lv_at hl 2 rfl) ?_
  refine lv_istore (pc := 1) (lv' := [(4, .int (nI f0)), (0, .ref ha), (1, .ref hr), (2, .int (nI f0)), (3, .int (nI t0))]) hx hb dX1_chainThere_1 hl (by decide) rfl (fun ls hl => ?_)
  have LP3 : ∀ (nn3 : Nat) (c : Nat) (g' : Nat → BitVec 8) (b' : Nat → BitVec 8) (is' : Nat → Int32) (ix' : Nat → Int32) (r' : Nat → BitVec 8), (c ≤ m) → (qSeg r' gr f0 (16 * c) (encF (aesE K) 16 (qL bf 16) (seg gr f0 (16 * m)))) → (qL b' 16 = cbcM (aesE K) 16 (qL bf 16) (seg gr f0 (16 * m)) c) → (m - c < nn3) → ∀ (H : Heap) (locs : List Loc), va_P D vwCl [(ha, oA b1 b2 b3 b4 b5 b6 (nK / 4 + 6)), (b1, aZ ta 16 g'), (b2, aZ ta 16 b'), (b3, aZ ta 256 UBOX), (b4, aI ta 64 kw), (b5, aI ta 4 is'), (b6, aI ta 4 ix'), (hr, oR br n), (br, aZ ta capr r')] H → va_D A [(ha, oA b1 b2 b3 b4 b5 b6 (nK / 4 + 6)), (b1, aZ ta 16 g'), (b2, aZ ta 16 b'), (b3, aZ ta 256 UBOX), (b4, aI ta 64 kw), (b5, aI ta 4 is'), (b6, aI ta 4 ix'), (hr, oR br n), (br, aZ ta capr r')] → va_S A ss.heap H locs → ∀ ls : Array Slot, lv_has ls 6 [(4, .int (nI (f0 + 16 * c))), (0, .ref ha), (1, .ref hr), (2, .int (nI f0)), (3, .int (nI t0))] → W pp ll ee ({ frames := 2, cells := 0, slots := 0, locals := 56 } : Room) ss mm (([.ref ha, .ref hr, .int (nI f0), .int (nI t0)] : List Value).toArray) below meth kc H locs 0 0 Q (F0 mm 3 ls []) := by
    intro nn3
    induction nn3 with
    | zero => intro c g' b' is' ix' r' hcc hr1 hb1 hmu; exact absurd hmu (Nat.not_lt_zero _)
    | succ nn3 ih3 =>
      intro c g' b' is' ix' r' hcc hr1 hb1 hmu3 H locs hP hD hS ls hl
      refine lv_iload (pc := 3) hx hb dX1_chainThere_3 (lv_at hl 0 rfl) ?_
      refine lv_iload_n (pc := 5) hx hb dX1_chainThere_5 rfl (lv_at hl 4 rfl) ?_
      refine lv_icmp_ge (pc := 6) (tgt := 142) hx hb dX1_chainThere_6 (by decide) (fun c_1 => ?_) (fun c_1 => ?_)
      · skip
        rw [nI_leI (by omega) (by omega)] at c_1
        have hq_2 : (qSeg r' gr f0 (16 * m) (encF (aesE K) 16 (qL bf 16) (seg gr f0 (16 * m)))) ∧ (qL b' 16 = cbcM (aesE K) 16 (qL bf 16) (seg gr f0 (16 * m)) m) := by
          have ec : c = m := by omega
          subst ec
          exact ⟨hr1, hb1⟩
        exact hret (⟨(g'), (b'), (is'), (ix'), (r')⟩ : (Nat → BitVec 8) × (Nat → BitVec 8) × (Nat → Int32) × (Nat → Int32) × (Nat → BitVec 8)) _ _ _ _ dX1_chainThere_142 hq_2 (hP.sub [0, 1, 2, 3, 4, 5, 6, 7, 8] rfl) (hD.sub [0, 1, 2, 3, 4, 5, 6, 7, 8] (by decide) rfl) hS
      · skip
        rw [nI_leI (by omega) (by omega)] at c_1
        refine lv_iconst (pc := 9) (v := nI 0) hx hb dX1_chainThere_9 (by decide +kernel) ?_
        refine lv_istore (pc := 10) (lv' := [(5, .int (nI 0)), (4, .int (nI (f0 + 16 * c))), (0, .ref ha), (1, .ref hr), (2, .int (nI f0)), (3, .int (nI t0))]) hx hb dX1_chainThere_10 hl (by decide) rfl (fun ls hl => ?_)
        have LP12 : ∀ (nn12 : Nat) (d : Nat) (d' : Nat → BitVec 8), (d ≤ 16) → (qSeg d' g' 0 d (fun k => r' (f0 + 16 * c + k) ^^^ b' k)) → (16 - d < nn12) → ∀ (H : Heap) (locs : List Loc), va_P D vwCl [(ha, oA b1 b2 b3 b4 b5 b6 (nK / 4 + 6)), (b1, aZ ta 16 d'), (b2, aZ ta 16 b'), (b3, aZ ta 256 UBOX), (b4, aI ta 64 kw), (b5, aI ta 4 is'), (b6, aI ta 4 ix'), (hr, oR br n), (br, aZ ta capr r')] H → va_D A [(ha, oA b1 b2 b3 b4 b5 b6 (nK / 4 + 6)), (b1, aZ ta 16 d'), (b2, aZ ta 16 b'), (b3, aZ ta 256 UBOX), (b4, aI ta 64 kw), (b5, aI ta 4 is'), (b6, aI ta 4 ix'), (hr, oR br n), (br, aZ ta capr r')] → va_S A ss.heap H locs → ∀ ls : Array Slot, lv_has ls 6 [(5, .int (nI d)), (4, .int (nI (f0 + 16 * c))), (0, .ref ha), (1, .ref hr), (2, .int (nI f0)), (3, .int (nI t0))] → W pp ll ee ({ frames := 2, cells := 0, slots := 0, locals := 56 } : Room) ss mm (([.ref ha, .ref hr, .int (nI f0), .int (nI t0)] : List Value).toArray) below meth kc H locs 0 0 Q (F0 mm 12 ls []) := by
          intro nn12
          induction nn12 with
          | zero => intro d d' hdd hd hmu; exact absurd hmu (Nat.not_lt_zero _)
          | succ nn12 ih12 =>
            intro d d' hdd hd hmu12 H locs hP hD hS ls hl
            refine lv_iload (pc := 12) hx hb dX1_chainThere_12 (lv_at hl 0 rfl) ?_
            refine lv_aload_n (pc := 14) hx hb dX1_chainThere_14 rfl (lv_at hl 2 rfl) ?_
            refine va_get (pc := 15) (D := D) (ci := 0) (v := .ref b1) (C := RX0) (T := TX0) (N := 7) hx hb hts iu0 hown hK hP 0 rfl rfl 0 (by decide) (hts _ tw_249) (fun _ h9 => h9) rfl dX1_chainThere_15 ?_
            refine va_alen (pc := 18) hx hb hK hP 1 0 rfl rfl (v := nI 16) rfl dX1_chainThere_18 ?_
            refine lv_icmp_ge (pc := 19) (tgt := 66) hx hb dX1_chainThere_19 (by decide) (fun c_3 => ?_) (fun c_3 => ?_)
            · skip
              rw [nI_leI (by omega) (by omega)] at c_3
              refine lv_aload_n (pc := 66) hx hb dX1_chainThere_66 rfl (lv_at hl 2 rfl) ?_
              refine cs_U (pc := 67) (idx := 22) (n := 0) (wr := [(b2, aZ ta 16 b'), (hr, oR br n), (br, aZ ta capr r')]) (As := []) (rest := []) (ci := 0) (x := ⟨"LineGuard$BlockCipher", "there", "()V"⟩) (owner := "LineGuard$BlockCipher") hx hb hml hown hts hGok hK hA hG hl.1 hP hD hS (ct_X0_there_L ll D ta gs ha b1 b2 b3 b4 b5 b6 d' kw is' ix' K nK (by first | assumption | omega | rfl | decide) (by first | assumption | omega | rfl | decide) (by first | assumption | omega | rfl | decide) H.size) tw_540 tw_535 tw_539 tw_538 tw_74 tw_537 (va_Decl.abs (GC_w536 hG)) ⟨by decide +kernel, by decide +kernel, by decide +kernel⟩ rfl ⟨rfl, rfl, Nat.le_of_ble_eq_true rfl, Nat.le_of_ble_eq_true rfl, Nat.le_of_ble_eq_true rfl, Nat.le_of_ble_eq_true rfl⟩ rfl (q0 := 0) rfl [0, 1, 3, 4, 5, 6] [2, 7, 8] rfl rfl (by decide) rfl (Nat.le_of_ble_eq_true rfl) dX1_chainThere_67 (fun u H locs hq hP hD hS => ?_)
              obtain ⟨gb1_67, sw1_67, xw1_67⟩ := u
              have hq : (qL gb1_67 16 = aesE K (qL d' 16)) := hq
              have hs_67 := hq
              refine W.eq (g2 := F0 mm 70 ls []) rfl ?_
              have hP : va_P D vwCl [(b2, aZ ta 16 b'), (hr, oR br n), (br, aZ ta capr r'), (ha, oA b1 b2 b3 b4 b5 b6 (nK / 4 + 6)), (b1, aZ ta 16 gb1_67), (b3, aZ ta 256 UBOX), (b4, aI ta 64 kw), (b5, aI ta 4 sw1_67), (b6, aI ta 4 xw1_67)] H := hP
              have hD : va_D A [(b2, aZ ta 16 b'), (hr, oR br n), (br, aZ ta capr r'), (ha, oA b1 b2 b3 b4 b5 b6 (nK / 4 + 6)), (b1, aZ ta 16 gb1_67), (b3, aZ ta 256 UBOX), (b4, aI ta 64 kw), (b5, aI ta 4 sw1_67), (b6, aI ta 4 xw1_67)] := hD
              have hB := cbc_blk hr1 hb1 (by omega) (by omega) hd hs_67
              refine lv_iconst (pc := 70) (v := nI 0) hx hb dX1_chainThere_70 (by decide +kernel) ?_
              refine lv_istore (pc := 71) (lv' := [(5, .int (nI 0)), (4, .int (nI (f0 + 16 * c))), (0, .ref ha), (1, .ref hr), (2, .int (nI f0)), (3, .int (nI t0))]) hx hb dX1_chainThere_71 hl (by decide) rfl (fun ls hl => ?_)
              have LP73 : ∀ (nn73 : Nat) (e : Nat) (e' : Nat → BitVec 8) (c' : Nat → BitVec 8), (e ≤ 16) → (qSeg e' gr f0 (16 * c + e) (encF (aesE K) 16 (qL bf 16) (seg gr f0 (16 * m)))) → (qSeg c' b' 0 e gb1_67) → (16 - e < nn73) → ∀ (H : Heap) (locs : List Loc), va_P D vwCl [(b2, aZ ta 16 c'), (hr, oR br n), (br, aZ ta capr e'), (ha, oA b1 b2 b3 b4 b5 b6 (nK / 4 + 6)), (b1, aZ ta 16 gb1_67), (b3, aZ ta 256 UBOX), (b4, aI ta 64 kw), (b5, aI ta 4 sw1_67), (b6, aI ta 4 xw1_67)] H → va_D A [(b2, aZ ta 16 c'), (hr, oR br n), (br, aZ ta capr e'), (ha, oA b1 b2 b3 b4 b5 b6 (nK / 4 + 6)), (b1, aZ ta 16 gb1_67), (b3, aZ ta 256 UBOX), (b4, aI ta 64 kw), (b5, aI ta 4 sw1_67), (b6, aI ta 4 xw1_67)] → va_S A ss.heap H locs → ∀ ls : Array Slot, lv_has ls 6 [(5, .int (nI e)), (4, .int (nI (f0 + 16 * c))), (0, .ref ha), (1, .ref hr), (2, .int (nI f0)), (3, .int (nI t0))] → W pp ll ee ({ frames := 2, cells := 0, slots := 0, locals := 56 } : Room) ss mm (([.ref ha, .ref hr, .int (nI f0), .int (nI t0)] : List Value).toArray) below meth kc H locs 0 0 Q (F0 mm 73 ls []) := by
                intro nn73
                induction nn73 with
                | zero => intro e e' c' hee hr2 hb2 hmu; exact absurd hmu (Nat.not_lt_zero _)
                | succ nn73 ih73 =>
                  intro e e' c' hee hr2 hb2 hmu73 H locs hP hD hS ls hl
                  refine lv_iload (pc := 73) hx hb dX1_chainThere_73 (lv_at hl 0 rfl) ?_
                  refine lv_aload_n (pc := 75) hx hb dX1_chainThere_75 rfl (lv_at hl 2 rfl) ?_
                  refine va_get (pc := 76) (D := D) (ci := 0) (v := .ref b1) (C := RX0) (T := TX0) (N := 7) hx hb hts iu0 hown hK hP 3 rfl rfl 0 (by decide) (hts _ tw_249) (fun _ h9 => h9) rfl dX1_chainThere_76 ?_
                  refine va_alen (pc := 79) hx hb hK hP 4 0 rfl rfl (v := nI 16) rfl dX1_chainThere_79 ?_
                  refine lv_icmp_ge (pc := 80) (tgt := 129) hx hb dX1_chainThere_80 (by decide) (fun c_4 => ?_) (fun c_4 => ?_)
                  · skip
                    rw [nI_leI (by omega) (by omega)] at c_4
                    refine lv_iload (pc := 129) hx hb dX1_chainThere_129 (lv_at hl 1 rfl) ?_
                    refine lv_aload_n (pc := 131) hx hb dX1_chainThere_131 rfl (lv_at hl 2 rfl) ?_
                    refine va_get (pc := 132) (D := D) (ci := 0) (v := .ref b1) (C := RX0) (T := TX0) (N := 7) hx hb hts iu0 hown hK hP 3 rfl rfl 0 (by decide) (hts _ tw_249) (fun _ h9 => h9) rfl dX1_chainThere_132 ?_
                    refine va_alen (pc := 135) hx hb hK hP 4 0 rfl rfl (v := nI 16) rfl dX1_chainThere_135 ?_
                    refine lv_iadd (pc := 136) hx hb dX1_chainThere_136 ?_
                    refine q_top (y := nI (f0 + 16 * c + 16)) (nI_add (f0 + 16 * c) 16) ?_
                    refine lv_istore (pc := 137) (lv' := [(4, .int (nI (f0 + 16 * c + 16))), (5, .int (nI e)), (0, .ref ha), (1, .ref hr), (2, .int (nI f0)), (3, .int (nI t0))]) hx hb dX1_chainThere_137 hl (by decide) rfl (fun ls hl => ?_)
                    refine lv_goto (pc := 139) (tgt := 3) hx hb dX1_chainThere_139 (by decide) ?_
                    exact ih3 (c + 1) gb1_67 c' sw1_67 xw1_67 e' (by omega) (by rw [show 16 * (c + 1) = 16 * c + e by omega]; exact hr2) (by rw [← hB, ← seg_0, qSeg_segk hb2 (by omega)]) (by omega) _ _ (hP.sub [3, 4, 0, 5, 6, 7, 8, 1, 2] rfl) (hD.sub [3, 4, 0, 5, 6, 7, 8, 1, 2] (by decide) rfl) hS ls (lv_sub hl [0, 2, 3, 4, 5] rfl)
                  · skip
                    rw [nI_leI (by omega) (by omega)] at c_4
                    refine lv_iload (pc := 83) hx hb dX1_chainThere_83 (lv_at hl 0 rfl) ?_
                    refine lv_aload_n (pc := 85) hx hb dX1_chainThere_85 rfl (lv_at hl 2 rfl) ?_
                    refine va_get (pc := 86) (D := D) (ci := 0) (v := .ref b2) (C := RX0) (T := TX0) (N := 7) hx hb hts iu0 hown hK hP 3 rfl rfl 1 (by decide) (hts _ tw_254) (fun _ h9 => h9) rfl dX1_chainThere_86 ?_
                    refine va_alen (pc := 89) hx hb hK hP 0 0 rfl rfl (v := nI 16) rfl dX1_chainThere_89 ?_
                    refine lv_icmp_ge (pc := 90) (tgt := 129) hx hb dX1_chainThere_90 (by decide) (fun c_5 => ?_) (fun c_5 => ?_)
                    · skip
                      rw [nI_leI (by omega) (by omega)] at c_5
                      refine lv_iload (pc := 129) hx hb dX1_chainThere_129 (lv_at hl 1 rfl) ?_
                      refine lv_aload_n (pc := 131) hx hb dX1_chainThere_131 rfl (lv_at hl 2 rfl) ?_
                      refine va_get (pc := 132) (D := D) (ci := 0) (v := .ref b1) (C := RX0) (T := TX0) (N := 7) hx hb hts iu0 hown hK hP 3 rfl rfl 0 (by decide) (hts _ tw_249) (fun _ h9 => h9) rfl dX1_chainThere_132 ?_
                      refine va_alen (pc := 135) hx hb hK hP 4 0 rfl rfl (v := nI 16) rfl dX1_chainThere_135 ?_
                      refine lv_iadd (pc := 136) hx hb dX1_chainThere_136 ?_
                      refine q_top (y := nI (f0 + 16 * c + 16)) (nI_add (f0 + 16 * c) 16) ?_
                      refine lv_istore (pc := 137) (lv' := [(4, .int (nI (f0 + 16 * c + 16))), (5, .int (nI e)), (0, .ref ha), (1, .ref hr), (2, .int (nI f0)), (3, .int (nI t0))]) hx hb dX1_chainThere_137 hl (by decide) rfl (fun ls hl => ?_)
                      refine lv_goto (pc := 139) (tgt := 3) hx hb dX1_chainThere_139 (by decide) ?_
                      exact ih3 (c + 1) gb1_67 c' sw1_67 xw1_67 e' (by omega) (by rw [show 16 * (c + 1) = 16 * c + e by omega]; exact hr2) (by rw [← hB, ← seg_0, qSeg_segk hb2 (by omega)]) (by omega) _ _ (hP.sub [3, 4, 0, 5, 6, 7, 8, 1, 2] rfl) (hD.sub [3, 4, 0, 5, 6, 7, 8, 1, 2] (by decide) rfl) hS ls (lv_sub hl [0, 2, 3, 4, 5] rfl)
                    · skip
                      rw [nI_leI (by omega) (by omega)] at c_5
                      refine lv_aload_n (pc := 93) hx hb dX1_chainThere_93 rfl (lv_at hl 3 rfl) ?_
                      refine lv_iload (pc := 94) hx hb dX1_chainThere_94 (lv_at hl 1 rfl) ?_
                      refine lv_iload (pc := 96) hx hb dX1_chainThere_96 (lv_at hl 0 rfl) ?_
                      refine lv_iadd (pc := 98) hx hb dX1_chainThere_98 ?_
                      refine q_top (y := nI (f0 + 16 * c + e)) (nI_add (f0 + 16 * c) e) ?_
                      refine lv_aload_n (pc := 99) hx hb dX1_chainThere_99 rfl (lv_at hl 2 rfl) ?_
                      refine va_get (pc := 100) (D := D) (ci := 0) (v := .ref b1) (C := RX0) (T := TX0) (N := 7) hx hb hts iu0 hown hK hP 3 rfl rfl 0 (by decide) (hts _ tw_249) (fun _ h9 => h9) rfl dX1_chainThere_100 ?_
                      refine lv_iload (pc := 103) hx hb dX1_chainThere_103 (lv_at hl 0 rfl) ?_
                      refine q_iald (pc := 105) hx hb hK hP 4 0 rfl rfl (k := e) (v := qz (gb1_67 e)) rfl (by omega) (by omega) rfl dX1_chainThere_105 ?_
                      refine cs_V (pc := 106) (idx := 25) (n := 2) (wr := [(b2, aZ ta 16 c'), (ha, oA b1 b2 b3 b4 b5 b6 (nK / 4 + 6)), (b1, aZ ta 16 gb1_67), (b3, aZ ta 256 UBOX), (b4, aI ta 64 kw), (b5, aI ta 4 sw1_67), (b6, aI ta 4 xw1_67)]) (As := [.int (nI (f0 + 16 * c + e)), .int (qz (gb1_67 e))]) (rest := []) (ci := 5) hx hb hml hown hts hGok hK hA hG hl.1 hP hD hS (ct_X6_put ll D ta hGok hr br capr e' n (f0 + 16 * c + e) (qz (gb1_67 e)) (by first | assumption | omega | rfl | decide) (by first | assumption | omega | rfl | decide) (by first | assumption | omega | rfl | decide) H.size) tw_425 tw_585 tw_423 tw_424 tw_66 hdX6_put rfl ⟨rfl, rfl, Nat.le_of_ble_eq_true rfl, Nat.le_of_ble_eq_true rfl, Nat.le_of_ble_eq_true rfl, Nat.le_of_ble_eq_true rfl⟩ rfl rfl (q0 := 1) rfl [1, 2] [0, 3, 4, 5, 6, 7, 8] rfl rfl (by decide) rfl (Nat.le_of_ble_eq_true rfl) dX1_chainThere_106 (fun u H locs hq hP hD hS => ?_)
                      generalize u = g1_106 at hq hP hD ⊢
                      have hq : (g1_106 = qU e' (f0 + 16 * c + e) (qlo (qz (gb1_67 e)))) := hq
                      have hg_106 := hq
                      refine W.eq (g2 := F0 mm 109 ls []) rfl ?_
                      have hP : va_P D vwCl [(b2, aZ ta 16 c'), (ha, oA b1 b2 b3 b4 b5 b6 (nK / 4 + 6)), (b1, aZ ta 16 gb1_67), (b3, aZ ta 256 UBOX), (b4, aI ta 64 kw), (b5, aI ta 4 sw1_67), (b6, aI ta 4 xw1_67), (hr, oR br n), (br, aZ ta capr g1_106)] H := hP
                      have hD : va_D A [(b2, aZ ta 16 c'), (ha, oA b1 b2 b3 b4 b5 b6 (nK / 4 + 6)), (b1, aZ ta 16 gb1_67), (b3, aZ ta 256 UBOX), (b4, aI ta 64 kw), (b5, aI ta 4 sw1_67), (b6, aI ta 4 xw1_67), (hr, oR br n), (br, aZ ta capr g1_106)] := hD
                      refine lv_aload_n (pc := 109) hx hb dX1_chainThere_109 rfl (lv_at hl 2 rfl) ?_
                      refine va_get (pc := 110) (D := D) (ci := 0) (v := .ref b2) (C := RX0) (T := TX0) (N := 7) hx hb hts iu0 hown hK hP 1 rfl rfl 1 (by decide) (hts _ tw_254) (fun _ h9 => h9) rfl dX1_chainThere_110 ?_
                      refine lv_iload (pc := 113) hx hb dX1_chainThere_113 (lv_at hl 0 rfl) ?_
                      refine lv_aload_n (pc := 115) hx hb dX1_chainThere_115 rfl (lv_at hl 2 rfl) ?_
                      refine va_get (pc := 116) (D := D) (ci := 0) (v := .ref b1) (C := RX0) (T := TX0) (N := 7) hx hb hts iu0 hown hK hP 1 rfl rfl 0 (by decide) (hts _ tw_249) (fun _ h9 => h9) rfl dX1_chainThere_116 ?_
                      refine lv_iload (pc := 119) hx hb dX1_chainThere_119 (lv_at hl 0 rfl) ?_
                      refine q_iald (pc := 121) hx hb hK hP 2 0 rfl rfl (k := e) (v := qz (gb1_67 e)) rfl (by omega) (by omega) rfl dX1_chainThere_121 ?_
                      refine q_iastZ (pc := 122) hx hb hK hP hD hS 0 0 rfl rfl (k := e) rfl (by omega) (by omega) (b := gb1_67 e) rfl dX1_chainThere_122 (fun H locs hP hD hS => ?_)
                      have hP : va_P D vwCl [(b2, aZ ta 16 (qU c' e (gb1_67 e))), (ha, oA b1 b2 b3 b4 b5 b6 (nK / 4 + 6)), (b1, aZ ta 16 gb1_67), (b3, aZ ta 256 UBOX), (b4, aI ta 64 kw), (b5, aI ta 4 sw1_67), (b6, aI ta 4 xw1_67), (hr, oR br n), (br, aZ ta capr g1_106)] H := hP
                      have hD : va_D A [(b2, aZ ta 16 (qU c' e (gb1_67 e))), (ha, oA b1 b2 b3 b4 b5 b6 (nK / 4 + 6)), (b1, aZ ta 16 gb1_67), (b3, aZ ta 256 UBOX), (b4, aI ta 64 kw), (b5, aI ta 4 sw1_67), (b6, aI ta 4 xw1_67), (hr, oR br n), (br, aZ ta capr g1_106)] := hD
                      refine lv_iinc (pc := 123) (v := nI (e + 1)) (lv' := [(5, .int (nI (e + 1))), (4, .int (nI (f0 + 16 * c))), (0, .ref ha), (1, .ref hr), (2, .int (nI f0)), (3, .int (nI t0))]) hx hb dX1_chainThere_123 hl (k := 0) rfl (by first | exact nI_add e 1 | rfl) (by decide) rfl (fun ls hl => ?_)
                      refine lv_goto (pc := 126) (tgt := 73) hx hb dX1_chainThere_126 (by decide) ?_
                      exact ih73 (e + 1) g1_106 (qU c' e (gb1_67 e)) (by omega) (by rw [hg_106]; exact cbc_put (by omega) hr2 hB (by omega) (qlo_qz _)) (qSeg_s hb2 (by omega) rfl) (by omega) _ _ (hP.sub [0, 7, 8, 1, 2, 3, 4, 5, 6] rfl) (hD.sub [0, 7, 8, 1, 2, 3, 4, 5, 6] (by decide) rfl) hS ls (lv_sub hl [0, 1, 2, 3, 4, 5] rfl)
              exact LP73 _ 0 r' b' (by omega) (hr1) (qSeg_0) (Nat.lt_succ_self _) _ _ (hP.sub [0, 1, 2, 3, 4, 5, 6, 7, 8] rfl) (hD.sub [0, 1, 2, 3, 4, 5, 6, 7, 8] (by decide) rfl) hS ls (lv_sub hl [0, 1, 2, 3, 4, 5] rfl)
            · skip
              rw [nI_leI (by omega) (by omega)] at c_3
              refine lv_iload (pc := 22) hx hb dX1_chainThere_22 (lv_at hl 0 rfl) ?_
              refine lv_aload_n (pc := 24) hx hb dX1_chainThere_24 rfl (lv_at hl 2 rfl) ?_
              refine va_get (pc := 25) (D := D) (ci := 0) (v := .ref b2) (C := RX0) (T := TX0) (N := 7) hx hb hts iu0 hown hK hP 0 rfl rfl 1 (by decide) (hts _ tw_254) (fun _ h9 => h9) rfl dX1_chainThere_25 ?_
              refine va_alen (pc := 28) hx hb hK hP 2 0 rfl rfl (v := nI 16) rfl dX1_chainThere_28 ?_
              refine lv_icmp_ge (pc := 29) (tgt := 66) hx hb dX1_chainThere_29 (by decide) (fun c_6 => ?_) (fun c_6 => ?_)
              · skip
                rw [nI_leI (by omega) (by omega)] at c_6
                refine lv_aload_n (pc := 66) hx hb dX1_chainThere_66 rfl (lv_at hl 2 rfl) ?_
                refine cs_U (pc := 67) (idx := 22) (n := 0) (wr := [(b2, aZ ta 16 b'), (hr, oR br n), (br, aZ ta capr r')]) (As := []) (rest := []) (ci := 0) (x := ⟨"LineGuard$BlockCipher", "there", "()V"⟩) (owner := "LineGuard$BlockCipher") hx hb hml hown hts hGok hK hA hG hl.1 hP hD hS (ct_X0_there_L ll D ta gs ha b1 b2 b3 b4 b5 b6 d' kw is' ix' K nK (by first | assumption | omega | rfl | decide) (by first | assumption | omega | rfl | decide) (by first | assumption | omega | rfl | decide) H.size) tw_540 tw_535 tw_539 tw_538 tw_74 tw_537 (va_Decl.abs (GC_w536 hG)) ⟨by decide +kernel, by decide +kernel, by decide +kernel⟩ rfl ⟨rfl, rfl, Nat.le_of_ble_eq_true rfl, Nat.le_of_ble_eq_true rfl, Nat.le_of_ble_eq_true rfl, Nat.le_of_ble_eq_true rfl⟩ rfl (q0 := 0) rfl [0, 1, 3, 4, 5, 6] [2, 7, 8] rfl rfl (by decide) rfl (Nat.le_of_ble_eq_true rfl) dX1_chainThere_67 (fun u H locs hq hP hD hS => ?_)
                obtain ⟨gb1_67, sw1_67, xw1_67⟩ := u
                have hq : (qL gb1_67 16 = aesE K (qL d' 16)) := hq
                have hs_67 := hq
                refine W.eq (g2 := F0 mm 70 ls []) rfl ?_
                have hP : va_P D vwCl [(b2, aZ ta 16 b'), (hr, oR br n), (br, aZ ta capr r'), (ha, oA b1 b2 b3 b4 b5 b6 (nK / 4 + 6)), (b1, aZ ta 16 gb1_67), (b3, aZ ta 256 UBOX), (b4, aI ta 64 kw), (b5, aI ta 4 sw1_67), (b6, aI ta 4 xw1_67)] H := hP
                have hD : va_D A [(b2, aZ ta 16 b'), (hr, oR br n), (br, aZ ta capr r'), (ha, oA b1 b2 b3 b4 b5 b6 (nK / 4 + 6)), (b1, aZ ta 16 gb1_67), (b3, aZ ta 256 UBOX), (b4, aI ta 64 kw), (b5, aI ta 4 sw1_67), (b6, aI ta 4 xw1_67)] := hD
                have hB := cbc_blk hr1 hb1 (by omega) (by omega) hd hs_67
                refine lv_iconst (pc := 70) (v := nI 0) hx hb dX1_chainThere_70 (by decide +kernel) ?_
                refine lv_istore (pc := 71) (lv' := [(5, .int (nI 0)), (4, .int (nI (f0 + 16 * c))), (0, .ref ha), (1, .ref hr), (2, .int (nI f0)), (3, .int (nI t0))]) hx hb dX1_chainThere_71 hl (by decide) rfl (fun ls hl => ?_)
                have LP73 : ∀ (nn73 : Nat) (e : Nat) (e' : Nat → BitVec 8) (c' : Nat → BitVec 8), (e ≤ 16) → (qSeg e' gr f0 (16 * c + e) (encF (aesE K) 16 (qL bf 16) (seg gr f0 (16 * m)))) → (qSeg c' b' 0 e gb1_67) → (16 - e < nn73) → ∀ (H : Heap) (locs : List Loc), va_P D vwCl [(b2, aZ ta 16 c'), (hr, oR br n), (br, aZ ta capr e'), (ha, oA b1 b2 b3 b4 b5 b6 (nK / 4 + 6)), (b1, aZ ta 16 gb1_67), (b3, aZ ta 256 UBOX), (b4, aI ta 64 kw), (b5, aI ta 4 sw1_67), (b6, aI ta 4 xw1_67)] H → va_D A [(b2, aZ ta 16 c'), (hr, oR br n), (br, aZ ta capr e'), (ha, oA b1 b2 b3 b4 b5 b6 (nK / 4 + 6)), (b1, aZ ta 16 gb1_67), (b3, aZ ta 256 UBOX), (b4, aI ta 64 kw), (b5, aI ta 4 sw1_67), (b6, aI ta 4 xw1_67)] → va_S A ss.heap H locs → ∀ ls : Array Slot, lv_has ls 6 [(5, .int (nI e)), (4, .int (nI (f0 + 16 * c))), (0, .ref ha), (1, .ref hr), (2, .int (nI f0)), (3, .int (nI t0))] → W pp ll ee ({ frames := 2, cells := 0, slots := 0, locals := 56 } : Room) ss mm (([.ref ha, .ref hr, .int (nI f0), .int (nI t0)] : List Value).toArray) below meth kc H locs 0 0 Q (F0 mm 73 ls []) := by
                  intro nn73
                  induction nn73 with
                  | zero => intro e e' c' hee hr2 hb2 hmu; exact absurd hmu (Nat.not_lt_zero _)
                  | succ nn73 ih73 =>
                    intro e e' c' hee hr2 hb2 hmu73 H locs hP hD hS ls hl
                    refine lv_iload (pc := 73) hx hb dX1_chainThere_73 (lv_at hl 0 rfl) ?_
                    refine lv_aload_n (pc := 75) hx hb dX1_chainThere_75 rfl (lv_at hl 2 rfl) ?_
                    refine va_get (pc := 76) (D := D) (ci := 0) (v := .ref b1) (C := RX0) (T := TX0) (N := 7) hx hb hts iu0 hown hK hP 3 rfl rfl 0 (by decide) (hts _ tw_249) (fun _ h9 => h9) rfl dX1_chainThere_76 ?_
                    refine va_alen (pc := 79) hx hb hK hP 4 0 rfl rfl (v := nI 16) rfl dX1_chainThere_79 ?_
                    refine lv_icmp_ge (pc := 80) (tgt := 129) hx hb dX1_chainThere_80 (by decide) (fun c_7 => ?_) (fun c_7 => ?_)
                    · skip
                      rw [nI_leI (by omega) (by omega)] at c_7
                      refine lv_iload (pc := 129) hx hb dX1_chainThere_129 (lv_at hl 1 rfl) ?_
                      refine lv_aload_n (pc := 131) hx hb dX1_chainThere_131 rfl (lv_at hl 2 rfl) ?_
                      refine va_get (pc := 132) (D := D) (ci := 0) (v := .ref b1) (C := RX0) (T := TX0) (N := 7) hx hb hts iu0 hown hK hP 3 rfl rfl 0 (by decide) (hts _ tw_249) (fun _ h9 => h9) rfl dX1_chainThere_132 ?_
                      refine va_alen (pc := 135) hx hb hK hP 4 0 rfl rfl (v := nI 16) rfl dX1_chainThere_135 ?_
                      refine lv_iadd (pc := 136) hx hb dX1_chainThere_136 ?_
                      refine q_top (y := nI (f0 + 16 * c + 16)) (nI_add (f0 + 16 * c) 16) ?_
                      refine lv_istore (pc := 137) (lv' := [(4, .int (nI (f0 + 16 * c + 16))), (5, .int (nI e)), (0, .ref ha), (1, .ref hr), (2, .int (nI f0)), (3, .int (nI t0))]) hx hb dX1_chainThere_137 hl (by decide) rfl (fun ls hl => ?_)
                      refine lv_goto (pc := 139) (tgt := 3) hx hb dX1_chainThere_139 (by decide) ?_
                      exact ih3 (c + 1) gb1_67 c' sw1_67 xw1_67 e' (by omega) (by rw [show 16 * (c + 1) = 16 * c + e by omega]; exact hr2) (by rw [← hB, ← seg_0, qSeg_segk hb2 (by omega)]) (by omega) _ _ (hP.sub [3, 4, 0, 5, 6, 7, 8, 1, 2] rfl) (hD.sub [3, 4, 0, 5, 6, 7, 8, 1, 2] (by decide) rfl) hS ls (lv_sub hl [0, 2, 3, 4, 5] rfl)
                    · skip
                      rw [nI_leI (by omega) (by omega)] at c_7
                      refine lv_iload (pc := 83) hx hb dX1_chainThere_83 (lv_at hl 0 rfl) ?_
                      refine lv_aload_n (pc := 85) hx hb dX1_chainThere_85 rfl (lv_at hl 2 rfl) ?_
                      refine va_get (pc := 86) (D := D) (ci := 0) (v := .ref b2) (C := RX0) (T := TX0) (N := 7) hx hb hts iu0 hown hK hP 3 rfl rfl 1 (by decide) (hts _ tw_254) (fun _ h9 => h9) rfl dX1_chainThere_86 ?_
                      refine va_alen (pc := 89) hx hb hK hP 0 0 rfl rfl (v := nI 16) rfl dX1_chainThere_89 ?_
                      refine lv_icmp_ge (pc := 90) (tgt := 129) hx hb dX1_chainThere_90 (by decide) (fun c_8 => ?_) (fun c_8 => ?_)
                      · skip
                        rw [nI_leI (by omega) (by omega)] at c_8
                        refine lv_iload (pc := 129) hx hb dX1_chainThere_129 (lv_at hl 1 rfl) ?_
                        refine lv_aload_n (pc := 131) hx hb dX1_chainThere_131 rfl (lv_at hl 2 rfl) ?_
                        refine va_get (pc := 132) (D := D) (ci := 0) (v := .ref b1) (C := RX0) (T := TX0) (N := 7) hx hb hts iu0 hown hK hP 3 rfl rfl 0 (by decide) (hts _ tw_249) (fun _ h9 => h9) rfl dX1_chainThere_132 ?_
                        refine va_alen (pc := 135) hx hb hK hP 4 0 rfl rfl (v := nI 16) rfl dX1_chainThere_135 ?_
                        refine lv_iadd (pc := 136) hx hb dX1_chainThere_136 ?_
                        refine q_top (y := nI (f0 + 16 * c + 16)) (nI_add (f0 + 16 * c) 16) ?_
                        refine lv_istore (pc := 137) (lv' := [(4, .int (nI (f0 + 16 * c + 16))), (5, .int (nI e)), (0, .ref ha), (1, .ref hr), (2, .int (nI f0)), (3, .int (nI t0))]) hx hb dX1_chainThere_137 hl (by decide) rfl (fun ls hl => ?_)
                        refine lv_goto (pc := 139) (tgt := 3) hx hb dX1_chainThere_139 (by decide) ?_
                        exact ih3 (c + 1) gb1_67 c' sw1_67 xw1_67 e' (by omega) (by rw [show 16 * (c + 1) = 16 * c + e by omega]; exact hr2) (by rw [← hB, ← seg_0, qSeg_segk hb2 (by omega)]) (by omega) _ _ (hP.sub [3, 4, 0, 5, 6, 7, 8, 1, 2] rfl) (hD.sub [3, 4, 0, 5, 6, 7, 8, 1, 2] (by decide) rfl) hS ls (lv_sub hl [0, 2, 3, 4, 5] rfl)
                      · skip
                        rw [nI_leI (by omega) (by omega)] at c_8
                        refine lv_aload_n (pc := 93) hx hb dX1_chainThere_93 rfl (lv_at hl 3 rfl) ?_
                        refine lv_iload (pc := 94) hx hb dX1_chainThere_94 (lv_at hl 1 rfl) ?_
                        refine lv_iload (pc := 96) hx hb dX1_chainThere_96 (lv_at hl 0 rfl) ?_
                        refine lv_iadd (pc := 98) hx hb dX1_chainThere_98 ?_
                        refine q_top (y := nI (f0 + 16 * c + e)) (nI_add (f0 + 16 * c) e) ?_
                        refine lv_aload_n (pc := 99) hx hb dX1_chainThere_99 rfl (lv_at hl 2 rfl) ?_
                        refine va_get (pc := 100) (D := D) (ci := 0) (v := .ref b1) (C := RX0) (T := TX0) (N := 7) hx hb hts iu0 hown hK hP 3 rfl rfl 0 (by decide) (hts _ tw_249) (fun _ h9 => h9) rfl dX1_chainThere_100 ?_
                        refine lv_iload (pc := 103) hx hb dX1_chainThere_103 (lv_at hl 0 rfl) ?_
                        refine q_iald (pc := 105) hx hb hK hP 4 0 rfl rfl (k := e) (v := qz (gb1_67 e)) rfl (by omega) (by omega) rfl dX1_chainThere_105 ?_
                        refine cs_V (pc := 106) (idx := 25) (n := 2) (wr := [(b2, aZ ta 16 c'), (ha, oA b1 b2 b3 b4 b5 b6 (nK / 4 + 6)), (b1, aZ ta 16 gb1_67), (b3, aZ ta 256 UBOX), (b4, aI ta 64 kw), (b5, aI ta 4 sw1_67), (b6, aI ta 4 xw1_67)]) (As := [.int (nI (f0 + 16 * c + e)), .int (qz (gb1_67 e))]) (rest := []) (ci := 5) hx hb hml hown hts hGok hK hA hG hl.1 hP hD hS (ct_X6_put ll D ta hGok hr br capr e' n (f0 + 16 * c + e) (qz (gb1_67 e)) (by first | assumption | omega | rfl | decide) (by first | assumption | omega | rfl | decide) (by first | assumption | omega | rfl | decide) H.size) tw_425 tw_585 tw_423 tw_424 tw_66 hdX6_put rfl ⟨rfl, rfl, Nat.le_of_ble_eq_true rfl, Nat.le_of_ble_eq_true rfl, Nat.le_of_ble_eq_true rfl, Nat.le_of_ble_eq_true rfl⟩ rfl rfl (q0 := 1) rfl [1, 2] [0, 3, 4, 5, 6, 7, 8] rfl rfl (by decide) rfl (Nat.le_of_ble_eq_true rfl) dX1_chainThere_106 (fun u H locs hq hP hD hS => ?_)
                        generalize u = g1_106 at hq hP hD ⊢
                        have hq : (g1_106 = qU e' (f0 + 16 * c + e) (qlo (qz (gb1_67 e)))) := hq
                        have hg_106 := hq
                        refine W.eq (g2 := F0 mm 109 ls []) rfl ?_
                        have hP : va_P D vwCl [(b2, aZ ta 16 c'), (ha, oA b1 b2 b3 b4 b5 b6 (nK / 4 + 6)), (b1, aZ ta 16 gb1_67), (b3, aZ ta 256 UBOX), (b4, aI ta 64 kw), (b5, aI ta 4 sw1_67), (b6, aI ta 4 xw1_67), (hr, oR br n), (br, aZ ta capr g1_106)] H := hP
                        have hD : va_D A [(b2, aZ ta 16 c'), (ha, oA b1 b2 b3 b4 b5 b6 (nK / 4 + 6)), (b1, aZ ta 16 gb1_67), (b3, aZ ta 256 UBOX), (b4, aI ta 64 kw), (b5, aI ta 4 sw1_67), (b6, aI ta 4 xw1_67), (hr, oR br n), (br, aZ ta capr g1_106)] := hD
                        refine lv_aload_n (pc := 109) hx hb dX1_chainThere_109 rfl (lv_at hl 2 rfl) ?_
                        refine va_get (pc := 110) (D := D) (ci := 0) (v := .ref b2) (C := RX0) (T := TX0) (N := 7) hx hb hts iu0 hown hK hP 1 rfl rfl 1 (by decide) (hts _ tw_254) (fun _ h9 => h9) rfl dX1_chainThere_110 ?_
                        refine lv_iload (pc := 113) hx hb dX1_chainThere_113 (lv_at hl 0 rfl) ?_
                        refine lv_aload_n (pc := 115) hx hb dX1_chainThere_115 rfl (lv_at hl 2 rfl) ?_
                        refine va_get (pc := 116) (D := D) (ci := 0) (v := .ref b1) (C := RX0) (T := TX0) (N := 7) hx hb hts iu0 hown hK hP 1 rfl rfl 0 (by decide) (hts _ tw_249) (fun _ h9 => h9) rfl dX1_chainThere_116 ?_
                        refine lv_iload (pc := 119) hx hb dX1_chainThere_119 (lv_at hl 0 rfl) ?_
                        refine q_iald (pc := 121) hx hb hK hP 2 0 rfl rfl (k := e) (v := qz (gb1_67 e)) rfl (by omega) (by omega) rfl dX1_chainThere_121 ?_
                        refine q_iastZ (pc := 122) hx hb hK hP hD hS 0 0 rfl rfl (k := e) rfl (by omega) (by omega) (b := gb1_67 e) rfl dX1_chainThere_122 (fun H locs hP hD hS => ?_)
                        have hP : va_P D vwCl [(b2, aZ ta 16 (qU c' e (gb1_67 e))), (ha, oA b1 b2 b3 b4 b5 b6 (nK / 4 + 6)), (b1, aZ ta 16 gb1_67), (b3, aZ ta 256 UBOX), (b4, aI ta 64 kw), (b5, aI ta 4 sw1_67), (b6, aI ta 4 xw1_67), (hr, oR br n), (br, aZ ta capr g1_106)] H := hP
                        have hD : va_D A [(b2, aZ ta 16 (qU c' e (gb1_67 e))), (ha, oA b1 b2 b3 b4 b5 b6 (nK / 4 + 6)), (b1, aZ ta 16 gb1_67), (b3, aZ ta 256 UBOX), (b4, aI ta 64 kw), (b5, aI ta 4 sw1_67), (b6, aI ta 4 xw1_67), (hr, oR br n), (br, aZ ta capr g1_106)] := hD
                        refine lv_iinc (pc := 123) (v := nI (e + 1)) (lv' := [(5, .int (nI (e + 1))), (4, .int (nI (f0 + 16 * c))), (0, .ref ha), (1, .ref hr), (2, .int (nI f0)), (3, .int (nI t0))]) hx hb dX1_chainThere_123 hl (k := 0) rfl (by first | exact nI_add e 1 | rfl) (by decide) rfl (fun ls hl => ?_)
                        refine lv_goto (pc := 126) (tgt := 73) hx hb dX1_chainThere_126 (by decide) ?_
                        exact ih73 (e + 1) g1_106 (qU c' e (gb1_67 e)) (by omega) (by rw [hg_106]; exact cbc_put (by omega) hr2 hB (by omega) (qlo_qz _)) (qSeg_s hb2 (by omega) rfl) (by omega) _ _ (hP.sub [0, 7, 8, 1, 2, 3, 4, 5, 6] rfl) (hD.sub [0, 7, 8, 1, 2, 3, 4, 5, 6] (by decide) rfl) hS ls (lv_sub hl [0, 1, 2, 3, 4, 5] rfl)
                exact LP73 _ 0 r' b' (by omega) (hr1) (qSeg_0) (Nat.lt_succ_self _) _ _ (hP.sub [0, 1, 2, 3, 4, 5, 6, 7, 8] rfl) (hD.sub [0, 1, 2, 3, 4, 5, 6, 7, 8] (by decide) rfl) hS ls (lv_sub hl [0, 1, 2, 3, 4, 5] rfl)
              · skip
                rw [nI_leI (by omega) (by omega)] at c_6
                refine lv_aload_n (pc := 32) hx hb dX1_chainThere_32 rfl (lv_at hl 2 rfl) ?_
                refine va_get (pc := 33) (D := D) (ci := 0) (v := .ref b1) (C := RX0) (T := TX0) (N := 7) hx hb hts iu0 hown hK hP 0 rfl rfl 0 (by decide) (hts _ tw_249) (fun _ h9 => h9) rfl dX1_chainThere_33 ?_
                refine lv_iload (pc := 36) hx hb dX1_chainThere_36 (lv_at hl 0 rfl) ?_
                refine lv_aload_n (pc := 38) hx hb dX1_chainThere_38 rfl (lv_at hl 3 rfl) ?_
                refine lv_iload (pc := 39) hx hb dX1_chainThere_39 (lv_at hl 1 rfl) ?_
                refine lv_iload (pc := 41) hx hb dX1_chainThere_41 (lv_at hl 0 rfl) ?_
                refine lv_iadd (pc := 43) hx hb dX1_chainThere_43 ?_
                refine q_top (y := nI (f0 + 16 * c + d)) (nI_add (f0 + 16 * c) d) ?_
                refine cs_V (pc := 44) (idx := 16) (n := 1) (wr := [(ha, oA b1 b2 b3 b4 b5 b6 (nK / 4 + 6)), (b1, aZ ta 16 d'), (b2, aZ ta 16 b'), (b3, aZ ta 256 UBOX), (b4, aI ta 64 kw), (b5, aI ta 4 is'), (b6, aI ta 4 ix')]) (As := [.int (nI (f0 + 16 * c + d))]) (rest := [.int (nI d), .ref b1]) (ci := 5) hx hb hml hown hts hGok hK hA hG hl.1 hP hD hS (ct_X6_at_in ll D ta hGok hr br capr r' n (f0 + 16 * c + d) (by first | assumption | omega | rfl | decide) (by first | assumption | omega | rfl | decide) (by first | assumption | omega | rfl | decide) H.size) tw_413 tw_528 tw_411 tw_412 tw_66 hdX6_at rfl ⟨rfl, rfl, Nat.le_of_ble_eq_true rfl, Nat.le_of_ble_eq_true rfl, Nat.le_of_ble_eq_true rfl, Nat.le_of_ble_eq_true rfl⟩ rfl rfl (q0 := 7) rfl [7, 8] [0, 1, 2, 3, 4, 5, 6] rfl rfl (by decide) rfl (Nat.le_of_ble_eq_true rfl) dX1_chainThere_44 (fun u H locs hq hP hD hS => ?_)
                refine W.eq (g2 := F0 mm 47 ls [.int (qz (r' (f0 + 16 * c + d))), .int (nI d), .ref b1]) rfl ?_
                have hP : va_P D vwCl [(ha, oA b1 b2 b3 b4 b5 b6 (nK / 4 + 6)), (b1, aZ ta 16 d'), (b2, aZ ta 16 b'), (b3, aZ ta 256 UBOX), (b4, aI ta 64 kw), (b5, aI ta 4 is'), (b6, aI ta 4 ix'), (hr, oR br n), (br, aZ ta capr r')] H := hP
                have hD : va_D A [(ha, oA b1 b2 b3 b4 b5 b6 (nK / 4 + 6)), (b1, aZ ta 16 d'), (b2, aZ ta 16 b'), (b3, aZ ta 256 UBOX), (b4, aI ta 64 kw), (b5, aI ta 4 is'), (b6, aI ta 4 ix'), (hr, oR br n), (br, aZ ta capr r')] := hD
                refine lv_aload_n (pc := 47) hx hb dX1_chainThere_47 rfl (lv_at hl 2 rfl) ?_
                refine va_get (pc := 48) (D := D) (ci := 0) (v := .ref b2) (C := RX0) (T := TX0) (N := 7) hx hb hts iu0 hown hK hP 0 rfl rfl 1 (by decide) (hts _ tw_254) (fun _ h9 => h9) rfl dX1_chainThere_48 ?_
                refine lv_iload (pc := 51) hx hb dX1_chainThere_51 (lv_at hl 0 rfl) ?_
                refine q_iald (pc := 53) hx hb hK hP 2 0 rfl rfl (k := d) (v := qz (b' d)) rfl (by omega) (by omega) rfl dX1_chainThere_53 ?_
                refine lv_ixor (pc := 54) hx hb dX1_chainThere_54 ?_
                refine q_top (y := qz ((r' (f0 + 16 * c + d)) ^^^ (b' d))) (q_xor_z _ _) ?_
                refine lv_sipush (pc := 55) (v := nI 255) hx hb dX1_chainThere_55 (by decide +kernel) ?_
                refine lv_iand (pc := 58) hx hb dX1_chainThere_58 ?_
                refine q_top (y := qz ((r' (f0 + 16 * c + d)) ^^^ (b' d))) (q_and255z _) ?_
                refine q_iastZ (pc := 59) hx hb hK hP hD hS 1 0 rfl rfl (k := d) rfl (by omega) (by omega) (b := (r' (f0 + 16 * c + d)) ^^^ (b' d)) rfl dX1_chainThere_59 (fun H locs hP hD hS => ?_)
                have hP : va_P D vwCl [(ha, oA b1 b2 b3 b4 b5 b6 (nK / 4 + 6)), (b1, aZ ta 16 (qU d' d ((r' (f0 + 16 * c + d)) ^^^ (b' d)))), (b2, aZ ta 16 b'), (b3, aZ ta 256 UBOX), (b4, aI ta 64 kw), (b5, aI ta 4 is'), (b6, aI ta 4 ix'), (hr, oR br n), (br, aZ ta capr r')] H := hP
                have hD : va_D A [(ha, oA b1 b2 b3 b4 b5 b6 (nK / 4 + 6)), (b1, aZ ta 16 (qU d' d ((r' (f0 + 16 * c + d)) ^^^ (b' d)))), (b2, aZ ta 16 b'), (b3, aZ ta 256 UBOX), (b4, aI ta 64 kw), (b5, aI ta 4 is'), (b6, aI ta 4 ix'), (hr, oR br n), (br, aZ ta capr r')] := hD
                refine lv_iinc (pc := 60) (v := nI (d + 1)) (lv' := [(5, .int (nI (d + 1))), (4, .int (nI (f0 + 16 * c))), (0, .ref ha), (1, .ref hr), (2, .int (nI f0)), (3, .int (nI t0))]) hx hb dX1_chainThere_60 hl (k := 0) rfl (by first | exact nI_add d 1 | rfl) (by decide) rfl (fun ls hl => ?_)
                refine lv_goto (pc := 63) (tgt := 12) hx hb dX1_chainThere_63 (by decide) ?_
                exact ih12 (d + 1) (qU d' d ((r' (f0 + 16 * c + d)) ^^^ (b' d))) (by omega) (qSeg_s hd (by omega) rfl) (by omega) _ _ (hP.sub [0, 1, 2, 3, 4, 5, 6, 7, 8] rfl) (hD.sub [0, 1, 2, 3, 4, 5, 6, 7, 8] (by decide) rfl) hS ls (lv_sub hl [0, 1, 2, 3, 4, 5] rfl)
        exact LP12 _ 0 g' (by omega) (qSeg_0) (Nat.lt_succ_self _) _ _ (hP.sub [0, 1, 2, 3, 4, 5, 6, 7, 8] rfl) (hD.sub [0, 1, 2, 3, 4, 5, 6, 7, 8] (by decide) rfl) hS ls (lv_sub hl [0, 1, 2, 3, 4, 5] rfl)
  exact LP3 _ 0 gb bf is ix gr (by omega) (qSeg_0) (rfl) (Nat.lt_succ_self _) _ _ (hP.sub [0, 1, 2, 3, 4, 5, 6, 7, 8] rfl) (hD.sub [0, 1, 2, 3, 4, 5, 6, 7, 8] (by decide) rfl) hS ls (lv_sub hl [0, 1, 2, 3, 4] rfl)
set_option maxHeartbeats 4000000 in
set_option maxRecDepth 100000 in
theorem ct_X1_chainBack_A (ll : Launch) (D : va_G) (ta : Nat → ClassId) (gs : Nat → Nat) (ha : Nat) (b1 : Nat) (b2 : Nat) (b3 : Nat) (b4 : Nat) (b5 : Nat) (b6 : Nat) (gb : Nat → BitVec 8) (bf : Nat → BitVec 8) (kw : Nat → Int32) (is : Nat → Int32) (ix : Nat → Int32) (K : Bytes) (nK : Nat) (hr : Nat) (br : Nat) (capr : Nat) (gr : Nat → BitVec 8) (n : Nat) (f0 : Nat) (t0 : Nat) (m : Nat) (hKn : K.length = nK) (hn3 : nK = 16 ∨ nK = 24 ∨ nK = 32) (hkw : ∀ j, j < 4 * (nK / 4 + 7) → kw j = wdF (aKx K) j) (hn : n ≤ capr) (hcr : capr < 2147483648) (ht : t0 = f0 + 16 * m) (htn : t0 ≤ n) (sz : Nat) : CT ll yX1_chainBack cX1_chainBack 7 none ({ frames := 2, cells := 0, slots := 0, locals := 56 } : Room) D ta ((GC gs)) [.ref ha, .ref hr, .int (nI f0), .int (nI t0)] [(ha, oA b1 b2 b3 b4 b5 b6 (nK / 4 + 6)), (b1, aZ ta 16 gb), (b2, aZ ta 16 bf), (b3, aZ ta 256 UBOX), (b4, aI ta 64 kw), (b5, aI ta 4 is), (b6, aI ta 4 ix), (hr, oR br n), (br, aZ ta capr gr)] sz (S := (Nat → BitVec 8) × (Nat → BitVec 8) × (Nat → Int32) × (Nat → Int32) × (Nat → BitVec 8)) (fun _ => none) (fun u => (qSeg u.2.2.2.2 gr f0 (16 * m) (decF (aesD K) 16 (qL bf 16) (seg gr f0 (16 * m))))) (fun u => [(ha, oA b1 b2 b3 b4 b5 b6 (nK / 4 + 6)), (b1, aZ ta 16 u.1), (b2, aZ ta 16 u.2.1), (b3, aZ ta 256 UBOX), (b4, aI ta 64 kw), (b5, aI ta 4 u.2.2.1), (b6, aI ta 4 u.2.2.2.1), (hr, oR br n), (br, aZ ta capr u.2.2.2.2)]) 0 0 := by
  refine CT.of_v rfl (by decide) (Nat.le_of_ble_eq_true rfl) ?_
  have hGok := GC_ok gs
  intro pp ee ss mm below meth kc A Q hx hb hml hown hin hts hK hA hsz hG hret H locs hP hD hS ls hl
  have hl : lv_has ls 7 [(0, .ref ha), (1, .ref hr), (2, .int (nI f0)), (3, .int (nI t0))] := hl
  refine lv_iload_n (pc := 0) hx hb dX1_chainBack_0 rfl (lv_at hl 2 rfl) ?_
  refine lv_istore (pc := 1) (lv' := [(4, .int (nI f0)), (0, .ref ha), (1, .ref hr), (2, .int (nI f0)), (3, .int (nI t0))]) hx hb dX1_chainBack_1 hl (by decide) rfl (fun ls hl => ?_)
  have LP3 : ∀ (nn3 : Nat) (c : Nat) (g' : Nat → BitVec 8) (b' : Nat → BitVec 8) (is' : Nat → Int32) (ix' : Nat → Int32) (r' : Nat → BitVec 8), (c ≤ m) → (qSeg r' gr f0 (16 * c) (decF (aesD K) 16 (qL bf 16) (seg gr f0 (16 * m)))) → (qL b' 16 = if c = 0 then (qL bf 16) else seg gr (f0 + 16 * (c - 1)) 16) → (m - c < nn3) → ∀ (H : Heap) (locs : List Loc), va_P D vwCl [(ha, oA b1 b2 b3 b4 b5 b6 (nK / 4 + 6)), (b1, aZ ta 16 g'), (b2, aZ ta 16 b'), (b3, aZ ta 256 UBOX), (b4, aI ta 64 kw), (b5, aI ta 4 is'), (b6, aI ta 4 ix'), (hr, oR br n), (br, aZ ta capr r')] H → va_D A [(ha, oA b1 b2 b3 b4 b5 b6 (nK / 4 + 6)), (b1, aZ ta 16 g'), (b2, aZ ta 16 b'), (b3, aZ ta 256 UBOX), (b4, aI ta 64 kw), (b5, aI ta 4 is'), (b6, aI ta 4 ix'), (hr, oR br n), (br, aZ ta capr r')] → va_S A ss.heap H locs → ∀ ls : Array Slot, lv_has ls 7 [(4, .int (nI (f0 + 16 * c))), (0, .ref ha), (1, .ref hr), (2, .int (nI f0)), (3, .int (nI t0))] → W pp ll ee ({ frames := 2, cells := 0, slots := 0, locals := 56 } : Room) ss mm (([.ref ha, .ref hr, .int (nI f0), .int (nI t0)] : List Value).toArray) below meth kc H locs 0 0 Q (F0 mm 3 ls []) := by
    intro nn3
    induction nn3 with
    | zero => intro c g' b' is' ix' r' hcc hr1 hb1 hmu; exact absurd hmu (Nat.not_lt_zero _)
    | succ nn3 ih3 =>
      intro c g' b' is' ix' r' hcc hr1 hb1 hmu3 H locs hP hD hS ls hl
      refine lv_iload (pc := 3) hx hb dX1_chainBack_3 (lv_at hl 0 rfl) ?_
      refine lv_iload_n (pc := 5) hx hb dX1_chainBack_5 rfl (lv_at hl 4 rfl) ?_
      refine lv_icmp_ge (pc := 6) (tgt := 142) hx hb dX1_chainBack_6 (by decide) (fun c_1 => ?_) (fun c_1 => ?_)
      · skip
        rw [nI_leI (by omega) (by omega)] at c_1
        have hq_2 : (qSeg r' gr f0 (16 * m) (decF (aesD K) 16 (qL bf 16) (seg gr f0 (16 * m)))) := by
          have ec : c = m := by omega
          subst ec
          exact hr1
        exact hret (⟨(g'), (b'), (is'), (ix'), (r')⟩ : (Nat → BitVec 8) × (Nat → BitVec 8) × (Nat → Int32) × (Nat → Int32) × (Nat → BitVec 8)) _ _ _ _ dX1_chainBack_142 hq_2 (hP.sub [0, 1, 2, 3, 4, 5, 6, 7, 8] rfl) (hD.sub [0, 1, 2, 3, 4, 5, 6, 7, 8] (by decide) rfl) hS
      · skip
        rw [nI_leI (by omega) (by omega)] at c_1
        refine lv_iconst (pc := 9) (v := nI 0) hx hb dX1_chainBack_9 (by decide +kernel) ?_
        refine lv_istore (pc := 10) (lv' := [(5, .int (nI 0)), (4, .int (nI (f0 + 16 * c))), (0, .ref ha), (1, .ref hr), (2, .int (nI f0)), (3, .int (nI t0))]) hx hb dX1_chainBack_10 hl (by decide) rfl (fun ls hl => ?_)
        have LP12 : ∀ (nn12 : Nat) (d : Nat) (d' : Nat → BitVec 8), (d ≤ 16) → (qSeg d' g' 0 d (fun k => gr (f0 + 16 * c + k))) → (16 - d < nn12) → ∀ (H : Heap) (locs : List Loc), va_P D vwCl [(ha, oA b1 b2 b3 b4 b5 b6 (nK / 4 + 6)), (b1, aZ ta 16 d'), (b2, aZ ta 16 b'), (b3, aZ ta 256 UBOX), (b4, aI ta 64 kw), (b5, aI ta 4 is'), (b6, aI ta 4 ix'), (hr, oR br n), (br, aZ ta capr r')] H → va_D A [(ha, oA b1 b2 b3 b4 b5 b6 (nK / 4 + 6)), (b1, aZ ta 16 d'), (b2, aZ ta 16 b'), (b3, aZ ta 256 UBOX), (b4, aI ta 64 kw), (b5, aI ta 4 is'), (b6, aI ta 4 ix'), (hr, oR br n), (br, aZ ta capr r')] → va_S A ss.heap H locs → ∀ ls : Array Slot, lv_has ls 7 [(5, .int (nI d)), (4, .int (nI (f0 + 16 * c))), (0, .ref ha), (1, .ref hr), (2, .int (nI f0)), (3, .int (nI t0))] → W pp ll ee ({ frames := 2, cells := 0, slots := 0, locals := 56 } : Room) ss mm (([.ref ha, .ref hr, .int (nI f0), .int (nI t0)] : List Value).toArray) below meth kc H locs 0 0 Q (F0 mm 12 ls []) := by
          intro nn12
          induction nn12 with
          | zero => intro d d' hdd hd hmu; exact absurd hmu (Nat.not_lt_zero _)
          | succ nn12 ih12 =>
            intro d d' hdd hd hmu12 H locs hP hD hS ls hl
            refine lv_iload (pc := 12) hx hb dX1_chainBack_12 (lv_at hl 0 rfl) ?_
            refine lv_aload_n (pc := 14) hx hb dX1_chainBack_14 rfl (lv_at hl 2 rfl) ?_
            refine va_get (pc := 15) (D := D) (ci := 0) (v := .ref b1) (C := RX0) (T := TX0) (N := 7) hx hb hts iu0 hown hK hP 0 rfl rfl 0 (by decide) (hts _ tw_249) (fun _ h9 => h9) rfl dX1_chainBack_15 ?_
            refine va_alen (pc := 18) hx hb hK hP 1 0 rfl rfl (v := nI 16) rfl dX1_chainBack_18 ?_
            refine lv_icmp_ge (pc := 19) (tgt := 48) hx hb dX1_chainBack_19 (by decide) (fun c_3 => ?_) (fun c_3 => ?_)
            · skip
              rw [nI_leI (by omega) (by omega)] at c_3
              refine lv_aload_n (pc := 48) hx hb dX1_chainBack_48 rfl (lv_at hl 2 rfl) ?_
              refine cs_U (pc := 49) (idx := 29) (n := 0) (wr := [(b2, aZ ta 16 b'), (hr, oR br n), (br, aZ ta capr r')]) (As := []) (rest := []) (ci := 0) (x := ⟨"LineGuard$BlockCipher", "back", "()V"⟩) (owner := "LineGuard$BlockCipher") hx hb hml hown hts hGok hK hA hG hl.1 hP hD hS (ct_X0_back_L ll D ta gs ha b1 b2 b3 b4 b5 b6 d' kw is' ix' K nK (by first | assumption | omega | rfl | decide) (by first | assumption | omega | rfl | decide) (by first | assumption | omega | rfl | decide) H.size) tw_823 tw_818 tw_822 tw_821 tw_74 tw_820 (va_Decl.abs (GC_w819 hG)) ⟨by decide +kernel, by decide +kernel, by decide +kernel⟩ rfl ⟨rfl, rfl, Nat.le_of_ble_eq_true rfl, Nat.le_of_ble_eq_true rfl, Nat.le_of_ble_eq_true rfl, Nat.le_of_ble_eq_true rfl⟩ rfl (q0 := 0) rfl [0, 1, 3, 4, 5, 6] [2, 7, 8] rfl rfl (by decide) rfl (Nat.le_of_ble_eq_true rfl) dX1_chainBack_49 (fun u H locs hq hP hD hS => ?_)
              obtain ⟨gb1_49, sw1_49, xw1_49⟩ := u
              have hq : (qL gb1_49 16 = aesD K (qL d' 16)) := hq
              have hs_49 := hq
              refine W.eq (g2 := F0 mm 52 ls []) rfl ?_
              have hP : va_P D vwCl [(b2, aZ ta 16 b'), (hr, oR br n), (br, aZ ta capr r'), (ha, oA b1 b2 b3 b4 b5 b6 (nK / 4 + 6)), (b1, aZ ta 16 gb1_49), (b3, aZ ta 256 UBOX), (b4, aI ta 64 kw), (b5, aI ta 4 sw1_49), (b6, aI ta 4 xw1_49)] H := hP
              have hD : va_D A [(b2, aZ ta 16 b'), (hr, oR br n), (br, aZ ta capr r'), (ha, oA b1 b2 b3 b4 b5 b6 (nK / 4 + 6)), (b1, aZ ta 16 gb1_49), (b3, aZ ta 256 UBOX), (b4, aI ta 64 kw), (b5, aI ta 4 sw1_49), (b6, aI ta 4 xw1_49)] := hD
              have hB := hs_49
              rw [← seg_0 (g := d'), qSeg_segk hd (by omega)] at hB
              refine lv_iconst (pc := 52) (v := nI 0) hx hb dX1_chainBack_52 (by decide +kernel) ?_
              refine lv_istore (pc := 53) (lv' := [(5, .int (nI 0)), (4, .int (nI (f0 + 16 * c))), (0, .ref ha), (1, .ref hr), (2, .int (nI f0)), (3, .int (nI t0))]) hx hb dX1_chainBack_53 hl (by decide) rfl (fun ls hl => ?_)
              have LP55 : ∀ (nn55 : Nat) (e : Nat) (e' : Nat → BitVec 8) (c' : Nat → BitVec 8), (e ≤ 16) → (qSeg e' gr f0 (16 * c + e) (decF (aesD K) 16 (qL bf 16) (seg gr f0 (16 * m)))) → (qSeg c' b' 0 e (fun k => gr (f0 + 16 * c + k))) → (16 - e < nn55) → ∀ (H : Heap) (locs : List Loc), va_P D vwCl [(b2, aZ ta 16 c'), (hr, oR br n), (br, aZ ta capr e'), (ha, oA b1 b2 b3 b4 b5 b6 (nK / 4 + 6)), (b1, aZ ta 16 gb1_49), (b3, aZ ta 256 UBOX), (b4, aI ta 64 kw), (b5, aI ta 4 sw1_49), (b6, aI ta 4 xw1_49)] H → va_D A [(b2, aZ ta 16 c'), (hr, oR br n), (br, aZ ta capr e'), (ha, oA b1 b2 b3 b4 b5 b6 (nK / 4 + 6)), (b1, aZ ta 16 gb1_49), (b3, aZ ta 256 UBOX), (b4, aI ta 64 kw), (b5, aI ta 4 sw1_49), (b6, aI ta 4 xw1_49)] → va_S A ss.heap H locs → ∀ ls : Array Slot, lv_has ls 7 [(5, .int (nI e)), (4, .int (nI (f0 + 16 * c))), (0, .ref ha), (1, .ref hr), (2, .int (nI f0)), (3, .int (nI t0))] → W pp ll ee ({ frames := 2, cells := 0, slots := 0, locals := 56 } : Room) ss mm (([.ref ha, .ref hr, .int (nI f0), .int (nI t0)] : List Value).toArray) below meth kc H locs 0 0 Q (F0 mm 55 ls []) := by
                intro nn55
                induction nn55 with
                | zero => intro e e' c' hee hr2 hb2 hmu; exact absurd hmu (Nat.not_lt_zero _)
                | succ nn55 ih55 =>
                  intro e e' c' hee hr2 hb2 hmu55 H locs hP hD hS ls hl
                  refine lv_iload (pc := 55) hx hb dX1_chainBack_55 (lv_at hl 0 rfl) ?_
                  refine lv_aload_n (pc := 57) hx hb dX1_chainBack_57 rfl (lv_at hl 2 rfl) ?_
                  refine va_get (pc := 58) (D := D) (ci := 0) (v := .ref b1) (C := RX0) (T := TX0) (N := 7) hx hb hts iu0 hown hK hP 3 rfl rfl 0 (by decide) (hts _ tw_249) (fun _ h9 => h9) rfl dX1_chainBack_58 ?_
                  refine va_alen (pc := 61) hx hb hK hP 4 0 rfl rfl (v := nI 16) rfl dX1_chainBack_61 ?_
                  refine lv_icmp_ge (pc := 62) (tgt := 129) hx hb dX1_chainBack_62 (by decide) (fun c_4 => ?_) (fun c_4 => ?_)
                  · skip
                    rw [nI_leI (by omega) (by omega)] at c_4
                    refine lv_iload (pc := 129) hx hb dX1_chainBack_129 (lv_at hl 1 rfl) ?_
                    refine lv_aload_n (pc := 131) hx hb dX1_chainBack_131 rfl (lv_at hl 2 rfl) ?_
                    refine va_get (pc := 132) (D := D) (ci := 0) (v := .ref b1) (C := RX0) (T := TX0) (N := 7) hx hb hts iu0 hown hK hP 3 rfl rfl 0 (by decide) (hts _ tw_249) (fun _ h9 => h9) rfl dX1_chainBack_132 ?_
                    refine va_alen (pc := 135) hx hb hK hP 4 0 rfl rfl (v := nI 16) rfl dX1_chainBack_135 ?_
                    refine lv_iadd (pc := 136) hx hb dX1_chainBack_136 ?_
                    refine q_top (y := nI (f0 + 16 * c + 16)) (nI_add (f0 + 16 * c) 16) ?_
                    refine lv_istore (pc := 137) (lv' := [(4, .int (nI (f0 + 16 * c + 16))), (5, .int (nI e)), (0, .ref ha), (1, .ref hr), (2, .int (nI f0)), (3, .int (nI t0))]) hx hb dX1_chainBack_137 hl (by decide) rfl (fun ls hl => ?_)
                    refine lv_goto (pc := 139) (tgt := 3) hx hb dX1_chainBack_139 (by decide) ?_
                    exact ih3 (c + 1) gb1_49 c' sw1_49 xw1_49 e' (by omega) (by rw [show 16 * (c + 1) = 16 * c + e by omega]; exact hr2) (by rw [if_neg (by omega), ← seg_0, qSeg_segk hb2 (by omega)]; rfl) (by omega) _ _ (hP.sub [3, 4, 0, 5, 6, 7, 8, 1, 2] rfl) (hD.sub [3, 4, 0, 5, 6, 7, 8, 1, 2] (by decide) rfl) hS ls (lv_sub hl [0, 2, 3, 4, 5] rfl)
                  · skip
                    rw [nI_leI (by omega) (by omega)] at c_4
                    refine lv_iload (pc := 65) hx hb dX1_chainBack_65 (lv_at hl 0 rfl) ?_
                    refine lv_aload_n (pc := 67) hx hb dX1_chainBack_67 rfl (lv_at hl 2 rfl) ?_
                    refine va_get (pc := 68) (D := D) (ci := 0) (v := .ref b2) (C := RX0) (T := TX0) (N := 7) hx hb hts iu0 hown hK hP 3 rfl rfl 1 (by decide) (hts _ tw_254) (fun _ h9 => h9) rfl dX1_chainBack_68 ?_
                    refine va_alen (pc := 71) hx hb hK hP 0 0 rfl rfl (v := nI 16) rfl dX1_chainBack_71 ?_
                    refine lv_icmp_ge (pc := 72) (tgt := 129) hx hb dX1_chainBack_72 (by decide) (fun c_5 => ?_) (fun c_5 => ?_)
                    · skip
                      rw [nI_leI (by omega) (by omega)] at c_5
                      refine lv_iload (pc := 129) hx hb dX1_chainBack_129 (lv_at hl 1 rfl) ?_
                      refine lv_aload_n (pc := 131) hx hb dX1_chainBack_131 rfl (lv_at hl 2 rfl) ?_
                      refine va_get (pc := 132) (D := D) (ci := 0) (v := .ref b1) (C := RX0) (T := TX0) (N := 7) hx hb hts iu0 hown hK hP 3 rfl rfl 0 (by decide) (hts _ tw_249) (fun _ h9 => h9) rfl dX1_chainBack_132 ?_
                      refine va_alen (pc := 135) hx hb hK hP 4 0 rfl rfl (v := nI 16) rfl dX1_chainBack_135 ?_
                      refine lv_iadd (pc := 136) hx hb dX1_chainBack_136 ?_
                      refine q_top (y := nI (f0 + 16 * c + 16)) (nI_add (f0 + 16 * c) 16) ?_
                      refine lv_istore (pc := 137) (lv' := [(4, .int (nI (f0 + 16 * c + 16))), (5, .int (nI e)), (0, .ref ha), (1, .ref hr), (2, .int (nI f0)), (3, .int (nI t0))]) hx hb dX1_chainBack_137 hl (by decide) rfl (fun ls hl => ?_)
                      refine lv_goto (pc := 139) (tgt := 3) hx hb dX1_chainBack_139 (by decide) ?_
                      exact ih3 (c + 1) gb1_49 c' sw1_49 xw1_49 e' (by omega) (by rw [show 16 * (c + 1) = 16 * c + e by omega]; exact hr2) (by rw [if_neg (by omega), ← seg_0, qSeg_segk hb2 (by omega)]; rfl) (by omega) _ _ (hP.sub [3, 4, 0, 5, 6, 7, 8, 1, 2] rfl) (hD.sub [3, 4, 0, 5, 6, 7, 8, 1, 2] (by decide) rfl) hS ls (lv_sub hl [0, 2, 3, 4, 5] rfl)
                    · skip
                      rw [nI_leI (by omega) (by omega)] at c_5
                      refine lv_aload_n (pc := 75) hx hb dX1_chainBack_75 rfl (lv_at hl 3 rfl) ?_
                      refine lv_iload (pc := 76) hx hb dX1_chainBack_76 (lv_at hl 1 rfl) ?_
                      refine lv_iload (pc := 78) hx hb dX1_chainBack_78 (lv_at hl 0 rfl) ?_
                      refine lv_iadd (pc := 80) hx hb dX1_chainBack_80 ?_
                      refine q_top (y := nI (f0 + 16 * c + e)) (nI_add (f0 + 16 * c) e) ?_
                      refine cs_V (pc := 81) (idx := 16) (n := 1) (wr := [(b2, aZ ta 16 c'), (ha, oA b1 b2 b3 b4 b5 b6 (nK / 4 + 6)), (b1, aZ ta 16 gb1_49), (b3, aZ ta 256 UBOX), (b4, aI ta 64 kw), (b5, aI ta 4 sw1_49), (b6, aI ta 4 xw1_49)]) (As := [.int (nI (f0 + 16 * c + e))]) (rest := []) (ci := 5) hx hb hml hown hts hGok hK hA hG hl.1 hP hD hS (ct_X6_at_in ll D ta hGok hr br capr e' n (f0 + 16 * c + e) (by first | assumption | omega | rfl | decide) (by first | assumption | omega | rfl | decide) (by first | assumption | omega | rfl | decide) H.size) tw_413 tw_528 tw_411 tw_412 tw_66 hdX6_at rfl ⟨rfl, rfl, Nat.le_of_ble_eq_true rfl, Nat.le_of_ble_eq_true rfl, Nat.le_of_ble_eq_true rfl, Nat.le_of_ble_eq_true rfl⟩ rfl rfl (q0 := 1) rfl [1, 2] [0, 3, 4, 5, 6, 7, 8] rfl rfl (by decide) rfl (Nat.le_of_ble_eq_true rfl) dX1_chainBack_81 (fun u H locs hq hP hD hS => ?_)
                      refine W.eq (g2 := F0 mm 84 ls [.int (qz (e' (f0 + 16 * c + e)))]) rfl ?_
                      have hP : va_P D vwCl [(b2, aZ ta 16 c'), (ha, oA b1 b2 b3 b4 b5 b6 (nK / 4 + 6)), (b1, aZ ta 16 gb1_49), (b3, aZ ta 256 UBOX), (b4, aI ta 64 kw), (b5, aI ta 4 sw1_49), (b6, aI ta 4 xw1_49), (hr, oR br n), (br, aZ ta capr e')] H := hP
                      have hD : va_D A [(b2, aZ ta 16 c'), (ha, oA b1 b2 b3 b4 b5 b6 (nK / 4 + 6)), (b1, aZ ta 16 gb1_49), (b3, aZ ta 256 UBOX), (b4, aI ta 64 kw), (b5, aI ta 4 sw1_49), (b6, aI ta 4 xw1_49), (hr, oR br n), (br, aZ ta capr e')] := hD
                      refine lv_sipush (pc := 84) (v := nI 255) hx hb dX1_chainBack_84 (by decide +kernel) ?_
                      refine lv_iand (pc := 87) hx hb dX1_chainBack_87 ?_
                      refine q_top (y := qz (e' (f0 + 16 * c + e))) (q_and255z _) ?_
                      refine lv_istore (pc := 88) (lv' := [(6, .int (qz (e' (f0 + 16 * c + e)))), (5, .int (nI e)), (4, .int (nI (f0 + 16 * c))), (0, .ref ha), (1, .ref hr), (2, .int (nI f0)), (3, .int (nI t0))]) hx hb dX1_chainBack_88 hl (by decide) rfl (fun ls hl => ?_)
                      refine lv_aload_n (pc := 90) hx hb dX1_chainBack_90 rfl (lv_at hl 4 rfl) ?_
                      refine lv_iload (pc := 91) hx hb dX1_chainBack_91 (lv_at hl 2 rfl) ?_
                      refine lv_iload (pc := 93) hx hb dX1_chainBack_93 (lv_at hl 1 rfl) ?_
                      refine lv_iadd (pc := 95) hx hb dX1_chainBack_95 ?_
                      refine q_top (y := nI (f0 + 16 * c + e)) (nI_add (f0 + 16 * c) e) ?_
                      refine lv_aload_n (pc := 96) hx hb dX1_chainBack_96 rfl (lv_at hl 3 rfl) ?_
                      refine va_get (pc := 97) (D := D) (ci := 0) (v := .ref b1) (C := RX0) (T := TX0) (N := 7) hx hb hts iu0 hown hK hP 1 rfl rfl 0 (by decide) (hts _ tw_249) (fun _ h9 => h9) rfl dX1_chainBack_97 ?_
                      refine lv_iload (pc := 100) hx hb dX1_chainBack_100 (lv_at hl 1 rfl) ?_
                      refine q_iald (pc := 102) hx hb hK hP 2 0 rfl rfl (k := e) (v := qz (gb1_49 e)) rfl (by omega) (by omega) rfl dX1_chainBack_102 ?_
                      refine lv_aload_n (pc := 103) hx hb dX1_chainBack_103 rfl (lv_at hl 3 rfl) ?_
                      refine va_get (pc := 104) (D := D) (ci := 0) (v := .ref b2) (C := RX0) (T := TX0) (N := 7) hx hb hts iu0 hown hK hP 1 rfl rfl 1 (by decide) (hts _ tw_254) (fun _ h9 => h9) rfl dX1_chainBack_104 ?_
                      refine lv_iload (pc := 107) hx hb dX1_chainBack_107 (lv_at hl 1 rfl) ?_
                      refine q_iald (pc := 109) hx hb hK hP 0 0 rfl rfl (k := e) (v := qz (c' e)) rfl (by omega) (by omega) rfl dX1_chainBack_109 ?_
                      refine lv_ixor (pc := 110) hx hb dX1_chainBack_110 ?_
                      refine q_top (y := qz ((gb1_49 e) ^^^ (c' e))) (q_xor_z _ _) ?_
                      refine cs_V (pc := 111) (idx := 25) (n := 2) (wr := [(b2, aZ ta 16 c'), (ha, oA b1 b2 b3 b4 b5 b6 (nK / 4 + 6)), (b1, aZ ta 16 gb1_49), (b3, aZ ta 256 UBOX), (b4, aI ta 64 kw), (b5, aI ta 4 sw1_49), (b6, aI ta 4 xw1_49)]) (As := [.int (nI (f0 + 16 * c + e)), .int (qz ((gb1_49 e) ^^^ (c' e)))]) (rest := []) (ci := 5) hx hb hml hown hts hGok hK hA hG hl.1 hP hD hS (ct_X6_put ll D ta hGok hr br capr e' n (f0 + 16 * c + e) (qz ((gb1_49 e) ^^^ (c' e))) (by first | assumption | omega | rfl | decide) (by first | assumption | omega | rfl | decide) (by first | assumption | omega | rfl | decide) H.size) tw_425 tw_585 tw_423 tw_424 tw_66 hdX6_put rfl ⟨rfl, rfl, Nat.le_of_ble_eq_true rfl, Nat.le_of_ble_eq_true rfl, Nat.le_of_ble_eq_true rfl, Nat.le_of_ble_eq_true rfl⟩ rfl rfl (q0 := 7) rfl [7, 8] [0, 1, 2, 3, 4, 5, 6] rfl rfl (by decide) rfl (Nat.le_of_ble_eq_true rfl) dX1_chainBack_111 (fun u H locs hq hP hD hS => ?_)
                      generalize u = g1_111 at hq hP hD ⊢
                      have hq : (g1_111 = qU e' (f0 + 16 * c + e) (qlo (qz ((gb1_49 e) ^^^ (c' e))))) := hq
                      have hg_111 := hq
                      refine W.eq (g2 := F0 mm 114 ls []) rfl ?_
                      have hP : va_P D vwCl [(b2, aZ ta 16 c'), (ha, oA b1 b2 b3 b4 b5 b6 (nK / 4 + 6)), (b1, aZ ta 16 gb1_49), (b3, aZ ta 256 UBOX), (b4, aI ta 64 kw), (b5, aI ta 4 sw1_49), (b6, aI ta 4 xw1_49), (hr, oR br n), (br, aZ ta capr g1_111)] H := hP
                      have hD : va_D A [(b2, aZ ta 16 c'), (ha, oA b1 b2 b3 b4 b5 b6 (nK / 4 + 6)), (b1, aZ ta 16 gb1_49), (b3, aZ ta 256 UBOX), (b4, aI ta 64 kw), (b5, aI ta 4 sw1_49), (b6, aI ta 4 xw1_49), (hr, oR br n), (br, aZ ta capr g1_111)] := hD
                      refine lv_aload_n (pc := 114) hx hb dX1_chainBack_114 rfl (lv_at hl 3 rfl) ?_
                      refine va_get (pc := 115) (D := D) (ci := 0) (v := .ref b2) (C := RX0) (T := TX0) (N := 7) hx hb hts iu0 hown hK hP 1 rfl rfl 1 (by decide) (hts _ tw_254) (fun _ h9 => h9) rfl dX1_chainBack_115 ?_
                      refine lv_iload (pc := 118) hx hb dX1_chainBack_118 (lv_at hl 1 rfl) ?_
                      refine lv_iload (pc := 120) hx hb dX1_chainBack_120 (lv_at hl 0 rfl) ?_
                      refine q_iastZ (pc := 122) hx hb hK hP hD hS 0 0 rfl rfl (k := e) rfl (by omega) (by omega) (b := e' (f0 + 16 * c + e)) rfl dX1_chainBack_122 (fun H locs hP hD hS => ?_)
                      have hP : va_P D vwCl [(b2, aZ ta 16 (qU c' e (e' (f0 + 16 * c + e)))), (ha, oA b1 b2 b3 b4 b5 b6 (nK / 4 + 6)), (b1, aZ ta 16 gb1_49), (b3, aZ ta 256 UBOX), (b4, aI ta 64 kw), (b5, aI ta 4 sw1_49), (b6, aI ta 4 xw1_49), (hr, oR br n), (br, aZ ta capr g1_111)] H := hP
                      have hD : va_D A [(b2, aZ ta 16 (qU c' e (e' (f0 + 16 * c + e)))), (ha, oA b1 b2 b3 b4 b5 b6 (nK / 4 + 6)), (b1, aZ ta 16 gb1_49), (b3, aZ ta 256 UBOX), (b4, aI ta 64 kw), (b5, aI ta 4 sw1_49), (b6, aI ta 4 xw1_49), (hr, oR br n), (br, aZ ta capr g1_111)] := hD
                      refine lv_iinc (pc := 123) (v := nI (e + 1)) (lv' := [(5, .int (nI (e + 1))), (6, .int (qz (e' (f0 + 16 * c + e)))), (4, .int (nI (f0 + 16 * c))), (0, .ref ha), (1, .ref hr), (2, .int (nI f0)), (3, .int (nI t0))]) hx hb dX1_chainBack_123 hl (k := 1) rfl (by first | exact nI_add e 1 | rfl) (by decide) rfl (fun ls hl => ?_)
                      refine lv_goto (pc := 126) (tgt := 55) hx hb dX1_chainBack_126 (by decide) ?_
                      exact ih55 (e + 1) g1_111 (qU c' e (e' (f0 + 16 * c + e))) (by omega) (by rw [hg_111, hb2.2 _ (by omega)]; exact dec_put (by omega) (by omega) hr2 hB hb1 (by omega) (qlo_qz _)) (qSeg_s hb2 (by omega) (by rw [hr2.2 _ (by omega)])) (by omega) _ _ (hP.sub [0, 7, 8, 1, 2, 3, 4, 5, 6] rfl) (hD.sub [0, 7, 8, 1, 2, 3, 4, 5, 6] (by decide) rfl) hS ls (lv_sub hl [0, 2, 3, 4, 5, 6] rfl)
              exact LP55 _ 0 r' b' (by omega) (hr1) (qSeg_0) (Nat.lt_succ_self _) _ _ (hP.sub [0, 1, 2, 3, 4, 5, 6, 7, 8] rfl) (hD.sub [0, 1, 2, 3, 4, 5, 6, 7, 8] (by decide) rfl) hS ls (lv_sub hl [0, 1, 2, 3, 4, 5] rfl)
            · skip
              rw [nI_leI (by omega) (by omega)] at c_3
              refine lv_aload_n (pc := 22) hx hb dX1_chainBack_22 rfl (lv_at hl 2 rfl) ?_
              refine va_get (pc := 23) (D := D) (ci := 0) (v := .ref b1) (C := RX0) (T := TX0) (N := 7) hx hb hts iu0 hown hK hP 0 rfl rfl 0 (by decide) (hts _ tw_249) (fun _ h9 => h9) rfl dX1_chainBack_23 ?_
              refine lv_iload (pc := 26) hx hb dX1_chainBack_26 (lv_at hl 0 rfl) ?_
              refine lv_aload_n (pc := 28) hx hb dX1_chainBack_28 rfl (lv_at hl 3 rfl) ?_
              refine lv_iload (pc := 29) hx hb dX1_chainBack_29 (lv_at hl 1 rfl) ?_
              refine lv_iload (pc := 31) hx hb dX1_chainBack_31 (lv_at hl 0 rfl) ?_
              refine lv_iadd (pc := 33) hx hb dX1_chainBack_33 ?_
              refine q_top (y := nI (f0 + 16 * c + d)) (nI_add (f0 + 16 * c) d) ?_
              refine cs_V (pc := 34) (idx := 16) (n := 1) (wr := [(ha, oA b1 b2 b3 b4 b5 b6 (nK / 4 + 6)), (b1, aZ ta 16 d'), (b2, aZ ta 16 b'), (b3, aZ ta 256 UBOX), (b4, aI ta 64 kw), (b5, aI ta 4 is'), (b6, aI ta 4 ix')]) (As := [.int (nI (f0 + 16 * c + d))]) (rest := [.int (nI d), .ref b1]) (ci := 5) hx hb hml hown hts hGok hK hA hG hl.1 hP hD hS (ct_X6_at_in ll D ta hGok hr br capr r' n (f0 + 16 * c + d) (by first | assumption | omega | rfl | decide) (by first | assumption | omega | rfl | decide) (by first | assumption | omega | rfl | decide) H.size) tw_413 tw_528 tw_411 tw_412 tw_66 hdX6_at rfl ⟨rfl, rfl, Nat.le_of_ble_eq_true rfl, Nat.le_of_ble_eq_true rfl, Nat.le_of_ble_eq_true rfl, Nat.le_of_ble_eq_true rfl⟩ rfl rfl (q0 := 7) rfl [7, 8] [0, 1, 2, 3, 4, 5, 6] rfl rfl (by decide) rfl (Nat.le_of_ble_eq_true rfl) dX1_chainBack_34 (fun u H locs hq hP hD hS => ?_)
              refine W.eq (g2 := F0 mm 37 ls [.int (qz (r' (f0 + 16 * c + d))), .int (nI d), .ref b1]) rfl ?_
              have hP : va_P D vwCl [(ha, oA b1 b2 b3 b4 b5 b6 (nK / 4 + 6)), (b1, aZ ta 16 d'), (b2, aZ ta 16 b'), (b3, aZ ta 256 UBOX), (b4, aI ta 64 kw), (b5, aI ta 4 is'), (b6, aI ta 4 ix'), (hr, oR br n), (br, aZ ta capr r')] H := hP
              have hD : va_D A [(ha, oA b1 b2 b3 b4 b5 b6 (nK / 4 + 6)), (b1, aZ ta 16 d'), (b2, aZ ta 16 b'), (b3, aZ ta 256 UBOX), (b4, aI ta 64 kw), (b5, aI ta 4 is'), (b6, aI ta 4 ix'), (hr, oR br n), (br, aZ ta capr r')] := hD
              refine lv_sipush (pc := 37) (v := nI 255) hx hb dX1_chainBack_37 (by decide +kernel) ?_
              refine lv_iand (pc := 40) hx hb dX1_chainBack_40 ?_
              refine q_top (y := qz (r' (f0 + 16 * c + d))) (q_and255z _) ?_
              refine q_iastZ (pc := 41) hx hb hK hP hD hS 1 0 rfl rfl (k := d) rfl (by omega) (by omega) (b := r' (f0 + 16 * c + d)) rfl dX1_chainBack_41 (fun H locs hP hD hS => ?_)
              have hP : va_P D vwCl [(ha, oA b1 b2 b3 b4 b5 b6 (nK / 4 + 6)), (b1, aZ ta 16 (qU d' d (r' (f0 + 16 * c + d)))), (b2, aZ ta 16 b'), (b3, aZ ta 256 UBOX), (b4, aI ta 64 kw), (b5, aI ta 4 is'), (b6, aI ta 4 ix'), (hr, oR br n), (br, aZ ta capr r')] H := hP
              have hD : va_D A [(ha, oA b1 b2 b3 b4 b5 b6 (nK / 4 + 6)), (b1, aZ ta 16 (qU d' d (r' (f0 + 16 * c + d)))), (b2, aZ ta 16 b'), (b3, aZ ta 256 UBOX), (b4, aI ta 64 kw), (b5, aI ta 4 is'), (b6, aI ta 4 ix'), (hr, oR br n), (br, aZ ta capr r')] := hD
              refine lv_iinc (pc := 42) (v := nI (d + 1)) (lv' := [(5, .int (nI (d + 1))), (4, .int (nI (f0 + 16 * c))), (0, .ref ha), (1, .ref hr), (2, .int (nI f0)), (3, .int (nI t0))]) hx hb dX1_chainBack_42 hl (k := 0) rfl (by first | exact nI_add d 1 | rfl) (by decide) rfl (fun ls hl => ?_)
              refine lv_goto (pc := 45) (tgt := 12) hx hb dX1_chainBack_45 (by decide) ?_
              exact ih12 (d + 1) (qU d' d (r' (f0 + 16 * c + d))) (by omega) (qSeg_s hd (by omega) (by rw [hr1.2 _ (by omega)])) (by omega) _ _ (hP.sub [0, 1, 2, 3, 4, 5, 6, 7, 8] rfl) (hD.sub [0, 1, 2, 3, 4, 5, 6, 7, 8] (by decide) rfl) hS ls (lv_sub hl [0, 1, 2, 3, 4, 5] rfl)
        exact LP12 _ 0 g' (by omega) (qSeg_0) (Nat.lt_succ_self _) _ _ (hP.sub [0, 1, 2, 3, 4, 5, 6, 7, 8] rfl) (hD.sub [0, 1, 2, 3, 4, 5, 6, 7, 8] (by decide) rfl) hS ls (lv_sub hl [0, 1, 2, 3, 4, 5] rfl)
  exact LP3 _ 0 gb bf is ix gr (by omega) (qSeg_0) (rfl) (Nat.lt_succ_self _) _ _ (hP.sub [0, 1, 2, 3, 4, 5, 6, 7, 8] rfl) (hD.sub [0, 1, 2, 3, 4, 5, 6, 7, 8] (by decide) rfl) hS ls (lv_sub hl [0, 1, 2, 3, 4] rfl)
