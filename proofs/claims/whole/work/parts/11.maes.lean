theorem hdX10_twice : yX10_twice.cls ≠ "java/lang/invoke/MethodHandle" ∧ yX10_twice.cls ≠ "java/lang/invoke/VarHandle" ∧ (parseMethodDescriptor yX10_twice.desc).map (fun d => d.parameters.length) = some 1 := ⟨by decide +kernel, by decide +kernel, by decide +kernel⟩
theorem dX10_twice_0 : decode cX10_twice 0 = .ok (.iload_n 0, 1) := by decide +kernel
theorem dX10_twice_1 : decode cX10_twice 1 = .ok (.iconst 1, 1) := by decide +kernel
theorem dX10_twice_2 : decode cX10_twice 2 = .ok (.ishl, 1) := by decide +kernel
theorem dX10_twice_3 : decode cX10_twice 3 = .ok (.iload_n 0, 1) := by decide +kernel
theorem dX10_twice_4 : decode cX10_twice 4 = .ok (.bipush 127, 2) := by decide +kernel
theorem dX10_twice_6 : decode cX10_twice 6 = .ok (.if_icmp .le 9, 3) := by decide +kernel
theorem dX10_twice_9 : decode cX10_twice 9 = .ok (.sipush 283, 3) := by decide +kernel
theorem dX10_twice_12 : decode cX10_twice 12 = .ok (.goto 4, 3) := by decide +kernel
theorem dX10_twice_15 : decode cX10_twice 15 = .ok (.iconst 0, 1) := by decide +kernel
theorem dX10_twice_16 : decode cX10_twice 16 = .ok (.ixor, 1) := by decide +kernel
theorem dX10_twice_17 : decode cX10_twice 17 = .ok (.sipush 255, 3) := by decide +kernel
theorem dX10_twice_20 : decode cX10_twice 20 = .ok (.iand, 1) := by decide +kernel
theorem dX10_twice_21 : decode cX10_twice 21 = .ok (.ireturn, 1) := by decide +kernel
set_option maxHeartbeats 4000000 in
set_option maxRecDepth 100000 in
theorem ct_X10_twice (ll : Launch) (D : va_G) (ta : Nat → ClassId) {G : (Nat → Prop) → State → Heap → Prop} (hGok : GOK G) (b : BitVec 8)  (sz : Nat) : CT ll yX10_twice cX10_twice 1 (some .int) ({ frames := 0, cells := 0, slots := 0, locals := 0 } : Room) D ta G [.int (qz b)] [] sz (S := Unit) (fun u => some (.int (qz (xt b)))) (fun u => True) (fun u => []) 0 0 := by
  refine CT.of_i (r := fun u => qz (xt b)) rfl (by decide) (Nat.le_of_ble_eq_true rfl) ?_
  intro pp ee ss mm below meth kc A Q hx hb hml hown hin hts hK hA hsz hG hret H locs hP hD hS ls hl
  have hl : lv_has ls 1 [(0, .int (qz b))] := hl
  refine lv_iload_n (pc := 0) hx hb dX10_twice_0 rfl (lv_at hl 0 rfl) ?_
  refine lv_iconst (pc := 1) (v := nI 1) hx hb dX10_twice_1 (by decide +kernel) ?_
  refine lv_ishl (pc := 2) hx hb dX10_twice_2 ?_
  refine lv_iload_n (pc := 3) hx hb dX10_twice_3 rfl (lv_at hl 0 rfl) ?_
  refine lv_bipush (pc := 4) (v := nI 127) hx hb dX10_twice_4 (by decide +kernel) ?_
  refine lv_icmp_le (pc := 6) (tgt := 15) hx hb dX10_twice_6 (by decide) (fun c_1 => ?_) (fun c_1 => ?_)
  · skip
    have hc := c_1
    refine lv_iconst (pc := 15) (v := nI 0) hx hb dX10_twice_15 (by decide +kernel) ?_
    refine lv_ixor (pc := 16) hx hb dX10_twice_16 ?_
    refine lv_sipush (pc := 17) (v := nI 255) hx hb dX10_twice_17 (by decide +kernel) ?_
    refine lv_iand (pc := 20) hx hb dX10_twice_20 ?_
    refine q_top (y := qz (qlo (((qz b) <<< ((nI 1) &&& 31)) ^^^ (nI 0)))) (q_m255 _) ?_
    refine q_top (y := qz (xt b)) (congrArg qz (by first | exact xt_lo hc | exact xt_hi hc)) ?_
    have hq_2 : True := trivial
    exact hret () _ _ _ _ dX10_twice_21 hq_2 (hP.sub [] rfl) (hD.sub [] (by decide) rfl) hS
  · skip
    have hc := c_1
    refine lv_sipush (pc := 9) (v := nI 283) hx hb dX10_twice_9 (by decide +kernel) ?_
    refine lv_goto (pc := 12) (tgt := 16) hx hb dX10_twice_12 (by decide) ?_
    refine lv_ixor (pc := 16) hx hb dX10_twice_16 ?_
    refine lv_sipush (pc := 17) (v := nI 255) hx hb dX10_twice_17 (by decide +kernel) ?_
    refine lv_iand (pc := 20) hx hb dX10_twice_20 ?_
    refine q_top (y := qz (qlo (((qz b) <<< ((nI 1) &&& 31)) ^^^ (nI 283)))) (q_m255 _) ?_
    refine q_top (y := qz (xt b)) (congrArg qz (by first | exact xt_lo hc | exact xt_hi hc)) ?_
    have hq_3 : True := trivial
    exact hret () _ _ _ _ dX10_twice_21 hq_3 (hP.sub [] rfl) (hD.sub [] (by decide) rfl) hS
theorem hdX10_times : yX10_times.cls ≠ "java/lang/invoke/MethodHandle" ∧ yX10_times.cls ≠ "java/lang/invoke/VarHandle" ∧ (parseMethodDescriptor yX10_times.desc).map (fun d => d.parameters.length) = some 2 := ⟨by decide +kernel, by decide +kernel, by decide +kernel⟩
theorem dX10_times_0 : decode cX10_times 0 = .ok (.iconst 0, 1) := by decide +kernel
theorem dX10_times_1 : decode cX10_times 1 = .ok (.istore_n 2, 1) := by decide +kernel
theorem dX10_times_2 : decode cX10_times 2 = .ok (.iload_n 0, 1) := by decide +kernel
theorem dX10_times_3 : decode cX10_times 3 = .ok (.istore_n 3, 1) := by decide +kernel
theorem dX10_times_4 : decode cX10_times 4 = .ok (.iconst 0, 1) := by decide +kernel
theorem dX10_times_5 : decode cX10_times 5 = .ok (.istore 4, 2) := by decide +kernel
theorem dX10_times_7 : decode cX10_times 7 = .ok (.iload 4, 2) := by decide +kernel
theorem dX10_times_9 : decode cX10_times 9 = .ok (.bipush 8, 2) := by decide +kernel
theorem dX10_times_11 : decode cX10_times 11 = .ok (.if_icmp .ge 32, 3) := by decide +kernel
theorem dX10_times_14 : decode cX10_times 14 = .ok (.iload_n 2, 1) := by decide +kernel
theorem dX10_times_15 : decode cX10_times 15 = .ok (.iload_n 1, 1) := by decide +kernel
theorem dX10_times_16 : decode cX10_times 16 = .ok (.iload 4, 2) := by decide +kernel
theorem dX10_times_18 : decode cX10_times 18 = .ok (.ishr, 1) := by decide +kernel
theorem dX10_times_19 : decode cX10_times 19 = .ok (.iconst 1, 1) := by decide +kernel
theorem dX10_times_20 : decode cX10_times 20 = .ok (.iand, 1) := by decide +kernel
theorem dX10_times_21 : decode cX10_times 21 = .ok (.iconst 1, 1) := by decide +kernel
theorem dX10_times_22 : decode cX10_times 22 = .ok (.if_icmp .ne 7, 3) := by decide +kernel
theorem dX10_times_25 : decode cX10_times 25 = .ok (.iload_n 3, 1) := by decide +kernel
theorem dX10_times_26 : decode cX10_times 26 = .ok (.goto 4, 3) := by decide +kernel
theorem dX10_times_29 : decode cX10_times 29 = .ok (.iconst 0, 1) := by decide +kernel
theorem dX10_times_30 : decode cX10_times 30 = .ok (.ixor, 1) := by decide +kernel
theorem dX10_times_31 : decode cX10_times 31 = .ok (.istore_n 2, 1) := by decide +kernel
theorem dX10_times_32 : decode cX10_times 32 = .ok (.iload_n 3, 1) := by decide +kernel
theorem dX10_times_33 : decode cX10_times 33 = .ok (.invokestatic 48, 3) := by decide +kernel
theorem dX10_times_36 : decode cX10_times 36 = .ok (.istore_n 3, 1) := by decide +kernel
theorem dX10_times_37 : decode cX10_times 37 = .ok (.iinc 4 1, 3) := by decide +kernel
theorem dX10_times_40 : decode cX10_times 40 = .ok (.goto (-33), 3) := by decide +kernel
theorem dX10_times_43 : decode cX10_times 43 = .ok (.iload_n 2, 1) := by decide +kernel
theorem dX10_times_44 : decode cX10_times 44 = .ok (.ireturn, 1) := by decide +kernel
set_option maxHeartbeats 4000000 in
set_option maxRecDepth 100000 in
theorem ct_X10_times (ll : Launch) (D : va_G) (ta : Nat → ClassId) {G : (Nat → Prop) → State → Heap → Prop} (hGok : GOK G) (x : BitVec 8) (k : Nat) (hk : k < 256) (sz : Nat) : CT ll yX10_times cX10_times 5 (some .int) ({ frames := 1, cells := 0, slots := 0, locals := 20 } : Room) D ta G [.int (qz x), .int (nI k)] [] sz (S := Unit) (fun u => some (.int (qz (gm x k)))) (fun u => True) (fun u => []) 0 0 := by
  refine CT.of_i (r := fun u => qz (gm x k)) rfl (by decide) (Nat.le_of_ble_eq_true rfl) ?_
  intro pp ee ss mm below meth kc A Q hx hb hml hown hin hts hK hA hsz hG hret H locs hP hD hS ls hl
  have hl : lv_has ls 5 [(0, .int (qz x)), (1, .int (nI k))] := hl
  refine lv_iconst (pc := 0) (v := nI 0) hx hb dX10_times_0 (by decide +kernel) ?_
  refine q_top (y := qz (0#8)) rfl ?_
  refine lv_istore_n (pc := 1) (lv' := [(2, .int (qz (0#8))), (0, .int (qz x)), (1, .int (nI k))]) hx hb dX10_times_1 rfl hl (by decide) rfl (fun ls hl => ?_)
  refine lv_iload_n (pc := 2) hx hb dX10_times_2 rfl (lv_at hl 1 rfl) ?_
  refine lv_istore_n (pc := 3) (lv' := [(3, .int (qz x)), (2, .int (qz (0#8))), (0, .int (qz x)), (1, .int (nI k))]) hx hb dX10_times_3 rfl hl (by decide) rfl (fun ls hl => ?_)
  refine lv_iconst (pc := 4) (v := nI 0) hx hb dX10_times_4 (by decide +kernel) ?_
  refine lv_istore (pc := 5) (lv' := [(4, .int (nI 0)), (3, .int (qz x)), (2, .int (qz (0#8))), (0, .int (qz x)), (1, .int (nI k))]) hx hb dX10_times_5 hl (by decide) rfl (fun ls hl => ?_)
  have LP7 : ∀ (nn7 : Nat) (c : Nat) (s1 : BitVec 8) (x1 : BitVec 8), (c ≤ 8) → (s1 = gmS x k c) → (x1 = xtn x c) → (8 - c < nn7) → ∀ (H : Heap) (locs : List Loc), va_P D vwCl [] H → va_D A [] → va_S A ss.heap H locs → ∀ ls : Array Slot, lv_has ls 5 [(4, .int (nI c)), (3, .int (qz x1)), (2, .int (qz s1)), (0, .int (qz x)), (1, .int (nI k))] → W pp ll ee ({ frames := 1, cells := 0, slots := 0, locals := 20 } : Room) ss mm (([.int (qz x), .int (nI k)] : List Value).toArray) below meth kc H locs 0 0 Q (F0 mm 7 ls []) := by
    intro nn7
    induction nn7 with
    | zero => intro c s1 x1 hcc h1 h2 hmu; exact absurd hmu (Nat.not_lt_zero _)
    | succ nn7 ih7 =>
      intro c s1 x1 hcc h1 h2 hmu7 H locs hP hD hS ls hl
      refine lv_iload (pc := 7) hx hb dX10_times_7 (lv_at hl 0 rfl) ?_
      refine lv_bipush (pc := 9) (v := nI 8) hx hb dX10_times_9 (by decide +kernel) ?_
      refine lv_icmp_ge (pc := 11) (tgt := 43) hx hb dX10_times_11 (by decide) (fun c_1 => ?_) (fun c_1 => ?_)
      · skip
        rw [nI_leI (by omega) (by omega)] at c_1
        refine lv_iload_n (pc := 43) hx hb dX10_times_43 rfl (lv_at hl 2 rfl) ?_
        refine q_top (y := qz (gm x k)) (by rw [h1, show c = 8 by omega]; rfl) ?_
        have hq_2 : True := trivial
        exact hret () _ _ _ _ dX10_times_44 hq_2 (hP.sub [] rfl) (hD.sub [] (by decide) rfl) hS
      · skip
        rw [nI_leI (by omega) (by omega)] at c_1
        refine lv_iload_n (pc := 14) hx hb dX10_times_14 rfl (lv_at hl 2 rfl) ?_
        refine lv_iload_n (pc := 15) hx hb dX10_times_15 rfl (lv_at hl 4 rfl) ?_
        refine lv_iload (pc := 16) hx hb dX10_times_16 (lv_at hl 0 rfl) ?_
        refine lv_ishr (pc := 18) hx hb dX10_times_18 ?_
        refine lv_iconst (pc := 19) (v := nI 1) hx hb dX10_times_19 (by decide +kernel) ?_
        refine lv_iand (pc := 20) hx hb dX10_times_20 ?_
        refine q_top (y := qb ((k).testBit c)) (q_bit_n (by omega) (by omega)) ?_
        refine lv_iconst (pc := 21) (v := nI 1) hx hb dX10_times_21 (by decide +kernel) ?_
        refine lv_icmp_ne (pc := 22) (tgt := 29) hx hb dX10_times_22 (by decide) (fun c_3 => ?_) (fun c_3 => ?_)
        · skip
          rw [q_b1] at c_3
          try rw [Bool.not_eq_true] at c_3
          have hbit := c_3
          refine lv_iconst (pc := 29) (v := nI 0) hx hb dX10_times_29 (by decide +kernel) ?_
          refine q_top (y := qz 0#8) rfl ?_
          refine lv_ixor (pc := 30) hx hb dX10_times_30 ?_
          refine q_top (y := qz (s1 ^^^ (0#8))) (q_xor_z _ _) ?_
          refine lv_istore_n (pc := 31) (lv' := [(2, .int (qz (s1 ^^^ (0#8)))), (4, .int (nI c)), (3, .int (qz x1)), (0, .int (qz x)), (1, .int (nI k))]) hx hb dX10_times_31 rfl hl (by decide) rfl (fun ls hl => ?_)
          refine lv_iload_n (pc := 32) hx hb dX10_times_32 rfl (lv_at hl 2 rfl) ?_
          refine cs_S (pc := 33) (idx := 48) (n := 1) (wr := []) (As := [.int (qz x1)]) (rest := []) hx hb hml hown hts hGok hK hA hG hl.1 hP hD hS (ct_X10_twice ll D ta hGok x1  H.size) tw_1044 tw_1042 tw_1043 tw_75 hdX10_twice rfl ⟨rfl, rfl, Nat.le_of_ble_eq_true rfl, Nat.le_of_ble_eq_true rfl, Nat.le_of_ble_eq_true rfl, Nat.le_of_ble_eq_true rfl⟩ [] [] rfl rfl (by decide) rfl (Nat.le_of_ble_eq_true rfl) dX10_times_33 (fun u H locs hq hP hD hS => ?_)
          refine W.eq (g2 := F0 mm 36 ls [.int (qz (xt x1))]) rfl ?_
          have hP : va_P D vwCl [] H := hP
          have hD : va_D A [] := hD
          refine lv_istore_n (pc := 36) (lv' := [(3, .int (qz (xt x1))), (2, .int (qz (s1 ^^^ (0#8)))), (4, .int (nI c)), (0, .int (qz x)), (1, .int (nI k))]) hx hb dX10_times_36 rfl hl (by decide) rfl (fun ls hl => ?_)
          refine lv_iinc (pc := 37) (v := nI (c + 1)) (lv' := [(4, .int (nI (c + 1))), (3, .int (qz (xt x1))), (2, .int (qz (s1 ^^^ (0#8)))), (0, .int (qz x)), (1, .int (nI k))]) hx hb dX10_times_37 hl (k := 2) rfl (by first | exact nI_add c 1 | rfl) (by decide) rfl (fun ls hl => ?_)
          refine lv_goto (pc := 40) (tgt := 7) hx hb dX10_times_40 (by decide) ?_
          exact ih7 (c + 1) (s1 ^^^ (0#8)) (xt x1) (by omega) (by subst h1 h2; simp only [gmS]; simp_all) (by subst h2; rfl) (by omega) _ _ (hP.sub [] rfl) (hD.sub [] (by decide) rfl) hS ls (lv_sub hl [0, 1, 2, 3, 4] rfl)
        · skip
          rw [q_b1] at c_3
          try rw [Bool.not_eq_true] at c_3
          have hbit := c_3
          refine lv_iload_n (pc := 25) hx hb dX10_times_25 rfl (lv_at hl 1 rfl) ?_
          refine lv_goto (pc := 26) (tgt := 30) hx hb dX10_times_26 (by decide) ?_
          refine lv_ixor (pc := 30) hx hb dX10_times_30 ?_
          refine q_top (y := qz (s1 ^^^ x1)) (q_xor_z _ _) ?_
          refine lv_istore_n (pc := 31) (lv' := [(2, .int (qz (s1 ^^^ x1))), (4, .int (nI c)), (3, .int (qz x1)), (0, .int (qz x)), (1, .int (nI k))]) hx hb dX10_times_31 rfl hl (by decide) rfl (fun ls hl => ?_)
          refine lv_iload_n (pc := 32) hx hb dX10_times_32 rfl (lv_at hl 2 rfl) ?_
          refine cs_S (pc := 33) (idx := 48) (n := 1) (wr := []) (As := [.int (qz x1)]) (rest := []) hx hb hml hown hts hGok hK hA hG hl.1 hP hD hS (ct_X10_twice ll D ta hGok x1  H.size) tw_1044 tw_1042 tw_1043 tw_75 hdX10_twice rfl ⟨rfl, rfl, Nat.le_of_ble_eq_true rfl, Nat.le_of_ble_eq_true rfl, Nat.le_of_ble_eq_true rfl, Nat.le_of_ble_eq_true rfl⟩ [] [] rfl rfl (by decide) rfl (Nat.le_of_ble_eq_true rfl) dX10_times_33 (fun u H locs hq hP hD hS => ?_)
          refine W.eq (g2 := F0 mm 36 ls [.int (qz (xt x1))]) rfl ?_
          have hP : va_P D vwCl [] H := hP
          have hD : va_D A [] := hD
          refine lv_istore_n (pc := 36) (lv' := [(3, .int (qz (xt x1))), (2, .int (qz (s1 ^^^ x1))), (4, .int (nI c)), (0, .int (qz x)), (1, .int (nI k))]) hx hb dX10_times_36 rfl hl (by decide) rfl (fun ls hl => ?_)
          refine lv_iinc (pc := 37) (v := nI (c + 1)) (lv' := [(4, .int (nI (c + 1))), (3, .int (qz (xt x1))), (2, .int (qz (s1 ^^^ x1))), (0, .int (qz x)), (1, .int (nI k))]) hx hb dX10_times_37 hl (k := 2) rfl (by first | exact nI_add c 1 | rfl) (by decide) rfl (fun ls hl => ?_)
          refine lv_goto (pc := 40) (tgt := 7) hx hb dX10_times_40 (by decide) ?_
          exact ih7 (c + 1) (s1 ^^^ x1) (xt x1) (by omega) (by subst h1 h2; simp only [gmS]; simp_all) (by subst h2; rfl) (by omega) _ _ (hP.sub [] rfl) (hD.sub [] (by decide) rfl) hS ls (lv_sub hl [0, 1, 2, 3, 4] rfl)
  exact LP7 _ 0 (0#8) x (by omega) (rfl) (rfl) (Nat.lt_succ_self _) _ _ (hP.sub [] rfl) (hD.sub [] (by decide) rfl) hS ls (lv_sub hl [0, 1, 2, 3, 4] rfl)
theorem hdX10_addKey : yX10_addKey.cls ≠ "java/lang/invoke/MethodHandle" ∧ yX10_addKey.cls ≠ "java/lang/invoke/VarHandle" ∧ (parseMethodDescriptor yX10_addKey.desc).map (fun d => d.parameters.length) = some 3 := ⟨by decide +kernel, by decide +kernel, by decide +kernel⟩
theorem dX10_addKey_0 : decode cX10_addKey 0 = .ok (.iconst 0, 1) := by decide +kernel
theorem dX10_addKey_1 : decode cX10_addKey 1 = .ok (.istore 4, 2) := by decide +kernel
theorem dX10_addKey_3 : decode cX10_addKey 3 = .ok (.iload 4, 2) := by decide +kernel
theorem dX10_addKey_5 : decode cX10_addKey 5 = .ok (.bipush 16, 2) := by decide +kernel
theorem dX10_addKey_7 : decode cX10_addKey 7 = .ok (.if_icmp .ge 31, 3) := by decide +kernel
theorem dX10_addKey_10 : decode cX10_addKey 10 = .ok (.aload_n 1, 1) := by decide +kernel
theorem dX10_addKey_11 : decode cX10_addKey 11 = .ok (.iload_n 2, 1) := by decide +kernel
theorem dX10_addKey_12 : decode cX10_addKey 12 = .ok (.iload 4, 2) := by decide +kernel
theorem dX10_addKey_14 : decode cX10_addKey 14 = .ok (.iadd, 1) := by decide +kernel
theorem dX10_addKey_15 : decode cX10_addKey 15 = .ok (.dup2, 1) := by decide +kernel
theorem dX10_addKey_16 : decode cX10_addKey 16 = .ok (.baload, 1) := by decide +kernel
theorem dX10_addKey_17 : decode cX10_addKey 17 = .ok (.aload_n 0, 1) := by decide +kernel
theorem dX10_addKey_18 : decode cX10_addKey 18 = .ok (.getfield 66, 3) := by decide +kernel
theorem dX10_addKey_21 : decode cX10_addKey 21 = .ok (.bipush 16, 2) := by decide +kernel
theorem dX10_addKey_23 : decode cX10_addKey 23 = .ok (.iload_n 3, 1) := by decide +kernel
theorem dX10_addKey_24 : decode cX10_addKey 24 = .ok (.imul, 1) := by decide +kernel
theorem dX10_addKey_25 : decode cX10_addKey 25 = .ok (.iload 4, 2) := by decide +kernel
theorem dX10_addKey_27 : decode cX10_addKey 27 = .ok (.iadd, 1) := by decide +kernel
theorem dX10_addKey_28 : decode cX10_addKey 28 = .ok (.baload, 1) := by decide +kernel
theorem dX10_addKey_29 : decode cX10_addKey 29 = .ok (.ixor, 1) := by decide +kernel
theorem dX10_addKey_30 : decode cX10_addKey 30 = .ok (.i2b, 1) := by decide +kernel
theorem dX10_addKey_31 : decode cX10_addKey 31 = .ok (.bastore, 1) := by decide +kernel
theorem dX10_addKey_32 : decode cX10_addKey 32 = .ok (.iinc 4 1, 3) := by decide +kernel
theorem dX10_addKey_35 : decode cX10_addKey 35 = .ok (.goto (-32), 3) := by decide +kernel
theorem dX10_addKey_38 : decode cX10_addKey 38 = .ok (.return_, 1) := by decide +kernel
set_option maxHeartbeats 4000000 in
set_option maxRecDepth 100000 in
theorem ct_X10_addKey (ll : Launch) (D : va_G) (ta : Nat → ClassId) {G : (Nat → Prop) → State → Heap → Prop} (hGok : GOK G) (h0 : Nat) (a : Nat → Nat) (ar : Nat) (mn : Nat) (tp : Nat) (osz : Nat) (lsz : Nat) (ns : Nat) (ct : Nat) (hb2 : Nat) (at0 : Nat) (capb : Nat) (gb : Nat → BitVec 8) (rk : Nat → BitVec 8) (r : Nat) (hat : at0 + 16 ≤ capb) (hcb : capb < 2147483648) (hr : r ≤ 14) (sz : Nat) : CT ll yX10_addKey cX10_addKey 5 none ({ frames := 0, cells := 0, slots := 0, locals := 0 } : Room) D ta G [.ref h0, .ref hb2, .int (nI at0), .int (nI r)] [(h0, oM a ar mn tp osz lsz ns ct), (a 16, aS ta 240 rk), (hb2, aS ta capb gb)] sz (S := (Nat → BitVec 8)) (fun _ => none) (fun u => (qSeg u gb at0 16 (aAdd (fun k => gb (at0 + k)) rk r))) (fun u => [(h0, oM a ar mn tp osz lsz ns ct), (a 16, aS ta 240 rk), (hb2, aS ta capb u)]) 0 0 := by
  refine CT.of_v rfl (by decide) (Nat.le_of_ble_eq_true rfl) ?_
  intro pp ee ss mm below meth kc A Q hx hb hml hown hin hts hK hA hsz hG hret H locs hP hD hS ls hl
  have hl : lv_has ls 5 [(0, .ref h0), (1, .ref hb2), (2, .int (nI at0)), (3, .int (nI r))] := hl
  refine lv_iconst (pc := 0) (v := nI 0) hx hb dX10_addKey_0 (by decide +kernel) ?_
  refine lv_istore (pc := 1) (lv' := [(4, .int (nI 0)), (0, .ref h0), (1, .ref hb2), (2, .int (nI at0)), (3, .int (nI r))]) hx hb dX10_addKey_1 hl (by decide) rfl (fun ls hl => ?_)
  have LP3 : ∀ (nn3 : Nat) (c : Nat) (g' : Nat → BitVec 8), (c ≤ 16) → (qSeg g' gb at0 c (aAdd (fun k => gb (at0 + k)) rk r)) → (16 - c < nn3) → ∀ (H : Heap) (locs : List Loc), va_P D vwCl [(h0, oM a ar mn tp osz lsz ns ct), (a 16, aS ta 240 rk), (hb2, aS ta capb g')] H → va_D A [(h0, oM a ar mn tp osz lsz ns ct), (a 16, aS ta 240 rk), (hb2, aS ta capb g')] → va_S A ss.heap H locs → ∀ ls : Array Slot, lv_has ls 5 [(4, .int (nI c)), (0, .ref h0), (1, .ref hb2), (2, .int (nI at0)), (3, .int (nI r))] → W pp ll ee ({ frames := 0, cells := 0, slots := 0, locals := 0 } : Room) ss mm (([.ref h0, .ref hb2, .int (nI at0), .int (nI r)] : List Value).toArray) below meth kc H locs 0 0 Q (F0 mm 3 ls []) := by
    intro nn3
    induction nn3 with
    | zero => intro c g' hcc hs hmu; exact absurd hmu (Nat.not_lt_zero _)
    | succ nn3 ih3 =>
      intro c g' hcc hs hmu3 H locs hP hD hS ls hl
      refine lv_iload (pc := 3) hx hb dX10_addKey_3 (lv_at hl 0 rfl) ?_
      refine lv_bipush (pc := 5) (v := nI 16) hx hb dX10_addKey_5 (by decide +kernel) ?_
      refine lv_icmp_ge (pc := 7) (tgt := 38) hx hb dX10_addKey_7 (by decide) (fun c_1 => ?_) (fun c_1 => ?_)
      · skip
        rw [nI_leI (by omega) (by omega)] at c_1
        have en_2 : 16 = c := by omega
        subst en_2
        have hq_3 : (qSeg g' gb at0 16 (aAdd (fun k => gb (at0 + k)) rk r)) := by
          exact hs
        exact hret (g') _ _ _ _ dX10_addKey_38 hq_3 (hP.sub [0, 1, 2] rfl) (hD.sub [0, 1, 2] (by decide) rfl) hS
      · skip
        rw [nI_leI (by omega) (by omega)] at c_1
        refine lv_aload_n (pc := 10) hx hb dX10_addKey_10 rfl (lv_at hl 2 rfl) ?_
        refine lv_iload_n (pc := 11) hx hb dX10_addKey_11 rfl (lv_at hl 3 rfl) ?_
        refine lv_iload (pc := 12) hx hb dX10_addKey_12 (lv_at hl 0 rfl) ?_
        refine lv_iadd (pc := 14) hx hb dX10_addKey_14 ?_
        refine q_top (y := nI (at0 + c)) (nI_add at0 c) ?_
        refine lv_dup2_11 (pc := 15) hx hb dX10_addKey_15 rfl rfl ?_
        refine q_bald (pc := 16) hx hb hK hP 2 2 rfl rfl (k := at0 + c) (v := qs (g' (at0 + c))) rfl (by omega) (by omega) rfl dX10_addKey_16 ?_
        refine lv_aload_n (pc := 17) hx hb dX10_addKey_17 rfl (lv_at hl 1 rfl) ?_
        refine va_get (pc := 18) (D := D) (ci := 8) (v := .ref (a 16)) (C := RX10) (T := TX10) (N := 57) hx hb hts iu10 hown hK hP 0 rfl rfl 16 (by decide) (hts _ tw_1061) (fun _ h9 => h9) rfl dX10_addKey_18 ?_
        refine lv_bipush (pc := 21) (v := nI 16) hx hb dX10_addKey_21 (by decide +kernel) ?_
        refine lv_iload_n (pc := 23) hx hb dX10_addKey_23 rfl (lv_at hl 4 rfl) ?_
        refine lv_imul (pc := 24) hx hb dX10_addKey_24 ?_
        refine q_top (y := nI (16 * r)) (pk_mul 16 r) ?_
        refine lv_iload (pc := 25) hx hb dX10_addKey_25 (lv_at hl 0 rfl) ?_
        refine lv_iadd (pc := 27) hx hb dX10_addKey_27 ?_
        refine q_top (y := nI (16 * r + c)) (nI_add (16 * r) c) ?_
        refine q_bald (pc := 28) hx hb hK hP 1 2 rfl rfl (k := 16 * r + c) (v := qs (rk (16 * r + c))) rfl (by omega) (by omega) rfl dX10_addKey_28 ?_
        refine lv_ixor (pc := 29) hx hb dX10_addKey_29 ?_
        refine q_top (y := qs ((g' (at0 + c)) ^^^ (rk (16 * r + c)))) (q_xor_s _ _) ?_
        refine lv_i2b (pc := 30) (v := qs ((g' (at0 + c)) ^^^ (rk (16 * r + c)))) hx hb dX10_addKey_30 (q_i2b_s _) ?_
        refine q_bastS (pc := 31) hx hb hK hP hD hS 2 2 rfl rfl (k := at0 + c) rfl (by omega) (by omega) (b := (g' (at0 + c)) ^^^ (rk (16 * r + c))) (qlo_qs _) dX10_addKey_31 (fun H locs hP hD hS => ?_)
        have hP : va_P D vwCl [(h0, oM a ar mn tp osz lsz ns ct), (a 16, aS ta 240 rk), (hb2, aS ta capb (qU g' (at0 + c) ((g' (at0 + c)) ^^^ (rk (16 * r + c)))))] H := hP
        have hD : va_D A [(h0, oM a ar mn tp osz lsz ns ct), (a 16, aS ta 240 rk), (hb2, aS ta capb (qU g' (at0 + c) ((g' (at0 + c)) ^^^ (rk (16 * r + c)))))] := hD
        refine lv_iinc (pc := 32) (v := nI (c + 1)) (lv' := [(4, .int (nI (c + 1))), (0, .ref h0), (1, .ref hb2), (2, .int (nI at0)), (3, .int (nI r))]) hx hb dX10_addKey_32 hl (k := 0) rfl (by first | exact nI_add c 1 | rfl) (by decide) rfl (fun ls hl => ?_)
        refine lv_goto (pc := 35) (tgt := 3) hx hb dX10_addKey_35 (by decide) ?_
        exact ih3 (c + 1) (qU g' (at0 + c) ((g' (at0 + c)) ^^^ (rk (16 * r + c)))) (by omega) (qSeg_s hs rfl (by rw [hs.2 _ (by omega)]; rfl)) (by omega) _ _ (hP.sub [0, 1, 2] rfl) (hD.sub [0, 1, 2] (by decide) rfl) hS ls (lv_sub hl [0, 1, 2, 3, 4] rfl)
  exact LP3 _ 0 gb (by omega) (qSeg_0) (Nat.lt_succ_self _) _ _ (hP.sub [0, 1, 2] rfl) (hD.sub [0, 1, 2] (by decide) rfl) hS ls (lv_sub hl [0, 1, 2, 3, 4] rfl)
theorem hdX10_mixColumns : yX10_mixColumns.cls ≠ "java/lang/invoke/MethodHandle" ∧ yX10_mixColumns.cls ≠ "java/lang/invoke/VarHandle" ∧ (parseMethodDescriptor yX10_mixColumns.desc).map (fun d => d.parameters.length) = some 6 := ⟨by decide +kernel, by decide +kernel, by decide +kernel⟩
theorem dX10_mixColumns_0 : decode cX10_mixColumns 0 = .ok (.iconst 0, 1) := by decide +kernel
theorem dX10_mixColumns_1 : decode cX10_mixColumns 1 = .ok (.istore 7, 2) := by decide +kernel
theorem dX10_mixColumns_3 : decode cX10_mixColumns 3 = .ok (.iload 7, 2) := by decide +kernel
theorem dX10_mixColumns_5 : decode cX10_mixColumns 5 = .ok (.bipush 16, 2) := by decide +kernel
theorem dX10_mixColumns_7 : decode cX10_mixColumns 7 = .ok (.if_icmp .ge 125, 3) := by decide +kernel
theorem dX10_mixColumns_10 : decode cX10_mixColumns 10 = .ok (.iconst 0, 1) := by decide +kernel
theorem dX10_mixColumns_11 : decode cX10_mixColumns 11 = .ok (.istore 8, 2) := by decide +kernel
theorem dX10_mixColumns_13 : decode cX10_mixColumns 13 = .ok (.iload 8, 2) := by decide +kernel
theorem dX10_mixColumns_15 : decode cX10_mixColumns 15 = .ok (.iconst 4, 1) := by decide +kernel
theorem dX10_mixColumns_16 : decode cX10_mixColumns 16 = .ok (.if_icmp .ge 110, 3) := by decide +kernel
theorem dX10_mixColumns_19 : decode cX10_mixColumns 19 = .ok (.aload_n 1, 1) := by decide +kernel
theorem dX10_mixColumns_20 : decode cX10_mixColumns 20 = .ok (.iload_n 2, 1) := by decide +kernel
theorem dX10_mixColumns_21 : decode cX10_mixColumns 21 = .ok (.iload 7, 2) := by decide +kernel
theorem dX10_mixColumns_23 : decode cX10_mixColumns 23 = .ok (.iadd, 1) := by decide +kernel
theorem dX10_mixColumns_24 : decode cX10_mixColumns 24 = .ok (.iload 8, 2) := by decide +kernel
theorem dX10_mixColumns_26 : decode cX10_mixColumns 26 = .ok (.iadd, 1) := by decide +kernel
theorem dX10_mixColumns_27 : decode cX10_mixColumns 27 = .ok (.baload, 1) := by decide +kernel
theorem dX10_mixColumns_28 : decode cX10_mixColumns 28 = .ok (.sipush 255, 3) := by decide +kernel
theorem dX10_mixColumns_31 : decode cX10_mixColumns 31 = .ok (.iand, 1) := by decide +kernel
theorem dX10_mixColumns_32 : decode cX10_mixColumns 32 = .ok (.iload_n 3, 1) := by decide +kernel
theorem dX10_mixColumns_33 : decode cX10_mixColumns 33 = .ok (.invokestatic 52, 3) := by decide +kernel
theorem dX10_mixColumns_36 : decode cX10_mixColumns 36 = .ok (.aload_n 1, 1) := by decide +kernel
theorem dX10_mixColumns_37 : decode cX10_mixColumns 37 = .ok (.iload_n 2, 1) := by decide +kernel
theorem dX10_mixColumns_38 : decode cX10_mixColumns 38 = .ok (.iload 7, 2) := by decide +kernel
theorem dX10_mixColumns_40 : decode cX10_mixColumns 40 = .ok (.iadd, 1) := by decide +kernel
theorem dX10_mixColumns_41 : decode cX10_mixColumns 41 = .ok (.iload 8, 2) := by decide +kernel
theorem dX10_mixColumns_43 : decode cX10_mixColumns 43 = .ok (.iconst 1, 1) := by decide +kernel
theorem dX10_mixColumns_44 : decode cX10_mixColumns 44 = .ok (.iadd, 1) := by decide +kernel
theorem dX10_mixColumns_45 : decode cX10_mixColumns 45 = .ok (.iconst 4, 1) := by decide +kernel
theorem dX10_mixColumns_46 : decode cX10_mixColumns 46 = .ok (.irem, 1) := by decide +kernel
theorem dX10_mixColumns_47 : decode cX10_mixColumns 47 = .ok (.iadd, 1) := by decide +kernel
theorem dX10_mixColumns_48 : decode cX10_mixColumns 48 = .ok (.baload, 1) := by decide +kernel
theorem dX10_mixColumns_49 : decode cX10_mixColumns 49 = .ok (.sipush 255, 3) := by decide +kernel
theorem dX10_mixColumns_52 : decode cX10_mixColumns 52 = .ok (.iand, 1) := by decide +kernel
theorem dX10_mixColumns_53 : decode cX10_mixColumns 53 = .ok (.iload 4, 2) := by decide +kernel
theorem dX10_mixColumns_55 : decode cX10_mixColumns 55 = .ok (.invokestatic 52, 3) := by decide +kernel
theorem dX10_mixColumns_58 : decode cX10_mixColumns 58 = .ok (.ixor, 1) := by decide +kernel
theorem dX10_mixColumns_59 : decode cX10_mixColumns 59 = .ok (.aload_n 1, 1) := by decide +kernel
theorem dX10_mixColumns_60 : decode cX10_mixColumns 60 = .ok (.iload_n 2, 1) := by decide +kernel
theorem dX10_mixColumns_61 : decode cX10_mixColumns 61 = .ok (.iload 7, 2) := by decide +kernel
theorem dX10_mixColumns_63 : decode cX10_mixColumns 63 = .ok (.iadd, 1) := by decide +kernel
theorem dX10_mixColumns_64 : decode cX10_mixColumns 64 = .ok (.iload 8, 2) := by decide +kernel
theorem dX10_mixColumns_66 : decode cX10_mixColumns 66 = .ok (.iconst 2, 1) := by decide +kernel
theorem dX10_mixColumns_67 : decode cX10_mixColumns 67 = .ok (.iadd, 1) := by decide +kernel
theorem dX10_mixColumns_68 : decode cX10_mixColumns 68 = .ok (.iconst 4, 1) := by decide +kernel
theorem dX10_mixColumns_69 : decode cX10_mixColumns 69 = .ok (.irem, 1) := by decide +kernel
theorem dX10_mixColumns_70 : decode cX10_mixColumns 70 = .ok (.iadd, 1) := by decide +kernel
theorem dX10_mixColumns_71 : decode cX10_mixColumns 71 = .ok (.baload, 1) := by decide +kernel
theorem dX10_mixColumns_72 : decode cX10_mixColumns 72 = .ok (.sipush 255, 3) := by decide +kernel
theorem dX10_mixColumns_75 : decode cX10_mixColumns 75 = .ok (.iand, 1) := by decide +kernel
theorem dX10_mixColumns_76 : decode cX10_mixColumns 76 = .ok (.iload 5, 2) := by decide +kernel
theorem dX10_mixColumns_78 : decode cX10_mixColumns 78 = .ok (.invokestatic 52, 3) := by decide +kernel
theorem dX10_mixColumns_81 : decode cX10_mixColumns 81 = .ok (.ixor, 1) := by decide +kernel
theorem dX10_mixColumns_82 : decode cX10_mixColumns 82 = .ok (.aload_n 1, 1) := by decide +kernel
theorem dX10_mixColumns_83 : decode cX10_mixColumns 83 = .ok (.iload_n 2, 1) := by decide +kernel
theorem dX10_mixColumns_84 : decode cX10_mixColumns 84 = .ok (.iload 7, 2) := by decide +kernel
theorem dX10_mixColumns_86 : decode cX10_mixColumns 86 = .ok (.iadd, 1) := by decide +kernel
theorem dX10_mixColumns_87 : decode cX10_mixColumns 87 = .ok (.iload 8, 2) := by decide +kernel
theorem dX10_mixColumns_89 : decode cX10_mixColumns 89 = .ok (.iconst 3, 1) := by decide +kernel
theorem dX10_mixColumns_90 : decode cX10_mixColumns 90 = .ok (.iadd, 1) := by decide +kernel
theorem dX10_mixColumns_91 : decode cX10_mixColumns 91 = .ok (.iconst 4, 1) := by decide +kernel
theorem dX10_mixColumns_92 : decode cX10_mixColumns 92 = .ok (.irem, 1) := by decide +kernel
theorem dX10_mixColumns_93 : decode cX10_mixColumns 93 = .ok (.iadd, 1) := by decide +kernel
theorem dX10_mixColumns_94 : decode cX10_mixColumns 94 = .ok (.baload, 1) := by decide +kernel
theorem dX10_mixColumns_95 : decode cX10_mixColumns 95 = .ok (.sipush 255, 3) := by decide +kernel
theorem dX10_mixColumns_98 : decode cX10_mixColumns 98 = .ok (.iand, 1) := by decide +kernel
theorem dX10_mixColumns_99 : decode cX10_mixColumns 99 = .ok (.iload 6, 2) := by decide +kernel
theorem dX10_mixColumns_101 : decode cX10_mixColumns 101 = .ok (.invokestatic 52, 3) := by decide +kernel
theorem dX10_mixColumns_104 : decode cX10_mixColumns 104 = .ok (.ixor, 1) := by decide +kernel
theorem dX10_mixColumns_105 : decode cX10_mixColumns 105 = .ok (.istore 9, 2) := by decide +kernel
theorem dX10_mixColumns_107 : decode cX10_mixColumns 107 = .ok (.aload_n 0, 1) := by decide +kernel
theorem dX10_mixColumns_108 : decode cX10_mixColumns 108 = .ok (.getfield 74, 3) := by decide +kernel
theorem dX10_mixColumns_111 : decode cX10_mixColumns 111 = .ok (.iload 7, 2) := by decide +kernel
theorem dX10_mixColumns_113 : decode cX10_mixColumns 113 = .ok (.iload 8, 2) := by decide +kernel
theorem dX10_mixColumns_115 : decode cX10_mixColumns 115 = .ok (.iadd, 1) := by decide +kernel
theorem dX10_mixColumns_116 : decode cX10_mixColumns 116 = .ok (.iload 9, 2) := by decide +kernel
theorem dX10_mixColumns_118 : decode cX10_mixColumns 118 = .ok (.i2b, 1) := by decide +kernel
theorem dX10_mixColumns_119 : decode cX10_mixColumns 119 = .ok (.bastore, 1) := by decide +kernel
theorem dX10_mixColumns_120 : decode cX10_mixColumns 120 = .ok (.iinc 8 1, 3) := by decide +kernel
theorem dX10_mixColumns_123 : decode cX10_mixColumns 123 = .ok (.goto (-110), 3) := by decide +kernel
theorem dX10_mixColumns_126 : decode cX10_mixColumns 126 = .ok (.iinc 7 4, 3) := by decide +kernel
theorem dX10_mixColumns_129 : decode cX10_mixColumns 129 = .ok (.goto (-126), 3) := by decide +kernel
theorem dX10_mixColumns_132 : decode cX10_mixColumns 132 = .ok (.iconst 0, 1) := by decide +kernel
theorem dX10_mixColumns_133 : decode cX10_mixColumns 133 = .ok (.istore 7, 2) := by decide +kernel
theorem dX10_mixColumns_135 : decode cX10_mixColumns 135 = .ok (.iload 7, 2) := by decide +kernel
theorem dX10_mixColumns_137 : decode cX10_mixColumns 137 = .ok (.bipush 16, 2) := by decide +kernel
theorem dX10_mixColumns_139 : decode cX10_mixColumns 139 = .ok (.if_icmp .ge 22, 3) := by decide +kernel
theorem dX10_mixColumns_142 : decode cX10_mixColumns 142 = .ok (.aload_n 1, 1) := by decide +kernel
theorem dX10_mixColumns_143 : decode cX10_mixColumns 143 = .ok (.iload_n 2, 1) := by decide +kernel
theorem dX10_mixColumns_144 : decode cX10_mixColumns 144 = .ok (.iload 7, 2) := by decide +kernel
theorem dX10_mixColumns_146 : decode cX10_mixColumns 146 = .ok (.iadd, 1) := by decide +kernel
theorem dX10_mixColumns_147 : decode cX10_mixColumns 147 = .ok (.aload_n 0, 1) := by decide +kernel
theorem dX10_mixColumns_148 : decode cX10_mixColumns 148 = .ok (.getfield 74, 3) := by decide +kernel
theorem dX10_mixColumns_151 : decode cX10_mixColumns 151 = .ok (.iload 7, 2) := by decide +kernel
theorem dX10_mixColumns_153 : decode cX10_mixColumns 153 = .ok (.baload, 1) := by decide +kernel
theorem dX10_mixColumns_154 : decode cX10_mixColumns 154 = .ok (.bastore, 1) := by decide +kernel
theorem dX10_mixColumns_155 : decode cX10_mixColumns 155 = .ok (.iinc 7 1, 3) := by decide +kernel
theorem dX10_mixColumns_158 : decode cX10_mixColumns 158 = .ok (.goto (-23), 3) := by decide +kernel
theorem dX10_mixColumns_161 : decode cX10_mixColumns 161 = .ok (.return_, 1) := by decide +kernel
set_option maxHeartbeats 4000000 in
set_option maxRecDepth 100000 in
theorem ct_X10_mixColumns (ll : Launch) (D : va_G) (ta : Nat → ClassId) {G : (Nat → Prop) → State → Heap → Prop} (hGok : GOK G) (h0 : Nat) (a : Nat → Nat) (ar : Nat) (mn : Nat) (tp : Nat) (osz : Nat) (lsz : Nat) (ns : Nat) (ct : Nat) (hb2 : Nat) (at0 : Nat) (capb : Nat) (gb : Nat → BitVec 8) (ce : Nat → BitVec 8) (p : Nat) (q : Nat) (r : Nat) (s : Nat) (hat : at0 + 16 ≤ capb) (hcb : capb < 2147483648) (hp : p < 256 ∧ q < 256 ∧ r < 256 ∧ s < 256) (sz : Nat) : CT ll yX10_mixColumns cX10_mixColumns 10 none ({ frames := 2, cells := 0, slots := 0, locals := 44 } : Room) D ta G [.ref h0, .ref hb2, .int (nI at0), .int (nI p), .int (nI q), .int (nI r), .int (nI s)] [(h0, oM a ar mn tp osz lsz ns ct), (a 18, aS ta 16 ce), (hb2, aS ta capb gb)] sz (S := (Nat → BitVec 8) × (Nat → BitVec 8)) (fun _ => none) (fun u => (qSeg u.1 gb at0 16 (aMix p q r s (fun k => gb (at0 + k))))) (fun u => [(h0, oM a ar mn tp osz lsz ns ct), (a 18, aS ta 16 u.2), (hb2, aS ta capb u.1)]) 0 0 := by
  refine CT.of_v rfl (by decide) (Nat.le_of_ble_eq_true rfl) ?_
  intro pp ee ss mm below meth kc A Q hx hb hml hown hin hts hK hA hsz hG hret H locs hP hD hS ls hl
  have hl : lv_has ls 10 [(0, .ref h0), (1, .ref hb2), (2, .int (nI at0)), (3, .int (nI p)), (4, .int (nI q)), (5, .int (nI r)), (6, .int (nI s))] := hl
  refine lv_iconst (pc := 0) (v := nI 0) hx hb dX10_mixColumns_0 (by decide +kernel) ?_
  refine lv_istore (pc := 1) (lv' := [(7, .int (nI 0)), (0, .ref h0), (1, .ref hb2), (2, .int (nI at0)), (3, .int (nI p)), (4, .int (nI q)), (5, .int (nI r)), (6, .int (nI s))]) hx hb dX10_mixColumns_1 hl (by decide) rfl (fun ls hl => ?_)
  have LP3 : ∀ (nn3 : Nat) (c : Nat) (c' : Nat → BitVec 8), (c ≤ 4) → (qSeg c' ce 0 (4 * c) (aMix p q r s (fun k => gb (at0 + k)))) → (4 - c < nn3) → ∀ (H : Heap) (locs : List Loc), va_P D vwCl [(h0, oM a ar mn tp osz lsz ns ct), (a 18, aS ta 16 c'), (hb2, aS ta capb gb)] H → va_D A [(h0, oM a ar mn tp osz lsz ns ct), (a 18, aS ta 16 c'), (hb2, aS ta capb gb)] → va_S A ss.heap H locs → ∀ ls : Array Slot, lv_has ls 10 [(7, .int (nI (4 * c))), (0, .ref h0), (1, .ref hb2), (2, .int (nI at0)), (3, .int (nI p)), (4, .int (nI q)), (5, .int (nI r)), (6, .int (nI s))] → W pp ll ee ({ frames := 2, cells := 0, slots := 0, locals := 44 } : Room) ss mm (([.ref h0, .ref hb2, .int (nI at0), .int (nI p), .int (nI q), .int (nI r), .int (nI s)] : List Value).toArray) below meth kc H locs 0 0 Q (F0 mm 3 ls []) := by
    intro nn3
    induction nn3 with
    | zero => intro c c' hcc hs hmu; exact absurd hmu (Nat.not_lt_zero _)
    | succ nn3 ih3 =>
      intro c c' hcc hs hmu3 H locs hP hD hS ls hl
      refine lv_iload (pc := 3) hx hb dX10_mixColumns_3 (lv_at hl 0 rfl) ?_
      refine lv_bipush (pc := 5) (v := nI 16) hx hb dX10_mixColumns_5 (by decide +kernel) ?_
      refine lv_icmp_ge (pc := 7) (tgt := 132) hx hb dX10_mixColumns_7 (by decide) (fun c_1 => ?_) (fun c_1 => ?_)
      · skip
        rw [nI_leI (by omega) (by omega)] at c_1
        refine lv_iconst (pc := 132) (v := nI 0) hx hb dX10_mixColumns_132 (by decide +kernel) ?_
        refine lv_istore (pc := 133) (lv' := [(7, .int (nI 0)), (0, .ref h0), (1, .ref hb2), (2, .int (nI at0)), (3, .int (nI p)), (4, .int (nI q)), (5, .int (nI r)), (6, .int (nI s))]) hx hb dX10_mixColumns_133 hl (by decide) rfl (fun ls hl => ?_)
        have LP135 : ∀ (nn135 : Nat) (k : Nat) (g' : Nat → BitVec 8), (k ≤ 16) → (qSeg g' gb at0 k (aMix p q r s (fun k => gb (at0 + k)))) → (16 - k < nn135) → ∀ (H : Heap) (locs : List Loc), va_P D vwCl [(h0, oM a ar mn tp osz lsz ns ct), (a 18, aS ta 16 c'), (hb2, aS ta capb g')] H → va_D A [(h0, oM a ar mn tp osz lsz ns ct), (a 18, aS ta 16 c'), (hb2, aS ta capb g')] → va_S A ss.heap H locs → ∀ ls : Array Slot, lv_has ls 10 [(7, .int (nI k)), (0, .ref h0), (1, .ref hb2), (2, .int (nI at0)), (3, .int (nI p)), (4, .int (nI q)), (5, .int (nI r)), (6, .int (nI s))] → W pp ll ee ({ frames := 2, cells := 0, slots := 0, locals := 44 } : Room) ss mm (([.ref h0, .ref hb2, .int (nI at0), .int (nI p), .int (nI q), .int (nI r), .int (nI s)] : List Value).toArray) below meth kc H locs 0 0 Q (F0 mm 135 ls []) := by
          intro nn135
          induction nn135 with
          | zero => intro k g' hkk hs3 hmu; exact absurd hmu (Nat.not_lt_zero _)
          | succ nn135 ih135 =>
            intro k g' hkk hs3 hmu135 H locs hP hD hS ls hl
            refine lv_iload (pc := 135) hx hb dX10_mixColumns_135 (lv_at hl 0 rfl) ?_
            refine lv_bipush (pc := 137) (v := nI 16) hx hb dX10_mixColumns_137 (by decide +kernel) ?_
            refine lv_icmp_ge (pc := 139) (tgt := 161) hx hb dX10_mixColumns_139 (by decide) (fun c_2 => ?_) (fun c_2 => ?_)
            · skip
              rw [nI_leI (by omega) (by omega)] at c_2
              have hq_3 : (qSeg g' gb at0 16 (aMix p q r s (fun k => gb (at0 + k)))) := by
                rw [show (16 : Nat) = k by omega]; exact hs3
              exact hret (⟨(g'), (c')⟩ : (Nat → BitVec 8) × (Nat → BitVec 8)) _ _ _ _ dX10_mixColumns_161 hq_3 (hP.sub [0, 1, 2] rfl) (hD.sub [0, 1, 2] (by decide) rfl) hS
            · skip
              rw [nI_leI (by omega) (by omega)] at c_2
              refine lv_aload_n (pc := 142) hx hb dX10_mixColumns_142 rfl (lv_at hl 2 rfl) ?_
              refine lv_iload_n (pc := 143) hx hb dX10_mixColumns_143 rfl (lv_at hl 3 rfl) ?_
              refine lv_iload (pc := 144) hx hb dX10_mixColumns_144 (lv_at hl 0 rfl) ?_
              refine lv_iadd (pc := 146) hx hb dX10_mixColumns_146 ?_
              refine q_top (y := nI (at0 + k)) (nI_add at0 k) ?_
              refine lv_aload_n (pc := 147) hx hb dX10_mixColumns_147 rfl (lv_at hl 1 rfl) ?_
              refine va_get (pc := 148) (D := D) (ci := 8) (v := .ref (a 18)) (C := RX10) (T := TX10) (N := 57) hx hb hts iu10 hown hK hP 0 rfl rfl 18 (by decide) (hts _ tw_1063) (fun _ h9 => h9) rfl dX10_mixColumns_148 ?_
              refine lv_iload (pc := 151) hx hb dX10_mixColumns_151 (lv_at hl 0 rfl) ?_
              refine q_bald (pc := 153) hx hb hK hP 1 2 rfl rfl (k := k) (v := qs (c' k)) rfl (by omega) (by omega) rfl dX10_mixColumns_153 ?_
              refine q_bastS (pc := 154) hx hb hK hP hD hS 2 2 rfl rfl (k := at0 + k) rfl (by omega) (by omega) (b := c' k) (qlo_qs _) dX10_mixColumns_154 (fun H locs hP hD hS => ?_)
              have hP : va_P D vwCl [(h0, oM a ar mn tp osz lsz ns ct), (a 18, aS ta 16 c'), (hb2, aS ta capb (qU g' (at0 + k) (c' k)))] H := hP
              have hD : va_D A [(h0, oM a ar mn tp osz lsz ns ct), (a 18, aS ta 16 c'), (hb2, aS ta capb (qU g' (at0 + k) (c' k)))] := hD
              refine lv_iinc (pc := 155) (v := nI (k + 1)) (lv' := [(7, .int (nI (k + 1))), (0, .ref h0), (1, .ref hb2), (2, .int (nI at0)), (3, .int (nI p)), (4, .int (nI q)), (5, .int (nI r)), (6, .int (nI s))]) hx hb dX10_mixColumns_155 hl (k := 0) rfl (by first | exact nI_add k 1 | rfl) (by decide) rfl (fun ls hl => ?_)
              refine lv_goto (pc := 158) (tgt := 135) hx hb dX10_mixColumns_158 (by decide) ?_
              exact ih135 (k + 1) (qU g' (at0 + k) (c' k)) (by omega) (qSeg_s hs3 rfl (qSeg_at hs (by omega))) (by omega) _ _ (hP.sub [0, 1, 2] rfl) (hD.sub [0, 1, 2] (by decide) rfl) hS ls (lv_sub hl [0, 1, 2, 3, 4, 5, 6, 7] rfl)
        exact LP135 _ 0 gb (by omega) (qSeg_0) (Nat.lt_succ_self _) _ _ (hP.sub [0, 1, 2] rfl) (hD.sub [0, 1, 2] (by decide) rfl) hS ls (lv_sub hl [0, 1, 2, 3, 4, 5, 6, 7] rfl)
      · skip
        rw [nI_leI (by omega) (by omega)] at c_1
        refine lv_iconst (pc := 10) (v := nI 0) hx hb dX10_mixColumns_10 (by decide +kernel) ?_
        refine lv_istore (pc := 11) (lv' := [(8, .int (nI 0)), (7, .int (nI (4 * c))), (0, .ref h0), (1, .ref hb2), (2, .int (nI at0)), (3, .int (nI p)), (4, .int (nI q)), (5, .int (nI r)), (6, .int (nI s))]) hx hb dX10_mixColumns_11 hl (by decide) rfl (fun ls hl => ?_)
        have LP13 : ∀ (nn13 : Nat) (d : Nat) (d' : Nat → BitVec 8), (d ≤ 4) → (qSeg d' ce 0 (4 * c + d) (aMix p q r s (fun k => gb (at0 + k)))) → (4 - d < nn13) → ∀ (H : Heap) (locs : List Loc), va_P D vwCl [(h0, oM a ar mn tp osz lsz ns ct), (a 18, aS ta 16 d'), (hb2, aS ta capb gb)] H → va_D A [(h0, oM a ar mn tp osz lsz ns ct), (a 18, aS ta 16 d'), (hb2, aS ta capb gb)] → va_S A ss.heap H locs → ∀ ls : Array Slot, lv_has ls 10 [(8, .int (nI d)), (7, .int (nI (4 * c))), (0, .ref h0), (1, .ref hb2), (2, .int (nI at0)), (3, .int (nI p)), (4, .int (nI q)), (5, .int (nI r)), (6, .int (nI s))] → W pp ll ee ({ frames := 2, cells := 0, slots := 0, locals := 44 } : Room) ss mm (([.ref h0, .ref hb2, .int (nI at0), .int (nI p), .int (nI q), .int (nI r), .int (nI s)] : List Value).toArray) below meth kc H locs 0 0 Q (F0 mm 13 ls []) := by
          intro nn13
          induction nn13 with
          | zero => intro d d' hdd hs2 hmu; exact absurd hmu (Nat.not_lt_zero _)
          | succ nn13 ih13 =>
            intro d d' hdd hs2 hmu13 H locs hP hD hS ls hl
            refine lv_iload (pc := 13) hx hb dX10_mixColumns_13 (lv_at hl 0 rfl) ?_
            refine lv_iconst (pc := 15) (v := nI 4) hx hb dX10_mixColumns_15 (by decide +kernel) ?_
            refine lv_icmp_ge (pc := 16) (tgt := 126) hx hb dX10_mixColumns_16 (by decide) (fun c_4 => ?_) (fun c_4 => ?_)
            · skip
              rw [nI_leI (by omega) (by omega)] at c_4
              refine lv_iinc (pc := 126) (v := nI (4 * c + 4)) (lv' := [(7, .int (nI (4 * c + 4))), (8, .int (nI d)), (0, .ref h0), (1, .ref hb2), (2, .int (nI at0)), (3, .int (nI p)), (4, .int (nI q)), (5, .int (nI r)), (6, .int (nI s))]) hx hb dX10_mixColumns_126 hl (k := 1) rfl (by first | exact nI_add (4 * c) 4 | rfl) (by decide) rfl (fun ls hl => ?_)
              refine lv_goto (pc := 129) (tgt := 3) hx hb dX10_mixColumns_129 (by decide) ?_
              exact ih3 (c + 1) d' (by omega) (by rw [show 4 * (c + 1) = 4 * c + d by omega]; exact hs2) (by omega) _ _ (hP.sub [0, 1, 2] rfl) (hD.sub [0, 1, 2] (by decide) rfl) hS ls (lv_sub hl [0, 2, 3, 4, 5, 6, 7, 8] rfl)
            · skip
              rw [nI_leI (by omega) (by omega)] at c_4
              refine lv_aload_n (pc := 19) hx hb dX10_mixColumns_19 rfl (lv_at hl 3 rfl) ?_
              refine lv_iload_n (pc := 20) hx hb dX10_mixColumns_20 rfl (lv_at hl 4 rfl) ?_
              refine lv_iload (pc := 21) hx hb dX10_mixColumns_21 (lv_at hl 1 rfl) ?_
              refine lv_iadd (pc := 23) hx hb dX10_mixColumns_23 ?_
              refine q_top (y := nI (at0 + 4 * c)) (nI_add at0 (4 * c)) ?_
              refine lv_iload (pc := 24) hx hb dX10_mixColumns_24 (lv_at hl 0 rfl) ?_
              refine lv_iadd (pc := 26) hx hb dX10_mixColumns_26 ?_
              refine q_top (y := nI (at0 + 4 * c + d)) (nI_add (at0 + 4 * c) d) ?_
              refine q_bald (pc := 27) hx hb hK hP 2 2 rfl rfl (k := at0 + 4 * c + d) (v := qs (gb (at0 + 4 * c + d))) rfl (by omega) (by omega) rfl dX10_mixColumns_27 ?_
              refine lv_sipush (pc := 28) (v := nI 255) hx hb dX10_mixColumns_28 (by decide +kernel) ?_
              refine lv_iand (pc := 31) hx hb dX10_mixColumns_31 ?_
              refine q_top (y := qz (gb (at0 + 4 * c + d))) ((q_m255 _).trans (congrArg qz (qlo_qs _))) ?_
              refine lv_iload_n (pc := 32) hx hb dX10_mixColumns_32 rfl (lv_at hl 5 rfl) ?_
              refine cs_S (pc := 33) (idx := 52) (n := 2) (wr := [(h0, oM a ar mn tp osz lsz ns ct), (a 18, aS ta 16 d'), (hb2, aS ta capb gb)]) (As := [.int (qz (gb (at0 + 4 * c + d))), .int (nI p)]) (rest := []) hx hb hml hown hts hGok hK hA hG hl.1 hP hD hS (ct_X10_times ll D ta hGok (gb (at0 + 4 * c + d)) p (by first | assumption | omega | rfl | decide) H.size) tw_1041 tw_1039 tw_1040 tw_75 hdX10_times rfl ⟨rfl, rfl, Nat.le_of_ble_eq_true rfl, Nat.le_of_ble_eq_true rfl, Nat.le_of_ble_eq_true rfl, Nat.le_of_ble_eq_true rfl⟩ [] [0, 1, 2] rfl rfl (by decide) rfl (Nat.le_of_ble_eq_true rfl) dX10_mixColumns_33 (fun u H locs hq hP hD hS => ?_)
              refine W.eq (g2 := F0 mm 36 ls [.int (qz (gm (gb (at0 + 4 * c + d)) p))]) rfl ?_
              have hP : va_P D vwCl [(h0, oM a ar mn tp osz lsz ns ct), (a 18, aS ta 16 d'), (hb2, aS ta capb gb)] H := hP
              have hD : va_D A [(h0, oM a ar mn tp osz lsz ns ct), (a 18, aS ta 16 d'), (hb2, aS ta capb gb)] := hD
              refine lv_aload_n (pc := 36) hx hb dX10_mixColumns_36 rfl (lv_at hl 3 rfl) ?_
              refine lv_iload_n (pc := 37) hx hb dX10_mixColumns_37 rfl (lv_at hl 4 rfl) ?_
              refine lv_iload (pc := 38) hx hb dX10_mixColumns_38 (lv_at hl 1 rfl) ?_
              refine lv_iadd (pc := 40) hx hb dX10_mixColumns_40 ?_
              refine q_top (y := nI (at0 + 4 * c)) (nI_add at0 (4 * c)) ?_
              refine lv_iload (pc := 41) hx hb dX10_mixColumns_41 (lv_at hl 0 rfl) ?_
              refine lv_iconst (pc := 43) (v := nI 1) hx hb dX10_mixColumns_43 (by decide +kernel) ?_
              refine lv_iadd (pc := 44) hx hb dX10_mixColumns_44 ?_
              refine q_top (y := nI (d + 1)) (nI_add d 1) ?_
              refine lv_iconst (pc := 45) (v := nI 4) hx hb dX10_mixColumns_45 (by decide +kernel) ?_
              refine lv_irem (pc := 46) hx hb dX10_mixColumns_46 (q_ne0 (by omega) (by omega)) ?_
              refine q_top (y := nI ((d + 1) % 4)) (pk_rem (by omega) (by omega) (by omega)) ?_
              refine lv_iadd (pc := 47) hx hb dX10_mixColumns_47 ?_
              refine q_top (y := nI (at0 + 4 * c + ((d + 1) % 4))) (nI_add (at0 + 4 * c) ((d + 1) % 4)) ?_
              refine q_bald (pc := 48) hx hb hK hP 2 2 rfl rfl (k := at0 + 4 * c + ((d + 1) % 4)) (v := qs (gb (at0 + 4 * c + ((d + 1) % 4)))) rfl (by omega) (by omega) rfl dX10_mixColumns_48 ?_
              refine lv_sipush (pc := 49) (v := nI 255) hx hb dX10_mixColumns_49 (by decide +kernel) ?_
              refine lv_iand (pc := 52) hx hb dX10_mixColumns_52 ?_
              refine q_top (y := qz (gb (at0 + 4 * c + ((d + 1) % 4)))) ((q_m255 _).trans (congrArg qz (qlo_qs _))) ?_
              refine lv_iload (pc := 53) hx hb dX10_mixColumns_53 (lv_at hl 6 rfl) ?_
              refine cs_S (pc := 55) (idx := 52) (n := 2) (wr := [(h0, oM a ar mn tp osz lsz ns ct), (a 18, aS ta 16 d'), (hb2, aS ta capb gb)]) (As := [.int (qz (gb (at0 + 4 * c + ((d + 1) % 4)))), .int (nI q)]) (rest := [.int (qz (gm (gb (at0 + 4 * c + d)) p))]) hx hb hml hown hts hGok hK hA hG hl.1 hP hD hS (ct_X10_times ll D ta hGok (gb (at0 + 4 * c + ((d + 1) % 4))) q (by first | assumption | omega | rfl | decide) H.size) tw_1041 tw_1039 tw_1040 tw_75 hdX10_times rfl ⟨rfl, rfl, Nat.le_of_ble_eq_true rfl, Nat.le_of_ble_eq_true rfl, Nat.le_of_ble_eq_true rfl, Nat.le_of_ble_eq_true rfl⟩ [] [0, 1, 2] rfl rfl (by decide) rfl (Nat.le_of_ble_eq_true rfl) dX10_mixColumns_55 (fun u H locs hq hP hD hS => ?_)
              refine W.eq (g2 := F0 mm 58 ls [.int (qz (gm (gb (at0 + 4 * c + ((d + 1) % 4))) q)), .int (qz (gm (gb (at0 + 4 * c + d)) p))]) rfl ?_
              have hP : va_P D vwCl [(h0, oM a ar mn tp osz lsz ns ct), (a 18, aS ta 16 d'), (hb2, aS ta capb gb)] H := hP
              have hD : va_D A [(h0, oM a ar mn tp osz lsz ns ct), (a 18, aS ta 16 d'), (hb2, aS ta capb gb)] := hD
              refine lv_ixor (pc := 58) hx hb dX10_mixColumns_58 ?_
              refine q_top (y := qz ((gm (gb (at0 + 4 * c + d)) p) ^^^ (gm (gb (at0 + 4 * c + ((d + 1) % 4))) q))) (q_xor_z _ _) ?_
              refine lv_aload_n (pc := 59) hx hb dX10_mixColumns_59 rfl (lv_at hl 3 rfl) ?_
              refine lv_iload_n (pc := 60) hx hb dX10_mixColumns_60 rfl (lv_at hl 4 rfl) ?_
              refine lv_iload (pc := 61) hx hb dX10_mixColumns_61 (lv_at hl 1 rfl) ?_
              refine lv_iadd (pc := 63) hx hb dX10_mixColumns_63 ?_
              refine q_top (y := nI (at0 + 4 * c)) (nI_add at0 (4 * c)) ?_
              refine lv_iload (pc := 64) hx hb dX10_mixColumns_64 (lv_at hl 0 rfl) ?_
              refine lv_iconst (pc := 66) (v := nI 2) hx hb dX10_mixColumns_66 (by decide +kernel) ?_
              refine lv_iadd (pc := 67) hx hb dX10_mixColumns_67 ?_
              refine q_top (y := nI (d + 2)) (nI_add d 2) ?_
              refine lv_iconst (pc := 68) (v := nI 4) hx hb dX10_mixColumns_68 (by decide +kernel) ?_
              refine lv_irem (pc := 69) hx hb dX10_mixColumns_69 (q_ne0 (by omega) (by omega)) ?_
              refine q_top (y := nI ((d + 2) % 4)) (pk_rem (by omega) (by omega) (by omega)) ?_
              refine lv_iadd (pc := 70) hx hb dX10_mixColumns_70 ?_
              refine q_top (y := nI (at0 + 4 * c + ((d + 2) % 4))) (nI_add (at0 + 4 * c) ((d + 2) % 4)) ?_
              refine q_bald (pc := 71) hx hb hK hP 2 2 rfl rfl (k := at0 + 4 * c + ((d + 2) % 4)) (v := qs (gb (at0 + 4 * c + ((d + 2) % 4)))) rfl (by omega) (by omega) rfl dX10_mixColumns_71 ?_
              refine lv_sipush (pc := 72) (v := nI 255) hx hb dX10_mixColumns_72 (by decide +kernel) ?_
              refine lv_iand (pc := 75) hx hb dX10_mixColumns_75 ?_
              refine q_top (y := qz (gb (at0 + 4 * c + ((d + 2) % 4)))) ((q_m255 _).trans (congrArg qz (qlo_qs _))) ?_
              refine lv_iload (pc := 76) hx hb dX10_mixColumns_76 (lv_at hl 7 rfl) ?_
              refine cs_S (pc := 78) (idx := 52) (n := 2) (wr := [(h0, oM a ar mn tp osz lsz ns ct), (a 18, aS ta 16 d'), (hb2, aS ta capb gb)]) (As := [.int (qz (gb (at0 + 4 * c + ((d + 2) % 4)))), .int (nI r)]) (rest := [.int (qz ((gm (gb (at0 + 4 * c + d)) p) ^^^ (gm (gb (at0 + 4 * c + ((d + 1) % 4))) q)))]) hx hb hml hown hts hGok hK hA hG hl.1 hP hD hS (ct_X10_times ll D ta hGok (gb (at0 + 4 * c + ((d + 2) % 4))) r (by first | assumption | omega | rfl | decide) H.size) tw_1041 tw_1039 tw_1040 tw_75 hdX10_times rfl ⟨rfl, rfl, Nat.le_of_ble_eq_true rfl, Nat.le_of_ble_eq_true rfl, Nat.le_of_ble_eq_true rfl, Nat.le_of_ble_eq_true rfl⟩ [] [0, 1, 2] rfl rfl (by decide) rfl (Nat.le_of_ble_eq_true rfl) dX10_mixColumns_78 (fun u H locs hq hP hD hS => ?_)
              refine W.eq (g2 := F0 mm 81 ls [.int (qz (gm (gb (at0 + 4 * c + ((d + 2) % 4))) r)), .int (qz ((gm (gb (at0 + 4 * c + d)) p) ^^^ (gm (gb (at0 + 4 * c + ((d + 1) % 4))) q)))]) rfl ?_
              have hP : va_P D vwCl [(h0, oM a ar mn tp osz lsz ns ct), (a 18, aS ta 16 d'), (hb2, aS ta capb gb)] H := hP
              have hD : va_D A [(h0, oM a ar mn tp osz lsz ns ct), (a 18, aS ta 16 d'), (hb2, aS ta capb gb)] := hD
              refine lv_ixor (pc := 81) hx hb dX10_mixColumns_81 ?_
              refine q_top (y := qz (((gm (gb (at0 + 4 * c + d)) p) ^^^ (gm (gb (at0 + 4 * c + ((d + 1) % 4))) q)) ^^^ (gm (gb (at0 + 4 * c + ((d + 2) % 4))) r))) (q_xor_z _ _) ?_
              refine lv_aload_n (pc := 82) hx hb dX10_mixColumns_82 rfl (lv_at hl 3 rfl) ?_
              refine lv_iload_n (pc := 83) hx hb dX10_mixColumns_83 rfl (lv_at hl 4 rfl) ?_
              refine lv_iload (pc := 84) hx hb dX10_mixColumns_84 (lv_at hl 1 rfl) ?_
              refine lv_iadd (pc := 86) hx hb dX10_mixColumns_86 ?_
              refine q_top (y := nI (at0 + 4 * c)) (nI_add at0 (4 * c)) ?_
              refine lv_iload (pc := 87) hx hb dX10_mixColumns_87 (lv_at hl 0 rfl) ?_
              refine lv_iconst (pc := 89) (v := nI 3) hx hb dX10_mixColumns_89 (by decide +kernel) ?_
              refine lv_iadd (pc := 90) hx hb dX10_mixColumns_90 ?_
              refine q_top (y := nI (d + 3)) (nI_add d 3) ?_
              refine lv_iconst (pc := 91) (v := nI 4) hx hb dX10_mixColumns_91 (by decide +kernel) ?_
              refine lv_irem (pc := 92) hx hb dX10_mixColumns_92 (q_ne0 (by omega) (by omega)) ?_
              refine q_top (y := nI ((d + 3) % 4)) (pk_rem (by omega) (by omega) (by omega)) ?_
              refine lv_iadd (pc := 93) hx hb dX10_mixColumns_93 ?_
              refine q_top (y := nI (at0 + 4 * c + ((d + 3) % 4))) (nI_add (at0 + 4 * c) ((d + 3) % 4)) ?_
              refine q_bald (pc := 94) hx hb hK hP 2 2 rfl rfl (k := at0 + 4 * c + ((d + 3) % 4)) (v := qs (gb (at0 + 4 * c + ((d + 3) % 4)))) rfl (by omega) (by omega) rfl dX10_mixColumns_94 ?_
              refine lv_sipush (pc := 95) (v := nI 255) hx hb dX10_mixColumns_95 (by decide +kernel) ?_
              refine lv_iand (pc := 98) hx hb dX10_mixColumns_98 ?_
              refine q_top (y := qz (gb (at0 + 4 * c + ((d + 3) % 4)))) ((q_m255 _).trans (congrArg qz (qlo_qs _))) ?_
              refine lv_iload (pc := 99) hx hb dX10_mixColumns_99 (lv_at hl 8 rfl) ?_
              refine cs_S (pc := 101) (idx := 52) (n := 2) (wr := [(h0, oM a ar mn tp osz lsz ns ct), (a 18, aS ta 16 d'), (hb2, aS ta capb gb)]) (As := [.int (qz (gb (at0 + 4 * c + ((d + 3) % 4)))), .int (nI s)]) (rest := [.int (qz (((gm (gb (at0 + 4 * c + d)) p) ^^^ (gm (gb (at0 + 4 * c + ((d + 1) % 4))) q)) ^^^ (gm (gb (at0 + 4 * c + ((d + 2) % 4))) r)))]) hx hb hml hown hts hGok hK hA hG hl.1 hP hD hS (ct_X10_times ll D ta hGok (gb (at0 + 4 * c + ((d + 3) % 4))) s (by first | assumption | omega | rfl | decide) H.size) tw_1041 tw_1039 tw_1040 tw_75 hdX10_times rfl ⟨rfl, rfl, Nat.le_of_ble_eq_true rfl, Nat.le_of_ble_eq_true rfl, Nat.le_of_ble_eq_true rfl, Nat.le_of_ble_eq_true rfl⟩ [] [0, 1, 2] rfl rfl (by decide) rfl (Nat.le_of_ble_eq_true rfl) dX10_mixColumns_101 (fun u H locs hq hP hD hS => ?_)
              refine W.eq (g2 := F0 mm 104 ls [.int (qz (gm (gb (at0 + 4 * c + ((d + 3) % 4))) s)), .int (qz (((gm (gb (at0 + 4 * c + d)) p) ^^^ (gm (gb (at0 + 4 * c + ((d + 1) % 4))) q)) ^^^ (gm (gb (at0 + 4 * c + ((d + 2) % 4))) r)))]) rfl ?_
              have hP : va_P D vwCl [(h0, oM a ar mn tp osz lsz ns ct), (a 18, aS ta 16 d'), (hb2, aS ta capb gb)] H := hP
              have hD : va_D A [(h0, oM a ar mn tp osz lsz ns ct), (a 18, aS ta 16 d'), (hb2, aS ta capb gb)] := hD
              refine lv_ixor (pc := 104) hx hb dX10_mixColumns_104 ?_
              refine q_top (y := qz ((((gm (gb (at0 + 4 * c + d)) p) ^^^ (gm (gb (at0 + 4 * c + ((d + 1) % 4))) q)) ^^^ (gm (gb (at0 + 4 * c + ((d + 2) % 4))) r)) ^^^ (gm (gb (at0 + 4 * c + ((d + 3) % 4))) s))) (q_xor_z _ _) ?_
              refine lv_istore (pc := 105) (lv' := [(9, .int (qz ((((gm (gb (at0 + 4 * c + d)) p) ^^^ (gm (gb (at0 + 4 * c + ((d + 1) % 4))) q)) ^^^ (gm (gb (at0 + 4 * c + ((d + 2) % 4))) r)) ^^^ (gm (gb (at0 + 4 * c + ((d + 3) % 4))) s)))), (8, .int (nI d)), (7, .int (nI (4 * c))), (0, .ref h0), (1, .ref hb2), (2, .int (nI at0)), (3, .int (nI p)), (4, .int (nI q)), (5, .int (nI r)), (6, .int (nI s))]) hx hb dX10_mixColumns_105 hl (by decide) rfl (fun ls hl => ?_)
              refine lv_aload_n (pc := 107) hx hb dX10_mixColumns_107 rfl (lv_at hl 3 rfl) ?_
              refine va_get (pc := 108) (D := D) (ci := 8) (v := .ref (a 18)) (C := RX10) (T := TX10) (N := 57) hx hb hts iu10 hown hK hP 0 rfl rfl 18 (by decide) (hts _ tw_1063) (fun _ h9 => h9) rfl dX10_mixColumns_108 ?_
              refine lv_iload (pc := 111) hx hb dX10_mixColumns_111 (lv_at hl 2 rfl) ?_
              refine lv_iload (pc := 113) hx hb dX10_mixColumns_113 (lv_at hl 1 rfl) ?_
              refine lv_iadd (pc := 115) hx hb dX10_mixColumns_115 ?_
              refine q_top (y := nI (4 * c + d)) (nI_add (4 * c) d) ?_
              refine lv_iload (pc := 116) hx hb dX10_mixColumns_116 (lv_at hl 0 rfl) ?_
              refine lv_i2b (pc := 118) (v := qs ((((gm (gb (at0 + 4 * c + d)) p) ^^^ (gm (gb (at0 + 4 * c + ((d + 1) % 4))) q)) ^^^ (gm (gb (at0 + 4 * c + ((d + 2) % 4))) r)) ^^^ (gm (gb (at0 + 4 * c + ((d + 3) % 4))) s))) hx hb dX10_mixColumns_118 (q_i2b_z _) ?_
              refine q_bastS (pc := 119) hx hb hK hP hD hS 1 2 rfl rfl (k := 4 * c + d) rfl (by omega) (by omega) (b := (((gm (gb (at0 + 4 * c + d)) p) ^^^ (gm (gb (at0 + 4 * c + ((d + 1) % 4))) q)) ^^^ (gm (gb (at0 + 4 * c + ((d + 2) % 4))) r)) ^^^ (gm (gb (at0 + 4 * c + ((d + 3) % 4))) s)) (qlo_qs _) dX10_mixColumns_119 (fun H locs hP hD hS => ?_)
              have hP : va_P D vwCl [(h0, oM a ar mn tp osz lsz ns ct), (a 18, aS ta 16 (qU d' (4 * c + d) ((((gm (gb (at0 + 4 * c + d)) p) ^^^ (gm (gb (at0 + 4 * c + ((d + 1) % 4))) q)) ^^^ (gm (gb (at0 + 4 * c + ((d + 2) % 4))) r)) ^^^ (gm (gb (at0 + 4 * c + ((d + 3) % 4))) s)))), (hb2, aS ta capb gb)] H := hP
              have hD : va_D A [(h0, oM a ar mn tp osz lsz ns ct), (a 18, aS ta 16 (qU d' (4 * c + d) ((((gm (gb (at0 + 4 * c + d)) p) ^^^ (gm (gb (at0 + 4 * c + ((d + 1) % 4))) q)) ^^^ (gm (gb (at0 + 4 * c + ((d + 2) % 4))) r)) ^^^ (gm (gb (at0 + 4 * c + ((d + 3) % 4))) s)))), (hb2, aS ta capb gb)] := hD
              refine lv_iinc (pc := 120) (v := nI (d + 1)) (lv' := [(8, .int (nI (d + 1))), (9, .int (qz ((((gm (gb (at0 + 4 * c + d)) p) ^^^ (gm (gb (at0 + 4 * c + ((d + 1) % 4))) q)) ^^^ (gm (gb (at0 + 4 * c + ((d + 2) % 4))) r)) ^^^ (gm (gb (at0 + 4 * c + ((d + 3) % 4))) s)))), (7, .int (nI (4 * c))), (0, .ref h0), (1, .ref hb2), (2, .int (nI at0)), (3, .int (nI p)), (4, .int (nI q)), (5, .int (nI r)), (6, .int (nI s))]) hx hb dX10_mixColumns_120 hl (k := 1) rfl (by first | exact nI_add d 1 | rfl) (by decide) rfl (fun ls hl => ?_)
              refine lv_goto (pc := 123) (tgt := 13) hx hb dX10_mixColumns_123 (by decide) ?_
              exact ih13 (d + 1) (qU d' (4 * c + d) ((((gm (gb (at0 + 4 * c + d)) p) ^^^ (gm (gb (at0 + 4 * c + ((d + 1) % 4))) q)) ^^^ (gm (gb (at0 + 4 * c + ((d + 2) % 4))) r)) ^^^ (gm (gb (at0 + 4 * c + ((d + 3) % 4))) s))) (by omega) (qSeg_s (k := 4 * c + d) hs2 (by omega) (by simp only [aMix, show (4 * c + d) / 4 = c by omega, show (4 * c + d) % 4 = d by omega, Nat.add_assoc])) (by omega) _ _ (hP.sub [0, 1, 2] rfl) (hD.sub [0, 1, 2] (by decide) rfl) hS ls (lv_sub hl [0, 2, 3, 4, 5, 6, 7, 8, 9] rfl)
        exact LP13 _ 0 c' (by omega) (hs) (Nat.lt_succ_self _) _ _ (hP.sub [0, 1, 2] rfl) (hD.sub [0, 1, 2] (by decide) rfl) hS ls (lv_sub hl [0, 1, 2, 3, 4, 5, 6, 7, 8] rfl)
  exact LP3 _ 0 ce (by omega) (qSeg_0) (Nat.lt_succ_self _) _ _ (hP.sub [0, 1, 2] rfl) (hD.sub [0, 1, 2] (by decide) rfl) hS ls (lv_sub hl [0, 1, 2, 3, 4, 5, 6, 7] rfl)
