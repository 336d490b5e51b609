theorem hdX10_twice : yX10_twice.cls ≠ "java/lang/invoke/MethodHandle" ∧ yX10_twice.cls ≠ "java/lang/invoke/VarHandle" ∧ (parseMethodDescriptor yX10_twice.desc).map (fun d => d.parameters.length) = some 1 := ⟨by decide +kernel, by decide +kernel, by decide +kernel⟩
theorem dX10_twice_0 : decode cX10_twice 0 = .ok (.iload_n 0, 1) := by decide +kernel
theorem dX10_twice_1 : decode cX10_twice 1 = .ok (.iconst 1, 1) := by decide +kernel
theorem dX10_twice_2 : decode cX10_twice 2 = .ok (.ishl, 1) := by decide +kernel
theorem dX10_twice_3 : decode cX10_twice 3 = .ok (.iload_n 0, 1) := by decide +kernel
theorem dX10_twice_4 : decode cX10_twice 4 = .ok (.bipush 127, 2) := by decide +kernel
theorem dX10_twice_6 : decode cX10_twice 6 = .ok (.if_icmp .le 9, 3) := by decide +kernel
theorem dX10_twice_9 : decode cX10_twice 9 = .ok (.sipush 283, 3) := by decide +kernel
theorem dX10_twice_12 : decode cX10_twice 12 = .ok (.goto 4, 3) := by decide +kernel
theorem dX10_twice_15 : decode cX10_twice 15 = .ok (.iconst 0, 1) := by decide +kernel
theorem dX10_twice_16 : decode cX10_twice 16 = .ok (.ixor, 1) := by decide +kernel
theorem dX10_twice_17 : decode cX10_twice 17 = .ok (.sipush 255, 3) := by decide +kernel
theorem dX10_twice_20 : decode cX10_twice 20 = .ok (.iand, 1) := by decide +kernel
theorem dX10_twice_21 : decode cX10_twice 21 = .ok (.ireturn, 1) := by decide +kernel
set_option maxHeartbeats 4000000 in
set_option maxRecDepth 100000 in
theorem ct_X10_twice (ll : Launch) (D : va_G) (ta : Nat → ClassId) {G : (Nat → Prop) → State → Heap → Prop} (hGok : GOK G) (b : BitVec 8)  (sz : Nat) : CT ll yX10_twice cX10_twice 1 (some .int) ({ frames := 0, cells := 0, slots := 0, locals := 0 } : Room) D ta G [.int (qz b)] [] sz (S := Unit) (fun u => some (.int (qz (xt b)))) (fun u => True) (fun u => []) 0 0 := by
  refine CT.of_i (r := fun u => qz (xt b)) rfl (by decide) (Nat.le_of_ble_eq_true rfl) ?_
  intro pp ee ss mm below meth kc A Q hx hb hml hown hin hts hK hA hsz hG hret H locs hP hD hS ls hl
  have hl : lv_has ls 1 [(0, .int (qz b))] := hl
  refine lv_iload_n (pc := 0) hx hb dX10_twice_0 rfl (lv_at hl 0 rfl) ?_
  refine lv_iconst (pc := 1) (v := nI 1) hx hb dX10_twice_1 (by decide +kernel) ?_
  refine lv_ishl (pc := 2) hx hb dX10_twice_2 ?_
  refine lv_iload_n (pc := 3) hx hb dX10_twice_3 rfl (lv_at hl 0 rfl) ?_
  refine lv_bipush (pc := 4) (v := nI 127) hx hb dX10_twice_4 (by decide +kernel) ?_
  refine lv_icmp_le (pc := 6) (tgt := 15) hx hb dX10_twice_6 (by decide) (fun c_1 => ?_) (fun c_1 => ?_)
  · skip
    have hc := c_1
    refine lv_iconst (pc := 15) (v := nI 0) hx hb dX10_twice_15 (by decide +kernel) ?_
    refine lv_ixor (pc := 16) hx hb dX10_twice_16 ?_
    refine lv_sipush (pc := 17) (v := nI 255) hx hb dX10_twice_17 (by decide +kernel) ?_
    refine lv_iand (pc := 20) hx hb dX10_twice_20 ?_
    refine q_top (y := qz (qlo (((qz b) <<< ((nI 1) &&& 31)) ^^^ (nI 0)))) (q_m255 _) ?_
    refine q_top (y := qz (xt b)) (congrArg qz (by first | exact xt_lo hc | exact xt_hi hc)) ?_
    have hq_2 : True := trivial
    exact hret () _ _ _ _ dX10_twice_21 hq_2 (hP.sub [] rfl) (hD.sub [] (by decide) rfl) hS
  · skip
    have hc := c_1
    refine lv_sipush (pc := 9) (v := nI 283) hx hb dX10_twice_9 (by decide +kernel) ?_
    refine lv_goto (pc := 12) (tgt := 16) hx hb dX10_twice_12 (by decide) ?_
    refine lv_ixor (pc := 16) hx hb dX10_twice_16 ?_
    refine lv_sipush (pc := 17) (v := nI 255) hx hb dX10_twice_17 (by decide +kernel) ?_
    refine lv_iand (pc := 20) hx hb dX10_twice_20 ?_
    refine q_top (y := qz (qlo (((qz b) <<< ((nI 1) &&& 31)) ^^^ (nI 283)))) (q_m255 _) ?_
    refine q_top (y := qz (xt b)) (congrArg qz (by first | exact xt_lo hc | exact xt_hi hc)) ?_
    have hq_3 : True := trivial
    exact hret () _ _ _ _ dX10_twice_21 hq_3 (hP.sub [] rfl) (hD.sub [] (by decide) rfl) hS
theorem hdX10_times : yX10_times.cls ≠ "java/lang/invoke/MethodHandle" ∧ yX10_times.cls ≠ "java/lang/invoke/VarHandle" ∧ (parseMethodDescriptor yX10_times.desc).map (fun d => d.parameters.length) = some 2 := ⟨by decide +kernel, by decide +kernel, by decide +kernel⟩
theorem dX10_times_0 : decode cX10_times 0 = .ok (.iconst 0, 1) := by decide +kernel
theorem dX10_times_1 : decode cX10_times 1 = .ok (.istore_n 2, 1) := by decide +kernel
theorem dX10_times_2 : decode cX10_times 2 = .ok (.iload_n 0, 1) := by decide +kernel
theorem dX10_times_3 : decode cX10_times 3 = .ok (.istore_n 3, 1) := by decide +kernel
theorem dX10_times_4 : decode cX10_times 4 = .ok (.iconst 0, 1) := by decide +kernel
theorem dX10_times_5 : decode cX10_times 5 = .ok (.istore 4, 2) := by decide +kernel
theorem dX10_times_7 : decode cX10_times 7 = .ok (.iload 4, 2) := by decide +kernel
theorem dX10_times_9 : decode cX10_times 9 = .ok (.bipush 8, 2) := by decide +kernel
theorem dX10_times_11 : decode cX10_times 11 = .ok (.if_icmp .ge 32, 3) := by decide +kernel
theorem dX10_times_14 : decode cX10_times 14 = .ok (.iload_n 2, 1) := by decide +kernel
theorem dX10_times_15 : decode cX10_times 15 = .ok (.iload_n 1, 1) := by decide +kernel
theorem dX10_times_16 : decode cX10_times 16 = .ok (.iload 4, 2) := by decide +kernel
theorem dX10_times_18 : decode cX10_times 18 = .ok (.ishr, 1) := by decide +kernel
theorem dX10_times_19 : decode cX10_times 19 = .ok (.iconst 1, 1) := by decide +kernel
theorem dX10_times_20 : decode cX10_times 20 = .ok (.iand, 1) := by decide +kernel
theorem dX10_times_21 : decode cX10_times 21 = .ok (.iconst 1, 1) := by decide +kernel
theorem dX10_times_22 : decode cX10_times 22 = .ok (.if_icmp .ne 7, 3) := by decide +kernel
theorem dX10_times_25 : decode cX10_times 25 = .ok (.iload_n 3, 1) := by decide +kernel
theorem dX10_times_26 : decode cX10_times 26 = .ok (.goto 4, 3) := by decide +kernel
theorem dX10_times_29 : decode cX10_times 29 = .ok (.iconst 0, 1) := by decide +kernel
theorem dX10_times_30 : decode cX10_times 30 = .ok (.ixor, 1) := by decide +kernel
theorem dX10_times_31 : decode cX10_times 31 = .ok (.istore_n 2, 1) := by decide +kernel
theorem dX10_times_32 : decode cX10_times 32 = .ok (.iload_n 3, 1) := by decide +kernel
theorem dX10_times_33 : decode cX10_times 33 = .ok (.invokestatic 48, 3) := by decide +kernel
theorem dX10_times_36 : decode cX10_times 36 = .ok (.istore_n 3, 1) := by decide +kernel
theorem dX10_times_37 : decode cX10_times 37 = .ok (.iinc 4 1, 3) := by decide +kernel
theorem dX10_times_40 : decode cX10_times 40 = .ok (.goto (-33), 3) := by decide +kernel
theorem dX10_times_43 : decode cX10_times 43 = .ok (.iload_n 2, 1) := by decide +kernel
theorem dX10_times_44 : decode cX10_times 44 = .ok (.ireturn, 1) := by decide +kernel
set_option maxHeartbeats 4000000 in
set_option maxRecDepth 100000 in
theorem ct_X10_times (ll : Launch) (D : va_G) (ta : Nat → ClassId) {G : (Nat → Prop) → State → Heap → Prop} (hGok : GOK G) (x : BitVec 8) (k : Nat) (hk : k < 256) (sz : Nat) : CT ll yX10_times cX10_times 5 (some .int) ({ frames := 1, cells := 0, slots := 0, locals := 20 } : Room) D ta G [.int (qz x), .int (nI k)] [] sz (S := Unit) (fun u => some (.int (qz (gm x k)))) (fun u => True) (fun u => []) 0 0 := by
  refine CT.of_i (r := fun u => qz (gm x k)) rfl (by decide) (Nat.le_of_ble_eq_true rfl) ?_
  intro pp ee ss mm below meth kc A Q hx hb hml hown hin hts hK hA hsz hG hret H locs hP hD hS ls hl
  have hl : lv_has ls 5 [(0, .int (qz x)), (1, .int (nI k))] := hl
  refine lv_iconst (pc := 0) (v := nI 0) hx hb dX10_times_0 (by decide +kernel) ?_
  refine q_top (y := qz (0#8)) rfl ?_
  refine lv_istore_n (pc := 1) (lv' := [(2, .int (qz (0#8))), (0, .int (qz x)), (1, .int (nI k))]) hx hb dX10_times_1 rfl hl (by decide) rfl (fun ls hl => ?_)
  refine lv_iload_n (pc := 2) hx hb dX10_times_2 rfl (lv_at hl 1 rfl) ?_
  refine lv_istore_n (pc := 3) (lv' := [(3, .int (qz x)), (2, .int (qz (0#8))), (0, .int (qz x)), (1, .int (nI k))]) hx hb dX10_times_3 rfl hl (by decide) rfl (fun ls hl => ?_)
  refine lv_iconst (pc := 4) (v := nI 0) hx hb dX10_times_4 (by decide +kernel) ?_
  refine lv_istore (pc := 5) (lv' := [(4, .int (nI 0)), (3, .int (qz x)), (2, .int (qz (0#8))), (0, .int (qz x)), (1, .int (nI k))]) hx hb dX10_times_5 hl (by decide) rfl (fun ls hl => ?_)
  have LP7 : ∀ (nn7 : Nat) (c : Nat) (s1 : BitVec 8) (x1 : BitVec 8), (c ≤ 8) → (s1 = gmS x k c) → (x1 = xtn x c) → (8 - c < nn7) → ∀ (H : Heap) (locs : List Loc), va_P D vwCl [] H → va_D A [] → va_S A ss.heap H locs → ∀ ls : Array Slot, lv_has ls 5 [(4, .int (nI c)), (3, .int (qz x1)), (2, .int (qz s1)), (0, .int (qz x)), (1, .int (nI k))] → W pp ll ee ({ frames := 1, cells := 0, slots := 0, locals := 20 } : Room) ss mm (([.int (qz x), .int (nI k)] : List Value).toArray) below meth kc H locs 0 0 Q (F0 mm 7 ls []) := by
    intro nn7
    induction nn7 with
    | zero => intro c s1 x1 hcc h1 h2 hmu; exact absurd hmu (Nat.not_lt_zero _)
    | succ nn7 ih7 =>
      intro c s1 x1 hcc h1 h2 hmu7 H locs hP hD hS ls hl
      refine lv_iload (pc := 7) hx hb dX10_times_7 (lv_at hl 0 rfl) ?_
      refine lv_bipush (pc := 9) (v := nI 8) hx hb dX10_times_9 (by decide +kernel) ?_
      refine lv_icmp_ge (pc := 11) (tgt := 43) hx hb dX10_times_11 (by decide) (fun c_1 => ?_) (fun c_1 => ?_)
      · skip
        rw [nI_leI (by omega) (by omega)] at c_1
        refine lv_iload_n (pc := 43) hx hb dX10_times_43 rfl (lv_at hl 2 rfl) ?_
        refine q_top (y := qz (gm x k)) (by rw [h1, show c = 8 by omega]; rfl) ?_
        have hq_2 : True := trivial
        exact hret () _ _ _ _ dX10_times_44 hq_2 (hP.sub [] rfl) (hD.sub [] (by decide) rfl) hS
      · skip
        rw [nI_leI (by omega) (by omega)] at c_1
        refine lv_iload_n (pc := 14) hx hb dX10_times_14 rfl (lv_at hl 2 rfl) ?_
        refine lv_iload_n (pc := 15) hx hb dX10_times_15 rfl (lv_at hl 4 rfl) ?_
        refine lv_iload (pc := 16) hx hb dX10_times_16 (lv_at hl 0 rfl) ?_
        refine lv_ishr (pc := 18) hx hb dX10_times_18 ?_
        refine lv_iconst (pc := 19) (v := nI 1) hx hb dX10_times_19 (by decide +kernel) ?_
        refine lv_iand (pc := 20) hx hb dX10_times_20 ?_
        refine q_top (y := qb ((k).testBit c)) (q_bit_n (by omega) (by omega)) ?_
        refine lv_iconst (pc := 21) (v := nI 1) hx hb dX10_times_21 (by decide +kernel) ?_
        refine lv_icmp_ne (pc := 22) (tgt := 29) hx hb dX10_times_22 (by decide) (fun c_3 => ?_) (fun c_3 => ?_)
        · skip
          rw [q_b1] at c_3
          try rw [Bool.not_eq_true] at c_3
          have hbit := c_3
          refine lv_iconst (pc := 29) (v := nI 0) hx hb dX10_times_29 (by decide +kernel) ?_
          refine q_top (y := qz 0#8) rfl ?_
          refine lv_ixor (pc := 30) hx hb dX10_times_30 ?_
          refine q_top (y := qz (s1 ^^^ (0#8))) (q_xor_z _ _) ?_
          refine lv_istore_n (pc := 31) (lv' := [(2, .int (qz (s1 ^^^ (0#8)))), (4, .int (nI c)), (3, .int (qz x1)), (0, .int (qz x)), (1, .int (nI k))]) hx hb dX10_times_31 rfl hl (by decide) rfl (fun ls hl => ?_)
          refine lv_iload_n (pc := 32) hx hb dX10_times_32 rfl (lv_at hl 2 rfl) ?_
          refine cs_S (pc := 33) (idx := 48) (n := 1) (wr := []) (As := [.int (qz x1)]) (rest := []) hx hb hml hown hts hGok hK hA hG hl.1 hP hD hS (ct_X10_twice ll D ta hGok x1  H.size) tw_1044 tw_1042 tw_1043 tw_75 hdX10_twice rfl ⟨rfl, rfl, Nat.le_of_ble_eq_true rfl, Nat.le_of_ble_eq_true rfl, Nat.le_of_ble_eq_true rfl, Nat.le_of_ble_eq_true rfl⟩ [] [] rfl rfl (by decide) rfl (Nat.le_of_ble_eq_true rfl) dX10_times_33 (fun u H locs hq hP hD hS => ?_)
          refine W.eq (g2 := F0 mm 36 ls [.int (qz (xt x1))]) rfl ?_
          have hP : va_P D vwCl [] H := hP
          have hD : va_D A [] := hD
          refine lv_istore_n (pc := 36) (lv' := [(3, .int (qz (xt x1))), (2, .int (qz (s1 ^^^ (0#8)))), (4, .int (nI c)), (0, .int (qz x)), (1, .int (nI k))]) hx hb dX10_times_36 rfl hl (by decide) rfl (fun ls hl => ?_)
          refine lv_iinc (pc := 37) (v := nI (c + 1)) (lv' := [(4, .int (nI (c + 1))), (3, .int (qz (xt x1))), (2, .int (qz (s1 ^^^ (0#8)))), (0, .int (qz x)), (1, .int (nI k))]) hx hb dX10_times_37 hl (k := 2) rfl (by first | exact nI_add c 1 | rfl) (by decide) rfl (fun ls hl => ?_)
          refine lv_goto (pc := 40) (tgt := 7) hx hb dX10_times_40 (by decide) ?_
          exact ih7 (c + 1) (s1 ^^^ (0#8)) (xt x1) (by omega) (by subst h1 h2; simp only [gmS]; simp_all) (by subst h2; rfl) (by omega) _ _ (hP.sub [] rfl) (hD.sub [] (by decide) rfl) hS ls (lv_sub hl [0, 1, 2, 3, 4] rfl)
        · skip
          rw [q_b1] at c_3
          try rw [Bool.not_eq_true] at c_3
          have hbit := c_3
          refine lv_iload_n (pc := 25) hx hb dX10_times_25 rfl (lv_at hl 1 rfl) ?_
          refine lv_goto (pc := 26) (tgt := 30) hx hb dX10_times_26 (by decide) ?_
          refine lv_ixor (pc := 30) hx hb dX10_times_30 ?_
          refine q_top (y := qz (s1 ^^^ x1)) (q_xor_z _ _) ?_
          refine lv_istore_n (pc := 31) (lv' := [(2, .int (qz (s1 ^^^ x1))), (4, .int (nI c)), (3, .int (qz x1)), (0, .int (qz x)), (1, .int (nI k))]) hx hb dX10_times_31 rfl hl (by decide) rfl (fun ls hl => ?_)
          refine lv_iload_n (pc := 32) hx hb dX10_times_32 rfl (lv_at hl 2 rfl) ?_
          refine cs_S (pc := 33) (idx := 48) (n := 1) (wr := []) (As := [.int (qz x1)]) (rest := []) hx hb hml hown hts hGok hK hA hG hl.1 hP hD hS (ct_X10_twice ll D ta hGok x1  H.size) tw_1044 tw_1042 tw_1043 tw_75 hdX10_twice rfl ⟨rfl, rfl, Nat.le_of_ble_eq_true rfl, Nat.le_of_ble_eq_true rfl, Nat.le_of_ble_eq_true rfl, Nat.le_of_ble_eq_true rfl⟩ [] [] rfl rfl (by decide) rfl (Nat.le_of_ble_eq_true rfl) dX10_times_33 (fun u H locs hq hP hD hS => ?_)
          refine W.eq (g2 := F0 mm 36 ls [.int (qz (xt x1))]) rfl ?_
          have hP : va_P D vwCl [] H := hP
          have hD : va_D A [] := hD
          refine lv_istore_n (pc := 36) (lv' := [(3, .int (qz (xt x1))), (2, .int (qz (s1 ^^^ x1))), (4, .int (nI c)), (0, .int (qz x)), (1, .int (nI k))]) hx hb dX10_times_36 rfl hl (by decide) rfl (fun ls hl => ?_)
          refine lv_iinc (pc := 37) (v := nI (c + 1)) (lv' := [(4, .int (nI (c + 1))), (3, .int (qz (xt x1))), (2, .int (qz (s1 ^^^ x1))), (0, .int (qz x)), (1, .int (nI k))]) hx hb dX10_times_37 hl (k := 2) rfl (by first | exact nI_add c 1 | rfl) (by decide) rfl (fun ls hl => ?_)
          refine lv_goto (pc := 40) (tgt := 7) hx hb dX10_times_40 (by decide) ?_
          exact ih7 (c + 1) (s1 ^^^ x1) (xt x1) (by omega) (by subst h1 h2; simp only [gmS]; simp_all) (by subst h2; rfl) (by omega) _ _ (hP.sub [] rfl) (hD.sub [] (by decide) rfl) hS ls (lv_sub hl [0, 1, 2, 3, 4] rfl)
  exact LP7 _ 0 (0#8) x (by omega) (rfl) (rfl) (Nat.lt_succ_self _) _ _ (hP.sub [] rfl) (hD.sub [] (by decide) rfl) hS ls (lv_sub hl [0, 1, 2, 3, 4] rfl)
theorem hdX10_addKey : yX10_addKey.cls ≠ "java/lang/invoke/MethodHandle" ∧ yX10_addKey.cls ≠ "java/lang/invoke/VarHandle" ∧ (parseMethodDescriptor yX10_addKey.desc).map (fun d => d.parameters.length) = some 3 := ⟨by decide +kernel, by decide +kernel, by decide +kernel⟩
theorem dX10_addKey_0 : decode cX10_addKey 0 = .ok (.iconst 0, 1) := by decide +kernel
theorem dX10_addKey_1 : decode cX10_addKey 1 = .ok (.istore 4, 2) := by decide +kernel
theorem dX10_addKey_3 : decode cX10_addKey 3 = .ok (.iload 4, 2) := by decide +kernel
theorem dX10_addKey_5 : decode cX10_addKey 5 = .ok (.bipush 16, 2) := by decide +kernel
theorem dX10_addKey_7 : decode cX10_addKey 7 = .ok (.if_icmp .ge 31, 3) := by decide +kernel
theorem dX10_addKey_10 : decode cX10_addKey 10 = .ok (.aload_n 1, 1) := by decide +kernel
theorem dX10_addKey_11 : decode cX10_addKey 11 = .ok (.iload_n 2, 1) := by decide +kernel
theorem dX10_addKey_12 : decode cX10_addKey 12 = .ok (.iload 4, 2) := by decide +kernel
theorem dX10_addKey_14 : decode cX10_addKey 14 = .ok (.iadd, 1) := by decide +kernel
theorem dX10_addKey_15 : decode cX10_addKey 15 = .ok (.dup2, 1) := by decide +kernel
theorem dX10_addKey_16 : decode cX10_addKey 16 = .ok (.baload, 1) := by decide +kernel
theorem dX10_addKey_17 : decode cX10_addKey 17 = .ok (.aload_n 0, 1) := by decide +kernel
theorem dX10_addKey_18 : decode cX10_addKey 18 = .ok (.getfield 66, 3) := by decide +kernel
theorem dX10_addKey_21 : decode cX10_addKey 21 = .ok (.bipush 16, 2) := by decide +kernel
theorem dX10_addKey_23 : decode cX10_addKey 23 = .ok (.iload_n 3, 1) := by decide +kernel
theorem dX10_addKey_24 : decode cX10_addKey 24 = .ok (.imul, 1) := by decide +kernel
theorem dX10_addKey_25 : decode cX10_addKey 25 = .ok (.iload 4, 2) := by decide +kernel
theorem dX10_addKey_27 : decode cX10_addKey 27 = .ok (.iadd, 1) := by decide +kernel
theorem dX10_addKey_28 : decode cX10_addKey 28 = .ok (.baload, 1) := by decide +kernel
theorem dX10_addKey_29 : decode cX10_addKey 29 = .ok (.ixor, 1) := by decide +kernel
theorem dX10_addKey_30 : decode cX10_addKey 30 = .ok (.i2b, 1) := by decide +kernel
theorem dX10_addKey_31 : decode cX10_addKey 31 = .ok (.bastore, 1) := by decide +kernel
theorem dX10_addKey_32 : decode cX10_addKey 32 = .ok (.iinc 4 1, 3) := by decide +kernel
theorem dX10_addKey_35 : decode cX10_addKey 35 = .ok (.goto (-32), 3) := by decide +kernel
theorem dX10_addKey_38 : decode cX10_addKey 38 = .ok (.return_, 1) := by decide +kernel
set_option maxHeartbeats 4000000 in
set_option maxRecDepth 100000 in
theorem ct_X10_addKey (ll : Launch) (D : va_G) (ta : Nat → ClassId) {G : (Nat → Prop) → State → Heap → Prop} (hGok : GOK G) (h0 : Nat) (a : Nat → Nat) (ar : Nat) (mn : Nat) (tp : Nat) (osz : Nat) (lsz : Nat) (ns : Nat) (ct : Nat) (hb2 : Nat) (at0 : Nat) (capb : Nat) (gb : Nat → BitVec 8) (rk : Nat → BitVec 8) (r : Nat) (hat : at0 + 16 ≤ capb) (hcb : capb < 2147483648) (hr : r ≤ 14) (sz : Nat) : CT ll yX10_addKey cX10_addKey 5 none ({ frames := 0, cells := 0, slots := 0, locals := 0 } : Room) D ta G [.ref h0, .ref hb2, .int (nI at0), .int (nI r)] [(h0, oM a ar mn tp osz lsz ns ct), (a 16, aS ta 240 rk), (hb2, aS ta capb gb)] sz (S := (Nat → BitVec 8)) (fun _ => none) (fun u => (qSeg u gb at0 16 (aAdd (fun k => gb (at0 + k)) rk r))) (fun u => [(h0, oM a ar mn tp osz lsz ns ct), (a 16, aS ta 240 rk), (hb2, aS ta capb u)]) 0 0 := by
  refine CT.of_v rfl (by decide) (Nat.le_of_ble_eq_true rfl) ?_
  intro pp ee ss mm below meth kc A Q hx hb hml hown hin hts hK hA hsz hG hret H locs hP hD hS ls hl
  have hl : lv_has ls 5 [(0, .ref h0), (1, .ref hb2), (2, .int (nI at0)), (3, .int (nI r))] := hl
  refine lv_iconst (pc := 0) (v := nI 0) hx hb dX10_addKey_0 (by decide +kernel) ?_
  refine lv_istore (pc := 1) (lv' := [(4, .int (nI 0)), (0, .ref h0), (1, .ref hb2), (2, .int (nI at0)), (3, .int (nI r))]) hx hb dX10_addKey_1 hl (by decide) rfl (fun ls hl => ?_)
  have LP3 : ∀ (nn3 : Nat) (c : Nat) (g' : Nat → BitVec 8), (c ≤ 16) → (qSeg g' gb at0 c (aAdd (fun k => gb (at0 + k)) rk r)) → (16 - c < nn3) → ∀ (H : Heap) (locs : List Loc), va_P D vwCl [(h0, oM a ar mn tp osz lsz ns ct), (a 16, aS ta 240 rk), (hb2, aS ta capb g')] H → va_D A [(h0, oM a ar mn tp osz lsz ns ct), (a 16, aS ta 240 rk), (hb2, aS ta capb g')] → va_S A ss.heap H locs → ∀ ls : Array Slot, lv_has ls 5 [(4, .int (nI c)), (0, .ref h0), (1, .ref hb2), (2, .int (nI at0)), (3, .int (nI r))] → W pp ll ee ({ frames := 0, cells := 0, slots := 0, locals := 0 } : Room) ss mm (([.ref h0, .ref hb2, .int (nI at0), .int (nI r)] : List Value).toArray) below meth kc H locs 0 0 Q (F0 mm 3 ls []) := by
    intro nn3
    induction nn3 with
    | zero => intro c g' hcc hs hmu; exact absurd hmu (Nat.not_lt_zero _)
    | succ nn3 ih3 =>
      intro c g' hcc hs hmu3 H locs hP hD hS ls hl
      refine lv_iload (pc := 3) hx hb dX10_addKey_3 (lv_at hl 0 rfl) ?_
      refine lv_bipush (pc := 5) (v := nI 16) hx hb dX10_addKey_5 (by decide +kernel) ?_
      refine lv_icmp_ge (pc := 7) (tgt := 38) hx hb dX10_addKey_7 (by decide) (fun c_1 => ?_) (fun c_1 => ?_)
      · skip
        rw [nI_leI (by omega) (by omega)] at c_1
        have en_2 : 16 = c := by omega
        subst en_2
        have hq_3 : (qSeg g' gb at0 16 (aAdd (fun k => gb (at0 + k)) rk r)) := by
          exact hs
        exact hret (g') _ _ _ _ dX10_addKey_38 hq_3 (hP.sub [0, 1, 2] rfl) (hD.sub [0, 1, 2] (by decide) rfl) hS
      · skip
        rw [nI_leI (by omega) (by omega)] at c_1
        refine lv_aload_n (pc := 10) hx hb dX10_addKey_10 rfl (lv_at hl 2 rfl) ?_
        refine lv_iload_n (pc := 11) hx hb dX10_addKey_11 rfl (lv_at hl 3 rfl) ?_
        refine lv_iload (pc := 12) hx hb dX10_addKey_12 (lv_at hl 0 rfl) ?_
        refine lv_iadd (pc := 14) hx hb dX10_addKey_14 ?_
        refine q_top (y := nI (at0 + c)) (nI_add at0 c) ?_
        refine lv_dup2_11 (pc := 15) hx hb dX10_addKey_15 rfl rfl ?_
        refine q_bald (pc := 16) hx hb hK hP 2 2 rfl rfl (k := at0 + c) (v := qs (g' (at0 + c))) rfl (by omega) (by omega) rfl dX10_addKey_16 ?_
        refine lv_aload_n (pc := 17) hx hb dX10_addKey_17 rfl (lv_at hl 1 rfl) ?_
        refine va_get (pc := 18) (D := D) (ci := 8) (v := .ref (a 16)) (C := RX10) (T := TX10) (N := 57) hx hb hts iu10 hown hK hP 0 rfl rfl 16 (by decide) (hts _ tw_1061) (fun _ h9 => h9) rfl dX10_addKey_18 ?_
        refine lv_bipush (pc := 21) (v := nI 16) hx hb dX10_addKey_21 (by decide +kernel) ?_
        refine lv_iload_n (pc := 23) hx hb dX10_addKey_23 rfl (lv_at hl 4 rfl) ?_
        refine lv_imul (pc := 24) hx hb dX10_addKey_24 ?_
        refine q_top (y := nI (16 * r)) (pk_mul 16 r) ?_
        refine lv_iload (pc := 25) hx hb dX10_addKey_25 (lv_at hl 0 rfl) ?_
        refine lv_iadd (pc := 27) hx hb dX10_addKey_27 ?_
        refine q_top (y := nI (16 * r + c)) (nI_add (16 * r) c) ?_
        refine q_bald (pc := 28) hx hb hK hP 1 2 rfl rfl (k := 16 * r + c) (v := qs (rk (16 * r + c))) rfl (by omega) (by omega) rfl dX10_addKey_28 ?_
        refine lv_ixor (pc := 29) hx hb dX10_addKey_29 ?_
        refine q_top (y := qs ((g' (at0 + c)) ^^^ (rk (16 * r + c)))) (q_xor_s _ _) ?_
        refine lv_i2b (pc := 30) (v := qs ((g' (at0 + c)) ^^^ (rk (16 * r + c)))) hx hb dX10_addKey_30 (q_i2b_s _) ?_
        refine q_bastS (pc := 31) hx hb hK hP hD hS 2 2 rfl rfl (k := at0 + c) rfl (by omega) (by omega) (b := (g' (at0 + c)) ^^^ (rk (16 * r + c))) (qlo_qs _) dX10_addKey_31 (fun H locs hP hD hS => ?_)
        have hP : va_P D vwCl [(h0, oM a ar mn tp osz lsz ns ct), (a 16, aS ta 240 rk), (hb2, aS ta capb (qU g' (at0 + c) ((g' (at0 + c)) ^^^ (rk (16 * r + c)))))] H := hP
        have hD : va_D A [(h0, oM a ar mn tp osz lsz ns ct), (a 16, aS ta 240 rk), (hb2, aS ta capb (qU g' (at0 + c) ((g' (at0 + c)) ^^^ (rk (16 * r + c)))))] := hD
        refine lv_iinc (pc := 32) (v := nI (c + 1)) (lv' := [(4, .int (nI (c + 1))), (0, .ref h0), (1, .ref hb2), (2, .int (nI at0)), (3, .int (nI r))]) hx hb dX10_addKey_32 hl (k := 0) rfl (by first | exact nI_add c 1 | rfl) (by decide) rfl (fun ls hl => ?_)
        refine lv_goto (pc := 35) (tgt := 3) hx hb dX10_addKey_35 (by decide) ?_
        exact ih3 (c + 1) (qU g' (at0 + c) ((g' (at0 + c)) ^^^ (rk (16 * r + c)))) (by omega) (qSeg_s hs rfl (by rw [hs.2 _ (by omega)]; rfl)) (by omega) _ _ (hP.sub [0, 1, 2] rfl) (hD.sub [0, 1, 2] (by decide) rfl) hS ls (lv_sub hl [0, 1, 2, 3, 4] rfl)
  exact LP3 _ 0 gb (by omega) (qSeg_0) (Nat.lt_succ_self _) _ _ (hP.sub [0, 1, 2] rfl) (hD.sub [0, 1, 2] (by decide) rfl) hS ls (lv_sub hl [0, 1, 2, 3, 4] rfl)
theorem hdX10_mixColumns : yX10_mixColumns.cls ≠ "java/lang/invoke/MethodHandle" ∧ yX10_mixColumns.cls ≠ "java/lang/invoke/VarHandle" ∧ (parseMethodDescriptor yX10_mixColumns.desc).map (fun d => d.parameters.length) = some 6 := ⟨by decide +kernel, by decide +kernel, by decide +kernel⟩
theorem dX10_mixColumns_0 : decode cX10_mixColumns 0 = .ok (.iconst 0, 1) := by decide +kernel
theorem dX10_mixColumns_1 : decode cX10_mixColumns 1 = .ok (.istore 7, 2) := by decide +kernel
theorem dX10_mixColumns_3 : decode cX10_mixColumns 3 = .ok (.iload 7, 2) := by decide +kernel
theorem dX10_mixColumns_5 : decode cX10_mixColumns 5 = .ok (.bipush 16, 2) := by decide +kernel
theorem dX10_mixColumns_7 : decode cX10_mixColumns 7 = .ok (.if_icmp .ge 125, 3) := by decide +kernel
theorem dX10_mixColumns_10 : decode cX10_mixColumns 10 = .ok (.iconst 0, 1) := by decide +kernel
theorem dX10_mixColumns_11 : decode cX10_mixColumns 11 = .ok (.istore 8, 2) := by decide +kernel
theorem dX10_mixColumns_13 : decode cX10_mixColumns 13 = .ok (.iload 8, 2) := by decide +kernel
theorem dX10_mixColumns_15 : decode cX10_mixColumns 15 = .ok (.iconst 4, 1) := by decide +kernel
theorem dX10_mixColumns_16 : decode cX10_mixColumns 16 = .ok (.if_icmp .ge 110, 3) := by decide +kernel
theorem dX10_mixColumns_19 : decode cX10_mixColumns 19 = .ok (.aload_n 1, 1) := by decide +kernel
theorem dX10_mixColumns_20 : decode cX10_mixColumns 20 = .ok (.iload_n 2, 1) := by decide +kernel
theorem dX10_mixColumns_21 : decode cX10_mixColumns 21 = .ok (.iload 7, 2) := by decide +kernel
theorem dX10_mixColumns_23 : decode cX10_mixColumns 23 = .ok (.iadd, 1) := by decide +kernel
theorem dX10_mixColumns_24 : decode cX10_mixColumns 24 = .ok (.iload 8, 2) := by decide +kernel
theorem dX10_mixColumns_26 : decode cX10_mixColumns 26 = .ok (.iadd, 1) := by decide +kernel
theorem dX10_mixColumns_27 : decode cX10_mixColumns 27 = .ok (.baload, 1) := by decide +kernel
theorem dX10_mixColumns_28 : decode cX10_mixColumns 28 = .ok (.sipush 255, 3) := by decide +kernel
theorem dX10_mixColumns_31 : decode cX10_mixColumns 31 = .ok (.iand, 1) := by decide +kernel
theorem dX10_mixColumns_32 : decode cX10_mixColumns 32 = .ok (.iload_n 3, 1) := by decide +kernel
theorem dX10_mixColumns_33 : decode cX10_mixColumns 33 = .ok (.invokestatic 52, 3) := by decide +kernel
theorem dX10_mixColumns_36 : decode cX10_mixColumns 36 = .ok (.aload_n 1, 1) := by decide +kernel
theorem dX10_mixColumns_37 : decode cX10_mixColumns 37 = .ok (.iload_n 2, 1) := by decide +kernel
theorem dX10_mixColumns_38 : decode cX10_mixColumns 38 = .ok (.iload 7, 2) := by decide +kernel
theorem dX10_mixColumns_40 : decode cX10_mixColumns 40 = .ok (.iadd, 1) := by decide +kernel
theorem dX10_mixColumns_41 : decode cX10_mixColumns 41 = .ok (.iload 8, 2) := by decide +kernel
theorem dX10_mixColumns_43 : decode cX10_mixColumns 43 = .ok (.iconst 1, 1) := by decide +kernel
theorem dX10_mixColumns_44 : decode cX10_mixColumns 44 = .ok (.iadd, 1) := by decide +kernel
theorem dX10_mixColumns_45 : decode cX10_mixColumns 45 = .ok (.iconst 4, 1) := by decide +kernel
theorem dX10_mixColumns_46 : decode cX10_mixColumns 46 = .ok (.irem, 1) := by decide +kernel
theorem dX10_mixColumns_47 : decode cX10_mixColumns 47 = .ok (.iadd, 1) := by decide +kernel
theorem dX10_mixColumns_48 : decode cX10_mixColumns 48 = .ok (.baload, 1) := by decide +kernel
theorem dX10_mixColumns_49 : decode cX10_mixColumns 49 = .ok (.sipush 255, 3) := by decide +kernel
theorem dX10_mixColumns_52 : decode cX10_mixColumns 52 = .ok (.iand, 1) := by decide +kernel
theorem dX10_mixColumns_53 : decode cX10_mixColumns 53 = .ok (.iload 4, 2) := by decide +kernel
theorem dX10_mixColumns_55 : decode cX10_mixColumns 55 = .ok (.invokestatic 52, 3) := by decide +kernel
theorem dX10_mixColumns_58 : decode cX10_mixColumns 58 = .ok (.ixor, 1) := by decide +kernel
theorem dX10_mixColumns_59 : decode cX10_mixColumns 59 = .ok (.aload_n 1, 1) := by decide +kernel
theorem dX10_mixColumns_60 : decode cX10_mixColumns 60 = .ok (.iload_n 2, 1) := by decide +kernel
theorem dX10_mixColumns_61 : decode cX10_mixColumns 61 = .ok (.iload 7, 2) := by decide +kernel
theorem dX10_mixColumns_63 : decode cX10_mixColumns 63 = .ok (.iadd, 1) := by decide +kernel
theorem dX10_mixColumns_64 : decode cX10_mixColumns 64 = .ok (.iload 8, 2) := by decide +kernel
theorem dX10_mixColumns_66 : decode cX10_mixColumns 66 = .ok (.iconst 2, 1) := by decide +kernel
theorem dX10_mixColumns_67 : decode cX10_mixColumns 67 = .ok (.iadd, 1) := by decide +kernel
theorem dX10_mixColumns_68 : decode cX10_mixColumns 68 = .ok (.iconst 4, 1) := by decide +kernel
theorem dX10_mixColumns_69 : decode cX10_mixColumns 69 = .ok (.irem, 1) := by decide +kernel
theorem dX10_mixColumns_70 : decode cX10_mixColumns 70 = .ok (.iadd, 1) := by decide +kernel
theorem dX10_mixColumns_71 : decode cX10_mixColumns 71 = .ok (.baload, 1) := by decide +kernel
theorem dX10_mixColumns_72 : decode cX10_mixColumns 72 = .ok (.sipush 255, 3) := by decide +kernel
theorem dX10_mixColumns_75 : decode cX10_mixColumns 75 = .ok (.iand, 1) := by decide +kernel
theorem dX10_mixColumns_76 : decode cX10_mixColumns 76 = .ok (.iload 5, 2) := by decide +kernel
theorem dX10_mixColumns_78 : decode cX10_mixColumns 78 = .ok (.invokestatic 52, 3) := by decide +kernel
theorem dX10_mixColumns_81 : decode cX10_mixColumns 81 = .ok (.ixor, 1) := by decide +kernel
theorem dX10_mixColumns_82 : decode cX10_mixColumns 82 = .ok (.aload_n 1, 1) := by decide +kernel
theorem dX10_mixColumns_83 : decode cX10_mixColumns 83 = .ok (.iload_n 2, 1) := by decide +kernel
theorem dX10_mixColumns_84 : decode cX10_mixColumns 84 = .ok (.iload 7, 2) := by decide +kernel
theorem dX10_mixColumns_86 : decode cX10_mixColumns 86 = .ok (.iadd, 1) := by decide +kernel
theorem dX10_mixColumns_87 : decode cX10_mixColumns 87 = .ok (.iload 8, 2) := by decide +kernel
theorem dX10_mixColumns_89 : decode cX10_mixColumns 89 = .ok (.iconst 3, 1) := by decide +kernel
theorem dX10_mixColumns_90 : decode cX10_mixColumns 90 = .ok (.iadd, 1) := by decide +kernel
theorem dX10_mixColumns_91 : decode cX10_mixColumns 91 = .ok (.iconst 4, 1) := by decide +kernel
theorem dX10_mixColumns_92 : decode cX10_mixColumns 92 = .ok (.irem, 1) := by decide +kernel
theorem dX10_mixColumns_93 : decode cX10_mixColumns 93 = .ok (.iadd, 1) := by decide +kernel
theorem dX10_mixColumns_94 : decode cX10_mixColumns 94 = .ok (.baload, 1) := by decide +kernel
theorem dX10_mixColumns_95 : decode cX10_mixColumns 95 = .ok (.sipush 255, 3) := by decide +kernel
theorem dX10_mixColumns_98 : decode cX10_mixColumns 98 = .ok (.iand, 1) := by decide +kernel
theorem dX10_mixColumns_99 : decode cX10_mixColumns 99 = .ok (.iload 6, 2) := by decide +kernel
theorem dX10_mixColumns_101 : decode cX10_mixColumns 101 = .ok (.invokestatic 52, 3) := by decide +kernel
theorem dX10_mixColumns_104 : decode cX10_mixColumns 104 = .ok (.ixor, 1) := by decide +kernel
theorem dX10_mixColumns_105 : decode cX10_mixColumns 105 = .ok (.istore 9, 2) := by decide +kernel
theorem dX10_mixColumns_107 : decode cX10_mixColumns 107 = .ok (.aload_n 0, 1) := by decide +kernel
theorem dX10_mixColumns_108 : decode cX10_mixColumns 108 = .ok (.getfield 74, 3) := by decide +kernel
theorem dX10_mixColumns_111 : decode cX10_mixColumns 111 = .ok (.iload 7, 2) := by decide +kernel
theorem dX10_mixColumns_113 : decode cX10_mixColumns 113 = .ok (.iload 8, 2) := by decide +kernel
theorem dX10_mixColumns_115 : decode cX10_mixColumns 115 = .ok (.iadd, 1) := by decide +kernel
theorem dX10_mixColumns_116 : decode cX10_mixColumns 116 = .ok (.iload 9, 2) := by decide +kernel
theorem dX10_mixColumns_118 : decode cX10_mixColumns 118 = .ok (.i2b, 1) := by decide +kernel
theorem dX10_mixColumns_119 : decode cX10_mixColumns 119 = .ok (.bastore, 1) := by decide +kernel
theorem dX10_mixColumns_120 : decode cX10_mixColumns 120 = .ok (.iinc 8 1, 3) := by decide +kernel
theorem dX10_mixColumns_123 : decode cX10_mixColumns 123 = .ok (.goto (-110), 3) := by decide +kernel
theorem dX10_mixColumns_126 : decode cX10_mixColumns 126 = .ok (.iinc 7 4, 3) := by decide +kernel
theorem dX10_mixColumns_129 : decode cX10_mixColumns 129 = .ok (.goto (-126), 3) := by decide +kernel
theorem dX10_mixColumns_132 : decode cX10_mixColumns 132 = .ok (.iconst 0, 1) := by decide +kernel
theorem dX10_mixColumns_133 : decode cX10_mixColumns 133 = .ok (.istore 7, 2) := by decide +kernel
theorem dX10_mixColumns_135 : decode cX10_mixColumns 135 = .ok (.iload 7, 2) := by decide +kernel
theorem dX10_mixColumns_137 : decode cX10_mixColumns 137 = .ok (.bipush 16, 2) := by decide +kernel
theorem dX10_mixColumns_139 : decode cX10_mixColumns 139 = .ok (.if_icmp .ge 22, 3) := by decide +kernel
theorem dX10_mixColumns_142 : decode cX10_mixColumns 142 = .ok (.aload_n 1, 1) := by decide +kernel
theorem dX10_mixColumns_143 : decode cX10_mixColumns 143 = .ok (.iload_n 2, 1) := by decide +kernel
theorem dX10_mixColumns_144 : decode cX10_mixColumns 144 = .ok (.iload 7, 2) := by decide +kernel
theorem dX10_mixColumns_146 : decode cX10_mixColumns 146 = .ok (.iadd, 1) := by decide +kernel
theorem dX10_mixColumns_147 : decode cX10_mixColumns 147 = .ok (.aload_n 0, 1) := by decide +kernel
theorem dX10_mixColumns_148 : decode cX10_mixColumns 148 = .ok (.getfield 74, 3) := by decide +kernel
theorem dX10_mixColumns_151 : decode cX10_mixColumns 151 = .ok (.iload 7, 2) := by decide +kernel
theorem dX10_mixColumns_153 : decode cX10_mixColumns 153 = .ok (.baload, 1) := by decide +kernel
theorem dX10_mixColumns_154 : decode cX10_mixColumns 154 = .ok (.bastore, 1) := by decide +kernel
theorem dX10_mixColumns_155 : decode cX10_mixColumns 155 = .ok (.iinc 7 1, 3) := by decide +kernel
theorem dX10_mixColumns_158 : decode cX10_mixColumns 158 = .ok (.goto (-23), 3) := by decide +kernel
theorem dX10_mixColumns_161 : decode cX10_mixColumns 161 = .ok (.return_, 1) := by decide +kernel
set_option maxHeartbeats 4000000 in
set_option maxRecDepth 100000 in
theorem ct_X10_mixColumns (ll : Launch) (D : va_G) (ta : Nat → ClassId) {G : (Nat → Prop) → State → Heap → Prop} (hGok : GOK G) (h0 : Nat) (a : Nat → Nat) (ar : Nat) (mn : Nat) (tp : Nat) (osz : Nat) (lsz : Nat) (ns : Nat) (ct : Nat) (hb2 : Nat) (at0 : Nat) (capb : Nat) (gb : Nat → BitVec 8) (ce : Nat → BitVec 8) (p : Nat) (q : Nat) (r : Nat) (s : Nat) (hat : at0 + 16 ≤ capb) (hcb : capb < 2147483648) (hp : p < 256 ∧ q < 256 ∧ r < 256 ∧ s < 256) (sz : Nat) : CT ll yX10_mixColumns cX10_mixColumns 10 none ({ frames := 2, cells := 0, slots := 0, locals := 44 } : Room) D ta G [.ref h0, .ref hb2, .int (nI at0), .int (nI p), .int (nI q), .int (nI r), .int (nI s)] [(h0, oM a ar mn tp osz lsz ns ct), (a 18, aS ta 16 ce), (hb2, aS ta capb gb)] sz (S := (Nat → BitVec 8) × (Nat → BitVec 8)) (fun _ => none) (fun u => (qSeg u.1 gb at0 16 (aMix p q r s (fun k => gb (at0 + k))))) (fun u => [(h0, oM a ar mn tp osz lsz ns ct), (a 18, aS ta 16 u.2), (hb2, aS ta capb u.1)]) 0 0 := by
  refine CT.of_v rfl (by decide) (Nat.le_of_ble_eq_true rfl) ?_
  intro pp ee ss mm below meth kc A Q hx hb hml hown hin hts hK hA hsz hG hret H locs hP hD hS ls hl
  have hl : lv_has ls 10 [(0, .ref h0), (1, .ref hb2), (2, .int (nI at0)), (3, .int (nI p)), (4, .int (nI q)), (5, .int (nI r)), (6, .int (nI s))] := hl
  refine lv_iconst (pc := 0) (v := nI 0) hx hb dX10_mixColumns_0 (by decide +kernel) ?_
  refine lv_istore (pc := 1) (lv' := [(7, .int (nI 0)), (0, .ref h0), (1, .ref hb2), (2, .int (nI at0)), (3, .int (nI p)), (4, .int (nI q)), (5, .int (nI r)), (6, .int (nI s))]) hx hb dX10_mixColumns_1 hl (by decide) rfl (fun ls hl => ?_)
  have LP3 : ∀ (nn3 : Nat) (c : Nat) (c' : Nat → BitVec 8), (c ≤ 4) → (qSeg c' ce 0 (4 * c) (aMix p q r s (fun k => gb (at0 + k)))) → (4 - c < nn3) → ∀ (H : Heap) (locs : List Loc), va_P D vwCl [(h0, oM a ar mn tp osz lsz ns ct), (a 18, aS ta 16 c'), (hb2, aS ta capb gb)] H → va_D A [(h0, oM a ar mn tp osz lsz ns ct), (a 18, aS ta 16 c'), (hb2, aS ta capb gb)] → va_S A ss.heap H locs → ∀ ls : Array Slot, lv_has ls 10 [(7, .int (nI (4 * c))), (0, .ref h0), (1, .ref hb2), (2, .int (nI at0)), (3, .int (nI p)), (4, .int (nI q)), (5, .int (nI r)), (6, .int (nI s))] → W pp ll ee ({ frames := 2, cells := 0, slots := 0, locals := 44 } : Room) ss mm (([.ref h0, .ref hb2, .int (nI at0), .int (nI p), .int (nI q), .int (nI r), .int (nI s)] : List Value).toArray) below meth kc H locs 0 0 Q (F0 mm 3 ls []) := by
    intro nn3
    induction nn3 with
    | zero => intro c c' hcc hs hmu; exact absurd hmu (Nat.not_lt_zero _)
    | succ nn3 ih3 =>
      intro c c' hcc hs hmu3 H locs hP hD hS ls hl
      refine lv_iload (pc := 3) hx hb dX10_mixColumns_3 (lv_at hl 0 rfl) ?_
      refine lv_bipush (pc := 5) (v := nI 16) hx hb dX10_mixColumns_5 (by decide +kernel) ?_
      refine lv_icmp_ge (pc := 7) (tgt := 132) hx hb dX10_mixColumns_7 (by decide) (fun c_1 => ?_) (fun c_1 => ?_)
      · skip
        rw [nI_leI (by omega) (by omega)] at c_1
        refine lv_iconst (pc := 132) (v := nI 0) hx hb dX10_mixColumns_132 (by decide +kernel) ?_
        refine lv_istore (pc := 133) (lv' := [(7, .int (nI 0)), (0, .ref h0), (1, .ref hb2), (2, .int (nI at0)), (3, .int (nI p)), (4, .int (nI q)), (5, .int (nI r)), (6, .int (nI s))]) hx hb dX10_mixColumns_133 hl (by decide) rfl (fun ls hl => ?_)
        have LP135 : ∀ (nn135 : Nat) (k : Nat) (g' : Nat → BitVec 8), (k ≤ 16) → (qSeg g' gb at0 k (aMix p q r s (fun k => gb (at0 + k)))) → (16 - k < nn135) → ∀ (H : Heap) (locs : List Loc), va_P D vwCl [(h0, oM a ar mn tp osz lsz ns ct), (a 18, aS ta 16 c'), (hb2, aS ta capb g')] H → va_D A [(h0, oM a ar mn tp osz lsz ns ct), (a 18, aS ta 16 c'), (hb2, aS ta capb g')] → va_S A ss.heap H locs → ∀ ls : Array Slot, lv_has ls 10 [(7, .int (nI k)), (0, .ref h0), (1, .ref hb2), (2, .int (nI at0)), (3, .int (nI p)), (4, .int (nI q)), (5, .int (nI r)), (6, .int (nI s))] → W pp ll ee ({ frames := 2, cells := 0, slots := 0, locals := 44 } : Room) ss mm (([.ref h0, .ref hb2, .int (nI at0), .int (nI p), .int (nI q), .int (nI r), .int (nI s)] : List Value).toArray) below meth kc H locs 0 0 Q (F0 mm 135 ls []) := by
          intro nn135
          induction nn135 with
          | zero => intro k g' hkk hs3 hmu; exact absurd hmu (Nat.not_lt_zero _)
          | succ nn135 ih135 =>
            intro k g' hkk hs3 hmu135 H locs hP hD hS ls hl
            refine lv_iload (pc := 135) hx hb dX10_mixColumns_135 (lv_at hl 0 rfl) ?_
            refine lv_bipush (pc := 137) (v := nI 16) hx hb dX10_mixColumns_137 (by decide +kernel) ?_
            refine lv_icmp_ge (pc := 139) (tgt := 161) hx hb dX10_mixColumns_139 (by decide) (fun c_2 => ?_) (fun c_2 => ?_)
            · skip
              rw [nI_leI (by omega) (by omega)] at c_2
              have hq_3 : (qSeg g' gb at0 16 (aMix p q r s (fun k => gb (at0 + k)))) := by
                rw [show (16 : Nat) = k by omega]; exact hs3
              exact hret (⟨(g'), (c')⟩ : (Nat → BitVec 8) × (Nat → BitVec 8)) _ _ _ _ dX10_mixColumns_161 hq_3 (hP.sub [0, 1, 2] rfl) (hD.sub [0, 1, 2] (by decide) rfl) hS
            · skip
              rw [nI_leI (by omega) (by omega)] at c_2
              refine lv_aload_n (pc := 142) hx hb dX10_mixColumns_142 rfl (lv_at hl 2 rfl) ?_
              refine lv_iload_n (pc := 143) hx hb dX10_mixColumns_143 rfl (lv_at hl 3 rfl) ?_
              refine lv_iload (pc := 144) hx hb dX10_mixColumns_144 (lv_at hl 0 rfl) ?_
              refine lv_iadd (pc := 146) hx hb dX10_mixColumns_146 ?_
              refine q_top (y := nI (at0 + k)) (nI_add at0 k) ?_
              refine lv_aload_n (pc := 147) hx hb dX10_mixColumns_147 rfl (lv_at hl 1 rfl) ?_
              refine va_get (pc := 148) (D := D) (ci := 8) (v := .ref (a 18)) (C := RX10) (T := TX10) (N := 57) hx hb hts iu10 hown hK hP 0 rfl rfl 18 (by decide) (hts _ tw_1063) (fun _ h9 => h9) rfl dX10_mixColumns_148 ?_
              refine lv_iload (pc := 151) hx hb dX10_mixColumns_151 (lv_at hl 0 rfl) ?_
              refine q_bald (pc := 153) hx hb hK hP 1 2 rfl rfl (k := k) (v := qs (c' k)) rfl (by omega) (by omega) rfl dX10_mixColumns_153 ?_
              refine q_bastS (pc := 154) hx hb hK hP hD hS 2 2 rfl rfl (k := at0 + k) rfl (by omega) (by omega) (b := c' k) (qlo_qs _) dX10_mixColumns_154 (fun H locs hP hD hS => ?_)
              have hP : va_P D vwCl [(h0, oM a ar mn tp osz lsz ns ct), (a 18, aS ta 16 c'), (hb2, aS ta capb (qU g' (at0 + k) (c' k)))] H := hP
              have hD : va_D A [(h0, oM a ar mn tp osz lsz ns ct), (a 18, aS ta 16 c'), (hb2, aS ta capb (qU g' (at0 + k) (c' k)))] := hD
              refine lv_iinc (pc := 155) (v := nI (k + 1)) (lv' := [(7, .int (nI (k + 1))), (0, .ref h0), (1, .ref hb2), (2, .int (nI at0)), (3, .int (nI p)), (4, .int (nI q)), (5, .int (nI r)), (6, .int (nI s))]) hx hb dX10_mixColumns_155 hl (k := 0) rfl (by first | exact nI_add k 1 | rfl) (by decide) rfl (fun ls hl => ?_)
              refine lv_goto (pc := 158) (tgt := 135) hx hb dX10_mixColumns_158 (by decide) ?_
              exact ih135 (k + 1) (qU g' (at0 + k) (c' k)) (by omega) (qSeg_s hs3 rfl (qSeg_at hs (by omega))) (by omega) _ _ (hP.sub [0, 1, 2] rfl) (hD.sub [0, 1, 2] (by decide) rfl) hS ls (lv_sub hl [0, 1, 2, 3, 4, 5, 6, 7] rfl)
        exact LP135 _ 0 gb (by omega) (qSeg_0) (Nat.lt_succ_self _) _ _ (hP.sub [0, 1, 2] rfl) (hD.sub [0, 1, 2] (by decide) rfl) hS ls (lv_sub hl [0, 1, 2, 3, 4, 5, 6, 7] rfl)
      · skip
        rw [nI_leI (by omega) (by omega)] at c_1
        refine lv_iconst (pc := 10) (v := nI 0) hx hb dX10_mixColumns_10 (by decide +kernel) ?_
        refine lv_istore (pc := 11) (lv' := [(8, .int (nI 0)), (7, .int (nI (4 * c))), (0, .ref h0), (1, .ref hb2), (2, .int (nI at0)), (3, .int (nI p)), (4, .int (nI q)), (5, .int (nI r)), (6, .int (nI s))]) hx hb dX10_mixColumns_11 hl (by decide) rfl (fun ls hl => ?_)
        have LP13 : ∀ (nn13 : Nat) (d : Nat) (d' : Nat → BitVec 8), (d ≤ 4) → (qSeg d' ce 0 (4 * c + d) (aMix p q r s (fun k => gb (at0 + k)))) → (4 - d < nn13) → ∀ (H : Heap) (locs : List Loc), va_P D vwCl [(h0, oM a ar mn tp osz lsz ns ct), (a 18, aS ta 16 d'), (hb2, aS ta capb gb)] H → va_D A [(h0, oM a ar mn tp osz lsz ns ct), (a 18, aS ta 16 d'), (hb2, aS ta capb gb)] → va_S A ss.heap H locs → ∀ ls : Array Slot, lv_has ls 10 [(8, .int (nI d)), (7, .int (nI (4 * c))), (0, .ref h0), (1, .ref hb2), (2, .int (nI at0)), (3, .int (nI p)), (4, .int (nI q)), (5, .int (nI r)), (6, .int (nI s))] → W pp ll ee ({ frames := 2, cells := 0, slots := 0, locals := 44 } : Room) ss mm (([.ref h0, .ref hb2, .int (nI at0), .int (nI p), .int (nI q), .int (nI r), .int (nI s)] : List Value).toArray) below meth kc H locs 0 0 Q (F0 mm 13 ls []) := by
          intro nn13
          induction nn13 with
          | zero => intro d d' hdd hs2 hmu; exact absurd hmu (Nat.not_lt_zero _)
          | succ nn13 ih13 =>
            intro d d' hdd hs2 hmu13 H locs hP hD hS ls hl
            refine lv_iload (pc := 13) hx hb dX10_mixColumns_13 (lv_at hl 0 rfl) ?_
            refine lv_iconst (pc := 15) (v := nI 4) hx hb dX10_mixColumns_15 (by decide +kernel) ?_
            refine lv_icmp_ge (pc := 16) (tgt := 126) hx hb dX10_mixColumns_16 (by decide) (fun c_4 => ?_) (fun c_4 => ?_)
            · skip
              rw [nI_leI (by omega) (by omega)] at c_4
              refine lv_iinc (pc := 126) (v := nI (4 * c + 4)) (lv' := [(7, .int (nI (4 * c + 4))), (8, .int (nI d)), (0, .ref h0), (1, .ref hb2), (2, .int (nI at0)), (3, .int (nI p)), (4, .int (nI q)), (5, .int (nI r)), (6, .int (nI s))]) hx hb dX10_mixColumns_126 hl (k := 1) rfl (by first | exact nI_add (4 * c) 4 | rfl) (by decide) rfl (fun ls hl => ?_)
              refine lv_goto (pc := 129) (tgt := 3) hx hb dX10_mixColumns_129 (by decide) ?_
              exact ih3 (c + 1) d' (by omega) (by rw [show 4 * (c + 1) = 4 * c + d by omega]; exact hs2) (by omega) _ _ (hP.sub [0, 1, 2] rfl) (hD.sub [0, 1, 2] (by decide) rfl) hS ls (lv_sub hl [0, 2, 3, 4, 5, 6, 7, 8] rfl)
            · skip
              rw [nI_leI (by omega) (by omega)] at c_4
              refine lv_aload_n (pc := 19) hx hb dX10_mixColumns_19 rfl (lv_at hl 3 rfl) ?_
              refine lv_iload_n (pc := 20) hx hb dX10_mixColumns_20 rfl (lv_at hl 4 rfl) ?_
              refine lv_iload (pc := 21) hx hb dX10_mixColumns_21 (lv_at hl 1 rfl) ?_
              refine lv_iadd (pc := 23) hx hb dX10_mixColumns_23 ?_
              refine q_top (y := nI (at0 + 4 * c)) (nI_add at0 (4 * c)) ?_
              refine lv_iload (pc := 24) hx hb dX10_mixColumns_24 (lv_at hl 0 rfl) ?_
              refine lv_iadd (pc := 26) hx hb dX10_mixColumns_26 ?_
              refine q_top (y := nI (at0 + 4 * c + d)) (nI_add (at0 + 4 * c) d) ?_
              refine q_bald (pc := 27) hx hb hK hP 2 2 rfl rfl (k := at0 + 4 * c + d) (v := qs (gb (at0 + 4 * c + d))) rfl (by omega) (by omega) rfl dX10_mixColumns_27 ?_
              refine lv_sipush (pc := 28) (v := nI 255) hx hb dX10_mixColumns_28 (by decide +kernel) ?_
              refine lv_iand (pc := 31) hx hb dX10_mixColumns_31 ?_
              refine q_top (y := qz (gb (at0 + 4 * c + d))) ((q_m255 _).trans (congrArg qz (qlo_qs _))) ?_
              refine lv_iload_n (pc := 32) hx hb dX10_mixColumns_32 rfl (lv_at hl 5 rfl) ?_
              refine cs_S (pc := 33) (idx := 52) (n := 2) (wr := [(h0, oM a ar mn tp osz lsz ns ct), (a 18, aS ta 16 d'), (hb2, aS ta capb gb)]) (As := [.int (qz (gb (at0 + 4 * c + d))), .int (nI p)]) (rest := []) hx hb hml hown hts hGok hK hA hG hl.1 hP hD hS (ct_X10_times ll D ta hGok (gb (at0 + 4 * c + d)) p (by first | assumption | omega | rfl | decide) H.size) tw_1041 tw_1039 tw_1040 tw_75 hdX10_times rfl ⟨rfl, rfl, Nat.le_of_ble_eq_true rfl, Nat.le_of_ble_eq_true rfl, Nat.le_of_ble_eq_true rfl, Nat.le_of_ble_eq_true rfl⟩ [] [0, 1, 2] rfl rfl (by decide) rfl (Nat.le_of_ble_eq_true rfl) dX10_mixColumns_33 (fun u H locs hq hP hD hS => ?_)
              refine W.eq (g2 := F0 mm 36 ls [.int (qz (gm (gb (at0 + 4 * c + d)) p))]) rfl ?_
              have hP : va_P D vwCl [(h0, oM a ar mn tp osz lsz ns ct), (a 18, aS ta 16 d'), (hb2, aS ta capb gb)] H := hP
              have hD : va_D A [(h0, oM a ar mn tp osz lsz ns ct), (a 18, aS ta 16 d'), (hb2, aS ta capb gb)] := hD
              refine lv_aload_n (pc := 36) hx hb dX10_mixColumns_36 rfl (lv_at hl 3 rfl) ?_
              refine lv_iload_n (pc := 37) hx hb dX10_mixColumns_37 rfl (lv_at hl 4 rfl) ?_
              refine lv_iload (pc := 38) hx hb dX10_mixColumns_38 (lv_at hl 1 rfl) ?_
              refine lv_iadd (pc := 40) hx hb dX10_mixColumns_40 ?_
              refine q_top (y := nI (at0 + 4 * c)) (nI_add at0 (4 * c)) ?_
              refine lv_iload (pc := 41) hx hb dX10_mixColumns_41 (lv_at hl 0 rfl) ?_
              refine lv_iconst (pc := 43) (v := nI 1) hx hb dX10_mixColumns_43 (by decide +kernel) ?_
              refine lv_iadd (pc := 44) hx hb dX10_mixColumns_44 ?_
              refine q_top (y := nI (d + 1)) (nI_add d 1) ?_
              refine lv_iconst (pc := 45) (v := nI 4) hx hb dX10_mixColumns_45 (by decide +kernel) ?_
              refine lv_irem (pc := 46) hx hb dX10_mixColumns_46 (q_ne0 (by omega) (by omega)) ?_
              refine q_top (y := nI ((d + 1) % 4)) (pk_rem (by omega) (by omega) (by omega)) ?_
              refine lv_iadd (pc := 47) hx hb dX10_mixColumns_47 ?_
              refine q_top (y := nI (at0 + 4 * c + ((d + 1) % 4))) (nI_add (at0 + 4 * c) ((d + 1) % 4)) ?_
              refine q_bald (pc := 48) hx hb hK hP 2 2 rfl rfl (k := at0 + 4 * c + ((d + 1) % 4)) (v := qs (gb (at0 + 4 * c + ((d + 1) % 4)))) rfl (by omega) (by omega) rfl dX10_mixColumns_48 ?_
              refine lv_sipush (pc := 49) (v := nI 255) hx hb dX10_mixColumns_49 (by decide +kernel) ?_
              refine lv_iand (pc := 52) hx hb dX10_mixColumns_52 ?_
              refine q_top (y := qz (gb (at0 + 4 * c + ((d + 1) % 4)))) ((q_m255 _).trans (congrArg qz (qlo_qs _))) ?_
              refine lv_iload (pc := 53) hx hb dX10_mixColumns_53 (lv_at hl 6 rfl) ?_
              refine cs_S (pc := 55) (idx := 52) (n := 2) (wr := [(h0, oM a ar mn tp osz lsz ns ct), (a 18, aS ta 16 d'), (hb2, aS ta capb gb)]) (As := [.int (qz (gb (at0 + 4 * c + ((d + 1) % 4)))), .int (nI q)]) (rest := [.int (qz (gm (gb (at0 + 4 * c + d)) p))]) hx hb hml hown hts hGok hK hA hG hl.1 hP hD hS (ct_X10_times ll D ta hGok (gb (at0 + 4 * c + ((d + 1) % 4))) q (by first | assumption | omega | rfl | decide) H.size) tw_1041 tw_1039 tw_1040 tw_75 hdX10_times rfl ⟨rfl, rfl, Nat.le_of_ble_eq_true rfl, Nat.le_of_ble_eq_true rfl, Nat.le_of_ble_eq_true rfl, Nat.le_of_ble_eq_true rfl⟩ [] [0, 1, 2] rfl rfl (by decide) rfl (Nat.le_of_ble_eq_true rfl) dX10_mixColumns_55 (fun u H locs hq hP hD hS => ?_)
              refine W.eq (g2 := F0 mm 58 ls [.int (qz (gm (gb (at0 + 4 * c + ((d + 1) % 4))) q)), .int (qz (gm (gb (at0 + 4 * c + d)) p))]) rfl ?_
              have hP : va_P D vwCl [(h0, oM a ar mn tp osz lsz ns ct), (a 18, aS ta 16 d'), (hb2, aS ta capb gb)] H := hP
              have hD : va_D A [(h0, oM a ar mn tp osz lsz ns ct), (a 18, aS ta 16 d'), (hb2, aS ta capb gb)] := hD
              refine lv_ixor (pc := 58) hx hb dX10_mixColumns_58 ?_
              refine q_top (y := qz ((gm (gb (at0 + 4 * c + d)) p) ^^^ (gm (gb (at0 + 4 * c + ((d + 1) % 4))) q))) (q_xor_z _ _) ?_
              refine lv_aload_n (pc := 59) hx hb dX10_mixColumns_59 rfl (lv_at hl 3 rfl) ?_
              refine lv_iload_n (pc := 60) hx hb dX10_mixColumns_60 rfl (lv_at hl 4 rfl) ?_
              refine lv_iload (pc := 61) hx hb dX10_mixColumns_61 (lv_at hl 1 rfl) ?_
              refine lv_iadd (pc := 63) hx hb dX10_mixColumns_63 ?_
              refine q_top (y := nI (at0 + 4 * c)) (nI_add at0 (4 * c)) ?_
              refine lv_iload (pc := 64) hx hb dX10_mixColumns_64 (lv_at hl 0 rfl) ?_
              refine lv_iconst (pc := 66) (v := nI 2) hx hb dX10_mixColumns_66 (by decide +kernel) ?_
              refine lv_iadd (pc := 67) hx hb dX10_mixColumns_67 ?_
              refine q_top (y := nI (d + 2)) (nI_add d 2) ?_
              refine lv_iconst (pc := 68) (v := nI 4) hx hb dX10_mixColumns_68 (by decide +kernel) ?_
              refine lv_irem (pc := 69) hx hb dX10_mixColumns_69 (q_ne0 (by omega) (by omega)) ?_
              refine q_top (y := nI ((d + 2) % 4)) (pk_rem (by omega) (by omega) (by omega)) ?_
              refine lv_iadd (pc := 70) hx hb dX10_mixColumns_70 ?_
              refine q_top (y := nI (at0 + 4 * c + ((d + 2) % 4))) (nI_add (at0 + 4 * c) ((d + 2) % 4)) ?_
              refine q_bald (pc := 71) hx hb hK hP 2 2 rfl rfl (k := at0 + 4 * c + ((d + 2) % 4)) (v := qs (gb (at0 + 4 * c + ((d + 2) % 4)))) rfl (by omega) (by omega) rfl dX10_mixColumns_71 ?_
              refine lv_sipush (pc := 72) (v := nI 255) hx hb dX10_mixColumns_72 (by decide +kernel) ?_
              refine lv_iand (pc := 75) hx hb dX10_mixColumns_75 ?_
              refine q_top (y := qz (gb (at0 + 4 * c + ((d + 2) % 4)))) ((q_m255 _).trans (congrArg qz (qlo_qs _))) ?_
              refine lv_iload (pc := 76) hx hb dX10_mixColumns_76 (lv_at hl 7 rfl) ?_
              refine cs_S (pc := 78) (idx := 52) (n := 2) (wr := [(h0, oM a ar mn tp osz lsz ns ct), (a 18, aS ta 16 d'), (hb2, aS ta capb gb)]) (As := [.int (qz (gb (at0 + 4 * c + ((d + 2) % 4)))), .int (nI r)]) (rest := [.int (qz ((gm (gb (at0 + 4 * c + d)) p) ^^^ (gm (gb (at0 + 4 * c + ((d + 1) % 4))) q)))]) hx hb hml hown hts hGok hK hA hG hl.1 hP hD hS (ct_X10_times ll D ta hGok (gb (at0 + 4 * c + ((d + 2) % 4))) r (by first | assumption | omega | rfl | decide) H.size) tw_1041 tw_1039 tw_1040 tw_75 hdX10_times rfl ⟨rfl, rfl, Nat.le_of_ble_eq_true rfl, Nat.le_of_ble_eq_true rfl, Nat.le_of_ble_eq_true rfl, Nat.le_of_ble_eq_true rfl⟩ [] [0, 1, 2] rfl rfl (by decide) rfl (Nat.le_of_ble_eq_true rfl) dX10_mixColumns_78 (fun u H locs hq hP hD hS => ?_)
              refine W.eq (g2 := F0 mm 81 ls [.int (qz (gm (gb (at0 + 4 * c + ((d + 2) % 4))) r)), .int (qz ((gm (gb (at0 + 4 * c + d)) p) ^^^ (gm (gb (at0 + 4 * c + ((d + 1) % 4))) q)))]) rfl ?_
              have hP : va_P D vwCl [(h0, oM a ar mn tp osz lsz ns ct), (a 18, aS ta 16 d'), (hb2, aS ta capb gb)] H := hP
              have hD : va_D A [(h0, oM a ar mn tp osz lsz ns ct), (a 18, aS ta 16 d'), (hb2, aS ta capb gb)] := hD
              refine lv_ixor (pc := 81) hx hb dX10_mixColumns_81 ?_
              refine q_top (y := qz (((gm (gb (at0 + 4 * c + d)) p) ^^^ (gm (gb (at0 + 4 * c + ((d + 1) % 4))) q)) ^^^ (gm (gb (at0 + 4 * c + ((d + 2) % 4))) r))) (q_xor_z _ _) ?_
              refine lv_aload_n (pc := 82) hx hb dX10_mixColumns_82 rfl (lv_at hl 3 rfl) ?_
              refine lv_iload_n (pc := 83) hx hb dX10_mixColumns_83 rfl (lv_at hl 4 rfl) ?_
              refine lv_iload (pc := 84) hx hb dX10_mixColumns_84 (lv_at hl 1 rfl) ?_
              refine lv_iadd (pc := 86) hx hb dX10_mixColumns_86 ?_
              refine q_top (y := nI (at0 + 4 * c)) (nI_add at0 (4 * c)) ?_
              refine lv_iload (pc := 87) hx hb dX10_mixColumns_87 (lv_at hl 0 rfl) ?_
              refine lv_iconst (pc := 89) (v := nI 3) hx hb dX10_mixColumns_89 (by decide +kernel) ?_
              refine lv_iadd (pc := 90) hx hb dX10_mixColumns_90 ?_
              refine q_top (y := nI (d + 3)) (nI_add d 3) ?_
              refine lv_iconst (pc := 91) (v := nI 4) hx hb dX10_mixColumns_91 (by decide +kernel) ?_
              refine lv_irem (pc := 92) hx hb dX10_mixColumns_92 (q_ne0 (by omega) (by omega)) ?_
              refine q_top (y := nI ((d + 3) % 4)) (pk_rem (by omega) (by omega) (by omega)) ?_
              refine lv_iadd (pc := 93) hx hb dX10_mixColumns_93 ?_
              refine q_top (y := nI (at0 + 4 * c + ((d + 3) % 4))) (nI_add (at0 + 4 * c) ((d + 3) % 4)) ?_
              refine q_bald (pc := 94) hx hb hK hP 2 2 rfl rfl (k := at0 + 4 * c + ((d + 3) % 4)) (v := qs (gb (at0 + 4 * c + ((d + 3) % 4)))) rfl (by omega) (by omega) rfl dX10_mixColumns_94 ?_
              refine lv_sipush (pc := 95) (v := nI 255) hx hb dX10_mixColumns_95 (by decide +kernel) ?_
              refine lv_iand (pc := 98) hx hb dX10_mixColumns_98 ?_
              refine q_top (y := qz (gb (at0 + 4 * c + ((d + 3) % 4)))) ((q_m255 _).trans (congrArg qz (qlo_qs _))) ?_
              refine lv_iload (pc := 99) hx hb dX10_mixColumns_99 (lv_at hl 8 rfl) ?_
              refine cs_S (pc := 101) (idx := 52) (n := 2) (wr := [(h0, oM a ar mn tp osz lsz ns ct), (a 18, aS ta 16 d'), (hb2, aS ta capb gb)]) (As := [.int (qz (gb (at0 + 4 * c + ((d + 3) % 4)))), .int (nI s)]) (rest := [.int (qz (((gm (gb (at0 + 4 * c + d)) p) ^^^ (gm (gb (at0 + 4 * c + ((d + 1) % 4))) q)) ^^^ (gm (gb (at0 + 4 * c + ((d + 2) % 4))) r)))]) hx hb hml hown hts hGok hK hA hG hl.1 hP hD hS (ct_X10_times ll D ta hGok (gb (at0 + 4 * c + ((d + 3) % 4))) s (by first | assumption | omega | rfl | decide) H.size) tw_1041 tw_1039 tw_1040 tw_75 hdX10_times rfl ⟨rfl, rfl, Nat.le_of_ble_eq_true rfl, Nat.le_of_ble_eq_true rfl, Nat.le_of_ble_eq_true rfl, Nat.le_of_ble_eq_true rfl⟩ [] [0, 1, 2] rfl rfl (by decide) rfl (Nat.le_of_ble_eq_true rfl) dX10_mixColumns_101 (fun u H locs hq hP hD hS => ?_)
              refine W.eq (g2 := F0 mm 104 ls [.int (qz (gm (gb (at0 + 4 * c + ((d + 3) % 4))) s)), .int (qz (((gm (gb (at0 + 4 * c + d)) p) ^^^ (gm (gb (at0 + 4 * c + ((d + 1) % 4))) q)) ^^^ (gm (gb (at0 + 4 * c + ((d + 2) % 4))) r)))]) rfl ?_
              have hP : va_P D vwCl [(h0, oM a ar mn tp osz lsz ns ct), (a 18, aS ta 16 d'), (hb2, aS ta capb gb)] H := hP
              have hD : va_D A [(h0, oM a ar mn tp osz lsz ns ct), (a 18, aS ta 16 d'), (hb2, aS ta capb gb)] := hD
              refine lv_ixor (pc := 104) hx hb dX10_mixColumns_104 ?_
              refine q_top (y := qz ((((gm (gb (at0 + 4 * c + d)) p) ^^^ (gm (gb (at0 + 4 * c + ((d + 1) % 4))) q)) ^^^ (gm (gb (at0 + 4 * c + ((d + 2) % 4))) r)) ^^^ (gm (gb (at0 + 4 * c + ((d + 3) % 4))) s))) (q_xor_z _ _) ?_
              refine lv_istore (pc := 105) (lv' := [(9, .int (qz ((((gm (gb (at0 + 4 * c + d)) p) ^^^ (gm (gb (at0 + 4 * c + ((d + 1) % 4))) q)) ^^^ (gm (gb (at0 + 4 * c + ((d + 2) % 4))) r)) ^^^ (gm (gb (at0 + 4 * c + ((d + 3) % 4))) s)))), (8, .int (nI d)), (7, .int (nI (4 * c))), (0, .ref h0), (1, .ref hb2), (2, .int (nI at0)), (3, .int (nI p)), (4, .int (nI q)), (5, .int (nI r)), (6, .int (nI s))]) hx hb dX10_mixColumns_105 hl (by decide) rfl (fun ls hl => ?_)
              refine lv_aload_n (pc := 107) hx hb dX10_mixColumns_107 rfl (lv_at hl 3 rfl) ?_
              refine va_get (pc := 108) (D := D) (ci := 8) (v := .ref (a 18)) (C := RX10) (T := TX10) (N := 57) hx hb hts iu10 hown hK hP 0 rfl rfl 18 (by decide) (hts _ tw_1063) (fun _ h9 => h9) rfl dX10_mixColumns_108 ?_
              refine lv_iload (pc := 111) hx hb dX10_mixColumns_111 (lv_at hl 2 rfl) ?_
              refine lv_iload (pc := 113) hx hb dX10_mixColumns_113 (lv_at hl 1 rfl) ?_
              refine lv_iadd (pc := 115) hx hb dX10_mixColumns_115 ?_
              refine q_top (y := nI (4 * c + d)) (nI_add (4 * c) d) ?_
              refine lv_iload (pc := 116) hx hb dX10_mixColumns_116 (lv_at hl 0 rfl) ?_
              refine lv_i2b (pc := 118) (v := qs ((((gm (gb (at0 + 4 * c + d)) p) ^^^ (gm (gb (at0 + 4 * c + ((d + 1) % 4))) q)) ^^^ (gm (gb (at0 + 4 * c + ((d + 2) % 4))) r)) ^^^ (gm (gb (at0 + 4 * c + ((d + 3) % 4))) s))) hx hb dX10_mixColumns_118 (q_i2b_z _) ?_
              refine q_bastS (pc := 119) hx hb hK hP hD hS 1 2 rfl rfl (k := 4 * c + d) rfl (by omega) (by omega) (b := (((gm (gb (at0 + 4 * c + d)) p) ^^^ (gm (gb (at0 + 4 * c + ((d + 1) % 4))) q)) ^^^ (gm (gb (at0 + 4 * c + ((d + 2) % 4))) r)) ^^^ (gm (gb (at0 + 4 * c + ((d + 3) % 4))) s)) (qlo_qs _) dX10_mixColumns_119 (fun H locs hP hD hS => ?_)
              have hP : va_P D vwCl [(h0, oM a ar mn tp osz lsz ns ct), (a 18, aS ta 16 (qU d' (4 * c + d) ((((gm (gb (at0 + 4 * c + d)) p) ^^^ (gm (gb (at0 + 4 * c + ((d + 1) % 4))) q)) ^^^ (gm (gb (at0 + 4 * c + ((d + 2) % 4))) r)) ^^^ (gm (gb (at0 + 4 * c + ((d + 3) % 4))) s)))), (hb2, aS ta capb gb)] H := hP
              have hD : va_D A [(h0, oM a ar mn tp osz lsz ns ct), (a 18, aS ta 16 (qU d' (4 * c + d) ((((gm (gb (at0 + 4 * c + d)) p) ^^^ (gm (gb (at0 + 4 * c + ((d + 1) % 4))) q)) ^^^ (gm (gb (at0 + 4 * c + ((d + 2) % 4))) r)) ^^^ (gm (gb (at0 + 4 * c + ((d + 3) % 4))) s)))), (hb2, aS ta capb gb)] := hD
              refine lv_iinc (pc := 120) (v := nI (d + 1)) (lv' := [(8, .int (nI (d + 1))), (9, .int (qz ((((gm (gb (at0 + 4 * c + d)) p) ^^^ (gm (gb (at0 + 4 * c + ((d + 1) % 4))) q)) ^^^ (gm (gb (at0 + 4 * c + ((d + 2) % 4))) r)) ^^^ (gm (gb (at0 + 4 * c + ((d + 3) % 4))) s)))), (7, .int (nI (4 * c))), (0, .ref h0), (1, .ref hb2), (2, .int (nI at0)), (3, .int (nI p)), (4, .int (nI q)), (5, .int (nI r)), (6, .int (nI s))]) hx hb dX10_mixColumns_120 hl (k := 1) rfl (by first | exact nI_add d 1 | rfl) (by decide) rfl (fun ls hl => ?_)
              refine lv_goto (pc := 123) (tgt := 13) hx hb dX10_mixColumns_123 (by decide) ?_
              exact ih13 (d + 1) (qU d' (4 * c + d) ((((gm (gb (at0 + 4 * c + d)) p) ^^^ (gm (gb (at0 + 4 * c + ((d + 1) % 4))) q)) ^^^ (gm (gb (at0 + 4 * c + ((d + 2) % 4))) r)) ^^^ (gm (gb (at0 + 4 * c + ((d + 3) % 4))) s))) (by omega) (qSeg_s (k := 4 * c + d) hs2 (by omega) (by simp only [aMix, show (4 * c + d) / 4 = c by omega, show (4 * c + d) % 4 = d by omega, Nat.add_assoc])) (by omega) _ _ (hP.sub [0, 1, 2] rfl) (hD.sub [0, 1, 2] (by decide) rfl) hS ls (lv_sub hl [0, 2, 3, 4, 5, 6, 7, 8, 9] rfl)
        exact LP13 _ 0 c' (by omega) (hs) (Nat.lt_succ_self _) _ _ (hP.sub [0, 1, 2] rfl) (hD.sub [0, 1, 2] (by decide) rfl) hS ls (lv_sub hl [0, 1, 2, 3, 4, 5, 6, 7, 8] rfl)
  exact LP3 _ 0 ce (by omega) (qSeg_0) (Nat.lt_succ_self _) _ _ (hP.sub [0, 1, 2] rfl) (hD.sub [0, 1, 2] (by decide) rfl) hS ls (lv_sub hl [0, 1, 2, 3, 4, 5, 6, 7] rfl)
theorem hdX10_aesKey : yX10_aesKey.cls ≠ "java/lang/invoke/MethodHandle" ∧ yX10_aesKey.cls ≠ "java/lang/invoke/VarHandle" ∧ (parseMethodDescriptor yX10_aesKey.desc).map (fun d => d.parameters.length) = some 3 := ⟨by decide +kernel, by decide +kernel, by decide +kernel⟩
theorem dX10_aesKey_0 : decode cX10_aesKey 0 = .ok (.iload_n 3, 1) := by decide +kernel
theorem dX10_aesKey_1 : decode cX10_aesKey 1 = .ok (.iconst 4, 1) := by decide +kernel
theorem dX10_aesKey_2 : decode cX10_aesKey 2 = .ok (.idiv, 1) := by decide +kernel
theorem dX10_aesKey_3 : decode cX10_aesKey 3 = .ok (.istore 4, 2) := by decide +kernel
theorem dX10_aesKey_5 : decode cX10_aesKey 5 = .ok (.aload_n 0, 1) := by decide +kernel
theorem dX10_aesKey_6 : decode cX10_aesKey 6 = .ok (.iload 4, 2) := by decide +kernel
theorem dX10_aesKey_8 : decode cX10_aesKey 8 = .ok (.bipush 6, 2) := by decide +kernel
theorem dX10_aesKey_10 : decode cX10_aesKey 10 = .ok (.iadd, 1) := by decide +kernel
theorem dX10_aesKey_11 : decode cX10_aesKey 11 = .ok (.putfield 62, 3) := by decide +kernel
theorem dX10_aesKey_14 : decode cX10_aesKey 14 = .ok (.iconst 1, 1) := by decide +kernel
theorem dX10_aesKey_15 : decode cX10_aesKey 15 = .ok (.istore 5, 2) := by decide +kernel
theorem dX10_aesKey_17 : decode cX10_aesKey 17 = .ok (.iconst 0, 1) := by decide +kernel
theorem dX10_aesKey_18 : decode cX10_aesKey 18 = .ok (.istore 6, 2) := by decide +kernel
theorem dX10_aesKey_20 : decode cX10_aesKey 20 = .ok (.iload 6, 2) := by decide +kernel
theorem dX10_aesKey_22 : decode cX10_aesKey 22 = .ok (.iload_n 3, 1) := by decide +kernel
theorem dX10_aesKey_23 : decode cX10_aesKey 23 = .ok (.if_icmp .ge 22, 3) := by decide +kernel
theorem dX10_aesKey_26 : decode cX10_aesKey 26 = .ok (.aload_n 0, 1) := by decide +kernel
theorem dX10_aesKey_27 : decode cX10_aesKey 27 = .ok (.getfield 66, 3) := by decide +kernel
theorem dX10_aesKey_30 : decode cX10_aesKey 30 = .ok (.iload 6, 2) := by decide +kernel
theorem dX10_aesKey_32 : decode cX10_aesKey 32 = .ok (.aload_n 1, 1) := by decide +kernel
theorem dX10_aesKey_33 : decode cX10_aesKey 33 = .ok (.iload_n 2, 1) := by decide +kernel
theorem dX10_aesKey_34 : decode cX10_aesKey 34 = .ok (.iload 6, 2) := by decide +kernel
theorem dX10_aesKey_36 : decode cX10_aesKey 36 = .ok (.iadd, 1) := by decide +kernel
theorem dX10_aesKey_37 : decode cX10_aesKey 37 = .ok (.baload, 1) := by decide +kernel
theorem dX10_aesKey_38 : decode cX10_aesKey 38 = .ok (.bastore, 1) := by decide +kernel
theorem dX10_aesKey_39 : decode cX10_aesKey 39 = .ok (.iinc 6 1, 3) := by decide +kernel
theorem dX10_aesKey_42 : decode cX10_aesKey 42 = .ok (.goto (-22), 3) := by decide +kernel
theorem dX10_aesKey_45 : decode cX10_aesKey 45 = .ok (.iload 4, 2) := by decide +kernel
theorem dX10_aesKey_47 : decode cX10_aesKey 47 = .ok (.istore 6, 2) := by decide +kernel
theorem dX10_aesKey_49 : decode cX10_aesKey 49 = .ok (.iload 6, 2) := by decide +kernel
theorem dX10_aesKey_51 : decode cX10_aesKey 51 = .ok (.iconst 4, 1) := by decide +kernel
theorem dX10_aesKey_52 : decode cX10_aesKey 52 = .ok (.aload_n 0, 1) := by decide +kernel
theorem dX10_aesKey_53 : decode cX10_aesKey 53 = .ok (.getfield 62, 3) := by decide +kernel
theorem dX10_aesKey_56 : decode cX10_aesKey 56 = .ok (.iconst 1, 1) := by decide +kernel
theorem dX10_aesKey_57 : decode cX10_aesKey 57 = .ok (.iadd, 1) := by decide +kernel
theorem dX10_aesKey_58 : decode cX10_aesKey 58 = .ok (.imul, 1) := by decide +kernel
theorem dX10_aesKey_59 : decode cX10_aesKey 59 = .ok (.if_icmp .ge 182, 3) := by decide +kernel
theorem dX10_aesKey_62 : decode cX10_aesKey 62 = .ok (.iconst 0, 1) := by decide +kernel
theorem dX10_aesKey_63 : decode cX10_aesKey 63 = .ok (.istore 7, 2) := by decide +kernel
theorem dX10_aesKey_65 : decode cX10_aesKey 65 = .ok (.iload 7, 2) := by decide +kernel
theorem dX10_aesKey_67 : decode cX10_aesKey 67 = .ok (.iconst 4, 1) := by decide +kernel
theorem dX10_aesKey_68 : decode cX10_aesKey 68 = .ok (.if_icmp .ge 152, 3) := by decide +kernel
theorem dX10_aesKey_71 : decode cX10_aesKey 71 = .ok (.iload 6, 2) := by decide +kernel
theorem dX10_aesKey_73 : decode cX10_aesKey 73 = .ok (.iload 4, 2) := by decide +kernel
theorem dX10_aesKey_75 : decode cX10_aesKey 75 = .ok (.irem, 1) := by decide +kernel
theorem dX10_aesKey_76 : decode cX10_aesKey 76 = .ok (.ifCond .ne 47, 3) := by decide +kernel
theorem dX10_aesKey_79 : decode cX10_aesKey 79 = .ok (.aload_n 0, 1) := by decide +kernel
theorem dX10_aesKey_80 : decode cX10_aesKey 80 = .ok (.getfield 56, 3) := by decide +kernel
theorem dX10_aesKey_83 : decode cX10_aesKey 83 = .ok (.aload_n 0, 1) := by decide +kernel
theorem dX10_aesKey_84 : decode cX10_aesKey 84 = .ok (.getfield 66, 3) := by decide +kernel
theorem dX10_aesKey_87 : decode cX10_aesKey 87 = .ok (.iconst 4, 1) := by decide +kernel
theorem dX10_aesKey_88 : decode cX10_aesKey 88 = .ok (.iload 6, 2) := by decide +kernel
theorem dX10_aesKey_90 : decode cX10_aesKey 90 = .ok (.iconst 1, 1) := by decide +kernel
theorem dX10_aesKey_91 : decode cX10_aesKey 91 = .ok (.isub, 1) := by decide +kernel
theorem dX10_aesKey_92 : decode cX10_aesKey 92 = .ok (.imul, 1) := by decide +kernel
theorem dX10_aesKey_93 : decode cX10_aesKey 93 = .ok (.iload 7, 2) := by decide +kernel
theorem dX10_aesKey_95 : decode cX10_aesKey 95 = .ok (.iconst 1, 1) := by decide +kernel
theorem dX10_aesKey_96 : decode cX10_aesKey 96 = .ok (.iadd, 1) := by decide +kernel
theorem dX10_aesKey_97 : decode cX10_aesKey 97 = .ok (.iconst 4, 1) := by decide +kernel
theorem dX10_aesKey_98 : decode cX10_aesKey 98 = .ok (.irem, 1) := by decide +kernel
theorem dX10_aesKey_99 : decode cX10_aesKey 99 = .ok (.iadd, 1) := by decide +kernel
theorem dX10_aesKey_100 : decode cX10_aesKey 100 = .ok (.baload, 1) := by decide +kernel
theorem dX10_aesKey_101 : decode cX10_aesKey 101 = .ok (.sipush 255, 3) := by decide +kernel
theorem dX10_aesKey_104 : decode cX10_aesKey 104 = .ok (.iand, 1) := by decide +kernel
theorem dX10_aesKey_105 : decode cX10_aesKey 105 = .ok (.iaload, 1) := by decide +kernel
theorem dX10_aesKey_106 : decode cX10_aesKey 106 = .ok (.iload 7, 2) := by decide +kernel
theorem dX10_aesKey_108 : decode cX10_aesKey 108 = .ok (.ifCond .ne 8, 3) := by decide +kernel
theorem dX10_aesKey_111 : decode cX10_aesKey 111 = .ok (.iload 5, 2) := by decide +kernel
theorem dX10_aesKey_113 : decode cX10_aesKey 113 = .ok (.goto 4, 3) := by decide +kernel
theorem dX10_aesKey_116 : decode cX10_aesKey 116 = .ok (.iconst 0, 1) := by decide +kernel
theorem dX10_aesKey_117 : decode cX10_aesKey 117 = .ok (.ixor, 1) := by decide +kernel
theorem dX10_aesKey_118 : decode cX10_aesKey 118 = .ok (.istore 8, 2) := by decide +kernel
theorem dX10_aesKey_120 : decode cX10_aesKey 120 = .ok (.goto 63, 3) := by decide +kernel
theorem dX10_aesKey_123 : decode cX10_aesKey 123 = .ok (.iload 4, 2) := by decide +kernel
theorem dX10_aesKey_125 : decode cX10_aesKey 125 = .ok (.bipush 8, 2) := by decide +kernel
theorem dX10_aesKey_127 : decode cX10_aesKey 127 = .ok (.if_icmp .ne 40, 3) := by decide +kernel
theorem dX10_aesKey_130 : decode cX10_aesKey 130 = .ok (.iload 6, 2) := by decide +kernel
theorem dX10_aesKey_132 : decode cX10_aesKey 132 = .ok (.bipush 8, 2) := by decide +kernel
theorem dX10_aesKey_134 : decode cX10_aesKey 134 = .ok (.irem, 1) := by decide +kernel
theorem dX10_aesKey_135 : decode cX10_aesKey 135 = .ok (.iconst 4, 1) := by decide +kernel
theorem dX10_aesKey_136 : decode cX10_aesKey 136 = .ok (.if_icmp .ne 31, 3) := by decide +kernel
theorem dX10_aesKey_139 : decode cX10_aesKey 139 = .ok (.aload_n 0, 1) := by decide +kernel
theorem dX10_aesKey_140 : decode cX10_aesKey 140 = .ok (.getfield 56, 3) := by decide +kernel
theorem dX10_aesKey_143 : decode cX10_aesKey 143 = .ok (.aload_n 0, 1) := by decide +kernel
theorem dX10_aesKey_144 : decode cX10_aesKey 144 = .ok (.getfield 66, 3) := by decide +kernel
theorem dX10_aesKey_147 : decode cX10_aesKey 147 = .ok (.iconst 4, 1) := by decide +kernel
theorem dX10_aesKey_148 : decode cX10_aesKey 148 = .ok (.iload 6, 2) := by decide +kernel
theorem dX10_aesKey_150 : decode cX10_aesKey 150 = .ok (.iconst 1, 1) := by decide +kernel
theorem dX10_aesKey_151 : decode cX10_aesKey 151 = .ok (.isub, 1) := by decide +kernel
theorem dX10_aesKey_152 : decode cX10_aesKey 152 = .ok (.imul, 1) := by decide +kernel
theorem dX10_aesKey_153 : decode cX10_aesKey 153 = .ok (.iload 7, 2) := by decide +kernel
theorem dX10_aesKey_155 : decode cX10_aesKey 155 = .ok (.iadd, 1) := by decide +kernel
theorem dX10_aesKey_156 : decode cX10_aesKey 156 = .ok (.baload, 1) := by decide +kernel
theorem dX10_aesKey_157 : decode cX10_aesKey 157 = .ok (.sipush 255, 3) := by decide +kernel
theorem dX10_aesKey_160 : decode cX10_aesKey 160 = .ok (.iand, 1) := by decide +kernel
theorem dX10_aesKey_161 : decode cX10_aesKey 161 = .ok (.iaload, 1) := by decide +kernel
theorem dX10_aesKey_162 : decode cX10_aesKey 162 = .ok (.istore 8, 2) := by decide +kernel
theorem dX10_aesKey_164 : decode cX10_aesKey 164 = .ok (.goto 19, 3) := by decide +kernel
theorem dX10_aesKey_167 : decode cX10_aesKey 167 = .ok (.aload_n 0, 1) := by decide +kernel
theorem dX10_aesKey_168 : decode cX10_aesKey 168 = .ok (.getfield 66, 3) := by decide +kernel
theorem dX10_aesKey_171 : decode cX10_aesKey 171 = .ok (.iconst 4, 1) := by decide +kernel
theorem dX10_aesKey_172 : decode cX10_aesKey 172 = .ok (.iload 6, 2) := by decide +kernel
theorem dX10_aesKey_174 : decode cX10_aesKey 174 = .ok (.iconst 1, 1) := by decide +kernel
theorem dX10_aesKey_175 : decode cX10_aesKey 175 = .ok (.isub, 1) := by decide +kernel
theorem dX10_aesKey_176 : decode cX10_aesKey 176 = .ok (.imul, 1) := by decide +kernel
theorem dX10_aesKey_177 : decode cX10_aesKey 177 = .ok (.iload 7, 2) := by decide +kernel
theorem dX10_aesKey_179 : decode cX10_aesKey 179 = .ok (.iadd, 1) := by decide +kernel
theorem dX10_aesKey_180 : decode cX10_aesKey 180 = .ok (.baload, 1) := by decide +kernel
theorem dX10_aesKey_181 : decode cX10_aesKey 181 = .ok (.istore 8, 2) := by decide +kernel
theorem dX10_aesKey_183 : decode cX10_aesKey 183 = .ok (.aload_n 0, 1) := by decide +kernel
theorem dX10_aesKey_184 : decode cX10_aesKey 184 = .ok (.getfield 66, 3) := by decide +kernel
theorem dX10_aesKey_187 : decode cX10_aesKey 187 = .ok (.iconst 4, 1) := by decide +kernel
theorem dX10_aesKey_188 : decode cX10_aesKey 188 = .ok (.iload 6, 2) := by decide +kernel
theorem dX10_aesKey_190 : decode cX10_aesKey 190 = .ok (.imul, 1) := by decide +kernel
theorem dX10_aesKey_191 : decode cX10_aesKey 191 = .ok (.iload 7, 2) := by decide +kernel
theorem dX10_aesKey_193 : decode cX10_aesKey 193 = .ok (.iadd, 1) := by decide +kernel
theorem dX10_aesKey_194 : decode cX10_aesKey 194 = .ok (.aload_n 0, 1) := by decide +kernel
theorem dX10_aesKey_195 : decode cX10_aesKey 195 = .ok (.getfield 66, 3) := by decide +kernel
theorem dX10_aesKey_198 : decode cX10_aesKey 198 = .ok (.iconst 4, 1) := by decide +kernel
theorem dX10_aesKey_199 : decode cX10_aesKey 199 = .ok (.iload 6, 2) := by decide +kernel
theorem dX10_aesKey_201 : decode cX10_aesKey 201 = .ok (.iload 4, 2) := by decide +kernel
theorem dX10_aesKey_203 : decode cX10_aesKey 203 = .ok (.isub, 1) := by decide +kernel
theorem dX10_aesKey_204 : decode cX10_aesKey 204 = .ok (.imul, 1) := by decide +kernel
theorem dX10_aesKey_205 : decode cX10_aesKey 205 = .ok (.iload 7, 2) := by decide +kernel
theorem dX10_aesKey_207 : decode cX10_aesKey 207 = .ok (.iadd, 1) := by decide +kernel
theorem dX10_aesKey_208 : decode cX10_aesKey 208 = .ok (.baload, 1) := by decide +kernel
theorem dX10_aesKey_209 : decode cX10_aesKey 209 = .ok (.iload 8, 2) := by decide +kernel
theorem dX10_aesKey_211 : decode cX10_aesKey 211 = .ok (.ixor, 1) := by decide +kernel
theorem dX10_aesKey_212 : decode cX10_aesKey 212 = .ok (.i2b, 1) := by decide +kernel
theorem dX10_aesKey_213 : decode cX10_aesKey 213 = .ok (.bastore, 1) := by decide +kernel
theorem dX10_aesKey_214 : decode cX10_aesKey 214 = .ok (.iinc 7 1, 3) := by decide +kernel
theorem dX10_aesKey_217 : decode cX10_aesKey 217 = .ok (.goto (-152), 3) := by decide +kernel
theorem dX10_aesKey_220 : decode cX10_aesKey 220 = .ok (.iload 6, 2) := by decide +kernel
theorem dX10_aesKey_222 : decode cX10_aesKey 222 = .ok (.iload 4, 2) := by decide +kernel
theorem dX10_aesKey_224 : decode cX10_aesKey 224 = .ok (.irem, 1) := by decide +kernel
theorem dX10_aesKey_225 : decode cX10_aesKey 225 = .ok (.ifCond .ne 10, 3) := by decide +kernel
theorem dX10_aesKey_228 : decode cX10_aesKey 228 = .ok (.iload 5, 2) := by decide +kernel
theorem dX10_aesKey_230 : decode cX10_aesKey 230 = .ok (.invokestatic 48, 3) := by decide +kernel
theorem dX10_aesKey_233 : decode cX10_aesKey 233 = .ok (.istore 5, 2) := by decide +kernel
theorem dX10_aesKey_235 : decode cX10_aesKey 235 = .ok (.iinc 6 1, 3) := by decide +kernel
theorem dX10_aesKey_238 : decode cX10_aesKey 238 = .ok (.goto (-189), 3) := by decide +kernel
theorem dX10_aesKey_241 : decode cX10_aesKey 241 = .ok (.return_, 1) := by decide +kernel
set_option maxHeartbeats 4000000 in
set_option maxRecDepth 100000 in
theorem ct_X10_aesKey_4 (ll : Launch) (D : va_G) (ta : Nat → ClassId) {G : (Nat → Prop) → State → Heap → Prop} (hGok : GOK G) (h0 : Nat) (a : Nat → Nat) (ar : Nat) (mn : Nat) (tp : Nat) (osz : Nat) (lsz : Nat) (ns : Nat) (ct : Nat) (hk : Nat) (fr : Nat) (capk : Nat) (gk : Nat → BitVec 8) (rk : Nat → BitVec 8) (hf : fr + 16 ≤ capk) (hck : capk < 2147483648) (sz : Nat) : CT ll yX10_aesKey cX10_aesKey 9 none ({ frames := 1, cells := 0, slots := 0, locals := 20 } : Room) D ta G [.ref h0, .ref hk, .int (nI fr), .int (nI 16)] [(h0, oM a ar mn tp osz lsz ns ct), (a 8, aZ ta 256 BOX), (a 16, aS ta 240 rk), (hk, aS ta capk gk)] sz (S := (Nat → BitVec 8)) (fun _ => none) (fun u => (∀ j, j < 16 * (4 + 6 + 1) → u j = aKey (fun j => gk (fr + j)) 4 (4 * (4 + 6 + 1) - 4) j)) (fun u => [(h0, oM a 10 mn tp osz lsz ns ct), (a 8, aZ ta 256 BOX), (a 16, aS ta 240 u), (hk, aS ta capk gk)]) 0 0 := by
  refine CT.of_v rfl (by decide) (Nat.le_of_ble_eq_true rfl) ?_
  intro pp ee ss mm below meth kc A Q hx hb hml hown hin hts hK hA hsz hG hret H locs hP hD hS ls hl
  have hl : lv_has ls 9 [(0, .ref h0), (1, .ref hk), (2, .int (nI fr)), (3, .int (nI 16))] := hl
  refine lv_iload_n (pc := 0) hx hb dX10_aesKey_0 rfl (lv_at hl 3 rfl) ?_
  refine lv_iconst (pc := 1) (v := nI 4) hx hb dX10_aesKey_1 (by decide +kernel) ?_
  refine lv_idiv (pc := 2) hx hb dX10_aesKey_2 (q_ne0 (by omega) (by omega)) ?_
  refine q_top (y := nI (16 / 4)) (pk_div (by omega) (by omega) (by omega)) ?_
  refine q_top (y := nI 4) (by decide) ?_
  refine lv_istore (pc := 3) (lv' := [(4, .int (nI 4)), (0, .ref h0), (1, .ref hk), (2, .int (nI fr)), (3, .int (nI 16))]) hx hb dX10_aesKey_3 hl (by decide) rfl (fun ls hl => ?_)
  refine lv_aload_n (pc := 5) hx hb dX10_aesKey_5 rfl (lv_at hl 1 rfl) ?_
  refine lv_iload (pc := 6) hx hb dX10_aesKey_6 (lv_at hl 0 rfl) ?_
  refine lv_bipush (pc := 8) (v := nI 6) hx hb dX10_aesKey_8 (by decide +kernel) ?_
  refine lv_iadd (pc := 10) hx hb dX10_aesKey_10 ?_
  refine q_top (y := nI 10) (by decide +kernel) ?_
  refine va_put (pc := 11) (D := D) (ci := 8) (v := .int (nI 10)) (ty := .int) (C := RX10) (T := TX10) (N := 57) hx hb hts iu10 tyX10 tyX10_ok nmX10 hown hK hP hD hS 0 rfl rfl 17 (by decide) (hts _ tw_1062) (fun _ h9 => h9) rfl (by decide +kernel) rfl rfl (Nat.le_of_ble_eq_true rfl) dX10_aesKey_11 (fun H locs hP hD hS => ?_)
  have hP : va_P D vwCl [(h0, oM a 10 mn tp osz lsz ns ct), (a 8, aZ ta 256 BOX), (a 16, aS ta 240 rk), (hk, aS ta capk gk)] H := hP
  have hD : va_D A [(h0, oM a 10 mn tp osz lsz ns ct), (a 8, aZ ta 256 BOX), (a 16, aS ta 240 rk), (hk, aS ta capk gk)] := hD
  refine lv_iconst (pc := 14) (v := nI 1) hx hb dX10_aesKey_14 (by decide +kernel) ?_
  refine q_top (y := qz (1#8)) (by decide) ?_
  refine lv_istore (pc := 15) (lv' := [(5, .int (qz (1#8))), (4, .int (nI 4)), (0, .ref h0), (1, .ref hk), (2, .int (nI fr)), (3, .int (nI 16))]) hx hb dX10_aesKey_15 hl (by decide) rfl (fun ls hl => ?_)
  refine lv_iconst (pc := 17) (v := nI 0) hx hb dX10_aesKey_17 (by decide +kernel) ?_
  refine lv_istore (pc := 18) (lv' := [(6, .int (nI 0)), (5, .int (qz (1#8))), (4, .int (nI 4)), (0, .ref h0), (1, .ref hk), (2, .int (nI fr)), (3, .int (nI 16))]) hx hb dX10_aesKey_18 hl (by decide) rfl (fun ls hl => ?_)
  have LP20 : ∀ (nn20 : Nat) (k : Nat) (g' : Nat → BitVec 8), (k ≤ 16) → (qSeg g' rk 0 k (fun j => gk (fr + j))) → (16 - k < nn20) → ∀ (H : Heap) (locs : List Loc), va_P D vwCl [(h0, oM a 10 mn tp osz lsz ns ct), (a 8, aZ ta 256 BOX), (a 16, aS ta 240 g'), (hk, aS ta capk gk)] H → va_D A [(h0, oM a 10 mn tp osz lsz ns ct), (a 8, aZ ta 256 BOX), (a 16, aS ta 240 g'), (hk, aS ta capk gk)] → va_S A ss.heap H locs → ∀ ls : Array Slot, lv_has ls 9 [(6, .int (nI k)), (5, .int (qz (1#8))), (4, .int (nI 4)), (0, .ref h0), (1, .ref hk), (2, .int (nI fr)), (3, .int (nI 16))] → W pp ll ee ({ frames := 1, cells := 0, slots := 0, locals := 20 } : Room) ss mm (([.ref h0, .ref hk, .int (nI fr), .int (nI 16)] : List Value).toArray) below meth kc H locs 0 0 Q (F0 mm 20 ls []) := by
    intro nn20
    induction nn20 with
    | zero => intro k g' hkk hs hmu; exact absurd hmu (Nat.not_lt_zero _)
    | succ nn20 ih20 =>
      intro k g' hkk hs hmu20 H locs hP hD hS ls hl
      refine lv_iload (pc := 20) hx hb dX10_aesKey_20 (lv_at hl 0 rfl) ?_
      refine lv_iload_n (pc := 22) hx hb dX10_aesKey_22 rfl (lv_at hl 6 rfl) ?_
      refine lv_icmp_ge (pc := 23) (tgt := 45) hx hb dX10_aesKey_23 (by decide) (fun c_1 => ?_) (fun c_1 => ?_)
      · skip
        rw [nI_leI (by omega) (by omega)] at c_1
        refine lv_iload (pc := 45) hx hb dX10_aesKey_45 (lv_at hl 2 rfl) ?_
        refine lv_istore (pc := 47) (lv' := [(6, .int (nI 4)), (5, .int (qz (1#8))), (4, .int (nI 4)), (0, .ref h0), (1, .ref hk), (2, .int (nI fr)), (3, .int (nI 16))]) hx hb dX10_aesKey_47 hl (by decide) rfl (fun ls hl => ?_)
        have LP49 : ∀ (nn49 : Nat) (c : Nat) (k1 : BitVec 8) (r' : Nat → BitVec 8), (c ≤ 40) → (k1 = xtn 1#8 ((4 + c - 1) / 4)) → (∀ j, j < 4 * (4 + c) → r' j = aKey (fun j => gk (fr + j)) 4 c j) → (40 - c < nn49) → ∀ (H : Heap) (locs : List Loc), va_P D vwCl [(h0, oM a 10 mn tp osz lsz ns ct), (a 8, aZ ta 256 BOX), (a 16, aS ta 240 r'), (hk, aS ta capk gk)] H → va_D A [(h0, oM a 10 mn tp osz lsz ns ct), (a 8, aZ ta 256 BOX), (a 16, aS ta 240 r'), (hk, aS ta capk gk)] → va_S A ss.heap H locs → ∀ ls : Array Slot, lv_has ls 9 [(6, .int (nI (4 + c))), (5, .int (qz k1)), (4, .int (nI 4)), (0, .ref h0), (1, .ref hk), (2, .int (nI fr)), (3, .int (nI 16))] → W pp ll ee ({ frames := 1, cells := 0, slots := 0, locals := 20 } : Room) ss mm (([.ref h0, .ref hk, .int (nI fr), .int (nI 16)] : List Value).toArray) below meth kc H locs 0 0 Q (F0 mm 49 ls []) := by
          intro nn49
          induction nn49 with
          | zero => intro c k1 r' hcc hk1 hs1 hmu; exact absurd hmu (Nat.not_lt_zero _)
          | succ nn49 ih49 =>
            intro c k1 r' hcc hk1 hs1 hmu49 H locs hP hD hS ls hl
            refine lv_iload (pc := 49) hx hb dX10_aesKey_49 (lv_at hl 0 rfl) ?_
            refine lv_iconst (pc := 51) (v := nI 4) hx hb dX10_aesKey_51 (by decide +kernel) ?_
            refine lv_aload_n (pc := 52) hx hb dX10_aesKey_52 rfl (lv_at hl 3 rfl) ?_
            refine va_get (pc := 53) (D := D) (ci := 8) (v := .int (nI 10)) (C := RX10) (T := TX10) (N := 57) hx hb hts iu10 hown hK hP 0 rfl rfl 17 (by decide) (hts _ tw_1062) (fun _ h9 => h9) rfl dX10_aesKey_53 ?_
            refine lv_iconst (pc := 56) (v := nI 1) hx hb dX10_aesKey_56 (by decide +kernel) ?_
            refine lv_iadd (pc := 57) hx hb dX10_aesKey_57 ?_
            refine q_top (y := nI 11) (by decide +kernel) ?_
            refine lv_imul (pc := 58) hx hb dX10_aesKey_58 ?_
            refine q_top (y := nI 44) (by decide +kernel) ?_
            refine lv_icmp_ge (pc := 59) (tgt := 241) hx hb dX10_aesKey_59 (by decide) (fun c_2 => ?_) (fun c_2 => ?_)
            · skip
              rw [nI_leI (by omega) (by omega)] at c_2
              have hq_3 : (∀ j, j < 16 * (4 + 6 + 1) → r' j = aKey (fun j => gk (fr + j)) 4 (4 * (4 + 6 + 1) - 4) j) := by
                intro j hj; rw [show 4 * (4 + 6 + 1) - 4 = c by omega]; exact hs1 j (by omega)
              exact hret (r') _ _ _ _ dX10_aesKey_241 hq_3 (hP.sub [0, 1, 2, 3] rfl) (hD.sub [0, 1, 2, 3] (by decide) rfl) hS
            · skip
              rw [nI_leI (by omega) (by omega)] at c_2
              refine lv_iconst (pc := 62) (v := nI 0) hx hb dX10_aesKey_62 (by decide +kernel) ?_
              refine lv_istore (pc := 63) (lv' := [(7, .int (nI 0)), (6, .int (nI (4 + c))), (5, .int (qz k1)), (4, .int (nI 4)), (0, .ref h0), (1, .ref hk), (2, .int (nI fr)), (3, .int (nI 16))]) hx hb dX10_aesKey_63 hl (by decide) rfl (fun ls hl => ?_)
              have LP65 : ∀ (nn65 : Nat) (d : Nat) (d' : Nat → BitVec 8), (d ≤ 4) → (∀ j, j < 4 * (4 + c) + d → d' j = aKey (fun j => gk (fr + j)) 4 (c + 1) j) → (4 - d < nn65) → ∀ (H : Heap) (locs : List Loc), va_P D vwCl [(h0, oM a 10 mn tp osz lsz ns ct), (a 8, aZ ta 256 BOX), (a 16, aS ta 240 d'), (hk, aS ta capk gk)] H → va_D A [(h0, oM a 10 mn tp osz lsz ns ct), (a 8, aZ ta 256 BOX), (a 16, aS ta 240 d'), (hk, aS ta capk gk)] → va_S A ss.heap H locs → ∀ ls : Array Slot, lv_has ls 9 [(7, .int (nI d)), (6, .int (nI (4 + c))), (5, .int (qz k1)), (4, .int (nI 4)), (0, .ref h0), (1, .ref hk), (2, .int (nI fr)), (3, .int (nI 16))] → W pp ll ee ({ frames := 1, cells := 0, slots := 0, locals := 20 } : Room) ss mm (([.ref h0, .ref hk, .int (nI fr), .int (nI 16)] : List Value).toArray) below meth kc H locs 0 0 Q (F0 mm 65 ls []) := by
                intro nn65
                induction nn65 with
                | zero => intro d d' hdd hs2 hmu; exact absurd hmu (Nat.not_lt_zero _)
                | succ nn65 ih65 =>
                  intro d d' hdd hs2 hmu65 H locs hP hD hS ls hl
                  refine lv_iload (pc := 65) hx hb dX10_aesKey_65 (lv_at hl 0 rfl) ?_
                  refine lv_iconst (pc := 67) (v := nI 4) hx hb dX10_aesKey_67 (by decide +kernel) ?_
                  refine lv_icmp_ge (pc := 68) (tgt := 220) hx hb dX10_aesKey_68 (by decide) (fun c_4 => ?_) (fun c_4 => ?_)
                  · skip
                    rw [nI_leI (by omega) (by omega)] at c_4
                    refine lv_iload (pc := 220) hx hb dX10_aesKey_220 (lv_at hl 1 rfl) ?_
                    refine lv_iload (pc := 222) hx hb dX10_aesKey_222 (lv_at hl 3 rfl) ?_
                    refine lv_irem (pc := 224) hx hb dX10_aesKey_224 (q_ne0 (by omega) (by omega)) ?_
                    refine q_top (y := nI ((4 + c) % 4)) (pk_rem (by omega) (by omega) (by omega)) ?_
                    refine lv_if_ne (pc := 225) (tgt := 235) hx hb dX10_aesKey_225 (by decide) (fun c_5 => ?_) (fun c_5 => ?_)
                    · skip
                      rw [q_eq0 (by omega)] at c_5
                      refine lv_iinc (pc := 235) (v := nI (4 + c + 1)) (lv' := [(6, .int (nI (4 + c + 1))), (7, .int (nI d)), (5, .int (qz k1)), (4, .int (nI 4)), (0, .ref h0), (1, .ref hk), (2, .int (nI fr)), (3, .int (nI 16))]) hx hb dX10_aesKey_235 hl (k := 1) rfl (by first | exact nI_add (4 + c) 1 | rfl) (by decide) rfl (fun ls hl => ?_)
                      refine lv_goto (pc := 238) (tgt := 49) hx hb dX10_aesKey_238 (by decide) ?_
                      exact ih49 (c + 1) k1 d' (by omega) (by subst hk1; first | (rw [show (4 + (c + 1) - 1) / 4 = (4 + c - 1) / 4 + 1 by omega]; rfl) | (rw [show (4 + (c + 1) - 1) / 4 = (4 + c - 1) / 4 by omega])) (by rw [show 4 * (4 + (c + 1)) = 4 * (4 + c) + d by omega]; exact hs2) (by omega) _ _ (hP.sub [0, 1, 2, 3] rfl) (hD.sub [0, 1, 2, 3] (by decide) rfl) hS ls (lv_sub hl [0, 2, 3, 4, 5, 6, 7] rfl)
                    · skip
                      rw [q_eq0 (by omega)] at c_5
                      refine lv_iload (pc := 228) hx hb dX10_aesKey_228 (lv_at hl 2 rfl) ?_
                      refine cs_S (pc := 230) (idx := 48) (n := 1) (wr := [(h0, oM a 10 mn tp osz lsz ns ct), (a 8, aZ ta 256 BOX), (a 16, aS ta 240 d'), (hk, aS ta capk gk)]) (As := [.int (qz k1)]) (rest := []) hx hb hml hown hts hGok hK hA hG hl.1 hP hD hS (ct_X10_twice ll D ta hGok k1  H.size) tw_1044 tw_1042 tw_1043 tw_75 hdX10_twice rfl ⟨rfl, rfl, Nat.le_of_ble_eq_true rfl, Nat.le_of_ble_eq_true rfl, Nat.le_of_ble_eq_true rfl, Nat.le_of_ble_eq_true rfl⟩ [] [0, 1, 2, 3] rfl rfl (by decide) rfl (Nat.le_of_ble_eq_true rfl) dX10_aesKey_230 (fun u H locs hq hP hD hS => ?_)
                      refine W.eq (g2 := F0 mm 233 ls [.int (qz (xt k1))]) rfl ?_
                      have hP : va_P D vwCl [(h0, oM a 10 mn tp osz lsz ns ct), (a 8, aZ ta 256 BOX), (a 16, aS ta 240 d'), (hk, aS ta capk gk)] H := hP
                      have hD : va_D A [(h0, oM a 10 mn tp osz lsz ns ct), (a 8, aZ ta 256 BOX), (a 16, aS ta 240 d'), (hk, aS ta capk gk)] := hD
                      refine lv_istore (pc := 233) (lv' := [(5, .int (qz (xt k1))), (7, .int (nI d)), (6, .int (nI (4 + c))), (4, .int (nI 4)), (0, .ref h0), (1, .ref hk), (2, .int (nI fr)), (3, .int (nI 16))]) hx hb dX10_aesKey_233 hl (by decide) rfl (fun ls hl => ?_)
                      refine lv_iinc (pc := 235) (v := nI (4 + c + 1)) (lv' := [(6, .int (nI (4 + c + 1))), (5, .int (qz (xt k1))), (7, .int (nI d)), (4, .int (nI 4)), (0, .ref h0), (1, .ref hk), (2, .int (nI fr)), (3, .int (nI 16))]) hx hb dX10_aesKey_235 hl (k := 2) rfl (by first | exact nI_add (4 + c) 1 | rfl) (by decide) rfl (fun ls hl => ?_)
                      refine lv_goto (pc := 238) (tgt := 49) hx hb dX10_aesKey_238 (by decide) ?_
                      exact ih49 (c + 1) (xt k1) d' (by omega) (by subst hk1; first | (rw [show (4 + (c + 1) - 1) / 4 = (4 + c - 1) / 4 + 1 by omega]; rfl) | (rw [show (4 + (c + 1) - 1) / 4 = (4 + c - 1) / 4 by omega])) (by rw [show 4 * (4 + (c + 1)) = 4 * (4 + c) + d by omega]; exact hs2) (by omega) _ _ (hP.sub [0, 1, 2, 3] rfl) (hD.sub [0, 1, 2, 3] (by decide) rfl) hS ls (lv_sub hl [0, 1, 3, 4, 5, 6, 7] rfl)
                  · skip
                    rw [nI_leI (by omega) (by omega)] at c_4
                    refine lv_iload (pc := 71) hx hb dX10_aesKey_71 (lv_at hl 1 rfl) ?_
                    refine lv_iload (pc := 73) hx hb dX10_aesKey_73 (lv_at hl 3 rfl) ?_
                    refine lv_irem (pc := 75) hx hb dX10_aesKey_75 (q_ne0 (by omega) (by omega)) ?_
                    refine q_top (y := nI ((4 + c) % 4)) (pk_rem (by omega) (by omega) (by omega)) ?_
                    refine lv_if_ne (pc := 76) (tgt := 123) hx hb dX10_aesKey_76 (by decide) (fun c_6 => ?_) (fun c_6 => ?_)
                    · skip
                      rw [q_eq0 (by omega)] at c_6
                      have h76 := c_6
                      refine lv_iload (pc := 123) hx hb dX10_aesKey_123 (lv_at hl 3 rfl) ?_
                      refine lv_bipush (pc := 125) (v := nI 8) hx hb dX10_aesKey_125 (by decide +kernel) ?_
                      refine lv_icmp_ne (pc := 127) (tgt := 167) hx hb dX10_aesKey_127 (by decide) (fun _ => ?_) (fun c_7 => absurd c_7 (by decide))
                      refine lv_aload_n (pc := 167) hx hb dX10_aesKey_167 rfl (lv_at hl 4 rfl) ?_
                      refine va_get (pc := 168) (D := D) (ci := 8) (v := .ref (a 16)) (C := RX10) (T := TX10) (N := 57) hx hb hts iu10 hown hK hP 0 rfl rfl 16 (by decide) (hts _ tw_1061) (fun _ h9 => h9) rfl dX10_aesKey_168 ?_
                      refine lv_iconst (pc := 171) (v := nI 4) hx hb dX10_aesKey_171 (by decide +kernel) ?_
                      refine lv_iload (pc := 172) hx hb dX10_aesKey_172 (lv_at hl 1 rfl) ?_
                      refine lv_iconst (pc := 174) (v := nI 1) hx hb dX10_aesKey_174 (by decide +kernel) ?_
                      refine lv_isub (pc := 175) hx hb dX10_aesKey_175 ?_
                      refine q_top (y := nI (4 + c - 1)) (pk_sub (a := 4 + c) (b := 1) (by omega)) ?_
                      refine lv_imul (pc := 176) hx hb dX10_aesKey_176 ?_
                      refine q_top (y := nI (4 * (4 + c - 1))) (pk_mul 4 (4 + c - 1)) ?_
                      refine lv_iload (pc := 177) hx hb dX10_aesKey_177 (lv_at hl 0 rfl) ?_
                      refine lv_iadd (pc := 179) hx hb dX10_aesKey_179 ?_
                      refine q_top (y := nI (4 * (4 + c - 1) + d)) (nI_add (4 * (4 + c - 1)) d) ?_
                      refine q_bald (pc := 180) hx hb hK hP 2 2 rfl rfl (k := 4 * (4 + c - 1) + d) (v := qs (d' (4 * (4 + c - 1) + d))) rfl (by omega) (by omega) rfl dX10_aesKey_180 ?_
                      refine lv_istore (pc := 181) (lv' := [(8, .int (qs (d' (4 * (4 + c - 1) + d)))), (7, .int (nI d)), (6, .int (nI (4 + c))), (5, .int (qz k1)), (4, .int (nI 4)), (0, .ref h0), (1, .ref hk), (2, .int (nI fr)), (3, .int (nI 16))]) hx hb dX10_aesKey_181 hl (by decide) rfl (fun ls hl => ?_)
                      refine lv_aload_n (pc := 183) hx hb dX10_aesKey_183 rfl (lv_at hl 5 rfl) ?_
                      refine va_get (pc := 184) (D := D) (ci := 8) (v := .ref (a 16)) (C := RX10) (T := TX10) (N := 57) hx hb hts iu10 hown hK hP 0 rfl rfl 16 (by decide) (hts _ tw_1061) (fun _ h9 => h9) rfl dX10_aesKey_184 ?_
                      refine lv_iconst (pc := 187) (v := nI 4) hx hb dX10_aesKey_187 (by decide +kernel) ?_
                      refine lv_iload (pc := 188) hx hb dX10_aesKey_188 (lv_at hl 2 rfl) ?_
                      refine lv_imul (pc := 190) hx hb dX10_aesKey_190 ?_
                      refine q_top (y := nI (4 * (4 + c))) (pk_mul 4 (4 + c)) ?_
                      refine lv_iload (pc := 191) hx hb dX10_aesKey_191 (lv_at hl 1 rfl) ?_
                      refine lv_iadd (pc := 193) hx hb dX10_aesKey_193 ?_
                      refine q_top (y := nI (4 * (4 + c) + d)) (nI_add (4 * (4 + c)) d) ?_
                      refine lv_aload_n (pc := 194) hx hb dX10_aesKey_194 rfl (lv_at hl 5 rfl) ?_
                      refine va_get (pc := 195) (D := D) (ci := 8) (v := .ref (a 16)) (C := RX10) (T := TX10) (N := 57) hx hb hts iu10 hown hK hP 0 rfl rfl 16 (by decide) (hts _ tw_1061) (fun _ h9 => h9) rfl dX10_aesKey_195 ?_
                      refine lv_iconst (pc := 198) (v := nI 4) hx hb dX10_aesKey_198 (by decide +kernel) ?_
                      refine lv_iload (pc := 199) hx hb dX10_aesKey_199 (lv_at hl 2 rfl) ?_
                      refine lv_iload (pc := 201) hx hb dX10_aesKey_201 (lv_at hl 4 rfl) ?_
                      refine lv_isub (pc := 203) hx hb dX10_aesKey_203 ?_
                      refine q_top (y := nI (4 + c - 4)) (pk_sub (a := 4 + c) (b := 4) (by omega)) ?_
                      refine lv_imul (pc := 204) hx hb dX10_aesKey_204 ?_
                      refine q_top (y := nI (4 * (4 + c - 4))) (pk_mul 4 (4 + c - 4)) ?_
                      refine lv_iload (pc := 205) hx hb dX10_aesKey_205 (lv_at hl 1 rfl) ?_
                      refine lv_iadd (pc := 207) hx hb dX10_aesKey_207 ?_
                      refine q_top (y := nI (4 * (4 + c - 4) + d)) (nI_add (4 * (4 + c - 4)) d) ?_
                      refine q_bald (pc := 208) hx hb hK hP 2 2 rfl rfl (k := 4 * (4 + c - 4) + d) (v := qs (d' (4 * (4 + c - 4) + d))) rfl (by omega) (by omega) rfl dX10_aesKey_208 ?_
                      refine lv_iload (pc := 209) hx hb dX10_aesKey_209 (lv_at hl 0 rfl) ?_
                      refine lv_ixor (pc := 211) hx hb dX10_aesKey_211 ?_
                      refine q_top (y := qs ((d' (4 * (4 + c - 4) + d)) ^^^ (d' (4 * (4 + c - 1) + d)))) (q_xor_s _ _) ?_
                      refine lv_i2b (pc := 212) (v := qs ((d' (4 * (4 + c - 4) + d)) ^^^ (d' (4 * (4 + c - 1) + d)))) hx hb dX10_aesKey_212 (q_i2b_s _) ?_
                      refine q_bastS (pc := 213) hx hb hK hP hD hS 2 2 rfl rfl (k := 4 * (4 + c) + d) rfl (by omega) (by omega) (b := (d' (4 * (4 + c - 4) + d)) ^^^ (d' (4 * (4 + c - 1) + d))) (qlo_qs _) dX10_aesKey_213 (fun H locs hP hD hS => ?_)
                      have hP : va_P D vwCl [(h0, oM a 10 mn tp osz lsz ns ct), (a 8, aZ ta 256 BOX), (a 16, aS ta 240 (qU d' (4 * (4 + c) + d) ((d' (4 * (4 + c - 4) + d)) ^^^ (d' (4 * (4 + c - 1) + d))))), (hk, aS ta capk gk)] H := hP
                      have hD : va_D A [(h0, oM a 10 mn tp osz lsz ns ct), (a 8, aZ ta 256 BOX), (a 16, aS ta 240 (qU d' (4 * (4 + c) + d) ((d' (4 * (4 + c - 4) + d)) ^^^ (d' (4 * (4 + c - 1) + d))))), (hk, aS ta capk gk)] := hD
                      refine lv_iinc (pc := 214) (v := nI (d + 1)) (lv' := [(7, .int (nI (d + 1))), (8, .int (qs (d' (4 * (4 + c - 1) + d)))), (6, .int (nI (4 + c))), (5, .int (qz k1)), (4, .int (nI 4)), (0, .ref h0), (1, .ref hk), (2, .int (nI fr)), (3, .int (nI 16))]) hx hb dX10_aesKey_214 hl (k := 1) rfl (by first | exact nI_add d 1 | rfl) (by decide) rfl (fun ls hl => ?_)
                      refine lv_goto (pc := 217) (tgt := 65) hx hb dX10_aesKey_217 (by decide) ?_
                      have hold : ∀ j, j < 4 * (4 + c) → d' j = aKey (fun j => gk (fr + j)) 4 c j := by
                        intro j hj
                        rw [hs2 j (by omega), aKey_old (by omega)]
                      exact ih65 (d + 1) (qU d' (4 * (4 + c) + d) ((d' (4 * (4 + c - 4) + d)) ^^^ (d' (4 * (4 + c - 1) + d)))) (by omega) (by
                            intro j hj
                            rcases Nat.lt_or_ge j (4 * (4 + c) + d) with q | q
                            · rw [qU_ne (by omega)]
                              exact hs2 j q
                            · obtain rfl : j = 4 * (4 + c) + d := by omega
                              rw [qU_same]
                              simp only [aKey, show (4 * (4 + c) + d) / 4 = 4 + c by omega, show (4 * (4 + c) + d) % 4 = d by omega, if_pos, qlo_xor, qlo_qs, qlo_qz, show 4 * (4 + c - 4) + d = 4 * c + d by omega]
                              rw [hold _ (by omega), hold _ (by omega)]
                              first | rw [if_pos h76, if_pos h108, hk1] | rw [if_pos h76, if_neg h108] | rw [if_neg h76, if_neg (by omega)]) (by omega) _ _ (hP.sub [0, 1, 2, 3] rfl) (hD.sub [0, 1, 2, 3] (by decide) rfl) hS ls (lv_sub hl [0, 2, 3, 4, 5, 6, 7, 8] rfl)
                    · skip
                      rw [q_eq0 (by omega)] at c_6
                      have h76 := c_6
                      refine lv_aload_n (pc := 79) hx hb dX10_aesKey_79 rfl (lv_at hl 4 rfl) ?_
                      refine va_get (pc := 80) (D := D) (ci := 8) (v := .ref (a 8)) (C := RX10) (T := TX10) (N := 57) hx hb hts iu10 hown hK hP 0 rfl rfl 8 (by decide) (hts _ tw_1053) (fun _ h9 => h9) rfl dX10_aesKey_80 ?_
                      refine lv_aload_n (pc := 83) hx hb dX10_aesKey_83 rfl (lv_at hl 4 rfl) ?_
                      refine va_get (pc := 84) (D := D) (ci := 8) (v := .ref (a 16)) (C := RX10) (T := TX10) (N := 57) hx hb hts iu10 hown hK hP 0 rfl rfl 16 (by decide) (hts _ tw_1061) (fun _ h9 => h9) rfl dX10_aesKey_84 ?_
                      refine lv_iconst (pc := 87) (v := nI 4) hx hb dX10_aesKey_87 (by decide +kernel) ?_
                      refine lv_iload (pc := 88) hx hb dX10_aesKey_88 (lv_at hl 1 rfl) ?_
                      refine lv_iconst (pc := 90) (v := nI 1) hx hb dX10_aesKey_90 (by decide +kernel) ?_
                      refine lv_isub (pc := 91) hx hb dX10_aesKey_91 ?_
                      refine q_top (y := nI (4 + c - 1)) (pk_sub (a := 4 + c) (b := 1) (by omega)) ?_
                      refine lv_imul (pc := 92) hx hb dX10_aesKey_92 ?_
                      refine q_top (y := nI (4 * (4 + c - 1))) (pk_mul 4 (4 + c - 1)) ?_
                      refine lv_iload (pc := 93) hx hb dX10_aesKey_93 (lv_at hl 0 rfl) ?_
                      refine lv_iconst (pc := 95) (v := nI 1) hx hb dX10_aesKey_95 (by decide +kernel) ?_
                      refine lv_iadd (pc := 96) hx hb dX10_aesKey_96 ?_
                      refine q_top (y := nI (d + 1)) (nI_add d 1) ?_
                      refine lv_iconst (pc := 97) (v := nI 4) hx hb dX10_aesKey_97 (by decide +kernel) ?_
                      refine lv_irem (pc := 98) hx hb dX10_aesKey_98 (q_ne0 (by omega) (by omega)) ?_
                      refine q_top (y := nI ((d + 1) % 4)) (pk_rem (by omega) (by omega) (by omega)) ?_
                      refine lv_iadd (pc := 99) hx hb dX10_aesKey_99 ?_
                      refine q_top (y := nI (4 * (4 + c - 1) + ((d + 1) % 4))) (nI_add (4 * (4 + c - 1)) ((d + 1) % 4)) ?_
                      refine q_bald (pc := 100) hx hb hK hP 2 2 rfl rfl (k := 4 * (4 + c - 1) + ((d + 1) % 4)) (v := qs (d' (4 * (4 + c - 1) + ((d + 1) % 4)))) rfl (by omega) (by omega) rfl dX10_aesKey_100 ?_
                      refine lv_sipush (pc := 101) (v := nI 255) hx hb dX10_aesKey_101 (by decide +kernel) ?_
                      refine lv_iand (pc := 104) hx hb dX10_aesKey_104 ?_
                      refine q_top (y := qz (d' (4 * (4 + c - 1) + ((d + 1) % 4)))) ((q_m255 _).trans (congrArg qz (qlo_qs _))) ?_
                      refine q_iald (pc := 105) hx hb hK hP 1 0 rfl rfl (k := (d' (4 * (4 + c - 1) + ((d + 1) % 4))).toNat) (v := qz (BOX ((d' (4 * (4 + c - 1) + ((d + 1) % 4))).toNat))) (qz_nat _) (BitVec.isLt _) (by omega) rfl dX10_aesKey_105 ?_
                      refine lv_iload (pc := 106) hx hb dX10_aesKey_106 (lv_at hl 0 rfl) ?_
                      refine lv_if_ne (pc := 108) (tgt := 116) hx hb dX10_aesKey_108 (by decide) (fun c_8 => ?_) (fun c_8 => ?_)
                      · skip
                        rw [q_eq0 (by omega)] at c_8
                        have h108 := c_8
                        refine lv_iconst (pc := 116) (v := nI 0) hx hb dX10_aesKey_116 (by decide +kernel) ?_
                        refine q_top (y := qz 0#8) rfl ?_
                        refine lv_ixor (pc := 117) hx hb dX10_aesKey_117 ?_
                        refine q_top (y := qz ((BOX ((d' (4 * (4 + c - 1) + ((d + 1) % 4))).toNat)) ^^^ (0#8))) (q_xor_z _ _) ?_
                        refine lv_istore (pc := 118) (lv' := [(8, .int (qz ((BOX ((d' (4 * (4 + c - 1) + ((d + 1) % 4))).toNat)) ^^^ (0#8)))), (7, .int (nI d)), (6, .int (nI (4 + c))), (5, .int (qz k1)), (4, .int (nI 4)), (0, .ref h0), (1, .ref hk), (2, .int (nI fr)), (3, .int (nI 16))]) hx hb dX10_aesKey_118 hl (by decide) rfl (fun ls hl => ?_)
                        refine lv_goto (pc := 120) (tgt := 183) hx hb dX10_aesKey_120 (by decide) ?_
                        refine lv_aload_n (pc := 183) hx hb dX10_aesKey_183 rfl (lv_at hl 5 rfl) ?_
                        refine va_get (pc := 184) (D := D) (ci := 8) (v := .ref (a 16)) (C := RX10) (T := TX10) (N := 57) hx hb hts iu10 hown hK hP 0 rfl rfl 16 (by decide) (hts _ tw_1061) (fun _ h9 => h9) rfl dX10_aesKey_184 ?_
                        refine lv_iconst (pc := 187) (v := nI 4) hx hb dX10_aesKey_187 (by decide +kernel) ?_
                        refine lv_iload (pc := 188) hx hb dX10_aesKey_188 (lv_at hl 2 rfl) ?_
                        refine lv_imul (pc := 190) hx hb dX10_aesKey_190 ?_
                        refine q_top (y := nI (4 * (4 + c))) (pk_mul 4 (4 + c)) ?_
                        refine lv_iload (pc := 191) hx hb dX10_aesKey_191 (lv_at hl 1 rfl) ?_
                        refine lv_iadd (pc := 193) hx hb dX10_aesKey_193 ?_
                        refine q_top (y := nI (4 * (4 + c) + d)) (nI_add (4 * (4 + c)) d) ?_
                        refine lv_aload_n (pc := 194) hx hb dX10_aesKey_194 rfl (lv_at hl 5 rfl) ?_
                        refine va_get (pc := 195) (D := D) (ci := 8) (v := .ref (a 16)) (C := RX10) (T := TX10) (N := 57) hx hb hts iu10 hown hK hP 0 rfl rfl 16 (by decide) (hts _ tw_1061) (fun _ h9 => h9) rfl dX10_aesKey_195 ?_
                        refine lv_iconst (pc := 198) (v := nI 4) hx hb dX10_aesKey_198 (by decide +kernel) ?_
                        refine lv_iload (pc := 199) hx hb dX10_aesKey_199 (lv_at hl 2 rfl) ?_
                        refine lv_iload (pc := 201) hx hb dX10_aesKey_201 (lv_at hl 4 rfl) ?_
                        refine lv_isub (pc := 203) hx hb dX10_aesKey_203 ?_
                        refine q_top (y := nI (4 + c - 4)) (pk_sub (a := 4 + c) (b := 4) (by omega)) ?_
                        refine lv_imul (pc := 204) hx hb dX10_aesKey_204 ?_
                        refine q_top (y := nI (4 * (4 + c - 4))) (pk_mul 4 (4 + c - 4)) ?_
                        refine lv_iload (pc := 205) hx hb dX10_aesKey_205 (lv_at hl 1 rfl) ?_
                        refine lv_iadd (pc := 207) hx hb dX10_aesKey_207 ?_
                        refine q_top (y := nI (4 * (4 + c - 4) + d)) (nI_add (4 * (4 + c - 4)) d) ?_
                        refine q_bald (pc := 208) hx hb hK hP 2 2 rfl rfl (k := 4 * (4 + c - 4) + d) (v := qs (d' (4 * (4 + c - 4) + d))) rfl (by omega) (by omega) rfl dX10_aesKey_208 ?_
                        refine lv_iload (pc := 209) hx hb dX10_aesKey_209 (lv_at hl 0 rfl) ?_
                        refine lv_ixor (pc := 211) hx hb dX10_aesKey_211 ?_
                        refine lv_i2b (pc := 212) (v := qs (qlo ((qs (d' (4 * (4 + c - 4) + d))) ^^^ (qz ((BOX ((d' (4 * (4 + c - 1) + ((d + 1) % 4))).toNat)) ^^^ (0#8)))))) hx hb dX10_aesKey_212 (q_i2b _) ?_
                        refine q_bastS (pc := 213) hx hb hK hP hD hS 2 2 rfl rfl (k := 4 * (4 + c) + d) rfl (by omega) (by omega) (b := qlo ((qs (d' (4 * (4 + c - 4) + d))) ^^^ (qz ((BOX ((d' (4 * (4 + c - 1) + ((d + 1) % 4))).toNat)) ^^^ (0#8))))) (qlo_qs _) dX10_aesKey_213 (fun H locs hP hD hS => ?_)
                        have hP : va_P D vwCl [(h0, oM a 10 mn tp osz lsz ns ct), (a 8, aZ ta 256 BOX), (a 16, aS ta 240 (qU d' (4 * (4 + c) + d) (qlo ((qs (d' (4 * (4 + c - 4) + d))) ^^^ (qz ((BOX ((d' (4 * (4 + c - 1) + ((d + 1) % 4))).toNat)) ^^^ (0#8))))))), (hk, aS ta capk gk)] H := hP
                        have hD : va_D A [(h0, oM a 10 mn tp osz lsz ns ct), (a 8, aZ ta 256 BOX), (a 16, aS ta 240 (qU d' (4 * (4 + c) + d) (qlo ((qs (d' (4 * (4 + c - 4) + d))) ^^^ (qz ((BOX ((d' (4 * (4 + c - 1) + ((d + 1) % 4))).toNat)) ^^^ (0#8))))))), (hk, aS ta capk gk)] := hD
                        refine lv_iinc (pc := 214) (v := nI (d + 1)) (lv' := [(7, .int (nI (d + 1))), (8, .int (qz ((BOX ((d' (4 * (4 + c - 1) + ((d + 1) % 4))).toNat)) ^^^ (0#8)))), (6, .int (nI (4 + c))), (5, .int (qz k1)), (4, .int (nI 4)), (0, .ref h0), (1, .ref hk), (2, .int (nI fr)), (3, .int (nI 16))]) hx hb dX10_aesKey_214 hl (k := 1) rfl (by first | exact nI_add d 1 | rfl) (by decide) rfl (fun ls hl => ?_)
                        refine lv_goto (pc := 217) (tgt := 65) hx hb dX10_aesKey_217 (by decide) ?_
                        have hold : ∀ j, j < 4 * (4 + c) → d' j = aKey (fun j => gk (fr + j)) 4 c j := by
                          intro j hj
                          rw [hs2 j (by omega), aKey_old (by omega)]
                        exact ih65 (d + 1) (qU d' (4 * (4 + c) + d) (qlo ((qs (d' (4 * (4 + c - 4) + d))) ^^^ (qz ((BOX ((d' (4 * (4 + c - 1) + ((d + 1) % 4))).toNat)) ^^^ (0#8)))))) (by omega) (by
                              intro j hj
                              rcases Nat.lt_or_ge j (4 * (4 + c) + d) with q | q
                              · rw [qU_ne (by omega)]
                                exact hs2 j q
                              · obtain rfl : j = 4 * (4 + c) + d := by omega
                                rw [qU_same]
                                simp only [aKey, show (4 * (4 + c) + d) / 4 = 4 + c by omega, show (4 * (4 + c) + d) % 4 = d by omega, if_pos, qlo_xor, qlo_qs, qlo_qz, show 4 * (4 + c - 4) + d = 4 * c + d by omega]
                                rw [hold _ (by omega), hold _ (by omega)]
                                first | rw [if_pos h76, if_pos h108, hk1] | rw [if_pos h76, if_neg h108] | rw [if_neg h76, if_neg (by omega)]) (by omega) _ _ (hP.sub [0, 1, 2, 3] rfl) (hD.sub [0, 1, 2, 3] (by decide) rfl) hS ls (lv_sub hl [0, 2, 3, 4, 5, 6, 7, 8] rfl)
                      · skip
                        rw [q_eq0 (by omega)] at c_8
                        have h108 := c_8
                        refine lv_iload (pc := 111) hx hb dX10_aesKey_111 (lv_at hl 2 rfl) ?_
                        refine lv_goto (pc := 113) (tgt := 117) hx hb dX10_aesKey_113 (by decide) ?_
                        refine lv_ixor (pc := 117) hx hb dX10_aesKey_117 ?_
                        refine q_top (y := qz ((BOX ((d' (4 * (4 + c - 1) + ((d + 1) % 4))).toNat)) ^^^ k1)) (q_xor_z _ _) ?_
                        refine lv_istore (pc := 118) (lv' := [(8, .int (qz ((BOX ((d' (4 * (4 + c - 1) + ((d + 1) % 4))).toNat)) ^^^ k1))), (7, .int (nI d)), (6, .int (nI (4 + c))), (5, .int (qz k1)), (4, .int (nI 4)), (0, .ref h0), (1, .ref hk), (2, .int (nI fr)), (3, .int (nI 16))]) hx hb dX10_aesKey_118 hl (by decide) rfl (fun ls hl => ?_)
                        refine lv_goto (pc := 120) (tgt := 183) hx hb dX10_aesKey_120 (by decide) ?_
                        refine lv_aload_n (pc := 183) hx hb dX10_aesKey_183 rfl (lv_at hl 5 rfl) ?_
                        refine va_get (pc := 184) (D := D) (ci := 8) (v := .ref (a 16)) (C := RX10) (T := TX10) (N := 57) hx hb hts iu10 hown hK hP 0 rfl rfl 16 (by decide) (hts _ tw_1061) (fun _ h9 => h9) rfl dX10_aesKey_184 ?_
                        refine lv_iconst (pc := 187) (v := nI 4) hx hb dX10_aesKey_187 (by decide +kernel) ?_
                        refine lv_iload (pc := 188) hx hb dX10_aesKey_188 (lv_at hl 2 rfl) ?_
                        refine lv_imul (pc := 190) hx hb dX10_aesKey_190 ?_
                        refine q_top (y := nI (4 * (4 + c))) (pk_mul 4 (4 + c)) ?_
                        refine lv_iload (pc := 191) hx hb dX10_aesKey_191 (lv_at hl 1 rfl) ?_
                        refine lv_iadd (pc := 193) hx hb dX10_aesKey_193 ?_
                        refine q_top (y := nI (4 * (4 + c) + d)) (nI_add (4 * (4 + c)) d) ?_
                        refine lv_aload_n (pc := 194) hx hb dX10_aesKey_194 rfl (lv_at hl 5 rfl) ?_
                        refine va_get (pc := 195) (D := D) (ci := 8) (v := .ref (a 16)) (C := RX10) (T := TX10) (N := 57) hx hb hts iu10 hown hK hP 0 rfl rfl 16 (by decide) (hts _ tw_1061) (fun _ h9 => h9) rfl dX10_aesKey_195 ?_
                        refine lv_iconst (pc := 198) (v := nI 4) hx hb dX10_aesKey_198 (by decide +kernel) ?_
                        refine lv_iload (pc := 199) hx hb dX10_aesKey_199 (lv_at hl 2 rfl) ?_
                        refine lv_iload (pc := 201) hx hb dX10_aesKey_201 (lv_at hl 4 rfl) ?_
                        refine lv_isub (pc := 203) hx hb dX10_aesKey_203 ?_
                        refine q_top (y := nI (4 + c - 4)) (pk_sub (a := 4 + c) (b := 4) (by omega)) ?_
                        refine lv_imul (pc := 204) hx hb dX10_aesKey_204 ?_
                        refine q_top (y := nI (4 * (4 + c - 4))) (pk_mul 4 (4 + c - 4)) ?_
                        refine lv_iload (pc := 205) hx hb dX10_aesKey_205 (lv_at hl 1 rfl) ?_
                        refine lv_iadd (pc := 207) hx hb dX10_aesKey_207 ?_
                        refine q_top (y := nI (4 * (4 + c - 4) + d)) (nI_add (4 * (4 + c - 4)) d) ?_
                        refine q_bald (pc := 208) hx hb hK hP 2 2 rfl rfl (k := 4 * (4 + c - 4) + d) (v := qs (d' (4 * (4 + c - 4) + d))) rfl (by omega) (by omega) rfl dX10_aesKey_208 ?_
                        refine lv_iload (pc := 209) hx hb dX10_aesKey_209 (lv_at hl 0 rfl) ?_
                        refine lv_ixor (pc := 211) hx hb dX10_aesKey_211 ?_
                        refine lv_i2b (pc := 212) (v := qs (qlo ((qs (d' (4 * (4 + c - 4) + d))) ^^^ (qz ((BOX ((d' (4 * (4 + c - 1) + ((d + 1) % 4))).toNat)) ^^^ k1))))) hx hb dX10_aesKey_212 (q_i2b _) ?_
                        refine q_bastS (pc := 213) hx hb hK hP hD hS 2 2 rfl rfl (k := 4 * (4 + c) + d) rfl (by omega) (by omega) (b := qlo ((qs (d' (4 * (4 + c - 4) + d))) ^^^ (qz ((BOX ((d' (4 * (4 + c - 1) + ((d + 1) % 4))).toNat)) ^^^ k1)))) (qlo_qs _) dX10_aesKey_213 (fun H locs hP hD hS => ?_)
                        have hP : va_P D vwCl [(h0, oM a 10 mn tp osz lsz ns ct), (a 8, aZ ta 256 BOX), (a 16, aS ta 240 (qU d' (4 * (4 + c) + d) (qlo ((qs (d' (4 * (4 + c - 4) + d))) ^^^ (qz ((BOX ((d' (4 * (4 + c - 1) + ((d + 1) % 4))).toNat)) ^^^ k1)))))), (hk, aS ta capk gk)] H := hP
                        have hD : va_D A [(h0, oM a 10 mn tp osz lsz ns ct), (a 8, aZ ta 256 BOX), (a 16, aS ta 240 (qU d' (4 * (4 + c) + d) (qlo ((qs (d' (4 * (4 + c - 4) + d))) ^^^ (qz ((BOX ((d' (4 * (4 + c - 1) + ((d + 1) % 4))).toNat)) ^^^ k1)))))), (hk, aS ta capk gk)] := hD
                        refine lv_iinc (pc := 214) (v := nI (d + 1)) (lv' := [(7, .int (nI (d + 1))), (8, .int (qz ((BOX ((d' (4 * (4 + c - 1) + ((d + 1) % 4))).toNat)) ^^^ k1))), (6, .int (nI (4 + c))), (5, .int (qz k1)), (4, .int (nI 4)), (0, .ref h0), (1, .ref hk), (2, .int (nI fr)), (3, .int (nI 16))]) hx hb dX10_aesKey_214 hl (k := 1) rfl (by first | exact nI_add d 1 | rfl) (by decide) rfl (fun ls hl => ?_)
                        refine lv_goto (pc := 217) (tgt := 65) hx hb dX10_aesKey_217 (by decide) ?_
                        have hold : ∀ j, j < 4 * (4 + c) → d' j = aKey (fun j => gk (fr + j)) 4 c j := by
                          intro j hj
                          rw [hs2 j (by omega), aKey_old (by omega)]
                        exact ih65 (d + 1) (qU d' (4 * (4 + c) + d) (qlo ((qs (d' (4 * (4 + c - 4) + d))) ^^^ (qz ((BOX ((d' (4 * (4 + c - 1) + ((d + 1) % 4))).toNat)) ^^^ k1))))) (by omega) (by
                              intro j hj
                              rcases Nat.lt_or_ge j (4 * (4 + c) + d) with q | q
                              · rw [qU_ne (by omega)]
                                exact hs2 j q
                              · obtain rfl : j = 4 * (4 + c) + d := by omega
                                rw [qU_same]
                                simp only [aKey, show (4 * (4 + c) + d) / 4 = 4 + c by omega, show (4 * (4 + c) + d) % 4 = d by omega, if_pos, qlo_xor, qlo_qs, qlo_qz, show 4 * (4 + c - 4) + d = 4 * c + d by omega]
                                rw [hold _ (by omega), hold _ (by omega)]
                                first | rw [if_pos h76, if_pos h108, hk1] | rw [if_pos h76, if_neg h108] | rw [if_neg h76, if_neg (by omega)]) (by omega) _ _ (hP.sub [0, 1, 2, 3] rfl) (hD.sub [0, 1, 2, 3] (by decide) rfl) hS ls (lv_sub hl [0, 2, 3, 4, 5, 6, 7, 8] rfl)
              exact LP65 _ 0 r' (by omega) (by intro j hj; rw [hs1 j (by omega), aKey_old (by omega)]) (Nat.lt_succ_self _) _ _ (hP.sub [0, 1, 2, 3] rfl) (hD.sub [0, 1, 2, 3] (by decide) rfl) hS ls (lv_sub hl [0, 1, 2, 3, 4, 5, 6, 7] rfl)
        exact LP49 _ 0 (1#8) g' (by omega) (rfl) (by intro j hj; exact qSeg_at hs (by omega)) (Nat.lt_succ_self _) _ _ (hP.sub [0, 1, 2, 3] rfl) (hD.sub [0, 1, 2, 3] (by decide) rfl) hS ls (lv_sub hl [0, 1, 2, 3, 4, 5, 6] rfl)
      · skip
        rw [nI_leI (by omega) (by omega)] at c_1
        refine lv_aload_n (pc := 26) hx hb dX10_aesKey_26 rfl (lv_at hl 3 rfl) ?_
        refine va_get (pc := 27) (D := D) (ci := 8) (v := .ref (a 16)) (C := RX10) (T := TX10) (N := 57) hx hb hts iu10 hown hK hP 0 rfl rfl 16 (by decide) (hts _ tw_1061) (fun _ h9 => h9) rfl dX10_aesKey_27 ?_
        refine lv_iload (pc := 30) hx hb dX10_aesKey_30 (lv_at hl 0 rfl) ?_
        refine lv_aload_n (pc := 32) hx hb dX10_aesKey_32 rfl (lv_at hl 4 rfl) ?_
        refine lv_iload_n (pc := 33) hx hb dX10_aesKey_33 rfl (lv_at hl 5 rfl) ?_
        refine lv_iload (pc := 34) hx hb dX10_aesKey_34 (lv_at hl 0 rfl) ?_
        refine lv_iadd (pc := 36) hx hb dX10_aesKey_36 ?_
        refine q_top (y := nI (fr + k)) (nI_add fr k) ?_
        refine q_bald (pc := 37) hx hb hK hP 3 2 rfl rfl (k := fr + k) (v := qs (gk (fr + k))) rfl (by omega) (by omega) rfl dX10_aesKey_37 ?_
        refine q_bastS (pc := 38) hx hb hK hP hD hS 2 2 rfl rfl (k := k) rfl (by omega) (by omega) (b := gk (fr + k)) (qlo_qs _) dX10_aesKey_38 (fun H locs hP hD hS => ?_)
        have hP : va_P D vwCl [(h0, oM a 10 mn tp osz lsz ns ct), (a 8, aZ ta 256 BOX), (a 16, aS ta 240 (qU g' k (gk (fr + k)))), (hk, aS ta capk gk)] H := hP
        have hD : va_D A [(h0, oM a 10 mn tp osz lsz ns ct), (a 8, aZ ta 256 BOX), (a 16, aS ta 240 (qU g' k (gk (fr + k)))), (hk, aS ta capk gk)] := hD
        refine lv_iinc (pc := 39) (v := nI (k + 1)) (lv' := [(6, .int (nI (k + 1))), (5, .int (qz (1#8))), (4, .int (nI 4)), (0, .ref h0), (1, .ref hk), (2, .int (nI fr)), (3, .int (nI 16))]) hx hb dX10_aesKey_39 hl (k := 0) rfl (by first | exact nI_add k 1 | rfl) (by decide) rfl (fun ls hl => ?_)
        refine lv_goto (pc := 42) (tgt := 20) hx hb dX10_aesKey_42 (by decide) ?_
        exact ih20 (k + 1) (qU g' k (gk (fr + k))) (by omega) (qSeg_s hs (by omega) rfl) (by omega) _ _ (hP.sub [0, 1, 2, 3] rfl) (hD.sub [0, 1, 2, 3] (by decide) rfl) hS ls (lv_sub hl [0, 1, 2, 3, 4, 5, 6] rfl)
  exact LP20 _ 0 rk (by omega) (qSeg_0) (Nat.lt_succ_self _) _ _ (hP.sub [0, 1, 2, 3] rfl) (hD.sub [0, 1, 2, 3] (by decide) rfl) hS ls (lv_sub hl [0, 1, 2, 3, 4, 5, 6] rfl)
set_option maxHeartbeats 4000000 in
set_option maxRecDepth 100000 in
theorem ct_X10_aesKey_6 (ll : Launch) (D : va_G) (ta : Nat → ClassId) {G : (Nat → Prop) → State → Heap → Prop} (hGok : GOK G) (h0 : Nat) (a : Nat → Nat) (ar : Nat) (mn : Nat) (tp : Nat) (osz : Nat) (lsz : Nat) (ns : Nat) (ct : Nat) (hk : Nat) (fr : Nat) (capk : Nat) (gk : Nat → BitVec 8) (rk : Nat → BitVec 8) (hf : fr + 24 ≤ capk) (hck : capk < 2147483648) (sz : Nat) : CT ll yX10_aesKey cX10_aesKey 9 none ({ frames := 1, cells := 0, slots := 0, locals := 20 } : Room) D ta G [.ref h0, .ref hk, .int (nI fr), .int (nI 24)] [(h0, oM a ar mn tp osz lsz ns ct), (a 8, aZ ta 256 BOX), (a 16, aS ta 240 rk), (hk, aS ta capk gk)] sz (S := (Nat → BitVec 8)) (fun _ => none) (fun u => (∀ j, j < 16 * (6 + 6 + 1) → u j = aKey (fun j => gk (fr + j)) 6 (4 * (6 + 6 + 1) - 6) j)) (fun u => [(h0, oM a 12 mn tp osz lsz ns ct), (a 8, aZ ta 256 BOX), (a 16, aS ta 240 u), (hk, aS ta capk gk)]) 0 0 := by
  refine CT.of_v rfl (by decide) (Nat.le_of_ble_eq_true rfl) ?_
  intro pp ee ss mm below meth kc A Q hx hb hml hown hin hts hK hA hsz hG hret H locs hP hD hS ls hl
  have hl : lv_has ls 9 [(0, .ref h0), (1, .ref hk), (2, .int (nI fr)), (3, .int (nI 24))] := hl
  refine lv_iload_n (pc := 0) hx hb dX10_aesKey_0 rfl (lv_at hl 3 rfl) ?_
  refine lv_iconst (pc := 1) (v := nI 4) hx hb dX10_aesKey_1 (by decide +kernel) ?_
  refine lv_idiv (pc := 2) hx hb dX10_aesKey_2 (q_ne0 (by omega) (by omega)) ?_
  refine q_top (y := nI (24 / 4)) (pk_div (by omega) (by omega) (by omega)) ?_
  refine q_top (y := nI 6) (by decide) ?_
  refine lv_istore (pc := 3) (lv' := [(4, .int (nI 6)), (0, .ref h0), (1, .ref hk), (2, .int (nI fr)), (3, .int (nI 24))]) hx hb dX10_aesKey_3 hl (by decide) rfl (fun ls hl => ?_)
  refine lv_aload_n (pc := 5) hx hb dX10_aesKey_5 rfl (lv_at hl 1 rfl) ?_
  refine lv_iload (pc := 6) hx hb dX10_aesKey_6 (lv_at hl 0 rfl) ?_
  refine lv_bipush (pc := 8) (v := nI 6) hx hb dX10_aesKey_8 (by decide +kernel) ?_
  refine lv_iadd (pc := 10) hx hb dX10_aesKey_10 ?_
  refine q_top (y := nI 12) (by decide +kernel) ?_
  refine va_put (pc := 11) (D := D) (ci := 8) (v := .int (nI 12)) (ty := .int) (C := RX10) (T := TX10) (N := 57) hx hb hts iu10 tyX10 tyX10_ok nmX10 hown hK hP hD hS 0 rfl rfl 17 (by decide) (hts _ tw_1062) (fun _ h9 => h9) rfl (by decide +kernel) rfl rfl (Nat.le_of_ble_eq_true rfl) dX10_aesKey_11 (fun H locs hP hD hS => ?_)
  have hP : va_P D vwCl [(h0, oM a 12 mn tp osz lsz ns ct), (a 8, aZ ta 256 BOX), (a 16, aS ta 240 rk), (hk, aS ta capk gk)] H := hP
  have hD : va_D A [(h0, oM a 12 mn tp osz lsz ns ct), (a 8, aZ ta 256 BOX), (a 16, aS ta 240 rk), (hk, aS ta capk gk)] := hD
  refine lv_iconst (pc := 14) (v := nI 1) hx hb dX10_aesKey_14 (by decide +kernel) ?_
  refine q_top (y := qz (1#8)) (by decide) ?_
  refine lv_istore (pc := 15) (lv' := [(5, .int (qz (1#8))), (4, .int (nI 6)), (0, .ref h0), (1, .ref hk), (2, .int (nI fr)), (3, .int (nI 24))]) hx hb dX10_aesKey_15 hl (by decide) rfl (fun ls hl => ?_)
  refine lv_iconst (pc := 17) (v := nI 0) hx hb dX10_aesKey_17 (by decide +kernel) ?_
  refine lv_istore (pc := 18) (lv' := [(6, .int (nI 0)), (5, .int (qz (1#8))), (4, .int (nI 6)), (0, .ref h0), (1, .ref hk), (2, .int (nI fr)), (3, .int (nI 24))]) hx hb dX10_aesKey_18 hl (by decide) rfl (fun ls hl => ?_)
  have LP20 : ∀ (nn20 : Nat) (k : Nat) (g' : Nat → BitVec 8), (k ≤ 24) → (qSeg g' rk 0 k (fun j => gk (fr + j))) → (24 - k < nn20) → ∀ (H : Heap) (locs : List Loc), va_P D vwCl [(h0, oM a 12 mn tp osz lsz ns ct), (a 8, aZ ta 256 BOX), (a 16, aS ta 240 g'), (hk, aS ta capk gk)] H → va_D A [(h0, oM a 12 mn tp osz lsz ns ct), (a 8, aZ ta 256 BOX), (a 16, aS ta 240 g'), (hk, aS ta capk gk)] → va_S A ss.heap H locs → ∀ ls : Array Slot, lv_has ls 9 [(6, .int (nI k)), (5, .int (qz (1#8))), (4, .int (nI 6)), (0, .ref h0), (1, .ref hk), (2, .int (nI fr)), (3, .int (nI 24))] → W pp ll ee ({ frames := 1, cells := 0, slots := 0, locals := 20 } : Room) ss mm (([.ref h0, .ref hk, .int (nI fr), .int (nI 24)] : List Value).toArray) below meth kc H locs 0 0 Q (F0 mm 20 ls []) := by
    intro nn20
    induction nn20 with
    | zero => intro k g' hkk hs hmu; exact absurd hmu (Nat.not_lt_zero _)
    | succ nn20 ih20 =>
      intro k g' hkk hs hmu20 H locs hP hD hS ls hl
      refine lv_iload (pc := 20) hx hb dX10_aesKey_20 (lv_at hl 0 rfl) ?_
      refine lv_iload_n (pc := 22) hx hb dX10_aesKey_22 rfl (lv_at hl 6 rfl) ?_
      refine lv_icmp_ge (pc := 23) (tgt := 45) hx hb dX10_aesKey_23 (by decide) (fun c_1 => ?_) (fun c_1 => ?_)
      · skip
        rw [nI_leI (by omega) (by omega)] at c_1
        refine lv_iload (pc := 45) hx hb dX10_aesKey_45 (lv_at hl 2 rfl) ?_
        refine lv_istore (pc := 47) (lv' := [(6, .int (nI 6)), (5, .int (qz (1#8))), (4, .int (nI 6)), (0, .ref h0), (1, .ref hk), (2, .int (nI fr)), (3, .int (nI 24))]) hx hb dX10_aesKey_47 hl (by decide) rfl (fun ls hl => ?_)
        have LP49 : ∀ (nn49 : Nat) (c : Nat) (k1 : BitVec 8) (r' : Nat → BitVec 8), (c ≤ 46) → (k1 = xtn 1#8 ((6 + c - 1) / 6)) → (∀ j, j < 4 * (6 + c) → r' j = aKey (fun j => gk (fr + j)) 6 c j) → (46 - c < nn49) → ∀ (H : Heap) (locs : List Loc), va_P D vwCl [(h0, oM a 12 mn tp osz lsz ns ct), (a 8, aZ ta 256 BOX), (a 16, aS ta 240 r'), (hk, aS ta capk gk)] H → va_D A [(h0, oM a 12 mn tp osz lsz ns ct), (a 8, aZ ta 256 BOX), (a 16, aS ta 240 r'), (hk, aS ta capk gk)] → va_S A ss.heap H locs → ∀ ls : Array Slot, lv_has ls 9 [(6, .int (nI (6 + c))), (5, .int (qz k1)), (4, .int (nI 6)), (0, .ref h0), (1, .ref hk), (2, .int (nI fr)), (3, .int (nI 24))] → W pp ll ee ({ frames := 1, cells := 0, slots := 0, locals := 20 } : Room) ss mm (([.ref h0, .ref hk, .int (nI fr), .int (nI 24)] : List Value).toArray) below meth kc H locs 0 0 Q (F0 mm 49 ls []) := by
          intro nn49
          induction nn49 with
          | zero => intro c k1 r' hcc hk1 hs1 hmu; exact absurd hmu (Nat.not_lt_zero _)
          | succ nn49 ih49 =>
            intro c k1 r' hcc hk1 hs1 hmu49 H locs hP hD hS ls hl
            refine lv_iload (pc := 49) hx hb dX10_aesKey_49 (lv_at hl 0 rfl) ?_
            refine lv_iconst (pc := 51) (v := nI 4) hx hb dX10_aesKey_51 (by decide +kernel) ?_
            refine lv_aload_n (pc := 52) hx hb dX10_aesKey_52 rfl (lv_at hl 3 rfl) ?_
            refine va_get (pc := 53) (D := D) (ci := 8) (v := .int (nI 12)) (C := RX10) (T := TX10) (N := 57) hx hb hts iu10 hown hK hP 0 rfl rfl 17 (by decide) (hts _ tw_1062) (fun _ h9 => h9) rfl dX10_aesKey_53 ?_
            refine lv_iconst (pc := 56) (v := nI 1) hx hb dX10_aesKey_56 (by decide +kernel) ?_
            refine lv_iadd (pc := 57) hx hb dX10_aesKey_57 ?_
            refine q_top (y := nI 13) (by decide +kernel) ?_
            refine lv_imul (pc := 58) hx hb dX10_aesKey_58 ?_
            refine q_top (y := nI 52) (by decide +kernel) ?_
            refine lv_icmp_ge (pc := 59) (tgt := 241) hx hb dX10_aesKey_59 (by decide) (fun c_2 => ?_) (fun c_2 => ?_)
            · skip
              rw [nI_leI (by omega) (by omega)] at c_2
              have hq_3 : (∀ j, j < 16 * (6 + 6 + 1) → r' j = aKey (fun j => gk (fr + j)) 6 (4 * (6 + 6 + 1) - 6) j) := by
                intro j hj; rw [show 4 * (6 + 6 + 1) - 6 = c by omega]; exact hs1 j (by omega)
              exact hret (r') _ _ _ _ dX10_aesKey_241 hq_3 (hP.sub [0, 1, 2, 3] rfl) (hD.sub [0, 1, 2, 3] (by decide) rfl) hS
            · skip
              rw [nI_leI (by omega) (by omega)] at c_2
              refine lv_iconst (pc := 62) (v := nI 0) hx hb dX10_aesKey_62 (by decide +kernel) ?_
              refine lv_istore (pc := 63) (lv' := [(7, .int (nI 0)), (6, .int (nI (6 + c))), (5, .int (qz k1)), (4, .int (nI 6)), (0, .ref h0), (1, .ref hk), (2, .int (nI fr)), (3, .int (nI 24))]) hx hb dX10_aesKey_63 hl (by decide) rfl (fun ls hl => ?_)
              have LP65 : ∀ (nn65 : Nat) (d : Nat) (d' : Nat → BitVec 8), (d ≤ 4) → (∀ j, j < 4 * (6 + c) + d → d' j = aKey (fun j => gk (fr + j)) 6 (c + 1) j) → (4 - d < nn65) → ∀ (H : Heap) (locs : List Loc), va_P D vwCl [(h0, oM a 12 mn tp osz lsz ns ct), (a 8, aZ ta 256 BOX), (a 16, aS ta 240 d'), (hk, aS ta capk gk)] H → va_D A [(h0, oM a 12 mn tp osz lsz ns ct), (a 8, aZ ta 256 BOX), (a 16, aS ta 240 d'), (hk, aS ta capk gk)] → va_S A ss.heap H locs → ∀ ls : Array Slot, lv_has ls 9 [(7, .int (nI d)), (6, .int (nI (6 + c))), (5, .int (qz k1)), (4, .int (nI 6)), (0, .ref h0), (1, .ref hk), (2, .int (nI fr)), (3, .int (nI 24))] → W pp ll ee ({ frames := 1, cells := 0, slots := 0, locals := 20 } : Room) ss mm (([.ref h0, .ref hk, .int (nI fr), .int (nI 24)] : List Value).toArray) below meth kc H locs 0 0 Q (F0 mm 65 ls []) := by
                intro nn65
                induction nn65 with
                | zero => intro d d' hdd hs2 hmu; exact absurd hmu (Nat.not_lt_zero _)
                | succ nn65 ih65 =>
                  intro d d' hdd hs2 hmu65 H locs hP hD hS ls hl
                  refine lv_iload (pc := 65) hx hb dX10_aesKey_65 (lv_at hl 0 rfl) ?_
                  refine lv_iconst (pc := 67) (v := nI 4) hx hb dX10_aesKey_67 (by decide +kernel) ?_
                  refine lv_icmp_ge (pc := 68) (tgt := 220) hx hb dX10_aesKey_68 (by decide) (fun c_4 => ?_) (fun c_4 => ?_)
                  · skip
                    rw [nI_leI (by omega) (by omega)] at c_4
                    refine lv_iload (pc := 220) hx hb dX10_aesKey_220 (lv_at hl 1 rfl) ?_
                    refine lv_iload (pc := 222) hx hb dX10_aesKey_222 (lv_at hl 3 rfl) ?_
                    refine lv_irem (pc := 224) hx hb dX10_aesKey_224 (q_ne0 (by omega) (by omega)) ?_
                    refine q_top (y := nI ((6 + c) % 6)) (pk_rem (by omega) (by omega) (by omega)) ?_
                    refine lv_if_ne (pc := 225) (tgt := 235) hx hb dX10_aesKey_225 (by decide) (fun c_5 => ?_) (fun c_5 => ?_)
                    · skip
                      rw [q_eq0 (by omega)] at c_5
                      refine lv_iinc (pc := 235) (v := nI (6 + c + 1)) (lv' := [(6, .int (nI (6 + c + 1))), (7, .int (nI d)), (5, .int (qz k1)), (4, .int (nI 6)), (0, .ref h0), (1, .ref hk), (2, .int (nI fr)), (3, .int (nI 24))]) hx hb dX10_aesKey_235 hl (k := 1) rfl (by first | exact nI_add (6 + c) 1 | rfl) (by decide) rfl (fun ls hl => ?_)
                      refine lv_goto (pc := 238) (tgt := 49) hx hb dX10_aesKey_238 (by decide) ?_
                      exact ih49 (c + 1) k1 d' (by omega) (by subst hk1; first | (rw [show (6 + (c + 1) - 1) / 6 = (6 + c - 1) / 6 + 1 by omega]; rfl) | (rw [show (6 + (c + 1) - 1) / 6 = (6 + c - 1) / 6 by omega])) (by rw [show 4 * (6 + (c + 1)) = 4 * (6 + c) + d by omega]; exact hs2) (by omega) _ _ (hP.sub [0, 1, 2, 3] rfl) (hD.sub [0, 1, 2, 3] (by decide) rfl) hS ls (lv_sub hl [0, 2, 3, 4, 5, 6, 7] rfl)
                    · skip
                      rw [q_eq0 (by omega)] at c_5
                      refine lv_iload (pc := 228) hx hb dX10_aesKey_228 (lv_at hl 2 rfl) ?_
                      refine cs_S (pc := 230) (idx := 48) (n := 1) (wr := [(h0, oM a 12 mn tp osz lsz ns ct), (a 8, aZ ta 256 BOX), (a 16, aS ta 240 d'), (hk, aS ta capk gk)]) (As := [.int (qz k1)]) (rest := []) hx hb hml hown hts hGok hK hA hG hl.1 hP hD hS (ct_X10_twice ll D ta hGok k1  H.size) tw_1044 tw_1042 tw_1043 tw_75 hdX10_twice rfl ⟨rfl, rfl, Nat.le_of_ble_eq_true rfl, Nat.le_of_ble_eq_true rfl, Nat.le_of_ble_eq_true rfl, Nat.le_of_ble_eq_true rfl⟩ [] [0, 1, 2, 3] rfl rfl (by decide) rfl (Nat.le_of_ble_eq_true rfl) dX10_aesKey_230 (fun u H locs hq hP hD hS => ?_)
                      refine W.eq (g2 := F0 mm 233 ls [.int (qz (xt k1))]) rfl ?_
                      have hP : va_P D vwCl [(h0, oM a 12 mn tp osz lsz ns ct), (a 8, aZ ta 256 BOX), (a 16, aS ta 240 d'), (hk, aS ta capk gk)] H := hP
                      have hD : va_D A [(h0, oM a 12 mn tp osz lsz ns ct), (a 8, aZ ta 256 BOX), (a 16, aS ta 240 d'), (hk, aS ta capk gk)] := hD
                      refine lv_istore (pc := 233) (lv' := [(5, .int (qz (xt k1))), (7, .int (nI d)), (6, .int (nI (6 + c))), (4, .int (nI 6)), (0, .ref h0), (1, .ref hk), (2, .int (nI fr)), (3, .int (nI 24))]) hx hb dX10_aesKey_233 hl (by decide) rfl (fun ls hl => ?_)
                      refine lv_iinc (pc := 235) (v := nI (6 + c + 1)) (lv' := [(6, .int (nI (6 + c + 1))), (5, .int (qz (xt k1))), (7, .int (nI d)), (4, .int (nI 6)), (0, .ref h0), (1, .ref hk), (2, .int (nI fr)), (3, .int (nI 24))]) hx hb dX10_aesKey_235 hl (k := 2) rfl (by first | exact nI_add (6 + c) 1 | rfl) (by decide) rfl (fun ls hl => ?_)
                      refine lv_goto (pc := 238) (tgt := 49) hx hb dX10_aesKey_238 (by decide) ?_
                      exact ih49 (c + 1) (xt k1) d' (by omega) (by subst hk1; first | (rw [show (6 + (c + 1) - 1) / 6 = (6 + c - 1) / 6 + 1 by omega]; rfl) | (rw [show (6 + (c + 1) - 1) / 6 = (6 + c - 1) / 6 by omega])) (by rw [show 4 * (6 + (c + 1)) = 4 * (6 + c) + d by omega]; exact hs2) (by omega) _ _ (hP.sub [0, 1, 2, 3] rfl) (hD.sub [0, 1, 2, 3] (by decide) rfl) hS ls (lv_sub hl [0, 1, 3, 4, 5, 6, 7] rfl)
                  · skip
                    rw [nI_leI (by omega) (by omega)] at c_4
                    refine lv_iload (pc := 71) hx hb dX10_aesKey_71 (lv_at hl 1 rfl) ?_
                    refine lv_iload (pc := 73) hx hb dX10_aesKey_73 (lv_at hl 3 rfl) ?_
                    refine lv_irem (pc := 75) hx hb dX10_aesKey_75 (q_ne0 (by omega) (by omega)) ?_
                    refine q_top (y := nI ((6 + c) % 6)) (pk_rem (by omega) (by omega) (by omega)) ?_
                    refine lv_if_ne (pc := 76) (tgt := 123) hx hb dX10_aesKey_76 (by decide) (fun c_6 => ?_) (fun c_6 => ?_)
                    · skip
                      rw [q_eq0 (by omega)] at c_6
                      have h76 := c_6
                      refine lv_iload (pc := 123) hx hb dX10_aesKey_123 (lv_at hl 3 rfl) ?_
                      refine lv_bipush (pc := 125) (v := nI 8) hx hb dX10_aesKey_125 (by decide +kernel) ?_
                      refine lv_icmp_ne (pc := 127) (tgt := 167) hx hb dX10_aesKey_127 (by decide) (fun _ => ?_) (fun c_7 => absurd c_7 (by decide))
                      refine lv_aload_n (pc := 167) hx hb dX10_aesKey_167 rfl (lv_at hl 4 rfl) ?_
                      refine va_get (pc := 168) (D := D) (ci := 8) (v := .ref (a 16)) (C := RX10) (T := TX10) (N := 57) hx hb hts iu10 hown hK hP 0 rfl rfl 16 (by decide) (hts _ tw_1061) (fun _ h9 => h9) rfl dX10_aesKey_168 ?_
                      refine lv_iconst (pc := 171) (v := nI 4) hx hb dX10_aesKey_171 (by decide +kernel) ?_
                      refine lv_iload (pc := 172) hx hb dX10_aesKey_172 (lv_at hl 1 rfl) ?_
                      refine lv_iconst (pc := 174) (v := nI 1) hx hb dX10_aesKey_174 (by decide +kernel) ?_
                      refine lv_isub (pc := 175) hx hb dX10_aesKey_175 ?_
                      refine q_top (y := nI (6 + c - 1)) (pk_sub (a := 6 + c) (b := 1) (by omega)) ?_
                      refine lv_imul (pc := 176) hx hb dX10_aesKey_176 ?_
                      refine q_top (y := nI (4 * (6 + c - 1))) (pk_mul 4 (6 + c - 1)) ?_
                      refine lv_iload (pc := 177) hx hb dX10_aesKey_177 (lv_at hl 0 rfl) ?_
                      refine lv_iadd (pc := 179) hx hb dX10_aesKey_179 ?_
                      refine q_top (y := nI (4 * (6 + c - 1) + d)) (nI_add (4 * (6 + c - 1)) d) ?_
                      refine q_bald (pc := 180) hx hb hK hP 2 2 rfl rfl (k := 4 * (6 + c - 1) + d) (v := qs (d' (4 * (6 + c - 1) + d))) rfl (by omega) (by omega) rfl dX10_aesKey_180 ?_
                      refine lv_istore (pc := 181) (lv' := [(8, .int (qs (d' (4 * (6 + c - 1) + d)))), (7, .int (nI d)), (6, .int (nI (6 + c))), (5, .int (qz k1)), (4, .int (nI 6)), (0, .ref h0), (1, .ref hk), (2, .int (nI fr)), (3, .int (nI 24))]) hx hb dX10_aesKey_181 hl (by decide) rfl (fun ls hl => ?_)
                      refine lv_aload_n (pc := 183) hx hb dX10_aesKey_183 rfl (lv_at hl 5 rfl) ?_
                      refine va_get (pc := 184) (D := D) (ci := 8) (v := .ref (a 16)) (C := RX10) (T := TX10) (N := 57) hx hb hts iu10 hown hK hP 0 rfl rfl 16 (by decide) (hts _ tw_1061) (fun _ h9 => h9) rfl dX10_aesKey_184 ?_
                      refine lv_iconst (pc := 187) (v := nI 4) hx hb dX10_aesKey_187 (by decide +kernel) ?_
                      refine lv_iload (pc := 188) hx hb dX10_aesKey_188 (lv_at hl 2 rfl) ?_
                      refine lv_imul (pc := 190) hx hb dX10_aesKey_190 ?_
                      refine q_top (y := nI (4 * (6 + c))) (pk_mul 4 (6 + c)) ?_
                      refine lv_iload (pc := 191) hx hb dX10_aesKey_191 (lv_at hl 1 rfl) ?_
                      refine lv_iadd (pc := 193) hx hb dX10_aesKey_193 ?_
                      refine q_top (y := nI (4 * (6 + c) + d)) (nI_add (4 * (6 + c)) d) ?_
                      refine lv_aload_n (pc := 194) hx hb dX10_aesKey_194 rfl (lv_at hl 5 rfl) ?_
                      refine va_get (pc := 195) (D := D) (ci := 8) (v := .ref (a 16)) (C := RX10) (T := TX10) (N := 57) hx hb hts iu10 hown hK hP 0 rfl rfl 16 (by decide) (hts _ tw_1061) (fun _ h9 => h9) rfl dX10_aesKey_195 ?_
                      refine lv_iconst (pc := 198) (v := nI 4) hx hb dX10_aesKey_198 (by decide +kernel) ?_
                      refine lv_iload (pc := 199) hx hb dX10_aesKey_199 (lv_at hl 2 rfl) ?_
                      refine lv_iload (pc := 201) hx hb dX10_aesKey_201 (lv_at hl 4 rfl) ?_
                      refine lv_isub (pc := 203) hx hb dX10_aesKey_203 ?_
                      refine q_top (y := nI (6 + c - 6)) (pk_sub (a := 6 + c) (b := 6) (by omega)) ?_
                      refine lv_imul (pc := 204) hx hb dX10_aesKey_204 ?_
                      refine q_top (y := nI (4 * (6 + c - 6))) (pk_mul 4 (6 + c - 6)) ?_
                      refine lv_iload (pc := 205) hx hb dX10_aesKey_205 (lv_at hl 1 rfl) ?_
                      refine lv_iadd (pc := 207) hx hb dX10_aesKey_207 ?_
                      refine q_top (y := nI (4 * (6 + c - 6) + d)) (nI_add (4 * (6 + c - 6)) d) ?_
                      refine q_bald (pc := 208) hx hb hK hP 2 2 rfl rfl (k := 4 * (6 + c - 6) + d) (v := qs (d' (4 * (6 + c - 6) + d))) rfl (by omega) (by omega) rfl dX10_aesKey_208 ?_
                      refine lv_iload (pc := 209) hx hb dX10_aesKey_209 (lv_at hl 0 rfl) ?_
                      refine lv_ixor (pc := 211) hx hb dX10_aesKey_211 ?_
                      refine q_top (y := qs ((d' (4 * (6 + c - 6) + d)) ^^^ (d' (4 * (6 + c - 1) + d)))) (q_xor_s _ _) ?_
                      refine lv_i2b (pc := 212) (v := qs ((d' (4 * (6 + c - 6) + d)) ^^^ (d' (4 * (6 + c - 1) + d)))) hx hb dX10_aesKey_212 (q_i2b_s _) ?_
                      refine q_bastS (pc := 213) hx hb hK hP hD hS 2 2 rfl rfl (k := 4 * (6 + c) + d) rfl (by omega) (by omega) (b := (d' (4 * (6 + c - 6) + d)) ^^^ (d' (4 * (6 + c - 1) + d))) (qlo_qs _) dX10_aesKey_213 (fun H locs hP hD hS => ?_)
                      have hP : va_P D vwCl [(h0, oM a 12 mn tp osz lsz ns ct), (a 8, aZ ta 256 BOX), (a 16, aS ta 240 (qU d' (4 * (6 + c) + d) ((d' (4 * (6 + c - 6) + d)) ^^^ (d' (4 * (6 + c - 1) + d))))), (hk, aS ta capk gk)] H := hP
                      have hD : va_D A [(h0, oM a 12 mn tp osz lsz ns ct), (a 8, aZ ta 256 BOX), (a 16, aS ta 240 (qU d' (4 * (6 + c) + d) ((d' (4 * (6 + c - 6) + d)) ^^^ (d' (4 * (6 + c - 1) + d))))), (hk, aS ta capk gk)] := hD
                      refine lv_iinc (pc := 214) (v := nI (d + 1)) (lv' := [(7, .int (nI (d + 1))), (8, .int (qs (d' (4 * (6 + c - 1) + d)))), (6, .int (nI (6 + c))), (5, .int (qz k1)), (4, .int (nI 6)), (0, .ref h0), (1, .ref hk), (2, .int (nI fr)), (3, .int (nI 24))]) hx hb dX10_aesKey_214 hl (k := 1) rfl (by first | exact nI_add d 1 | rfl) (by decide) rfl (fun ls hl => ?_)
                      refine lv_goto (pc := 217) (tgt := 65) hx hb dX10_aesKey_217 (by decide) ?_
                      have hold : ∀ j, j < 4 * (6 + c) → d' j = aKey (fun j => gk (fr + j)) 6 c j := by
                        intro j hj
                        rw [hs2 j (by omega), aKey_old (by omega)]
                      exact ih65 (d + 1) (qU d' (4 * (6 + c) + d) ((d' (4 * (6 + c - 6) + d)) ^^^ (d' (4 * (6 + c - 1) + d)))) (by omega) (by
                            intro j hj
                            rcases Nat.lt_or_ge j (4 * (6 + c) + d) with q | q
                            · rw [qU_ne (by omega)]
                              exact hs2 j q
                            · obtain rfl : j = 4 * (6 + c) + d := by omega
                              rw [qU_same]
                              simp only [aKey, show (4 * (6 + c) + d) / 4 = 6 + c by omega, show (4 * (6 + c) + d) % 4 = d by omega, if_pos, qlo_xor, qlo_qs, qlo_qz, show 4 * (6 + c - 6) + d = 4 * c + d by omega]
                              rw [hold _ (by omega), hold _ (by omega)]
                              first | rw [if_pos h76, if_pos h108, hk1] | rw [if_pos h76, if_neg h108] | rw [if_neg h76, if_neg (by omega)]) (by omega) _ _ (hP.sub [0, 1, 2, 3] rfl) (hD.sub [0, 1, 2, 3] (by decide) rfl) hS ls (lv_sub hl [0, 2, 3, 4, 5, 6, 7, 8] rfl)
                    · skip
                      rw [q_eq0 (by omega)] at c_6
                      have h76 := c_6
                      refine lv_aload_n (pc := 79) hx hb dX10_aesKey_79 rfl (lv_at hl 4 rfl) ?_
                      refine va_get (pc := 80) (D := D) (ci := 8) (v := .ref (a 8)) (C := RX10) (T := TX10) (N := 57) hx hb hts iu10 hown hK hP 0 rfl rfl 8 (by decide) (hts _ tw_1053) (fun _ h9 => h9) rfl dX10_aesKey_80 ?_
                      refine lv_aload_n (pc := 83) hx hb dX10_aesKey_83 rfl (lv_at hl 4 rfl) ?_
                      refine va_get (pc := 84) (D := D) (ci := 8) (v := .ref (a 16)) (C := RX10) (T := TX10) (N := 57) hx hb hts iu10 hown hK hP 0 rfl rfl 16 (by decide) (hts _ tw_1061) (fun _ h9 => h9) rfl dX10_aesKey_84 ?_
                      refine lv_iconst (pc := 87) (v := nI 4) hx hb dX10_aesKey_87 (by decide +kernel) ?_
                      refine lv_iload (pc := 88) hx hb dX10_aesKey_88 (lv_at hl 1 rfl) ?_
                      refine lv_iconst (pc := 90) (v := nI 1) hx hb dX10_aesKey_90 (by decide +kernel) ?_
                      refine lv_isub (pc := 91) hx hb dX10_aesKey_91 ?_
                      refine q_top (y := nI (6 + c - 1)) (pk_sub (a := 6 + c) (b := 1) (by omega)) ?_
                      refine lv_imul (pc := 92) hx hb dX10_aesKey_92 ?_
                      refine q_top (y := nI (4 * (6 + c - 1))) (pk_mul 4 (6 + c - 1)) ?_
                      refine lv_iload (pc := 93) hx hb dX10_aesKey_93 (lv_at hl 0 rfl) ?_
                      refine lv_iconst (pc := 95) (v := nI 1) hx hb dX10_aesKey_95 (by decide +kernel) ?_
                      refine lv_iadd (pc := 96) hx hb dX10_aesKey_96 ?_
                      refine q_top (y := nI (d + 1)) (nI_add d 1) ?_
                      refine lv_iconst (pc := 97) (v := nI 4) hx hb dX10_aesKey_97 (by decide +kernel) ?_
                      refine lv_irem (pc := 98) hx hb dX10_aesKey_98 (q_ne0 (by omega) (by omega)) ?_
                      refine q_top (y := nI ((d + 1) % 4)) (pk_rem (by omega) (by omega) (by omega)) ?_
                      refine lv_iadd (pc := 99) hx hb dX10_aesKey_99 ?_
                      refine q_top (y := nI (4 * (6 + c - 1) + ((d + 1) % 4))) (nI_add (4 * (6 + c - 1)) ((d + 1) % 4)) ?_
                      refine q_bald (pc := 100) hx hb hK hP 2 2 rfl rfl (k := 4 * (6 + c - 1) + ((d + 1) % 4)) (v := qs (d' (4 * (6 + c - 1) + ((d + 1) % 4)))) rfl (by omega) (by omega) rfl dX10_aesKey_100 ?_
                      refine lv_sipush (pc := 101) (v := nI 255) hx hb dX10_aesKey_101 (by decide +kernel) ?_
                      refine lv_iand (pc := 104) hx hb dX10_aesKey_104 ?_
                      refine q_top (y := qz (d' (4 * (6 + c - 1) + ((d + 1) % 4)))) ((q_m255 _).trans (congrArg qz (qlo_qs _))) ?_
                      refine q_iald (pc := 105) hx hb hK hP 1 0 rfl rfl (k := (d' (4 * (6 + c - 1) + ((d + 1) % 4))).toNat) (v := qz (BOX ((d' (4 * (6 + c - 1) + ((d + 1) % 4))).toNat))) (qz_nat _) (BitVec.isLt _) (by omega) rfl dX10_aesKey_105 ?_
                      refine lv_iload (pc := 106) hx hb dX10_aesKey_106 (lv_at hl 0 rfl) ?_
                      refine lv_if_ne (pc := 108) (tgt := 116) hx hb dX10_aesKey_108 (by decide) (fun c_8 => ?_) (fun c_8 => ?_)
                      · skip
                        rw [q_eq0 (by omega)] at c_8
                        have h108 := c_8
                        refine lv_iconst (pc := 116) (v := nI 0) hx hb dX10_aesKey_116 (by decide +kernel) ?_
                        refine q_top (y := qz 0#8) rfl ?_
                        refine lv_ixor (pc := 117) hx hb dX10_aesKey_117 ?_
                        refine q_top (y := qz ((BOX ((d' (4 * (6 + c - 1) + ((d + 1) % 4))).toNat)) ^^^ (0#8))) (q_xor_z _ _) ?_
                        refine lv_istore (pc := 118) (lv' := [(8, .int (qz ((BOX ((d' (4 * (6 + c - 1) + ((d + 1) % 4))).toNat)) ^^^ (0#8)))), (7, .int (nI d)), (6, .int (nI (6 + c))), (5, .int (qz k1)), (4, .int (nI 6)), (0, .ref h0), (1, .ref hk), (2, .int (nI fr)), (3, .int (nI 24))]) hx hb dX10_aesKey_118 hl (by decide) rfl (fun ls hl => ?_)
                        refine lv_goto (pc := 120) (tgt := 183) hx hb dX10_aesKey_120 (by decide) ?_
                        refine lv_aload_n (pc := 183) hx hb dX10_aesKey_183 rfl (lv_at hl 5 rfl) ?_
                        refine va_get (pc := 184) (D := D) (ci := 8) (v := .ref (a 16)) (C := RX10) (T := TX10) (N := 57) hx hb hts iu10 hown hK hP 0 rfl rfl 16 (by decide) (hts _ tw_1061) (fun _ h9 => h9) rfl dX10_aesKey_184 ?_
                        refine lv_iconst (pc := 187) (v := nI 4) hx hb dX10_aesKey_187 (by decide +kernel) ?_
                        refine lv_iload (pc := 188) hx hb dX10_aesKey_188 (lv_at hl 2 rfl) ?_
                        refine lv_imul (pc := 190) hx hb dX10_aesKey_190 ?_
                        refine q_top (y := nI (4 * (6 + c))) (pk_mul 4 (6 + c)) ?_
                        refine lv_iload (pc := 191) hx hb dX10_aesKey_191 (lv_at hl 1 rfl) ?_
                        refine lv_iadd (pc := 193) hx hb dX10_aesKey_193 ?_
                        refine q_top (y := nI (4 * (6 + c) + d)) (nI_add (4 * (6 + c)) d) ?_
                        refine lv_aload_n (pc := 194) hx hb dX10_aesKey_194 rfl (lv_at hl 5 rfl) ?_
                        refine va_get (pc := 195) (D := D) (ci := 8) (v := .ref (a 16)) (C := RX10) (T := TX10) (N := 57) hx hb hts iu10 hown hK hP 0 rfl rfl 16 (by decide) (hts _ tw_1061) (fun _ h9 => h9) rfl dX10_aesKey_195 ?_
                        refine lv_iconst (pc := 198) (v := nI 4) hx hb dX10_aesKey_198 (by decide +kernel) ?_
                        refine lv_iload (pc := 199) hx hb dX10_aesKey_199 (lv_at hl 2 rfl) ?_
                        refine lv_iload (pc := 201) hx hb dX10_aesKey_201 (lv_at hl 4 rfl) ?_
                        refine lv_isub (pc := 203) hx hb dX10_aesKey_203 ?_
                        refine q_top (y := nI (6 + c - 6)) (pk_sub (a := 6 + c) (b := 6) (by omega)) ?_
                        refine lv_imul (pc := 204) hx hb dX10_aesKey_204 ?_
                        refine q_top (y := nI (4 * (6 + c - 6))) (pk_mul 4 (6 + c - 6)) ?_
                        refine lv_iload (pc := 205) hx hb dX10_aesKey_205 (lv_at hl 1 rfl) ?_
                        refine lv_iadd (pc := 207) hx hb dX10_aesKey_207 ?_
                        refine q_top (y := nI (4 * (6 + c - 6) + d)) (nI_add (4 * (6 + c - 6)) d) ?_
                        refine q_bald (pc := 208) hx hb hK hP 2 2 rfl rfl (k := 4 * (6 + c - 6) + d) (v := qs (d' (4 * (6 + c - 6) + d))) rfl (by omega) (by omega) rfl dX10_aesKey_208 ?_
                        refine lv_iload (pc := 209) hx hb dX10_aesKey_209 (lv_at hl 0 rfl) ?_
                        refine lv_ixor (pc := 211) hx hb dX10_aesKey_211 ?_
                        refine lv_i2b (pc := 212) (v := qs (qlo ((qs (d' (4 * (6 + c - 6) + d))) ^^^ (qz ((BOX ((d' (4 * (6 + c - 1) + ((d + 1) % 4))).toNat)) ^^^ (0#8)))))) hx hb dX10_aesKey_212 (q_i2b _) ?_
                        refine q_bastS (pc := 213) hx hb hK hP hD hS 2 2 rfl rfl (k := 4 * (6 + c) + d) rfl (by omega) (by omega) (b := qlo ((qs (d' (4 * (6 + c - 6) + d))) ^^^ (qz ((BOX ((d' (4 * (6 + c - 1) + ((d + 1) % 4))).toNat)) ^^^ (0#8))))) (qlo_qs _) dX10_aesKey_213 (fun H locs hP hD hS => ?_)
                        have hP : va_P D vwCl [(h0, oM a 12 mn tp osz lsz ns ct), (a 8, aZ ta 256 BOX), (a 16, aS ta 240 (qU d' (4 * (6 + c) + d) (qlo ((qs (d' (4 * (6 + c - 6) + d))) ^^^ (qz ((BOX ((d' (4 * (6 + c - 1) + ((d + 1) % 4))).toNat)) ^^^ (0#8))))))), (hk, aS ta capk gk)] H := hP
                        have hD : va_D A [(h0, oM a 12 mn tp osz lsz ns ct), (a 8, aZ ta 256 BOX), (a 16, aS ta 240 (qU d' (4 * (6 + c) + d) (qlo ((qs (d' (4 * (6 + c - 6) + d))) ^^^ (qz ((BOX ((d' (4 * (6 + c - 1) + ((d + 1) % 4))).toNat)) ^^^ (0#8))))))), (hk, aS ta capk gk)] := hD
                        refine lv_iinc (pc := 214) (v := nI (d + 1)) (lv' := [(7, .int (nI (d + 1))), (8, .int (qz ((BOX ((d' (4 * (6 + c - 1) + ((d + 1) % 4))).toNat)) ^^^ (0#8)))), (6, .int (nI (6 + c))), (5, .int (qz k1)), (4, .int (nI 6)), (0, .ref h0), (1, .ref hk), (2, .int (nI fr)), (3, .int (nI 24))]) hx hb dX10_aesKey_214 hl (k := 1) rfl (by first | exact nI_add d 1 | rfl) (by decide) rfl (fun ls hl => ?_)
                        refine lv_goto (pc := 217) (tgt := 65) hx hb dX10_aesKey_217 (by decide) ?_
                        have hold : ∀ j, j < 4 * (6 + c) → d' j = aKey (fun j => gk (fr + j)) 6 c j := by
                          intro j hj
                          rw [hs2 j (by omega), aKey_old (by omega)]
                        exact ih65 (d + 1) (qU d' (4 * (6 + c) + d) (qlo ((qs (d' (4 * (6 + c - 6) + d))) ^^^ (qz ((BOX ((d' (4 * (6 + c - 1) + ((d + 1) % 4))).toNat)) ^^^ (0#8)))))) (by omega) (by
                              intro j hj
                              rcases Nat.lt_or_ge j (4 * (6 + c) + d) with q | q
                              · rw [qU_ne (by omega)]
                                exact hs2 j q
                              · obtain rfl : j = 4 * (6 + c) + d := by omega
                                rw [qU_same]
                                simp only [aKey, show (4 * (6 + c) + d) / 4 = 6 + c by omega, show (4 * (6 + c) + d) % 4 = d by omega, if_pos, qlo_xor, qlo_qs, qlo_qz, show 4 * (6 + c - 6) + d = 4 * c + d by omega]
                                rw [hold _ (by omega), hold _ (by omega)]
                                first | rw [if_pos h76, if_pos h108, hk1] | rw [if_pos h76, if_neg h108] | rw [if_neg h76, if_neg (by omega)]) (by omega) _ _ (hP.sub [0, 1, 2, 3] rfl) (hD.sub [0, 1, 2, 3] (by decide) rfl) hS ls (lv_sub hl [0, 2, 3, 4, 5, 6, 7, 8] rfl)
                      · skip
                        rw [q_eq0 (by omega)] at c_8
                        have h108 := c_8
                        refine lv_iload (pc := 111) hx hb dX10_aesKey_111 (lv_at hl 2 rfl) ?_
                        refine lv_goto (pc := 113) (tgt := 117) hx hb dX10_aesKey_113 (by decide) ?_
                        refine lv_ixor (pc := 117) hx hb dX10_aesKey_117 ?_
                        refine q_top (y := qz ((BOX ((d' (4 * (6 + c - 1) + ((d + 1) % 4))).toNat)) ^^^ k1)) (q_xor_z _ _) ?_
                        refine lv_istore (pc := 118) (lv' := [(8, .int (qz ((BOX ((d' (4 * (6 + c - 1) + ((d + 1) % 4))).toNat)) ^^^ k1))), (7, .int (nI d)), (6, .int (nI (6 + c))), (5, .int (qz k1)), (4, .int (nI 6)), (0, .ref h0), (1, .ref hk), (2, .int (nI fr)), (3, .int (nI 24))]) hx hb dX10_aesKey_118 hl (by decide) rfl (fun ls hl => ?_)
                        refine lv_goto (pc := 120) (tgt := 183) hx hb dX10_aesKey_120 (by decide) ?_
                        refine lv_aload_n (pc := 183) hx hb dX10_aesKey_183 rfl (lv_at hl 5 rfl) ?_
                        refine va_get (pc := 184) (D := D) (ci := 8) (v := .ref (a 16)) (C := RX10) (T := TX10) (N := 57) hx hb hts iu10 hown hK hP 0 rfl rfl 16 (by decide) (hts _ tw_1061) (fun _ h9 => h9) rfl dX10_aesKey_184 ?_
                        refine lv_iconst (pc := 187) (v := nI 4) hx hb dX10_aesKey_187 (by decide +kernel) ?_
                        refine lv_iload (pc := 188) hx hb dX10_aesKey_188 (lv_at hl 2 rfl) ?_
                        refine lv_imul (pc := 190) hx hb dX10_aesKey_190 ?_
                        refine q_top (y := nI (4 * (6 + c))) (pk_mul 4 (6 + c)) ?_
                        refine lv_iload (pc := 191) hx hb dX10_aesKey_191 (lv_at hl 1 rfl) ?_
                        refine lv_iadd (pc := 193) hx hb dX10_aesKey_193 ?_
                        refine q_top (y := nI (4 * (6 + c) + d)) (nI_add (4 * (6 + c)) d) ?_
                        refine lv_aload_n (pc := 194) hx hb dX10_aesKey_194 rfl (lv_at hl 5 rfl) ?_
                        refine va_get (pc := 195) (D := D) (ci := 8) (v := .ref (a 16)) (C := RX10) (T := TX10) (N := 57) hx hb hts iu10 hown hK hP 0 rfl rfl 16 (by decide) (hts _ tw_1061) (fun _ h9 => h9) rfl dX10_aesKey_195 ?_
                        refine lv_iconst (pc := 198) (v := nI 4) hx hb dX10_aesKey_198 (by decide +kernel) ?_
                        refine lv_iload (pc := 199) hx hb dX10_aesKey_199 (lv_at hl 2 rfl) ?_
                        refine lv_iload (pc := 201) hx hb dX10_aesKey_201 (lv_at hl 4 rfl) ?_
                        refine lv_isub (pc := 203) hx hb dX10_aesKey_203 ?_
                        refine q_top (y := nI (6 + c - 6)) (pk_sub (a := 6 + c) (b := 6) (by omega)) ?_
                        refine lv_imul (pc := 204) hx hb dX10_aesKey_204 ?_
                        refine q_top (y := nI (4 * (6 + c - 6))) (pk_mul 4 (6 + c - 6)) ?_
                        refine lv_iload (pc := 205) hx hb dX10_aesKey_205 (lv_at hl 1 rfl) ?_
                        refine lv_iadd (pc := 207) hx hb dX10_aesKey_207 ?_
                        refine q_top (y := nI (4 * (6 + c - 6) + d)) (nI_add (4 * (6 + c - 6)) d) ?_
                        refine q_bald (pc := 208) hx hb hK hP 2 2 rfl rfl (k := 4 * (6 + c - 6) + d) (v := qs (d' (4 * (6 + c - 6) + d))) rfl (by omega) (by omega) rfl dX10_aesKey_208 ?_
                        refine lv_iload (pc := 209) hx hb dX10_aesKey_209 (lv_at hl 0 rfl) ?_
                        refine lv_ixor (pc := 211) hx hb dX10_aesKey_211 ?_
                        refine lv_i2b (pc := 212) (v := qs (qlo ((qs (d' (4 * (6 + c - 6) + d))) ^^^ (qz ((BOX ((d' (4 * (6 + c - 1) + ((d + 1) % 4))).toNat)) ^^^ k1))))) hx hb dX10_aesKey_212 (q_i2b _) ?_
                        refine q_bastS (pc := 213) hx hb hK hP hD hS 2 2 rfl rfl (k := 4 * (6 + c) + d) rfl (by omega) (by omega) (b := qlo ((qs (d' (4 * (6 + c - 6) + d))) ^^^ (qz ((BOX ((d' (4 * (6 + c - 1) + ((d + 1) % 4))).toNat)) ^^^ k1)))) (qlo_qs _) dX10_aesKey_213 (fun H locs hP hD hS => ?_)
                        have hP : va_P D vwCl [(h0, oM a 12 mn tp osz lsz ns ct), (a 8, aZ ta 256 BOX), (a 16, aS ta 240 (qU d' (4 * (6 + c) + d) (qlo ((qs (d' (4 * (6 + c - 6) + d))) ^^^ (qz ((BOX ((d' (4 * (6 + c - 1) + ((d + 1) % 4))).toNat)) ^^^ k1)))))), (hk, aS ta capk gk)] H := hP
                        have hD : va_D A [(h0, oM a 12 mn tp osz lsz ns ct), (a 8, aZ ta 256 BOX), (a 16, aS ta 240 (qU d' (4 * (6 + c) + d) (qlo ((qs (d' (4 * (6 + c - 6) + d))) ^^^ (qz ((BOX ((d' (4 * (6 + c - 1) + ((d + 1) % 4))).toNat)) ^^^ k1)))))), (hk, aS ta capk gk)] := hD
                        refine lv_iinc (pc := 214) (v := nI (d + 1)) (lv' := [(7, .int (nI (d + 1))), (8, .int (qz ((BOX ((d' (4 * (6 + c - 1) + ((d + 1) % 4))).toNat)) ^^^ k1))), (6, .int (nI (6 + c))), (5, .int (qz k1)), (4, .int (nI 6)), (0, .ref h0), (1, .ref hk), (2, .int (nI fr)), (3, .int (nI 24))]) hx hb dX10_aesKey_214 hl (k := 1) rfl (by first | exact nI_add d 1 | rfl) (by decide) rfl (fun ls hl => ?_)
                        refine lv_goto (pc := 217) (tgt := 65) hx hb dX10_aesKey_217 (by decide) ?_
                        have hold : ∀ j, j < 4 * (6 + c) → d' j = aKey (fun j => gk (fr + j)) 6 c j := by
                          intro j hj
                          rw [hs2 j (by omega), aKey_old (by omega)]
                        exact ih65 (d + 1) (qU d' (4 * (6 + c) + d) (qlo ((qs (d' (4 * (6 + c - 6) + d))) ^^^ (qz ((BOX ((d' (4 * (6 + c - 1) + ((d + 1) % 4))).toNat)) ^^^ k1))))) (by omega) (by
                              intro j hj
                              rcases Nat.lt_or_ge j (4 * (6 + c) + d) with q | q
                              · rw [qU_ne (by omega)]
                                exact hs2 j q
                              · obtain rfl : j = 4 * (6 + c) + d := by omega
                                rw [qU_same]
                                simp only [aKey, show (4 * (6 + c) + d) / 4 = 6 + c by omega, show (4 * (6 + c) + d) % 4 = d by omega, if_pos, qlo_xor, qlo_qs, qlo_qz, show 4 * (6 + c - 6) + d = 4 * c + d by omega]
                                rw [hold _ (by omega), hold _ (by omega)]
                                first | rw [if_pos h76, if_pos h108, hk1] | rw [if_pos h76, if_neg h108] | rw [if_neg h76, if_neg (by omega)]) (by omega) _ _ (hP.sub [0, 1, 2, 3] rfl) (hD.sub [0, 1, 2, 3] (by decide) rfl) hS ls (lv_sub hl [0, 2, 3, 4, 5, 6, 7, 8] rfl)
              exact LP65 _ 0 r' (by omega) (by intro j hj; rw [hs1 j (by omega), aKey_old (by omega)]) (Nat.lt_succ_self _) _ _ (hP.sub [0, 1, 2, 3] rfl) (hD.sub [0, 1, 2, 3] (by decide) rfl) hS ls (lv_sub hl [0, 1, 2, 3, 4, 5, 6, 7] rfl)
        exact LP49 _ 0 (1#8) g' (by omega) (rfl) (by intro j hj; exact qSeg_at hs (by omega)) (Nat.lt_succ_self _) _ _ (hP.sub [0, 1, 2, 3] rfl) (hD.sub [0, 1, 2, 3] (by decide) rfl) hS ls (lv_sub hl [0, 1, 2, 3, 4, 5, 6] rfl)
      · skip
        rw [nI_leI (by omega) (by omega)] at c_1
        refine lv_aload_n (pc := 26) hx hb dX10_aesKey_26 rfl (lv_at hl 3 rfl) ?_
        refine va_get (pc := 27) (D := D) (ci := 8) (v := .ref (a 16)) (C := RX10) (T := TX10) (N := 57) hx hb hts iu10 hown hK hP 0 rfl rfl 16 (by decide) (hts _ tw_1061) (fun _ h9 => h9) rfl dX10_aesKey_27 ?_
        refine lv_iload (pc := 30) hx hb dX10_aesKey_30 (lv_at hl 0 rfl) ?_
        refine lv_aload_n (pc := 32) hx hb dX10_aesKey_32 rfl (lv_at hl 4 rfl) ?_
        refine lv_iload_n (pc := 33) hx hb dX10_aesKey_33 rfl (lv_at hl 5 rfl) ?_
        refine lv_iload (pc := 34) hx hb dX10_aesKey_34 (lv_at hl 0 rfl) ?_
        refine lv_iadd (pc := 36) hx hb dX10_aesKey_36 ?_
        refine q_top (y := nI (fr + k)) (nI_add fr k) ?_
        refine q_bald (pc := 37) hx hb hK hP 3 2 rfl rfl (k := fr + k) (v := qs (gk (fr + k))) rfl (by omega) (by omega) rfl dX10_aesKey_37 ?_
        refine q_bastS (pc := 38) hx hb hK hP hD hS 2 2 rfl rfl (k := k) rfl (by omega) (by omega) (b := gk (fr + k)) (qlo_qs _) dX10_aesKey_38 (fun H locs hP hD hS => ?_)
        have hP : va_P D vwCl [(h0, oM a 12 mn tp osz lsz ns ct), (a 8, aZ ta 256 BOX), (a 16, aS ta 240 (qU g' k (gk (fr + k)))), (hk, aS ta capk gk)] H := hP
        have hD : va_D A [(h0, oM a 12 mn tp osz lsz ns ct), (a 8, aZ ta 256 BOX), (a 16, aS ta 240 (qU g' k (gk (fr + k)))), (hk, aS ta capk gk)] := hD
        refine lv_iinc (pc := 39) (v := nI (k + 1)) (lv' := [(6, .int (nI (k + 1))), (5, .int (qz (1#8))), (4, .int (nI 6)), (0, .ref h0), (1, .ref hk), (2, .int (nI fr)), (3, .int (nI 24))]) hx hb dX10_aesKey_39 hl (k := 0) rfl (by first | exact nI_add k 1 | rfl) (by decide) rfl (fun ls hl => ?_)
        refine lv_goto (pc := 42) (tgt := 20) hx hb dX10_aesKey_42 (by decide) ?_
        exact ih20 (k + 1) (qU g' k (gk (fr + k))) (by omega) (qSeg_s hs (by omega) rfl) (by omega) _ _ (hP.sub [0, 1, 2, 3] rfl) (hD.sub [0, 1, 2, 3] (by decide) rfl) hS ls (lv_sub hl [0, 1, 2, 3, 4, 5, 6] rfl)
  exact LP20 _ 0 rk (by omega) (qSeg_0) (Nat.lt_succ_self _) _ _ (hP.sub [0, 1, 2, 3] rfl) (hD.sub [0, 1, 2, 3] (by decide) rfl) hS ls (lv_sub hl [0, 1, 2, 3, 4, 5, 6] rfl)
set_option maxHeartbeats 4000000 in
set_option maxRecDepth 100000 in
theorem ct_X10_aesKey_8 (ll : Launch) (D : va_G) (ta : Nat → ClassId) {G : (Nat → Prop) → State → Heap → Prop} (hGok : GOK G) (h0 : Nat) (a : Nat → Nat) (ar : Nat) (mn : Nat) (tp : Nat) (osz : Nat) (lsz : Nat) (ns : Nat) (ct : Nat) (hk : Nat) (fr : Nat) (capk : Nat) (gk : Nat → BitVec 8) (rk : Nat → BitVec 8) (hf : fr + 32 ≤ capk) (hck : capk < 2147483648) (sz : Nat) : CT ll yX10_aesKey cX10_aesKey 9 none ({ frames := 1, cells := 0, slots := 0, locals := 20 } : Room) D ta G [.ref h0, .ref hk, .int (nI fr), .int (nI 32)] [(h0, oM a ar mn tp osz lsz ns ct), (a 8, aZ ta 256 BOX), (a 16, aS ta 240 rk), (hk, aS ta capk gk)] sz (S := (Nat → BitVec 8)) (fun _ => none) (fun u => (∀ j, j < 16 * (8 + 6 + 1) → u j = aKey (fun j => gk (fr + j)) 8 (4 * (8 + 6 + 1) - 8) j)) (fun u => [(h0, oM a 14 mn tp osz lsz ns ct), (a 8, aZ ta 256 BOX), (a 16, aS ta 240 u), (hk, aS ta capk gk)]) 0 0 := by
  refine CT.of_v rfl (by decide) (Nat.le_of_ble_eq_true rfl) ?_
  intro pp ee ss mm below meth kc A Q hx hb hml hown hin hts hK hA hsz hG hret H locs hP hD hS ls hl
  have hl : lv_has ls 9 [(0, .ref h0), (1, .ref hk), (2, .int (nI fr)), (3, .int (nI 32))] := hl
  refine lv_iload_n (pc := 0) hx hb dX10_aesKey_0 rfl (lv_at hl 3 rfl) ?_
  refine lv_iconst (pc := 1) (v := nI 4) hx hb dX10_aesKey_1 (by decide +kernel) ?_
  refine lv_idiv (pc := 2) hx hb dX10_aesKey_2 (q_ne0 (by omega) (by omega)) ?_
  refine q_top (y := nI (32 / 4)) (pk_div (by omega) (by omega) (by omega)) ?_
  refine q_top (y := nI 8) (by decide) ?_
  refine lv_istore (pc := 3) (lv' := [(4, .int (nI 8)), (0, .ref h0), (1, .ref hk), (2, .int (nI fr)), (3, .int (nI 32))]) hx hb dX10_aesKey_3 hl (by decide) rfl (fun ls hl => ?_)
  refine lv_aload_n (pc := 5) hx hb dX10_aesKey_5 rfl (lv_at hl 1 rfl) ?_
  refine lv_iload (pc := 6) hx hb dX10_aesKey_6 (lv_at hl 0 rfl) ?_
  refine lv_bipush (pc := 8) (v := nI 6) hx hb dX10_aesKey_8 (by decide +kernel) ?_
  refine lv_iadd (pc := 10) hx hb dX10_aesKey_10 ?_
  refine q_top (y := nI 14) (by decide +kernel) ?_
  refine va_put (pc := 11) (D := D) (ci := 8) (v := .int (nI 14)) (ty := .int) (C := RX10) (T := TX10) (N := 57) hx hb hts iu10 tyX10 tyX10_ok nmX10 hown hK hP hD hS 0 rfl rfl 17 (by decide) (hts _ tw_1062) (fun _ h9 => h9) rfl (by decide +kernel) rfl rfl (Nat.le_of_ble_eq_true rfl) dX10_aesKey_11 (fun H locs hP hD hS => ?_)
  have hP : va_P D vwCl [(h0, oM a 14 mn tp osz lsz ns ct), (a 8, aZ ta 256 BOX), (a 16, aS ta 240 rk), (hk, aS ta capk gk)] H := hP
  have hD : va_D A [(h0, oM a 14 mn tp osz lsz ns ct), (a 8, aZ ta 256 BOX), (a 16, aS ta 240 rk), (hk, aS ta capk gk)] := hD
  refine lv_iconst (pc := 14) (v := nI 1) hx hb dX10_aesKey_14 (by decide +kernel) ?_
  refine q_top (y := qz (1#8)) (by decide) ?_
  refine lv_istore (pc := 15) (lv' := [(5, .int (qz (1#8))), (4, .int (nI 8)), (0, .ref h0), (1, .ref hk), (2, .int (nI fr)), (3, .int (nI 32))]) hx hb dX10_aesKey_15 hl (by decide) rfl (fun ls hl => ?_)
  refine lv_iconst (pc := 17) (v := nI 0) hx hb dX10_aesKey_17 (by decide +kernel) ?_
  refine lv_istore (pc := 18) (lv' := [(6, .int (nI 0)), (5, .int (qz (1#8))), (4, .int (nI 8)), (0, .ref h0), (1, .ref hk), (2, .int (nI fr)), (3, .int (nI 32))]) hx hb dX10_aesKey_18 hl (by decide) rfl (fun ls hl => ?_)
  have LP20 : ∀ (nn20 : Nat) (k : Nat) (g' : Nat → BitVec 8), (k ≤ 32) → (qSeg g' rk 0 k (fun j => gk (fr + j))) → (32 - k < nn20) → ∀ (H : Heap) (locs : List Loc), va_P D vwCl [(h0, oM a 14 mn tp osz lsz ns ct), (a 8, aZ ta 256 BOX), (a 16, aS ta 240 g'), (hk, aS ta capk gk)] H → va_D A [(h0, oM a 14 mn tp osz lsz ns ct), (a 8, aZ ta 256 BOX), (a 16, aS ta 240 g'), (hk, aS ta capk gk)] → va_S A ss.heap H locs → ∀ ls : Array Slot, lv_has ls 9 [(6, .int (nI k)), (5, .int (qz (1#8))), (4, .int (nI 8)), (0, .ref h0), (1, .ref hk), (2, .int (nI fr)), (3, .int (nI 32))] → W pp ll ee ({ frames := 1, cells := 0, slots := 0, locals := 20 } : Room) ss mm (([.ref h0, .ref hk, .int (nI fr), .int (nI 32)] : List Value).toArray) below meth kc H locs 0 0 Q (F0 mm 20 ls []) := by
    intro nn20
    induction nn20 with
    | zero => intro k g' hkk hs hmu; exact absurd hmu (Nat.not_lt_zero _)
    | succ nn20 ih20 =>
      intro k g' hkk hs hmu20 H locs hP hD hS ls hl
      refine lv_iload (pc := 20) hx hb dX10_aesKey_20 (lv_at hl 0 rfl) ?_
      refine lv_iload_n (pc := 22) hx hb dX10_aesKey_22 rfl (lv_at hl 6 rfl) ?_
      refine lv_icmp_ge (pc := 23) (tgt := 45) hx hb dX10_aesKey_23 (by decide) (fun c_1 => ?_) (fun c_1 => ?_)
      · skip
        rw [nI_leI (by omega) (by omega)] at c_1
        refine lv_iload (pc := 45) hx hb dX10_aesKey_45 (lv_at hl 2 rfl) ?_
        refine lv_istore (pc := 47) (lv' := [(6, .int (nI 8)), (5, .int (qz (1#8))), (4, .int (nI 8)), (0, .ref h0), (1, .ref hk), (2, .int (nI fr)), (3, .int (nI 32))]) hx hb dX10_aesKey_47 hl (by decide) rfl (fun ls hl => ?_)
        have LP49 : ∀ (nn49 : Nat) (c : Nat) (k1 : BitVec 8) (r' : Nat → BitVec 8), (c ≤ 52) → (k1 = xtn 1#8 ((8 + c - 1) / 8)) → (∀ j, j < 4 * (8 + c) → r' j = aKey (fun j => gk (fr + j)) 8 c j) → (52 - c < nn49) → ∀ (H : Heap) (locs : List Loc), va_P D vwCl [(h0, oM a 14 mn tp osz lsz ns ct), (a 8, aZ ta 256 BOX), (a 16, aS ta 240 r'), (hk, aS ta capk gk)] H → va_D A [(h0, oM a 14 mn tp osz lsz ns ct), (a 8, aZ ta 256 BOX), (a 16, aS ta 240 r'), (hk, aS ta capk gk)] → va_S A ss.heap H locs → ∀ ls : Array Slot, lv_has ls 9 [(6, .int (nI (8 + c))), (5, .int (qz k1)), (4, .int (nI 8)), (0, .ref h0), (1, .ref hk), (2, .int (nI fr)), (3, .int (nI 32))] → W pp ll ee ({ frames := 1, cells := 0, slots := 0, locals := 20 } : Room) ss mm (([.ref h0, .ref hk, .int (nI fr), .int (nI 32)] : List Value).toArray) below meth kc H locs 0 0 Q (F0 mm 49 ls []) := by
          intro nn49
          induction nn49 with
          | zero => intro c k1 r' hcc hk1 hs1 hmu; exact absurd hmu (Nat.not_lt_zero _)
          | succ nn49 ih49 =>
            intro c k1 r' hcc hk1 hs1 hmu49 H locs hP hD hS ls hl
            refine lv_iload (pc := 49) hx hb dX10_aesKey_49 (lv_at hl 0 rfl) ?_
            refine lv_iconst (pc := 51) (v := nI 4) hx hb dX10_aesKey_51 (by decide +kernel) ?_
            refine lv_aload_n (pc := 52) hx hb dX10_aesKey_52 rfl (lv_at hl 3 rfl) ?_
            refine va_get (pc := 53) (D := D) (ci := 8) (v := .int (nI 14)) (C := RX10) (T := TX10) (N := 57) hx hb hts iu10 hown hK hP 0 rfl rfl 17 (by decide) (hts _ tw_1062) (fun _ h9 => h9) rfl dX10_aesKey_53 ?_
            refine lv_iconst (pc := 56) (v := nI 1) hx hb dX10_aesKey_56 (by decide +kernel) ?_
            refine lv_iadd (pc := 57) hx hb dX10_aesKey_57 ?_
            refine q_top (y := nI 15) (by decide +kernel) ?_
            refine lv_imul (pc := 58) hx hb dX10_aesKey_58 ?_
            refine q_top (y := nI 60) (by decide +kernel) ?_
            refine lv_icmp_ge (pc := 59) (tgt := 241) hx hb dX10_aesKey_59 (by decide) (fun c_2 => ?_) (fun c_2 => ?_)
            · skip
              rw [nI_leI (by omega) (by omega)] at c_2
              have hq_3 : (∀ j, j < 16 * (8 + 6 + 1) → r' j = aKey (fun j => gk (fr + j)) 8 (4 * (8 + 6 + 1) - 8) j) := by
                intro j hj; rw [show 4 * (8 + 6 + 1) - 8 = c by omega]; exact hs1 j (by omega)
              exact hret (r') _ _ _ _ dX10_aesKey_241 hq_3 (hP.sub [0, 1, 2, 3] rfl) (hD.sub [0, 1, 2, 3] (by decide) rfl) hS
            · skip
              rw [nI_leI (by omega) (by omega)] at c_2
              refine lv_iconst (pc := 62) (v := nI 0) hx hb dX10_aesKey_62 (by decide +kernel) ?_
              refine lv_istore (pc := 63) (lv' := [(7, .int (nI 0)), (6, .int (nI (8 + c))), (5, .int (qz k1)), (4, .int (nI 8)), (0, .ref h0), (1, .ref hk), (2, .int (nI fr)), (3, .int (nI 32))]) hx hb dX10_aesKey_63 hl (by decide) rfl (fun ls hl => ?_)
              have LP65 : ∀ (nn65 : Nat) (d : Nat) (d' : Nat → BitVec 8), (d ≤ 4) → (∀ j, j < 4 * (8 + c) + d → d' j = aKey (fun j => gk (fr + j)) 8 (c + 1) j) → (4 - d < nn65) → ∀ (H : Heap) (locs : List Loc), va_P D vwCl [(h0, oM a 14 mn tp osz lsz ns ct), (a 8, aZ ta 256 BOX), (a 16, aS ta 240 d'), (hk, aS ta capk gk)] H → va_D A [(h0, oM a 14 mn tp osz lsz ns ct), (a 8, aZ ta 256 BOX), (a 16, aS ta 240 d'), (hk, aS ta capk gk)] → va_S A ss.heap H locs → ∀ ls : Array Slot, lv_has ls 9 [(7, .int (nI d)), (6, .int (nI (8 + c))), (5, .int (qz k1)), (4, .int (nI 8)), (0, .ref h0), (1, .ref hk), (2, .int (nI fr)), (3, .int (nI 32))] → W pp ll ee ({ frames := 1, cells := 0, slots := 0, locals := 20 } : Room) ss mm (([.ref h0, .ref hk, .int (nI fr), .int (nI 32)] : List Value).toArray) below meth kc H locs 0 0 Q (F0 mm 65 ls []) := by
                intro nn65
                induction nn65 with
                | zero => intro d d' hdd hs2 hmu; exact absurd hmu (Nat.not_lt_zero _)
                | succ nn65 ih65 =>
                  intro d d' hdd hs2 hmu65 H locs hP hD hS ls hl
                  refine lv_iload (pc := 65) hx hb dX10_aesKey_65 (lv_at hl 0 rfl) ?_
                  refine lv_iconst (pc := 67) (v := nI 4) hx hb dX10_aesKey_67 (by decide +kernel) ?_
                  refine lv_icmp_ge (pc := 68) (tgt := 220) hx hb dX10_aesKey_68 (by decide) (fun c_4 => ?_) (fun c_4 => ?_)
                  · skip
                    rw [nI_leI (by omega) (by omega)] at c_4
                    refine lv_iload (pc := 220) hx hb dX10_aesKey_220 (lv_at hl 1 rfl) ?_
                    refine lv_iload (pc := 222) hx hb dX10_aesKey_222 (lv_at hl 3 rfl) ?_
                    refine lv_irem (pc := 224) hx hb dX10_aesKey_224 (q_ne0 (by omega) (by omega)) ?_
                    refine q_top (y := nI ((8 + c) % 8)) (pk_rem (by omega) (by omega) (by omega)) ?_
                    refine lv_if_ne (pc := 225) (tgt := 235) hx hb dX10_aesKey_225 (by decide) (fun c_5 => ?_) (fun c_5 => ?_)
                    · skip
                      rw [q_eq0 (by omega)] at c_5
                      refine lv_iinc (pc := 235) (v := nI (8 + c + 1)) (lv' := [(6, .int (nI (8 + c + 1))), (7, .int (nI d)), (5, .int (qz k1)), (4, .int (nI 8)), (0, .ref h0), (1, .ref hk), (2, .int (nI fr)), (3, .int (nI 32))]) hx hb dX10_aesKey_235 hl (k := 1) rfl (by first | exact nI_add (8 + c) 1 | rfl) (by decide) rfl (fun ls hl => ?_)
                      refine lv_goto (pc := 238) (tgt := 49) hx hb dX10_aesKey_238 (by decide) ?_
                      exact ih49 (c + 1) k1 d' (by omega) (by subst hk1; first | (rw [show (8 + (c + 1) - 1) / 8 = (8 + c - 1) / 8 + 1 by omega]; rfl) | (rw [show (8 + (c + 1) - 1) / 8 = (8 + c - 1) / 8 by omega])) (by rw [show 4 * (8 + (c + 1)) = 4 * (8 + c) + d by omega]; exact hs2) (by omega) _ _ (hP.sub [0, 1, 2, 3] rfl) (hD.sub [0, 1, 2, 3] (by decide) rfl) hS ls (lv_sub hl [0, 2, 3, 4, 5, 6, 7] rfl)
                    · skip
                      rw [q_eq0 (by omega)] at c_5
                      refine lv_iload (pc := 228) hx hb dX10_aesKey_228 (lv_at hl 2 rfl) ?_
                      refine cs_S (pc := 230) (idx := 48) (n := 1) (wr := [(h0, oM a 14 mn tp osz lsz ns ct), (a 8, aZ ta 256 BOX), (a 16, aS ta 240 d'), (hk, aS ta capk gk)]) (As := [.int (qz k1)]) (rest := []) hx hb hml hown hts hGok hK hA hG hl.1 hP hD hS (ct_X10_twice ll D ta hGok k1  H.size) tw_1044 tw_1042 tw_1043 tw_75 hdX10_twice rfl ⟨rfl, rfl, Nat.le_of_ble_eq_true rfl, Nat.le_of_ble_eq_true rfl, Nat.le_of_ble_eq_true rfl, Nat.le_of_ble_eq_true rfl⟩ [] [0, 1, 2, 3] rfl rfl (by decide) rfl (Nat.le_of_ble_eq_true rfl) dX10_aesKey_230 (fun u H locs hq hP hD hS => ?_)
                      refine W.eq (g2 := F0 mm 233 ls [.int (qz (xt k1))]) rfl ?_
                      have hP : va_P D vwCl [(h0, oM a 14 mn tp osz lsz ns ct), (a 8, aZ ta 256 BOX), (a 16, aS ta 240 d'), (hk, aS ta capk gk)] H := hP
                      have hD : va_D A [(h0, oM a 14 mn tp osz lsz ns ct), (a 8, aZ ta 256 BOX), (a 16, aS ta 240 d'), (hk, aS ta capk gk)] := hD
                      refine lv_istore (pc := 233) (lv' := [(5, .int (qz (xt k1))), (7, .int (nI d)), (6, .int (nI (8 + c))), (4, .int (nI 8)), (0, .ref h0), (1, .ref hk), (2, .int (nI fr)), (3, .int (nI 32))]) hx hb dX10_aesKey_233 hl (by decide) rfl (fun ls hl => ?_)
                      refine lv_iinc (pc := 235) (v := nI (8 + c + 1)) (lv' := [(6, .int (nI (8 + c + 1))), (5, .int (qz (xt k1))), (7, .int (nI d)), (4, .int (nI 8)), (0, .ref h0), (1, .ref hk), (2, .int (nI fr)), (3, .int (nI 32))]) hx hb dX10_aesKey_235 hl (k := 2) rfl (by first | exact nI_add (8 + c) 1 | rfl) (by decide) rfl (fun ls hl => ?_)
                      refine lv_goto (pc := 238) (tgt := 49) hx hb dX10_aesKey_238 (by decide) ?_
                      exact ih49 (c + 1) (xt k1) d' (by omega) (by subst hk1; first | (rw [show (8 + (c + 1) - 1) / 8 = (8 + c - 1) / 8 + 1 by omega]; rfl) | (rw [show (8 + (c + 1) - 1) / 8 = (8 + c - 1) / 8 by omega])) (by rw [show 4 * (8 + (c + 1)) = 4 * (8 + c) + d by omega]; exact hs2) (by omega) _ _ (hP.sub [0, 1, 2, 3] rfl) (hD.sub [0, 1, 2, 3] (by decide) rfl) hS ls (lv_sub hl [0, 1, 3, 4, 5, 6, 7] rfl)
                  · skip
                    rw [nI_leI (by omega) (by omega)] at c_4
                    refine lv_iload (pc := 71) hx hb dX10_aesKey_71 (lv_at hl 1 rfl) ?_
                    refine lv_iload (pc := 73) hx hb dX10_aesKey_73 (lv_at hl 3 rfl) ?_
                    refine lv_irem (pc := 75) hx hb dX10_aesKey_75 (q_ne0 (by omega) (by omega)) ?_
                    refine q_top (y := nI ((8 + c) % 8)) (pk_rem (by omega) (by omega) (by omega)) ?_
                    refine lv_if_ne (pc := 76) (tgt := 123) hx hb dX10_aesKey_76 (by decide) (fun c_6 => ?_) (fun c_6 => ?_)
                    · skip
                      rw [q_eq0 (by omega)] at c_6
                      have h76 := c_6
                      refine lv_iload (pc := 123) hx hb dX10_aesKey_123 (lv_at hl 3 rfl) ?_
                      refine lv_bipush (pc := 125) (v := nI 8) hx hb dX10_aesKey_125 (by decide +kernel) ?_
                      refine lv_icmp_ne (pc := 127) (tgt := 167) hx hb dX10_aesKey_127 (by decide) (fun c_7 => absurd (by decide) c_7) (fun _ => ?_)
                      refine lv_iload (pc := 130) hx hb dX10_aesKey_130 (lv_at hl 1 rfl) ?_
                      refine lv_bipush (pc := 132) (v := nI 8) hx hb dX10_aesKey_132 (by decide +kernel) ?_
                      refine lv_irem (pc := 134) hx hb dX10_aesKey_134 (q_ne0 (by omega) (by omega)) ?_
                      refine q_top (y := nI ((8 + c) % 8)) (pk_rem (by omega) (by omega) (by omega)) ?_
                      refine lv_iconst (pc := 135) (v := nI 4) hx hb dX10_aesKey_135 (by decide +kernel) ?_
                      refine lv_icmp_ne (pc := 136) (tgt := 167) hx hb dX10_aesKey_136 (by decide) (fun c_8 => ?_) (fun c_8 => ?_)
                      · skip
                        rw [nI_eq (by omega) (by omega)] at c_8
                        have h136 := c_8
                        refine lv_aload_n (pc := 167) hx hb dX10_aesKey_167 rfl (lv_at hl 4 rfl) ?_
                        refine va_get (pc := 168) (D := D) (ci := 8) (v := .ref (a 16)) (C := RX10) (T := TX10) (N := 57) hx hb hts iu10 hown hK hP 0 rfl rfl 16 (by decide) (hts _ tw_1061) (fun _ h9 => h9) rfl dX10_aesKey_168 ?_
                        refine lv_iconst (pc := 171) (v := nI 4) hx hb dX10_aesKey_171 (by decide +kernel) ?_
                        refine lv_iload (pc := 172) hx hb dX10_aesKey_172 (lv_at hl 1 rfl) ?_
                        refine lv_iconst (pc := 174) (v := nI 1) hx hb dX10_aesKey_174 (by decide +kernel) ?_
                        refine lv_isub (pc := 175) hx hb dX10_aesKey_175 ?_
                        refine q_top (y := nI (8 + c - 1)) (pk_sub (a := 8 + c) (b := 1) (by omega)) ?_
                        refine lv_imul (pc := 176) hx hb dX10_aesKey_176 ?_
                        refine q_top (y := nI (4 * (8 + c - 1))) (pk_mul 4 (8 + c - 1)) ?_
                        refine lv_iload (pc := 177) hx hb dX10_aesKey_177 (lv_at hl 0 rfl) ?_
                        refine lv_iadd (pc := 179) hx hb dX10_aesKey_179 ?_
                        refine q_top (y := nI (4 * (8 + c - 1) + d)) (nI_add (4 * (8 + c - 1)) d) ?_
                        refine q_bald (pc := 180) hx hb hK hP 2 2 rfl rfl (k := 4 * (8 + c - 1) + d) (v := qs (d' (4 * (8 + c - 1) + d))) rfl (by omega) (by omega) rfl dX10_aesKey_180 ?_
                        refine lv_istore (pc := 181) (lv' := [(8, .int (qs (d' (4 * (8 + c - 1) + d)))), (7, .int (nI d)), (6, .int (nI (8 + c))), (5, .int (qz k1)), (4, .int (nI 8)), (0, .ref h0), (1, .ref hk), (2, .int (nI fr)), (3, .int (nI 32))]) hx hb dX10_aesKey_181 hl (by decide) rfl (fun ls hl => ?_)
                        refine lv_aload_n (pc := 183) hx hb dX10_aesKey_183 rfl (lv_at hl 5 rfl) ?_
                        refine va_get (pc := 184) (D := D) (ci := 8) (v := .ref (a 16)) (C := RX10) (T := TX10) (N := 57) hx hb hts iu10 hown hK hP 0 rfl rfl 16 (by decide) (hts _ tw_1061) (fun _ h9 => h9) rfl dX10_aesKey_184 ?_
                        refine lv_iconst (pc := 187) (v := nI 4) hx hb dX10_aesKey_187 (by decide +kernel) ?_
                        refine lv_iload (pc := 188) hx hb dX10_aesKey_188 (lv_at hl 2 rfl) ?_
                        refine lv_imul (pc := 190) hx hb dX10_aesKey_190 ?_
                        refine q_top (y := nI (4 * (8 + c))) (pk_mul 4 (8 + c)) ?_
                        refine lv_iload (pc := 191) hx hb dX10_aesKey_191 (lv_at hl 1 rfl) ?_
                        refine lv_iadd (pc := 193) hx hb dX10_aesKey_193 ?_
                        refine q_top (y := nI (4 * (8 + c) + d)) (nI_add (4 * (8 + c)) d) ?_
                        refine lv_aload_n (pc := 194) hx hb dX10_aesKey_194 rfl (lv_at hl 5 rfl) ?_
                        refine va_get (pc := 195) (D := D) (ci := 8) (v := .ref (a 16)) (C := RX10) (T := TX10) (N := 57) hx hb hts iu10 hown hK hP 0 rfl rfl 16 (by decide) (hts _ tw_1061) (fun _ h9 => h9) rfl dX10_aesKey_195 ?_
                        refine lv_iconst (pc := 198) (v := nI 4) hx hb dX10_aesKey_198 (by decide +kernel) ?_
                        refine lv_iload (pc := 199) hx hb dX10_aesKey_199 (lv_at hl 2 rfl) ?_
                        refine lv_iload (pc := 201) hx hb dX10_aesKey_201 (lv_at hl 4 rfl) ?_
                        refine lv_isub (pc := 203) hx hb dX10_aesKey_203 ?_
                        refine q_top (y := nI (8 + c - 8)) (pk_sub (a := 8 + c) (b := 8) (by omega)) ?_
                        refine lv_imul (pc := 204) hx hb dX10_aesKey_204 ?_
                        refine q_top (y := nI (4 * (8 + c - 8))) (pk_mul 4 (8 + c - 8)) ?_
                        refine lv_iload (pc := 205) hx hb dX10_aesKey_205 (lv_at hl 1 rfl) ?_
                        refine lv_iadd (pc := 207) hx hb dX10_aesKey_207 ?_
                        refine q_top (y := nI (4 * (8 + c - 8) + d)) (nI_add (4 * (8 + c - 8)) d) ?_
                        refine q_bald (pc := 208) hx hb hK hP 2 2 rfl rfl (k := 4 * (8 + c - 8) + d) (v := qs (d' (4 * (8 + c - 8) + d))) rfl (by omega) (by omega) rfl dX10_aesKey_208 ?_
                        refine lv_iload (pc := 209) hx hb dX10_aesKey_209 (lv_at hl 0 rfl) ?_
                        refine lv_ixor (pc := 211) hx hb dX10_aesKey_211 ?_
                        refine q_top (y := qs ((d' (4 * (8 + c - 8) + d)) ^^^ (d' (4 * (8 + c - 1) + d)))) (q_xor_s _ _) ?_
                        refine lv_i2b (pc := 212) (v := qs ((d' (4 * (8 + c - 8) + d)) ^^^ (d' (4 * (8 + c - 1) + d)))) hx hb dX10_aesKey_212 (q_i2b_s _) ?_
                        refine q_bastS (pc := 213) hx hb hK hP hD hS 2 2 rfl rfl (k := 4 * (8 + c) + d) rfl (by omega) (by omega) (b := (d' (4 * (8 + c - 8) + d)) ^^^ (d' (4 * (8 + c - 1) + d))) (qlo_qs _) dX10_aesKey_213 (fun H locs hP hD hS => ?_)
                        have hP : va_P D vwCl [(h0, oM a 14 mn tp osz lsz ns ct), (a 8, aZ ta 256 BOX), (a 16, aS ta 240 (qU d' (4 * (8 + c) + d) ((d' (4 * (8 + c - 8) + d)) ^^^ (d' (4 * (8 + c - 1) + d))))), (hk, aS ta capk gk)] H := hP
                        have hD : va_D A [(h0, oM a 14 mn tp osz lsz ns ct), (a 8, aZ ta 256 BOX), (a 16, aS ta 240 (qU d' (4 * (8 + c) + d) ((d' (4 * (8 + c - 8) + d)) ^^^ (d' (4 * (8 + c - 1) + d))))), (hk, aS ta capk gk)] := hD
                        refine lv_iinc (pc := 214) (v := nI (d + 1)) (lv' := [(7, .int (nI (d + 1))), (8, .int (qs (d' (4 * (8 + c - 1) + d)))), (6, .int (nI (8 + c))), (5, .int (qz k1)), (4, .int (nI 8)), (0, .ref h0), (1, .ref hk), (2, .int (nI fr)), (3, .int (nI 32))]) hx hb dX10_aesKey_214 hl (k := 1) rfl (by first | exact nI_add d 1 | rfl) (by decide) rfl (fun ls hl => ?_)
                        refine lv_goto (pc := 217) (tgt := 65) hx hb dX10_aesKey_217 (by decide) ?_
                        have hold : ∀ j, j < 4 * (8 + c) → d' j = aKey (fun j => gk (fr + j)) 8 c j := by
                          intro j hj
                          rw [hs2 j (by omega), aKey_old (by omega)]
                        exact ih65 (d + 1) (qU d' (4 * (8 + c) + d) ((d' (4 * (8 + c - 8) + d)) ^^^ (d' (4 * (8 + c - 1) + d)))) (by omega) (by
                              intro j hj
                              rcases Nat.lt_or_ge j (4 * (8 + c) + d) with q | q
                              · rw [qU_ne (by omega)]
                                exact hs2 j q
                              · obtain rfl : j = 4 * (8 + c) + d := by omega
                                rw [qU_same]
                                simp only [aKey, show (4 * (8 + c) + d) / 4 = 8 + c by omega, show (4 * (8 + c) + d) % 4 = d by omega, if_pos, qlo_xor, qlo_qs, qlo_qz, show 4 * (8 + c - 8) + d = 4 * c + d by omega]
                                rw [hold _ (by omega), hold _ (by omega)]
                                first | rw [if_pos h76, if_pos h108, hk1] | rw [if_pos h76, if_neg h108] | (rw [if_neg h76]; simp only [true_and]; first | rw [if_pos h136] | rw [if_neg h136])) (by omega) _ _ (hP.sub [0, 1, 2, 3] rfl) (hD.sub [0, 1, 2, 3] (by decide) rfl) hS ls (lv_sub hl [0, 2, 3, 4, 5, 6, 7, 8] rfl)
                      · skip
                        rw [nI_eq (by omega) (by omega)] at c_8
                        have h136 := c_8
                        refine lv_aload_n (pc := 139) hx hb dX10_aesKey_139 rfl (lv_at hl 4 rfl) ?_
                        refine va_get (pc := 140) (D := D) (ci := 8) (v := .ref (a 8)) (C := RX10) (T := TX10) (N := 57) hx hb hts iu10 hown hK hP 0 rfl rfl 8 (by decide) (hts _ tw_1053) (fun _ h9 => h9) rfl dX10_aesKey_140 ?_
                        refine lv_aload_n (pc := 143) hx hb dX10_aesKey_143 rfl (lv_at hl 4 rfl) ?_
                        refine va_get (pc := 144) (D := D) (ci := 8) (v := .ref (a 16)) (C := RX10) (T := TX10) (N := 57) hx hb hts iu10 hown hK hP 0 rfl rfl 16 (by decide) (hts _ tw_1061) (fun _ h9 => h9) rfl dX10_aesKey_144 ?_
                        refine lv_iconst (pc := 147) (v := nI 4) hx hb dX10_aesKey_147 (by decide +kernel) ?_
                        refine lv_iload (pc := 148) hx hb dX10_aesKey_148 (lv_at hl 1 rfl) ?_
                        refine lv_iconst (pc := 150) (v := nI 1) hx hb dX10_aesKey_150 (by decide +kernel) ?_
                        refine lv_isub (pc := 151) hx hb dX10_aesKey_151 ?_
                        refine q_top (y := nI (8 + c - 1)) (pk_sub (a := 8 + c) (b := 1) (by omega)) ?_
                        refine lv_imul (pc := 152) hx hb dX10_aesKey_152 ?_
                        refine q_top (y := nI (4 * (8 + c - 1))) (pk_mul 4 (8 + c - 1)) ?_
                        refine lv_iload (pc := 153) hx hb dX10_aesKey_153 (lv_at hl 0 rfl) ?_
                        refine lv_iadd (pc := 155) hx hb dX10_aesKey_155 ?_
                        refine q_top (y := nI (4 * (8 + c - 1) + d)) (nI_add (4 * (8 + c - 1)) d) ?_
                        refine q_bald (pc := 156) hx hb hK hP 2 2 rfl rfl (k := 4 * (8 + c - 1) + d) (v := qs (d' (4 * (8 + c - 1) + d))) rfl (by omega) (by omega) rfl dX10_aesKey_156 ?_
                        refine lv_sipush (pc := 157) (v := nI 255) hx hb dX10_aesKey_157 (by decide +kernel) ?_
                        refine lv_iand (pc := 160) hx hb dX10_aesKey_160 ?_
                        refine q_top (y := qz (d' (4 * (8 + c - 1) + d))) ((q_m255 _).trans (congrArg qz (qlo_qs _))) ?_
                        refine q_iald (pc := 161) hx hb hK hP 1 0 rfl rfl (k := (d' (4 * (8 + c - 1) + d)).toNat) (v := qz (BOX ((d' (4 * (8 + c - 1) + d)).toNat))) (qz_nat _) (BitVec.isLt _) (by omega) rfl dX10_aesKey_161 ?_
                        refine lv_istore (pc := 162) (lv' := [(8, .int (qz (BOX ((d' (4 * (8 + c - 1) + d)).toNat)))), (7, .int (nI d)), (6, .int (nI (8 + c))), (5, .int (qz k1)), (4, .int (nI 8)), (0, .ref h0), (1, .ref hk), (2, .int (nI fr)), (3, .int (nI 32))]) hx hb dX10_aesKey_162 hl (by decide) rfl (fun ls hl => ?_)
                        refine lv_goto (pc := 164) (tgt := 183) hx hb dX10_aesKey_164 (by decide) ?_
                        refine lv_aload_n (pc := 183) hx hb dX10_aesKey_183 rfl (lv_at hl 5 rfl) ?_
                        refine va_get (pc := 184) (D := D) (ci := 8) (v := .ref (a 16)) (C := RX10) (T := TX10) (N := 57) hx hb hts iu10 hown hK hP 0 rfl rfl 16 (by decide) (hts _ tw_1061) (fun _ h9 => h9) rfl dX10_aesKey_184 ?_
                        refine lv_iconst (pc := 187) (v := nI 4) hx hb dX10_aesKey_187 (by decide +kernel) ?_
                        refine lv_iload (pc := 188) hx hb dX10_aesKey_188 (lv_at hl 2 rfl) ?_
                        refine lv_imul (pc := 190) hx hb dX10_aesKey_190 ?_
                        refine q_top (y := nI (4 * (8 + c))) (pk_mul 4 (8 + c)) ?_
                        refine lv_iload (pc := 191) hx hb dX10_aesKey_191 (lv_at hl 1 rfl) ?_
                        refine lv_iadd (pc := 193) hx hb dX10_aesKey_193 ?_
                        refine q_top (y := nI (4 * (8 + c) + d)) (nI_add (4 * (8 + c)) d) ?_
                        refine lv_aload_n (pc := 194) hx hb dX10_aesKey_194 rfl (lv_at hl 5 rfl) ?_
                        refine va_get (pc := 195) (D := D) (ci := 8) (v := .ref (a 16)) (C := RX10) (T := TX10) (N := 57) hx hb hts iu10 hown hK hP 0 rfl rfl 16 (by decide) (hts _ tw_1061) (fun _ h9 => h9) rfl dX10_aesKey_195 ?_
                        refine lv_iconst (pc := 198) (v := nI 4) hx hb dX10_aesKey_198 (by decide +kernel) ?_
                        refine lv_iload (pc := 199) hx hb dX10_aesKey_199 (lv_at hl 2 rfl) ?_
                        refine lv_iload (pc := 201) hx hb dX10_aesKey_201 (lv_at hl 4 rfl) ?_
                        refine lv_isub (pc := 203) hx hb dX10_aesKey_203 ?_
                        refine q_top (y := nI (8 + c - 8)) (pk_sub (a := 8 + c) (b := 8) (by omega)) ?_
                        refine lv_imul (pc := 204) hx hb dX10_aesKey_204 ?_
                        refine q_top (y := nI (4 * (8 + c - 8))) (pk_mul 4 (8 + c - 8)) ?_
                        refine lv_iload (pc := 205) hx hb dX10_aesKey_205 (lv_at hl 1 rfl) ?_
                        refine lv_iadd (pc := 207) hx hb dX10_aesKey_207 ?_
                        refine q_top (y := nI (4 * (8 + c - 8) + d)) (nI_add (4 * (8 + c - 8)) d) ?_
                        refine q_bald (pc := 208) hx hb hK hP 2 2 rfl rfl (k := 4 * (8 + c - 8) + d) (v := qs (d' (4 * (8 + c - 8) + d))) rfl (by omega) (by omega) rfl dX10_aesKey_208 ?_
                        refine lv_iload (pc := 209) hx hb dX10_aesKey_209 (lv_at hl 0 rfl) ?_
                        refine lv_ixor (pc := 211) hx hb dX10_aesKey_211 ?_
                        refine lv_i2b (pc := 212) (v := qs (qlo ((qs (d' (4 * (8 + c - 8) + d))) ^^^ (qz (BOX ((d' (4 * (8 + c - 1) + d)).toNat)))))) hx hb dX10_aesKey_212 (q_i2b _) ?_
                        refine q_bastS (pc := 213) hx hb hK hP hD hS 2 2 rfl rfl (k := 4 * (8 + c) + d) rfl (by omega) (by omega) (b := qlo ((qs (d' (4 * (8 + c - 8) + d))) ^^^ (qz (BOX ((d' (4 * (8 + c - 1) + d)).toNat))))) (qlo_qs _) dX10_aesKey_213 (fun H locs hP hD hS => ?_)
                        have hP : va_P D vwCl [(h0, oM a 14 mn tp osz lsz ns ct), (a 8, aZ ta 256 BOX), (a 16, aS ta 240 (qU d' (4 * (8 + c) + d) (qlo ((qs (d' (4 * (8 + c - 8) + d))) ^^^ (qz (BOX ((d' (4 * (8 + c - 1) + d)).toNat))))))), (hk, aS ta capk gk)] H := hP
                        have hD : va_D A [(h0, oM a 14 mn tp osz lsz ns ct), (a 8, aZ ta 256 BOX), (a 16, aS ta 240 (qU d' (4 * (8 + c) + d) (qlo ((qs (d' (4 * (8 + c - 8) + d))) ^^^ (qz (BOX ((d' (4 * (8 + c - 1) + d)).toNat))))))), (hk, aS ta capk gk)] := hD
                        refine lv_iinc (pc := 214) (v := nI (d + 1)) (lv' := [(7, .int (nI (d + 1))), (8, .int (qz (BOX ((d' (4 * (8 + c - 1) + d)).toNat)))), (6, .int (nI (8 + c))), (5, .int (qz k1)), (4, .int (nI 8)), (0, .ref h0), (1, .ref hk), (2, .int (nI fr)), (3, .int (nI 32))]) hx hb dX10_aesKey_214 hl (k := 1) rfl (by first | exact nI_add d 1 | rfl) (by decide) rfl (fun ls hl => ?_)
                        refine lv_goto (pc := 217) (tgt := 65) hx hb dX10_aesKey_217 (by decide) ?_
                        have hold : ∀ j, j < 4 * (8 + c) → d' j = aKey (fun j => gk (fr + j)) 8 c j := by
                          intro j hj
                          rw [hs2 j (by omega), aKey_old (by omega)]
                        exact ih65 (d + 1) (qU d' (4 * (8 + c) + d) (qlo ((qs (d' (4 * (8 + c - 8) + d))) ^^^ (qz (BOX ((d' (4 * (8 + c - 1) + d)).toNat)))))) (by omega) (by
                              intro j hj
                              rcases Nat.lt_or_ge j (4 * (8 + c) + d) with q | q
                              · rw [qU_ne (by omega)]
                                exact hs2 j q
                              · obtain rfl : j = 4 * (8 + c) + d := by omega
                                rw [qU_same]
                                simp only [aKey, show (4 * (8 + c) + d) / 4 = 8 + c by omega, show (4 * (8 + c) + d) % 4 = d by omega, if_pos, qlo_xor, qlo_qs, qlo_qz, show 4 * (8 + c - 8) + d = 4 * c + d by omega]
                                rw [hold _ (by omega), hold _ (by omega)]
                                first | rw [if_pos h76, if_pos h108, hk1] | rw [if_pos h76, if_neg h108] | (rw [if_neg h76]; simp only [true_and]; first | rw [if_pos h136] | rw [if_neg h136])) (by omega) _ _ (hP.sub [0, 1, 2, 3] rfl) (hD.sub [0, 1, 2, 3] (by decide) rfl) hS ls (lv_sub hl [0, 2, 3, 4, 5, 6, 7, 8] rfl)
                    · skip
                      rw [q_eq0 (by omega)] at c_6
                      have h76 := c_6
                      refine lv_aload_n (pc := 79) hx hb dX10_aesKey_79 rfl (lv_at hl 4 rfl) ?_
                      refine va_get (pc := 80) (D := D) (ci := 8) (v := .ref (a 8)) (C := RX10) (T := TX10) (N := 57) hx hb hts iu10 hown hK hP 0 rfl rfl 8 (by decide) (hts _ tw_1053) (fun _ h9 => h9) rfl dX10_aesKey_80 ?_
                      refine lv_aload_n (pc := 83) hx hb dX10_aesKey_83 rfl (lv_at hl 4 rfl) ?_
                      refine va_get (pc := 84) (D := D) (ci := 8) (v := .ref (a 16)) (C := RX10) (T := TX10) (N := 57) hx hb hts iu10 hown hK hP 0 rfl rfl 16 (by decide) (hts _ tw_1061) (fun _ h9 => h9) rfl dX10_aesKey_84 ?_
                      refine lv_iconst (pc := 87) (v := nI 4) hx hb dX10_aesKey_87 (by decide +kernel) ?_
                      refine lv_iload (pc := 88) hx hb dX10_aesKey_88 (lv_at hl 1 rfl) ?_
                      refine lv_iconst (pc := 90) (v := nI 1) hx hb dX10_aesKey_90 (by decide +kernel) ?_
                      refine lv_isub (pc := 91) hx hb dX10_aesKey_91 ?_
                      refine q_top (y := nI (8 + c - 1)) (pk_sub (a := 8 + c) (b := 1) (by omega)) ?_
                      refine lv_imul (pc := 92) hx hb dX10_aesKey_92 ?_
                      refine q_top (y := nI (4 * (8 + c - 1))) (pk_mul 4 (8 + c - 1)) ?_
                      refine lv_iload (pc := 93) hx hb dX10_aesKey_93 (lv_at hl 0 rfl) ?_
                      refine lv_iconst (pc := 95) (v := nI 1) hx hb dX10_aesKey_95 (by decide +kernel) ?_
                      refine lv_iadd (pc := 96) hx hb dX10_aesKey_96 ?_
                      refine q_top (y := nI (d + 1)) (nI_add d 1) ?_
                      refine lv_iconst (pc := 97) (v := nI 4) hx hb dX10_aesKey_97 (by decide +kernel) ?_
                      refine lv_irem (pc := 98) hx hb dX10_aesKey_98 (q_ne0 (by omega) (by omega)) ?_
                      refine q_top (y := nI ((d + 1) % 4)) (pk_rem (by omega) (by omega) (by omega)) ?_
                      refine lv_iadd (pc := 99) hx hb dX10_aesKey_99 ?_
                      refine q_top (y := nI (4 * (8 + c - 1) + ((d + 1) % 4))) (nI_add (4 * (8 + c - 1)) ((d + 1) % 4)) ?_
                      refine q_bald (pc := 100) hx hb hK hP 2 2 rfl rfl (k := 4 * (8 + c - 1) + ((d + 1) % 4)) (v := qs (d' (4 * (8 + c - 1) + ((d + 1) % 4)))) rfl (by omega) (by omega) rfl dX10_aesKey_100 ?_
                      refine lv_sipush (pc := 101) (v := nI 255) hx hb dX10_aesKey_101 (by decide +kernel) ?_
                      refine lv_iand (pc := 104) hx hb dX10_aesKey_104 ?_
                      refine q_top (y := qz (d' (4 * (8 + c - 1) + ((d + 1) % 4)))) ((q_m255 _).trans (congrArg qz (qlo_qs _))) ?_
                      refine q_iald (pc := 105) hx hb hK hP 1 0 rfl rfl (k := (d' (4 * (8 + c - 1) + ((d + 1) % 4))).toNat) (v := qz (BOX ((d' (4 * (8 + c - 1) + ((d + 1) % 4))).toNat))) (qz_nat _) (BitVec.isLt _) (by omega) rfl dX10_aesKey_105 ?_
                      refine lv_iload (pc := 106) hx hb dX10_aesKey_106 (lv_at hl 0 rfl) ?_
                      refine lv_if_ne (pc := 108) (tgt := 116) hx hb dX10_aesKey_108 (by decide) (fun c_9 => ?_) (fun c_9 => ?_)
                      · skip
                        rw [q_eq0 (by omega)] at c_9
                        have h108 := c_9
                        refine lv_iconst (pc := 116) (v := nI 0) hx hb dX10_aesKey_116 (by decide +kernel) ?_
                        refine q_top (y := qz 0#8) rfl ?_
                        refine lv_ixor (pc := 117) hx hb dX10_aesKey_117 ?_
                        refine q_top (y := qz ((BOX ((d' (4 * (8 + c - 1) + ((d + 1) % 4))).toNat)) ^^^ (0#8))) (q_xor_z _ _) ?_
                        refine lv_istore (pc := 118) (lv' := [(8, .int (qz ((BOX ((d' (4 * (8 + c - 1) + ((d + 1) % 4))).toNat)) ^^^ (0#8)))), (7, .int (nI d)), (6, .int (nI (8 + c))), (5, .int (qz k1)), (4, .int (nI 8)), (0, .ref h0), (1, .ref hk), (2, .int (nI fr)), (3, .int (nI 32))]) hx hb dX10_aesKey_118 hl (by decide) rfl (fun ls hl => ?_)
                        refine lv_goto (pc := 120) (tgt := 183) hx hb dX10_aesKey_120 (by decide) ?_
                        refine lv_aload_n (pc := 183) hx hb dX10_aesKey_183 rfl (lv_at hl 5 rfl) ?_
                        refine va_get (pc := 184) (D := D) (ci := 8) (v := .ref (a 16)) (C := RX10) (T := TX10) (N := 57) hx hb hts iu10 hown hK hP 0 rfl rfl 16 (by decide) (hts _ tw_1061) (fun _ h9 => h9) rfl dX10_aesKey_184 ?_
                        refine lv_iconst (pc := 187) (v := nI 4) hx hb dX10_aesKey_187 (by decide +kernel) ?_
                        refine lv_iload (pc := 188) hx hb dX10_aesKey_188 (lv_at hl 2 rfl) ?_
                        refine lv_imul (pc := 190) hx hb dX10_aesKey_190 ?_
                        refine q_top (y := nI (4 * (8 + c))) (pk_mul 4 (8 + c)) ?_
                        refine lv_iload (pc := 191) hx hb dX10_aesKey_191 (lv_at hl 1 rfl) ?_
                        refine lv_iadd (pc := 193) hx hb dX10_aesKey_193 ?_
                        refine q_top (y := nI (4 * (8 + c) + d)) (nI_add (4 * (8 + c)) d) ?_
                        refine lv_aload_n (pc := 194) hx hb dX10_aesKey_194 rfl (lv_at hl 5 rfl) ?_
                        refine va_get (pc := 195) (D := D) (ci := 8) (v := .ref (a 16)) (C := RX10) (T := TX10) (N := 57) hx hb hts iu10 hown hK hP 0 rfl rfl 16 (by decide) (hts _ tw_1061) (fun _ h9 => h9) rfl dX10_aesKey_195 ?_
                        refine lv_iconst (pc := 198) (v := nI 4) hx hb dX10_aesKey_198 (by decide +kernel) ?_
                        refine lv_iload (pc := 199) hx hb dX10_aesKey_199 (lv_at hl 2 rfl) ?_
                        refine lv_iload (pc := 201) hx hb dX10_aesKey_201 (lv_at hl 4 rfl) ?_
                        refine lv_isub (pc := 203) hx hb dX10_aesKey_203 ?_
                        refine q_top (y := nI (8 + c - 8)) (pk_sub (a := 8 + c) (b := 8) (by omega)) ?_
                        refine lv_imul (pc := 204) hx hb dX10_aesKey_204 ?_
                        refine q_top (y := nI (4 * (8 + c - 8))) (pk_mul 4 (8 + c - 8)) ?_
                        refine lv_iload (pc := 205) hx hb dX10_aesKey_205 (lv_at hl 1 rfl) ?_
                        refine lv_iadd (pc := 207) hx hb dX10_aesKey_207 ?_
                        refine q_top (y := nI (4 * (8 + c - 8) + d)) (nI_add (4 * (8 + c - 8)) d) ?_
                        refine q_bald (pc := 208) hx hb hK hP 2 2 rfl rfl (k := 4 * (8 + c - 8) + d) (v := qs (d' (4 * (8 + c - 8) + d))) rfl (by omega) (by omega) rfl dX10_aesKey_208 ?_
                        refine lv_iload (pc := 209) hx hb dX10_aesKey_209 (lv_at hl 0 rfl) ?_
                        refine lv_ixor (pc := 211) hx hb dX10_aesKey_211 ?_
                        refine lv_i2b (pc := 212) (v := qs (qlo ((qs (d' (4 * (8 + c - 8) + d))) ^^^ (qz ((BOX ((d' (4 * (8 + c - 1) + ((d + 1) % 4))).toNat)) ^^^ (0#8)))))) hx hb dX10_aesKey_212 (q_i2b _) ?_
                        refine q_bastS (pc := 213) hx hb hK hP hD hS 2 2 rfl rfl (k := 4 * (8 + c) + d) rfl (by omega) (by omega) (b := qlo ((qs (d' (4 * (8 + c - 8) + d))) ^^^ (qz ((BOX ((d' (4 * (8 + c - 1) + ((d + 1) % 4))).toNat)) ^^^ (0#8))))) (qlo_qs _) dX10_aesKey_213 (fun H locs hP hD hS => ?_)
                        have hP : va_P D vwCl [(h0, oM a 14 mn tp osz lsz ns ct), (a 8, aZ ta 256 BOX), (a 16, aS ta 240 (qU d' (4 * (8 + c) + d) (qlo ((qs (d' (4 * (8 + c - 8) + d))) ^^^ (qz ((BOX ((d' (4 * (8 + c - 1) + ((d + 1) % 4))).toNat)) ^^^ (0#8))))))), (hk, aS ta capk gk)] H := hP
                        have hD : va_D A [(h0, oM a 14 mn tp osz lsz ns ct), (a 8, aZ ta 256 BOX), (a 16, aS ta 240 (qU d' (4 * (8 + c) + d) (qlo ((qs (d' (4 * (8 + c - 8) + d))) ^^^ (qz ((BOX ((d' (4 * (8 + c - 1) + ((d + 1) % 4))).toNat)) ^^^ (0#8))))))), (hk, aS ta capk gk)] := hD
                        refine lv_iinc (pc := 214) (v := nI (d + 1)) (lv' := [(7, .int (nI (d + 1))), (8, .int (qz ((BOX ((d' (4 * (8 + c - 1) + ((d + 1) % 4))).toNat)) ^^^ (0#8)))), (6, .int (nI (8 + c))), (5, .int (qz k1)), (4, .int (nI 8)), (0, .ref h0), (1, .ref hk), (2, .int (nI fr)), (3, .int (nI 32))]) hx hb dX10_aesKey_214 hl (k := 1) rfl (by first | exact nI_add d 1 | rfl) (by decide) rfl (fun ls hl => ?_)
                        refine lv_goto (pc := 217) (tgt := 65) hx hb dX10_aesKey_217 (by decide) ?_
                        have hold : ∀ j, j < 4 * (8 + c) → d' j = aKey (fun j => gk (fr + j)) 8 c j := by
                          intro j hj
                          rw [hs2 j (by omega), aKey_old (by omega)]
                        exact ih65 (d + 1) (qU d' (4 * (8 + c) + d) (qlo ((qs (d' (4 * (8 + c - 8) + d))) ^^^ (qz ((BOX ((d' (4 * (8 + c - 1) + ((d + 1) % 4))).toNat)) ^^^ (0#8)))))) (by omega) (by
                              intro j hj
                              rcases Nat.lt_or_ge j (4 * (8 + c) + d) with q | q
                              · rw [qU_ne (by omega)]
                                exact hs2 j q
                              · obtain rfl : j = 4 * (8 + c) + d := by omega
                                rw [qU_same]
                                simp only [aKey, show (4 * (8 + c) + d) / 4 = 8 + c by omega, show (4 * (8 + c) + d) % 4 = d by omega, if_pos, qlo_xor, qlo_qs, qlo_qz, show 4 * (8 + c - 8) + d = 4 * c + d by omega]
                                rw [hold _ (by omega), hold _ (by omega)]
                                first | rw [if_pos h76, if_pos h108, hk1] | rw [if_pos h76, if_neg h108] | (rw [if_neg h76]; simp only [true_and]; first | rw [if_pos h136] | rw [if_neg h136])) (by omega) _ _ (hP.sub [0, 1, 2, 3] rfl) (hD.sub [0, 1, 2, 3] (by decide) rfl) hS ls (lv_sub hl [0, 2, 3, 4, 5, 6, 7, 8] rfl)
                      · skip
                        rw [q_eq0 (by omega)] at c_9
                        have h108 := c_9
                        refine lv_iload (pc := 111) hx hb dX10_aesKey_111 (lv_at hl 2 rfl) ?_
                        refine lv_goto (pc := 113) (tgt := 117) hx hb dX10_aesKey_113 (by decide) ?_
                        refine lv_ixor (pc := 117) hx hb dX10_aesKey_117 ?_
                        refine q_top (y := qz ((BOX ((d' (4 * (8 + c - 1) + ((d + 1) % 4))).toNat)) ^^^ k1)) (q_xor_z _ _) ?_
                        refine lv_istore (pc := 118) (lv' := [(8, .int (qz ((BOX ((d' (4 * (8 + c - 1) + ((d + 1) % 4))).toNat)) ^^^ k1))), (7, .int (nI d)), (6, .int (nI (8 + c))), (5, .int (qz k1)), (4, .int (nI 8)), (0, .ref h0), (1, .ref hk), (2, .int (nI fr)), (3, .int (nI 32))]) hx hb dX10_aesKey_118 hl (by decide) rfl (fun ls hl => ?_)
                        refine lv_goto (pc := 120) (tgt := 183) hx hb dX10_aesKey_120 (by decide) ?_
                        refine lv_aload_n (pc := 183) hx hb dX10_aesKey_183 rfl (lv_at hl 5 rfl) ?_
                        refine va_get (pc := 184) (D := D) (ci := 8) (v := .ref (a 16)) (C := RX10) (T := TX10) (N := 57) hx hb hts iu10 hown hK hP 0 rfl rfl 16 (by decide) (hts _ tw_1061) (fun _ h9 => h9) rfl dX10_aesKey_184 ?_
                        refine lv_iconst (pc := 187) (v := nI 4) hx hb dX10_aesKey_187 (by decide +kernel) ?_
                        refine lv_iload (pc := 188) hx hb dX10_aesKey_188 (lv_at hl 2 rfl) ?_
                        refine lv_imul (pc := 190) hx hb dX10_aesKey_190 ?_
                        refine q_top (y := nI (4 * (8 + c))) (pk_mul 4 (8 + c)) ?_
                        refine lv_iload (pc := 191) hx hb dX10_aesKey_191 (lv_at hl 1 rfl) ?_
                        refine lv_iadd (pc := 193) hx hb dX10_aesKey_193 ?_
                        refine q_top (y := nI (4 * (8 + c) + d)) (nI_add (4 * (8 + c)) d) ?_
                        refine lv_aload_n (pc := 194) hx hb dX10_aesKey_194 rfl (lv_at hl 5 rfl) ?_
                        refine va_get (pc := 195) (D := D) (ci := 8) (v := .ref (a 16)) (C := RX10) (T := TX10) (N := 57) hx hb hts iu10 hown hK hP 0 rfl rfl 16 (by decide) (hts _ tw_1061) (fun _ h9 => h9) rfl dX10_aesKey_195 ?_
                        refine lv_iconst (pc := 198) (v := nI 4) hx hb dX10_aesKey_198 (by decide +kernel) ?_
                        refine lv_iload (pc := 199) hx hb dX10_aesKey_199 (lv_at hl 2 rfl) ?_
                        refine lv_iload (pc := 201) hx hb dX10_aesKey_201 (lv_at hl 4 rfl) ?_
                        refine lv_isub (pc := 203) hx hb dX10_aesKey_203 ?_
                        refine q_top (y := nI (8 + c - 8)) (pk_sub (a := 8 + c) (b := 8) (by omega)) ?_
                        refine lv_imul (pc := 204) hx hb dX10_aesKey_204 ?_
                        refine q_top (y := nI (4 * (8 + c - 8))) (pk_mul 4 (8 + c - 8)) ?_
                        refine lv_iload (pc := 205) hx hb dX10_aesKey_205 (lv_at hl 1 rfl) ?_
                        refine lv_iadd (pc := 207) hx hb dX10_aesKey_207 ?_
                        refine q_top (y := nI (4 * (8 + c - 8) + d)) (nI_add (4 * (8 + c - 8)) d) ?_
                        refine q_bald (pc := 208) hx hb hK hP 2 2 rfl rfl (k := 4 * (8 + c - 8) + d) (v := qs (d' (4 * (8 + c - 8) + d))) rfl (by omega) (by omega) rfl dX10_aesKey_208 ?_
                        refine lv_iload (pc := 209) hx hb dX10_aesKey_209 (lv_at hl 0 rfl) ?_
                        refine lv_ixor (pc := 211) hx hb dX10_aesKey_211 ?_
                        refine lv_i2b (pc := 212) (v := qs (qlo ((qs (d' (4 * (8 + c - 8) + d))) ^^^ (qz ((BOX ((d' (4 * (8 + c - 1) + ((d + 1) % 4))).toNat)) ^^^ k1))))) hx hb dX10_aesKey_212 (q_i2b _) ?_
                        refine q_bastS (pc := 213) hx hb hK hP hD hS 2 2 rfl rfl (k := 4 * (8 + c) + d) rfl (by omega) (by omega) (b := qlo ((qs (d' (4 * (8 + c - 8) + d))) ^^^ (qz ((BOX ((d' (4 * (8 + c - 1) + ((d + 1) % 4))).toNat)) ^^^ k1)))) (qlo_qs _) dX10_aesKey_213 (fun H locs hP hD hS => ?_)
                        have hP : va_P D vwCl [(h0, oM a 14 mn tp osz lsz ns ct), (a 8, aZ ta 256 BOX), (a 16, aS ta 240 (qU d' (4 * (8 + c) + d) (qlo ((qs (d' (4 * (8 + c - 8) + d))) ^^^ (qz ((BOX ((d' (4 * (8 + c - 1) + ((d + 1) % 4))).toNat)) ^^^ k1)))))), (hk, aS ta capk gk)] H := hP
                        have hD : va_D A [(h0, oM a 14 mn tp osz lsz ns ct), (a 8, aZ ta 256 BOX), (a 16, aS ta 240 (qU d' (4 * (8 + c) + d) (qlo ((qs (d' (4 * (8 + c - 8) + d))) ^^^ (qz ((BOX ((d' (4 * (8 + c - 1) + ((d + 1) % 4))).toNat)) ^^^ k1)))))), (hk, aS ta capk gk)] := hD
                        refine lv_iinc (pc := 214) (v := nI (d + 1)) (lv' := [(7, .int (nI (d + 1))), (8, .int (qz ((BOX ((d' (4 * (8 + c - 1) + ((d + 1) % 4))).toNat)) ^^^ k1))), (6, .int (nI (8 + c))), (5, .int (qz k1)), (4, .int (nI 8)), (0, .ref h0), (1, .ref hk), (2, .int (nI fr)), (3, .int (nI 32))]) hx hb dX10_aesKey_214 hl (k := 1) rfl (by first | exact nI_add d 1 | rfl) (by decide) rfl (fun ls hl => ?_)
                        refine lv_goto (pc := 217) (tgt := 65) hx hb dX10_aesKey_217 (by decide) ?_
                        have hold : ∀ j, j < 4 * (8 + c) → d' j = aKey (fun j => gk (fr + j)) 8 c j := by
                          intro j hj
                          rw [hs2 j (by omega), aKey_old (by omega)]
                        exact ih65 (d + 1) (qU d' (4 * (8 + c) + d) (qlo ((qs (d' (4 * (8 + c - 8) + d))) ^^^ (qz ((BOX ((d' (4 * (8 + c - 1) + ((d + 1) % 4))).toNat)) ^^^ k1))))) (by omega) (by
                              intro j hj
                              rcases Nat.lt_or_ge j (4 * (8 + c) + d) with q | q
                              · rw [qU_ne (by omega)]
                                exact hs2 j q
                              · obtain rfl : j = 4 * (8 + c) + d := by omega
                                rw [qU_same]
                                simp only [aKey, show (4 * (8 + c) + d) / 4 = 8 + c by omega, show (4 * (8 + c) + d) % 4 = d by omega, if_pos, qlo_xor, qlo_qs, qlo_qz, show 4 * (8 + c - 8) + d = 4 * c + d by omega]
                                rw [hold _ (by omega), hold _ (by omega)]
                                first | rw [if_pos h76, if_pos h108, hk1] | rw [if_pos h76, if_neg h108] | (rw [if_neg h76]; simp only [true_and]; first | rw [if_pos h136] | rw [if_neg h136])) (by omega) _ _ (hP.sub [0, 1, 2, 3] rfl) (hD.sub [0, 1, 2, 3] (by decide) rfl) hS ls (lv_sub hl [0, 2, 3, 4, 5, 6, 7, 8] rfl)
              exact LP65 _ 0 r' (by omega) (by intro j hj; rw [hs1 j (by omega), aKey_old (by omega)]) (Nat.lt_succ_self _) _ _ (hP.sub [0, 1, 2, 3] rfl) (hD.sub [0, 1, 2, 3] (by decide) rfl) hS ls (lv_sub hl [0, 1, 2, 3, 4, 5, 6, 7] rfl)
        exact LP49 _ 0 (1#8) g' (by omega) (rfl) (by intro j hj; exact qSeg_at hs (by omega)) (Nat.lt_succ_self _) _ _ (hP.sub [0, 1, 2, 3] rfl) (hD.sub [0, 1, 2, 3] (by decide) rfl) hS ls (lv_sub hl [0, 1, 2, 3, 4, 5, 6] rfl)
      · skip
        rw [nI_leI (by omega) (by omega)] at c_1
        refine lv_aload_n (pc := 26) hx hb dX10_aesKey_26 rfl (lv_at hl 3 rfl) ?_
        refine va_get (pc := 27) (D := D) (ci := 8) (v := .ref (a 16)) (C := RX10) (T := TX10) (N := 57) hx hb hts iu10 hown hK hP 0 rfl rfl 16 (by decide) (hts _ tw_1061) (fun _ h9 => h9) rfl dX10_aesKey_27 ?_
        refine lv_iload (pc := 30) hx hb dX10_aesKey_30 (lv_at hl 0 rfl) ?_
        refine lv_aload_n (pc := 32) hx hb dX10_aesKey_32 rfl (lv_at hl 4 rfl) ?_
        refine lv_iload_n (pc := 33) hx hb dX10_aesKey_33 rfl (lv_at hl 5 rfl) ?_
        refine lv_iload (pc := 34) hx hb dX10_aesKey_34 (lv_at hl 0 rfl) ?_
        refine lv_iadd (pc := 36) hx hb dX10_aesKey_36 ?_
        refine q_top (y := nI (fr + k)) (nI_add fr k) ?_
        refine q_bald (pc := 37) hx hb hK hP 3 2 rfl rfl (k := fr + k) (v := qs (gk (fr + k))) rfl (by omega) (by omega) rfl dX10_aesKey_37 ?_
        refine q_bastS (pc := 38) hx hb hK hP hD hS 2 2 rfl rfl (k := k) rfl (by omega) (by omega) (b := gk (fr + k)) (qlo_qs _) dX10_aesKey_38 (fun H locs hP hD hS => ?_)
        have hP : va_P D vwCl [(h0, oM a 14 mn tp osz lsz ns ct), (a 8, aZ ta 256 BOX), (a 16, aS ta 240 (qU g' k (gk (fr + k)))), (hk, aS ta capk gk)] H := hP
        have hD : va_D A [(h0, oM a 14 mn tp osz lsz ns ct), (a 8, aZ ta 256 BOX), (a 16, aS ta 240 (qU g' k (gk (fr + k)))), (hk, aS ta capk gk)] := hD
        refine lv_iinc (pc := 39) (v := nI (k + 1)) (lv' := [(6, .int (nI (k + 1))), (5, .int (qz (1#8))), (4, .int (nI 8)), (0, .ref h0), (1, .ref hk), (2, .int (nI fr)), (3, .int (nI 32))]) hx hb dX10_aesKey_39 hl (k := 0) rfl (by first | exact nI_add k 1 | rfl) (by decide) rfl (fun ls hl => ?_)
        refine lv_goto (pc := 42) (tgt := 20) hx hb dX10_aesKey_42 (by decide) ?_
        exact ih20 (k + 1) (qU g' k (gk (fr + k))) (by omega) (qSeg_s hs (by omega) rfl) (by omega) _ _ (hP.sub [0, 1, 2, 3] rfl) (hD.sub [0, 1, 2, 3] (by decide) rfl) hS ls (lv_sub hl [0, 1, 2, 3, 4, 5, 6] rfl)
  exact LP20 _ 0 rk (by omega) (qSeg_0) (Nat.lt_succ_self _) _ _ (hP.sub [0, 1, 2, 3] rfl) (hD.sub [0, 1, 2, 3] (by decide) rfl) hS ls (lv_sub hl [0, 1, 2, 3, 4, 5, 6] rfl)
set_option maxHeartbeats 4000000 in
set_option maxRecDepth 100000 in
theorem ct_X10_aesKey (ll : Launch) (D : va_G) (ta : Nat → ClassId) {G : (Nat → Prop) → State → Heap → Prop} (hGok : GOK G) (h0 : Nat) (a : Nat → Nat) (ar : Nat) (mn : Nat) (tp : Nat) (osz : Nat) (lsz : Nat) (ns : Nat) (ct : Nat) (hk : Nat) (fr : Nat) (capk : Nat) (gk : Nat → BitVec 8) (rk : Nat → BitVec 8) (len : Nat) (hl : len = 16 ∨ len = 24 ∨ len = 32) (hf : fr + len ≤ capk) (hck : capk < 2147483648) (sz : Nat) : CT ll yX10_aesKey cX10_aesKey 9 none ({ frames := 1, cells := 0, slots := 0, locals := 20 } : Room) D ta G [.ref h0, .ref hk, .int (nI fr), .int (nI len)] [(h0, oM a ar mn tp osz lsz ns ct), (a 8, aZ ta 256 BOX), (a 16, aS ta 240 rk), (hk, aS ta capk gk)] sz (S := (Nat → BitVec 8)) (fun _ => none) (fun u => (∀ j, j < 16 * (len / 4 + 7) → u j = aKey (fun j => gk (fr + j)) (len / 4) (4 * (len / 4 + 7) - len / 4) j)) (fun u => [(h0, oM a (len / 4 + 6) mn tp osz lsz ns ct), (a 8, aZ ta 256 BOX), (a 16, aS ta 240 u), (hk, aS ta capk gk)]) 0 0 := by
  rcases hl with rfl | rfl | rfl
  · exact ct_X10_aesKey_4 ll D ta hGok h0 a ar mn tp osz lsz ns ct hk fr capk gk rk hf hck sz
  · exact ct_X10_aesKey_6 ll D ta hGok h0 a ar mn tp osz lsz ns ct hk fr capk gk rk hf hck sz
  · exact ct_X10_aesKey_8 ll D ta hGok h0 a ar mn tp osz lsz ns ct hk fr capk gk rk hf hck sz
theorem hdX10_aes : yX10_aes.cls ≠ "java/lang/invoke/MethodHandle" ∧ yX10_aes.cls ≠ "java/lang/invoke/VarHandle" ∧ (parseMethodDescriptor yX10_aes.desc).map (fun d => d.parameters.length) = some 3 := ⟨by decide +kernel, by decide +kernel, by decide +kernel⟩
theorem dX10_aes_0 : decode cX10_aes 0 = .ok (.iload_n 3, 1) := by decide +kernel
theorem dX10_aes_1 : decode cX10_aes 1 = .ok (.ifCond .eq 138, 3) := by decide +kernel
theorem dX10_aes_4 : decode cX10_aes 4 = .ok (.aload_n 0, 1) := by decide +kernel
theorem dX10_aes_5 : decode cX10_aes 5 = .ok (.aload_n 1, 1) := by decide +kernel
theorem dX10_aes_6 : decode cX10_aes 6 = .ok (.iload_n 2, 1) := by decide +kernel
theorem dX10_aes_7 : decode cX10_aes 7 = .ok (.aload_n 0, 1) := by decide +kernel
theorem dX10_aes_8 : decode cX10_aes 8 = .ok (.getfield 62, 3) := by decide +kernel
theorem dX10_aes_11 : decode cX10_aes 11 = .ok (.invokevirtual 70, 3) := by decide +kernel
theorem dX10_aes_14 : decode cX10_aes 14 = .ok (.aload_n 0, 1) := by decide +kernel
theorem dX10_aes_15 : decode cX10_aes 15 = .ok (.getfield 62, 3) := by decide +kernel
theorem dX10_aes_18 : decode cX10_aes 18 = .ok (.iconst 1, 1) := by decide +kernel
theorem dX10_aes_19 : decode cX10_aes 19 = .ok (.isub, 1) := by decide +kernel
theorem dX10_aes_20 : decode cX10_aes 20 = .ok (.istore 4, 2) := by decide +kernel
theorem dX10_aes_22 : decode cX10_aes 22 = .ok (.iload 4, 2) := by decide +kernel
theorem dX10_aes_24 : decode cX10_aes 24 = .ok (.ifCond .lt 114, 3) := by decide +kernel
theorem dX10_aes_27 : decode cX10_aes 27 = .ok (.iconst 0, 1) := by decide +kernel
theorem dX10_aes_28 : decode cX10_aes 28 = .ok (.istore 5, 2) := by decide +kernel
theorem dX10_aes_30 : decode cX10_aes 30 = .ok (.iload 5, 2) := by decide +kernel
theorem dX10_aes_32 : decode cX10_aes 32 = .ok (.bipush 16, 2) := by decide +kernel
theorem dX10_aes_34 : decode cX10_aes 34 = .ok (.if_icmp .ge 42, 3) := by decide +kernel
theorem dX10_aes_37 : decode cX10_aes 37 = .ok (.aload_n 0, 1) := by decide +kernel
theorem dX10_aes_38 : decode cX10_aes 38 = .ok (.getfield 74, 3) := by decide +kernel
theorem dX10_aes_41 : decode cX10_aes 41 = .ok (.iload 5, 2) := by decide +kernel
theorem dX10_aes_43 : decode cX10_aes 43 = .ok (.iconst 4, 1) := by decide +kernel
theorem dX10_aes_44 : decode cX10_aes 44 = .ok (.iload 5, 2) := by decide +kernel
theorem dX10_aes_46 : decode cX10_aes 46 = .ok (.iconst 4, 1) := by decide +kernel
theorem dX10_aes_47 : decode cX10_aes 47 = .ok (.irem, 1) := by decide +kernel
theorem dX10_aes_48 : decode cX10_aes 48 = .ok (.imul, 1) := by decide +kernel
theorem dX10_aes_49 : decode cX10_aes 49 = .ok (.iadd, 1) := by decide +kernel
theorem dX10_aes_50 : decode cX10_aes 50 = .ok (.bipush 16, 2) := by decide +kernel
theorem dX10_aes_52 : decode cX10_aes 52 = .ok (.irem, 1) := by decide +kernel
theorem dX10_aes_53 : decode cX10_aes 53 = .ok (.aload_n 0, 1) := by decide +kernel
theorem dX10_aes_54 : decode cX10_aes 54 = .ok (.getfield 59, 3) := by decide +kernel
theorem dX10_aes_57 : decode cX10_aes 57 = .ok (.aload_n 1, 1) := by decide +kernel
theorem dX10_aes_58 : decode cX10_aes 58 = .ok (.iload_n 2, 1) := by decide +kernel
theorem dX10_aes_59 : decode cX10_aes 59 = .ok (.iload 5, 2) := by decide +kernel
theorem dX10_aes_61 : decode cX10_aes 61 = .ok (.iadd, 1) := by decide +kernel
theorem dX10_aes_62 : decode cX10_aes 62 = .ok (.baload, 1) := by decide +kernel
theorem dX10_aes_63 : decode cX10_aes 63 = .ok (.sipush 255, 3) := by decide +kernel
theorem dX10_aes_66 : decode cX10_aes 66 = .ok (.iand, 1) := by decide +kernel
theorem dX10_aes_67 : decode cX10_aes 67 = .ok (.iaload, 1) := by decide +kernel
theorem dX10_aes_68 : decode cX10_aes 68 = .ok (.i2b, 1) := by decide +kernel
theorem dX10_aes_69 : decode cX10_aes 69 = .ok (.bastore, 1) := by decide +kernel
theorem dX10_aes_70 : decode cX10_aes 70 = .ok (.iinc 5 1, 3) := by decide +kernel
theorem dX10_aes_73 : decode cX10_aes 73 = .ok (.goto (-43), 3) := by decide +kernel
theorem dX10_aes_76 : decode cX10_aes 76 = .ok (.iconst 0, 1) := by decide +kernel
theorem dX10_aes_77 : decode cX10_aes 77 = .ok (.istore 5, 2) := by decide +kernel
theorem dX10_aes_79 : decode cX10_aes 79 = .ok (.iload 5, 2) := by decide +kernel
theorem dX10_aes_81 : decode cX10_aes 81 = .ok (.bipush 16, 2) := by decide +kernel
theorem dX10_aes_83 : decode cX10_aes 83 = .ok (.if_icmp .ge 22, 3) := by decide +kernel
theorem dX10_aes_86 : decode cX10_aes 86 = .ok (.aload_n 1, 1) := by decide +kernel
theorem dX10_aes_87 : decode cX10_aes 87 = .ok (.iload_n 2, 1) := by decide +kernel
theorem dX10_aes_88 : decode cX10_aes 88 = .ok (.iload 5, 2) := by decide +kernel
theorem dX10_aes_90 : decode cX10_aes 90 = .ok (.iadd, 1) := by decide +kernel
theorem dX10_aes_91 : decode cX10_aes 91 = .ok (.aload_n 0, 1) := by decide +kernel
theorem dX10_aes_92 : decode cX10_aes 92 = .ok (.getfield 74, 3) := by decide +kernel
theorem dX10_aes_95 : decode cX10_aes 95 = .ok (.iload 5, 2) := by decide +kernel
theorem dX10_aes_97 : decode cX10_aes 97 = .ok (.baload, 1) := by decide +kernel
theorem dX10_aes_98 : decode cX10_aes 98 = .ok (.bastore, 1) := by decide +kernel
theorem dX10_aes_99 : decode cX10_aes 99 = .ok (.iinc 5 1, 3) := by decide +kernel
theorem dX10_aes_102 : decode cX10_aes 102 = .ok (.goto (-23), 3) := by decide +kernel
theorem dX10_aes_105 : decode cX10_aes 105 = .ok (.aload_n 0, 1) := by decide +kernel
theorem dX10_aes_106 : decode cX10_aes 106 = .ok (.aload_n 1, 1) := by decide +kernel
theorem dX10_aes_107 : decode cX10_aes 107 = .ok (.iload_n 2, 1) := by decide +kernel
theorem dX10_aes_108 : decode cX10_aes 108 = .ok (.iload 4, 2) := by decide +kernel
theorem dX10_aes_110 : decode cX10_aes 110 = .ok (.invokevirtual 70, 3) := by decide +kernel
theorem dX10_aes_113 : decode cX10_aes 113 = .ok (.iload 4, 2) := by decide +kernel
theorem dX10_aes_115 : decode cX10_aes 115 = .ok (.ifCond .le 17, 3) := by decide +kernel
theorem dX10_aes_118 : decode cX10_aes 118 = .ok (.aload_n 0, 1) := by decide +kernel
theorem dX10_aes_119 : decode cX10_aes 119 = .ok (.aload_n 1, 1) := by decide +kernel
theorem dX10_aes_120 : decode cX10_aes 120 = .ok (.iload_n 2, 1) := by decide +kernel
theorem dX10_aes_121 : decode cX10_aes 121 = .ok (.bipush 14, 2) := by decide +kernel
theorem dX10_aes_123 : decode cX10_aes 123 = .ok (.bipush 11, 2) := by decide +kernel
theorem dX10_aes_125 : decode cX10_aes 125 = .ok (.bipush 13, 2) := by decide +kernel
theorem dX10_aes_127 : decode cX10_aes 127 = .ok (.bipush 9, 2) := by decide +kernel
theorem dX10_aes_129 : decode cX10_aes 129 = .ok (.invokevirtual 77, 3) := by decide +kernel
theorem dX10_aes_132 : decode cX10_aes 132 = .ok (.iinc 4 (-1), 3) := by decide +kernel
theorem dX10_aes_135 : decode cX10_aes 135 = .ok (.goto (-113), 3) := by decide +kernel
theorem dX10_aes_138 : decode cX10_aes 138 = .ok (.return_, 1) := by decide +kernel
theorem dX10_aes_139 : decode cX10_aes 139 = .ok (.aload_n 0, 1) := by decide +kernel
theorem dX10_aes_140 : decode cX10_aes 140 = .ok (.aload_n 1, 1) := by decide +kernel
theorem dX10_aes_141 : decode cX10_aes 141 = .ok (.iload_n 2, 1) := by decide +kernel
theorem dX10_aes_142 : decode cX10_aes 142 = .ok (.iconst 0, 1) := by decide +kernel
theorem dX10_aes_143 : decode cX10_aes 143 = .ok (.invokevirtual 70, 3) := by decide +kernel
theorem dX10_aes_146 : decode cX10_aes 146 = .ok (.iconst 1, 1) := by decide +kernel
theorem dX10_aes_147 : decode cX10_aes 147 = .ok (.istore 4, 2) := by decide +kernel
theorem dX10_aes_149 : decode cX10_aes 149 = .ok (.iload 4, 2) := by decide +kernel
theorem dX10_aes_151 : decode cX10_aes 151 = .ok (.aload_n 0, 1) := by decide +kernel
theorem dX10_aes_152 : decode cX10_aes 152 = .ok (.getfield 62, 3) := by decide +kernel
theorem dX10_aes_155 : decode cX10_aes 155 = .ok (.if_icmp .gt 114, 3) := by decide +kernel
theorem dX10_aes_158 : decode cX10_aes 158 = .ok (.iconst 0, 1) := by decide +kernel
theorem dX10_aes_159 : decode cX10_aes 159 = .ok (.istore 5, 2) := by decide +kernel
theorem dX10_aes_161 : decode cX10_aes 161 = .ok (.iload 5, 2) := by decide +kernel
theorem dX10_aes_163 : decode cX10_aes 163 = .ok (.bipush 16, 2) := by decide +kernel
theorem dX10_aes_165 : decode cX10_aes 165 = .ok (.if_icmp .ge 42, 3) := by decide +kernel
theorem dX10_aes_168 : decode cX10_aes 168 = .ok (.aload_n 0, 1) := by decide +kernel
theorem dX10_aes_169 : decode cX10_aes 169 = .ok (.getfield 74, 3) := by decide +kernel
theorem dX10_aes_172 : decode cX10_aes 172 = .ok (.iload 5, 2) := by decide +kernel
theorem dX10_aes_174 : decode cX10_aes 174 = .ok (.aload_n 0, 1) := by decide +kernel
theorem dX10_aes_175 : decode cX10_aes 175 = .ok (.getfield 56, 3) := by decide +kernel
theorem dX10_aes_178 : decode cX10_aes 178 = .ok (.aload_n 1, 1) := by decide +kernel
theorem dX10_aes_179 : decode cX10_aes 179 = .ok (.iload_n 2, 1) := by decide +kernel
theorem dX10_aes_180 : decode cX10_aes 180 = .ok (.iload 5, 2) := by decide +kernel
theorem dX10_aes_182 : decode cX10_aes 182 = .ok (.iconst 4, 1) := by decide +kernel
theorem dX10_aes_183 : decode cX10_aes 183 = .ok (.iload 5, 2) := by decide +kernel
theorem dX10_aes_185 : decode cX10_aes 185 = .ok (.iconst 4, 1) := by decide +kernel
theorem dX10_aes_186 : decode cX10_aes 186 = .ok (.irem, 1) := by decide +kernel
theorem dX10_aes_187 : decode cX10_aes 187 = .ok (.imul, 1) := by decide +kernel
theorem dX10_aes_188 : decode cX10_aes 188 = .ok (.iadd, 1) := by decide +kernel
theorem dX10_aes_189 : decode cX10_aes 189 = .ok (.bipush 16, 2) := by decide +kernel
theorem dX10_aes_191 : decode cX10_aes 191 = .ok (.irem, 1) := by decide +kernel
theorem dX10_aes_192 : decode cX10_aes 192 = .ok (.iadd, 1) := by decide +kernel
theorem dX10_aes_193 : decode cX10_aes 193 = .ok (.baload, 1) := by decide +kernel
theorem dX10_aes_194 : decode cX10_aes 194 = .ok (.sipush 255, 3) := by decide +kernel
theorem dX10_aes_197 : decode cX10_aes 197 = .ok (.iand, 1) := by decide +kernel
theorem dX10_aes_198 : decode cX10_aes 198 = .ok (.iaload, 1) := by decide +kernel
theorem dX10_aes_199 : decode cX10_aes 199 = .ok (.i2b, 1) := by decide +kernel
theorem dX10_aes_200 : decode cX10_aes 200 = .ok (.bastore, 1) := by decide +kernel
theorem dX10_aes_201 : decode cX10_aes 201 = .ok (.iinc 5 1, 3) := by decide +kernel
theorem dX10_aes_204 : decode cX10_aes 204 = .ok (.goto (-43), 3) := by decide +kernel
theorem dX10_aes_207 : decode cX10_aes 207 = .ok (.iconst 0, 1) := by decide +kernel
theorem dX10_aes_208 : decode cX10_aes 208 = .ok (.istore 5, 2) := by decide +kernel
theorem dX10_aes_210 : decode cX10_aes 210 = .ok (.iload 5, 2) := by decide +kernel
theorem dX10_aes_212 : decode cX10_aes 212 = .ok (.bipush 16, 2) := by decide +kernel
theorem dX10_aes_214 : decode cX10_aes 214 = .ok (.if_icmp .ge 22, 3) := by decide +kernel
theorem dX10_aes_217 : decode cX10_aes 217 = .ok (.aload_n 1, 1) := by decide +kernel
theorem dX10_aes_218 : decode cX10_aes 218 = .ok (.iload_n 2, 1) := by decide +kernel
theorem dX10_aes_219 : decode cX10_aes 219 = .ok (.iload 5, 2) := by decide +kernel
theorem dX10_aes_221 : decode cX10_aes 221 = .ok (.iadd, 1) := by decide +kernel
theorem dX10_aes_222 : decode cX10_aes 222 = .ok (.aload_n 0, 1) := by decide +kernel
theorem dX10_aes_223 : decode cX10_aes 223 = .ok (.getfield 74, 3) := by decide +kernel
theorem dX10_aes_226 : decode cX10_aes 226 = .ok (.iload 5, 2) := by decide +kernel
theorem dX10_aes_228 : decode cX10_aes 228 = .ok (.baload, 1) := by decide +kernel
theorem dX10_aes_229 : decode cX10_aes 229 = .ok (.bastore, 1) := by decide +kernel
theorem dX10_aes_230 : decode cX10_aes 230 = .ok (.iinc 5 1, 3) := by decide +kernel
theorem dX10_aes_233 : decode cX10_aes 233 = .ok (.goto (-23), 3) := by decide +kernel
theorem dX10_aes_236 : decode cX10_aes 236 = .ok (.iload 4, 2) := by decide +kernel
theorem dX10_aes_238 : decode cX10_aes 238 = .ok (.aload_n 0, 1) := by decide +kernel
theorem dX10_aes_239 : decode cX10_aes 239 = .ok (.getfield 62, 3) := by decide +kernel
theorem dX10_aes_242 : decode cX10_aes 242 = .ok (.if_icmp .ge 13, 3) := by decide +kernel
theorem dX10_aes_245 : decode cX10_aes 245 = .ok (.aload_n 0, 1) := by decide +kernel
theorem dX10_aes_246 : decode cX10_aes 246 = .ok (.aload_n 1, 1) := by decide +kernel
theorem dX10_aes_247 : decode cX10_aes 247 = .ok (.iload_n 2, 1) := by decide +kernel
theorem dX10_aes_248 : decode cX10_aes 248 = .ok (.iconst 2, 1) := by decide +kernel
theorem dX10_aes_249 : decode cX10_aes 249 = .ok (.iconst 3, 1) := by decide +kernel
theorem dX10_aes_250 : decode cX10_aes 250 = .ok (.iconst 1, 1) := by decide +kernel
theorem dX10_aes_251 : decode cX10_aes 251 = .ok (.iconst 1, 1) := by decide +kernel
theorem dX10_aes_252 : decode cX10_aes 252 = .ok (.invokevirtual 77, 3) := by decide +kernel
theorem dX10_aes_255 : decode cX10_aes 255 = .ok (.aload_n 0, 1) := by decide +kernel
theorem dX10_aes_256 : decode cX10_aes 256 = .ok (.aload_n 1, 1) := by decide +kernel
theorem dX10_aes_257 : decode cX10_aes 257 = .ok (.iload_n 2, 1) := by decide +kernel
theorem dX10_aes_258 : decode cX10_aes 258 = .ok (.iload 4, 2) := by decide +kernel
theorem dX10_aes_260 : decode cX10_aes 260 = .ok (.invokevirtual 70, 3) := by decide +kernel
theorem dX10_aes_263 : decode cX10_aes 263 = .ok (.iinc 4 1, 3) := by decide +kernel
theorem dX10_aes_266 : decode cX10_aes 266 = .ok (.goto (-117), 3) := by decide +kernel
theorem dX10_aes_269 : decode cX10_aes 269 = .ok (.return_, 1) := by decide +kernel
set_option maxHeartbeats 4000000 in
set_option maxRecDepth 100000 in
theorem ct_X10_aes_f (ll : Launch) (D : va_G) (ta : Nat → ClassId) {G : (Nat → Prop) → State → Heap → Prop} (hGok : GOK G) (h0 : Nat) (a : Nat → Nat) (R : Nat) (mn : Nat) (tp : Nat) (osz : Nat) (lsz : Nat) (ns : Nat) (ct : Nat) (hb2 : Nat) (at0 : Nat) (capb : Nat) (gb : Nat → BitVec 8) (ce : Nat → BitVec 8) (rk : Nat → BitVec 8) (hat : at0 + 16 ≤ capb) (hcb : capb < 2147483648) (hR : 1 ≤ R ∧ R ≤ 14) (sz : Nat) : CT ll yX10_aes cX10_aes 6 none ({ frames := 3, cells := 0, slots := 0, locals := 73 } : Room) D ta G [.ref h0, .ref hb2, .int (nI at0), .int (qb false)] [(h0, oM a R mn tp osz lsz ns ct), (a 8, aZ ta 256 BOX), (a 9, aZ ta 256 UBOX), (a 16, aS ta 240 rk), (a 18, aS ta 16 ce), (hb2, aS ta capb gb)] sz (S := (Nat → BitVec 8) × (Nat → BitVec 8)) (fun _ => none) (fun u => (qSeg u.1 gb at0 16 (aE rk R (fun k => gb (at0 + k)) R))) (fun u => [(h0, oM a R mn tp osz lsz ns ct), (a 8, aZ ta 256 BOX), (a 9, aZ ta 256 UBOX), (a 16, aS ta 240 rk), (a 18, aS ta 16 u.2), (hb2, aS ta capb u.1)]) 0 0 := by
  refine CT.of_v rfl (by decide) (Nat.le_of_ble_eq_true rfl) ?_
  intro pp ee ss mm below meth kc A Q hx hb hml hown hin hts hK hA hsz hG hret H locs hP hD hS ls hl
  have hl : lv_has ls 6 [(0, .ref h0), (1, .ref hb2), (2, .int (nI at0)), (3, .int (qb false))] := hl
  refine lv_iload_n (pc := 0) hx hb dX10_aes_0 rfl (lv_at hl 3 rfl) ?_
  refine lv_if_eq (pc := 1) (tgt := 139) hx hb dX10_aes_1 (by decide) (fun _ => ?_) (fun c_1 => ?_)
  rotate_left
  · skip
    exact absurd rfl c_1
  refine lv_aload_n (pc := 139) hx hb dX10_aes_139 rfl (lv_at hl 0 rfl) ?_
  refine lv_aload_n (pc := 140) hx hb dX10_aes_140 rfl (lv_at hl 1 rfl) ?_
  refine lv_iload_n (pc := 141) hx hb dX10_aes_141 rfl (lv_at hl 2 rfl) ?_
  refine lv_iconst (pc := 142) (v := nI 0) hx hb dX10_aes_142 (by decide +kernel) ?_
  refine cs_V (pc := 143) (idx := 70) (n := 3) (wr := [(a 8, aZ ta 256 BOX), (a 9, aZ ta 256 UBOX), (a 18, aS ta 16 ce)]) (As := [.ref hb2, .int (nI at0), .int (nI 0)]) (rest := []) (ci := 8) hx hb hml hown hts hGok hK hA hG hl.1 hP hD hS (ct_X10_addKey ll D ta hGok h0 a R mn tp osz lsz ns ct hb2 at0 capb gb rk 0 (by first | assumption | omega | rfl | decide) (by first | assumption | omega | rfl | decide) (by first | assumption | omega | rfl | decide) H.size) tw_1346 tw_1343 tw_1345 tw_46 tw_75 hdX10_addKey rfl ⟨rfl, rfl, Nat.le_of_ble_eq_true rfl, Nat.le_of_ble_eq_true rfl, Nat.le_of_ble_eq_true rfl, Nat.le_of_ble_eq_true rfl⟩ rfl rfl (q0 := 0) rfl [0, 3, 5] [1, 2, 4] rfl rfl (by decide) rfl (Nat.le_of_ble_eq_true rfl) dX10_aes_143 (fun u H locs hq hP hD hS => ?_)
  generalize u = gb1_143 at hq hP hD ⊢
  have hq : (qSeg gb1_143 gb at0 16 (aAdd (fun k => gb (at0 + k)) rk 0)) := hq
  have hs_143 := hq
  refine W.eq (g2 := F0 mm 146 ls []) rfl ?_
  have hP : va_P D vwCl [(a 8, aZ ta 256 BOX), (a 9, aZ ta 256 UBOX), (a 18, aS ta 16 ce), (h0, oM a R mn tp osz lsz ns ct), (a 16, aS ta 240 rk), (hb2, aS ta capb gb1_143)] H := hP
  have hD : va_D A [(a 8, aZ ta 256 BOX), (a 9, aZ ta 256 UBOX), (a 18, aS ta 16 ce), (h0, oM a R mn tp osz lsz ns ct), (a 16, aS ta 240 rk), (hb2, aS ta capb gb1_143)] := hD
  refine lv_iconst (pc := 146) (v := nI 1) hx hb dX10_aes_146 (by decide +kernel) ?_
  refine lv_istore (pc := 147) (lv' := [(4, .int (nI 1)), (0, .ref h0), (1, .ref hb2), (2, .int (nI at0)), (3, .int (qb false))]) hx hb dX10_aes_147 hl (by decide) rfl (fun ls hl => ?_)
  have LP149 : ∀ (nn149 : Nat) (c : Nat) (b' : Nat → BitVec 8) (c' : Nat → BitVec 8), (c ≤ R) → (qSeg b' gb at0 16 (aE rk R (fun k => gb (at0 + k)) c)) → (R - c < nn149) → ∀ (H : Heap) (locs : List Loc), va_P D vwCl [(a 8, aZ ta 256 BOX), (a 9, aZ ta 256 UBOX), (a 18, aS ta 16 c'), (h0, oM a R mn tp osz lsz ns ct), (a 16, aS ta 240 rk), (hb2, aS ta capb b')] H → va_D A [(a 8, aZ ta 256 BOX), (a 9, aZ ta 256 UBOX), (a 18, aS ta 16 c'), (h0, oM a R mn tp osz lsz ns ct), (a 16, aS ta 240 rk), (hb2, aS ta capb b')] → va_S A ss.heap H locs → ∀ ls : Array Slot, lv_has ls 6 [(4, .int (nI (c + 1))), (0, .ref h0), (1, .ref hb2), (2, .int (nI at0)), (3, .int (qb false))] → W pp ll ee ({ frames := 3, cells := 0, slots := 0, locals := 73 } : Room) ss mm (([.ref h0, .ref hb2, .int (nI at0), .int (qb false)] : List Value).toArray) below meth kc H locs 0 0 Q (F0 mm 149 ls []) := by
    intro nn149
    induction nn149 with
    | zero => intro c b' c' hcc hs hmu; exact absurd hmu (Nat.not_lt_zero _)
    | succ nn149 ih149 =>
      intro c b' c' hcc hs hmu149 H locs hP hD hS ls hl
      refine lv_iload (pc := 149) hx hb dX10_aes_149 (lv_at hl 0 rfl) ?_
      refine lv_aload_n (pc := 151) hx hb dX10_aes_151 rfl (lv_at hl 1 rfl) ?_
      refine va_get (pc := 152) (D := D) (ci := 8) (v := .int (nI R)) (C := RX10) (T := TX10) (N := 57) hx hb hts iu10 hown hK hP 3 rfl rfl 17 (by decide) (hts _ tw_1062) (fun _ h9 => h9) rfl dX10_aes_152 ?_
      refine lv_icmp_gt (pc := 155) (tgt := 269) hx hb dX10_aes_155 (by decide) (fun c_2 => ?_) (fun c_2 => ?_)
      · skip
        rw [nI_ltI (by omega) (by omega)] at c_2
        have en_3 : R = c := by omega
        subst en_3
        have hq_4 : (qSeg b' gb at0 16 (aE rk R (fun k => gb (at0 + k)) R)) := by
          exact hs
        exact hret (⟨(b'), (c')⟩ : (Nat → BitVec 8) × (Nat → BitVec 8)) _ _ _ _ dX10_aes_269 hq_4 (hP.sub [3, 0, 1, 4, 2, 5] rfl) (hD.sub [3, 0, 1, 4, 2, 5] (by decide) rfl) hS
      · skip
        rw [nI_ltI (by omega) (by omega)] at c_2
        refine lv_iconst (pc := 158) (v := nI 0) hx hb dX10_aes_158 (by decide +kernel) ?_
        refine lv_istore (pc := 159) (lv' := [(5, .int (nI 0)), (4, .int (nI (c + 1))), (0, .ref h0), (1, .ref hb2), (2, .int (nI at0)), (3, .int (qb false))]) hx hb dX10_aes_159 hl (by decide) rfl (fun ls hl => ?_)
        have LP161 : ∀ (nn161 : Nat) (d : Nat) (d' : Nat → BitVec 8), (d ≤ 16) → (qSeg d' c' 0 d (aSub (aE rk R (fun k => gb (at0 + k)) c))) → (16 - d < nn161) → ∀ (H : Heap) (locs : List Loc), va_P D vwCl [(a 8, aZ ta 256 BOX), (a 9, aZ ta 256 UBOX), (a 18, aS ta 16 d'), (h0, oM a R mn tp osz lsz ns ct), (a 16, aS ta 240 rk), (hb2, aS ta capb b')] H → va_D A [(a 8, aZ ta 256 BOX), (a 9, aZ ta 256 UBOX), (a 18, aS ta 16 d'), (h0, oM a R mn tp osz lsz ns ct), (a 16, aS ta 240 rk), (hb2, aS ta capb b')] → va_S A ss.heap H locs → ∀ ls : Array Slot, lv_has ls 6 [(5, .int (nI d)), (4, .int (nI (c + 1))), (0, .ref h0), (1, .ref hb2), (2, .int (nI at0)), (3, .int (qb false))] → W pp ll ee ({ frames := 3, cells := 0, slots := 0, locals := 73 } : Room) ss mm (([.ref h0, .ref hb2, .int (nI at0), .int (qb false)] : List Value).toArray) below meth kc H locs 0 0 Q (F0 mm 161 ls []) := by
          intro nn161
          induction nn161 with
          | zero => intro d d' hdd hs2 hmu; exact absurd hmu (Nat.not_lt_zero _)
          | succ nn161 ih161 =>
            intro d d' hdd hs2 hmu161 H locs hP hD hS ls hl
            refine lv_iload (pc := 161) hx hb dX10_aes_161 (lv_at hl 0 rfl) ?_
            refine lv_bipush (pc := 163) (v := nI 16) hx hb dX10_aes_163 (by decide +kernel) ?_
            refine lv_icmp_ge (pc := 165) (tgt := 207) hx hb dX10_aes_165 (by decide) (fun c_5 => ?_) (fun c_5 => ?_)
            · skip
              rw [nI_leI (by omega) (by omega)] at c_5
              refine lv_iconst (pc := 207) (v := nI 0) hx hb dX10_aes_207 (by decide +kernel) ?_
              refine lv_istore (pc := 208) (lv' := [(5, .int (nI 0)), (4, .int (nI (c + 1))), (0, .ref h0), (1, .ref hb2), (2, .int (nI at0)), (3, .int (qb false))]) hx hb dX10_aes_208 hl (by decide) rfl (fun ls hl => ?_)
              have LP210 : ∀ (nn210 : Nat) (k : Nat) (e' : Nat → BitVec 8), (k ≤ 16) → (qSeg e' b' at0 k (aSub (aE rk R (fun k => gb (at0 + k)) c))) → (16 - k < nn210) → ∀ (H : Heap) (locs : List Loc), va_P D vwCl [(a 8, aZ ta 256 BOX), (a 9, aZ ta 256 UBOX), (a 18, aS ta 16 d'), (h0, oM a R mn tp osz lsz ns ct), (a 16, aS ta 240 rk), (hb2, aS ta capb e')] H → va_D A [(a 8, aZ ta 256 BOX), (a 9, aZ ta 256 UBOX), (a 18, aS ta 16 d'), (h0, oM a R mn tp osz lsz ns ct), (a 16, aS ta 240 rk), (hb2, aS ta capb e')] → va_S A ss.heap H locs → ∀ ls : Array Slot, lv_has ls 6 [(5, .int (nI k)), (4, .int (nI (c + 1))), (0, .ref h0), (1, .ref hb2), (2, .int (nI at0)), (3, .int (qb false))] → W pp ll ee ({ frames := 3, cells := 0, slots := 0, locals := 73 } : Room) ss mm (([.ref h0, .ref hb2, .int (nI at0), .int (qb false)] : List Value).toArray) below meth kc H locs 0 0 Q (F0 mm 210 ls []) := by
                intro nn210
                induction nn210 with
                | zero => intro k e' hkk hs3 hmu; exact absurd hmu (Nat.not_lt_zero _)
                | succ nn210 ih210 =>
                  intro k e' hkk hs3 hmu210 H locs hP hD hS ls hl
                  refine lv_iload (pc := 210) hx hb dX10_aes_210 (lv_at hl 0 rfl) ?_
                  refine lv_bipush (pc := 212) (v := nI 16) hx hb dX10_aes_212 (by decide +kernel) ?_
                  refine lv_icmp_ge (pc := 214) (tgt := 236) hx hb dX10_aes_214 (by decide) (fun c_6 => ?_) (fun c_6 => ?_)
                  · skip
                    rw [nI_leI (by omega) (by omega)] at c_6
                    refine lv_iload (pc := 236) hx hb dX10_aes_236 (lv_at hl 1 rfl) ?_
                    refine lv_aload_n (pc := 238) hx hb dX10_aes_238 rfl (lv_at hl 2 rfl) ?_
                    refine va_get (pc := 239) (D := D) (ci := 8) (v := .int (nI R)) (C := RX10) (T := TX10) (N := 57) hx hb hts iu10 hown hK hP 3 rfl rfl 17 (by decide) (hts _ tw_1062) (fun _ h9 => h9) rfl dX10_aes_239 ?_
                    refine lv_icmp_ge (pc := 242) (tgt := 255) hx hb dX10_aes_242 (by decide) (fun c_7 => ?_) (fun c_7 => ?_)
                    · skip
                      rw [nI_leI (by omega) (by omega)] at c_7
                      have h242 := c_7
                      refine lv_aload_n (pc := 255) hx hb dX10_aes_255 rfl (lv_at hl 2 rfl) ?_
                      refine lv_aload_n (pc := 256) hx hb dX10_aes_256 rfl (lv_at hl 3 rfl) ?_
                      refine lv_iload_n (pc := 257) hx hb dX10_aes_257 rfl (lv_at hl 4 rfl) ?_
                      refine lv_iload (pc := 258) hx hb dX10_aes_258 (lv_at hl 1 rfl) ?_
                      refine cs_V (pc := 260) (idx := 70) (n := 3) (wr := [(a 8, aZ ta 256 BOX), (a 9, aZ ta 256 UBOX), (a 18, aS ta 16 d')]) (As := [.ref hb2, .int (nI at0), .int (nI (c + 1))]) (rest := []) (ci := 8) hx hb hml hown hts hGok hK hA hG hl.1 hP hD hS (ct_X10_addKey ll D ta hGok h0 a R mn tp osz lsz ns ct hb2 at0 capb e' rk (c + 1) (by first | assumption | omega | rfl | decide) (by first | assumption | omega | rfl | decide) (by first | assumption | omega | rfl | decide) H.size) tw_1346 tw_1343 tw_1345 tw_46 tw_75 hdX10_addKey rfl ⟨rfl, rfl, Nat.le_of_ble_eq_true rfl, Nat.le_of_ble_eq_true rfl, Nat.le_of_ble_eq_true rfl, Nat.le_of_ble_eq_true rfl⟩ rfl rfl (q0 := 3) rfl [3, 4, 5] [0, 1, 2] rfl rfl (by decide) rfl (Nat.le_of_ble_eq_true rfl) dX10_aes_260 (fun u H locs hq hP hD hS => ?_)
                      generalize u = gb1_260 at hq hP hD ⊢
                      have hq : (qSeg gb1_260 e' at0 16 (aAdd (fun k => e' (at0 + k)) rk (c + 1))) := hq
                      have hs_260 := hq
                      refine W.eq (g2 := F0 mm 263 ls []) rfl ?_
                      have hP : va_P D vwCl [(a 8, aZ ta 256 BOX), (a 9, aZ ta 256 UBOX), (a 18, aS ta 16 d'), (h0, oM a R mn tp osz lsz ns ct), (a 16, aS ta 240 rk), (hb2, aS ta capb gb1_260)] H := hP
                      have hD : va_D A [(a 8, aZ ta 256 BOX), (a 9, aZ ta 256 UBOX), (a 18, aS ta 16 d'), (h0, oM a R mn tp osz lsz ns ct), (a 16, aS ta 240 rk), (hb2, aS ta capb gb1_260)] := hD
                      refine lv_iinc (pc := 263) (v := nI (c + 2)) (lv' := [(4, .int (nI (c + 2))), (5, .int (nI k)), (0, .ref h0), (1, .ref hb2), (2, .int (nI at0)), (3, .int (qb false))]) hx hb dX10_aes_263 hl (k := 1) rfl (by first | exact nI_add (c + 1) 1 | rfl) (by decide) rfl (fun ls hl => ?_)
                      refine lv_goto (pc := 266) (tgt := 149) hx hb dX10_aes_266 (by decide) ?_
                      exact ih149 (c + 1) gb1_260 d' (by omega) (by first | exact aE_step (m := gb1_252) hs hs3 h242 (Or.inl ⟨by omega, by omega, hs_252, hs_260⟩) | exact aE_step (m := gb1_260) hs hs3 h242 (Or.inr ⟨by omega, by omega, hs_260⟩)) (by omega) _ _ (hP.sub [0, 1, 2, 3, 4, 5] rfl) (hD.sub [0, 1, 2, 3, 4, 5] (by decide) rfl) hS ls (lv_sub hl [0, 2, 3, 4, 5] rfl)
                    · skip
                      rw [nI_leI (by omega) (by omega)] at c_7
                      have h242 := c_7
                      refine lv_aload_n (pc := 245) hx hb dX10_aes_245 rfl (lv_at hl 2 rfl) ?_
                      refine lv_aload_n (pc := 246) hx hb dX10_aes_246 rfl (lv_at hl 3 rfl) ?_
                      refine lv_iload_n (pc := 247) hx hb dX10_aes_247 rfl (lv_at hl 4 rfl) ?_
                      refine lv_iconst (pc := 248) (v := nI 2) hx hb dX10_aes_248 (by decide +kernel) ?_
                      refine lv_iconst (pc := 249) (v := nI 3) hx hb dX10_aes_249 (by decide +kernel) ?_
                      refine lv_iconst (pc := 250) (v := nI 1) hx hb dX10_aes_250 (by decide +kernel) ?_
                      refine lv_iconst (pc := 251) (v := nI 1) hx hb dX10_aes_251 (by decide +kernel) ?_
                      refine cs_V (pc := 252) (idx := 77) (n := 6) (wr := [(a 8, aZ ta 256 BOX), (a 9, aZ ta 256 UBOX), (a 16, aS ta 240 rk)]) (As := [.ref hb2, .int (nI at0), .int (nI 2), .int (nI 3), .int (nI 1), .int (nI 1)]) (rest := []) (ci := 8) hx hb hml hown hts hGok hK hA hG hl.1 hP hD hS (ct_X10_mixColumns ll D ta hGok h0 a R mn tp osz lsz ns ct hb2 at0 capb e' d' 2 3 1 1 (by first | assumption | omega | rfl | decide) (by first | assumption | omega | rfl | decide) (by first | assumption | omega | rfl | decide) H.size) tw_1350 tw_1347 tw_1349 tw_47 tw_75 hdX10_mixColumns rfl ⟨rfl, rfl, Nat.le_of_ble_eq_true rfl, Nat.le_of_ble_eq_true rfl, Nat.le_of_ble_eq_true rfl, Nat.le_of_ble_eq_true rfl⟩ rfl rfl (q0 := 3) rfl [3, 2, 5] [0, 1, 4] rfl rfl (by decide) rfl (Nat.le_of_ble_eq_true rfl) dX10_aes_252 (fun u H locs hq hP hD hS => ?_)
                      obtain ⟨gb1_252, ce1_252⟩ := u
                      have hq : (qSeg gb1_252 e' at0 16 (aMix 2 3 1 1 (fun k => e' (at0 + k)))) := hq
                      have hs_252 := hq
                      refine W.eq (g2 := F0 mm 255 ls []) rfl ?_
                      have hP : va_P D vwCl [(a 8, aZ ta 256 BOX), (a 9, aZ ta 256 UBOX), (a 16, aS ta 240 rk), (h0, oM a R mn tp osz lsz ns ct), (a 18, aS ta 16 ce1_252), (hb2, aS ta capb gb1_252)] H := hP
                      have hD : va_D A [(a 8, aZ ta 256 BOX), (a 9, aZ ta 256 UBOX), (a 16, aS ta 240 rk), (h0, oM a R mn tp osz lsz ns ct), (a 18, aS ta 16 ce1_252), (hb2, aS ta capb gb1_252)] := hD
                      refine lv_aload_n (pc := 255) hx hb dX10_aes_255 rfl (lv_at hl 2 rfl) ?_
                      refine lv_aload_n (pc := 256) hx hb dX10_aes_256 rfl (lv_at hl 3 rfl) ?_
                      refine lv_iload_n (pc := 257) hx hb dX10_aes_257 rfl (lv_at hl 4 rfl) ?_
                      refine lv_iload (pc := 258) hx hb dX10_aes_258 (lv_at hl 1 rfl) ?_
                      refine cs_V (pc := 260) (idx := 70) (n := 3) (wr := [(a 8, aZ ta 256 BOX), (a 9, aZ ta 256 UBOX), (a 18, aS ta 16 ce1_252)]) (As := [.ref hb2, .int (nI at0), .int (nI (c + 1))]) (rest := []) (ci := 8) hx hb hml hown hts hGok hK hA hG hl.1 hP hD hS (ct_X10_addKey ll D ta hGok h0 a R mn tp osz lsz ns ct hb2 at0 capb gb1_252 rk (c + 1) (by first | assumption | omega | rfl | decide) (by first | assumption | omega | rfl | decide) (by first | assumption | omega | rfl | decide) H.size) tw_1346 tw_1343 tw_1345 tw_46 tw_75 hdX10_addKey rfl ⟨rfl, rfl, Nat.le_of_ble_eq_true rfl, Nat.le_of_ble_eq_true rfl, Nat.le_of_ble_eq_true rfl, Nat.le_of_ble_eq_true rfl⟩ rfl rfl (q0 := 3) rfl [3, 2, 5] [0, 1, 4] rfl rfl (by decide) rfl (Nat.le_of_ble_eq_true rfl) dX10_aes_260 (fun u H locs hq hP hD hS => ?_)
                      generalize u = gb1_260 at hq hP hD ⊢
                      have hq : (qSeg gb1_260 gb1_252 at0 16 (aAdd (fun k => gb1_252 (at0 + k)) rk (c + 1))) := hq
                      have hs_260 := hq
                      refine W.eq (g2 := F0 mm 263 ls []) rfl ?_
                      have hP : va_P D vwCl [(a 8, aZ ta 256 BOX), (a 9, aZ ta 256 UBOX), (a 18, aS ta 16 ce1_252), (h0, oM a R mn tp osz lsz ns ct), (a 16, aS ta 240 rk), (hb2, aS ta capb gb1_260)] H := hP
                      have hD : va_D A [(a 8, aZ ta 256 BOX), (a 9, aZ ta 256 UBOX), (a 18, aS ta 16 ce1_252), (h0, oM a R mn tp osz lsz ns ct), (a 16, aS ta 240 rk), (hb2, aS ta capb gb1_260)] := hD
                      refine lv_iinc (pc := 263) (v := nI (c + 2)) (lv' := [(4, .int (nI (c + 2))), (5, .int (nI k)), (0, .ref h0), (1, .ref hb2), (2, .int (nI at0)), (3, .int (qb false))]) hx hb dX10_aes_263 hl (k := 1) rfl (by first | exact nI_add (c + 1) 1 | rfl) (by decide) rfl (fun ls hl => ?_)
                      refine lv_goto (pc := 266) (tgt := 149) hx hb dX10_aes_266 (by decide) ?_
                      exact ih149 (c + 1) gb1_260 ce1_252 (by omega) (by first | exact aE_step (m := gb1_252) hs hs3 h242 (Or.inl ⟨by omega, by omega, hs_252, hs_260⟩) | exact aE_step (m := gb1_260) hs hs3 h242 (Or.inr ⟨by omega, by omega, hs_260⟩)) (by omega) _ _ (hP.sub [0, 1, 2, 3, 4, 5] rfl) (hD.sub [0, 1, 2, 3, 4, 5] (by decide) rfl) hS ls (lv_sub hl [0, 2, 3, 4, 5] rfl)
                  · skip
                    rw [nI_leI (by omega) (by omega)] at c_6
                    refine lv_aload_n (pc := 217) hx hb dX10_aes_217 rfl (lv_at hl 3 rfl) ?_
                    refine lv_iload_n (pc := 218) hx hb dX10_aes_218 rfl (lv_at hl 4 rfl) ?_
                    refine lv_iload (pc := 219) hx hb dX10_aes_219 (lv_at hl 0 rfl) ?_
                    refine lv_iadd (pc := 221) hx hb dX10_aes_221 ?_
                    refine q_top (y := nI (at0 + k)) (nI_add at0 k) ?_
                    refine lv_aload_n (pc := 222) hx hb dX10_aes_222 rfl (lv_at hl 2 rfl) ?_
                    refine va_get (pc := 223) (D := D) (ci := 8) (v := .ref (a 18)) (C := RX10) (T := TX10) (N := 57) hx hb hts iu10 hown hK hP 3 rfl rfl 18 (by decide) (hts _ tw_1063) (fun _ h9 => h9) rfl dX10_aes_223 ?_
                    refine lv_iload (pc := 226) hx hb dX10_aes_226 (lv_at hl 0 rfl) ?_
                    refine q_bald (pc := 228) hx hb hK hP 2 2 rfl rfl (k := k) (v := qs (d' k)) rfl (by omega) (by omega) rfl dX10_aes_228 ?_
                    refine q_bastS (pc := 229) hx hb hK hP hD hS 5 2 rfl rfl (k := at0 + k) rfl (by omega) (by omega) (b := d' k) (qlo_qs _) dX10_aes_229 (fun H locs hP hD hS => ?_)
                    have hP : va_P D vwCl [(a 8, aZ ta 256 BOX), (a 9, aZ ta 256 UBOX), (a 18, aS ta 16 d'), (h0, oM a R mn tp osz lsz ns ct), (a 16, aS ta 240 rk), (hb2, aS ta capb (qU e' (at0 + k) (d' k)))] H := hP
                    have hD : va_D A [(a 8, aZ ta 256 BOX), (a 9, aZ ta 256 UBOX), (a 18, aS ta 16 d'), (h0, oM a R mn tp osz lsz ns ct), (a 16, aS ta 240 rk), (hb2, aS ta capb (qU e' (at0 + k) (d' k)))] := hD
                    refine lv_iinc (pc := 230) (v := nI (k + 1)) (lv' := [(5, .int (nI (k + 1))), (4, .int (nI (c + 1))), (0, .ref h0), (1, .ref hb2), (2, .int (nI at0)), (3, .int (qb false))]) hx hb dX10_aes_230 hl (k := 0) rfl (by first | exact nI_add k 1 | rfl) (by decide) rfl (fun ls hl => ?_)
                    refine lv_goto (pc := 233) (tgt := 210) hx hb dX10_aes_233 (by decide) ?_
                    exact ih210 (k + 1) (qU e' (at0 + k) (d' k)) (by omega) (qSeg_s hs3 rfl (qSeg_at hs2 (by omega))) (by omega) _ _ (hP.sub [0, 1, 2, 3, 4, 5] rfl) (hD.sub [0, 1, 2, 3, 4, 5] (by decide) rfl) hS ls (lv_sub hl [0, 1, 2, 3, 4, 5] rfl)
              exact LP210 _ 0 b' (by omega) (qSeg_0) (Nat.lt_succ_self _) _ _ (hP.sub [0, 1, 2, 3, 4, 5] rfl) (hD.sub [0, 1, 2, 3, 4, 5] (by decide) rfl) hS ls (lv_sub hl [0, 1, 2, 3, 4, 5] rfl)
            · skip
              rw [nI_leI (by omega) (by omega)] at c_5
              refine lv_aload_n (pc := 168) hx hb dX10_aes_168 rfl (lv_at hl 2 rfl) ?_
              refine va_get (pc := 169) (D := D) (ci := 8) (v := .ref (a 18)) (C := RX10) (T := TX10) (N := 57) hx hb hts iu10 hown hK hP 3 rfl rfl 18 (by decide) (hts _ tw_1063) (fun _ h9 => h9) rfl dX10_aes_169 ?_
              refine lv_iload (pc := 172) hx hb dX10_aes_172 (lv_at hl 0 rfl) ?_
              refine lv_aload_n (pc := 174) hx hb dX10_aes_174 rfl (lv_at hl 2 rfl) ?_
              refine va_get (pc := 175) (D := D) (ci := 8) (v := .ref (a 8)) (C := RX10) (T := TX10) (N := 57) hx hb hts iu10 hown hK hP 3 rfl rfl 8 (by decide) (hts _ tw_1053) (fun _ h9 => h9) rfl dX10_aes_175 ?_
              refine lv_aload_n (pc := 178) hx hb dX10_aes_178 rfl (lv_at hl 3 rfl) ?_
              refine lv_iload_n (pc := 179) hx hb dX10_aes_179 rfl (lv_at hl 4 rfl) ?_
              refine lv_iload (pc := 180) hx hb dX10_aes_180 (lv_at hl 0 rfl) ?_
              refine lv_iconst (pc := 182) (v := nI 4) hx hb dX10_aes_182 (by decide +kernel) ?_
              refine lv_iload (pc := 183) hx hb dX10_aes_183 (lv_at hl 0 rfl) ?_
              refine lv_iconst (pc := 185) (v := nI 4) hx hb dX10_aes_185 (by decide +kernel) ?_
              refine lv_irem (pc := 186) hx hb dX10_aes_186 (q_ne0 (by omega) (by omega)) ?_
              refine q_top (y := nI (d % 4)) (pk_rem (by omega) (by omega) (by omega)) ?_
              refine lv_imul (pc := 187) hx hb dX10_aes_187 ?_
              refine q_top (y := nI (4 * (d % 4))) (pk_mul 4 (d % 4)) ?_
              refine lv_iadd (pc := 188) hx hb dX10_aes_188 ?_
              refine q_top (y := nI (d + (4 * (d % 4)))) (nI_add d (4 * (d % 4))) ?_
              refine lv_bipush (pc := 189) (v := nI 16) hx hb dX10_aes_189 (by decide +kernel) ?_
              refine lv_irem (pc := 191) hx hb dX10_aes_191 (q_ne0 (by omega) (by omega)) ?_
              refine q_top (y := nI ((d + (4 * (d % 4))) % 16)) (pk_rem (by omega) (by omega) (by omega)) ?_
              refine lv_iadd (pc := 192) hx hb dX10_aes_192 ?_
              refine q_top (y := nI (at0 + ((d + (4 * (d % 4))) % 16))) (nI_add at0 ((d + (4 * (d % 4))) % 16)) ?_
              refine q_bald (pc := 193) hx hb hK hP 5 2 rfl rfl (k := at0 + ((d + (4 * (d % 4))) % 16)) (v := qs (b' (at0 + ((d + (4 * (d % 4))) % 16)))) rfl (by omega) (by omega) rfl dX10_aes_193 ?_
              refine lv_sipush (pc := 194) (v := nI 255) hx hb dX10_aes_194 (by decide +kernel) ?_
              refine lv_iand (pc := 197) hx hb dX10_aes_197 ?_
              refine q_top (y := qz (b' (at0 + ((d + (4 * (d % 4))) % 16)))) ((q_m255 _).trans (congrArg qz (qlo_qs _))) ?_
              refine q_iald (pc := 198) hx hb hK hP 0 0 rfl rfl (k := (b' (at0 + ((d + (4 * (d % 4))) % 16))).toNat) (v := qz (BOX ((b' (at0 + ((d + (4 * (d % 4))) % 16))).toNat))) (qz_nat _) (BitVec.isLt _) (by omega) rfl dX10_aes_198 ?_
              refine lv_i2b (pc := 199) (v := qs (BOX ((b' (at0 + ((d + (4 * (d % 4))) % 16))).toNat))) hx hb dX10_aes_199 (q_i2b_z _) ?_
              refine q_bastS (pc := 200) hx hb hK hP hD hS 2 2 rfl rfl (k := d) rfl (by omega) (by omega) (b := BOX ((b' (at0 + ((d + (4 * (d % 4))) % 16))).toNat)) (qlo_qs _) dX10_aes_200 (fun H locs hP hD hS => ?_)
              have hP : va_P D vwCl [(a 8, aZ ta 256 BOX), (a 9, aZ ta 256 UBOX), (a 18, aS ta 16 (qU d' d (BOX ((b' (at0 + ((d + (4 * (d % 4))) % 16))).toNat)))), (h0, oM a R mn tp osz lsz ns ct), (a 16, aS ta 240 rk), (hb2, aS ta capb b')] H := hP
              have hD : va_D A [(a 8, aZ ta 256 BOX), (a 9, aZ ta 256 UBOX), (a 18, aS ta 16 (qU d' d (BOX ((b' (at0 + ((d + (4 * (d % 4))) % 16))).toNat)))), (h0, oM a R mn tp osz lsz ns ct), (a 16, aS ta 240 rk), (hb2, aS ta capb b')] := hD
              refine lv_iinc (pc := 201) (v := nI (d + 1)) (lv' := [(5, .int (nI (d + 1))), (4, .int (nI (c + 1))), (0, .ref h0), (1, .ref hb2), (2, .int (nI at0)), (3, .int (qb false))]) hx hb dX10_aes_201 hl (k := 0) rfl (by first | exact nI_add d 1 | rfl) (by decide) rfl (fun ls hl => ?_)
              refine lv_goto (pc := 204) (tgt := 161) hx hb dX10_aes_204 (by decide) ?_
              exact ih161 (d + 1) (qU d' d (BOX ((b' (at0 + ((d + (4 * (d % 4))) % 16))).toNat))) (by omega) (qSeg_s hs2 (by omega) (by simp only [aSub]; rw [hs.1 _ (by omega)])) (by omega) _ _ (hP.sub [0, 1, 2, 3, 4, 5] rfl) (hD.sub [0, 1, 2, 3, 4, 5] (by decide) rfl) hS ls (lv_sub hl [0, 1, 2, 3, 4, 5] rfl)
        exact LP161 _ 0 c' (by omega) (qSeg_0) (Nat.lt_succ_self _) _ _ (hP.sub [0, 1, 2, 3, 4, 5] rfl) (hD.sub [0, 1, 2, 3, 4, 5] (by decide) rfl) hS ls (lv_sub hl [0, 1, 2, 3, 4, 5] rfl)
  exact LP149 _ 0 gb1_143 ce (by omega) (hs_143) (Nat.lt_succ_self _) _ _ (hP.sub [0, 1, 2, 3, 4, 5] rfl) (hD.sub [0, 1, 2, 3, 4, 5] (by decide) rfl) hS ls (lv_sub hl [0, 1, 2, 3, 4] rfl)
set_option maxHeartbeats 4000000 in
set_option maxRecDepth 100000 in
theorem ct_X10_aes_b (ll : Launch) (D : va_G) (ta : Nat → ClassId) {G : (Nat → Prop) → State → Heap → Prop} (hGok : GOK G) (h0 : Nat) (a : Nat → Nat) (R : Nat) (mn : Nat) (tp : Nat) (osz : Nat) (lsz : Nat) (ns : Nat) (ct : Nat) (hb2 : Nat) (at0 : Nat) (capb : Nat) (gb : Nat → BitVec 8) (ce : Nat → BitVec 8) (rk : Nat → BitVec 8) (hat : at0 + 16 ≤ capb) (hcb : capb < 2147483648) (hR : 1 ≤ R ∧ R ≤ 14) (sz : Nat) : CT ll yX10_aes cX10_aes 6 none ({ frames := 3, cells := 0, slots := 0, locals := 73 } : Room) D ta G [.ref h0, .ref hb2, .int (nI at0), .int (qb true)] [(h0, oM a R mn tp osz lsz ns ct), (a 8, aZ ta 256 BOX), (a 9, aZ ta 256 UBOX), (a 16, aS ta 240 rk), (a 18, aS ta 16 ce), (hb2, aS ta capb gb)] sz (S := (Nat → BitVec 8) × (Nat → BitVec 8)) (fun _ => none) (fun u => (qSeg u.1 gb at0 16 (aD rk R (fun k => gb (at0 + k)) R))) (fun u => [(h0, oM a R mn tp osz lsz ns ct), (a 8, aZ ta 256 BOX), (a 9, aZ ta 256 UBOX), (a 16, aS ta 240 rk), (a 18, aS ta 16 u.2), (hb2, aS ta capb u.1)]) 0 0 := by
  refine CT.of_v rfl (by decide) (Nat.le_of_ble_eq_true rfl) ?_
  intro pp ee ss mm below meth kc A Q hx hb hml hown hin hts hK hA hsz hG hret H locs hP hD hS ls hl
  have hl : lv_has ls 6 [(0, .ref h0), (1, .ref hb2), (2, .int (nI at0)), (3, .int (qb true))] := hl
  refine lv_iload_n (pc := 0) hx hb dX10_aes_0 rfl (lv_at hl 3 rfl) ?_
  refine lv_if_eq (pc := 1) (tgt := 139) hx hb dX10_aes_1 (by decide) (fun c_1 => ?_) (fun _ => ?_)
  · skip
    exact absurd c_1 (by decide)
  refine lv_aload_n (pc := 4) hx hb dX10_aes_4 rfl (lv_at hl 0 rfl) ?_
  refine lv_aload_n (pc := 5) hx hb dX10_aes_5 rfl (lv_at hl 1 rfl) ?_
  refine lv_iload_n (pc := 6) hx hb dX10_aes_6 rfl (lv_at hl 2 rfl) ?_
  refine lv_aload_n (pc := 7) hx hb dX10_aes_7 rfl (lv_at hl 0 rfl) ?_
  refine va_get (pc := 8) (D := D) (ci := 8) (v := .int (nI R)) (C := RX10) (T := TX10) (N := 57) hx hb hts iu10 hown hK hP 0 rfl rfl 17 (by decide) (hts _ tw_1062) (fun _ h9 => h9) rfl dX10_aes_8 ?_
  refine cs_V (pc := 11) (idx := 70) (n := 3) (wr := [(a 8, aZ ta 256 BOX), (a 9, aZ ta 256 UBOX), (a 18, aS ta 16 ce)]) (As := [.ref hb2, .int (nI at0), .int (nI R)]) (rest := []) (ci := 8) hx hb hml hown hts hGok hK hA hG hl.1 hP hD hS (ct_X10_addKey ll D ta hGok h0 a R mn tp osz lsz ns ct hb2 at0 capb gb rk R (by first | assumption | omega | rfl | decide) (by first | assumption | omega | rfl | decide) (by first | assumption | omega | rfl | decide) H.size) tw_1346 tw_1343 tw_1345 tw_46 tw_75 hdX10_addKey rfl ⟨rfl, rfl, Nat.le_of_ble_eq_true rfl, Nat.le_of_ble_eq_true rfl, Nat.le_of_ble_eq_true rfl, Nat.le_of_ble_eq_true rfl⟩ rfl rfl (q0 := 0) rfl [0, 3, 5] [1, 2, 4] rfl rfl (by decide) rfl (Nat.le_of_ble_eq_true rfl) dX10_aes_11 (fun u H locs hq hP hD hS => ?_)
  generalize u = gb1_11 at hq hP hD ⊢
  have hq : (qSeg gb1_11 gb at0 16 (aAdd (fun k => gb (at0 + k)) rk R)) := hq
  have hs_11 := hq
  refine W.eq (g2 := F0 mm 14 ls []) rfl ?_
  have hP : va_P D vwCl [(a 8, aZ ta 256 BOX), (a 9, aZ ta 256 UBOX), (a 18, aS ta 16 ce), (h0, oM a R mn tp osz lsz ns ct), (a 16, aS ta 240 rk), (hb2, aS ta capb gb1_11)] H := hP
  have hD : va_D A [(a 8, aZ ta 256 BOX), (a 9, aZ ta 256 UBOX), (a 18, aS ta 16 ce), (h0, oM a R mn tp osz lsz ns ct), (a 16, aS ta 240 rk), (hb2, aS ta capb gb1_11)] := hD
  refine lv_aload_n (pc := 14) hx hb dX10_aes_14 rfl (lv_at hl 0 rfl) ?_
  refine va_get (pc := 15) (D := D) (ci := 8) (v := .int (nI R)) (C := RX10) (T := TX10) (N := 57) hx hb hts iu10 hown hK hP 3 rfl rfl 17 (by decide) (hts _ tw_1062) (fun _ h9 => h9) rfl dX10_aes_15 ?_
  refine lv_iconst (pc := 18) (v := nI 1) hx hb dX10_aes_18 (by decide +kernel) ?_
  refine lv_isub (pc := 19) hx hb dX10_aes_19 ?_
  refine q_top (y := qI R) (qI_of R) ?_
  refine lv_istore (pc := 20) (lv' := [(4, .int (qI R)), (0, .ref h0), (1, .ref hb2), (2, .int (nI at0)), (3, .int (qb true))]) hx hb dX10_aes_20 hl (by decide) rfl (fun ls hl => ?_)
  have LP22 : ∀ (nn22 : Nat) (m : Nat) (b' : Nat → BitVec 8) (c' : Nat → BitVec 8), (m ≤ R) → (qSeg b' gb at0 16 (aD rk R (fun k => gb (at0 + k)) (R - m))) → (m < nn22) → ∀ (H : Heap) (locs : List Loc), va_P D vwCl [(a 8, aZ ta 256 BOX), (a 9, aZ ta 256 UBOX), (a 18, aS ta 16 c'), (h0, oM a R mn tp osz lsz ns ct), (a 16, aS ta 240 rk), (hb2, aS ta capb b')] H → va_D A [(a 8, aZ ta 256 BOX), (a 9, aZ ta 256 UBOX), (a 18, aS ta 16 c'), (h0, oM a R mn tp osz lsz ns ct), (a 16, aS ta 240 rk), (hb2, aS ta capb b')] → va_S A ss.heap H locs → ∀ ls : Array Slot, lv_has ls 6 [(4, .int (qI m)), (0, .ref h0), (1, .ref hb2), (2, .int (nI at0)), (3, .int (qb true))] → W pp ll ee ({ frames := 3, cells := 0, slots := 0, locals := 73 } : Room) ss mm (([.ref h0, .ref hb2, .int (nI at0), .int (qb true)] : List Value).toArray) below meth kc H locs 0 0 Q (F0 mm 22 ls []) := by
    intro nn22
    induction nn22 with
    | zero => intro m b' c' hcc hs hmu; exact absurd hmu (Nat.not_lt_zero _)
    | succ nn22 ih22 =>
      intro m b' c' hcc hs hmu22 H locs hP hD hS ls hl
      refine lv_iload (pc := 22) hx hb dX10_aes_22 (lv_at hl 0 rfl) ?_
      refine lv_if_lt (pc := 24) (tgt := 138) hx hb dX10_aes_24 (by decide) (fun c_2 => ?_) (fun c_2 => ?_)
      · skip
        rw [qI_neg (by omega)] at c_2
        subst c_2
        have hq_3 : (qSeg b' gb at0 16 (aD rk R (fun k => gb (at0 + k)) R)) := by
          rw [Nat.sub_zero] at hs; exact hs
        exact hret (⟨(b'), (c')⟩ : (Nat → BitVec 8) × (Nat → BitVec 8)) _ _ _ _ dX10_aes_138 hq_3 (hP.sub [3, 0, 1, 4, 2, 5] rfl) (hD.sub [3, 0, 1, 4, 2, 5] (by decide) rfl) hS
      · skip
        rw [qI_neg (by omega)] at c_2
        obtain ⟨t, rfl⟩ : ∃ t, m = t + 1 := ⟨m - 1, by omega⟩
        rw [qI_s] at hl
        refine lv_iconst (pc := 27) (v := nI 0) hx hb dX10_aes_27 (by decide +kernel) ?_
        refine lv_istore (pc := 28) (lv' := [(5, .int (nI 0)), (4, .int (nI t)), (0, .ref h0), (1, .ref hb2), (2, .int (nI at0)), (3, .int (qb true))]) hx hb dX10_aes_28 hl (by decide) rfl (fun ls hl => ?_)
        have LP30 : ∀ (nn30 : Nat) (d : Nat) (d' : Nat → BitVec 8), (d ≤ 16) → (∀ j, j < d → d' ((j + 4 * (j % 4)) % 16) = UBOX ((aD rk R (fun k => gb (at0 + k)) (R - (t + 1))) j).toNat) → (16 - d < nn30) → ∀ (H : Heap) (locs : List Loc), va_P D vwCl [(a 8, aZ ta 256 BOX), (a 9, aZ ta 256 UBOX), (a 18, aS ta 16 d'), (h0, oM a R mn tp osz lsz ns ct), (a 16, aS ta 240 rk), (hb2, aS ta capb b')] H → va_D A [(a 8, aZ ta 256 BOX), (a 9, aZ ta 256 UBOX), (a 18, aS ta 16 d'), (h0, oM a R mn tp osz lsz ns ct), (a 16, aS ta 240 rk), (hb2, aS ta capb b')] → va_S A ss.heap H locs → ∀ ls : Array Slot, lv_has ls 6 [(5, .int (nI d)), (4, .int (nI t)), (0, .ref h0), (1, .ref hb2), (2, .int (nI at0)), (3, .int (qb true))] → W pp ll ee ({ frames := 3, cells := 0, slots := 0, locals := 73 } : Room) ss mm (([.ref h0, .ref hb2, .int (nI at0), .int (qb true)] : List Value).toArray) below meth kc H locs 0 0 Q (F0 mm 30 ls []) := by
          intro nn30
          induction nn30 with
          | zero => intro d d' hdd hs2 hmu; exact absurd hmu (Nat.not_lt_zero _)
          | succ nn30 ih30 =>
            intro d d' hdd hs2 hmu30 H locs hP hD hS ls hl
            refine lv_iload (pc := 30) hx hb dX10_aes_30 (lv_at hl 0 rfl) ?_
            refine lv_bipush (pc := 32) (v := nI 16) hx hb dX10_aes_32 (by decide +kernel) ?_
            refine lv_icmp_ge (pc := 34) (tgt := 76) hx hb dX10_aes_34 (by decide) (fun c_4 => ?_) (fun c_4 => ?_)
            · skip
              rw [nI_leI (by omega) (by omega)] at c_4
              refine lv_iconst (pc := 76) (v := nI 0) hx hb dX10_aes_76 (by decide +kernel) ?_
              refine lv_istore (pc := 77) (lv' := [(5, .int (nI 0)), (4, .int (nI t)), (0, .ref h0), (1, .ref hb2), (2, .int (nI at0)), (3, .int (qb true))]) hx hb dX10_aes_77 hl (by decide) rfl (fun ls hl => ?_)
              have LP79 : ∀ (nn79 : Nat) (k : Nat) (e' : Nat → BitVec 8), (k ≤ 16) → (qSeg e' b' at0 k (aUns (aD rk R (fun k => gb (at0 + k)) (R - (t + 1))))) → (16 - k < nn79) → ∀ (H : Heap) (locs : List Loc), va_P D vwCl [(a 8, aZ ta 256 BOX), (a 9, aZ ta 256 UBOX), (a 18, aS ta 16 d'), (h0, oM a R mn tp osz lsz ns ct), (a 16, aS ta 240 rk), (hb2, aS ta capb e')] H → va_D A [(a 8, aZ ta 256 BOX), (a 9, aZ ta 256 UBOX), (a 18, aS ta 16 d'), (h0, oM a R mn tp osz lsz ns ct), (a 16, aS ta 240 rk), (hb2, aS ta capb e')] → va_S A ss.heap H locs → ∀ ls : Array Slot, lv_has ls 6 [(5, .int (nI k)), (4, .int (nI t)), (0, .ref h0), (1, .ref hb2), (2, .int (nI at0)), (3, .int (qb true))] → W pp ll ee ({ frames := 3, cells := 0, slots := 0, locals := 73 } : Room) ss mm (([.ref h0, .ref hb2, .int (nI at0), .int (qb true)] : List Value).toArray) below meth kc H locs 0 0 Q (F0 mm 79 ls []) := by
                intro nn79
                induction nn79 with
                | zero => intro k e' hkk hs3 hmu; exact absurd hmu (Nat.not_lt_zero _)
                | succ nn79 ih79 =>
                  intro k e' hkk hs3 hmu79 H locs hP hD hS ls hl
                  refine lv_iload (pc := 79) hx hb dX10_aes_79 (lv_at hl 0 rfl) ?_
                  refine lv_bipush (pc := 81) (v := nI 16) hx hb dX10_aes_81 (by decide +kernel) ?_
                  refine lv_icmp_ge (pc := 83) (tgt := 105) hx hb dX10_aes_83 (by decide) (fun c_5 => ?_) (fun c_5 => ?_)
                  · skip
                    rw [nI_leI (by omega) (by omega)] at c_5
                    refine lv_aload_n (pc := 105) hx hb dX10_aes_105 rfl (lv_at hl 2 rfl) ?_
                    refine lv_aload_n (pc := 106) hx hb dX10_aes_106 rfl (lv_at hl 3 rfl) ?_
                    refine lv_iload_n (pc := 107) hx hb dX10_aes_107 rfl (lv_at hl 4 rfl) ?_
                    refine lv_iload (pc := 108) hx hb dX10_aes_108 (lv_at hl 1 rfl) ?_
                    refine cs_V (pc := 110) (idx := 70) (n := 3) (wr := [(a 8, aZ ta 256 BOX), (a 9, aZ ta 256 UBOX), (a 18, aS ta 16 d')]) (As := [.ref hb2, .int (nI at0), .int (nI t)]) (rest := []) (ci := 8) hx hb hml hown hts hGok hK hA hG hl.1 hP hD hS (ct_X10_addKey ll D ta hGok h0 a R mn tp osz lsz ns ct hb2 at0 capb e' rk t (by first | assumption | omega | rfl | decide) (by first | assumption | omega | rfl | decide) (by first | assumption | omega | rfl | decide) H.size) tw_1346 tw_1343 tw_1345 tw_46 tw_75 hdX10_addKey rfl ⟨rfl, rfl, Nat.le_of_ble_eq_true rfl, Nat.le_of_ble_eq_true rfl, Nat.le_of_ble_eq_true rfl, Nat.le_of_ble_eq_true rfl⟩ rfl rfl (q0 := 3) rfl [3, 4, 5] [0, 1, 2] rfl rfl (by decide) rfl (Nat.le_of_ble_eq_true rfl) dX10_aes_110 (fun u H locs hq hP hD hS => ?_)
                    generalize u = gb1_110 at hq hP hD ⊢
                    have hq : (qSeg gb1_110 e' at0 16 (aAdd (fun k => e' (at0 + k)) rk t)) := hq
                    have hs_110 := hq
                    refine W.eq (g2 := F0 mm 113 ls []) rfl ?_
                    have hP : va_P D vwCl [(a 8, aZ ta 256 BOX), (a 9, aZ ta 256 UBOX), (a 18, aS ta 16 d'), (h0, oM a R mn tp osz lsz ns ct), (a 16, aS ta 240 rk), (hb2, aS ta capb gb1_110)] H := hP
                    have hD : va_D A [(a 8, aZ ta 256 BOX), (a 9, aZ ta 256 UBOX), (a 18, aS ta 16 d'), (h0, oM a R mn tp osz lsz ns ct), (a 16, aS ta 240 rk), (hb2, aS ta capb gb1_110)] := hD
                    refine lv_iload (pc := 113) hx hb dX10_aes_113 (lv_at hl 1 rfl) ?_
                    refine lv_if_le (pc := 115) (tgt := 132) hx hb dX10_aes_115 (by decide) (fun c_6 => ?_) (fun c_6 => ?_)
                    · skip
                      rw [q_le0 (by omega)] at c_6
                      have h115 := c_6
                      refine lv_iinc (pc := 132) (v := qI t) (lv' := [(4, .int (qI t)), (5, .int (nI k)), (0, .ref h0), (1, .ref hb2), (2, .int (nI at0)), (3, .int (qb true))]) hx hb dX10_aes_132 hl (k := 1) rfl rfl (by decide) rfl (fun ls hl => ?_)
                      refine lv_goto (pc := 135) (tgt := 22) hx hb dX10_aes_135 (by decide) ?_
                      exact ih22 t gb1_110 d' (by omega) (aD_step (by omega) hs hs3 hs_110 (by first | exact Or.inl ⟨by omega, hs_129⟩ | exact Or.inr ⟨by omega, rfl⟩)) (by omega) _ _ (hP.sub [0, 1, 2, 3, 4, 5] rfl) (hD.sub [0, 1, 2, 3, 4, 5] (by decide) rfl) hS ls (lv_sub hl [0, 2, 3, 4, 5] rfl)
                    · skip
                      rw [q_le0 (by omega)] at c_6
                      have h115 := c_6
                      refine lv_aload_n (pc := 118) hx hb dX10_aes_118 rfl (lv_at hl 2 rfl) ?_
                      refine lv_aload_n (pc := 119) hx hb dX10_aes_119 rfl (lv_at hl 3 rfl) ?_
                      refine lv_iload_n (pc := 120) hx hb dX10_aes_120 rfl (lv_at hl 4 rfl) ?_
                      refine lv_bipush (pc := 121) (v := nI 14) hx hb dX10_aes_121 (by decide +kernel) ?_
                      refine lv_bipush (pc := 123) (v := nI 11) hx hb dX10_aes_123 (by decide +kernel) ?_
                      refine lv_bipush (pc := 125) (v := nI 13) hx hb dX10_aes_125 (by decide +kernel) ?_
                      refine lv_bipush (pc := 127) (v := nI 9) hx hb dX10_aes_127 (by decide +kernel) ?_
                      refine cs_V (pc := 129) (idx := 77) (n := 6) (wr := [(a 8, aZ ta 256 BOX), (a 9, aZ ta 256 UBOX), (a 16, aS ta 240 rk)]) (As := [.ref hb2, .int (nI at0), .int (nI 14), .int (nI 11), .int (nI 13), .int (nI 9)]) (rest := []) (ci := 8) hx hb hml hown hts hGok hK hA hG hl.1 hP hD hS (ct_X10_mixColumns ll D ta hGok h0 a R mn tp osz lsz ns ct hb2 at0 capb gb1_110 d' 14 11 13 9 (by first | assumption | omega | rfl | decide) (by first | assumption | omega | rfl | decide) (by first | assumption | omega | rfl | decide) H.size) tw_1350 tw_1347 tw_1349 tw_47 tw_75 hdX10_mixColumns rfl ⟨rfl, rfl, Nat.le_of_ble_eq_true rfl, Nat.le_of_ble_eq_true rfl, Nat.le_of_ble_eq_true rfl, Nat.le_of_ble_eq_true rfl⟩ rfl rfl (q0 := 3) rfl [3, 2, 5] [0, 1, 4] rfl rfl (by decide) rfl (Nat.le_of_ble_eq_true rfl) dX10_aes_129 (fun u H locs hq hP hD hS => ?_)
                      obtain ⟨gb1_129, ce1_129⟩ := u
                      have hq : (qSeg gb1_129 gb1_110 at0 16 (aMix 14 11 13 9 (fun k => gb1_110 (at0 + k)))) := hq
                      have hs_129 := hq
                      refine W.eq (g2 := F0 mm 132 ls []) rfl ?_
                      have hP : va_P D vwCl [(a 8, aZ ta 256 BOX), (a 9, aZ ta 256 UBOX), (a 16, aS ta 240 rk), (h0, oM a R mn tp osz lsz ns ct), (a 18, aS ta 16 ce1_129), (hb2, aS ta capb gb1_129)] H := hP
                      have hD : va_D A [(a 8, aZ ta 256 BOX), (a 9, aZ ta 256 UBOX), (a 16, aS ta 240 rk), (h0, oM a R mn tp osz lsz ns ct), (a 18, aS ta 16 ce1_129), (hb2, aS ta capb gb1_129)] := hD
                      refine lv_iinc (pc := 132) (v := qI t) (lv' := [(4, .int (qI t)), (5, .int (nI k)), (0, .ref h0), (1, .ref hb2), (2, .int (nI at0)), (3, .int (qb true))]) hx hb dX10_aes_132 hl (k := 1) rfl rfl (by decide) rfl (fun ls hl => ?_)
                      refine lv_goto (pc := 135) (tgt := 22) hx hb dX10_aes_135 (by decide) ?_
                      exact ih22 t gb1_129 ce1_129 (by omega) (aD_step (by omega) hs hs3 hs_110 (by first | exact Or.inl ⟨by omega, hs_129⟩ | exact Or.inr ⟨by omega, rfl⟩)) (by omega) _ _ (hP.sub [0, 1, 4, 3, 2, 5] rfl) (hD.sub [0, 1, 4, 3, 2, 5] (by decide) rfl) hS ls (lv_sub hl [0, 2, 3, 4, 5] rfl)
                  · skip
                    rw [nI_leI (by omega) (by omega)] at c_5
                    refine lv_aload_n (pc := 86) hx hb dX10_aes_86 rfl (lv_at hl 3 rfl) ?_
                    refine lv_iload_n (pc := 87) hx hb dX10_aes_87 rfl (lv_at hl 4 rfl) ?_
                    refine lv_iload (pc := 88) hx hb dX10_aes_88 (lv_at hl 0 rfl) ?_
                    refine lv_iadd (pc := 90) hx hb dX10_aes_90 ?_
                    refine q_top (y := nI (at0 + k)) (nI_add at0 k) ?_
                    refine lv_aload_n (pc := 91) hx hb dX10_aes_91 rfl (lv_at hl 2 rfl) ?_
                    refine va_get (pc := 92) (D := D) (ci := 8) (v := .ref (a 18)) (C := RX10) (T := TX10) (N := 57) hx hb hts iu10 hown hK hP 3 rfl rfl 18 (by decide) (hts _ tw_1063) (fun _ h9 => h9) rfl dX10_aes_92 ?_
                    refine lv_iload (pc := 95) hx hb dX10_aes_95 (lv_at hl 0 rfl) ?_
                    refine q_bald (pc := 97) hx hb hK hP 2 2 rfl rfl (k := k) (v := qs (d' k)) rfl (by omega) (by omega) rfl dX10_aes_97 ?_
                    refine q_bastS (pc := 98) hx hb hK hP hD hS 5 2 rfl rfl (k := at0 + k) rfl (by omega) (by omega) (b := d' k) (qlo_qs _) dX10_aes_98 (fun H locs hP hD hS => ?_)
                    have hP : va_P D vwCl [(a 8, aZ ta 256 BOX), (a 9, aZ ta 256 UBOX), (a 18, aS ta 16 d'), (h0, oM a R mn tp osz lsz ns ct), (a 16, aS ta 240 rk), (hb2, aS ta capb (qU e' (at0 + k) (d' k)))] H := hP
                    have hD : va_D A [(a 8, aZ ta 256 BOX), (a 9, aZ ta 256 UBOX), (a 18, aS ta 16 d'), (h0, oM a R mn tp osz lsz ns ct), (a 16, aS ta 240 rk), (hb2, aS ta capb (qU e' (at0 + k) (d' k)))] := hD
                    refine lv_iinc (pc := 99) (v := nI (k + 1)) (lv' := [(5, .int (nI (k + 1))), (4, .int (nI t)), (0, .ref h0), (1, .ref hb2), (2, .int (nI at0)), (3, .int (qb true))]) hx hb dX10_aes_99 hl (k := 0) rfl (by first | exact nI_add k 1 | rfl) (by decide) rfl (fun ls hl => ?_)
                    refine lv_goto (pc := 102) (tgt := 79) hx hb dX10_aes_102 (by decide) ?_
                    exact ih79 (k + 1) (qU e' (at0 + k) (d' k)) (by omega) (qSeg_s hs3 rfl (by have q := hs2 ((k + 12 * (k % 4)) % 16) (by omega); rw [show ((k + 12 * (k % 4)) % 16 + 4 * ((k + 12 * (k % 4)) % 16 % 4)) % 16 = k by omega] at q; rw [q]; rfl)) (by omega) _ _ (hP.sub [0, 1, 2, 3, 4, 5] rfl) (hD.sub [0, 1, 2, 3, 4, 5] (by decide) rfl) hS ls (lv_sub hl [0, 1, 2, 3, 4, 5] rfl)
              exact LP79 _ 0 b' (by omega) (qSeg_0) (Nat.lt_succ_self _) _ _ (hP.sub [0, 1, 2, 3, 4, 5] rfl) (hD.sub [0, 1, 2, 3, 4, 5] (by decide) rfl) hS ls (lv_sub hl [0, 1, 2, 3, 4, 5] rfl)
            · skip
              rw [nI_leI (by omega) (by omega)] at c_4
              refine lv_aload_n (pc := 37) hx hb dX10_aes_37 rfl (lv_at hl 2 rfl) ?_
              refine va_get (pc := 38) (D := D) (ci := 8) (v := .ref (a 18)) (C := RX10) (T := TX10) (N := 57) hx hb hts iu10 hown hK hP 3 rfl rfl 18 (by decide) (hts _ tw_1063) (fun _ h9 => h9) rfl dX10_aes_38 ?_
              refine lv_iload (pc := 41) hx hb dX10_aes_41 (lv_at hl 0 rfl) ?_
              refine lv_iconst (pc := 43) (v := nI 4) hx hb dX10_aes_43 (by decide +kernel) ?_
              refine lv_iload (pc := 44) hx hb dX10_aes_44 (lv_at hl 0 rfl) ?_
              refine lv_iconst (pc := 46) (v := nI 4) hx hb dX10_aes_46 (by decide +kernel) ?_
              refine lv_irem (pc := 47) hx hb dX10_aes_47 (q_ne0 (by omega) (by omega)) ?_
              refine q_top (y := nI (d % 4)) (pk_rem (by omega) (by omega) (by omega)) ?_
              refine lv_imul (pc := 48) hx hb dX10_aes_48 ?_
              refine q_top (y := nI (4 * (d % 4))) (pk_mul 4 (d % 4)) ?_
              refine lv_iadd (pc := 49) hx hb dX10_aes_49 ?_
              refine q_top (y := nI (d + (4 * (d % 4)))) (nI_add d (4 * (d % 4))) ?_
              refine lv_bipush (pc := 50) (v := nI 16) hx hb dX10_aes_50 (by decide +kernel) ?_
              refine lv_irem (pc := 52) hx hb dX10_aes_52 (q_ne0 (by omega) (by omega)) ?_
              refine q_top (y := nI ((d + (4 * (d % 4))) % 16)) (pk_rem (by omega) (by omega) (by omega)) ?_
              refine lv_aload_n (pc := 53) hx hb dX10_aes_53 rfl (lv_at hl 2 rfl) ?_
              refine va_get (pc := 54) (D := D) (ci := 8) (v := .ref (a 9)) (C := RX10) (T := TX10) (N := 57) hx hb hts iu10 hown hK hP 3 rfl rfl 9 (by decide) (hts _ tw_1054) (fun _ h9 => h9) rfl dX10_aes_54 ?_
              refine lv_aload_n (pc := 57) hx hb dX10_aes_57 rfl (lv_at hl 3 rfl) ?_
              refine lv_iload_n (pc := 58) hx hb dX10_aes_58 rfl (lv_at hl 4 rfl) ?_
              refine lv_iload (pc := 59) hx hb dX10_aes_59 (lv_at hl 0 rfl) ?_
              refine lv_iadd (pc := 61) hx hb dX10_aes_61 ?_
              refine q_top (y := nI (at0 + d)) (nI_add at0 d) ?_
              refine q_bald (pc := 62) hx hb hK hP 5 2 rfl rfl (k := at0 + d) (v := qs (b' (at0 + d))) rfl (by omega) (by omega) rfl dX10_aes_62 ?_
              refine lv_sipush (pc := 63) (v := nI 255) hx hb dX10_aes_63 (by decide +kernel) ?_
              refine lv_iand (pc := 66) hx hb dX10_aes_66 ?_
              refine q_top (y := qz (b' (at0 + d))) ((q_m255 _).trans (congrArg qz (qlo_qs _))) ?_
              refine q_iald (pc := 67) hx hb hK hP 1 0 rfl rfl (k := (b' (at0 + d)).toNat) (v := qz (UBOX ((b' (at0 + d)).toNat))) (qz_nat _) (BitVec.isLt _) (by omega) rfl dX10_aes_67 ?_
              refine lv_i2b (pc := 68) (v := qs (UBOX ((b' (at0 + d)).toNat))) hx hb dX10_aes_68 (q_i2b_z _) ?_
              refine q_bastS (pc := 69) hx hb hK hP hD hS 2 2 rfl rfl (k := (d + (4 * (d % 4))) % 16) rfl (by omega) (by omega) (b := UBOX ((b' (at0 + d)).toNat)) (qlo_qs _) dX10_aes_69 (fun H locs hP hD hS => ?_)
              have hP : va_P D vwCl [(a 8, aZ ta 256 BOX), (a 9, aZ ta 256 UBOX), (a 18, aS ta 16 (qU d' ((d + (4 * (d % 4))) % 16) (UBOX ((b' (at0 + d)).toNat)))), (h0, oM a R mn tp osz lsz ns ct), (a 16, aS ta 240 rk), (hb2, aS ta capb b')] H := hP
              have hD : va_D A [(a 8, aZ ta 256 BOX), (a 9, aZ ta 256 UBOX), (a 18, aS ta 16 (qU d' ((d + (4 * (d % 4))) % 16) (UBOX ((b' (at0 + d)).toNat)))), (h0, oM a R mn tp osz lsz ns ct), (a 16, aS ta 240 rk), (hb2, aS ta capb b')] := hD
              refine lv_iinc (pc := 70) (v := nI (d + 1)) (lv' := [(5, .int (nI (d + 1))), (4, .int (nI t)), (0, .ref h0), (1, .ref hb2), (2, .int (nI at0)), (3, .int (qb true))]) hx hb dX10_aes_70 hl (k := 0) rfl (by first | exact nI_add d 1 | rfl) (by decide) rfl (fun ls hl => ?_)
              refine lv_goto (pc := 73) (tgt := 30) hx hb dX10_aes_73 (by decide) ?_
              exact ih30 (d + 1) (qU d' ((d + (4 * (d % 4))) % 16) (UBOX ((b' (at0 + d)).toNat))) (by omega) (by
                    intro j hj
                    rcases Nat.lt_or_ge j d with q | q
                    · rw [qU_ne (by omega)]
                      exact hs2 j q
                    · obtain rfl : j = d := by omega
                      rw [qU_same, hs.1 _ (by omega)]) (by omega) _ _ (hP.sub [0, 1, 2, 3, 4, 5] rfl) (hD.sub [0, 1, 2, 3, 4, 5] (by decide) rfl) hS ls (lv_sub hl [0, 1, 2, 3, 4, 5] rfl)
        exact LP30 _ 0 c' (by omega) (fun j hj => absurd hj (Nat.not_lt_zero _)) (Nat.lt_succ_self _) _ _ (hP.sub [0, 1, 2, 3, 4, 5] rfl) (hD.sub [0, 1, 2, 3, 4, 5] (by decide) rfl) hS ls (lv_sub hl [0, 1, 2, 3, 4, 5] rfl)
  exact LP22 _ R gb1_11 ce (by omega) (by rw [Nat.sub_self]; exact hs_11) (Nat.lt_succ_self _) _ _ (hP.sub [0, 1, 2, 3, 4, 5] rfl) (hD.sub [0, 1, 2, 3, 4, 5] (by decide) rfl) hS ls (lv_sub hl [0, 1, 2, 3, 4] rfl)
