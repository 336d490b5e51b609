theorem hdX9_keysOf : yX9_keysOf.cls ≠ "java/lang/invoke/MethodHandle" ∧ yX9_keysOf.cls ≠ "java/lang/invoke/VarHandle" ∧ (parseMethodDescriptor yX9_keysOf.desc).map (fun d => d.parameters.length) = some 1 := ⟨by decide +kernel, by decide +kernel, by decide +kernel⟩
theorem dX9_keysOf_0 : decode cX9_keysOf 0 = .ok (.iload_n 1, 1) := by decide +kernel
theorem dX9_keysOf_1 : decode cX9_keysOf 1 = .ok (.ifCond .ne 10, 3) := by decide +kernel
theorem dX9_keysOf_4 : decode cX9_keysOf 4 = .ok (.aload_n 0, 1) := by decide +kernel
theorem dX9_keysOf_5 : decode cX9_keysOf 5 = .ok (.getfield 30, 3) := by decide +kernel
theorem dX9_keysOf_8 : decode cX9_keysOf 8 = .ok (.goto 16, 3) := by decide +kernel
theorem dX9_keysOf_11 : decode cX9_keysOf 11 = .ok (.iload_n 1, 1) := by decide +kernel
theorem dX9_keysOf_12 : decode cX9_keysOf 12 = .ok (.iconst 1, 1) := by decide +kernel
theorem dX9_keysOf_13 : decode cX9_keysOf 13 = .ok (.if_icmp .ne 10, 3) := by decide +kernel
theorem dX9_keysOf_16 : decode cX9_keysOf 16 = .ok (.aload_n 0, 1) := by decide +kernel
theorem dX9_keysOf_17 : decode cX9_keysOf 17 = .ok (.getfield 34, 3) := by decide +kernel
theorem dX9_keysOf_20 : decode cX9_keysOf 20 = .ok (.goto 4, 3) := by decide +kernel
theorem dX9_keysOf_23 : decode cX9_keysOf 23 = .ok (.aconst_null, 1) := by decide +kernel
theorem dX9_keysOf_24 : decode cX9_keysOf 24 = .ok (.areturn, 1) := by decide +kernel
set_option maxHeartbeats 4000000 in
set_option maxRecDepth 100000 in
theorem ct_X9_keysOf_0 (ll : Launch) (D : va_G) (ta : Nat → ClassId) {G : (Nat → Prop) → State → Heap → Prop} (hGok : GOK G) (lg : Nat → Nat) (ya : Nat → Nat) (yb : Nat → Nat) (wa : Nat → Nat) (wb : Nat → Nat) (o : Nat → Nat) (v : Nat → Nat) (ct : Nat)  (sz : Nat) : CT ll yX9_keysOf cX9_keysOf 2 (Option.some (.object "LineGuard$Keys")) ({ frames := 0, cells := 0, slots := 0, locals := 0 } : Room) D ta G [.ref (lg 0), .int (nI 0)] [(lg 0, oG lg ya yb wa wb o v ct)] sz (S := Unit) (fun u => some (.ref (ya 0))) (fun u => True) (fun u => [(lg 0, oG lg ya yb wa wb o v ct)]) 0 0 := by
  refine CT.of_a (r := fun u => .ref (ya 0)) (by intro u; first | exact Or.inl rfl | exact Or.inr ⟨_, rfl⟩) rfl (by decide) (Nat.le_of_ble_eq_true rfl) ?_
  intro pp ee ss mm below meth kc A Q hx hb hml hown hin hts hK hA hsz hG hret H locs hP hD hS ls hl
  have hl : lv_has ls 2 [(0, .ref (lg 0)), (1, .int (nI 0))] := hl
  refine lv_iload_n (pc := 0) hx hb dX9_keysOf_0 rfl (lv_at hl 1 rfl) ?_
  refine lv_if_ne (pc := 1) (tgt := 11) hx hb dX9_keysOf_1 (by decide) (fun c_1 => absurd (by decide) c_1) (fun _ => ?_)
  refine lv_aload_n (pc := 4) hx hb dX9_keysOf_4 rfl (lv_at hl 0 rfl) ?_
  refine va_get (pc := 5) (D := D) (ci := 7) (v := .ref (ya 0)) (C := RX9) (T := TX9) (N := 11) hx hb hts iu9 hown hK hP 0 rfl rfl 4 (by decide) (hts _ tw_356) (fun _ h9 => h9) rfl dX9_keysOf_5 ?_
  refine lv_goto (pc := 8) (tgt := 24) hx hb dX9_keysOf_8 (by decide) ?_
  have hq_2 : True := trivial
  exact hret () _ _ _ _ dX9_keysOf_24 hq_2 (hP.sub [0] rfl) (hD.sub [0] (by decide) rfl) hS
set_option maxHeartbeats 4000000 in
set_option maxRecDepth 100000 in
theorem ct_X9_keysOf_1 (ll : Launch) (D : va_G) (ta : Nat → ClassId) {G : (Nat → Prop) → State → Heap → Prop} (hGok : GOK G) (lg : Nat → Nat) (ya : Nat → Nat) (yb : Nat → Nat) (wa : Nat → Nat) (wb : Nat → Nat) (o : Nat → Nat) (v : Nat → Nat) (ct : Nat)  (sz : Nat) : CT ll yX9_keysOf cX9_keysOf 2 (Option.some (.object "LineGuard$Keys")) ({ frames := 0, cells := 0, slots := 0, locals := 0 } : Room) D ta G [.ref (lg 0), .int (nI 1)] [(lg 0, oG lg ya yb wa wb o v ct)] sz (S := Unit) (fun u => some (.ref (yb 0))) (fun u => True) (fun u => [(lg 0, oG lg ya yb wa wb o v ct)]) 0 0 := by
  refine CT.of_a (r := fun u => .ref (yb 0)) (by intro u; first | exact Or.inl rfl | exact Or.inr ⟨_, rfl⟩) rfl (by decide) (Nat.le_of_ble_eq_true rfl) ?_
  intro pp ee ss mm below meth kc A Q hx hb hml hown hin hts hK hA hsz hG hret H locs hP hD hS ls hl
  have hl : lv_has ls 2 [(0, .ref (lg 0)), (1, .int (nI 1))] := hl
  refine lv_iload_n (pc := 0) hx hb dX9_keysOf_0 rfl (lv_at hl 1 rfl) ?_
  refine lv_if_ne (pc := 1) (tgt := 11) hx hb dX9_keysOf_1 (by decide) (fun _ => ?_) (fun c_1 => absurd c_1 (by decide))
  refine lv_iload_n (pc := 11) hx hb dX9_keysOf_11 rfl (lv_at hl 1 rfl) ?_
  refine lv_iconst (pc := 12) (v := nI 1) hx hb dX9_keysOf_12 (by decide +kernel) ?_
  refine lv_icmp_ne (pc := 13) (tgt := 23) hx hb dX9_keysOf_13 (by decide) (fun c_2 => absurd (by decide) c_2) (fun _ => ?_)
  refine lv_aload_n (pc := 16) hx hb dX9_keysOf_16 rfl (lv_at hl 0 rfl) ?_
  refine va_get (pc := 17) (D := D) (ci := 7) (v := .ref (yb 0)) (C := RX9) (T := TX9) (N := 11) hx hb hts iu9 hown hK hP 0 rfl rfl 5 (by decide) (hts _ tw_357) (fun _ h9 => h9) rfl dX9_keysOf_17 ?_
  refine lv_goto (pc := 20) (tgt := 24) hx hb dX9_keysOf_20 (by decide) ?_
  have hq_3 : True := trivial
  exact hret () _ _ _ _ dX9_keysOf_24 hq_3 (hP.sub [0] rfl) (hD.sub [0] (by decide) rfl) hS
set_option maxHeartbeats 4000000 in
set_option maxRecDepth 100000 in
theorem ct_X9_keysOf_no (ll : Launch) (D : va_G) (ta : Nat → ClassId) {G : (Nat → Prop) → State → Heap → Prop} (hGok : GOK G) (lg : Nat → Nat) (ya : Nat → Nat) (yb : Nat → Nat) (wa : Nat → Nat) (wb : Nat → Nat) (o : Nat → Nat) (v : Nat → Nat) (ct : Nat) (i : Int32) (hi0 : ¬ i = nI 0) (hi1 : ¬ i = nI 1) (sz : Nat) : CT ll yX9_keysOf cX9_keysOf 2 (Option.some (.object "LineGuard$Keys")) ({ frames := 0, cells := 0, slots := 0, locals := 0 } : Room) D ta G [.ref (lg 0), .int i] [(lg 0, oG lg ya yb wa wb o v ct)] sz (S := Unit) (fun u => some (.null)) (fun u => True) (fun u => [(lg 0, oG lg ya yb wa wb o v ct)]) 0 0 := by
  refine CT.of_a (r := fun u => .null) (by intro u; first | exact Or.inl rfl | exact Or.inr ⟨_, rfl⟩) rfl (by decide) (Nat.le_of_ble_eq_true rfl) ?_
  intro pp ee ss mm below meth kc A Q hx hb hml hown hin hts hK hA hsz hG hret H locs hP hD hS ls hl
  have hl : lv_has ls 2 [(0, .ref (lg 0)), (1, .int i)] := hl
  refine lv_iload_n (pc := 0) hx hb dX9_keysOf_0 rfl (lv_at hl 1 rfl) ?_
  refine lv_if_ne (pc := 1) (tgt := 11) hx hb dX9_keysOf_1 (by decide) (fun c_1 => ?_) (fun c_1 => ?_)
  · skip
    refine lv_iload_n (pc := 11) hx hb dX9_keysOf_11 rfl (lv_at hl 1 rfl) ?_
    refine lv_iconst (pc := 12) (v := nI 1) hx hb dX9_keysOf_12 (by decide +kernel) ?_
    refine lv_icmp_ne (pc := 13) (tgt := 23) hx hb dX9_keysOf_13 (by decide) (fun c_2 => ?_) (fun c_2 => ?_)
    · skip
      refine lv_null (pc := 23) hx hb dX9_keysOf_23 ?_
      have hq_3 : True := trivial
      exact hret () _ _ _ _ dX9_keysOf_24 hq_3 (hP.sub [0] rfl) (hD.sub [0] (by decide) rfl) hS
    · skip
      first | exact absurd c_2 hi1 | exact absurd hi1 c_2
  · skip
    first | exact absurd c_1 hi0 | exact absurd hi0 c_1
theorem hdX9_sessionOf : yX9_sessionOf.cls ≠ "java/lang/invoke/MethodHandle" ∧ yX9_sessionOf.cls ≠ "java/lang/invoke/VarHandle" ∧ (parseMethodDescriptor yX9_sessionOf.desc).map (fun d => d.parameters.length) = some 1 := ⟨by decide +kernel, by decide +kernel, by decide +kernel⟩
theorem dX9_sessionOf_0 : decode cX9_sessionOf 0 = .ok (.iload_n 1, 1) := by decide +kernel
theorem dX9_sessionOf_1 : decode cX9_sessionOf 1 = .ok (.ifCond .ne 10, 3) := by decide +kernel
theorem dX9_sessionOf_4 : decode cX9_sessionOf 4 = .ok (.aload_n 0, 1) := by decide +kernel
theorem dX9_sessionOf_5 : decode cX9_sessionOf 5 = .ok (.getfield 40, 3) := by decide +kernel
theorem dX9_sessionOf_8 : decode cX9_sessionOf 8 = .ok (.goto 16, 3) := by decide +kernel
theorem dX9_sessionOf_11 : decode cX9_sessionOf 11 = .ok (.iload_n 1, 1) := by decide +kernel
theorem dX9_sessionOf_12 : decode cX9_sessionOf 12 = .ok (.iconst 1, 1) := by decide +kernel
theorem dX9_sessionOf_13 : decode cX9_sessionOf 13 = .ok (.if_icmp .ne 10, 3) := by decide +kernel
theorem dX9_sessionOf_16 : decode cX9_sessionOf 16 = .ok (.aload_n 0, 1) := by decide +kernel
theorem dX9_sessionOf_17 : decode cX9_sessionOf 17 = .ok (.getfield 44, 3) := by decide +kernel
theorem dX9_sessionOf_20 : decode cX9_sessionOf 20 = .ok (.goto 4, 3) := by decide +kernel
theorem dX9_sessionOf_23 : decode cX9_sessionOf 23 = .ok (.aconst_null, 1) := by decide +kernel
theorem dX9_sessionOf_24 : decode cX9_sessionOf 24 = .ok (.areturn, 1) := by decide +kernel
set_option maxHeartbeats 4000000 in
set_option maxRecDepth 100000 in
theorem ct_X9_sessionOf_0 (ll : Launch) (D : va_G) (ta : Nat → ClassId) {G : (Nat → Prop) → State → Heap → Prop} (hGok : GOK G) (lg : Nat → Nat) (ya : Nat → Nat) (yb : Nat → Nat) (wa : Nat → Nat) (wb : Nat → Nat) (o : Nat → Nat) (v : Nat → Nat) (ct : Nat)  (sz : Nat) : CT ll yX9_sessionOf cX9_sessionOf 2 (Option.some (.object "LineGuard$Session")) ({ frames := 0, cells := 0, slots := 0, locals := 0 } : Room) D ta G [.ref (lg 0), .int (nI 0)] [(lg 0, oG lg ya yb wa wb o v ct)] sz (S := Unit) (fun u => some (.ref (wa 0))) (fun u => True) (fun u => [(lg 0, oG lg ya yb wa wb o v ct)]) 0 0 := by
  refine CT.of_a (r := fun u => .ref (wa 0)) (by intro u; first | exact Or.inl rfl | exact Or.inr ⟨_, rfl⟩) rfl (by decide) (Nat.le_of_ble_eq_true rfl) ?_
  intro pp ee ss mm below meth kc A Q hx hb hml hown hin hts hK hA hsz hG hret H locs hP hD hS ls hl
  have hl : lv_has ls 2 [(0, .ref (lg 0)), (1, .int (nI 0))] := hl
  refine lv_iload_n (pc := 0) hx hb dX9_sessionOf_0 rfl (lv_at hl 1 rfl) ?_
  refine lv_if_ne (pc := 1) (tgt := 11) hx hb dX9_sessionOf_1 (by decide) (fun c_1 => absurd (by decide) c_1) (fun _ => ?_)
  refine lv_aload_n (pc := 4) hx hb dX9_sessionOf_4 rfl (lv_at hl 0 rfl) ?_
  refine va_get (pc := 5) (D := D) (ci := 7) (v := .ref (wa 0)) (C := RX9) (T := TX9) (N := 11) hx hb hts iu9 hown hK hP 0 rfl rfl 6 (by decide) (hts _ tw_358) (fun _ h9 => h9) rfl dX9_sessionOf_5 ?_
  refine lv_goto (pc := 8) (tgt := 24) hx hb dX9_sessionOf_8 (by decide) ?_
  have hq_2 : True := trivial
  exact hret () _ _ _ _ dX9_sessionOf_24 hq_2 (hP.sub [0] rfl) (hD.sub [0] (by decide) rfl) hS
set_option maxHeartbeats 4000000 in
set_option maxRecDepth 100000 in
theorem ct_X9_sessionOf_1 (ll : Launch) (D : va_G) (ta : Nat → ClassId) {G : (Nat → Prop) → State → Heap → Prop} (hGok : GOK G) (lg : Nat → Nat) (ya : Nat → Nat) (yb : Nat → Nat) (wa : Nat → Nat) (wb : Nat → Nat) (o : Nat → Nat) (v : Nat → Nat) (ct : Nat)  (sz : Nat) : CT ll yX9_sessionOf cX9_sessionOf 2 (Option.some (.object "LineGuard$Session")) ({ frames := 0, cells := 0, slots := 0, locals := 0 } : Room) D ta G [.ref (lg 0), .int (nI 1)] [(lg 0, oG lg ya yb wa wb o v ct)] sz (S := Unit) (fun u => some (.ref (wb 0))) (fun u => True) (fun u => [(lg 0, oG lg ya yb wa wb o v ct)]) 0 0 := by
  refine CT.of_a (r := fun u => .ref (wb 0)) (by intro u; first | exact Or.inl rfl | exact Or.inr ⟨_, rfl⟩) rfl (by decide) (Nat.le_of_ble_eq_true rfl) ?_
  intro pp ee ss mm below meth kc A Q hx hb hml hown hin hts hK hA hsz hG hret H locs hP hD hS ls hl
  have hl : lv_has ls 2 [(0, .ref (lg 0)), (1, .int (nI 1))] := hl
  refine lv_iload_n (pc := 0) hx hb dX9_sessionOf_0 rfl (lv_at hl 1 rfl) ?_
  refine lv_if_ne (pc := 1) (tgt := 11) hx hb dX9_sessionOf_1 (by decide) (fun _ => ?_) (fun c_1 => absurd c_1 (by decide))
  refine lv_iload_n (pc := 11) hx hb dX9_sessionOf_11 rfl (lv_at hl 1 rfl) ?_
  refine lv_iconst (pc := 12) (v := nI 1) hx hb dX9_sessionOf_12 (by decide +kernel) ?_
  refine lv_icmp_ne (pc := 13) (tgt := 23) hx hb dX9_sessionOf_13 (by decide) (fun c_2 => absurd (by decide) c_2) (fun _ => ?_)
  refine lv_aload_n (pc := 16) hx hb dX9_sessionOf_16 rfl (lv_at hl 0 rfl) ?_
  refine va_get (pc := 17) (D := D) (ci := 7) (v := .ref (wb 0)) (C := RX9) (T := TX9) (N := 11) hx hb hts iu9 hown hK hP 0 rfl rfl 7 (by decide) (hts _ tw_359) (fun _ h9 => h9) rfl dX9_sessionOf_17 ?_
  refine lv_goto (pc := 20) (tgt := 24) hx hb dX9_sessionOf_20 (by decide) ?_
  have hq_3 : True := trivial
  exact hret () _ _ _ _ dX9_sessionOf_24 hq_3 (hP.sub [0] rfl) (hD.sub [0] (by decide) rfl) hS
set_option maxHeartbeats 4000000 in
set_option maxRecDepth 100000 in
theorem ct_X9_sessionOf_no (ll : Launch) (D : va_G) (ta : Nat → ClassId) {G : (Nat → Prop) → State → Heap → Prop} (hGok : GOK G) (lg : Nat → Nat) (ya : Nat → Nat) (yb : Nat → Nat) (wa : Nat → Nat) (wb : Nat → Nat) (o : Nat → Nat) (v : Nat → Nat) (ct : Nat) (i : Int32) (hi0 : ¬ i = nI 0) (hi1 : ¬ i = nI 1) (sz : Nat) : CT ll yX9_sessionOf cX9_sessionOf 2 (Option.some (.object "LineGuard$Session")) ({ frames := 0, cells := 0, slots := 0, locals := 0 } : Room) D ta G [.ref (lg 0), .int i] [(lg 0, oG lg ya yb wa wb o v ct)] sz (S := Unit) (fun u => some (.null)) (fun u => True) (fun u => [(lg 0, oG lg ya yb wa wb o v ct)]) 0 0 := by
  refine CT.of_a (r := fun u => .null) (by intro u; first | exact Or.inl rfl | exact Or.inr ⟨_, rfl⟩) rfl (by decide) (Nat.le_of_ble_eq_true rfl) ?_
  intro pp ee ss mm below meth kc A Q hx hb hml hown hin hts hK hA hsz hG hret H locs hP hD hS ls hl
  have hl : lv_has ls 2 [(0, .ref (lg 0)), (1, .int i)] := hl
  refine lv_iload_n (pc := 0) hx hb dX9_sessionOf_0 rfl (lv_at hl 1 rfl) ?_
  refine lv_if_ne (pc := 1) (tgt := 11) hx hb dX9_sessionOf_1 (by decide) (fun c_1 => ?_) (fun c_1 => ?_)
  · skip
    refine lv_iload_n (pc := 11) hx hb dX9_sessionOf_11 rfl (lv_at hl 1 rfl) ?_
    refine lv_iconst (pc := 12) (v := nI 1) hx hb dX9_sessionOf_12 (by decide +kernel) ?_
    refine lv_icmp_ne (pc := 13) (tgt := 23) hx hb dX9_sessionOf_13 (by decide) (fun c_2 => ?_) (fun c_2 => ?_)
    · skip
      refine lv_null (pc := 23) hx hb dX9_sessionOf_23 ?_
      have hq_3 : True := trivial
      exact hret () _ _ _ _ dX9_sessionOf_24 hq_3 (hP.sub [0] rfl) (hD.sub [0] (by decide) rfl) hS
    · skip
      first | exact absurd c_2 hi1 | exact absurd hi1 c_2
  · skip
    first | exact absurd c_1 hi0 | exact absurd hi0 c_1
theorem hdX9_ruleOf : yX9_ruleOf.cls ≠ "java/lang/invoke/MethodHandle" ∧ yX9_ruleOf.cls ≠ "java/lang/invoke/VarHandle" ∧ (parseMethodDescriptor yX9_ruleOf.desc).map (fun d => d.parameters.length) = some 1 := ⟨by decide +kernel, by decide +kernel, by decide +kernel⟩
theorem dX9_ruleOf_0 : decode cX9_ruleOf 0 = .ok (.aload_n 1, 1) := by decide +kernel
theorem dX9_ruleOf_1 : decode cX9_ruleOf 1 = .ok (.getfield 103, 3) := by decide +kernel
theorem dX9_ruleOf_4 : decode cX9_ruleOf 4 = .ok (.iconst 3, 1) := by decide +kernel
theorem dX9_ruleOf_5 : decode cX9_ruleOf 5 = .ok (.if_icmp .ne 10, 3) := by decide +kernel
theorem dX9_ruleOf_8 : decode cX9_ruleOf 8 = .ok (.aload_n 0, 1) := by decide +kernel
theorem dX9_ruleOf_9 : decode cX9_ruleOf 9 = .ok (.getfield 57, 3) := by decide +kernel
theorem dX9_ruleOf_12 : decode cX9_ruleOf 12 = .ok (.goto 7, 3) := by decide +kernel
theorem dX9_ruleOf_15 : decode cX9_ruleOf 15 = .ok (.aload_n 0, 1) := by decide +kernel
theorem dX9_ruleOf_16 : decode cX9_ruleOf 16 = .ok (.getfield 50, 3) := by decide +kernel
theorem dX9_ruleOf_19 : decode cX9_ruleOf 19 = .ok (.areturn, 1) := by decide +kernel
set_option maxHeartbeats 4000000 in
set_option maxRecDepth 100000 in
theorem ct_X9_ruleOf_3 (ll : Launch) (D : va_G) (ta : Nat → ClassId) (gs : Nat → Nat) (lg : Nat → Nat) (ya : Nat → Nat) (yb : Nat → Nat) (wa : Nat → Nat) (wb : Nat → Nat) (o : Nat → Nat) (v : Nat → Nat) (ct : Nat) (ky : Nat → Nat) (ln : Nat)  (sz : Nat) : CT ll yX9_ruleOf cX9_ruleOf 2 (Option.some (.object "LineGuard$Rule")) ({ frames := 0, cells := 0, slots := 0, locals := 0 } : Room) D ta ((GC gs)) [.ref (lg 0), .ref (ky 0)] [(lg 0, oG lg ya yb wa wb o v ct), (ky 0, oK ky 3 ln)] sz (S := Unit) (fun u => some (.ref (v 0))) (fun u => True) (fun u => [(lg 0, oG lg ya yb wa wb o v ct), (ky 0, oK ky 3 ln)]) 0 0 := by
  refine CT.of_a (r := fun u => .ref (v 0)) (by intro u; first | exact Or.inl rfl | exact Or.inr ⟨_, rfl⟩) rfl (by decide) (Nat.le_of_ble_eq_true rfl) ?_
  have hGok := GC_ok gs
  intro pp ee ss mm below meth kc A Q hx hb hml hown hin hts hK hA hsz hG hret H locs hP hD hS ls hl
  have hl : lv_has ls 2 [(0, .ref (lg 0)), (1, .ref (ky 0))] := hl
  refine lv_aload_n (pc := 0) hx hb dX9_ruleOf_0 rfl (lv_at hl 1 rfl) ?_
  refine va_getN (pc := 1) (D := D) (ci := 2) (v := .int (nI 3)) (C := RX3) (T := TX3) (N := 5) hx hb hts iu3 hown hK hP 1 rfl rfl 0 (by decide) (va_Nw.use rfl (GC_w107 hG)) (fun _ h9 => h9) rfl dX9_ruleOf_1 ?_
  refine lv_iconst (pc := 4) (v := nI 3) hx hb dX9_ruleOf_4 (by decide +kernel) ?_
  refine lv_icmp_ne (pc := 5) (tgt := 15) hx hb dX9_ruleOf_5 (by decide) (fun c_1 => absurd (by decide) c_1) (fun _ => ?_)
  refine lv_aload_n (pc := 8) hx hb dX9_ruleOf_8 rfl (lv_at hl 0 rfl) ?_
  refine va_get (pc := 9) (D := D) (ci := 7) (v := .ref (v 0)) (C := RX9) (T := TX9) (N := 11) hx hb hts iu9 hown hK hP 0 rfl rfl 9 (by decide) (hts _ tw_361) (fun _ h9 => h9) rfl dX9_ruleOf_9 ?_
  refine lv_goto (pc := 12) (tgt := 19) hx hb dX9_ruleOf_12 (by decide) ?_
  have hq_2 : True := trivial
  exact hret () _ _ _ _ dX9_ruleOf_19 hq_2 (hP.sub [0, 1] rfl) (hD.sub [0, 1] (by decide) rfl) hS
set_option maxHeartbeats 4000000 in
set_option maxRecDepth 100000 in
theorem ct_X9_ruleOf_2 (ll : Launch) (D : va_G) (ta : Nat → ClassId) (gs : Nat → Nat) (lg : Nat → Nat) (ya : Nat → Nat) (yb : Nat → Nat) (wa : Nat → Nat) (wb : Nat → Nat) (o : Nat → Nat) (v : Nat → Nat) (ct : Nat) (ky : Nat → Nat) (ru : Nat) (ln : Nat) (hru : ¬ ru = 3 ∧ ru < 4) (sz : Nat) : CT ll yX9_ruleOf cX9_ruleOf 2 (Option.some (.object "LineGuard$Rule")) ({ frames := 0, cells := 0, slots := 0, locals := 0 } : Room) D ta ((GC gs)) [.ref (lg 0), .ref (ky 0)] [(lg 0, oG lg ya yb wa wb o v ct), (ky 0, oK ky ru ln)] sz (S := Unit) (fun u => some (.ref (o 0))) (fun u => True) (fun u => [(lg 0, oG lg ya yb wa wb o v ct), (ky 0, oK ky ru ln)]) 0 0 := by
  refine CT.of_a (r := fun u => .ref (o 0)) (by intro u; first | exact Or.inl rfl | exact Or.inr ⟨_, rfl⟩) rfl (by decide) (Nat.le_of_ble_eq_true rfl) ?_
  have hGok := GC_ok gs
  intro pp ee ss mm below meth kc A Q hx hb hml hown hin hts hK hA hsz hG hret H locs hP hD hS ls hl
  have hl : lv_has ls 2 [(0, .ref (lg 0)), (1, .ref (ky 0))] := hl
  refine lv_aload_n (pc := 0) hx hb dX9_ruleOf_0 rfl (lv_at hl 1 rfl) ?_
  refine va_getN (pc := 1) (D := D) (ci := 2) (v := .int (nI ru)) (C := RX3) (T := TX3) (N := 5) hx hb hts iu3 hown hK hP 1 rfl rfl 0 (by decide) (va_Nw.use rfl (GC_w107 hG)) (fun _ h9 => h9) rfl dX9_ruleOf_1 ?_
  refine lv_iconst (pc := 4) (v := nI 3) hx hb dX9_ruleOf_4 (by decide +kernel) ?_
  refine lv_icmp_ne (pc := 5) (tgt := 15) hx hb dX9_ruleOf_5 (by decide) (fun c_1 => ?_) (fun c_1 => ?_)
  · skip
    rw [nI_eq (by omega) (by omega)] at c_1
    refine lv_aload_n (pc := 15) hx hb dX9_ruleOf_15 rfl (lv_at hl 0 rfl) ?_
    refine va_get (pc := 16) (D := D) (ci := 7) (v := .ref (o 0)) (C := RX9) (T := TX9) (N := 11) hx hb hts iu9 hown hK hP 0 rfl rfl 8 (by decide) (hts _ tw_360) (fun _ h9 => h9) rfl dX9_ruleOf_16 ?_
    have hq_2 : True := trivial
    exact hret () _ _ _ _ dX9_ruleOf_19 hq_2 (hP.sub [0, 1] rfl) (hD.sub [0, 1] (by decide) rfl) hS
  · skip
    rw [nI_eq (by omega) (by omega)] at c_1
    exfalso; omega
theorem hdX9_isSw : yX9_isSw.cls ≠ "java/lang/invoke/MethodHandle" ∧ yX9_isSw.cls ≠ "java/lang/invoke/VarHandle" ∧ (parseMethodDescriptor yX9_isSw.desc).map (fun d => d.parameters.length) = some 1 := ⟨by decide +kernel, by decide +kernel, by decide +kernel⟩
theorem dX9_isSw_0 : decode cX9_isSw 0 = .ok (.iload_n 0, 1) := by decide +kernel
theorem dX9_isSw_1 : decode cX9_isSw 1 = .ok (.ifCond .lt 13, 3) := by decide +kernel
theorem dX9_isSw_4 : decode cX9_isSw 4 = .ok (.iload_n 0, 1) := by decide +kernel
theorem dX9_isSw_5 : decode cX9_isSw 5 = .ok (.ldc 219, 2) := by decide +kernel
theorem dX9_isSw_7 : decode cX9_isSw 7 = .ok (.if_icmp .gt 7, 3) := by decide +kernel
theorem dX9_isSw_10 : decode cX9_isSw 10 = .ok (.iconst 1, 1) := by decide +kernel
theorem dX9_isSw_11 : decode cX9_isSw 11 = .ok (.goto 4, 3) := by decide +kernel
theorem dX9_isSw_14 : decode cX9_isSw 14 = .ok (.iconst 0, 1) := by decide +kernel
theorem dX9_isSw_15 : decode cX9_isSw 15 = .ok (.ireturn, 1) := by decide +kernel
set_option maxHeartbeats 4000000 in
set_option maxRecDepth 100000 in
theorem ct_X9_isSw (ll : Launch) (D : va_G) (ta : Nat → ClassId) {G : (Nat → Prop) → State → Heap → Prop} (hGok : GOK G) (i : Int32)  (sz : Nat) : CT ll yX9_isSw cX9_isSw 1 (some .boolean) ({ frames := 0, cells := 0, slots := 0, locals := 0 } : Room) D ta G [.int i] [] sz (S := Bool) (fun u => some (.int (qb u))) (fun u => (u = swB i)) (fun u => []) 0 0 := by
  refine CT.of_z (r := fun u => u) rfl (by decide) (Nat.le_of_ble_eq_true rfl) ?_
  intro pp ee ss mm below meth kc A Q hx hb hml hown hin hts hK hA hsz hG hret H locs hP hD hS ls hl
  have hl : lv_has ls 1 [(0, .int i)] := hl
  refine lv_iload_n (pc := 0) hx hb dX9_isSw_0 rfl (lv_at hl 0 rfl) ?_
  refine lv_if_lt (pc := 1) (tgt := 14) hx hb dX9_isSw_1 (by decide) (fun c_1 => ?_) (fun c_1 => ?_)
  · skip
    have hc0 := c_1
    refine lv_iconst (pc := 14) (v := nI 0) hx hb dX9_isSw_14 (by decide +kernel) ?_
    refine q_top (y := qb false) (by first | rfl | decide +kernel | (simp; done)) ?_
    have hq_2 : (false = swB i) := by
      first | exact (sw_lt hc0).symm | exact (sw_gt hc1).symm | exact (sw_ok hc0 hc1).symm
    exact hret (false) _ _ _ _ dX9_isSw_15 hq_2 (hP.sub [] rfl) (hD.sub [] (by decide) rfl) hS
  · skip
    have hc0 := c_1
    refine lv_iload_n (pc := 4) hx hb dX9_isSw_4 rfl (lv_at hl 0 rfl) ?_
    refine lv_ldc (pc := 5) (v := (nI 65535)) hx hb hown (q_at (hts _ tw_875) (by decide +kernel)) dX9_isSw_5 ?_
    refine lv_icmp_gt (pc := 7) (tgt := 14) hx hb dX9_isSw_7 (by decide) (fun c_3 => ?_) (fun c_3 => ?_)
    · skip
      have hc1 := c_3
      refine lv_iconst (pc := 14) (v := nI 0) hx hb dX9_isSw_14 (by decide +kernel) ?_
      refine q_top (y := qb false) (by first | rfl | decide +kernel | (simp; done)) ?_
      have hq_4 : (false = swB i) := by
        first | exact (sw_lt hc0).symm | exact (sw_gt hc1).symm | exact (sw_ok hc0 hc1).symm
      exact hret (false) _ _ _ _ dX9_isSw_15 hq_4 (hP.sub [] rfl) (hD.sub [] (by decide) rfl) hS
    · skip
      have hc1 := c_3
      refine lv_iconst (pc := 10) (v := nI 1) hx hb dX9_isSw_10 (by decide +kernel) ?_
      refine lv_goto (pc := 11) (tgt := 15) hx hb dX9_isSw_11 (by decide) ?_
      refine q_top (y := qb true) (by first | rfl | decide +kernel | (simp; done)) ?_
      have hq_5 : (true = swB i) := by
        first | exact (sw_lt hc0).symm | exact (sw_gt hc1).symm | exact (sw_ok hc0 hc1).symm
      exact hret (true) _ _ _ _ dX9_isSw_15 hq_5 (hP.sub [] rfl) (hD.sub [] (by decide) rfl) hS
theorem hdX9_forgetSessions : yX9_forgetSessions.cls ≠ "java/lang/invoke/MethodHandle" ∧ yX9_forgetSessions.cls ≠ "java/lang/invoke/VarHandle" ∧ (parseMethodDescriptor yX9_forgetSessions.desc).map (fun d => d.parameters.length) = some 0 := ⟨by decide +kernel, by decide +kernel, by decide +kernel⟩
theorem dX9_forgetSessions_0 : decode cX9_forgetSessions 0 = .ok (.aload_n 0, 1) := by decide +kernel
theorem dX9_forgetSessions_1 : decode cX9_forgetSessions 1 = .ok (.getfield 40, 3) := by decide +kernel
theorem dX9_forgetSessions_4 : decode cX9_forgetSessions 4 = .ok (.invokevirtual 136, 3) := by decide +kernel
theorem dX9_forgetSessions_7 : decode cX9_forgetSessions 7 = .ok (.aload_n 0, 1) := by decide +kernel
theorem dX9_forgetSessions_8 : decode cX9_forgetSessions 8 = .ok (.getfield 44, 3) := by decide +kernel
theorem dX9_forgetSessions_11 : decode cX9_forgetSessions 11 = .ok (.invokevirtual 136, 3) := by decide +kernel
theorem dX9_forgetSessions_14 : decode cX9_forgetSessions 14 = .ok (.aload_n 0, 1) := by decide +kernel
theorem dX9_forgetSessions_15 : decode cX9_forgetSessions 15 = .ok (.getfield 21, 3) := by decide +kernel
theorem dX9_forgetSessions_18 : decode cX9_forgetSessions 18 = .ok (.invokevirtual 88, 3) := by decide +kernel
theorem dX9_forgetSessions_21 : decode cX9_forgetSessions 21 = .ok (.return_, 1) := by decide +kernel
set_option maxHeartbeats 4000000 in
set_option maxRecDepth 100000 in
theorem ct_X9_forgetSessions (ll : Launch) (D : va_G) (ta : Nat → ClassId) (gs : Nat → Nat) (lg : Nat → Nat) (ya : Nat → Nat) (yb : Nat → Nat) (wa : Nat → Nat) (wb : Nat → Nat) (o : Nat → Nat) (v : Nat → Nat) (ct : Nat) (sta : Nat) (lva : Nat) (cna : Nat) (cma : Bool) (stb : Nat) (lvb : Nat) (cnb : Nat) (cmb : Bool) (gl : Nat → BitVec 8) (nl : Nat)  (sz : Nat) : CT ll yX9_forgetSessions cX9_forgetSessions 1 none ({ frames := 1, cells := 0, slots := 0, locals := 20 } : Room) D ta ((GC gs)) [.ref (lg 0)] [(lg 0, oG lg ya yb wa wb o v ct), (wa 0, oW wa sta lva cna cma), (wb 0, oW wb stb lvb cnb cmb), (lg 5, oR (lg 6) nl), (lg 6, aZ ta 300 gl)] sz (S := Unit) (fun _ => none) (fun u => True) (fun u => [(lg 0, oG lg ya yb wa wb o v ct), (wa 0, oW wa 0 0 cna cma), (wb 0, oW wb 0 0 cnb cmb), (lg 5, oR (lg 6) 0), (lg 6, aZ ta 300 gl)]) 0 0 := by
  refine CT.of_v rfl (by decide) (Nat.le_of_ble_eq_true rfl) ?_
  have hGok := GC_ok gs
  intro pp ee ss mm below meth kc A Q hx hb hml hown hin hts hK hA hsz hG hret H locs hP hD hS ls hl
  have hl : lv_has ls 1 [(0, .ref (lg 0))] := hl
  refine lv_aload_n (pc := 0) hx hb dX9_forgetSessions_0 rfl (lv_at hl 0 rfl) ?_
  refine va_get (pc := 1) (D := D) (ci := 7) (v := .ref (wa 0)) (C := RX9) (T := TX9) (N := 11) hx hb hts iu9 hown hK hP 0 rfl rfl 6 (by decide) (hts _ tw_358) (fun _ h9 => h9) rfl dX9_forgetSessions_1 ?_
  refine cs_V (pc := 4) (idx := 136) (n := 0) (wr := [(lg 0, oG lg ya yb wa wb o v ct), (wb 0, oW wb stb lvb cnb cmb), (lg 5, oR (lg 6) nl), (lg 6, aZ ta 300 gl)]) (As := []) (rest := []) (ci := 6) hx hb hml hown hts hGok hK hA hG hl.1 hP hD hS (ct_X8_finish ll D ta gs wa sta lva cna cma  H.size) tw_472 tw_469 tw_470 tw_471 tw_68 hdX8_finish rfl ⟨rfl, rfl, Nat.le_of_ble_eq_true rfl, Nat.le_of_ble_eq_true rfl, Nat.le_of_ble_eq_true rfl, Nat.le_of_ble_eq_true rfl⟩ rfl rfl (q0 := 1) rfl [1] [0, 2, 3, 4] rfl rfl (by decide) rfl (Nat.le_of_ble_eq_true rfl) dX9_forgetSessions_4 (fun u H locs hq hP hD hS => ?_)
  refine W.eq (g2 := F0 mm 7 ls []) rfl ?_
  have hP : va_P D vwCl [(lg 0, oG lg ya yb wa wb o v ct), (wb 0, oW wb stb lvb cnb cmb), (lg 5, oR (lg 6) nl), (lg 6, aZ ta 300 gl), (wa 0, oW wa 0 0 cna cma)] H := hP
  have hD : va_D A [(lg 0, oG lg ya yb wa wb o v ct), (wb 0, oW wb stb lvb cnb cmb), (lg 5, oR (lg 6) nl), (lg 6, aZ ta 300 gl), (wa 0, oW wa 0 0 cna cma)] := hD
  refine lv_aload_n (pc := 7) hx hb dX9_forgetSessions_7 rfl (lv_at hl 0 rfl) ?_
  refine va_get (pc := 8) (D := D) (ci := 7) (v := .ref (wb 0)) (C := RX9) (T := TX9) (N := 11) hx hb hts iu9 hown hK hP 0 rfl rfl 7 (by decide) (hts _ tw_359) (fun _ h9 => h9) rfl dX9_forgetSessions_8 ?_
  refine cs_V (pc := 11) (idx := 136) (n := 0) (wr := [(lg 0, oG lg ya yb wa wb o v ct), (lg 5, oR (lg 6) nl), (lg 6, aZ ta 300 gl), (wa 0, oW wa 0 0 cna cma)]) (As := []) (rest := []) (ci := 6) hx hb hml hown hts hGok hK hA hG hl.1 hP hD hS (ct_X8_finish ll D ta gs wb stb lvb cnb cmb  H.size) tw_472 tw_469 tw_470 tw_471 tw_68 hdX8_finish rfl ⟨rfl, rfl, Nat.le_of_ble_eq_true rfl, Nat.le_of_ble_eq_true rfl, Nat.le_of_ble_eq_true rfl, Nat.le_of_ble_eq_true rfl⟩ rfl rfl (q0 := 1) rfl [1] [0, 2, 3, 4] rfl rfl (by decide) rfl (Nat.le_of_ble_eq_true rfl) dX9_forgetSessions_11 (fun u H locs hq hP hD hS => ?_)
  refine W.eq (g2 := F0 mm 14 ls []) rfl ?_
  have hP : va_P D vwCl [(lg 0, oG lg ya yb wa wb o v ct), (lg 5, oR (lg 6) nl), (lg 6, aZ ta 300 gl), (wa 0, oW wa 0 0 cna cma), (wb 0, oW wb 0 0 cnb cmb)] H := hP
  have hD : va_D A [(lg 0, oG lg ya yb wa wb o v ct), (lg 5, oR (lg 6) nl), (lg 6, aZ ta 300 gl), (wa 0, oW wa 0 0 cna cma), (wb 0, oW wb 0 0 cnb cmb)] := hD
  refine lv_aload_n (pc := 14) hx hb dX9_forgetSessions_14 rfl (lv_at hl 0 rfl) ?_
  refine va_get (pc := 15) (D := D) (ci := 7) (v := .ref (lg 5)) (C := RX9) (T := TX9) (N := 11) hx hb hts iu9 hown hK hP 0 rfl rfl 2 (by decide) (hts _ tw_354) (fun _ h9 => h9) rfl dX9_forgetSessions_15 ?_
  refine cs_V (pc := 18) (idx := 88) (n := 0) (wr := [(lg 0, oG lg ya yb wa wb o v ct), (wa 0, oW wa 0 0 cna cma), (wb 0, oW wb 0 0 cnb cmb)]) (As := []) (rest := []) (ci := 5) hx hb hml hown hts hGok hK hA hG hl.1 hP hD hS (ct_X6_clear ll D ta hGok (lg 5) (lg 6) 300 gl nl  H.size) tw_441 tw_447 tw_439 tw_440 tw_66 hdX6_clear rfl ⟨rfl, rfl, Nat.le_of_ble_eq_true rfl, Nat.le_of_ble_eq_true rfl, Nat.le_of_ble_eq_true rfl, Nat.le_of_ble_eq_true rfl⟩ rfl rfl (q0 := 1) rfl [1, 2] [0, 3, 4] rfl rfl (by decide) rfl (Nat.le_of_ble_eq_true rfl) dX9_forgetSessions_18 (fun u H locs hq hP hD hS => ?_)
  refine W.eq (g2 := F0 mm 21 ls []) rfl ?_
  have hP : va_P D vwCl [(lg 0, oG lg ya yb wa wb o v ct), (wa 0, oW wa 0 0 cna cma), (wb 0, oW wb 0 0 cnb cmb), (lg 5, oR (lg 6) 0), (lg 6, aZ ta 300 gl)] H := hP
  have hD : va_D A [(lg 0, oG lg ya yb wa wb o v ct), (wa 0, oW wa 0 0 cna cma), (wb 0, oW wb 0 0 cnb cmb), (lg 5, oR (lg 6) 0), (lg 6, aZ ta 300 gl)] := hD
  have hq_1 : True := trivial
  exact hret () _ _ _ _ dX9_forgetSessions_21 hq_1 (hP.sub [0, 1, 2, 3, 4] rfl) (hD.sub [0, 1, 2, 3, 4] (by decide) rfl) hS
theorem hdX9_feed : yX9_feed.cls ≠ "java/lang/invoke/MethodHandle" ∧ yX9_feed.cls ≠ "java/lang/invoke/VarHandle" ∧ (parseMethodDescriptor yX9_feed.desc).map (fun d => d.parameters.length) = some 5 := ⟨by decide +kernel, by decide +kernel, by decide +kernel⟩
theorem dX9_feed_0 : decode cX9_feed 0 = .ok (.aload_n 0, 1) := by decide +kernel
theorem dX9_feed_1 : decode cX9_feed 1 = .ok (.getfield 14, 3) := by decide +kernel
theorem dX9_feed_4 : decode cX9_feed 4 = .ok (.invokevirtual 64, 3) := by decide +kernel
theorem dX9_feed_7 : decode cX9_feed 7 = .ok (.bipush 20, 2) := by decide +kernel
theorem dX9_feed_9 : decode cX9_feed 9 = .ok (.iadd, 1) := by decide +kernel
theorem dX9_feed_10 : decode cX9_feed 10 = .ok (.sipush 400, 3) := by decide +kernel
theorem dX9_feed_13 : decode cX9_feed 13 = .ok (.if_icmp .le 5, 3) := by decide +kernel
theorem dX9_feed_16 : decode cX9_feed 16 = .ok (.iconst (-1), 1) := by decide +kernel
theorem dX9_feed_17 : decode cX9_feed 17 = .ok (.ireturn, 1) := by decide +kernel
theorem dX9_feed_18 : decode cX9_feed 18 = .ok (.aload_n 0, 1) := by decide +kernel
theorem dX9_feed_19 : decode cX9_feed 19 = .ok (.getfield 14, 3) := by decide +kernel
theorem dX9_feed_22 : decode cX9_feed 22 = .ok (.iload_n 1, 1) := by decide +kernel
theorem dX9_feed_23 : decode cX9_feed 23 = .ok (.i2l, 1) := by decide +kernel
theorem dX9_feed_24 : decode cX9_feed 24 = .ok (.iconst 4, 1) := by decide +kernel
theorem dX9_feed_25 : decode cX9_feed 25 = .ok (.invokevirtual 68, 3) := by decide +kernel
theorem dX9_feed_28 : decode cX9_feed 28 = .ok (.aload_n 0, 1) := by decide +kernel
theorem dX9_feed_29 : decode cX9_feed 29 = .ok (.getfield 14, 3) := by decide +kernel
theorem dX9_feed_32 : decode cX9_feed 32 = .ok (.iload_n 2, 1) := by decide +kernel
theorem dX9_feed_33 : decode cX9_feed 33 = .ok (.i2l, 1) := by decide +kernel
theorem dX9_feed_34 : decode cX9_feed 34 = .ok (.iconst 4, 1) := by decide +kernel
theorem dX9_feed_35 : decode cX9_feed 35 = .ok (.invokevirtual 68, 3) := by decide +kernel
theorem dX9_feed_38 : decode cX9_feed 38 = .ok (.aload_n 0, 1) := by decide +kernel
theorem dX9_feed_39 : decode cX9_feed 39 = .ok (.getfield 14, 3) := by decide +kernel
theorem dX9_feed_42 : decode cX9_feed 42 = .ok (.iload_n 3, 1) := by decide +kernel
theorem dX9_feed_43 : decode cX9_feed 43 = .ok (.i2l, 1) := by decide +kernel
theorem dX9_feed_44 : decode cX9_feed 44 = .ok (.iconst 4, 1) := by decide +kernel
theorem dX9_feed_45 : decode cX9_feed 45 = .ok (.invokevirtual 68, 3) := by decide +kernel
theorem dX9_feed_48 : decode cX9_feed 48 = .ok (.aload_n 0, 1) := by decide +kernel
theorem dX9_feed_49 : decode cX9_feed 49 = .ok (.getfield 14, 3) := by decide +kernel
theorem dX9_feed_52 : decode cX9_feed 52 = .ok (.iload 4, 2) := by decide +kernel
theorem dX9_feed_54 : decode cX9_feed 54 = .ok (.i2l, 1) := by decide +kernel
theorem dX9_feed_55 : decode cX9_feed 55 = .ok (.iconst 4, 1) := by decide +kernel
theorem dX9_feed_56 : decode cX9_feed 56 = .ok (.invokevirtual 68, 3) := by decide +kernel
theorem dX9_feed_59 : decode cX9_feed 59 = .ok (.aload_n 0, 1) := by decide +kernel
theorem dX9_feed_60 : decode cX9_feed 60 = .ok (.getfield 14, 3) := by decide +kernel
theorem dX9_feed_63 : decode cX9_feed 63 = .ok (.iload 5, 2) := by decide +kernel
theorem dX9_feed_65 : decode cX9_feed 65 = .ok (.i2l, 1) := by decide +kernel
theorem dX9_feed_66 : decode cX9_feed 66 = .ok (.iconst 4, 1) := by decide +kernel
theorem dX9_feed_67 : decode cX9_feed 67 = .ok (.invokevirtual 68, 3) := by decide +kernel
theorem dX9_feed_70 : decode cX9_feed 70 = .ok (.aload_n 0, 1) := by decide +kernel
theorem dX9_feed_71 : decode cX9_feed 71 = .ok (.getfield 14, 3) := by decide +kernel
theorem dX9_feed_74 : decode cX9_feed 74 = .ok (.invokevirtual 64, 3) := by decide +kernel
theorem dX9_feed_77 : decode cX9_feed 77 = .ok (.ireturn, 1) := by decide +kernel
set_option maxHeartbeats 4000000 in
set_option maxRecDepth 100000 in
theorem ct_X9_feed (ll : Launch) (D : va_G) (ta : Nat → ClassId) (gs : Nat → Nat) (lg : Nat → Nat) (ya : Nat → Nat) (yb : Nat → Nat) (wa : Nat → Nat) (wb : Nat → Nat) (o : Nat → Nat) (v : Nat → Nat) (ct : Nat) (gta : Nat → BitVec 8) (nta : Nat) (i1 : Int32) (i2 : Int32) (i3 : Int32) (i4 : Int32) (i5 : Int32) (hta : nta ≤ 400) (sz : Nat) : CT ll yX9_feed cX9_feed 6 (some .int) ({ frames := 2, cells := 0, slots := 0, locals := 45 } : Room) D ta ((GC gs)) [.ref (lg 0), .int i1, .int i2, .int i3, .int i4, .int i5] [(lg 0, oG lg ya yb wa wb o v ct), (lg 1, oR (lg 2) nta), (lg 2, aZ ta 400 gta)] sz (S := Int32 × (Nat → BitVec 8) × Nat) (fun u => some (.int u.1)) (fun u => ((u.1 : Int32) = feedR (qL gta nta)) ∧ (qL u.2.1 u.2.2 = feedF (qL gta nta) i1 i2 i3 i4 i5) ∧ (u.2.2 ≤ 400)) (fun u => [(lg 0, oG lg ya yb wa wb o v ct), (lg 1, oR (lg 2) u.2.2), (lg 2, aZ ta 400 u.2.1)]) 0 0 := by
  refine CT.of_i (r := fun u => u.1) rfl (by decide) (Nat.le_of_ble_eq_true rfl) ?_
  have hGok := GC_ok gs
  intro pp ee ss mm below meth kc A Q hx hb hml hown hin hts hK hA hsz hG hret H locs hP hD hS ls hl
  have hl : lv_has ls 6 [(0, .ref (lg 0)), (1, .int i1), (2, .int i2), (3, .int i3), (4, .int i4), (5, .int i5)] := hl
  refine lv_aload_n (pc := 0) hx hb dX9_feed_0 rfl (lv_at hl 0 rfl) ?_
  refine va_get (pc := 1) (D := D) (ci := 7) (v := .ref (lg 1)) (C := RX9) (T := TX9) (N := 11) hx hb hts iu9 hown hK hP 0 rfl rfl 0 (by decide) (hts _ tw_352) (fun _ h9 => h9) rfl dX9_feed_1 ?_
  refine cs_V (pc := 4) (idx := 64) (n := 0) (wr := [(lg 0, oG lg ya yb wa wb o v ct)]) (As := []) (rest := []) (ci := 5) hx hb hml hown hts hGok hK hA hG hl.1 hP hD hS (ct_X6_size ll D ta hGok (lg 1) (lg 2) 400 gta nta  H.size) tw_393 tw_390 tw_391 tw_392 tw_66 hdX6_size rfl ⟨rfl, rfl, Nat.le_of_ble_eq_true rfl, Nat.le_of_ble_eq_true rfl, Nat.le_of_ble_eq_true rfl, Nat.le_of_ble_eq_true rfl⟩ rfl rfl (q0 := 1) rfl [1, 2] [0] rfl rfl (by decide) rfl (Nat.le_of_ble_eq_true rfl) dX9_feed_4 (fun u H locs hq hP hD hS => ?_)
  refine W.eq (g2 := F0 mm 7 ls [.int (nI nta)]) rfl ?_
  have hP : va_P D vwCl [(lg 0, oG lg ya yb wa wb o v ct), (lg 1, oR (lg 2) nta), (lg 2, aZ ta 400 gta)] H := hP
  have hD : va_D A [(lg 0, oG lg ya yb wa wb o v ct), (lg 1, oR (lg 2) nta), (lg 2, aZ ta 400 gta)] := hD
  refine lv_bipush (pc := 7) (v := nI 20) hx hb dX9_feed_7 (by decide +kernel) ?_
  refine lv_iadd (pc := 9) hx hb dX9_feed_9 ?_
  refine q_top (y := nI (nta + 20)) (nI_add nta 20) ?_
  refine lv_sipush (pc := 10) (v := nI 400) hx hb dX9_feed_10 (by decide +kernel) ?_
  refine lv_icmp_le (pc := 13) (tgt := 18) hx hb dX9_feed_13 (by decide) (fun c_1 => ?_) (fun c_1 => ?_)
  · skip
    rw [nI_leI (by omega) (by omega)] at c_1
    refine lv_aload_n (pc := 18) hx hb dX9_feed_18 rfl (lv_at hl 0 rfl) ?_
    refine va_get (pc := 19) (D := D) (ci := 7) (v := .ref (lg 1)) (C := RX9) (T := TX9) (N := 11) hx hb hts iu9 hown hK hP 0 rfl rfl 0 (by decide) (hts _ tw_352) (fun _ h9 => h9) rfl dX9_feed_19 ?_
    refine lv_iload_n (pc := 22) hx hb dX9_feed_22 rfl (lv_at hl 1 rfl) ?_
    refine lv_i2l (pc := 23) (v := i1.toInt64) hx hb dX9_feed_23 rfl ?_
    refine lv_iconst (pc := 24) (v := nI 4) hx hb dX9_feed_24 (by decide +kernel) ?_
    refine cs_V (pc := 25) (idx := 68) (n := 2) (wr := [(lg 0, oG lg ya yb wa wb o v ct)]) (As := [.long i1.toInt64, .int (nI 4)]) (rest := []) (ci := 5) hx hb hml hown hts hGok hK hA hG hl.1 hP hD hS (ct_X6_addNumber ll D ta hGok (lg 1) (lg 2) 400 gta nta i1.toInt64 4 (by first | assumption | omega | rfl | decide) (by first | assumption | omega | rfl | decide) (by first | assumption | omega | rfl | decide) H.size) tw_397 tw_394 tw_395 tw_396 tw_66 hdX6_addNumber rfl ⟨rfl, rfl, Nat.le_of_ble_eq_true rfl, Nat.le_of_ble_eq_true rfl, Nat.le_of_ble_eq_true rfl, Nat.le_of_ble_eq_true rfl⟩ rfl rfl (q0 := 1) rfl [1, 2] [0] rfl rfl (by decide) rfl (Nat.le_of_ble_eq_true rfl) dX9_feed_25 (fun u H locs hq hP hD hS => ?_)
    generalize u = g1_25 at hq hP hD ⊢
    have hq : (qL g1_25 (nta + 4) = qL gta nta ++ qNum i1.toInt64 4) := hq
    have hL_25 := hq
    refine W.eq (g2 := F0 mm 28 ls []) rfl ?_
    have hP : va_P D vwCl [(lg 0, oG lg ya yb wa wb o v ct), (lg 1, oR (lg 2) (nta + 4)), (lg 2, aZ ta 400 g1_25)] H := hP
    have hD : va_D A [(lg 0, oG lg ya yb wa wb o v ct), (lg 1, oR (lg 2) (nta + 4)), (lg 2, aZ ta 400 g1_25)] := hD
    refine lv_aload_n (pc := 28) hx hb dX9_feed_28 rfl (lv_at hl 0 rfl) ?_
    refine va_get (pc := 29) (D := D) (ci := 7) (v := .ref (lg 1)) (C := RX9) (T := TX9) (N := 11) hx hb hts iu9 hown hK hP 0 rfl rfl 0 (by decide) (hts _ tw_352) (fun _ h9 => h9) rfl dX9_feed_29 ?_
    refine lv_iload_n (pc := 32) hx hb dX9_feed_32 rfl (lv_at hl 2 rfl) ?_
    refine lv_i2l (pc := 33) (v := i2.toInt64) hx hb dX9_feed_33 rfl ?_
    refine lv_iconst (pc := 34) (v := nI 4) hx hb dX9_feed_34 (by decide +kernel) ?_
    refine cs_V (pc := 35) (idx := 68) (n := 2) (wr := [(lg 0, oG lg ya yb wa wb o v ct)]) (As := [.long i2.toInt64, .int (nI 4)]) (rest := []) (ci := 5) hx hb hml hown hts hGok hK hA hG hl.1 hP hD hS (ct_X6_addNumber ll D ta hGok (lg 1) (lg 2) 400 g1_25 (nta + 4) i2.toInt64 4 (by first | assumption | omega | rfl | decide) (by first | assumption | omega | rfl | decide) (by first | assumption | omega | rfl | decide) H.size) tw_397 tw_394 tw_395 tw_396 tw_66 hdX6_addNumber rfl ⟨rfl, rfl, Nat.le_of_ble_eq_true rfl, Nat.le_of_ble_eq_true rfl, Nat.le_of_ble_eq_true rfl, Nat.le_of_ble_eq_true rfl⟩ rfl rfl (q0 := 1) rfl [1, 2] [0] rfl rfl (by decide) rfl (Nat.le_of_ble_eq_true rfl) dX9_feed_35 (fun u H locs hq hP hD hS => ?_)
    generalize u = g1_35 at hq hP hD ⊢
    have hq : (qL g1_35 ((nta + 4) + 4) = qL g1_25 (nta + 4) ++ qNum i2.toInt64 4) := hq
    have hL_35 := hq
    refine W.eq (g2 := F0 mm 38 ls []) rfl ?_
    have hP : va_P D vwCl [(lg 0, oG lg ya yb wa wb o v ct), (lg 1, oR (lg 2) ((nta + 4) + 4)), (lg 2, aZ ta 400 g1_35)] H := hP
    have hD : va_D A [(lg 0, oG lg ya yb wa wb o v ct), (lg 1, oR (lg 2) ((nta + 4) + 4)), (lg 2, aZ ta 400 g1_35)] := hD
    refine lv_aload_n (pc := 38) hx hb dX9_feed_38 rfl (lv_at hl 0 rfl) ?_
    refine va_get (pc := 39) (D := D) (ci := 7) (v := .ref (lg 1)) (C := RX9) (T := TX9) (N := 11) hx hb hts iu9 hown hK hP 0 rfl rfl 0 (by decide) (hts _ tw_352) (fun _ h9 => h9) rfl dX9_feed_39 ?_
    refine lv_iload_n (pc := 42) hx hb dX9_feed_42 rfl (lv_at hl 3 rfl) ?_
    refine lv_i2l (pc := 43) (v := i3.toInt64) hx hb dX9_feed_43 rfl ?_
    refine lv_iconst (pc := 44) (v := nI 4) hx hb dX9_feed_44 (by decide +kernel) ?_
    refine cs_V (pc := 45) (idx := 68) (n := 2) (wr := [(lg 0, oG lg ya yb wa wb o v ct)]) (As := [.long i3.toInt64, .int (nI 4)]) (rest := []) (ci := 5) hx hb hml hown hts hGok hK hA hG hl.1 hP hD hS (ct_X6_addNumber ll D ta hGok (lg 1) (lg 2) 400 g1_35 ((nta + 4) + 4) i3.toInt64 4 (by first | assumption | omega | rfl | decide) (by first | assumption | omega | rfl | decide) (by first | assumption | omega | rfl | decide) H.size) tw_397 tw_394 tw_395 tw_396 tw_66 hdX6_addNumber rfl ⟨rfl, rfl, Nat.le_of_ble_eq_true rfl, Nat.le_of_ble_eq_true rfl, Nat.le_of_ble_eq_true rfl, Nat.le_of_ble_eq_true rfl⟩ rfl rfl (q0 := 1) rfl [1, 2] [0] rfl rfl (by decide) rfl (Nat.le_of_ble_eq_true rfl) dX9_feed_45 (fun u H locs hq hP hD hS => ?_)
    generalize u = g1_45 at hq hP hD ⊢
    have hq : (qL g1_45 (((nta + 4) + 4) + 4) = qL g1_35 ((nta + 4) + 4) ++ qNum i3.toInt64 4) := hq
    have hL_45 := hq
    refine W.eq (g2 := F0 mm 48 ls []) rfl ?_
    have hP : va_P D vwCl [(lg 0, oG lg ya yb wa wb o v ct), (lg 1, oR (lg 2) (((nta + 4) + 4) + 4)), (lg 2, aZ ta 400 g1_45)] H := hP
    have hD : va_D A [(lg 0, oG lg ya yb wa wb o v ct), (lg 1, oR (lg 2) (((nta + 4) + 4) + 4)), (lg 2, aZ ta 400 g1_45)] := hD
    refine lv_aload_n (pc := 48) hx hb dX9_feed_48 rfl (lv_at hl 0 rfl) ?_
    refine va_get (pc := 49) (D := D) (ci := 7) (v := .ref (lg 1)) (C := RX9) (T := TX9) (N := 11) hx hb hts iu9 hown hK hP 0 rfl rfl 0 (by decide) (hts _ tw_352) (fun _ h9 => h9) rfl dX9_feed_49 ?_
    refine lv_iload (pc := 52) hx hb dX9_feed_52 (lv_at hl 4 rfl) ?_
    refine lv_i2l (pc := 54) (v := i4.toInt64) hx hb dX9_feed_54 rfl ?_
    refine lv_iconst (pc := 55) (v := nI 4) hx hb dX9_feed_55 (by decide +kernel) ?_
    refine cs_V (pc := 56) (idx := 68) (n := 2) (wr := [(lg 0, oG lg ya yb wa wb o v ct)]) (As := [.long i4.toInt64, .int (nI 4)]) (rest := []) (ci := 5) hx hb hml hown hts hGok hK hA hG hl.1 hP hD hS (ct_X6_addNumber ll D ta hGok (lg 1) (lg 2) 400 g1_45 (((nta + 4) + 4) + 4) i4.toInt64 4 (by first | assumption | omega | rfl | decide) (by first | assumption | omega | rfl | decide) (by first | assumption | omega | rfl | decide) H.size) tw_397 tw_394 tw_395 tw_396 tw_66 hdX6_addNumber rfl ⟨rfl, rfl, Nat.le_of_ble_eq_true rfl, Nat.le_of_ble_eq_true rfl, Nat.le_of_ble_eq_true rfl, Nat.le_of_ble_eq_true rfl⟩ rfl rfl (q0 := 1) rfl [1, 2] [0] rfl rfl (by decide) rfl (Nat.le_of_ble_eq_true rfl) dX9_feed_56 (fun u H locs hq hP hD hS => ?_)
    generalize u = g1_56 at hq hP hD ⊢
    have hq : (qL g1_56 ((((nta + 4) + 4) + 4) + 4) = qL g1_45 (((nta + 4) + 4) + 4) ++ qNum i4.toInt64 4) := hq
    have hL_56 := hq
    refine W.eq (g2 := F0 mm 59 ls []) rfl ?_
    have hP : va_P D vwCl [(lg 0, oG lg ya yb wa wb o v ct), (lg 1, oR (lg 2) ((((nta + 4) + 4) + 4) + 4)), (lg 2, aZ ta 400 g1_56)] H := hP
    have hD : va_D A [(lg 0, oG lg ya yb wa wb o v ct), (lg 1, oR (lg 2) ((((nta + 4) + 4) + 4) + 4)), (lg 2, aZ ta 400 g1_56)] := hD
    refine lv_aload_n (pc := 59) hx hb dX9_feed_59 rfl (lv_at hl 0 rfl) ?_
    refine va_get (pc := 60) (D := D) (ci := 7) (v := .ref (lg 1)) (C := RX9) (T := TX9) (N := 11) hx hb hts iu9 hown hK hP 0 rfl rfl 0 (by decide) (hts _ tw_352) (fun _ h9 => h9) rfl dX9_feed_60 ?_
    refine lv_iload (pc := 63) hx hb dX9_feed_63 (lv_at hl 5 rfl) ?_
    refine lv_i2l (pc := 65) (v := i5.toInt64) hx hb dX9_feed_65 rfl ?_
    refine lv_iconst (pc := 66) (v := nI 4) hx hb dX9_feed_66 (by decide +kernel) ?_
    refine cs_V (pc := 67) (idx := 68) (n := 2) (wr := [(lg 0, oG lg ya yb wa wb o v ct)]) (As := [.long i5.toInt64, .int (nI 4)]) (rest := []) (ci := 5) hx hb hml hown hts hGok hK hA hG hl.1 hP hD hS (ct_X6_addNumber ll D ta hGok (lg 1) (lg 2) 400 g1_56 ((((nta + 4) + 4) + 4) + 4) i5.toInt64 4 (by first | assumption | omega | rfl | decide) (by first | assumption | omega | rfl | decide) (by first | assumption | omega | rfl | decide) H.size) tw_397 tw_394 tw_395 tw_396 tw_66 hdX6_addNumber rfl ⟨rfl, rfl, Nat.le_of_ble_eq_true rfl, Nat.le_of_ble_eq_true rfl, Nat.le_of_ble_eq_true rfl, Nat.le_of_ble_eq_true rfl⟩ rfl rfl (q0 := 1) rfl [1, 2] [0] rfl rfl (by decide) rfl (Nat.le_of_ble_eq_true rfl) dX9_feed_67 (fun u H locs hq hP hD hS => ?_)
    generalize u = g1_67 at hq hP hD ⊢
    have hq : (qL g1_67 (((((nta + 4) + 4) + 4) + 4) + 4) = qL g1_56 ((((nta + 4) + 4) + 4) + 4) ++ qNum i5.toInt64 4) := hq
    have hL_67 := hq
    refine W.eq (g2 := F0 mm 70 ls []) rfl ?_
    have hP : va_P D vwCl [(lg 0, oG lg ya yb wa wb o v ct), (lg 1, oR (lg 2) (((((nta + 4) + 4) + 4) + 4) + 4)), (lg 2, aZ ta 400 g1_67)] H := hP
    have hD : va_D A [(lg 0, oG lg ya yb wa wb o v ct), (lg 1, oR (lg 2) (((((nta + 4) + 4) + 4) + 4) + 4)), (lg 2, aZ ta 400 g1_67)] := hD
    refine lv_aload_n (pc := 70) hx hb dX9_feed_70 rfl (lv_at hl 0 rfl) ?_
    refine va_get (pc := 71) (D := D) (ci := 7) (v := .ref (lg 1)) (C := RX9) (T := TX9) (N := 11) hx hb hts iu9 hown hK hP 0 rfl rfl 0 (by decide) (hts _ tw_352) (fun _ h9 => h9) rfl dX9_feed_71 ?_
    refine cs_V (pc := 74) (idx := 64) (n := 0) (wr := [(lg 0, oG lg ya yb wa wb o v ct)]) (As := []) (rest := []) (ci := 5) hx hb hml hown hts hGok hK hA hG hl.1 hP hD hS (ct_X6_size ll D ta hGok (lg 1) (lg 2) 400 g1_67 (((((nta + 4) + 4) + 4) + 4) + 4)  H.size) tw_393 tw_390 tw_391 tw_392 tw_66 hdX6_size rfl ⟨rfl, rfl, Nat.le_of_ble_eq_true rfl, Nat.le_of_ble_eq_true rfl, Nat.le_of_ble_eq_true rfl, Nat.le_of_ble_eq_true rfl⟩ rfl rfl (q0 := 1) rfl [1, 2] [0] rfl rfl (by decide) rfl (Nat.le_of_ble_eq_true rfl) dX9_feed_74 (fun u H locs hq hP hD hS => ?_)
    refine W.eq (g2 := F0 mm 77 ls [.int (nI (((((nta + 4) + 4) + 4) + 4) + 4))]) rfl ?_
    have hP : va_P D vwCl [(lg 0, oG lg ya yb wa wb o v ct), (lg 1, oR (lg 2) (((((nta + 4) + 4) + 4) + 4) + 4)), (lg 2, aZ ta 400 g1_67)] H := hP
    have hD : va_D A [(lg 0, oG lg ya yb wa wb o v ct), (lg 1, oR (lg 2) (((((nta + 4) + 4) + 4) + 4) + 4)), (lg 2, aZ ta 400 g1_67)] := hD
    refine q_top (y := (nI (((((nta + 4) + 4) + 4) + 4) + 4))) (by first | rfl | decide +kernel | (simp; done)) ?_
    have hq_2 : (((nI (((((nta + 4) + 4) + 4) + 4) + 4)) : Int32) = feedR (qL gta nta)) ∧ (qL g1_67 (((((nta + 4) + 4) + 4) + 4) + 4) = feedF (qL gta nta) i1 i2 i3 i4 i5) ∧ ((((((nta + 4) + 4) + 4) + 4) + 4) ≤ 400) := by
      refine ⟨?_, ?_, by omega⟩
      · rw [feedR, qL_len, if_pos (by omega)]
      · rw [feedF, qL_len, if_pos (by omega), hL_67, hL_56, hL_45, hL_35, hL_25]
        simp only [List.append_assoc]
    exact hret (⟨(nI (((((nta + 4) + 4) + 4) + 4) + 4)), (g1_67), (((((nta + 4) + 4) + 4) + 4) + 4)⟩ : Int32 × (Nat → BitVec 8) × Nat) _ _ _ _ dX9_feed_77 hq_2 (hP.sub [0, 1, 2] rfl) (hD.sub [0, 1, 2] (by decide) rfl) hS
  · skip
    rw [nI_leI (by omega) (by omega)] at c_1
    refine lv_iconst (pc := 16) (v := (-1)) hx hb dX9_feed_16 (by decide +kernel) ?_
    refine q_top (y := (-1)) (by first | rfl | decide +kernel | (simp; done)) ?_
    have hq_3 : (((-1) : Int32) = feedR (qL gta nta)) ∧ (qL gta nta = feedF (qL gta nta) i1 i2 i3 i4 i5) ∧ (nta ≤ 400) := by
      refine ⟨?_, ?_, hta⟩
      · rw [feedR, qL_len, if_neg (by omega)]
      · rw [feedF, qL_len, if_neg (by omega)]
    exact hret (⟨(-1), (gta), (nta)⟩ : Int32 × (Nat → BitVec 8) × Nat) _ _ _ _ dX9_feed_17 hq_3 (hP.sub [0, 1, 2] rfl) (hD.sub [0, 1, 2] (by decide) rfl) hS
theorem hdX9_end : yX9_end.cls ≠ "java/lang/invoke/MethodHandle" ∧ yX9_end.cls ≠ "java/lang/invoke/VarHandle" ∧ (parseMethodDescriptor yX9_end.desc).map (fun d => d.parameters.length) = some 1 := ⟨by decide +kernel, by decide +kernel, by decide +kernel⟩
theorem dX9_end_0 : decode cX9_end 0 = .ok (.aload_n 0, 1) := by decide +kernel
theorem dX9_end_1 : decode cX9_end 1 = .ok (.getfield 14, 3) := by decide +kernel
theorem dX9_end_4 : decode cX9_end 4 = .ok (.iload_n 1, 1) := by decide +kernel
theorem dX9_end_5 : decode cX9_end 5 = .ok (.invokevirtual 72, 3) := by decide +kernel
theorem dX9_end_8 : decode cX9_end 8 = .ok (.ifCond .eq 7, 3) := by decide +kernel
theorem dX9_end_11 : decode cX9_end 11 = .ok (.iload_n 1, 1) := by decide +kernel
theorem dX9_end_12 : decode cX9_end 12 = .ok (.goto 4, 3) := by decide +kernel
theorem dX9_end_15 : decode cX9_end 15 = .ok (.iconst (-1), 1) := by decide +kernel
theorem dX9_end_16 : decode cX9_end 16 = .ok (.ireturn, 1) := by decide +kernel
set_option maxHeartbeats 4000000 in
set_option maxRecDepth 100000 in
theorem ct_X9_end (ll : Launch) (D : va_G) (ta : Nat → ClassId) (gs : Nat → Nat) (lg : Nat → Nat) (ya : Nat → Nat) (yb : Nat → Nat) (wa : Nat → Nat) (wb : Nat → Nat) (o : Nat → Nat) (v : Nat → Nat) (ct : Nat) (gta : Nat → BitVec 8) (nta : Nat) (i : Int32) (hta : nta ≤ 400) (sz : Nat) : CT ll yX9_end cX9_end 2 (some .int) ({ frames := 1, cells := 0, slots := 0, locals := 21 } : Room) D ta ((GC gs)) [.ref (lg 0), .int i] [(lg 0, oG lg ya yb wa wb o v ct), (lg 1, oR (lg 2) nta), (lg 2, aZ ta 400 gta)] sz (S := Int32 × Nat) (fun u => some (.int u.1)) (fun u => ((u.1 : Int32) = cutR (qL gta nta) i) ∧ (qL gta u.2 = cutF (qL gta nta) i) ∧ (u.2 ≤ nta)) (fun u => [(lg 0, oG lg ya yb wa wb o v ct), (lg 1, oR (lg 2) u.2), (lg 2, aZ ta 400 gta)]) 0 0 := by
  refine CT.of_i (r := fun u => u.1) rfl (by decide) (Nat.le_of_ble_eq_true rfl) ?_
  have hGok := GC_ok gs
  intro pp ee ss mm below meth kc A Q hx hb hml hown hin hts hK hA hsz hG hret H locs hP hD hS ls hl
  have hl : lv_has ls 2 [(0, .ref (lg 0)), (1, .int i)] := hl
  refine lv_aload_n (pc := 0) hx hb dX9_end_0 rfl (lv_at hl 0 rfl) ?_
  refine va_get (pc := 1) (D := D) (ci := 7) (v := .ref (lg 1)) (C := RX9) (T := TX9) (N := 11) hx hb hts iu9 hown hK hP 0 rfl rfl 0 (by decide) (hts _ tw_352) (fun _ h9 => h9) rfl dX9_end_1 ?_
  refine lv_iload_n (pc := 4) hx hb dX9_end_4 rfl (lv_at hl 1 rfl) ?_
  refine cs_V (pc := 5) (idx := 72) (n := 1) (wr := [(lg 0, oG lg ya yb wa wb o v ct)]) (As := [.int i]) (rest := []) (ci := 5) hx hb hml hown hts hGok hK hA hG hl.1 hP hD hS (ct_X6_shorten ll D ta hGok (lg 1) (lg 2) 400 gta nta i (by first | assumption | omega | rfl | decide) (by first | assumption | omega | rfl | decide) H.size) tw_405 tw_402 tw_403 tw_404 tw_66 hdX6_shorten rfl ⟨rfl, rfl, Nat.le_of_ble_eq_true rfl, Nat.le_of_ble_eq_true rfl, Nat.le_of_ble_eq_true rfl, Nat.le_of_ble_eq_true rfl⟩ rfl rfl (q0 := 1) rfl [1, 2] [0] rfl rfl (by decide) rfl (Nat.le_of_ble_eq_true rfl) dX9_end_5 (fun u H locs hq hP hD hS => ?_)
  obtain ⟨z_5, n1_5⟩ := u
  have hq : (z_5 = decide (0 ≤ i.toInt ∧ i.toInt ≤ nta)) ∧ (n1_5 = if z_5 then i.toInt.toNat else nta) := hq
  obtain ⟨hz_5, hn1_5⟩ := hq
  refine W.eq (g2 := F0 mm 8 ls [.int (qb z_5)]) rfl ?_
  have hP : va_P D vwCl [(lg 0, oG lg ya yb wa wb o v ct), (lg 1, oR (lg 2) n1_5), (lg 2, aZ ta 400 gta)] H := hP
  have hD : va_D A [(lg 0, oG lg ya yb wa wb o v ct), (lg 1, oR (lg 2) n1_5), (lg 2, aZ ta 400 gta)] := hD
  have hcr := cut_row (g := gta) hz_5 hn1_5
  refine lv_if_eq (pc := 8) (tgt := 15) hx hb dX9_end_8 (by decide) (fun c_1 => ?_) (fun c_1 => ?_)
  · skip
    rw [q_beq] at c_1
    try rw [Bool.not_eq_false] at c_1
    have hzb := c_1
    refine lv_iconst (pc := 15) (v := (-1)) hx hb dX9_end_15 (by decide +kernel) ?_
    refine q_top (y := (-1)) (by first | rfl | decide +kernel | (simp; done)) ?_
    have hq_2 : (((-1) : Int32) = cutR (qL gta nta) i) ∧ (qL gta n1_5 = cutF (qL gta nta) i) ∧ (n1_5 ≤ nta) := by
      refine ⟨?_, hcr.1, hcr.2.2.2⟩
      first | exact (hcr.2.1 hzb).symm | exact (hcr.2.2.1 hzb).symm
    exact hret (⟨(-1), (n1_5)⟩ : Int32 × Nat) _ _ _ _ dX9_end_16 hq_2 (hP.sub [0, 1, 2] rfl) (hD.sub [0, 1, 2] (by decide) rfl) hS
  · skip
    rw [q_beq] at c_1
    try rw [Bool.not_eq_false] at c_1
    have hzb := c_1
    refine lv_iload_n (pc := 11) hx hb dX9_end_11 rfl (lv_at hl 1 rfl) ?_
    refine lv_goto (pc := 12) (tgt := 16) hx hb dX9_end_12 (by decide) ?_
    have hq_3 : ((i : Int32) = cutR (qL gta nta) i) ∧ (qL gta n1_5 = cutF (qL gta nta) i) ∧ (n1_5 ≤ nta) := by
      refine ⟨?_, hcr.1, hcr.2.2.2⟩
      first | exact (hcr.2.1 hzb).symm | exact (hcr.2.2.1 hzb).symm
    exact hret (⟨(i), (n1_5)⟩ : Int32 × Nat) _ _ _ _ dX9_end_16 hq_3 (hP.sub [0, 1, 2] rfl) (hD.sub [0, 1, 2] (by decide) rfl) hS
theorem hdX9_cut : yX9_cut.cls ≠ "java/lang/invoke/MethodHandle" ∧ yX9_cut.cls ≠ "java/lang/invoke/VarHandle" ∧ (parseMethodDescriptor yX9_cut.desc).map (fun d => d.parameters.length) = some 1 := ⟨by decide +kernel, by decide +kernel, by decide +kernel⟩
theorem dX9_cut_0 : decode cX9_cut 0 = .ok (.aload_n 0, 1) := by decide +kernel
theorem dX9_cut_1 : decode cX9_cut 1 = .ok (.getfield 21, 3) := by decide +kernel
theorem dX9_cut_4 : decode cX9_cut 4 = .ok (.iload_n 1, 1) := by decide +kernel
theorem dX9_cut_5 : decode cX9_cut 5 = .ok (.invokevirtual 72, 3) := by decide +kernel
theorem dX9_cut_8 : decode cX9_cut 8 = .ok (.ifCond .eq 7, 3) := by decide +kernel
theorem dX9_cut_11 : decode cX9_cut 11 = .ok (.iload_n 1, 1) := by decide +kernel
theorem dX9_cut_12 : decode cX9_cut 12 = .ok (.goto 4, 3) := by decide +kernel
theorem dX9_cut_15 : decode cX9_cut 15 = .ok (.iconst (-1), 1) := by decide +kernel
theorem dX9_cut_16 : decode cX9_cut 16 = .ok (.ireturn, 1) := by decide +kernel
set_option maxHeartbeats 4000000 in
set_option maxRecDepth 100000 in
theorem ct_X9_cut (ll : Launch) (D : va_G) (ta : Nat → ClassId) (gs : Nat → Nat) (lg : Nat → Nat) (ya : Nat → Nat) (yb : Nat → Nat) (wa : Nat → Nat) (wb : Nat → Nat) (o : Nat → Nat) (v : Nat → Nat) (ct : Nat) (gl : Nat → BitVec 8) (nl : Nat) (i : Int32) (hli : nl ≤ 300) (sz : Nat) : CT ll yX9_cut cX9_cut 2 (some .int) ({ frames := 1, cells := 0, slots := 0, locals := 21 } : Room) D ta ((GC gs)) [.ref (lg 0), .int i] [(lg 0, oG lg ya yb wa wb o v ct), (lg 5, oR (lg 6) nl), (lg 6, aZ ta 300 gl)] sz (S := Int32 × Nat) (fun u => some (.int u.1)) (fun u => ((u.1 : Int32) = cutR (qL gl nl) i) ∧ (qL gl u.2 = cutF (qL gl nl) i) ∧ (u.2 ≤ nl)) (fun u => [(lg 0, oG lg ya yb wa wb o v ct), (lg 5, oR (lg 6) u.2), (lg 6, aZ ta 300 gl)]) 0 0 := by
  refine CT.of_i (r := fun u => u.1) rfl (by decide) (Nat.le_of_ble_eq_true rfl) ?_
  have hGok := GC_ok gs
  intro pp ee ss mm below meth kc A Q hx hb hml hown hin hts hK hA hsz hG hret H locs hP hD hS ls hl
  have hl : lv_has ls 2 [(0, .ref (lg 0)), (1, .int i)] := hl
  refine lv_aload_n (pc := 0) hx hb dX9_cut_0 rfl (lv_at hl 0 rfl) ?_
  refine va_get (pc := 1) (D := D) (ci := 7) (v := .ref (lg 5)) (C := RX9) (T := TX9) (N := 11) hx hb hts iu9 hown hK hP 0 rfl rfl 2 (by decide) (hts _ tw_354) (fun _ h9 => h9) rfl dX9_cut_1 ?_
  refine lv_iload_n (pc := 4) hx hb dX9_cut_4 rfl (lv_at hl 1 rfl) ?_
  refine cs_V (pc := 5) (idx := 72) (n := 1) (wr := [(lg 0, oG lg ya yb wa wb o v ct)]) (As := [.int i]) (rest := []) (ci := 5) hx hb hml hown hts hGok hK hA hG hl.1 hP hD hS (ct_X6_shorten ll D ta hGok (lg 5) (lg 6) 300 gl nl i (by first | assumption | omega | rfl | decide) (by first | assumption | omega | rfl | decide) H.size) tw_405 tw_402 tw_403 tw_404 tw_66 hdX6_shorten rfl ⟨rfl, rfl, Nat.le_of_ble_eq_true rfl, Nat.le_of_ble_eq_true rfl, Nat.le_of_ble_eq_true rfl, Nat.le_of_ble_eq_true rfl⟩ rfl rfl (q0 := 1) rfl [1, 2] [0] rfl rfl (by decide) rfl (Nat.le_of_ble_eq_true rfl) dX9_cut_5 (fun u H locs hq hP hD hS => ?_)
  obtain ⟨z_5, n1_5⟩ := u
  have hq : (z_5 = decide (0 ≤ i.toInt ∧ i.toInt ≤ nl)) ∧ (n1_5 = if z_5 then i.toInt.toNat else nl) := hq
  obtain ⟨hz_5, hn1_5⟩ := hq
  refine W.eq (g2 := F0 mm 8 ls [.int (qb z_5)]) rfl ?_
  have hP : va_P D vwCl [(lg 0, oG lg ya yb wa wb o v ct), (lg 5, oR (lg 6) n1_5), (lg 6, aZ ta 300 gl)] H := hP
  have hD : va_D A [(lg 0, oG lg ya yb wa wb o v ct), (lg 5, oR (lg 6) n1_5), (lg 6, aZ ta 300 gl)] := hD
  have hcr := cut_row (g := gl) hz_5 hn1_5
  refine lv_if_eq (pc := 8) (tgt := 15) hx hb dX9_cut_8 (by decide) (fun c_1 => ?_) (fun c_1 => ?_)
  · skip
    rw [q_beq] at c_1
    try rw [Bool.not_eq_false] at c_1
    have hzb := c_1
    refine lv_iconst (pc := 15) (v := (-1)) hx hb dX9_cut_15 (by decide +kernel) ?_
    refine q_top (y := (-1)) (by first | rfl | decide +kernel | (simp; done)) ?_
    have hq_2 : (((-1) : Int32) = cutR (qL gl nl) i) ∧ (qL gl n1_5 = cutF (qL gl nl) i) ∧ (n1_5 ≤ nl) := by
      refine ⟨?_, hcr.1, hcr.2.2.2⟩
      first | exact (hcr.2.1 hzb).symm | exact (hcr.2.2.1 hzb).symm
    exact hret (⟨(-1), (n1_5)⟩ : Int32 × Nat) _ _ _ _ dX9_cut_16 hq_2 (hP.sub [0, 1, 2] rfl) (hD.sub [0, 1, 2] (by decide) rfl) hS
  · skip
    rw [q_beq] at c_1
    try rw [Bool.not_eq_false] at c_1
    have hzb := c_1
    refine lv_iload_n (pc := 11) hx hb dX9_cut_11 rfl (lv_at hl 1 rfl) ?_
    refine lv_goto (pc := 12) (tgt := 16) hx hb dX9_cut_12 (by decide) ?_
    have hq_3 : ((i : Int32) = cutR (qL gl nl) i) ∧ (qL gl n1_5 = cutF (qL gl nl) i) ∧ (n1_5 ≤ nl) := by
      refine ⟨?_, hcr.1, hcr.2.2.2⟩
      first | exact (hcr.2.1 hzb).symm | exact (hcr.2.2.1 hzb).symm
    exact hret (⟨(i), (n1_5)⟩ : Int32 × Nat) _ _ _ _ dX9_cut_16 hq_3 (hP.sub [0, 1, 2] rfl) (hD.sub [0, 1, 2] (by decide) rfl) hS
theorem hdX9_out : yX9_out.cls ≠ "java/lang/invoke/MethodHandle" ∧ yX9_out.cls ≠ "java/lang/invoke/VarHandle" ∧ (parseMethodDescriptor yX9_out.desc).map (fun d => d.parameters.length) = some 1 := ⟨by decide +kernel, by decide +kernel, by decide +kernel⟩
theorem dX9_out_0 : decode cX9_out 0 = .ok (.aload_n 0, 1) := by decide +kernel
theorem dX9_out_1 : decode cX9_out 1 = .ok (.getfield 18, 3) := by decide +kernel
theorem dX9_out_4 : decode cX9_out 4 = .ok (.iload_n 1, 1) := by decide +kernel
theorem dX9_out_5 : decode cX9_out 5 = .ok (.invokevirtual 76, 3) := by decide +kernel
theorem dX9_out_8 : decode cX9_out 8 = .ok (.ireturn, 1) := by decide +kernel
set_option maxHeartbeats 4000000 in
set_option maxRecDepth 100000 in
theorem ct_X9_out (ll : Launch) (D : va_G) (ta : Nat → ClassId) (gs : Nat → Nat) (lg : Nat → Nat) (ya : Nat → Nat) (yb : Nat → Nat) (wa : Nat → Nat) (wb : Nat → Nat) (o : Nat → Nat) (v : Nat → Nat) (ct : Nat) (gou : Nat → BitVec 8) (nou : Nat) (i : Int32) (hou : nou ≤ 400) (sz : Nat) : CT ll yX9_out cX9_out 2 (some .int) ({ frames := 1, cells := 0, slots := 0, locals := 21 } : Room) D ta ((GC gs)) [.ref (lg 0), .int i] [(lg 0, oG lg ya yb wa wb o v ct), (lg 3, oR (lg 4) nou), (lg 4, aZ ta 400 gou)] sz (S := Int32) (fun u => some (.int u)) (fun u => ((u : Int32) = atL (qL gou nou) i)) (fun u => [(lg 0, oG lg ya yb wa wb o v ct), (lg 3, oR (lg 4) nou), (lg 4, aZ ta 400 gou)]) 0 0 := by
  refine CT.of_i (r := fun u => u) rfl (by decide) (Nat.le_of_ble_eq_true rfl) ?_
  have hGok := GC_ok gs
  intro pp ee ss mm below meth kc A Q hx hb hml hown hin hts hK hA hsz hG hret H locs hP hD hS ls hl
  have hl : lv_has ls 2 [(0, .ref (lg 0)), (1, .int i)] := hl
  refine lv_aload_n (pc := 0) hx hb dX9_out_0 rfl (lv_at hl 0 rfl) ?_
  refine va_get (pc := 1) (D := D) (ci := 7) (v := .ref (lg 3)) (C := RX9) (T := TX9) (N := 11) hx hb hts iu9 hown hK hP 0 rfl rfl 1 (by decide) (hts _ tw_353) (fun _ h9 => h9) rfl dX9_out_1 ?_
  refine lv_iload_n (pc := 4) hx hb dX9_out_4 rfl (lv_at hl 1 rfl) ?_
  refine cs_V (pc := 5) (idx := 76) (n := 1) (wr := [(lg 0, oG lg ya yb wa wb o v ct)]) (As := [.int i]) (rest := []) (ci := 5) hx hb hml hown hts hGok hK hA hG hl.1 hP hD hS (ct_X6_at_any ll D ta hGok (lg 3) (lg 4) 400 gou nou i (by first | assumption | omega | rfl | decide) (by first | assumption | omega | rfl | decide) H.size) tw_413 tw_410 tw_411 tw_412 tw_66 hdX6_at rfl ⟨rfl, rfl, Nat.le_of_ble_eq_true rfl, Nat.le_of_ble_eq_true rfl, Nat.le_of_ble_eq_true rfl, Nat.le_of_ble_eq_true rfl⟩ rfl rfl (q0 := 1) rfl [1, 2] [0] rfl rfl (by decide) rfl (Nat.le_of_ble_eq_true rfl) dX9_out_5 (fun u H locs hq hP hD hS => ?_)
  generalize u = r_5 at hq hP hD ⊢
  have hq : (r_5 = qAt gou nou i) := hq
  have hr_5 := hq
  refine W.eq (g2 := F0 mm 8 ls [.int r_5]) rfl ?_
  have hP : va_P D vwCl [(lg 0, oG lg ya yb wa wb o v ct), (lg 3, oR (lg 4) nou), (lg 4, aZ ta 400 gou)] H := hP
  have hD : va_D A [(lg 0, oG lg ya yb wa wb o v ct), (lg 3, oR (lg 4) nou), (lg 4, aZ ta 400 gou)] := hD
  have hq_1 : ((r_5 : Int32) = atL (qL gou nou) i) := by
    rw [hr_5, qAt_L]
  exact hret (r_5) _ _ _ _ dX9_out_8 hq_1 (hP.sub [0, 1, 2] rfl) (hD.sub [0, 1, 2] (by decide) rfl) hS
theorem hdX9_line : yX9_line.cls ≠ "java/lang/invoke/MethodHandle" ∧ yX9_line.cls ≠ "java/lang/invoke/VarHandle" ∧ (parseMethodDescriptor yX9_line.desc).map (fun d => d.parameters.length) = some 1 := ⟨by decide +kernel, by decide +kernel, by decide +kernel⟩
theorem dX9_line_0 : decode cX9_line 0 = .ok (.aload_n 0, 1) := by decide +kernel
theorem dX9_line_1 : decode cX9_line 1 = .ok (.getfield 21, 3) := by decide +kernel
theorem dX9_line_4 : decode cX9_line 4 = .ok (.iload_n 1, 1) := by decide +kernel
theorem dX9_line_5 : decode cX9_line 5 = .ok (.invokevirtual 76, 3) := by decide +kernel
theorem dX9_line_8 : decode cX9_line 8 = .ok (.ireturn, 1) := by decide +kernel
set_option maxHeartbeats 4000000 in
set_option maxRecDepth 100000 in
theorem ct_X9_line (ll : Launch) (D : va_G) (ta : Nat → ClassId) (gs : Nat → Nat) (lg : Nat → Nat) (ya : Nat → Nat) (yb : Nat → Nat) (wa : Nat → Nat) (wb : Nat → Nat) (o : Nat → Nat) (v : Nat → Nat) (ct : Nat) (gl : Nat → BitVec 8) (nl : Nat) (i : Int32) (hli : nl ≤ 300) (sz : Nat) : CT ll yX9_line cX9_line 2 (some .int) ({ frames := 1, cells := 0, slots := 0, locals := 21 } : Room) D ta ((GC gs)) [.ref (lg 0), .int i] [(lg 0, oG lg ya yb wa wb o v ct), (lg 5, oR (lg 6) nl), (lg 6, aZ ta 300 gl)] sz (S := Int32) (fun u => some (.int u)) (fun u => ((u : Int32) = atL (qL gl nl) i)) (fun u => [(lg 0, oG lg ya yb wa wb o v ct), (lg 5, oR (lg 6) nl), (lg 6, aZ ta 300 gl)]) 0 0 := by
  refine CT.of_i (r := fun u => u) rfl (by decide) (Nat.le_of_ble_eq_true rfl) ?_
  have hGok := GC_ok gs
  intro pp ee ss mm below meth kc A Q hx hb hml hown hin hts hK hA hsz hG hret H locs hP hD hS ls hl
  have hl : lv_has ls 2 [(0, .ref (lg 0)), (1, .int i)] := hl
  refine lv_aload_n (pc := 0) hx hb dX9_line_0 rfl (lv_at hl 0 rfl) ?_
  refine va_get (pc := 1) (D := D) (ci := 7) (v := .ref (lg 5)) (C := RX9) (T := TX9) (N := 11) hx hb hts iu9 hown hK hP 0 rfl rfl 2 (by decide) (hts _ tw_354) (fun _ h9 => h9) rfl dX9_line_1 ?_
  refine lv_iload_n (pc := 4) hx hb dX9_line_4 rfl (lv_at hl 1 rfl) ?_
  refine cs_V (pc := 5) (idx := 76) (n := 1) (wr := [(lg 0, oG lg ya yb wa wb o v ct)]) (As := [.int i]) (rest := []) (ci := 5) hx hb hml hown hts hGok hK hA hG hl.1 hP hD hS (ct_X6_at_any ll D ta hGok (lg 5) (lg 6) 300 gl nl i (by first | assumption | omega | rfl | decide) (by first | assumption | omega | rfl | decide) H.size) tw_413 tw_410 tw_411 tw_412 tw_66 hdX6_at rfl ⟨rfl, rfl, Nat.le_of_ble_eq_true rfl, Nat.le_of_ble_eq_true rfl, Nat.le_of_ble_eq_true rfl, Nat.le_of_ble_eq_true rfl⟩ rfl rfl (q0 := 1) rfl [1, 2] [0] rfl rfl (by decide) rfl (Nat.le_of_ble_eq_true rfl) dX9_line_5 (fun u H locs hq hP hD hS => ?_)
  generalize u = r_5 at hq hP hD ⊢
  have hq : (r_5 = qAt gl nl i) := hq
  have hr_5 := hq
  refine W.eq (g2 := F0 mm 8 ls [.int r_5]) rfl ?_
  have hP : va_P D vwCl [(lg 0, oG lg ya yb wa wb o v ct), (lg 5, oR (lg 6) nl), (lg 6, aZ ta 300 gl)] H := hP
  have hD : va_D A [(lg 0, oG lg ya yb wa wb o v ct), (lg 5, oR (lg 6) nl), (lg 6, aZ ta 300 gl)] := hD
  have hq_1 : ((r_5 : Int32) = atL (qL gl nl) i) := by
    rw [hr_5, qAt_L]
  exact hret (r_5) _ _ _ _ dX9_line_8 hq_1 (hP.sub [0, 1, 2] rfl) (hD.sub [0, 1, 2] (by decide) rfl) hS
theorem hdX9_alter : yX9_alter.cls ≠ "java/lang/invoke/MethodHandle" ∧ yX9_alter.cls ≠ "java/lang/invoke/VarHandle" ∧ (parseMethodDescriptor yX9_alter.desc).map (fun d => d.parameters.length) = some 2 := ⟨by decide +kernel, by decide +kernel, by decide +kernel⟩
theorem dX9_alter_0 : decode cX9_alter 0 = .ok (.iload_n 1, 1) := by decide +kernel
theorem dX9_alter_1 : decode cX9_alter 1 = .ok (.ifCond .lt 14, 3) := by decide +kernel
theorem dX9_alter_4 : decode cX9_alter 4 = .ok (.iload_n 1, 1) := by decide +kernel
theorem dX9_alter_5 : decode cX9_alter 5 = .ok (.aload_n 0, 1) := by decide +kernel
theorem dX9_alter_6 : decode cX9_alter 6 = .ok (.getfield 21, 3) := by decide +kernel
theorem dX9_alter_9 : decode cX9_alter 9 = .ok (.invokevirtual 64, 3) := by decide +kernel
theorem dX9_alter_12 : decode cX9_alter 12 = .ok (.if_icmp .lt 5, 3) := by decide +kernel
theorem dX9_alter_15 : decode cX9_alter 15 = .ok (.iconst (-1), 1) := by decide +kernel
theorem dX9_alter_16 : decode cX9_alter 16 = .ok (.ireturn, 1) := by decide +kernel
theorem dX9_alter_17 : decode cX9_alter 17 = .ok (.aload_n 0, 1) := by decide +kernel
theorem dX9_alter_18 : decode cX9_alter 18 = .ok (.getfield 21, 3) := by decide +kernel
theorem dX9_alter_21 : decode cX9_alter 21 = .ok (.iload_n 1, 1) := by decide +kernel
theorem dX9_alter_22 : decode cX9_alter 22 = .ok (.aload_n 0, 1) := by decide +kernel
theorem dX9_alter_23 : decode cX9_alter 23 = .ok (.getfield 21, 3) := by decide +kernel
theorem dX9_alter_26 : decode cX9_alter 26 = .ok (.iload_n 1, 1) := by decide +kernel
theorem dX9_alter_27 : decode cX9_alter 27 = .ok (.invokevirtual 76, 3) := by decide +kernel
theorem dX9_alter_30 : decode cX9_alter 30 = .ok (.iload_n 2, 1) := by decide +kernel
theorem dX9_alter_31 : decode cX9_alter 31 = .ok (.ixor, 1) := by decide +kernel
theorem dX9_alter_32 : decode cX9_alter 32 = .ok (.invokevirtual 80, 3) := by decide +kernel
theorem dX9_alter_35 : decode cX9_alter 35 = .ok (.aload_n 0, 1) := by decide +kernel
theorem dX9_alter_36 : decode cX9_alter 36 = .ok (.getfield 21, 3) := by decide +kernel
theorem dX9_alter_39 : decode cX9_alter 39 = .ok (.iload_n 1, 1) := by decide +kernel
theorem dX9_alter_40 : decode cX9_alter 40 = .ok (.invokevirtual 76, 3) := by decide +kernel
theorem dX9_alter_43 : decode cX9_alter 43 = .ok (.ireturn, 1) := by decide +kernel
set_option maxHeartbeats 4000000 in
set_option maxRecDepth 100000 in
theorem ct_X9_alter (ll : Launch) (D : va_G) (ta : Nat → ClassId) (gs : Nat → Nat) (lg : Nat → Nat) (ya : Nat → Nat) (yb : Nat → Nat) (wa : Nat → Nat) (wb : Nat → Nat) (o : Nat → Nat) (v : Nat → Nat) (ct : Nat) (gl : Nat → BitVec 8) (nl : Nat) (i : Int32) (x : Int32) (hli : nl ≤ 300) (sz : Nat) : CT ll yX9_alter cX9_alter 3 (some .int) ({ frames := 1, cells := 0, slots := 0, locals := 22 } : Room) D ta ((GC gs)) [.ref (lg 0), .int i, .int x] [(lg 0, oG lg ya yb wa wb o v ct), (lg 5, oR (lg 6) nl), (lg 6, aZ ta 300 gl)] sz (S := Int32 × (Nat → BitVec 8)) (fun u => some (.int u.1)) (fun u => ((u.1 : Int32) = altR (qL gl nl) i x) ∧ (qL u.2 nl = altF (qL gl nl) i x)) (fun u => [(lg 0, oG lg ya yb wa wb o v ct), (lg 5, oR (lg 6) nl), (lg 6, aZ ta 300 u.2)]) 0 0 := by
  refine CT.of_i (r := fun u => u.1) rfl (by decide) (Nat.le_of_ble_eq_true rfl) ?_
  have hGok := GC_ok gs
  intro pp ee ss mm below meth kc A Q hx hb hml hown hin hts hK hA hsz hG hret H locs hP hD hS ls hl
  have hl : lv_has ls 3 [(0, .ref (lg 0)), (1, .int i), (2, .int x)] := hl
  refine lv_iload_n (pc := 0) hx hb dX9_alter_0 rfl (lv_at hl 1 rfl) ?_
  refine lv_if_lt (pc := 1) (tgt := 15) hx hb dX9_alter_1 (by decide) (fun c_1 => ?_) (fun c_1 => ?_)
  · skip
    have ho := alt_out (g := gl) (n := nl) (x := x) (by omega) (Or.inl c_1)
    refine lv_iconst (pc := 15) (v := (-1)) hx hb dX9_alter_15 (by decide +kernel) ?_
    refine q_top (y := (-1)) (by first | rfl | decide +kernel | (simp; done)) ?_
    have hq_2 : (((-1) : Int32) = altR (qL gl nl) i x) ∧ (qL gl nl = altF (qL gl nl) i x) := by
      exact ⟨ho.2.symm, ho.1.symm⟩
    exact hret (⟨(-1), (gl)⟩ : Int32 × (Nat → BitVec 8)) _ _ _ _ dX9_alter_16 hq_2 (hP.sub [0, 1, 2] rfl) (hD.sub [0, 1, 2] (by decide) rfl) hS
  · skip
    have hi0 := c_1
    refine lv_iload_n (pc := 4) hx hb dX9_alter_4 rfl (lv_at hl 1 rfl) ?_
    refine lv_aload_n (pc := 5) hx hb dX9_alter_5 rfl (lv_at hl 0 rfl) ?_
    refine va_get (pc := 6) (D := D) (ci := 7) (v := .ref (lg 5)) (C := RX9) (T := TX9) (N := 11) hx hb hts iu9 hown hK hP 0 rfl rfl 2 (by decide) (hts _ tw_354) (fun _ h9 => h9) rfl dX9_alter_6 ?_
    refine cs_V (pc := 9) (idx := 64) (n := 0) (wr := [(lg 0, oG lg ya yb wa wb o v ct)]) (As := []) (rest := [.int i]) (ci := 5) hx hb hml hown hts hGok hK hA hG hl.1 hP hD hS (ct_X6_size ll D ta hGok (lg 5) (lg 6) 300 gl nl  H.size) tw_393 tw_390 tw_391 tw_392 tw_66 hdX6_size rfl ⟨rfl, rfl, Nat.le_of_ble_eq_true rfl, Nat.le_of_ble_eq_true rfl, Nat.le_of_ble_eq_true rfl, Nat.le_of_ble_eq_true rfl⟩ rfl rfl (q0 := 1) rfl [1, 2] [0] rfl rfl (by decide) rfl (Nat.le_of_ble_eq_true rfl) dX9_alter_9 (fun u H locs hq hP hD hS => ?_)
    refine W.eq (g2 := F0 mm 12 ls [.int (nI nl), .int i]) rfl ?_
    have hP : va_P D vwCl [(lg 0, oG lg ya yb wa wb o v ct), (lg 5, oR (lg 6) nl), (lg 6, aZ ta 300 gl)] H := hP
    have hD : va_D A [(lg 0, oG lg ya yb wa wb o v ct), (lg 5, oR (lg 6) nl), (lg 6, aZ ta 300 gl)] := hD
    refine lv_icmp_lt (pc := 12) (tgt := 17) hx hb dX9_alter_12 (by decide) (fun c_3 => ?_) (fun c_3 => ?_)
    · skip
      obtain ⟨j, hj, rfl⟩ := q_ix hi0 (Int32.not_le.mpr c_3) (by omega)
      refine lv_aload_n (pc := 17) hx hb dX9_alter_17 rfl (lv_at hl 0 rfl) ?_
      refine va_get (pc := 18) (D := D) (ci := 7) (v := .ref (lg 5)) (C := RX9) (T := TX9) (N := 11) hx hb hts iu9 hown hK hP 0 rfl rfl 2 (by decide) (hts _ tw_354) (fun _ h9 => h9) rfl dX9_alter_18 ?_
      refine lv_iload_n (pc := 21) hx hb dX9_alter_21 rfl (lv_at hl 1 rfl) ?_
      refine lv_aload_n (pc := 22) hx hb dX9_alter_22 rfl (lv_at hl 0 rfl) ?_
      refine va_get (pc := 23) (D := D) (ci := 7) (v := .ref (lg 5)) (C := RX9) (T := TX9) (N := 11) hx hb hts iu9 hown hK hP 0 rfl rfl 2 (by decide) (hts _ tw_354) (fun _ h9 => h9) rfl dX9_alter_23 ?_
      refine lv_iload_n (pc := 26) hx hb dX9_alter_26 rfl (lv_at hl 1 rfl) ?_
      refine cs_V (pc := 27) (idx := 76) (n := 1) (wr := [(lg 0, oG lg ya yb wa wb o v ct)]) (As := [.int (nI j)]) (rest := [.int (nI j), .ref (lg 5)]) (ci := 5) hx hb hml hown hts hGok hK hA hG hl.1 hP hD hS (ct_X6_at_in ll D ta hGok (lg 5) (lg 6) 300 gl nl j (by first | assumption | omega | rfl | decide) (by first | assumption | omega | rfl | decide) (by first | assumption | omega | rfl | decide) H.size) tw_413 tw_410 tw_411 tw_412 tw_66 hdX6_at rfl ⟨rfl, rfl, Nat.le_of_ble_eq_true rfl, Nat.le_of_ble_eq_true rfl, Nat.le_of_ble_eq_true rfl, Nat.le_of_ble_eq_true rfl⟩ rfl rfl (q0 := 1) rfl [1, 2] [0] rfl rfl (by decide) rfl (Nat.le_of_ble_eq_true rfl) dX9_alter_27 (fun u H locs hq hP hD hS => ?_)
      refine W.eq (g2 := F0 mm 30 ls [.int (qz (gl j)), .int (nI j), .ref (lg 5)]) rfl ?_
      have hP : va_P D vwCl [(lg 0, oG lg ya yb wa wb o v ct), (lg 5, oR (lg 6) nl), (lg 6, aZ ta 300 gl)] H := hP
      have hD : va_D A [(lg 0, oG lg ya yb wa wb o v ct), (lg 5, oR (lg 6) nl), (lg 6, aZ ta 300 gl)] := hD
      refine lv_iload_n (pc := 30) hx hb dX9_alter_30 rfl (lv_at hl 2 rfl) ?_
      refine lv_ixor (pc := 31) hx hb dX9_alter_31 ?_
      refine cs_V (pc := 32) (idx := 80) (n := 2) (wr := [(lg 0, oG lg ya yb wa wb o v ct)]) (As := [.int (nI j), .int ((qz (gl j)) ^^^ x)]) (rest := []) (ci := 5) hx hb hml hown hts hGok hK hA hG hl.1 hP hD hS (ct_X6_put ll D ta hGok (lg 5) (lg 6) 300 gl nl j ((qz (gl j)) ^^^ x) (by first | assumption | omega | rfl | decide) (by first | assumption | omega | rfl | decide) (by first | assumption | omega | rfl | decide) H.size) tw_425 tw_422 tw_423 tw_424 tw_66 hdX6_put rfl ⟨rfl, rfl, Nat.le_of_ble_eq_true rfl, Nat.le_of_ble_eq_true rfl, Nat.le_of_ble_eq_true rfl, Nat.le_of_ble_eq_true rfl⟩ rfl rfl (q0 := 1) rfl [1, 2] [0] rfl rfl (by decide) rfl (Nat.le_of_ble_eq_true rfl) dX9_alter_32 (fun u H locs hq hP hD hS => ?_)
      generalize u = g1_32 at hq hP hD ⊢
      have hq : (g1_32 = qU gl j (qlo ((qz (gl j)) ^^^ x))) := hq
      have hg_32 := hq
      refine W.eq (g2 := F0 mm 35 ls []) rfl ?_
      have hP : va_P D vwCl [(lg 0, oG lg ya yb wa wb o v ct), (lg 5, oR (lg 6) nl), (lg 6, aZ ta 300 g1_32)] H := hP
      have hD : va_D A [(lg 0, oG lg ya yb wa wb o v ct), (lg 5, oR (lg 6) nl), (lg 6, aZ ta 300 g1_32)] := hD
      have ha := alt_row hj (by omega) hg_32
      refine lv_aload_n (pc := 35) hx hb dX9_alter_35 rfl (lv_at hl 0 rfl) ?_
      refine va_get (pc := 36) (D := D) (ci := 7) (v := .ref (lg 5)) (C := RX9) (T := TX9) (N := 11) hx hb hts iu9 hown hK hP 0 rfl rfl 2 (by decide) (hts _ tw_354) (fun _ h9 => h9) rfl dX9_alter_36 ?_
      refine lv_iload_n (pc := 39) hx hb dX9_alter_39 rfl (lv_at hl 1 rfl) ?_
      refine cs_V (pc := 40) (idx := 76) (n := 1) (wr := [(lg 0, oG lg ya yb wa wb o v ct)]) (As := [.int (nI j)]) (rest := []) (ci := 5) hx hb hml hown hts hGok hK hA hG hl.1 hP hD hS (ct_X6_at_in ll D ta hGok (lg 5) (lg 6) 300 g1_32 nl j (by first | assumption | omega | rfl | decide) (by first | assumption | omega | rfl | decide) (by first | assumption | omega | rfl | decide) H.size) tw_413 tw_410 tw_411 tw_412 tw_66 hdX6_at rfl ⟨rfl, rfl, Nat.le_of_ble_eq_true rfl, Nat.le_of_ble_eq_true rfl, Nat.le_of_ble_eq_true rfl, Nat.le_of_ble_eq_true rfl⟩ rfl rfl (q0 := 1) rfl [1, 2] [0] rfl rfl (by decide) rfl (Nat.le_of_ble_eq_true rfl) dX9_alter_40 (fun u H locs hq hP hD hS => ?_)
      refine W.eq (g2 := F0 mm 43 ls [.int (qz (g1_32 j))]) rfl ?_
      have hP : va_P D vwCl [(lg 0, oG lg ya yb wa wb o v ct), (lg 5, oR (lg 6) nl), (lg 6, aZ ta 300 g1_32)] H := hP
      have hD : va_D A [(lg 0, oG lg ya yb wa wb o v ct), (lg 5, oR (lg 6) nl), (lg 6, aZ ta 300 g1_32)] := hD
      refine q_top (y := (qz (g1_32 j))) (by first | rfl | decide +kernel | (simp; done)) ?_
      have hq_4 : (((qz (g1_32 j)) : Int32) = altR (qL gl nl) (nI j) x) ∧ (qL g1_32 nl = altF (qL gl nl) (nI j) x) := by
        exact ⟨ha.2, ha.1⟩
      exact hret (⟨(qz (g1_32 j)), (g1_32)⟩ : Int32 × (Nat → BitVec 8)) _ _ _ _ dX9_alter_43 hq_4 (hP.sub [0, 1, 2] rfl) (hD.sub [0, 1, 2] (by decide) rfl) hS
    · skip
      have ho := alt_out (g := gl) (n := nl) (x := x) (by omega) (Or.inr c_3)
      refine lv_iconst (pc := 15) (v := (-1)) hx hb dX9_alter_15 (by decide +kernel) ?_
      refine q_top (y := (-1)) (by first | rfl | decide +kernel | (simp; done)) ?_
      have hq_5 : (((-1) : Int32) = altR (qL gl nl) i x) ∧ (qL gl nl = altF (qL gl nl) i x) := by
        exact ⟨ho.2.symm, ho.1.symm⟩
      exact hret (⟨(-1), (gl)⟩ : Int32 × (Nat → BitVec 8)) _ _ _ _ dX9_alter_16 hq_5 (hP.sub [0, 1, 2] rfl) (hD.sub [0, 1, 2] (by decide) rfl) hS
theorem hdX9_slip : yX9_slip.cls ≠ "java/lang/invoke/MethodHandle" ∧ yX9_slip.cls ≠ "java/lang/invoke/VarHandle" ∧ (parseMethodDescriptor yX9_slip.desc).map (fun d => d.parameters.length) = some 0 := ⟨by decide +kernel, by decide +kernel, by decide +kernel⟩
theorem dX9_slip_0 : decode cX9_slip 0 = .ok (.aload_n 0, 1) := by decide +kernel
theorem dX9_slip_1 : decode cX9_slip 1 = .ok (.getfield 14, 3) := by decide +kernel
theorem dX9_slip_4 : decode cX9_slip 4 = .ok (.invokevirtual 64, 3) := by decide +kernel
theorem dX9_slip_7 : decode cX9_slip 7 = .ok (.istore_n 1, 1) := by decide +kernel
theorem dX9_slip_8 : decode cX9_slip 8 = .ok (.iload_n 1, 1) := by decide +kernel
theorem dX9_slip_9 : decode cX9_slip 9 = .ok (.sipush 300, 3) := by decide +kernel
theorem dX9_slip_12 : decode cX9_slip 12 = .ok (.if_icmp .gt 14, 3) := by decide +kernel
theorem dX9_slip_15 : decode cX9_slip 15 = .ok (.aload_n 0, 1) := by decide +kernel
theorem dX9_slip_16 : decode cX9_slip 16 = .ok (.getfield 21, 3) := by decide +kernel
theorem dX9_slip_19 : decode cX9_slip 19 = .ok (.aload_n 0, 1) := by decide +kernel
theorem dX9_slip_20 : decode cX9_slip 20 = .ok (.getfield 14, 3) := by decide +kernel
theorem dX9_slip_23 : decode cX9_slip 23 = .ok (.invokevirtual 84, 3) := by decide +kernel
theorem dX9_slip_26 : decode cX9_slip 26 = .ok (.aload_n 0, 1) := by decide +kernel
theorem dX9_slip_27 : decode cX9_slip 27 = .ok (.getfield 14, 3) := by decide +kernel
theorem dX9_slip_30 : decode cX9_slip 30 = .ok (.invokevirtual 88, 3) := by decide +kernel
theorem dX9_slip_33 : decode cX9_slip 33 = .ok (.iload_n 1, 1) := by decide +kernel
theorem dX9_slip_34 : decode cX9_slip 34 = .ok (.sipush 300, 3) := by decide +kernel
theorem dX9_slip_37 : decode cX9_slip 37 = .ok (.if_icmp .gt 7, 3) := by decide +kernel
theorem dX9_slip_40 : decode cX9_slip 40 = .ok (.iload_n 1, 1) := by decide +kernel
theorem dX9_slip_41 : decode cX9_slip 41 = .ok (.goto 4, 3) := by decide +kernel
theorem dX9_slip_44 : decode cX9_slip 44 = .ok (.iconst (-1), 1) := by decide +kernel
theorem dX9_slip_45 : decode cX9_slip 45 = .ok (.ireturn, 1) := by decide +kernel
set_option maxHeartbeats 4000000 in
set_option maxRecDepth 100000 in
theorem ct_X9_slip_yes (ll : Launch) (D : va_G) (ta : Nat → ClassId) (gs : Nat → Nat) (lg : Nat → Nat) (ya : Nat → Nat) (yb : Nat → Nat) (wa : Nat → Nat) (wb : Nat → Nat) (o : Nat → Nat) (v : Nat → Nat) (ct : Nat) (gta : Nat → BitVec 8) (nta : Nat) (gl : Nat → BitVec 8) (nl : Nat) (hta : nta ≤ 300) (sz : Nat) : CT ll yX9_slip cX9_slip 2 (some .int) ({ frames := 3, cells := 0, slots := 0, locals := 66 } : Room) D ta ((GC gs)) [.ref (lg 0)] [(lg 0, oG lg ya yb wa wb o v ct), (lg 1, oR (lg 2) nta), (lg 2, aZ ta 400 gta), (lg 5, oR (lg 6) nl), (lg 6, aZ ta 300 gl)] sz (S := (Nat → BitVec 8)) (fun u => some (.int (nI nta))) (fun u => (qL u nta = qL gta nta)) (fun u => [(lg 0, oG lg ya yb wa wb o v ct), (lg 1, oR (lg 2) 0), (lg 2, aZ ta 400 gta), (lg 5, oR (lg 6) nta), (lg 6, aZ ta 300 u)]) 0 0 := by
  refine CT.of_i (r := fun u => nI nta) rfl (by decide) (Nat.le_of_ble_eq_true rfl) ?_
  have hGok := GC_ok gs
  intro pp ee ss mm below meth kc A Q hx hb hml hown hin hts hK hA hsz hG hret H locs hP hD hS ls hl
  have hl : lv_has ls 2 [(0, .ref (lg 0))] := hl
  refine lv_aload_n (pc := 0) hx hb dX9_slip_0 rfl (lv_at hl 0 rfl) ?_
  refine va_get (pc := 1) (D := D) (ci := 7) (v := .ref (lg 1)) (C := RX9) (T := TX9) (N := 11) hx hb hts iu9 hown hK hP 0 rfl rfl 0 (by decide) (hts _ tw_352) (fun _ h9 => h9) rfl dX9_slip_1 ?_
  refine cs_V (pc := 4) (idx := 64) (n := 0) (wr := [(lg 0, oG lg ya yb wa wb o v ct), (lg 5, oR (lg 6) nl), (lg 6, aZ ta 300 gl)]) (As := []) (rest := []) (ci := 5) hx hb hml hown hts hGok hK hA hG hl.1 hP hD hS (ct_X6_size ll D ta hGok (lg 1) (lg 2) 400 gta nta  H.size) tw_393 tw_390 tw_391 tw_392 tw_66 hdX6_size rfl ⟨rfl, rfl, Nat.le_of_ble_eq_true rfl, Nat.le_of_ble_eq_true rfl, Nat.le_of_ble_eq_true rfl, Nat.le_of_ble_eq_true rfl⟩ rfl rfl (q0 := 1) rfl [1, 2] [0, 3, 4] rfl rfl (by decide) rfl (Nat.le_of_ble_eq_true rfl) dX9_slip_4 (fun u H locs hq hP hD hS => ?_)
  refine W.eq (g2 := F0 mm 7 ls [.int (nI nta)]) rfl ?_
  have hP : va_P D vwCl [(lg 0, oG lg ya yb wa wb o v ct), (lg 5, oR (lg 6) nl), (lg 6, aZ ta 300 gl), (lg 1, oR (lg 2) nta), (lg 2, aZ ta 400 gta)] H := hP
  have hD : va_D A [(lg 0, oG lg ya yb wa wb o v ct), (lg 5, oR (lg 6) nl), (lg 6, aZ ta 300 gl), (lg 1, oR (lg 2) nta), (lg 2, aZ ta 400 gta)] := hD
  refine lv_istore_n (pc := 7) (lv' := [(1, .int (nI nta)), (0, .ref (lg 0))]) hx hb dX9_slip_7 rfl hl (by decide) rfl (fun ls hl => ?_)
  refine lv_iload_n (pc := 8) hx hb dX9_slip_8 rfl (lv_at hl 0 rfl) ?_
  refine lv_sipush (pc := 9) (v := nI 300) hx hb dX9_slip_9 (by decide +kernel) ?_
  refine lv_icmp_gt (pc := 12) (tgt := 26) hx hb dX9_slip_12 (by decide) (fun c_1 => ?_) (fun c_1 => ?_)
  · skip
    rw [nI_ltI (by omega) (by omega)] at c_1
    exfalso; omega
  · skip
    rw [nI_ltI (by omega) (by omega)] at c_1
    refine lv_aload_n (pc := 15) hx hb dX9_slip_15 rfl (lv_at hl 1 rfl) ?_
    refine va_get (pc := 16) (D := D) (ci := 7) (v := .ref (lg 5)) (C := RX9) (T := TX9) (N := 11) hx hb hts iu9 hown hK hP 0 rfl rfl 2 (by decide) (hts _ tw_354) (fun _ h9 => h9) rfl dX9_slip_16 ?_
    refine lv_aload_n (pc := 19) hx hb dX9_slip_19 rfl (lv_at hl 1 rfl) ?_
    refine va_get (pc := 20) (D := D) (ci := 7) (v := .ref (lg 1)) (C := RX9) (T := TX9) (N := 11) hx hb hts iu9 hown hK hP 0 rfl rfl 0 (by decide) (hts _ tw_352) (fun _ h9 => h9) rfl dX9_slip_20 ?_
    refine cs_V (pc := 23) (idx := 84) (n := 1) (wr := [(lg 0, oG lg ya yb wa wb o v ct)]) (As := [.ref (lg 1)]) (rest := []) (ci := 5) hx hb hml hown hts hGok hK hA hG hl.1 hP hD hS (ct_X6_copy ll D ta hGok (lg 5) (lg 6) 300 gl nl (lg 1) (lg 2) 400 gta nta (by first | assumption | omega | rfl | decide) (by first | assumption | omega | rfl | decide) (by first | assumption | omega | rfl | decide) (by first | assumption | omega | rfl | decide) H.size) tw_437 tw_434 tw_435 tw_436 tw_66 hdX6_copy rfl ⟨rfl, rfl, Nat.le_of_ble_eq_true rfl, Nat.le_of_ble_eq_true rfl, Nat.le_of_ble_eq_true rfl, Nat.le_of_ble_eq_true rfl⟩ rfl rfl (q0 := 1) rfl [1, 2, 3, 4] [0] rfl rfl (by decide) rfl (Nat.le_of_ble_eq_true rfl) dX9_slip_23 (fun u H locs hq hP hD hS => ?_)
    generalize u = g1_23 at hq hP hD ⊢
    have hq : (qL g1_23 nta = qL gta nta) := hq
    have hL_23 := hq
    refine W.eq (g2 := F0 mm 26 ls []) rfl ?_
    have hP : va_P D vwCl [(lg 0, oG lg ya yb wa wb o v ct), (lg 5, oR (lg 6) nta), (lg 6, aZ ta 300 g1_23), (lg 1, oR (lg 2) nta), (lg 2, aZ ta 400 gta)] H := hP
    have hD : va_D A [(lg 0, oG lg ya yb wa wb o v ct), (lg 5, oR (lg 6) nta), (lg 6, aZ ta 300 g1_23), (lg 1, oR (lg 2) nta), (lg 2, aZ ta 400 gta)] := hD
    refine lv_aload_n (pc := 26) hx hb dX9_slip_26 rfl (lv_at hl 1 rfl) ?_
    refine va_get (pc := 27) (D := D) (ci := 7) (v := .ref (lg 1)) (C := RX9) (T := TX9) (N := 11) hx hb hts iu9 hown hK hP 0 rfl rfl 0 (by decide) (hts _ tw_352) (fun _ h9 => h9) rfl dX9_slip_27 ?_
    refine cs_V (pc := 30) (idx := 88) (n := 0) (wr := [(lg 0, oG lg ya yb wa wb o v ct), (lg 5, oR (lg 6) nta), (lg 6, aZ ta 300 g1_23)]) (As := []) (rest := []) (ci := 5) hx hb hml hown hts hGok hK hA hG hl.1 hP hD hS (ct_X6_clear ll D ta hGok (lg 1) (lg 2) 400 gta nta  H.size) tw_441 tw_447 tw_439 tw_440 tw_66 hdX6_clear rfl ⟨rfl, rfl, Nat.le_of_ble_eq_true rfl, Nat.le_of_ble_eq_true rfl, Nat.le_of_ble_eq_true rfl, Nat.le_of_ble_eq_true rfl⟩ rfl rfl (q0 := 3) rfl [3, 4] [0, 1, 2] rfl rfl (by decide) rfl (Nat.le_of_ble_eq_true rfl) dX9_slip_30 (fun u H locs hq hP hD hS => ?_)
    refine W.eq (g2 := F0 mm 33 ls []) rfl ?_
    have hP : va_P D vwCl [(lg 0, oG lg ya yb wa wb o v ct), (lg 5, oR (lg 6) nta), (lg 6, aZ ta 300 g1_23), (lg 1, oR (lg 2) 0), (lg 2, aZ ta 400 gta)] H := hP
    have hD : va_D A [(lg 0, oG lg ya yb wa wb o v ct), (lg 5, oR (lg 6) nta), (lg 6, aZ ta 300 g1_23), (lg 1, oR (lg 2) 0), (lg 2, aZ ta 400 gta)] := hD
    refine lv_iload_n (pc := 33) hx hb dX9_slip_33 rfl (lv_at hl 0 rfl) ?_
    refine lv_sipush (pc := 34) (v := nI 300) hx hb dX9_slip_34 (by decide +kernel) ?_
    refine lv_icmp_gt (pc := 37) (tgt := 44) hx hb dX9_slip_37 (by decide) (fun c_2 => ?_) (fun c_2 => ?_)
    · skip
      rw [nI_ltI (by omega) (by omega)] at c_2
      exfalso; omega
    · skip
      rw [nI_ltI (by omega) (by omega)] at c_2
      refine lv_iload_n (pc := 40) hx hb dX9_slip_40 rfl (lv_at hl 0 rfl) ?_
      refine lv_goto (pc := 41) (tgt := 45) hx hb dX9_slip_41 (by decide) ?_
      have hq_3 : (qL g1_23 nta = qL gta nta) := by
        exact hL_23
      exact hret (g1_23) _ _ _ _ dX9_slip_45 hq_3 (hP.sub [0, 3, 4, 1, 2] rfl) (hD.sub [0, 3, 4, 1, 2] (by decide) rfl) hS
set_option maxHeartbeats 4000000 in
set_option maxRecDepth 100000 in
theorem ct_X9_slip_no (ll : Launch) (D : va_G) (ta : Nat → ClassId) (gs : Nat → Nat) (lg : Nat → Nat) (ya : Nat → Nat) (yb : Nat → Nat) (wa : Nat → Nat) (wb : Nat → Nat) (o : Nat → Nat) (v : Nat → Nat) (ct : Nat) (gta : Nat → BitVec 8) (nta : Nat) (gl : Nat → BitVec 8) (nl : Nat) (hta : 300 < nta ∧ nta ≤ 400) (sz : Nat) : CT ll yX9_slip cX9_slip 2 (some .int) ({ frames := 3, cells := 0, slots := 0, locals := 66 } : Room) D ta ((GC gs)) [.ref (lg 0)] [(lg 0, oG lg ya yb wa wb o v ct), (lg 1, oR (lg 2) nta), (lg 2, aZ ta 400 gta), (lg 5, oR (lg 6) nl), (lg 6, aZ ta 300 gl)] sz (S := Int32) (fun u => some (.int u)) (fun u => ((u : Int32) = -1)) (fun u => [(lg 0, oG lg ya yb wa wb o v ct), (lg 1, oR (lg 2) 0), (lg 2, aZ ta 400 gta), (lg 5, oR (lg 6) nl), (lg 6, aZ ta 300 gl)]) 0 0 := by
  refine CT.of_i (r := fun u => u) rfl (by decide) (Nat.le_of_ble_eq_true rfl) ?_
  have hGok := GC_ok gs
  intro pp ee ss mm below meth kc A Q hx hb hml hown hin hts hK hA hsz hG hret H locs hP hD hS ls hl
  have hl : lv_has ls 2 [(0, .ref (lg 0))] := hl
  refine lv_aload_n (pc := 0) hx hb dX9_slip_0 rfl (lv_at hl 0 rfl) ?_
  refine va_get (pc := 1) (D := D) (ci := 7) (v := .ref (lg 1)) (C := RX9) (T := TX9) (N := 11) hx hb hts iu9 hown hK hP 0 rfl rfl 0 (by decide) (hts _ tw_352) (fun _ h9 => h9) rfl dX9_slip_1 ?_
  refine cs_V (pc := 4) (idx := 64) (n := 0) (wr := [(lg 0, oG lg ya yb wa wb o v ct), (lg 5, oR (lg 6) nl), (lg 6, aZ ta 300 gl)]) (As := []) (rest := []) (ci := 5) hx hb hml hown hts hGok hK hA hG hl.1 hP hD hS (ct_X6_size ll D ta hGok (lg 1) (lg 2) 400 gta nta  H.size) tw_393 tw_390 tw_391 tw_392 tw_66 hdX6_size rfl ⟨rfl, rfl, Nat.le_of_ble_eq_true rfl, Nat.le_of_ble_eq_true rfl, Nat.le_of_ble_eq_true rfl, Nat.le_of_ble_eq_true rfl⟩ rfl rfl (q0 := 1) rfl [1, 2] [0, 3, 4] rfl rfl (by decide) rfl (Nat.le_of_ble_eq_true rfl) dX9_slip_4 (fun u H locs hq hP hD hS => ?_)
  refine W.eq (g2 := F0 mm 7 ls [.int (nI nta)]) rfl ?_
  have hP : va_P D vwCl [(lg 0, oG lg ya yb wa wb o v ct), (lg 5, oR (lg 6) nl), (lg 6, aZ ta 300 gl), (lg 1, oR (lg 2) nta), (lg 2, aZ ta 400 gta)] H := hP
  have hD : va_D A [(lg 0, oG lg ya yb wa wb o v ct), (lg 5, oR (lg 6) nl), (lg 6, aZ ta 300 gl), (lg 1, oR (lg 2) nta), (lg 2, aZ ta 400 gta)] := hD
  refine lv_istore_n (pc := 7) (lv' := [(1, .int (nI nta)), (0, .ref (lg 0))]) hx hb dX9_slip_7 rfl hl (by decide) rfl (fun ls hl => ?_)
  refine lv_iload_n (pc := 8) hx hb dX9_slip_8 rfl (lv_at hl 0 rfl) ?_
  refine lv_sipush (pc := 9) (v := nI 300) hx hb dX9_slip_9 (by decide +kernel) ?_
  refine lv_icmp_gt (pc := 12) (tgt := 26) hx hb dX9_slip_12 (by decide) (fun c_1 => ?_) (fun c_1 => ?_)
  · skip
    rw [nI_ltI (by omega) (by omega)] at c_1
    refine lv_aload_n (pc := 26) hx hb dX9_slip_26 rfl (lv_at hl 1 rfl) ?_
    refine va_get (pc := 27) (D := D) (ci := 7) (v := .ref (lg 1)) (C := RX9) (T := TX9) (N := 11) hx hb hts iu9 hown hK hP 0 rfl rfl 0 (by decide) (hts _ tw_352) (fun _ h9 => h9) rfl dX9_slip_27 ?_
    refine cs_V (pc := 30) (idx := 88) (n := 0) (wr := [(lg 0, oG lg ya yb wa wb o v ct), (lg 5, oR (lg 6) nl), (lg 6, aZ ta 300 gl)]) (As := []) (rest := []) (ci := 5) hx hb hml hown hts hGok hK hA hG hl.1 hP hD hS (ct_X6_clear ll D ta hGok (lg 1) (lg 2) 400 gta nta  H.size) tw_441 tw_447 tw_439 tw_440 tw_66 hdX6_clear rfl ⟨rfl, rfl, Nat.le_of_ble_eq_true rfl, Nat.le_of_ble_eq_true rfl, Nat.le_of_ble_eq_true rfl, Nat.le_of_ble_eq_true rfl⟩ rfl rfl (q0 := 3) rfl [3, 4] [0, 1, 2] rfl rfl (by decide) rfl (Nat.le_of_ble_eq_true rfl) dX9_slip_30 (fun u H locs hq hP hD hS => ?_)
    refine W.eq (g2 := F0 mm 33 ls []) rfl ?_
    have hP : va_P D vwCl [(lg 0, oG lg ya yb wa wb o v ct), (lg 5, oR (lg 6) nl), (lg 6, aZ ta 300 gl), (lg 1, oR (lg 2) 0), (lg 2, aZ ta 400 gta)] H := hP
    have hD : va_D A [(lg 0, oG lg ya yb wa wb o v ct), (lg 5, oR (lg 6) nl), (lg 6, aZ ta 300 gl), (lg 1, oR (lg 2) 0), (lg 2, aZ ta 400 gta)] := hD
    refine lv_iload_n (pc := 33) hx hb dX9_slip_33 rfl (lv_at hl 0 rfl) ?_
    refine lv_sipush (pc := 34) (v := nI 300) hx hb dX9_slip_34 (by decide +kernel) ?_
    refine lv_icmp_gt (pc := 37) (tgt := 44) hx hb dX9_slip_37 (by decide) (fun c_2 => ?_) (fun c_2 => ?_)
    · skip
      rw [nI_ltI (by omega) (by omega)] at c_2
      refine lv_iconst (pc := 44) (v := (-1)) hx hb dX9_slip_44 (by decide +kernel) ?_
      refine q_top (y := (-1)) (by first | rfl | decide +kernel | (simp; done)) ?_
      have hq_3 : (((-1) : Int32) = -1) := by
        first | rfl | trivial | (refine ⟨?_, ?_⟩ <;> rfl) | (simp; done) | omega
      exact hret (-1) _ _ _ _ dX9_slip_45 hq_3 (hP.sub [0, 3, 4, 1, 2] rfl) (hD.sub [0, 3, 4, 1, 2] (by decide) rfl) hS
    · skip
      rw [nI_ltI (by omega) (by omega)] at c_2
      exfalso; omega
  · skip
    rw [nI_ltI (by omega) (by omega)] at c_1
    exfalso; omega
theorem hdX9_name : yX9_name.cls ≠ "java/lang/invoke/MethodHandle" ∧ yX9_name.cls ≠ "java/lang/invoke/VarHandle" ∧ (parseMethodDescriptor yX9_name.desc).map (fun d => d.parameters.length) = some 0 := ⟨by decide +kernel, by decide +kernel, by decide +kernel⟩
theorem dX9_name_0 : decode cX9_name 0 = .ok (.aload_n 0, 1) := by decide +kernel
theorem dX9_name_1 : decode cX9_name 1 = .ok (.getfield 14, 3) := by decide +kernel
theorem dX9_name_4 : decode cX9_name 4 = .ok (.invokevirtual 64, 3) := by decide +kernel
theorem dX9_name_7 : decode cX9_name 7 = .ok (.istore_n 1, 1) := by decide +kernel
theorem dX9_name_8 : decode cX9_name 8 = .ok (.iload_n 1, 1) := by decide +kernel
theorem dX9_name_9 : decode cX9_name 9 = .ok (.bipush 16, 2) := by decide +kernel
theorem dX9_name_11 : decode cX9_name 11 = .ok (.if_icmp .gt 7, 3) := by decide +kernel
theorem dX9_name_14 : decode cX9_name 14 = .ok (.iconst 1, 1) := by decide +kernel
theorem dX9_name_15 : decode cX9_name 15 = .ok (.goto 4, 3) := by decide +kernel
theorem dX9_name_18 : decode cX9_name 18 = .ok (.iconst 0, 1) := by decide +kernel
theorem dX9_name_19 : decode cX9_name 19 = .ok (.istore_n 2, 1) := by decide +kernel
theorem dX9_name_20 : decode cX9_name 20 = .ok (.iload_n 2, 1) := by decide +kernel
theorem dX9_name_21 : decode cX9_name 21 = .ok (.ifCond .eq 18, 3) := by decide +kernel
theorem dX9_name_24 : decode cX9_name 24 = .ok (.aload_n 0, 1) := by decide +kernel
theorem dX9_name_25 : decode cX9_name 25 = .ok (.getfield 24, 3) := by decide +kernel
theorem dX9_name_28 : decode cX9_name 28 = .ok (.aload_n 0, 1) := by decide +kernel
theorem dX9_name_29 : decode cX9_name 29 = .ok (.getfield 14, 3) := by decide +kernel
theorem dX9_name_32 : decode cX9_name 32 = .ok (.invokevirtual 84, 3) := by decide +kernel
theorem dX9_name_35 : decode cX9_name 35 = .ok (.aload_n 0, 1) := by decide +kernel
theorem dX9_name_36 : decode cX9_name 36 = .ok (.invokevirtual 99, 3) := by decide +kernel
theorem dX9_name_39 : decode cX9_name 39 = .ok (.aload_n 0, 1) := by decide +kernel
theorem dX9_name_40 : decode cX9_name 40 = .ok (.getfield 14, 3) := by decide +kernel
theorem dX9_name_43 : decode cX9_name 43 = .ok (.invokevirtual 88, 3) := by decide +kernel
theorem dX9_name_46 : decode cX9_name 46 = .ok (.iload_n 2, 1) := by decide +kernel
theorem dX9_name_47 : decode cX9_name 47 = .ok (.ifCond .eq 7, 3) := by decide +kernel
theorem dX9_name_50 : decode cX9_name 50 = .ok (.iload_n 1, 1) := by decide +kernel
theorem dX9_name_51 : decode cX9_name 51 = .ok (.goto 4, 3) := by decide +kernel
theorem dX9_name_54 : decode cX9_name 54 = .ok (.iconst (-1), 1) := by decide +kernel
theorem dX9_name_55 : decode cX9_name 55 = .ok (.ireturn, 1) := by decide +kernel
set_option maxHeartbeats 4000000 in
set_option maxRecDepth 100000 in
theorem ct_X9_name_yes (ll : Launch) (D : va_G) (ta : Nat → ClassId) (gs : Nat → Nat) (lg : Nat → Nat) (ya : Nat → Nat) (yb : Nat → Nat) (wa : Nat → Nat) (wb : Nat → Nat) (o : Nat → Nat) (v : Nat → Nat) (ct : Nat) (gta : Nat → BitVec 8) (nta : Nat) (gl : Nat → BitVec 8) (nl : Nat) (gna : Nat → BitVec 8) (nna : Nat) (sta : Nat) (lva : Nat) (cna : Nat) (cma : Bool) (stb : Nat) (lvb : Nat) (cnb : Nat) (cmb : Bool) (hta : nta ≤ 16) (sz : Nat) : CT ll yX9_name cX9_name 3 (some .int) ({ frames := 3, cells := 0, slots := 0, locals := 66 } : Room) D ta ((GC gs)) [.ref (lg 0)] [(lg 0, oG lg ya yb wa wb o v ct), (wa 0, oW wa sta lva cna cma), (wb 0, oW wb stb lvb cnb cmb), (lg 1, oR (lg 2) nta), (lg 2, aZ ta 400 gta), (lg 5, oR (lg 6) nl), (lg 6, aZ ta 300 gl), (lg 7, oR (lg 8) nna), (lg 8, aZ ta 16 gna)] sz (S := (Nat → BitVec 8)) (fun u => some (.int (nI nta))) (fun u => (qL u nta = qL gta nta)) (fun u => [(lg 0, oG lg ya yb wa wb o v ct), (wa 0, oW wa 0 0 cna cma), (wb 0, oW wb 0 0 cnb cmb), (lg 1, oR (lg 2) 0), (lg 2, aZ ta 400 gta), (lg 5, oR (lg 6) 0), (lg 6, aZ ta 300 gl), (lg 7, oR (lg 8) nta), (lg 8, aZ ta 16 u)]) 0 0 := by
  refine CT.of_i (r := fun u => nI nta) rfl (by decide) (Nat.le_of_ble_eq_true rfl) ?_
  have hGok := GC_ok gs
  intro pp ee ss mm below meth kc A Q hx hb hml hown hin hts hK hA hsz hG hret H locs hP hD hS ls hl
  have hl : lv_has ls 3 [(0, .ref (lg 0))] := hl
  refine lv_aload_n (pc := 0) hx hb dX9_name_0 rfl (lv_at hl 0 rfl) ?_
  refine va_get (pc := 1) (D := D) (ci := 7) (v := .ref (lg 1)) (C := RX9) (T := TX9) (N := 11) hx hb hts iu9 hown hK hP 0 rfl rfl 0 (by decide) (hts _ tw_352) (fun _ h9 => h9) rfl dX9_name_1 ?_
  refine cs_V (pc := 4) (idx := 64) (n := 0) (wr := [(lg 0, oG lg ya yb wa wb o v ct), (wa 0, oW wa sta lva cna cma), (wb 0, oW wb stb lvb cnb cmb), (lg 5, oR (lg 6) nl), (lg 6, aZ ta 300 gl), (lg 7, oR (lg 8) nna), (lg 8, aZ ta 16 gna)]) (As := []) (rest := []) (ci := 5) hx hb hml hown hts hGok hK hA hG hl.1 hP hD hS (ct_X6_size ll D ta hGok (lg 1) (lg 2) 400 gta nta  H.size) tw_393 tw_390 tw_391 tw_392 tw_66 hdX6_size rfl ⟨rfl, rfl, Nat.le_of_ble_eq_true rfl, Nat.le_of_ble_eq_true rfl, Nat.le_of_ble_eq_true rfl, Nat.le_of_ble_eq_true rfl⟩ rfl rfl (q0 := 3) rfl [3, 4] [0, 1, 2, 5, 6, 7, 8] rfl rfl (by decide) rfl (Nat.le_of_ble_eq_true rfl) dX9_name_4 (fun u H locs hq hP hD hS => ?_)
  refine W.eq (g2 := F0 mm 7 ls [.int (nI nta)]) rfl ?_
  have hP : va_P D vwCl [(lg 0, oG lg ya yb wa wb o v ct), (wa 0, oW wa sta lva cna cma), (wb 0, oW wb stb lvb cnb cmb), (lg 5, oR (lg 6) nl), (lg 6, aZ ta 300 gl), (lg 7, oR (lg 8) nna), (lg 8, aZ ta 16 gna), (lg 1, oR (lg 2) nta), (lg 2, aZ ta 400 gta)] H := hP
  have hD : va_D A [(lg 0, oG lg ya yb wa wb o v ct), (wa 0, oW wa sta lva cna cma), (wb 0, oW wb stb lvb cnb cmb), (lg 5, oR (lg 6) nl), (lg 6, aZ ta 300 gl), (lg 7, oR (lg 8) nna), (lg 8, aZ ta 16 gna), (lg 1, oR (lg 2) nta), (lg 2, aZ ta 400 gta)] := hD
  refine lv_istore_n (pc := 7) (lv' := [(1, .int (nI nta)), (0, .ref (lg 0))]) hx hb dX9_name_7 rfl hl (by decide) rfl (fun ls hl => ?_)
  refine lv_iload_n (pc := 8) hx hb dX9_name_8 rfl (lv_at hl 0 rfl) ?_
  refine lv_bipush (pc := 9) (v := nI 16) hx hb dX9_name_9 (by decide +kernel) ?_
  refine lv_icmp_gt (pc := 11) (tgt := 18) hx hb dX9_name_11 (by decide) (fun c_1 => ?_) (fun c_1 => ?_)
  · skip
    rw [nI_ltI (by omega) (by omega)] at c_1
    exfalso; omega
  · skip
    rw [nI_ltI (by omega) (by omega)] at c_1
    refine lv_iconst (pc := 14) (v := nI 1) hx hb dX9_name_14 (by decide +kernel) ?_
    refine lv_goto (pc := 15) (tgt := 19) hx hb dX9_name_15 (by decide) ?_
    refine lv_istore_n (pc := 19) (lv' := [(2, .int (nI 1)), (1, .int (nI nta)), (0, .ref (lg 0))]) hx hb dX9_name_19 rfl hl (by decide) rfl (fun ls hl => ?_)
    refine lv_iload_n (pc := 20) hx hb dX9_name_20 rfl (lv_at hl 0 rfl) ?_
    refine lv_if_eq (pc := 21) (tgt := 39) hx hb dX9_name_21 (by decide) (fun c_2 => absurd c_2 (by decide)) (fun _ => ?_)
    refine lv_aload_n (pc := 24) hx hb dX9_name_24 rfl (lv_at hl 2 rfl) ?_
    refine va_get (pc := 25) (D := D) (ci := 7) (v := .ref (lg 7)) (C := RX9) (T := TX9) (N := 11) hx hb hts iu9 hown hK hP 0 rfl rfl 3 (by decide) (hts _ tw_355) (fun _ h9 => h9) rfl dX9_name_25 ?_
    refine lv_aload_n (pc := 28) hx hb dX9_name_28 rfl (lv_at hl 2 rfl) ?_
    refine va_get (pc := 29) (D := D) (ci := 7) (v := .ref (lg 1)) (C := RX9) (T := TX9) (N := 11) hx hb hts iu9 hown hK hP 0 rfl rfl 0 (by decide) (hts _ tw_352) (fun _ h9 => h9) rfl dX9_name_29 ?_
    refine cs_V (pc := 32) (idx := 84) (n := 1) (wr := [(lg 0, oG lg ya yb wa wb o v ct), (wa 0, oW wa sta lva cna cma), (wb 0, oW wb stb lvb cnb cmb), (lg 5, oR (lg 6) nl), (lg 6, aZ ta 300 gl)]) (As := [.ref (lg 1)]) (rest := []) (ci := 5) hx hb hml hown hts hGok hK hA hG hl.1 hP hD hS (ct_X6_copy ll D ta hGok (lg 7) (lg 8) 16 gna nna (lg 1) (lg 2) 400 gta nta (by first | assumption | omega | rfl | decide) (by first | assumption | omega | rfl | decide) (by first | assumption | omega | rfl | decide) (by first | assumption | omega | rfl | decide) H.size) tw_437 tw_434 tw_435 tw_436 tw_66 hdX6_copy rfl ⟨rfl, rfl, Nat.le_of_ble_eq_true rfl, Nat.le_of_ble_eq_true rfl, Nat.le_of_ble_eq_true rfl, Nat.le_of_ble_eq_true rfl⟩ rfl rfl (q0 := 5) rfl [5, 6, 7, 8] [0, 1, 2, 3, 4] rfl rfl (by decide) rfl (Nat.le_of_ble_eq_true rfl) dX9_name_32 (fun u H locs hq hP hD hS => ?_)
    generalize u = g1_32 at hq hP hD ⊢
    have hq : (qL g1_32 nta = qL gta nta) := hq
    have hL_32 := hq
    refine W.eq (g2 := F0 mm 35 ls []) rfl ?_
    have hP : va_P D vwCl [(lg 0, oG lg ya yb wa wb o v ct), (wa 0, oW wa sta lva cna cma), (wb 0, oW wb stb lvb cnb cmb), (lg 5, oR (lg 6) nl), (lg 6, aZ ta 300 gl), (lg 7, oR (lg 8) nta), (lg 8, aZ ta 16 g1_32), (lg 1, oR (lg 2) nta), (lg 2, aZ ta 400 gta)] H := hP
    have hD : va_D A [(lg 0, oG lg ya yb wa wb o v ct), (wa 0, oW wa sta lva cna cma), (wb 0, oW wb stb lvb cnb cmb), (lg 5, oR (lg 6) nl), (lg 6, aZ ta 300 gl), (lg 7, oR (lg 8) nta), (lg 8, aZ ta 16 g1_32), (lg 1, oR (lg 2) nta), (lg 2, aZ ta 400 gta)] := hD
    refine lv_aload_n (pc := 35) hx hb dX9_name_35 rfl (lv_at hl 2 rfl) ?_
    refine cs_V (pc := 36) (idx := 99) (n := 0) (wr := [(lg 7, oR (lg 8) nta), (lg 8, aZ ta 16 g1_32), (lg 1, oR (lg 2) nta), (lg 2, aZ ta 400 gta)]) (As := []) (rest := []) (ci := 7) hx hb hml hown hts hGok hK hA hG hl.1 hP hD hS (ct_X9_forgetSessions ll D ta gs lg ya yb wa wb o v ct sta lva cna cma stb lvb cnb cmb gl nl  H.size) tw_468 tw_465 tw_467 tw_1 tw_65 hdX9_forgetSessions rfl ⟨rfl, rfl, Nat.le_of_ble_eq_true rfl, Nat.le_of_ble_eq_true rfl, Nat.le_of_ble_eq_true rfl, Nat.le_of_ble_eq_true rfl⟩ rfl rfl (q0 := 0) rfl [0, 1, 2, 3, 4] [5, 6, 7, 8] rfl rfl (by decide) rfl (Nat.le_of_ble_eq_true rfl) dX9_name_36 (fun u H locs hq hP hD hS => ?_)
    refine W.eq (g2 := F0 mm 39 ls []) rfl ?_
    have hP : va_P D vwCl [(lg 7, oR (lg 8) nta), (lg 8, aZ ta 16 g1_32), (lg 1, oR (lg 2) nta), (lg 2, aZ ta 400 gta), (lg 0, oG lg ya yb wa wb o v ct), (wa 0, oW wa 0 0 cna cma), (wb 0, oW wb 0 0 cnb cmb), (lg 5, oR (lg 6) 0), (lg 6, aZ ta 300 gl)] H := hP
    have hD : va_D A [(lg 7, oR (lg 8) nta), (lg 8, aZ ta 16 g1_32), (lg 1, oR (lg 2) nta), (lg 2, aZ ta 400 gta), (lg 0, oG lg ya yb wa wb o v ct), (wa 0, oW wa 0 0 cna cma), (wb 0, oW wb 0 0 cnb cmb), (lg 5, oR (lg 6) 0), (lg 6, aZ ta 300 gl)] := hD
    refine lv_aload_n (pc := 39) hx hb dX9_name_39 rfl (lv_at hl 2 rfl) ?_
    refine va_get (pc := 40) (D := D) (ci := 7) (v := .ref (lg 1)) (C := RX9) (T := TX9) (N := 11) hx hb hts iu9 hown hK hP 4 rfl rfl 0 (by decide) (hts _ tw_352) (fun _ h9 => h9) rfl dX9_name_40 ?_
    refine cs_V (pc := 43) (idx := 88) (n := 0) (wr := [(lg 7, oR (lg 8) nta), (lg 8, aZ ta 16 g1_32), (lg 0, oG lg ya yb wa wb o v ct), (wa 0, oW wa 0 0 cna cma), (wb 0, oW wb 0 0 cnb cmb), (lg 5, oR (lg 6) 0), (lg 6, aZ ta 300 gl)]) (As := []) (rest := []) (ci := 5) hx hb hml hown hts hGok hK hA hG hl.1 hP hD hS (ct_X6_clear ll D ta hGok (lg 1) (lg 2) 400 gta nta  H.size) tw_441 tw_447 tw_439 tw_440 tw_66 hdX6_clear rfl ⟨rfl, rfl, Nat.le_of_ble_eq_true rfl, Nat.le_of_ble_eq_true rfl, Nat.le_of_ble_eq_true rfl, Nat.le_of_ble_eq_true rfl⟩ rfl rfl (q0 := 2) rfl [2, 3] [0, 1, 4, 5, 6, 7, 8] rfl rfl (by decide) rfl (Nat.le_of_ble_eq_true rfl) dX9_name_43 (fun u H locs hq hP hD hS => ?_)
    refine W.eq (g2 := F0 mm 46 ls []) rfl ?_
    have hP : va_P D vwCl [(lg 7, oR (lg 8) nta), (lg 8, aZ ta 16 g1_32), (lg 0, oG lg ya yb wa wb o v ct), (wa 0, oW wa 0 0 cna cma), (wb 0, oW wb 0 0 cnb cmb), (lg 5, oR (lg 6) 0), (lg 6, aZ ta 300 gl), (lg 1, oR (lg 2) 0), (lg 2, aZ ta 400 gta)] H := hP
    have hD : va_D A [(lg 7, oR (lg 8) nta), (lg 8, aZ ta 16 g1_32), (lg 0, oG lg ya yb wa wb o v ct), (wa 0, oW wa 0 0 cna cma), (wb 0, oW wb 0 0 cnb cmb), (lg 5, oR (lg 6) 0), (lg 6, aZ ta 300 gl), (lg 1, oR (lg 2) 0), (lg 2, aZ ta 400 gta)] := hD
    refine lv_iload_n (pc := 46) hx hb dX9_name_46 rfl (lv_at hl 0 rfl) ?_
    refine lv_if_eq (pc := 47) (tgt := 54) hx hb dX9_name_47 (by decide) (fun c_3 => absurd c_3 (by decide)) (fun _ => ?_)
    refine lv_iload_n (pc := 50) hx hb dX9_name_50 rfl (lv_at hl 1 rfl) ?_
    refine lv_goto (pc := 51) (tgt := 55) hx hb dX9_name_51 (by decide) ?_
    have hq_4 : (qL g1_32 nta = qL gta nta) := by
      exact hL_32
    exact hret (g1_32) _ _ _ _ dX9_name_55 hq_4 (hP.sub [2, 3, 4, 7, 8, 5, 6, 0, 1] rfl) (hD.sub [2, 3, 4, 7, 8, 5, 6, 0, 1] (by decide) rfl) hS
set_option maxHeartbeats 4000000 in
set_option maxRecDepth 100000 in
theorem ct_X9_name_no (ll : Launch) (D : va_G) (ta : Nat → ClassId) (gs : Nat → Nat) (lg : Nat → Nat) (ya : Nat → Nat) (yb : Nat → Nat) (wa : Nat → Nat) (wb : Nat → Nat) (o : Nat → Nat) (v : Nat → Nat) (ct : Nat) (gta : Nat → BitVec 8) (nta : Nat) (gl : Nat → BitVec 8) (nl : Nat) (gna : Nat → BitVec 8) (nna : Nat) (sta : Nat) (lva : Nat) (cna : Nat) (cma : Bool) (stb : Nat) (lvb : Nat) (cnb : Nat) (cmb : Bool) (hta : 16 < nta ∧ nta ≤ 400) (sz : Nat) : CT ll yX9_name cX9_name 3 (some .int) ({ frames := 3, cells := 0, slots := 0, locals := 66 } : Room) D ta ((GC gs)) [.ref (lg 0)] [(lg 0, oG lg ya yb wa wb o v ct), (wa 0, oW wa sta lva cna cma), (wb 0, oW wb stb lvb cnb cmb), (lg 1, oR (lg 2) nta), (lg 2, aZ ta 400 gta), (lg 5, oR (lg 6) nl), (lg 6, aZ ta 300 gl), (lg 7, oR (lg 8) nna), (lg 8, aZ ta 16 gna)] sz (S := Int32) (fun u => some (.int u)) (fun u => ((u : Int32) = -1)) (fun u => [(lg 0, oG lg ya yb wa wb o v ct), (wa 0, oW wa sta lva cna cma), (wb 0, oW wb stb lvb cnb cmb), (lg 1, oR (lg 2) 0), (lg 2, aZ ta 400 gta), (lg 5, oR (lg 6) nl), (lg 6, aZ ta 300 gl), (lg 7, oR (lg 8) nna), (lg 8, aZ ta 16 gna)]) 0 0 := by
  refine CT.of_i (r := fun u => u) rfl (by decide) (Nat.le_of_ble_eq_true rfl) ?_
  have hGok := GC_ok gs
  intro pp ee ss mm below meth kc A Q hx hb hml hown hin hts hK hA hsz hG hret H locs hP hD hS ls hl
  have hl : lv_has ls 3 [(0, .ref (lg 0))] := hl
  refine lv_aload_n (pc := 0) hx hb dX9_name_0 rfl (lv_at hl 0 rfl) ?_
  refine va_get (pc := 1) (D := D) (ci := 7) (v := .ref (lg 1)) (C := RX9) (T := TX9) (N := 11) hx hb hts iu9 hown hK hP 0 rfl rfl 0 (by decide) (hts _ tw_352) (fun _ h9 => h9) rfl dX9_name_1 ?_
  refine cs_V (pc := 4) (idx := 64) (n := 0) (wr := [(lg 0, oG lg ya yb wa wb o v ct), (wa 0, oW wa sta lva cna cma), (wb 0, oW wb stb lvb cnb cmb), (lg 5, oR (lg 6) nl), (lg 6, aZ ta 300 gl), (lg 7, oR (lg 8) nna), (lg 8, aZ ta 16 gna)]) (As := []) (rest := []) (ci := 5) hx hb hml hown hts hGok hK hA hG hl.1 hP hD hS (ct_X6_size ll D ta hGok (lg 1) (lg 2) 400 gta nta  H.size) tw_393 tw_390 tw_391 tw_392 tw_66 hdX6_size rfl ⟨rfl, rfl, Nat.le_of_ble_eq_true rfl, Nat.le_of_ble_eq_true rfl, Nat.le_of_ble_eq_true rfl, Nat.le_of_ble_eq_true rfl⟩ rfl rfl (q0 := 3) rfl [3, 4] [0, 1, 2, 5, 6, 7, 8] rfl rfl (by decide) rfl (Nat.le_of_ble_eq_true rfl) dX9_name_4 (fun u H locs hq hP hD hS => ?_)
  refine W.eq (g2 := F0 mm 7 ls [.int (nI nta)]) rfl ?_
  have hP : va_P D vwCl [(lg 0, oG lg ya yb wa wb o v ct), (wa 0, oW wa sta lva cna cma), (wb 0, oW wb stb lvb cnb cmb), (lg 5, oR (lg 6) nl), (lg 6, aZ ta 300 gl), (lg 7, oR (lg 8) nna), (lg 8, aZ ta 16 gna), (lg 1, oR (lg 2) nta), (lg 2, aZ ta 400 gta)] H := hP
  have hD : va_D A [(lg 0, oG lg ya yb wa wb o v ct), (wa 0, oW wa sta lva cna cma), (wb 0, oW wb stb lvb cnb cmb), (lg 5, oR (lg 6) nl), (lg 6, aZ ta 300 gl), (lg 7, oR (lg 8) nna), (lg 8, aZ ta 16 gna), (lg 1, oR (lg 2) nta), (lg 2, aZ ta 400 gta)] := hD
  refine lv_istore_n (pc := 7) (lv' := [(1, .int (nI nta)), (0, .ref (lg 0))]) hx hb dX9_name_7 rfl hl (by decide) rfl (fun ls hl => ?_)
  refine lv_iload_n (pc := 8) hx hb dX9_name_8 rfl (lv_at hl 0 rfl) ?_
  refine lv_bipush (pc := 9) (v := nI 16) hx hb dX9_name_9 (by decide +kernel) ?_
  refine lv_icmp_gt (pc := 11) (tgt := 18) hx hb dX9_name_11 (by decide) (fun c_1 => ?_) (fun c_1 => ?_)
  · skip
    rw [nI_ltI (by omega) (by omega)] at c_1
    refine lv_iconst (pc := 18) (v := nI 0) hx hb dX9_name_18 (by decide +kernel) ?_
    refine lv_istore_n (pc := 19) (lv' := [(2, .int (nI 0)), (1, .int (nI nta)), (0, .ref (lg 0))]) hx hb dX9_name_19 rfl hl (by decide) rfl (fun ls hl => ?_)
    refine lv_iload_n (pc := 20) hx hb dX9_name_20 rfl (lv_at hl 0 rfl) ?_
    refine lv_if_eq (pc := 21) (tgt := 39) hx hb dX9_name_21 (by decide) (fun _ => ?_) (fun c_2 => absurd (by decide) c_2)
    refine lv_aload_n (pc := 39) hx hb dX9_name_39 rfl (lv_at hl 2 rfl) ?_
    refine va_get (pc := 40) (D := D) (ci := 7) (v := .ref (lg 1)) (C := RX9) (T := TX9) (N := 11) hx hb hts iu9 hown hK hP 0 rfl rfl 0 (by decide) (hts _ tw_352) (fun _ h9 => h9) rfl dX9_name_40 ?_
    refine cs_V (pc := 43) (idx := 88) (n := 0) (wr := [(lg 0, oG lg ya yb wa wb o v ct), (wa 0, oW wa sta lva cna cma), (wb 0, oW wb stb lvb cnb cmb), (lg 5, oR (lg 6) nl), (lg 6, aZ ta 300 gl), (lg 7, oR (lg 8) nna), (lg 8, aZ ta 16 gna)]) (As := []) (rest := []) (ci := 5) hx hb hml hown hts hGok hK hA hG hl.1 hP hD hS (ct_X6_clear ll D ta hGok (lg 1) (lg 2) 400 gta nta  H.size) tw_441 tw_447 tw_439 tw_440 tw_66 hdX6_clear rfl ⟨rfl, rfl, Nat.le_of_ble_eq_true rfl, Nat.le_of_ble_eq_true rfl, Nat.le_of_ble_eq_true rfl, Nat.le_of_ble_eq_true rfl⟩ rfl rfl (q0 := 7) rfl [7, 8] [0, 1, 2, 3, 4, 5, 6] rfl rfl (by decide) rfl (Nat.le_of_ble_eq_true rfl) dX9_name_43 (fun u H locs hq hP hD hS => ?_)
    refine W.eq (g2 := F0 mm 46 ls []) rfl ?_
    have hP : va_P D vwCl [(lg 0, oG lg ya yb wa wb o v ct), (wa 0, oW wa sta lva cna cma), (wb 0, oW wb stb lvb cnb cmb), (lg 5, oR (lg 6) nl), (lg 6, aZ ta 300 gl), (lg 7, oR (lg 8) nna), (lg 8, aZ ta 16 gna), (lg 1, oR (lg 2) 0), (lg 2, aZ ta 400 gta)] H := hP
    have hD : va_D A [(lg 0, oG lg ya yb wa wb o v ct), (wa 0, oW wa sta lva cna cma), (wb 0, oW wb stb lvb cnb cmb), (lg 5, oR (lg 6) nl), (lg 6, aZ ta 300 gl), (lg 7, oR (lg 8) nna), (lg 8, aZ ta 16 gna), (lg 1, oR (lg 2) 0), (lg 2, aZ ta 400 gta)] := hD
    refine lv_iload_n (pc := 46) hx hb dX9_name_46 rfl (lv_at hl 0 rfl) ?_
    refine lv_if_eq (pc := 47) (tgt := 54) hx hb dX9_name_47 (by decide) (fun _ => ?_) (fun c_3 => absurd (by decide) c_3)
    refine lv_iconst (pc := 54) (v := (-1)) hx hb dX9_name_54 (by decide +kernel) ?_
    refine q_top (y := (-1)) (by first | rfl | decide +kernel | (simp; done)) ?_
    have hq_4 : (((-1) : Int32) = -1) := by
      first | rfl | trivial | (refine ⟨?_, ?_⟩ <;> rfl) | (simp; done) | omega
    exact hret (-1) _ _ _ _ dX9_name_55 hq_4 (hP.sub [0, 1, 2, 7, 8, 3, 4, 5, 6] rfl) (hD.sub [0, 1, 2, 7, 8, 3, 4, 5, 6] (by decide) rfl) hS
  · skip
    rw [nI_ltI (by omega) (by omega)] at c_1
    exfalso; omega
theorem hdX9_counter : yX9_counter.cls ≠ "java/lang/invoke/MethodHandle" ∧ yX9_counter.cls ≠ "java/lang/invoke/VarHandle" ∧ (parseMethodDescriptor yX9_counter.desc).map (fun d => d.parameters.length) = some 1 := ⟨by decide +kernel, by decide +kernel, by decide +kernel⟩
theorem dX9_counter_0 : decode cX9_counter 0 = .ok (.iload_n 1, 1) := by decide +kernel
theorem dX9_counter_1 : decode cX9_counter 1 = .ok (.ifCond .lt 9, 3) := by decide +kernel
theorem dX9_counter_4 : decode cX9_counter 4 = .ok (.iload_n 1, 1) := by decide +kernel
theorem dX9_counter_5 : decode cX9_counter 5 = .ok (.ldc 102, 2) := by decide +kernel
theorem dX9_counter_7 : decode cX9_counter 7 = .ok (.if_icmp .le 5, 3) := by decide +kernel
theorem dX9_counter_10 : decode cX9_counter 10 = .ok (.iconst (-1), 1) := by decide +kernel
theorem dX9_counter_11 : decode cX9_counter 11 = .ok (.ireturn, 1) := by decide +kernel
theorem dX9_counter_12 : decode cX9_counter 12 = .ok (.aload_n 0, 1) := by decide +kernel
theorem dX9_counter_13 : decode cX9_counter 13 = .ok (.iload_n 1, 1) := by decide +kernel
theorem dX9_counter_14 : decode cX9_counter 14 = .ok (.putfield 60, 3) := by decide +kernel
theorem dX9_counter_17 : decode cX9_counter 17 = .ok (.iconst 1, 1) := by decide +kernel
theorem dX9_counter_18 : decode cX9_counter 18 = .ok (.ireturn, 1) := by decide +kernel
set_option maxHeartbeats 4000000 in
set_option maxRecDepth 100000 in
theorem ct_X9_counter_yes (ll : Launch) (D : va_G) (ta : Nat → ClassId) (gs : Nat → Nat) (lg : Nat → Nat) (ya : Nat → Nat) (yb : Nat → Nat) (wa : Nat → Nat) (wb : Nat → Nat) (o : Nat → Nat) (v : Nat → Nat) (ct : Nat) (n : Nat) (hn : n ≤ 16777215) (sz : Nat) : CT ll yX9_counter cX9_counter 2 (some .int) ({ frames := 0, cells := 0, slots := 0, locals := 0 } : Room) D ta ((GC gs)) [.ref (lg 0), .int (nI n)] [(lg 0, oG lg ya yb wa wb o v ct)] sz (S := Unit) (fun u => some (.int (nI 1))) (fun u => True) (fun u => [(lg 0, oG lg ya yb wa wb o v n)]) 0 0 := by
  refine CT.of_i (r := fun u => nI 1) rfl (by decide) (Nat.le_of_ble_eq_true rfl) ?_
  have hGok := GC_ok gs
  intro pp ee ss mm below meth kc A Q hx hb hml hown hin hts hK hA hsz hG hret H locs hP hD hS ls hl
  have hl : lv_has ls 2 [(0, .ref (lg 0)), (1, .int (nI n))] := hl
  refine lv_iload_n (pc := 0) hx hb dX9_counter_0 rfl (lv_at hl 1 rfl) ?_
  refine lv_if_lt (pc := 1) (tgt := 10) hx hb dX9_counter_1 (by decide) (fun c_1 => ?_) (fun _ => ?_)
  · skip
    rw [q_lt0 (by omega)] at c_1
    exact c_1.elim
  refine lv_iload_n (pc := 4) hx hb dX9_counter_4 rfl (lv_at hl 1 rfl) ?_
  refine lv_ldc (pc := 5) (v := (nI 16777215)) hx hb hown (q_at (hts _ tw_481) (by decide +kernel)) dX9_counter_5 ?_
  refine lv_icmp_le (pc := 7) (tgt := 12) hx hb dX9_counter_7 (by decide) (fun c_2 => ?_) (fun c_2 => ?_)
  · skip
    rw [nI_leI (by omega) (by omega)] at c_2
    refine lv_aload_n (pc := 12) hx hb dX9_counter_12 rfl (lv_at hl 0 rfl) ?_
    refine lv_iload_n (pc := 13) hx hb dX9_counter_13 rfl (lv_at hl 1 rfl) ?_
    refine va_put (pc := 14) (D := D) (ci := 7) (v := .int (nI n)) (ty := .int) (C := RX9) (T := TX9) (N := 11) hx hb hts iu9 tyX9 tyX9_ok nmX9 hown hK hP hD hS 0 rfl rfl 10 (by decide) (hts _ tw_362) (fun _ h9 => h9) rfl (by decide +kernel) rfl rfl (Nat.le_of_ble_eq_true rfl) dX9_counter_14 (fun H locs hP hD hS => ?_)
    have hP : va_P D vwCl [(lg 0, oG lg ya yb wa wb o v n)] H := hP
    have hD : va_D A [(lg 0, oG lg ya yb wa wb o v n)] := hD
    refine lv_iconst (pc := 17) (v := nI 1) hx hb dX9_counter_17 (by decide +kernel) ?_
    have hq_3 : True := trivial
    exact hret () _ _ _ _ dX9_counter_18 hq_3 (hP.sub [0] rfl) (hD.sub [0] (by decide) rfl) hS
  · skip
    rw [nI_leI (by omega) (by omega)] at c_2
    exfalso; omega
set_option maxHeartbeats 4000000 in
set_option maxRecDepth 100000 in
theorem ct_X9_counter_no (ll : Launch) (D : va_G) (ta : Nat → ClassId) (gs : Nat → Nat) (lg : Nat → Nat) (ya : Nat → Nat) (yb : Nat → Nat) (wa : Nat → Nat) (wb : Nat → Nat) (o : Nat → Nat) (v : Nat → Nat) (ct : Nat) (i : Int32) (hi : ¬ (0 ≤ i.toInt ∧ i.toInt ≤ 16777215)) (sz : Nat) : CT ll yX9_counter cX9_counter 2 (some .int) ({ frames := 0, cells := 0, slots := 0, locals := 0 } : Room) D ta ((GC gs)) [.ref (lg 0), .int i] [(lg 0, oG lg ya yb wa wb o v ct)] sz (S := Int32) (fun u => some (.int u)) (fun u => ((u : Int32) = -1)) (fun u => [(lg 0, oG lg ya yb wa wb o v ct)]) 0 0 := by
  refine CT.of_i (r := fun u => u) rfl (by decide) (Nat.le_of_ble_eq_true rfl) ?_
  have hGok := GC_ok gs
  intro pp ee ss mm below meth kc A Q hx hb hml hown hin hts hK hA hsz hG hret H locs hP hD hS ls hl
  have hl : lv_has ls 2 [(0, .ref (lg 0)), (1, .int i)] := hl
  refine lv_iload_n (pc := 0) hx hb dX9_counter_0 rfl (lv_at hl 1 rfl) ?_
  refine lv_if_lt (pc := 1) (tgt := 10) hx hb dX9_counter_1 (by decide) (fun c_1 => ?_) (fun c_1 => ?_)
  · skip
    have hc0 := c_1
    refine lv_iconst (pc := 10) (v := (-1)) hx hb dX9_counter_10 (by decide +kernel) ?_
    refine q_top (y := (-1)) (by first | rfl | decide +kernel | (simp; done)) ?_
    have hq_2 : (((-1) : Int32) = -1) := by
      first | rfl | trivial | (refine ⟨?_, ?_⟩ <;> rfl) | (simp; done) | omega
    exact hret (-1) _ _ _ _ dX9_counter_11 hq_2 (hP.sub [0] rfl) (hD.sub [0] (by decide) rfl) hS
  · skip
    have hc0 := c_1
    refine lv_iload_n (pc := 4) hx hb dX9_counter_4 rfl (lv_at hl 1 rfl) ?_
    refine lv_ldc (pc := 5) (v := (nI 16777215)) hx hb hown (q_at (hts _ tw_481) (by decide +kernel)) dX9_counter_5 ?_
    refine lv_icmp_le (pc := 7) (tgt := 12) hx hb dX9_counter_7 (by decide) (fun c_3 => ?_) (fun c_3 => ?_)
    · skip
      have hc1 := c_3
      exact absurd (ct_ok hc0 hc1) hi
    · skip
      have hc1 := c_3
      refine lv_iconst (pc := 10) (v := (-1)) hx hb dX9_counter_10 (by decide +kernel) ?_
      refine q_top (y := (-1)) (by first | rfl | decide +kernel | (simp; done)) ?_
      have hq_4 : (((-1) : Int32) = -1) := by
        first | rfl | trivial | (refine ⟨?_, ?_⟩ <;> rfl) | (simp; done) | omega
      exact hret (-1) _ _ _ _ dX9_counter_11 hq_4 (hP.sub [0] rfl) (hD.sub [0] (by decide) rfl) hS
theorem hdX9_keys : yX9_keys.cls ≠ "java/lang/invoke/MethodHandle" ∧ yX9_keys.cls ≠ "java/lang/invoke/VarHandle" ∧ (parseMethodDescriptor yX9_keys.desc).map (fun d => d.parameters.length) = some 2 := ⟨by decide +kernel, by decide +kernel, by decide +kernel⟩
theorem dX9_keys_0 : decode cX9_keys 0 = .ok (.aload_n 0, 1) := by decide +kernel
theorem dX9_keys_1 : decode cX9_keys 1 = .ok (.iload_n 1, 1) := by decide +kernel
theorem dX9_keys_2 : decode cX9_keys 2 = .ok (.invokevirtual 91, 3) := by decide +kernel
theorem dX9_keys_5 : decode cX9_keys 5 = .ok (.astore_n 3, 1) := by decide +kernel
theorem dX9_keys_6 : decode cX9_keys 6 = .ok (.aload_n 3, 1) := by decide +kernel
theorem dX9_keys_7 : decode cX9_keys 7 = .ok (.ifnull 19, 3) := by decide +kernel
theorem dX9_keys_10 : decode cX9_keys 10 = .ok (.aload_n 3, 1) := by decide +kernel
theorem dX9_keys_11 : decode cX9_keys 11 = .ok (.iload_n 2, 1) := by decide +kernel
theorem dX9_keys_12 : decode cX9_keys 12 = .ok (.aload_n 0, 1) := by decide +kernel
theorem dX9_keys_13 : decode cX9_keys 13 = .ok (.getfield 14, 3) := by decide +kernel
theorem dX9_keys_16 : decode cX9_keys 16 = .ok (.invokevirtual 95, 3) := by decide +kernel
theorem dX9_keys_19 : decode cX9_keys 19 = .ok (.ifCond .eq 7, 3) := by decide +kernel
theorem dX9_keys_22 : decode cX9_keys 22 = .ok (.iconst 1, 1) := by decide +kernel
theorem dX9_keys_23 : decode cX9_keys 23 = .ok (.goto 4, 3) := by decide +kernel
theorem dX9_keys_26 : decode cX9_keys 26 = .ok (.iconst 0, 1) := by decide +kernel
theorem dX9_keys_27 : decode cX9_keys 27 = .ok (.istore 4, 2) := by decide +kernel
theorem dX9_keys_29 : decode cX9_keys 29 = .ok (.aload_n 0, 1) := by decide +kernel
theorem dX9_keys_30 : decode cX9_keys 30 = .ok (.getfield 14, 3) := by decide +kernel
theorem dX9_keys_33 : decode cX9_keys 33 = .ok (.invokevirtual 88, 3) := by decide +kernel
theorem dX9_keys_36 : decode cX9_keys 36 = .ok (.iload 4, 2) := by decide +kernel
theorem dX9_keys_38 : decode cX9_keys 38 = .ok (.ifCond .ne 5, 3) := by decide +kernel
theorem dX9_keys_41 : decode cX9_keys 41 = .ok (.iconst (-1), 1) := by decide +kernel
theorem dX9_keys_42 : decode cX9_keys 42 = .ok (.ireturn, 1) := by decide +kernel
theorem dX9_keys_43 : decode cX9_keys 43 = .ok (.aload_n 0, 1) := by decide +kernel
theorem dX9_keys_44 : decode cX9_keys 44 = .ok (.invokevirtual 99, 3) := by decide +kernel
theorem dX9_keys_47 : decode cX9_keys 47 = .ok (.iconst 1, 1) := by decide +kernel
theorem dX9_keys_48 : decode cX9_keys 48 = .ok (.ireturn, 1) := by decide +kernel
set_option maxHeartbeats 4000000 in
set_option maxRecDepth 100000 in
theorem ct_X9_keys_no (ll : Launch) (D : va_G) (ta : Nat → ClassId) (gs : Nat → Nat) (lg : Nat → Nat) (ya : Nat → Nat) (yb : Nat → Nat) (wa : Nat → Nat) (wb : Nat → Nat) (o : Nat → Nat) (v : Nat → Nat) (ct : Nat) (gta : Nat → BitVec 8) (nta : Nat) (rua : Nat) (lna : Nat) (rub : Nat) (lnb : Nat) (s9 : Int32) (r9 : Int32) (hta : nta ≤ 400) (hno : (s9 = nI 0 ∨ s9 = nI 1) → keyB r9 nta = false) (sz : Nat) : CT ll yX9_keys cX9_keys 5 (some .int) ({ frames := 4, cells := 0, slots := 0, locals := 92 } : Room) D ta ((GC gs)) [.ref (lg 0), .int s9, .int r9] [(lg 0, oG lg ya yb wa wb o v ct), (ya 0, oK ya rua lna), (yb 0, oK yb rub lnb), (lg 1, oR (lg 2) nta), (lg 2, aZ ta 400 gta)] sz (S := Int32) (fun u => some (.int u)) (fun u => ((u : Int32) = -1)) (fun u => [(lg 0, oG lg ya yb wa wb o v ct), (ya 0, oK ya rua lna), (yb 0, oK yb rub lnb), (lg 1, oR (lg 2) 0), (lg 2, aZ ta 400 gta)]) 0 0 := by
  refine CT.of_i (r := fun u => u) rfl (by decide) (Nat.le_of_ble_eq_true rfl) ?_
  have hGok := GC_ok gs
  intro pp ee ss mm below meth kc A Q hx hb hml hown hin hts hK hA hsz hG hret H locs hP hD hS ls hl
  have hl : lv_has ls 5 [(0, .ref (lg 0)), (1, .int s9), (2, .int r9)] := hl
  refine lv_aload_n (pc := 0) hx hb dX9_keys_0 rfl (lv_at hl 0 rfl) ?_
  refine lv_iload_n (pc := 1) hx hb dX9_keys_1 rfl (lv_at hl 1 rfl) ?_
  by_cases h0 : s9 = nI 0
  · skip
    have hk9 := hno (Or.inl h0)
    subst h0
    refine cs_V (pc := 2) (idx := 91) (n := 1) (wr := [(ya 0, oK ya rua lna), (yb 0, oK yb rub lnb), (lg 1, oR (lg 2) nta), (lg 2, aZ ta 400 gta)]) (As := [.int (nI 0)]) (rest := []) (ci := 7) hx hb hml hown hts hGok hK hA hG hl.1 hP hD hS (ct_X9_keysOf_0 ll D ta hGok lg ya yb wa wb o v ct  H.size) tw_455 tw_452 tw_454 tw_0 tw_65 hdX9_keysOf rfl ⟨rfl, rfl, Nat.le_of_ble_eq_true rfl, Nat.le_of_ble_eq_true rfl, Nat.le_of_ble_eq_true rfl, Nat.le_of_ble_eq_true rfl⟩ rfl rfl (q0 := 0) rfl [0] [1, 2, 3, 4] rfl rfl (by decide) rfl (Nat.le_of_ble_eq_true rfl) dX9_keys_2 (fun u H locs hq hP hD hS => ?_)
    refine W.eq (g2 := F0 mm 5 ls [.ref (ya 0)]) rfl ?_
    have hP : va_P D vwCl [(ya 0, oK ya rua lna), (yb 0, oK yb rub lnb), (lg 1, oR (lg 2) nta), (lg 2, aZ ta 400 gta), (lg 0, oG lg ya yb wa wb o v ct)] H := hP
    have hD : va_D A [(ya 0, oK ya rua lna), (yb 0, oK yb rub lnb), (lg 1, oR (lg 2) nta), (lg 2, aZ ta 400 gta), (lg 0, oG lg ya yb wa wb o v ct)] := hD
    refine lv_astore_n (pc := 5) (lv' := [(3, .ref (ya 0)), (0, .ref (lg 0)), (1, .int (nI 0)), (2, .int r9)]) hx hb dX9_keys_5 rfl hl (by decide) rfl (fun ls hl => ?_)
    refine lv_aload_n (pc := 6) hx hb dX9_keys_6 rfl (lv_at hl 0 rfl) ?_
    refine lv_ifnull (pc := 7) hx hb dX9_keys_7 ?_
    refine lv_aload_n (pc := 10) hx hb dX9_keys_10 rfl (lv_at hl 0 rfl) ?_
    refine lv_iload_n (pc := 11) hx hb dX9_keys_11 rfl (lv_at hl 3 rfl) ?_
    refine lv_aload_n (pc := 12) hx hb dX9_keys_12 rfl (lv_at hl 1 rfl) ?_
    refine va_get (pc := 13) (D := D) (ci := 7) (v := .ref (lg 1)) (C := RX9) (T := TX9) (N := 11) hx hb hts iu9 hown hK hP 4 rfl rfl 0 (by decide) (hts _ tw_352) (fun _ h9 => h9) rfl dX9_keys_13 ?_
    refine cs_V (pc := 16) (idx := 95) (n := 2) (wr := [(yb 0, oK yb rub lnb), (lg 0, oG lg ya yb wa wb o v ct)]) (As := [.int r9, .ref (lg 1)]) (rest := []) (ci := 2) hx hb hml hown hts hGok hK hA hG hl.1 hP hD hS (ct_X3_tell_no ll D ta gs ya rua lna (lg 1) (lg 2) gta nta r9 (by first | assumption | omega | rfl | decide) (by first | assumption | omega | rfl | decide) H.size) tw_459 tw_456 tw_457 tw_458 tw_67 hdX3_tell rfl ⟨rfl, rfl, Nat.le_of_ble_eq_true rfl, Nat.le_of_ble_eq_true rfl, Nat.le_of_ble_eq_true rfl, Nat.le_of_ble_eq_true rfl⟩ rfl rfl (q0 := 0) rfl [0, 2, 3] [1, 4] rfl rfl (by decide) rfl (Nat.le_of_ble_eq_true rfl) dX9_keys_16 (fun u H locs hq hP hD hS => ?_)
    generalize u = z_16 at hq hP hD ⊢
    have hq : (z_16 = false) := hq
    have hz_16 := hq
    refine W.eq (g2 := F0 mm 19 ls [.int (qb z_16)]) rfl ?_
    have hP : va_P D vwCl [(yb 0, oK yb rub lnb), (lg 0, oG lg ya yb wa wb o v ct), (ya 0, oK ya rua lna), (lg 1, oR (lg 2) nta), (lg 2, aZ ta 400 gta)] H := hP
    have hD : va_D A [(yb 0, oK yb rub lnb), (lg 0, oG lg ya yb wa wb o v ct), (ya 0, oK ya rua lna), (lg 1, oR (lg 2) nta), (lg 2, aZ ta 400 gta)] := hD
    refine lv_if_eq (pc := 19) (tgt := 26) hx hb dX9_keys_19 (by decide) (fun c_1 => ?_) (fun c_1 => ?_)
    · skip
      rw [q_beq] at c_1
      try rw [Bool.not_eq_false] at c_1
      refine lv_iconst (pc := 26) (v := nI 0) hx hb dX9_keys_26 (by decide +kernel) ?_
      refine lv_istore (pc := 27) (lv' := [(4, .int (nI 0)), (3, .ref (ya 0)), (0, .ref (lg 0)), (1, .int (nI 0)), (2, .int r9)]) hx hb dX9_keys_27 hl (by decide) rfl (fun ls hl => ?_)
      refine lv_aload_n (pc := 29) hx hb dX9_keys_29 rfl (lv_at hl 2 rfl) ?_
      refine va_get (pc := 30) (D := D) (ci := 7) (v := .ref (lg 1)) (C := RX9) (T := TX9) (N := 11) hx hb hts iu9 hown hK hP 1 rfl rfl 0 (by decide) (hts _ tw_352) (fun _ h9 => h9) rfl dX9_keys_30 ?_
      refine cs_V (pc := 33) (idx := 88) (n := 0) (wr := [(yb 0, oK yb rub lnb), (lg 0, oG lg ya yb wa wb o v ct), (ya 0, oK ya rua lna)]) (As := []) (rest := []) (ci := 5) hx hb hml hown hts hGok hK hA hG hl.1 hP hD hS (ct_X6_clear ll D ta hGok (lg 1) (lg 2) 400 gta nta  H.size) tw_441 tw_447 tw_439 tw_440 tw_66 hdX6_clear rfl ⟨rfl, rfl, Nat.le_of_ble_eq_true rfl, Nat.le_of_ble_eq_true rfl, Nat.le_of_ble_eq_true rfl, Nat.le_of_ble_eq_true rfl⟩ rfl rfl (q0 := 3) rfl [3, 4] [0, 1, 2] rfl rfl (by decide) rfl (Nat.le_of_ble_eq_true rfl) dX9_keys_33 (fun u H locs hq hP hD hS => ?_)
      refine W.eq (g2 := F0 mm 36 ls []) rfl ?_
      have hP : va_P D vwCl [(yb 0, oK yb rub lnb), (lg 0, oG lg ya yb wa wb o v ct), (ya 0, oK ya rua lna), (lg 1, oR (lg 2) 0), (lg 2, aZ ta 400 gta)] H := hP
      have hD : va_D A [(yb 0, oK yb rub lnb), (lg 0, oG lg ya yb wa wb o v ct), (ya 0, oK ya rua lna), (lg 1, oR (lg 2) 0), (lg 2, aZ ta 400 gta)] := hD
      refine lv_iload (pc := 36) hx hb dX9_keys_36 (lv_at hl 0 rfl) ?_
      refine lv_if_ne (pc := 38) (tgt := 43) hx hb dX9_keys_38 (by decide) (fun c_2 => absurd (by decide) c_2) (fun _ => ?_)
      refine lv_iconst (pc := 41) (v := (-1)) hx hb dX9_keys_41 (by decide +kernel) ?_
      refine q_top (y := (-1)) (by first | rfl | decide +kernel | (simp; done)) ?_
      have hq_3 : (((-1) : Int32) = -1) := by
        first | rfl | trivial | (refine ⟨?_, ?_⟩ <;> rfl) | (simp; done) | omega
      exact hret (-1) _ _ _ _ dX9_keys_42 hq_3 (hP.sub [1, 2, 0, 3, 4] rfl) (hD.sub [1, 2, 0, 3, 4] (by decide) rfl) hS
    · skip
      rw [q_beq] at c_1
      try rw [Bool.not_eq_false] at c_1
      rw [hz_16] at c_1; cases c_1
  · skip
    by_cases h1 : s9 = nI 1
    · skip
      have hk9 := hno (Or.inr h1)
      subst h1
      refine cs_V (pc := 2) (idx := 91) (n := 1) (wr := [(ya 0, oK ya rua lna), (yb 0, oK yb rub lnb), (lg 1, oR (lg 2) nta), (lg 2, aZ ta 400 gta)]) (As := [.int (nI 1)]) (rest := []) (ci := 7) hx hb hml hown hts hGok hK hA hG hl.1 hP hD hS (ct_X9_keysOf_1 ll D ta hGok lg ya yb wa wb o v ct  H.size) tw_455 tw_452 tw_454 tw_0 tw_65 hdX9_keysOf rfl ⟨rfl, rfl, Nat.le_of_ble_eq_true rfl, Nat.le_of_ble_eq_true rfl, Nat.le_of_ble_eq_true rfl, Nat.le_of_ble_eq_true rfl⟩ rfl rfl (q0 := 0) rfl [0] [1, 2, 3, 4] rfl rfl (by decide) rfl (Nat.le_of_ble_eq_true rfl) dX9_keys_2 (fun u H locs hq hP hD hS => ?_)
      refine W.eq (g2 := F0 mm 5 ls [.ref (yb 0)]) rfl ?_
      have hP : va_P D vwCl [(ya 0, oK ya rua lna), (yb 0, oK yb rub lnb), (lg 1, oR (lg 2) nta), (lg 2, aZ ta 400 gta), (lg 0, oG lg ya yb wa wb o v ct)] H := hP
      have hD : va_D A [(ya 0, oK ya rua lna), (yb 0, oK yb rub lnb), (lg 1, oR (lg 2) nta), (lg 2, aZ ta 400 gta), (lg 0, oG lg ya yb wa wb o v ct)] := hD
      refine lv_astore_n (pc := 5) (lv' := [(3, .ref (yb 0)), (0, .ref (lg 0)), (1, .int (nI 1)), (2, .int r9)]) hx hb dX9_keys_5 rfl hl (by decide) rfl (fun ls hl => ?_)
      refine lv_aload_n (pc := 6) hx hb dX9_keys_6 rfl (lv_at hl 0 rfl) ?_
      refine lv_ifnull (pc := 7) hx hb dX9_keys_7 ?_
      refine lv_aload_n (pc := 10) hx hb dX9_keys_10 rfl (lv_at hl 0 rfl) ?_
      refine lv_iload_n (pc := 11) hx hb dX9_keys_11 rfl (lv_at hl 3 rfl) ?_
      refine lv_aload_n (pc := 12) hx hb dX9_keys_12 rfl (lv_at hl 1 rfl) ?_
      refine va_get (pc := 13) (D := D) (ci := 7) (v := .ref (lg 1)) (C := RX9) (T := TX9) (N := 11) hx hb hts iu9 hown hK hP 4 rfl rfl 0 (by decide) (hts _ tw_352) (fun _ h9 => h9) rfl dX9_keys_13 ?_
      refine cs_V (pc := 16) (idx := 95) (n := 2) (wr := [(ya 0, oK ya rua lna), (lg 0, oG lg ya yb wa wb o v ct)]) (As := [.int r9, .ref (lg 1)]) (rest := []) (ci := 2) hx hb hml hown hts hGok hK hA hG hl.1 hP hD hS (ct_X3_tell_no ll D ta gs yb rub lnb (lg 1) (lg 2) gta nta r9 (by first | assumption | omega | rfl | decide) (by first | assumption | omega | rfl | decide) H.size) tw_459 tw_456 tw_457 tw_458 tw_67 hdX3_tell rfl ⟨rfl, rfl, Nat.le_of_ble_eq_true rfl, Nat.le_of_ble_eq_true rfl, Nat.le_of_ble_eq_true rfl, Nat.le_of_ble_eq_true rfl⟩ rfl rfl (q0 := 1) rfl [1, 2, 3] [0, 4] rfl rfl (by decide) rfl (Nat.le_of_ble_eq_true rfl) dX9_keys_16 (fun u H locs hq hP hD hS => ?_)
      generalize u = z_16 at hq hP hD ⊢
      have hq : (z_16 = false) := hq
      have hz_16 := hq
      refine W.eq (g2 := F0 mm 19 ls [.int (qb z_16)]) rfl ?_
      have hP : va_P D vwCl [(ya 0, oK ya rua lna), (lg 0, oG lg ya yb wa wb o v ct), (yb 0, oK yb rub lnb), (lg 1, oR (lg 2) nta), (lg 2, aZ ta 400 gta)] H := hP
      have hD : va_D A [(ya 0, oK ya rua lna), (lg 0, oG lg ya yb wa wb o v ct), (yb 0, oK yb rub lnb), (lg 1, oR (lg 2) nta), (lg 2, aZ ta 400 gta)] := hD
      refine lv_if_eq (pc := 19) (tgt := 26) hx hb dX9_keys_19 (by decide) (fun c_4 => ?_) (fun c_4 => ?_)
      · skip
        rw [q_beq] at c_4
        try rw [Bool.not_eq_false] at c_4
        refine lv_iconst (pc := 26) (v := nI 0) hx hb dX9_keys_26 (by decide +kernel) ?_
        refine lv_istore (pc := 27) (lv' := [(4, .int (nI 0)), (3, .ref (yb 0)), (0, .ref (lg 0)), (1, .int (nI 1)), (2, .int r9)]) hx hb dX9_keys_27 hl (by decide) rfl (fun ls hl => ?_)
        refine lv_aload_n (pc := 29) hx hb dX9_keys_29 rfl (lv_at hl 2 rfl) ?_
        refine va_get (pc := 30) (D := D) (ci := 7) (v := .ref (lg 1)) (C := RX9) (T := TX9) (N := 11) hx hb hts iu9 hown hK hP 1 rfl rfl 0 (by decide) (hts _ tw_352) (fun _ h9 => h9) rfl dX9_keys_30 ?_
        refine cs_V (pc := 33) (idx := 88) (n := 0) (wr := [(ya 0, oK ya rua lna), (lg 0, oG lg ya yb wa wb o v ct), (yb 0, oK yb rub lnb)]) (As := []) (rest := []) (ci := 5) hx hb hml hown hts hGok hK hA hG hl.1 hP hD hS (ct_X6_clear ll D ta hGok (lg 1) (lg 2) 400 gta nta  H.size) tw_441 tw_447 tw_439 tw_440 tw_66 hdX6_clear rfl ⟨rfl, rfl, Nat.le_of_ble_eq_true rfl, Nat.le_of_ble_eq_true rfl, Nat.le_of_ble_eq_true rfl, Nat.le_of_ble_eq_true rfl⟩ rfl rfl (q0 := 3) rfl [3, 4] [0, 1, 2] rfl rfl (by decide) rfl (Nat.le_of_ble_eq_true rfl) dX9_keys_33 (fun u H locs hq hP hD hS => ?_)
        refine W.eq (g2 := F0 mm 36 ls []) rfl ?_
        have hP : va_P D vwCl [(ya 0, oK ya rua lna), (lg 0, oG lg ya yb wa wb o v ct), (yb 0, oK yb rub lnb), (lg 1, oR (lg 2) 0), (lg 2, aZ ta 400 gta)] H := hP
        have hD : va_D A [(ya 0, oK ya rua lna), (lg 0, oG lg ya yb wa wb o v ct), (yb 0, oK yb rub lnb), (lg 1, oR (lg 2) 0), (lg 2, aZ ta 400 gta)] := hD
        refine lv_iload (pc := 36) hx hb dX9_keys_36 (lv_at hl 0 rfl) ?_
        refine lv_if_ne (pc := 38) (tgt := 43) hx hb dX9_keys_38 (by decide) (fun c_5 => absurd (by decide) c_5) (fun _ => ?_)
        refine lv_iconst (pc := 41) (v := (-1)) hx hb dX9_keys_41 (by decide +kernel) ?_
        refine q_top (y := (-1)) (by first | rfl | decide +kernel | (simp; done)) ?_
        have hq_6 : (((-1) : Int32) = -1) := by
          first | rfl | trivial | (refine ⟨?_, ?_⟩ <;> rfl) | (simp; done) | omega
        exact hret (-1) _ _ _ _ dX9_keys_42 hq_6 (hP.sub [1, 0, 2, 3, 4] rfl) (hD.sub [1, 0, 2, 3, 4] (by decide) rfl) hS
      · skip
        rw [q_beq] at c_4
        try rw [Bool.not_eq_false] at c_4
        rw [hz_16] at c_4; cases c_4
    · skip
      refine cs_V (pc := 2) (idx := 91) (n := 1) (wr := [(ya 0, oK ya rua lna), (yb 0, oK yb rub lnb), (lg 1, oR (lg 2) nta), (lg 2, aZ ta 400 gta)]) (As := [.int s9]) (rest := []) (ci := 7) hx hb hml hown hts hGok hK hA hG hl.1 hP hD hS (ct_X9_keysOf_no ll D ta hGok lg ya yb wa wb o v ct s9 (by first | assumption | omega | rfl | decide) (by first | assumption | omega | rfl | decide) H.size) tw_455 tw_452 tw_454 tw_0 tw_65 hdX9_keysOf rfl ⟨rfl, rfl, Nat.le_of_ble_eq_true rfl, Nat.le_of_ble_eq_true rfl, Nat.le_of_ble_eq_true rfl, Nat.le_of_ble_eq_true rfl⟩ rfl rfl (q0 := 0) rfl [0] [1, 2, 3, 4] rfl rfl (by decide) rfl (Nat.le_of_ble_eq_true rfl) dX9_keys_2 (fun u H locs hq hP hD hS => ?_)
      refine W.eq (g2 := F0 mm 5 ls [.null]) rfl ?_
      have hP : va_P D vwCl [(ya 0, oK ya rua lna), (yb 0, oK yb rub lnb), (lg 1, oR (lg 2) nta), (lg 2, aZ ta 400 gta), (lg 0, oG lg ya yb wa wb o v ct)] H := hP
      have hD : va_D A [(ya 0, oK ya rua lna), (yb 0, oK yb rub lnb), (lg 1, oR (lg 2) nta), (lg 2, aZ ta 400 gta), (lg 0, oG lg ya yb wa wb o v ct)] := hD
      refine lv_astore_nN (pc := 5) (lv' := [(3, .null), (0, .ref (lg 0)), (1, .int s9), (2, .int r9)]) hx hb dX9_keys_5 rfl hl (by decide) rfl (fun ls hl => ?_)
      refine lv_aload_nN (pc := 6) hx hb dX9_keys_6 rfl (lv_at hl 0 rfl) ?_
      refine lv_ifnullN (pc := 7) (tgt := 26) hx hb dX9_keys_7 (by decide) ?_
      refine lv_iconst (pc := 26) (v := nI 0) hx hb dX9_keys_26 (by decide +kernel) ?_
      refine lv_istore (pc := 27) (lv' := [(4, .int (nI 0)), (3, .null), (0, .ref (lg 0)), (1, .int s9), (2, .int r9)]) hx hb dX9_keys_27 hl (by decide) rfl (fun ls hl => ?_)
      refine lv_aload_n (pc := 29) hx hb dX9_keys_29 rfl (lv_at hl 2 rfl) ?_
      refine va_get (pc := 30) (D := D) (ci := 7) (v := .ref (lg 1)) (C := RX9) (T := TX9) (N := 11) hx hb hts iu9 hown hK hP 4 rfl rfl 0 (by decide) (hts _ tw_352) (fun _ h9 => h9) rfl dX9_keys_30 ?_
      refine cs_V (pc := 33) (idx := 88) (n := 0) (wr := [(ya 0, oK ya rua lna), (yb 0, oK yb rub lnb), (lg 0, oG lg ya yb wa wb o v ct)]) (As := []) (rest := []) (ci := 5) hx hb hml hown hts hGok hK hA hG hl.1 hP hD hS (ct_X6_clear ll D ta hGok (lg 1) (lg 2) 400 gta nta  H.size) tw_441 tw_447 tw_439 tw_440 tw_66 hdX6_clear rfl ⟨rfl, rfl, Nat.le_of_ble_eq_true rfl, Nat.le_of_ble_eq_true rfl, Nat.le_of_ble_eq_true rfl, Nat.le_of_ble_eq_true rfl⟩ rfl rfl (q0 := 2) rfl [2, 3] [0, 1, 4] rfl rfl (by decide) rfl (Nat.le_of_ble_eq_true rfl) dX9_keys_33 (fun u H locs hq hP hD hS => ?_)
      refine W.eq (g2 := F0 mm 36 ls []) rfl ?_
      have hP : va_P D vwCl [(ya 0, oK ya rua lna), (yb 0, oK yb rub lnb), (lg 0, oG lg ya yb wa wb o v ct), (lg 1, oR (lg 2) 0), (lg 2, aZ ta 400 gta)] H := hP
      have hD : va_D A [(ya 0, oK ya rua lna), (yb 0, oK yb rub lnb), (lg 0, oG lg ya yb wa wb o v ct), (lg 1, oR (lg 2) 0), (lg 2, aZ ta 400 gta)] := hD
      refine lv_iload (pc := 36) hx hb dX9_keys_36 (lv_at hl 0 rfl) ?_
      refine lv_if_ne (pc := 38) (tgt := 43) hx hb dX9_keys_38 (by decide) (fun c_7 => absurd (by decide) c_7) (fun _ => ?_)
      refine lv_iconst (pc := 41) (v := (-1)) hx hb dX9_keys_41 (by decide +kernel) ?_
      refine q_top (y := (-1)) (by first | rfl | decide +kernel | (simp; done)) ?_
      have hq_8 : (((-1) : Int32) = -1) := by
        first | rfl | trivial | (refine ⟨?_, ?_⟩ <;> rfl) | (simp; done) | omega
      exact hret (-1) _ _ _ _ dX9_keys_42 hq_8 (hP.sub [2, 0, 1, 3, 4] rfl) (hD.sub [2, 0, 1, 3, 4] (by decide) rfl) hS
set_option maxHeartbeats 4000000 in
set_option maxRecDepth 100000 in
theorem ct_X9_keys_0 (ll : Launch) (D : va_G) (ta : Nat → ClassId) (gs : Nat → Nat) (lg : Nat → Nat) (ya : Nat → Nat) (yb : Nat → Nat) (wa : Nat → Nat) (wb : Nat → Nat) (o : Nat → Nat) (v : Nat → Nat) (ct : Nat) (gta : Nat → BitVec 8) (nta : Nat) (gl : Nat → BitVec 8) (nl : Nat) (sta : Nat) (lva : Nat) (cna : Nat) (cma : Bool) (stb : Nat) (lvb : Nat) (cnb : Nat) (cmb : Bool) (ru : Nat) (ln : Nat) (ge : Nat → BitVec 8) (n1 : Nat) (gm : Nat → BitVec 8) (n3 : Nat) (gse : Nat → BitVec 8) (n5 : Nat) (ρ : Nat) (m : Nat) (hnt : nta = 3 * m) (hρ : (ρ = 2 ∧ m = 16) ∨ (ρ = 3 ∧ (m = 16 ∨ m = 24 ∨ m = 32))) (sz : Nat) : CT ll yX9_keys cX9_keys 5 (some .int) ({ frames := 4, cells := 0, slots := 0, locals := 92 } : Room) D ta ((GC gs)) [.ref (lg 0), .int (nI 0), .int (nI ρ)] [(lg 0, oG lg ya yb wa wb o v ct), (wa 0, oW wa sta lva cna cma), (wb 0, oW wb stb lvb cnb cmb), (ya 0, oK ya ru ln), (ya 1, oR (ya 2) n1), (ya 2, aZ ta 32 ge), (ya 3, oR (ya 4) n3), (ya 4, aZ ta 32 gm), (ya 5, oR (ya 6) n5), (ya 6, aZ ta 32 gse), (lg 1, oR (lg 2) nta), (lg 2, aZ ta 400 gta), (lg 5, oR (lg 6) nl), (lg 6, aZ ta 300 gl)] sz (S := (Nat → BitVec 8) × (Nat → BitVec 8) × (Nat → BitVec 8)) (fun u => some (.int (nI 1))) (fun u => (qL u.1 m = (qL gta nta).take m) ∧ (qL u.2.1 m = ((qL gta nta).take (2 * m)).drop m) ∧ (qL u.2.2 m = ((qL gta nta).take (3 * m)).drop (2 * m))) (fun u => [(lg 0, oG lg ya yb wa wb o v ct), (wa 0, oW wa 0 0 cna cma), (wb 0, oW wb 0 0 cnb cmb), (ya 0, oK ya ρ m), (ya 1, oR (ya 2) m), (ya 2, aZ ta 32 u.1), (ya 3, oR (ya 4) m), (ya 4, aZ ta 32 u.2.1), (ya 5, oR (ya 6) m), (ya 6, aZ ta 32 u.2.2), (lg 1, oR (lg 2) 0), (lg 2, aZ ta 400 gta), (lg 5, oR (lg 6) 0), (lg 6, aZ ta 300 gl)]) 0 0 := by
  refine CT.of_i (r := fun u => nI 1) rfl (by decide) (Nat.le_of_ble_eq_true rfl) ?_
  have hGok := GC_ok gs
  intro pp ee ss mm below meth kc A Q hx hb hml hown hin hts hK hA hsz hG hret H locs hP hD hS ls hl
  have hl : lv_has ls 5 [(0, .ref (lg 0)), (1, .int (nI 0)), (2, .int (nI ρ))] := hl
  refine lv_aload_n (pc := 0) hx hb dX9_keys_0 rfl (lv_at hl 0 rfl) ?_
  refine lv_iload_n (pc := 1) hx hb dX9_keys_1 rfl (lv_at hl 1 rfl) ?_
  refine cs_V (pc := 2) (idx := 91) (n := 1) (wr := [(wa 0, oW wa sta lva cna cma), (wb 0, oW wb stb lvb cnb cmb), (ya 0, oK ya ru ln), (ya 1, oR (ya 2) n1), (ya 2, aZ ta 32 ge), (ya 3, oR (ya 4) n3), (ya 4, aZ ta 32 gm), (ya 5, oR (ya 6) n5), (ya 6, aZ ta 32 gse), (lg 1, oR (lg 2) nta), (lg 2, aZ ta 400 gta), (lg 5, oR (lg 6) nl), (lg 6, aZ ta 300 gl)]) (As := [.int (nI 0)]) (rest := []) (ci := 7) hx hb hml hown hts hGok hK hA hG hl.1 hP hD hS (ct_X9_keysOf_0 ll D ta hGok lg ya yb wa wb o v ct  H.size) tw_455 tw_452 tw_454 tw_0 tw_65 hdX9_keysOf rfl ⟨rfl, rfl, Nat.le_of_ble_eq_true rfl, Nat.le_of_ble_eq_true rfl, Nat.le_of_ble_eq_true rfl, Nat.le_of_ble_eq_true rfl⟩ rfl rfl (q0 := 0) rfl [0] [1, 2, 3, 4, 5, 6, 7, 8, 9, 10, 11, 12, 13] rfl rfl (by decide) rfl (Nat.le_of_ble_eq_true rfl) dX9_keys_2 (fun u H locs hq hP hD hS => ?_)
  refine W.eq (g2 := F0 mm 5 ls [.ref (ya 0)]) rfl ?_
  have hP : va_P D vwCl [(wa 0, oW wa sta lva cna cma), (wb 0, oW wb stb lvb cnb cmb), (ya 0, oK ya ru ln), (ya 1, oR (ya 2) n1), (ya 2, aZ ta 32 ge), (ya 3, oR (ya 4) n3), (ya 4, aZ ta 32 gm), (ya 5, oR (ya 6) n5), (ya 6, aZ ta 32 gse), (lg 1, oR (lg 2) nta), (lg 2, aZ ta 400 gta), (lg 5, oR (lg 6) nl), (lg 6, aZ ta 300 gl), (lg 0, oG lg ya yb wa wb o v ct)] H := hP
  have hD : va_D A [(wa 0, oW wa sta lva cna cma), (wb 0, oW wb stb lvb cnb cmb), (ya 0, oK ya ru ln), (ya 1, oR (ya 2) n1), (ya 2, aZ ta 32 ge), (ya 3, oR (ya 4) n3), (ya 4, aZ ta 32 gm), (ya 5, oR (ya 6) n5), (ya 6, aZ ta 32 gse), (lg 1, oR (lg 2) nta), (lg 2, aZ ta 400 gta), (lg 5, oR (lg 6) nl), (lg 6, aZ ta 300 gl), (lg 0, oG lg ya yb wa wb o v ct)] := hD
  refine lv_astore_n (pc := 5) (lv' := [(3, .ref (ya 0)), (0, .ref (lg 0)), (1, .int (nI 0)), (2, .int (nI ρ))]) hx hb dX9_keys_5 rfl hl (by decide) rfl (fun ls hl => ?_)
  refine lv_aload_n (pc := 6) hx hb dX9_keys_6 rfl (lv_at hl 0 rfl) ?_
  refine lv_ifnull (pc := 7) hx hb dX9_keys_7 ?_
  refine lv_aload_n (pc := 10) hx hb dX9_keys_10 rfl (lv_at hl 0 rfl) ?_
  refine lv_iload_n (pc := 11) hx hb dX9_keys_11 rfl (lv_at hl 3 rfl) ?_
  refine lv_aload_n (pc := 12) hx hb dX9_keys_12 rfl (lv_at hl 1 rfl) ?_
  refine va_get (pc := 13) (D := D) (ci := 7) (v := .ref (lg 1)) (C := RX9) (T := TX9) (N := 11) hx hb hts iu9 hown hK hP 13 rfl rfl 0 (by decide) (hts _ tw_352) (fun _ h9 => h9) rfl dX9_keys_13 ?_
  refine cs_V (pc := 16) (idx := 95) (n := 2) (wr := [(wa 0, oW wa sta lva cna cma), (wb 0, oW wb stb lvb cnb cmb), (lg 5, oR (lg 6) nl), (lg 6, aZ ta 300 gl), (lg 0, oG lg ya yb wa wb o v ct)]) (As := [.int (nI ρ), .ref (lg 1)]) (rest := []) (ci := 2) hx hb hml hown hts hGok hK hA hG hl.1 hP hD hS (ct_X3_tell_yes ll D ta gs ya ru ln (lg 1) (lg 2) gta nta ge n1 gm n3 gse n5 ρ m (by first | assumption | omega | rfl | decide) (by first | assumption | omega | rfl | decide) H.size) tw_459 tw_456 tw_457 tw_458 tw_67 hdX3_tell rfl ⟨rfl, rfl, Nat.le_of_ble_eq_true rfl, Nat.le_of_ble_eq_true rfl, Nat.le_of_ble_eq_true rfl, Nat.le_of_ble_eq_true rfl⟩ rfl rfl (q0 := 2) rfl [2, 3, 4, 5, 6, 7, 8, 9, 10] [0, 1, 11, 12, 13] rfl rfl (by decide) rfl (Nat.le_of_ble_eq_true rfl) dX9_keys_16 (fun u H locs hq hP hD hS => ?_)
  obtain ⟨z_16, ge1_16, gm1_16, gse1_16⟩ := u
  have hq : (z_16 = true) ∧ (qL ge1_16 m = (qL gta nta).take m) ∧ (qL gm1_16 m = ((qL gta nta).take (2 * m)).drop m) ∧ (qL gse1_16 m = ((qL gta nta).take (3 * m)).drop (2 * m)) := hq
  obtain ⟨hz_16, hE_16, hM_16, hS9_16⟩ := hq
  refine W.eq (g2 := F0 mm 19 ls [.int (qb z_16)]) rfl ?_
  have hP : va_P D vwCl [(wa 0, oW wa sta lva cna cma), (wb 0, oW wb stb lvb cnb cmb), (lg 5, oR (lg 6) nl), (lg 6, aZ ta 300 gl), (lg 0, oG lg ya yb wa wb o v ct), (ya 0, oK ya ρ m), (ya 1, oR (ya 2) m), (ya 2, aZ ta 32 ge1_16), (ya 3, oR (ya 4) m), (ya 4, aZ ta 32 gm1_16), (ya 5, oR (ya 6) m), (ya 6, aZ ta 32 gse1_16), (lg 1, oR (lg 2) nta), (lg 2, aZ ta 400 gta)] H := hP
  have hD : va_D A [(wa 0, oW wa sta lva cna cma), (wb 0, oW wb stb lvb cnb cmb), (lg 5, oR (lg 6) nl), (lg 6, aZ ta 300 gl), (lg 0, oG lg ya yb wa wb o v ct), (ya 0, oK ya ρ m), (ya 1, oR (ya 2) m), (ya 2, aZ ta 32 ge1_16), (ya 3, oR (ya 4) m), (ya 4, aZ ta 32 gm1_16), (ya 5, oR (ya 6) m), (ya 6, aZ ta 32 gse1_16), (lg 1, oR (lg 2) nta), (lg 2, aZ ta 400 gta)] := hD
  refine lv_if_eq (pc := 19) (tgt := 26) hx hb dX9_keys_19 (by decide) (fun c_1 => ?_) (fun c_1 => ?_)
  · skip
    rw [q_beq] at c_1
    try rw [Bool.not_eq_false] at c_1
    rw [hz_16] at c_1; cases c_1
  · skip
    rw [q_beq] at c_1
    try rw [Bool.not_eq_false] at c_1
    refine lv_iconst (pc := 22) (v := nI 1) hx hb dX9_keys_22 (by decide +kernel) ?_
    refine lv_goto (pc := 23) (tgt := 27) hx hb dX9_keys_23 (by decide) ?_
    refine lv_istore (pc := 27) (lv' := [(4, .int (nI 1)), (3, .ref (ya 0)), (0, .ref (lg 0)), (1, .int (nI 0)), (2, .int (nI ρ))]) hx hb dX9_keys_27 hl (by decide) rfl (fun ls hl => ?_)
    refine lv_aload_n (pc := 29) hx hb dX9_keys_29 rfl (lv_at hl 2 rfl) ?_
    refine va_get (pc := 30) (D := D) (ci := 7) (v := .ref (lg 1)) (C := RX9) (T := TX9) (N := 11) hx hb hts iu9 hown hK hP 4 rfl rfl 0 (by decide) (hts _ tw_352) (fun _ h9 => h9) rfl dX9_keys_30 ?_
    refine cs_V (pc := 33) (idx := 88) (n := 0) (wr := [(wa 0, oW wa sta lva cna cma), (wb 0, oW wb stb lvb cnb cmb), (lg 5, oR (lg 6) nl), (lg 6, aZ ta 300 gl), (lg 0, oG lg ya yb wa wb o v ct), (ya 0, oK ya ρ m), (ya 1, oR (ya 2) m), (ya 2, aZ ta 32 ge1_16), (ya 3, oR (ya 4) m), (ya 4, aZ ta 32 gm1_16), (ya 5, oR (ya 6) m), (ya 6, aZ ta 32 gse1_16)]) (As := []) (rest := []) (ci := 5) hx hb hml hown hts hGok hK hA hG hl.1 hP hD hS (ct_X6_clear ll D ta hGok (lg 1) (lg 2) 400 gta nta  H.size) tw_441 tw_447 tw_439 tw_440 tw_66 hdX6_clear rfl ⟨rfl, rfl, Nat.le_of_ble_eq_true rfl, Nat.le_of_ble_eq_true rfl, Nat.le_of_ble_eq_true rfl, Nat.le_of_ble_eq_true rfl⟩ rfl rfl (q0 := 12) rfl [12, 13] [0, 1, 2, 3, 4, 5, 6, 7, 8, 9, 10, 11] rfl rfl (by decide) rfl (Nat.le_of_ble_eq_true rfl) dX9_keys_33 (fun u H locs hq hP hD hS => ?_)
    refine W.eq (g2 := F0 mm 36 ls []) rfl ?_
    have hP : va_P D vwCl [(wa 0, oW wa sta lva cna cma), (wb 0, oW wb stb lvb cnb cmb), (lg 5, oR (lg 6) nl), (lg 6, aZ ta 300 gl), (lg 0, oG lg ya yb wa wb o v ct), (ya 0, oK ya ρ m), (ya 1, oR (ya 2) m), (ya 2, aZ ta 32 ge1_16), (ya 3, oR (ya 4) m), (ya 4, aZ ta 32 gm1_16), (ya 5, oR (ya 6) m), (ya 6, aZ ta 32 gse1_16), (lg 1, oR (lg 2) 0), (lg 2, aZ ta 400 gta)] H := hP
    have hD : va_D A [(wa 0, oW wa sta lva cna cma), (wb 0, oW wb stb lvb cnb cmb), (lg 5, oR (lg 6) nl), (lg 6, aZ ta 300 gl), (lg 0, oG lg ya yb wa wb o v ct), (ya 0, oK ya ρ m), (ya 1, oR (ya 2) m), (ya 2, aZ ta 32 ge1_16), (ya 3, oR (ya 4) m), (ya 4, aZ ta 32 gm1_16), (ya 5, oR (ya 6) m), (ya 6, aZ ta 32 gse1_16), (lg 1, oR (lg 2) 0), (lg 2, aZ ta 400 gta)] := hD
    refine lv_iload (pc := 36) hx hb dX9_keys_36 (lv_at hl 0 rfl) ?_
    refine lv_if_ne (pc := 38) (tgt := 43) hx hb dX9_keys_38 (by decide) (fun _ => ?_) (fun c_2 => absurd c_2 (by decide))
    refine lv_aload_n (pc := 43) hx hb dX9_keys_43 rfl (lv_at hl 2 rfl) ?_
    refine cs_V (pc := 44) (idx := 99) (n := 0) (wr := [(ya 0, oK ya ρ m), (ya 1, oR (ya 2) m), (ya 2, aZ ta 32 ge1_16), (ya 3, oR (ya 4) m), (ya 4, aZ ta 32 gm1_16), (ya 5, oR (ya 6) m), (ya 6, aZ ta 32 gse1_16), (lg 1, oR (lg 2) 0), (lg 2, aZ ta 400 gta)]) (As := []) (rest := []) (ci := 7) hx hb hml hown hts hGok hK hA hG hl.1 hP hD hS (ct_X9_forgetSessions ll D ta gs lg ya yb wa wb o v ct sta lva cna cma stb lvb cnb cmb gl nl  H.size) tw_468 tw_465 tw_467 tw_1 tw_65 hdX9_forgetSessions rfl ⟨rfl, rfl, Nat.le_of_ble_eq_true rfl, Nat.le_of_ble_eq_true rfl, Nat.le_of_ble_eq_true rfl, Nat.le_of_ble_eq_true rfl⟩ rfl rfl (q0 := 4) rfl [4, 0, 1, 2, 3] [5, 6, 7, 8, 9, 10, 11, 12, 13] rfl rfl (by decide) rfl (Nat.le_of_ble_eq_true rfl) dX9_keys_44 (fun u H locs hq hP hD hS => ?_)
    refine W.eq (g2 := F0 mm 47 ls []) rfl ?_
    have hP : va_P D vwCl [(ya 0, oK ya ρ m), (ya 1, oR (ya 2) m), (ya 2, aZ ta 32 ge1_16), (ya 3, oR (ya 4) m), (ya 4, aZ ta 32 gm1_16), (ya 5, oR (ya 6) m), (ya 6, aZ ta 32 gse1_16), (lg 1, oR (lg 2) 0), (lg 2, aZ ta 400 gta), (lg 0, oG lg ya yb wa wb o v ct), (wa 0, oW wa 0 0 cna cma), (wb 0, oW wb 0 0 cnb cmb), (lg 5, oR (lg 6) 0), (lg 6, aZ ta 300 gl)] H := hP
    have hD : va_D A [(ya 0, oK ya ρ m), (ya 1, oR (ya 2) m), (ya 2, aZ ta 32 ge1_16), (ya 3, oR (ya 4) m), (ya 4, aZ ta 32 gm1_16), (ya 5, oR (ya 6) m), (ya 6, aZ ta 32 gse1_16), (lg 1, oR (lg 2) 0), (lg 2, aZ ta 400 gta), (lg 0, oG lg ya yb wa wb o v ct), (wa 0, oW wa 0 0 cna cma), (wb 0, oW wb 0 0 cnb cmb), (lg 5, oR (lg 6) 0), (lg 6, aZ ta 300 gl)] := hD
    refine lv_iconst (pc := 47) (v := nI 1) hx hb dX9_keys_47 (by decide +kernel) ?_
    have hq_3 : (qL ge1_16 m = (qL gta nta).take m) ∧ (qL gm1_16 m = ((qL gta nta).take (2 * m)).drop m) ∧ (qL gse1_16 m = ((qL gta nta).take (3 * m)).drop (2 * m)) := by
      exact ⟨hE_16, hM_16, hS9_16⟩
    exact hret (⟨(ge1_16), (gm1_16), (gse1_16)⟩ : (Nat → BitVec 8) × (Nat → BitVec 8) × (Nat → BitVec 8)) _ _ _ _ dX9_keys_48 hq_3 (hP.sub [9, 10, 11, 0, 1, 2, 3, 4, 5, 6, 7, 8, 12, 13] rfl) (hD.sub [9, 10, 11, 0, 1, 2, 3, 4, 5, 6, 7, 8, 12, 13] (by decide) rfl) hS
set_option maxHeartbeats 4000000 in
set_option maxRecDepth 100000 in
theorem ct_X9_keys_1 (ll : Launch) (D : va_G) (ta : Nat → ClassId) (gs : Nat → Nat) (lg : Nat → Nat) (ya : Nat → Nat) (yb : Nat → Nat) (wa : Nat → Nat) (wb : Nat → Nat) (o : Nat → Nat) (v : Nat → Nat) (ct : Nat) (gta : Nat → BitVec 8) (nta : Nat) (gl : Nat → BitVec 8) (nl : Nat) (sta : Nat) (lva : Nat) (cna : Nat) (cma : Bool) (stb : Nat) (lvb : Nat) (cnb : Nat) (cmb : Bool) (ru : Nat) (ln : Nat) (ge : Nat → BitVec 8) (n1 : Nat) (gm : Nat → BitVec 8) (n3 : Nat) (gse : Nat → BitVec 8) (n5 : Nat) (ρ : Nat) (m : Nat) (hnt : nta = 3 * m) (hρ : (ρ = 2 ∧ m = 16) ∨ (ρ = 3 ∧ (m = 16 ∨ m = 24 ∨ m = 32))) (sz : Nat) : CT ll yX9_keys cX9_keys 5 (some .int) ({ frames := 4, cells := 0, slots := 0, locals := 92 } : Room) D ta ((GC gs)) [.ref (lg 0), .int (nI 1), .int (nI ρ)] [(lg 0, oG lg ya yb wa wb o v ct), (wa 0, oW wa sta lva cna cma), (wb 0, oW wb stb lvb cnb cmb), (yb 0, oK yb ru ln), (yb 1, oR (yb 2) n1), (yb 2, aZ ta 32 ge), (yb 3, oR (yb 4) n3), (yb 4, aZ ta 32 gm), (yb 5, oR (yb 6) n5), (yb 6, aZ ta 32 gse), (lg 1, oR (lg 2) nta), (lg 2, aZ ta 400 gta), (lg 5, oR (lg 6) nl), (lg 6, aZ ta 300 gl)] sz (S := (Nat → BitVec 8) × (Nat → BitVec 8) × (Nat → BitVec 8)) (fun u => some (.int (nI 1))) (fun u => (qL u.1 m = (qL gta nta).take m) ∧ (qL u.2.1 m = ((qL gta nta).take (2 * m)).drop m) ∧ (qL u.2.2 m = ((qL gta nta).take (3 * m)).drop (2 * m))) (fun u => [(lg 0, oG lg ya yb wa wb o v ct), (wa 0, oW wa 0 0 cna cma), (wb 0, oW wb 0 0 cnb cmb), (yb 0, oK yb ρ m), (yb 1, oR (yb 2) m), (yb 2, aZ ta 32 u.1), (yb 3, oR (yb 4) m), (yb 4, aZ ta 32 u.2.1), (yb 5, oR (yb 6) m), (yb 6, aZ ta 32 u.2.2), (lg 1, oR (lg 2) 0), (lg 2, aZ ta 400 gta), (lg 5, oR (lg 6) 0), (lg 6, aZ ta 300 gl)]) 0 0 := by
  refine CT.of_i (r := fun u => nI 1) rfl (by decide) (Nat.le_of_ble_eq_true rfl) ?_
  have hGok := GC_ok gs
  intro pp ee ss mm below meth kc A Q hx hb hml hown hin hts hK hA hsz hG hret H locs hP hD hS ls hl
  have hl : lv_has ls 5 [(0, .ref (lg 0)), (1, .int (nI 1)), (2, .int (nI ρ))] := hl
  refine lv_aload_n (pc := 0) hx hb dX9_keys_0 rfl (lv_at hl 0 rfl) ?_
  refine lv_iload_n (pc := 1) hx hb dX9_keys_1 rfl (lv_at hl 1 rfl) ?_
  refine cs_V (pc := 2) (idx := 91) (n := 1) (wr := [(wa 0, oW wa sta lva cna cma), (wb 0, oW wb stb lvb cnb cmb), (yb 0, oK yb ru ln), (yb 1, oR (yb 2) n1), (yb 2, aZ ta 32 ge), (yb 3, oR (yb 4) n3), (yb 4, aZ ta 32 gm), (yb 5, oR (yb 6) n5), (yb 6, aZ ta 32 gse), (lg 1, oR (lg 2) nta), (lg 2, aZ ta 400 gta), (lg 5, oR (lg 6) nl), (lg 6, aZ ta 300 gl)]) (As := [.int (nI 1)]) (rest := []) (ci := 7) hx hb hml hown hts hGok hK hA hG hl.1 hP hD hS (ct_X9_keysOf_1 ll D ta hGok lg ya yb wa wb o v ct  H.size) tw_455 tw_452 tw_454 tw_0 tw_65 hdX9_keysOf rfl ⟨rfl, rfl, Nat.le_of_ble_eq_true rfl, Nat.le_of_ble_eq_true rfl, Nat.le_of_ble_eq_true rfl, Nat.le_of_ble_eq_true rfl⟩ rfl rfl (q0 := 0) rfl [0] [1, 2, 3, 4, 5, 6, 7, 8, 9, 10, 11, 12, 13] rfl rfl (by decide) rfl (Nat.le_of_ble_eq_true rfl) dX9_keys_2 (fun u H locs hq hP hD hS => ?_)
  refine W.eq (g2 := F0 mm 5 ls [.ref (yb 0)]) rfl ?_
  have hP : va_P D vwCl [(wa 0, oW wa sta lva cna cma), (wb 0, oW wb stb lvb cnb cmb), (yb 0, oK yb ru ln), (yb 1, oR (yb 2) n1), (yb 2, aZ ta 32 ge), (yb 3, oR (yb 4) n3), (yb 4, aZ ta 32 gm), (yb 5, oR (yb 6) n5), (yb 6, aZ ta 32 gse), (lg 1, oR (lg 2) nta), (lg 2, aZ ta 400 gta), (lg 5, oR (lg 6) nl), (lg 6, aZ ta 300 gl), (lg 0, oG lg ya yb wa wb o v ct)] H := hP
  have hD : va_D A [(wa 0, oW wa sta lva cna cma), (wb 0, oW wb stb lvb cnb cmb), (yb 0, oK yb ru ln), (yb 1, oR (yb 2) n1), (yb 2, aZ ta 32 ge), (yb 3, oR (yb 4) n3), (yb 4, aZ ta 32 gm), (yb 5, oR (yb 6) n5), (yb 6, aZ ta 32 gse), (lg 1, oR (lg 2) nta), (lg 2, aZ ta 400 gta), (lg 5, oR (lg 6) nl), (lg 6, aZ ta 300 gl), (lg 0, oG lg ya yb wa wb o v ct)] := hD
  refine lv_astore_n (pc := 5) (lv' := [(3, .ref (yb 0)), (0, .ref (lg 0)), (1, .int (nI 1)), (2, .int (nI ρ))]) hx hb dX9_keys_5 rfl hl (by decide) rfl (fun ls hl => ?_)
  refine lv_aload_n (pc := 6) hx hb dX9_keys_6 rfl (lv_at hl 0 rfl) ?_
  refine lv_ifnull (pc := 7) hx hb dX9_keys_7 ?_
  refine lv_aload_n (pc := 10) hx hb dX9_keys_10 rfl (lv_at hl 0 rfl) ?_
  refine lv_iload_n (pc := 11) hx hb dX9_keys_11 rfl (lv_at hl 3 rfl) ?_
  refine lv_aload_n (pc := 12) hx hb dX9_keys_12 rfl (lv_at hl 1 rfl) ?_
  refine va_get (pc := 13) (D := D) (ci := 7) (v := .ref (lg 1)) (C := RX9) (T := TX9) (N := 11) hx hb hts iu9 hown hK hP 13 rfl rfl 0 (by decide) (hts _ tw_352) (fun _ h9 => h9) rfl dX9_keys_13 ?_
  refine cs_V (pc := 16) (idx := 95) (n := 2) (wr := [(wa 0, oW wa sta lva cna cma), (wb 0, oW wb stb lvb cnb cmb), (lg 5, oR (lg 6) nl), (lg 6, aZ ta 300 gl), (lg 0, oG lg ya yb wa wb o v ct)]) (As := [.int (nI ρ), .ref (lg 1)]) (rest := []) (ci := 2) hx hb hml hown hts hGok hK hA hG hl.1 hP hD hS (ct_X3_tell_yes ll D ta gs yb ru ln (lg 1) (lg 2) gta nta ge n1 gm n3 gse n5 ρ m (by first | assumption | omega | rfl | decide) (by first | assumption | omega | rfl | decide) H.size) tw_459 tw_456 tw_457 tw_458 tw_67 hdX3_tell rfl ⟨rfl, rfl, Nat.le_of_ble_eq_true rfl, Nat.le_of_ble_eq_true rfl, Nat.le_of_ble_eq_true rfl, Nat.le_of_ble_eq_true rfl⟩ rfl rfl (q0 := 2) rfl [2, 3, 4, 5, 6, 7, 8, 9, 10] [0, 1, 11, 12, 13] rfl rfl (by decide) rfl (Nat.le_of_ble_eq_true rfl) dX9_keys_16 (fun u H locs hq hP hD hS => ?_)
  obtain ⟨z_16, ge1_16, gm1_16, gse1_16⟩ := u
  have hq : (z_16 = true) ∧ (qL ge1_16 m = (qL gta nta).take m) ∧ (qL gm1_16 m = ((qL gta nta).take (2 * m)).drop m) ∧ (qL gse1_16 m = ((qL gta nta).take (3 * m)).drop (2 * m)) := hq
  obtain ⟨hz_16, hE_16, hM_16, hS9_16⟩ := hq
  refine W.eq (g2 := F0 mm 19 ls [.int (qb z_16)]) rfl ?_
  have hP : va_P D vwCl [(wa 0, oW wa sta lva cna cma), (wb 0, oW wb stb lvb cnb cmb), (lg 5, oR (lg 6) nl), (lg 6, aZ ta 300 gl), (lg 0, oG lg ya yb wa wb o v ct), (yb 0, oK yb ρ m), (yb 1, oR (yb 2) m), (yb 2, aZ ta 32 ge1_16), (yb 3, oR (yb 4) m), (yb 4, aZ ta 32 gm1_16), (yb 5, oR (yb 6) m), (yb 6, aZ ta 32 gse1_16), (lg 1, oR (lg 2) nta), (lg 2, aZ ta 400 gta)] H := hP
  have hD : va_D A [(wa 0, oW wa sta lva cna cma), (wb 0, oW wb stb lvb cnb cmb), (lg 5, oR (lg 6) nl), (lg 6, aZ ta 300 gl), (lg 0, oG lg ya yb wa wb o v ct), (yb 0, oK yb ρ m), (yb 1, oR (yb 2) m), (yb 2, aZ ta 32 ge1_16), (yb 3, oR (yb 4) m), (yb 4, aZ ta 32 gm1_16), (yb 5, oR (yb 6) m), (yb 6, aZ ta 32 gse1_16), (lg 1, oR (lg 2) nta), (lg 2, aZ ta 400 gta)] := hD
  refine lv_if_eq (pc := 19) (tgt := 26) hx hb dX9_keys_19 (by decide) (fun c_1 => ?_) (fun c_1 => ?_)
  · skip
    rw [q_beq] at c_1
    try rw [Bool.not_eq_false] at c_1
    rw [hz_16] at c_1; cases c_1
  · skip
    rw [q_beq] at c_1
    try rw [Bool.not_eq_false] at c_1
    refine lv_iconst (pc := 22) (v := nI 1) hx hb dX9_keys_22 (by decide +kernel) ?_
    refine lv_goto (pc := 23) (tgt := 27) hx hb dX9_keys_23 (by decide) ?_
    refine lv_istore (pc := 27) (lv' := [(4, .int (nI 1)), (3, .ref (yb 0)), (0, .ref (lg 0)), (1, .int (nI 1)), (2, .int (nI ρ))]) hx hb dX9_keys_27 hl (by decide) rfl (fun ls hl => ?_)
    refine lv_aload_n (pc := 29) hx hb dX9_keys_29 rfl (lv_at hl 2 rfl) ?_
    refine va_get (pc := 30) (D := D) (ci := 7) (v := .ref (lg 1)) (C := RX9) (T := TX9) (N := 11) hx hb hts iu9 hown hK hP 4 rfl rfl 0 (by decide) (hts _ tw_352) (fun _ h9 => h9) rfl dX9_keys_30 ?_
    refine cs_V (pc := 33) (idx := 88) (n := 0) (wr := [(wa 0, oW wa sta lva cna cma), (wb 0, oW wb stb lvb cnb cmb), (lg 5, oR (lg 6) nl), (lg 6, aZ ta 300 gl), (lg 0, oG lg ya yb wa wb o v ct), (yb 0, oK yb ρ m), (yb 1, oR (yb 2) m), (yb 2, aZ ta 32 ge1_16), (yb 3, oR (yb 4) m), (yb 4, aZ ta 32 gm1_16), (yb 5, oR (yb 6) m), (yb 6, aZ ta 32 gse1_16)]) (As := []) (rest := []) (ci := 5) hx hb hml hown hts hGok hK hA hG hl.1 hP hD hS (ct_X6_clear ll D ta hGok (lg 1) (lg 2) 400 gta nta  H.size) tw_441 tw_447 tw_439 tw_440 tw_66 hdX6_clear rfl ⟨rfl, rfl, Nat.le_of_ble_eq_true rfl, Nat.le_of_ble_eq_true rfl, Nat.le_of_ble_eq_true rfl, Nat.le_of_ble_eq_true rfl⟩ rfl rfl (q0 := 12) rfl [12, 13] [0, 1, 2, 3, 4, 5, 6, 7, 8, 9, 10, 11] rfl rfl (by decide) rfl (Nat.le_of_ble_eq_true rfl) dX9_keys_33 (fun u H locs hq hP hD hS => ?_)
    refine W.eq (g2 := F0 mm 36 ls []) rfl ?_
    have hP : va_P D vwCl [(wa 0, oW wa sta lva cna cma), (wb 0, oW wb stb lvb cnb cmb), (lg 5, oR (lg 6) nl), (lg 6, aZ ta 300 gl), (lg 0, oG lg ya yb wa wb o v ct), (yb 0, oK yb ρ m), (yb 1, oR (yb 2) m), (yb 2, aZ ta 32 ge1_16), (yb 3, oR (yb 4) m), (yb 4, aZ ta 32 gm1_16), (yb 5, oR (yb 6) m), (yb 6, aZ ta 32 gse1_16), (lg 1, oR (lg 2) 0), (lg 2, aZ ta 400 gta)] H := hP
    have hD : va_D A [(wa 0, oW wa sta lva cna cma), (wb 0, oW wb stb lvb cnb cmb), (lg 5, oR (lg 6) nl), (lg 6, aZ ta 300 gl), (lg 0, oG lg ya yb wa wb o v ct), (yb 0, oK yb ρ m), (yb 1, oR (yb 2) m), (yb 2, aZ ta 32 ge1_16), (yb 3, oR (yb 4) m), (yb 4, aZ ta 32 gm1_16), (yb 5, oR (yb 6) m), (yb 6, aZ ta 32 gse1_16), (lg 1, oR (lg 2) 0), (lg 2, aZ ta 400 gta)] := hD
    refine lv_iload (pc := 36) hx hb dX9_keys_36 (lv_at hl 0 rfl) ?_
    refine lv_if_ne (pc := 38) (tgt := 43) hx hb dX9_keys_38 (by decide) (fun _ => ?_) (fun c_2 => absurd c_2 (by decide))
    refine lv_aload_n (pc := 43) hx hb dX9_keys_43 rfl (lv_at hl 2 rfl) ?_
    refine cs_V (pc := 44) (idx := 99) (n := 0) (wr := [(yb 0, oK yb ρ m), (yb 1, oR (yb 2) m), (yb 2, aZ ta 32 ge1_16), (yb 3, oR (yb 4) m), (yb 4, aZ ta 32 gm1_16), (yb 5, oR (yb 6) m), (yb 6, aZ ta 32 gse1_16), (lg 1, oR (lg 2) 0), (lg 2, aZ ta 400 gta)]) (As := []) (rest := []) (ci := 7) hx hb hml hown hts hGok hK hA hG hl.1 hP hD hS (ct_X9_forgetSessions ll D ta gs lg ya yb wa wb o v ct sta lva cna cma stb lvb cnb cmb gl nl  H.size) tw_468 tw_465 tw_467 tw_1 tw_65 hdX9_forgetSessions rfl ⟨rfl, rfl, Nat.le_of_ble_eq_true rfl, Nat.le_of_ble_eq_true rfl, Nat.le_of_ble_eq_true rfl, Nat.le_of_ble_eq_true rfl⟩ rfl rfl (q0 := 4) rfl [4, 0, 1, 2, 3] [5, 6, 7, 8, 9, 10, 11, 12, 13] rfl rfl (by decide) rfl (Nat.le_of_ble_eq_true rfl) dX9_keys_44 (fun u H locs hq hP hD hS => ?_)
    refine W.eq (g2 := F0 mm 47 ls []) rfl ?_
    have hP : va_P D vwCl [(yb 0, oK yb ρ m), (yb 1, oR (yb 2) m), (yb 2, aZ ta 32 ge1_16), (yb 3, oR (yb 4) m), (yb 4, aZ ta 32 gm1_16), (yb 5, oR (yb 6) m), (yb 6, aZ ta 32 gse1_16), (lg 1, oR (lg 2) 0), (lg 2, aZ ta 400 gta), (lg 0, oG lg ya yb wa wb o v ct), (wa 0, oW wa 0 0 cna cma), (wb 0, oW wb 0 0 cnb cmb), (lg 5, oR (lg 6) 0), (lg 6, aZ ta 300 gl)] H := hP
    have hD : va_D A [(yb 0, oK yb ρ m), (yb 1, oR (yb 2) m), (yb 2, aZ ta 32 ge1_16), (yb 3, oR (yb 4) m), (yb 4, aZ ta 32 gm1_16), (yb 5, oR (yb 6) m), (yb 6, aZ ta 32 gse1_16), (lg 1, oR (lg 2) 0), (lg 2, aZ ta 400 gta), (lg 0, oG lg ya yb wa wb o v ct), (wa 0, oW wa 0 0 cna cma), (wb 0, oW wb 0 0 cnb cmb), (lg 5, oR (lg 6) 0), (lg 6, aZ ta 300 gl)] := hD
    refine lv_iconst (pc := 47) (v := nI 1) hx hb dX9_keys_47 (by decide +kernel) ?_
    have hq_3 : (qL ge1_16 m = (qL gta nta).take m) ∧ (qL gm1_16 m = ((qL gta nta).take (2 * m)).drop m) ∧ (qL gse1_16 m = ((qL gta nta).take (3 * m)).drop (2 * m)) := by
      exact ⟨hE_16, hM_16, hS9_16⟩
    exact hret (⟨(ge1_16), (gm1_16), (gse1_16)⟩ : (Nat → BitVec 8) × (Nat → BitVec 8) × (Nat → BitVec 8)) _ _ _ _ dX9_keys_48 hq_3 (hP.sub [9, 10, 11, 0, 1, 2, 3, 4, 5, 6, 7, 8, 12, 13] rfl) (hD.sub [9, 10, 11, 0, 1, 2, 3, 4, 5, 6, 7, 8, 12, 13] (by decide) rfl) hS
theorem hdX9_about : yX9_about.cls ≠ "java/lang/invoke/MethodHandle" ∧ yX9_about.cls ≠ "java/lang/invoke/VarHandle" ∧ (parseMethodDescriptor yX9_about.desc).map (fun d => d.parameters.length) = some 2 := ⟨by decide +kernel, by decide +kernel, by decide +kernel⟩
theorem dX9_about_0 : decode cX9_about 0 = .ok (.aload_n 0, 1) := by decide +kernel
theorem dX9_about_1 : decode cX9_about 1 = .ok (.iload_n 1, 1) := by decide +kernel
theorem dX9_about_2 : decode cX9_about 2 = .ok (.invokevirtual 198, 3) := by decide +kernel
theorem dX9_about_5 : decode cX9_about 5 = .ok (.astore_n 3, 1) := by decide +kernel
theorem dX9_about_6 : decode cX9_about 6 = .ok (.aload_n 0, 1) := by decide +kernel
theorem dX9_about_7 : decode cX9_about 7 = .ok (.iload_n 1, 1) := by decide +kernel
theorem dX9_about_8 : decode cX9_about 8 = .ok (.invokevirtual 91, 3) := by decide +kernel
theorem dX9_about_11 : decode cX9_about 11 = .ok (.astore 4, 2) := by decide +kernel
theorem dX9_about_13 : decode cX9_about 13 = .ok (.aload_n 3, 1) := by decide +kernel
theorem dX9_about_14 : decode cX9_about 14 = .ok (.ifnull 8, 3) := by decide +kernel
theorem dX9_about_17 : decode cX9_about 17 = .ok (.aload 4, 2) := by decide +kernel
theorem dX9_about_19 : decode cX9_about 19 = .ok (.ifnonnull 5, 3) := by decide +kernel
theorem dX9_about_22 : decode cX9_about 22 = .ok (.iconst (-1), 1) := by decide +kernel
theorem dX9_about_23 : decode cX9_about 23 = .ok (.ireturn, 1) := by decide +kernel
theorem dX9_about_24 : decode cX9_about 24 = .ok (.iload_n 2, 1) := by decide +kernel
theorem dX9_about_25 : decode cX9_about 25 = .ok (.tableswitch 86 0 6 #[43, 48, 53, 59, 65, 70, 78], 43) := by decide +kernel
theorem dX9_about_68 : decode cX9_about 68 = .ok (.aload_n 3, 1) := by decide +kernel
theorem dX9_about_69 : decode cX9_about 69 = .ok (.getfield 139, 3) := by decide +kernel
theorem dX9_about_72 : decode cX9_about 72 = .ok (.ireturn, 1) := by decide +kernel
theorem dX9_about_73 : decode cX9_about 73 = .ok (.aload_n 3, 1) := by decide +kernel
theorem dX9_about_74 : decode cX9_about 74 = .ok (.getfield 216, 3) := by decide +kernel
theorem dX9_about_77 : decode cX9_about 77 = .ok (.ireturn, 1) := by decide +kernel
theorem dX9_about_78 : decode cX9_about 78 = .ok (.aload 4, 2) := by decide +kernel
theorem dX9_about_80 : decode cX9_about 80 = .ok (.getfield 103, 3) := by decide +kernel
theorem dX9_about_83 : decode cX9_about 83 = .ok (.ireturn, 1) := by decide +kernel
theorem dX9_about_84 : decode cX9_about 84 = .ok (.aload 4, 2) := by decide +kernel
theorem dX9_about_86 : decode cX9_about 86 = .ok (.getfield 106, 3) := by decide +kernel
theorem dX9_about_89 : decode cX9_about 89 = .ok (.ireturn, 1) := by decide +kernel
theorem dX9_about_90 : decode cX9_about 90 = .ok (.aload_n 0, 1) := by decide +kernel
theorem dX9_about_91 : decode cX9_about 91 = .ok (.getfield 60, 3) := by decide +kernel
theorem dX9_about_94 : decode cX9_about 94 = .ok (.ireturn, 1) := by decide +kernel
theorem dX9_about_95 : decode cX9_about 95 = .ok (.aload_n 0, 1) := by decide +kernel
theorem dX9_about_96 : decode cX9_about 96 = .ok (.getfield 21, 3) := by decide +kernel
theorem dX9_about_99 : decode cX9_about 99 = .ok (.invokevirtual 64, 3) := by decide +kernel
theorem dX9_about_102 : decode cX9_about 102 = .ok (.ireturn, 1) := by decide +kernel
theorem dX9_about_103 : decode cX9_about 103 = .ok (.aload_n 0, 1) := by decide +kernel
theorem dX9_about_104 : decode cX9_about 104 = .ok (.getfield 18, 3) := by decide +kernel
theorem dX9_about_107 : decode cX9_about 107 = .ok (.invokevirtual 64, 3) := by decide +kernel
theorem dX9_about_110 : decode cX9_about 110 = .ok (.ireturn, 1) := by decide +kernel
theorem dX9_about_111 : decode cX9_about 111 = .ok (.iconst (-1), 1) := by decide +kernel
theorem dX9_about_112 : decode cX9_about 112 = .ok (.ireturn, 1) := by decide +kernel
set_option maxHeartbeats 4000000 in
set_option maxRecDepth 100000 in
theorem ct_X9_about_0 (ll : Launch) (D : va_G) (ta : Nat → ClassId) (gs : Nat → Nat) (lg : Nat → Nat) (ya : Nat → Nat) (yb : Nat → Nat) (wa : Nat → Nat) (wb : Nat → Nat) (o : Nat → Nat) (v : Nat → Nat) (ct : Nat) (st : Nat) (lv : Nat) (cnt : Nat) (cm : Bool) (ru : Nat) (ln : Nat) (gl : Nat → BitVec 8) (nl : Nat) (gou : Nat → BitVec 8) (nou : Nat) (i : Int32)  (sz : Nat) : CT ll yX9_about cX9_about 5 (some .int) ({ frames := 1, cells := 0, slots := 0, locals := 21 } : Room) D ta ((GC gs)) [.ref (lg 0), .int (nI 0), .int i] [(lg 0, oG lg ya yb wa wb o v ct), (wa 0, oW wa st lv cnt cm), (ya 0, oK ya ru ln), (lg 5, oR (lg 6) nl), (lg 6, aZ ta 300 gl), (lg 3, oR (lg 4) nou), (lg 4, aZ ta 400 gou)] sz (S := Int32) (fun u => some (.int u)) (fun u => ((u : Int32) = aboutF st lv ru ln ct nl nou i)) (fun u => [(lg 0, oG lg ya yb wa wb o v ct), (wa 0, oW wa st lv cnt cm), (ya 0, oK ya ru ln), (lg 5, oR (lg 6) nl), (lg 6, aZ ta 300 gl), (lg 3, oR (lg 4) nou), (lg 4, aZ ta 400 gou)]) 0 0 := by
  refine CT.of_i (r := fun u => u) rfl (by decide) (Nat.le_of_ble_eq_true rfl) ?_
  have hGok := GC_ok gs
  intro pp ee ss mm below meth kc A Q hx hb hml hown hin hts hK hA hsz hG hret H locs hP hD hS ls hl
  have hl : lv_has ls 5 [(0, .ref (lg 0)), (1, .int (nI 0)), (2, .int i)] := hl
  refine lv_aload_n (pc := 0) hx hb dX9_about_0 rfl (lv_at hl 0 rfl) ?_
  refine lv_iload_n (pc := 1) hx hb dX9_about_1 rfl (lv_at hl 1 rfl) ?_
  refine cs_V (pc := 2) (idx := 198) (n := 1) (wr := [(wa 0, oW wa st lv cnt cm), (ya 0, oK ya ru ln), (lg 5, oR (lg 6) nl), (lg 6, aZ ta 300 gl), (lg 3, oR (lg 4) nou), (lg 4, aZ ta 400 gou)]) (As := [.int (nI 0)]) (rest := []) (ci := 7) hx hb hml hown hts hGok hK hA hG hl.1 hP hD hS (ct_X9_sessionOf_0 ll D ta hGok lg ya yb wa wb o v ct  H.size) tw_934 tw_931 tw_933 tw_25 tw_65 hdX9_sessionOf rfl ⟨rfl, rfl, Nat.le_of_ble_eq_true rfl, Nat.le_of_ble_eq_true rfl, Nat.le_of_ble_eq_true rfl, Nat.le_of_ble_eq_true rfl⟩ rfl rfl (q0 := 0) rfl [0] [1, 2, 3, 4, 5, 6] rfl rfl (by decide) rfl (Nat.le_of_ble_eq_true rfl) dX9_about_2 (fun u H locs hq hP hD hS => ?_)
  refine W.eq (g2 := F0 mm 5 ls [.ref (wa 0)]) rfl ?_
  have hP : va_P D vwCl [(wa 0, oW wa st lv cnt cm), (ya 0, oK ya ru ln), (lg 5, oR (lg 6) nl), (lg 6, aZ ta 300 gl), (lg 3, oR (lg 4) nou), (lg 4, aZ ta 400 gou), (lg 0, oG lg ya yb wa wb o v ct)] H := hP
  have hD : va_D A [(wa 0, oW wa st lv cnt cm), (ya 0, oK ya ru ln), (lg 5, oR (lg 6) nl), (lg 6, aZ ta 300 gl), (lg 3, oR (lg 4) nou), (lg 4, aZ ta 400 gou), (lg 0, oG lg ya yb wa wb o v ct)] := hD
  refine lv_astore_n (pc := 5) (lv' := [(3, .ref (wa 0)), (0, .ref (lg 0)), (1, .int (nI 0)), (2, .int i)]) hx hb dX9_about_5 rfl hl (by decide) rfl (fun ls hl => ?_)
  refine lv_aload_n (pc := 6) hx hb dX9_about_6 rfl (lv_at hl 1 rfl) ?_
  refine lv_iload_n (pc := 7) hx hb dX9_about_7 rfl (lv_at hl 2 rfl) ?_
  refine cs_V (pc := 8) (idx := 91) (n := 1) (wr := [(wa 0, oW wa st lv cnt cm), (ya 0, oK ya ru ln), (lg 5, oR (lg 6) nl), (lg 6, aZ ta 300 gl), (lg 3, oR (lg 4) nou), (lg 4, aZ ta 400 gou)]) (As := [.int (nI 0)]) (rest := []) (ci := 7) hx hb hml hown hts hGok hK hA hG hl.1 hP hD hS (ct_X9_keysOf_0 ll D ta hGok lg ya yb wa wb o v ct  H.size) tw_455 tw_452 tw_454 tw_0 tw_65 hdX9_keysOf rfl ⟨rfl, rfl, Nat.le_of_ble_eq_true rfl, Nat.le_of_ble_eq_true rfl, Nat.le_of_ble_eq_true rfl, Nat.le_of_ble_eq_true rfl⟩ rfl rfl (q0 := 6) rfl [6] [0, 1, 2, 3, 4, 5] rfl rfl (by decide) rfl (Nat.le_of_ble_eq_true rfl) dX9_about_8 (fun u H locs hq hP hD hS => ?_)
  refine W.eq (g2 := F0 mm 11 ls [.ref (ya 0)]) rfl ?_
  have hP : va_P D vwCl [(wa 0, oW wa st lv cnt cm), (ya 0, oK ya ru ln), (lg 5, oR (lg 6) nl), (lg 6, aZ ta 300 gl), (lg 3, oR (lg 4) nou), (lg 4, aZ ta 400 gou), (lg 0, oG lg ya yb wa wb o v ct)] H := hP
  have hD : va_D A [(wa 0, oW wa st lv cnt cm), (ya 0, oK ya ru ln), (lg 5, oR (lg 6) nl), (lg 6, aZ ta 300 gl), (lg 3, oR (lg 4) nou), (lg 4, aZ ta 400 gou), (lg 0, oG lg ya yb wa wb o v ct)] := hD
  refine lv_astore (pc := 11) (lv' := [(4, .ref (ya 0)), (3, .ref (wa 0)), (0, .ref (lg 0)), (1, .int (nI 0)), (2, .int i)]) hx hb dX9_about_11 hl (by decide) rfl (fun ls hl => ?_)
  refine lv_aload_n (pc := 13) hx hb dX9_about_13 rfl (lv_at hl 1 rfl) ?_
  refine lv_ifnull (pc := 14) hx hb dX9_about_14 ?_
  refine lv_aload (pc := 17) hx hb dX9_about_17 (lv_at hl 0 rfl) ?_
  refine lv_ifnonnull (pc := 19) (tgt := 24) hx hb dX9_about_19 (by decide) ?_
  refine lv_iload_n (pc := 24) hx hb dX9_about_24 rfl (lv_at hl 4 rfl) ?_
  by_cases c_1 : i = nI 0
  · subst c_1
    refine lv_tableIn (pc := 25) (tgt := 68) hx hb dX9_about_25 (off := 43) (by decide) (by decide) (by decide) (by decide) ?_
    refine lv_aload_n (pc := 68) hx hb dX9_about_68 rfl (lv_at hl 1 rfl) ?_
    refine va_getN (pc := 69) (D := D) (ci := 6) (v := .int (nI st)) (C := RX8) (T := TX8) (N := 14) hx hb hts iu8 hown hK hP 0 rfl rfl 0 (by decide) (va_Nw.use rfl (GC_w140 hG)) (fun _ h9 => h9) rfl dX9_about_69 ?_
    refine q_top (y := (nI st)) (by first | rfl | decide +kernel | (simp; done)) ?_
    have hq_2 : (((nI st) : Int32) = aboutF st lv ru ln ct nl nou (nI 0)) := by
      rfl
    exact hret (nI st) _ _ _ _ dX9_about_72 hq_2 (hP.sub [6, 0, 1, 2, 3, 4, 5] rfl) (hD.sub [6, 0, 1, 2, 3, 4, 5] (by decide) rfl) hS
  by_cases c_3 : i = nI 1
  · subst c_3
    refine lv_tableIn (pc := 25) (tgt := 73) hx hb dX9_about_25 (off := 48) (by decide) (by decide) (by decide) (by decide) ?_
    refine lv_aload_n (pc := 73) hx hb dX9_about_73 rfl (lv_at hl 1 rfl) ?_
    refine va_getN (pc := 74) (D := D) (ci := 6) (v := .int (nI lv)) (C := RX8) (T := TX8) (N := 14) hx hb hts iu8 hown hK hP 0 rfl rfl 1 (by decide) (va_Nw.use rfl (GC_w143 hG)) (fun _ h9 => h9) rfl dX9_about_74 ?_
    refine q_top (y := (nI lv)) (by first | rfl | decide +kernel | (simp; done)) ?_
    have hq_4 : (((nI lv) : Int32) = aboutF st lv ru ln ct nl nou (nI 1)) := by
      rfl
    exact hret (nI lv) _ _ _ _ dX9_about_77 hq_4 (hP.sub [6, 0, 1, 2, 3, 4, 5] rfl) (hD.sub [6, 0, 1, 2, 3, 4, 5] (by decide) rfl) hS
  by_cases c_5 : i = nI 2
  · subst c_5
    refine lv_tableIn (pc := 25) (tgt := 78) hx hb dX9_about_25 (off := 53) (by decide) (by decide) (by decide) (by decide) ?_
    refine lv_aload (pc := 78) hx hb dX9_about_78 (lv_at hl 0 rfl) ?_
    refine va_getN (pc := 80) (D := D) (ci := 2) (v := .int (nI ru)) (C := RX3) (T := TX3) (N := 5) hx hb hts iu3 hown hK hP 1 rfl rfl 0 (by decide) (va_Nw.use rfl (GC_w107 hG)) (fun _ h9 => h9) rfl dX9_about_80 ?_
    refine q_top (y := (nI ru)) (by first | rfl | decide +kernel | (simp; done)) ?_
    have hq_6 : (((nI ru) : Int32) = aboutF st lv ru ln ct nl nou (nI 2)) := by
      rfl
    exact hret (nI ru) _ _ _ _ dX9_about_83 hq_6 (hP.sub [6, 0, 1, 2, 3, 4, 5] rfl) (hD.sub [6, 0, 1, 2, 3, 4, 5] (by decide) rfl) hS
  by_cases c_7 : i = nI 3
  · subst c_7
    refine lv_tableIn (pc := 25) (tgt := 84) hx hb dX9_about_25 (off := 59) (by decide) (by decide) (by decide) (by decide) ?_
    refine lv_aload (pc := 84) hx hb dX9_about_84 (lv_at hl 0 rfl) ?_
    refine va_getN (pc := 86) (D := D) (ci := 2) (v := .int (nI ln)) (C := RX3) (T := TX3) (N := 5) hx hb hts iu3 hown hK hP 1 rfl rfl 1 (by decide) (va_Nw.use rfl (GC_w110 hG)) (fun _ h9 => h9) rfl dX9_about_86 ?_
    refine q_top (y := (nI ln)) (by first | rfl | decide +kernel | (simp; done)) ?_
    have hq_8 : (((nI ln) : Int32) = aboutF st lv ru ln ct nl nou (nI 3)) := by
      rfl
    exact hret (nI ln) _ _ _ _ dX9_about_89 hq_8 (hP.sub [6, 0, 1, 2, 3, 4, 5] rfl) (hD.sub [6, 0, 1, 2, 3, 4, 5] (by decide) rfl) hS
  by_cases c_9 : i = nI 4
  · subst c_9
    refine lv_tableIn (pc := 25) (tgt := 90) hx hb dX9_about_25 (off := 65) (by decide) (by decide) (by decide) (by decide) ?_
    refine lv_aload_n (pc := 90) hx hb dX9_about_90 rfl (lv_at hl 2 rfl) ?_
    refine va_get (pc := 91) (D := D) (ci := 7) (v := .int (nI ct)) (C := RX9) (T := TX9) (N := 11) hx hb hts iu9 hown hK hP 6 rfl rfl 10 (by decide) (hts _ tw_362) (fun _ h9 => h9) rfl dX9_about_91 ?_
    refine q_top (y := (nI ct)) (by first | rfl | decide +kernel | (simp; done)) ?_
    have hq_10 : (((nI ct) : Int32) = aboutF st lv ru ln ct nl nou (nI 4)) := by
      rfl
    exact hret (nI ct) _ _ _ _ dX9_about_94 hq_10 (hP.sub [6, 0, 1, 2, 3, 4, 5] rfl) (hD.sub [6, 0, 1, 2, 3, 4, 5] (by decide) rfl) hS
  by_cases c_11 : i = nI 5
  · subst c_11
    refine lv_tableIn (pc := 25) (tgt := 95) hx hb dX9_about_25 (off := 70) (by decide) (by decide) (by decide) (by decide) ?_
    refine lv_aload_n (pc := 95) hx hb dX9_about_95 rfl (lv_at hl 2 rfl) ?_
    refine va_get (pc := 96) (D := D) (ci := 7) (v := .ref (lg 5)) (C := RX9) (T := TX9) (N := 11) hx hb hts iu9 hown hK hP 6 rfl rfl 2 (by decide) (hts _ tw_354) (fun _ h9 => h9) rfl dX9_about_96 ?_
    refine cs_V (pc := 99) (idx := 64) (n := 0) (wr := [(wa 0, oW wa st lv cnt cm), (ya 0, oK ya ru ln), (lg 3, oR (lg 4) nou), (lg 4, aZ ta 400 gou), (lg 0, oG lg ya yb wa wb o v ct)]) (As := []) (rest := []) (ci := 5) hx hb hml hown hts hGok hK hA hG hl.1 hP hD hS (ct_X6_size ll D ta hGok (lg 5) (lg 6) 300 gl nl  H.size) tw_393 tw_390 tw_391 tw_392 tw_66 hdX6_size rfl ⟨rfl, rfl, Nat.le_of_ble_eq_true rfl, Nat.le_of_ble_eq_true rfl, Nat.le_of_ble_eq_true rfl, Nat.le_of_ble_eq_true rfl⟩ rfl rfl (q0 := 2) rfl [2, 3] [0, 1, 4, 5, 6] rfl rfl (by decide) rfl (Nat.le_of_ble_eq_true rfl) dX9_about_99 (fun u H locs hq hP hD hS => ?_)
    refine W.eq (g2 := F0 mm 102 ls [.int (nI nl)]) rfl ?_
    have hP : va_P D vwCl [(wa 0, oW wa st lv cnt cm), (ya 0, oK ya ru ln), (lg 3, oR (lg 4) nou), (lg 4, aZ ta 400 gou), (lg 0, oG lg ya yb wa wb o v ct), (lg 5, oR (lg 6) nl), (lg 6, aZ ta 300 gl)] H := hP
    have hD : va_D A [(wa 0, oW wa st lv cnt cm), (ya 0, oK ya ru ln), (lg 3, oR (lg 4) nou), (lg 4, aZ ta 400 gou), (lg 0, oG lg ya yb wa wb o v ct), (lg 5, oR (lg 6) nl), (lg 6, aZ ta 300 gl)] := hD
    refine q_top (y := (nI nl)) (by first | rfl | decide +kernel | (simp; done)) ?_
    have hq_12 : (((nI nl) : Int32) = aboutF st lv ru ln ct nl nou (nI 5)) := by
      rfl
    exact hret (nI nl) _ _ _ _ dX9_about_102 hq_12 (hP.sub [4, 0, 1, 5, 6, 2, 3] rfl) (hD.sub [4, 0, 1, 5, 6, 2, 3] (by decide) rfl) hS
  by_cases c_13 : i = nI 6
  · subst c_13
    refine lv_tableIn (pc := 25) (tgt := 103) hx hb dX9_about_25 (off := 78) (by decide) (by decide) (by decide) (by decide) ?_
    refine lv_aload_n (pc := 103) hx hb dX9_about_103 rfl (lv_at hl 2 rfl) ?_
    refine va_get (pc := 104) (D := D) (ci := 7) (v := .ref (lg 3)) (C := RX9) (T := TX9) (N := 11) hx hb hts iu9 hown hK hP 6 rfl rfl 1 (by decide) (hts _ tw_353) (fun _ h9 => h9) rfl dX9_about_104 ?_
    refine cs_V (pc := 107) (idx := 64) (n := 0) (wr := [(wa 0, oW wa st lv cnt cm), (ya 0, oK ya ru ln), (lg 5, oR (lg 6) nl), (lg 6, aZ ta 300 gl), (lg 0, oG lg ya yb wa wb o v ct)]) (As := []) (rest := []) (ci := 5) hx hb hml hown hts hGok hK hA hG hl.1 hP hD hS (ct_X6_size ll D ta hGok (lg 3) (lg 4) 400 gou nou  H.size) tw_393 tw_390 tw_391 tw_392 tw_66 hdX6_size rfl ⟨rfl, rfl, Nat.le_of_ble_eq_true rfl, Nat.le_of_ble_eq_true rfl, Nat.le_of_ble_eq_true rfl, Nat.le_of_ble_eq_true rfl⟩ rfl rfl (q0 := 4) rfl [4, 5] [0, 1, 2, 3, 6] rfl rfl (by decide) rfl (Nat.le_of_ble_eq_true rfl) dX9_about_107 (fun u H locs hq hP hD hS => ?_)
    refine W.eq (g2 := F0 mm 110 ls [.int (nI nou)]) rfl ?_
    have hP : va_P D vwCl [(wa 0, oW wa st lv cnt cm), (ya 0, oK ya ru ln), (lg 5, oR (lg 6) nl), (lg 6, aZ ta 300 gl), (lg 0, oG lg ya yb wa wb o v ct), (lg 3, oR (lg 4) nou), (lg 4, aZ ta 400 gou)] H := hP
    have hD : va_D A [(wa 0, oW wa st lv cnt cm), (ya 0, oK ya ru ln), (lg 5, oR (lg 6) nl), (lg 6, aZ ta 300 gl), (lg 0, oG lg ya yb wa wb o v ct), (lg 3, oR (lg 4) nou), (lg 4, aZ ta 400 gou)] := hD
    refine q_top (y := (nI nou)) (by first | rfl | decide +kernel | (simp; done)) ?_
    have hq_14 : (((nI nou) : Int32) = aboutF st lv ru ln ct nl nou (nI 6)) := by
      rfl
    exact hret (nI nou) _ _ _ _ dX9_about_110 hq_14 (hP.sub [4, 0, 1, 2, 3, 5, 6] rfl) (hD.sub [4, 0, 1, 2, 3, 5, 6] (by decide) rfl) hS
  refine lv_tableOut (pc := 25) (tgt := 111) hx hb dX9_about_25 (q_out (n := 6) (fun k hk => match k, hk with | 0, _ => c_1 | 1, _ => c_3 | 2, _ => c_5 | 3, _ => c_7 | 4, _ => c_9 | 5, _ => c_11 | 6, _ => c_13 | k + 7, h => absurd h (by omega)) (by decide)) (by decide) ?_
  refine lv_iconst (pc := 111) (v := (-1)) hx hb dX9_about_111 (by decide +kernel) ?_
  refine q_top (y := (-1)) (by first | rfl | decide +kernel | (simp; done)) ?_
  have hq_15 : (((-1) : Int32) = aboutF st lv ru ln ct nl nou i) := by
    symm; simp only [aboutF]; simp_all
  exact hret (-1) _ _ _ _ dX9_about_112 hq_15 (hP.sub [6, 0, 1, 2, 3, 4, 5] rfl) (hD.sub [6, 0, 1, 2, 3, 4, 5] (by decide) rfl) hS
theorem hdX9_secret : yX9_secret.cls ≠ "java/lang/invoke/MethodHandle" ∧ yX9_secret.cls ≠ "java/lang/invoke/VarHandle" ∧ (parseMethodDescriptor yX9_secret.desc).map (fun d => d.parameters.length) = some 3 := ⟨by decide +kernel, by decide +kernel, by decide +kernel⟩
theorem dX9_secret_0 : decode cX9_secret 0 = .ok (.aload_n 0, 1) := by decide +kernel
theorem dX9_secret_1 : decode cX9_secret 1 = .ok (.iload_n 1, 1) := by decide +kernel
theorem dX9_secret_2 : decode cX9_secret 2 = .ok (.invokevirtual 198, 3) := by decide +kernel
theorem dX9_secret_5 : decode cX9_secret 5 = .ok (.astore 4, 2) := by decide +kernel
theorem dX9_secret_7 : decode cX9_secret 7 = .ok (.aload 4, 2) := by decide +kernel
theorem dX9_secret_9 : decode cX9_secret 9 = .ok (.ifnull 11, 3) := by decide +kernel
theorem dX9_secret_12 : decode cX9_secret 12 = .ok (.aload 4, 2) := by decide +kernel
theorem dX9_secret_14 : decode cX9_secret 14 = .ok (.getfield 139, 3) := by decide +kernel
theorem dX9_secret_17 : decode cX9_secret 17 = .ok (.ifCond .ne 5, 3) := by decide +kernel
theorem dX9_secret_20 : decode cX9_secret 20 = .ok (.iconst (-1), 1) := by decide +kernel
theorem dX9_secret_21 : decode cX9_secret 21 = .ok (.ireturn, 1) := by decide +kernel
theorem dX9_secret_22 : decode cX9_secret 22 = .ok (.aload 4, 2) := by decide +kernel
theorem dX9_secret_24 : decode cX9_secret 24 = .ok (.iload_n 2, 1) := by decide +kernel
theorem dX9_secret_25 : decode cX9_secret 25 = .ok (.invokevirtual 212, 3) := by decide +kernel
theorem dX9_secret_28 : decode cX9_secret 28 = .ok (.astore 5, 2) := by decide +kernel
theorem dX9_secret_30 : decode cX9_secret 30 = .ok (.aload 5, 2) := by decide +kernel
theorem dX9_secret_32 : decode cX9_secret 32 = .ok (.ifnonnull 7, 3) := by decide +kernel
theorem dX9_secret_35 : decode cX9_secret 35 = .ok (.iconst (-1), 1) := by decide +kernel
theorem dX9_secret_36 : decode cX9_secret 36 = .ok (.goto 9, 3) := by decide +kernel
theorem dX9_secret_39 : decode cX9_secret 39 = .ok (.aload 5, 2) := by decide +kernel
theorem dX9_secret_41 : decode cX9_secret 41 = .ok (.iload_n 3, 1) := by decide +kernel
theorem dX9_secret_42 : decode cX9_secret 42 = .ok (.invokevirtual 76, 3) := by decide +kernel
theorem dX9_secret_45 : decode cX9_secret 45 = .ok (.ireturn, 1) := by decide +kernel
set_option maxHeartbeats 4000000 in
set_option maxRecDepth 100000 in
theorem ct_X9_secret_0 (ll : Launch) (D : va_G) (ta : Nat → ClassId) (gs : Nat → Nat) (lg : Nat → Nat) (ya : Nat → Nat) (yb : Nat → Nat) (wa : Nat → Nat) (wb : Nat → Nat) (o : Nat → Nat) (v : Nat → Nat) (ct : Nat) (st : Nat) (lv : Nat) (cnt : Nat) (cm : Bool) (g1 : Nat → BitVec 8) (m1 : Nat) (g3 : Nat → BitVec 8) (m3 : Nat) (g5 : Nat → BitVec 8) (m5 : Nat) (g7 : Nat → BitVec 8) (m7 : Nat) (g9 : Nat → BitVec 8) (m9 : Nat) (g11 : Nat → BitVec 8) (m11 : Nat) (g13 : Nat → BitVec 8) (m13 : Nat) (wh : Int32) (j : Int32) (hst : st ≤ 2) (hm1 : m1 ≤ 32) (hm3 : m3 ≤ 32) (hm5 : m5 ≤ 32) (hm7 : m7 ≤ 32) (hm9 : m9 ≤ 8) (hm11 : m11 ≤ 8) (hm13 : m13 ≤ 8) (sz : Nat) : CT ll yX9_secret cX9_secret 6 (some .int) ({ frames := 1, cells := 0, slots := 0, locals := 21 } : Room) D ta ((GC gs)) [.ref (lg 0), .int (nI 0), .int wh, .int j] [(lg 0, oG lg ya yb wa wb o v ct), (wa 0, oW wa st lv cnt cm), (wa 1, oR (wa 2) m1), (wa 2, aZ ta 32 g1), (wa 3, oR (wa 4) m3), (wa 4, aZ ta 32 g3), (wa 5, oR (wa 6) m5), (wa 6, aZ ta 32 g5), (wa 7, oR (wa 8) m7), (wa 8, aZ ta 32 g7), (wa 9, oR (wa 10) m9), (wa 10, aZ ta 8 g9), (wa 11, oR (wa 12) m11), (wa 12, aZ ta 8 g11), (wa 13, oR (wa 14) m13), (wa 14, aZ ta 8 g13)] sz (S := Int32) (fun u => some (.int u)) (fun u => ((u : Int32) = if st = 0 then -1 else secF (qL g1 m1) (qL g3 m3) (qL g5 m5) (qL g7 m7) (qL g9 m9) (qL g11 m11) (qL g13 m13) wh j)) (fun u => [(lg 0, oG lg ya yb wa wb o v ct), (wa 0, oW wa st lv cnt cm), (wa 1, oR (wa 2) m1), (wa 2, aZ ta 32 g1), (wa 3, oR (wa 4) m3), (wa 4, aZ ta 32 g3), (wa 5, oR (wa 6) m5), (wa 6, aZ ta 32 g5), (wa 7, oR (wa 8) m7), (wa 8, aZ ta 32 g7), (wa 9, oR (wa 10) m9), (wa 10, aZ ta 8 g9), (wa 11, oR (wa 12) m11), (wa 12, aZ ta 8 g11), (wa 13, oR (wa 14) m13), (wa 14, aZ ta 8 g13)]) 0 0 := by
  refine CT.of_i (r := fun u => u) rfl (by decide) (Nat.le_of_ble_eq_true rfl) ?_
  have hGok := GC_ok gs
  intro pp ee ss mm below meth kc A Q hx hb hml hown hin hts hK hA hsz hG hret H locs hP hD hS ls hl
  have hl : lv_has ls 6 [(0, .ref (lg 0)), (1, .int (nI 0)), (2, .int wh), (3, .int j)] := hl
  refine lv_aload_n (pc := 0) hx hb dX9_secret_0 rfl (lv_at hl 0 rfl) ?_
  refine lv_iload_n (pc := 1) hx hb dX9_secret_1 rfl (lv_at hl 1 rfl) ?_
  refine cs_V (pc := 2) (idx := 198) (n := 1) (wr := [(wa 0, oW wa st lv cnt cm), (wa 1, oR (wa 2) m1), (wa 2, aZ ta 32 g1), (wa 3, oR (wa 4) m3), (wa 4, aZ ta 32 g3), (wa 5, oR (wa 6) m5), (wa 6, aZ ta 32 g5), (wa 7, oR (wa 8) m7), (wa 8, aZ ta 32 g7), (wa 9, oR (wa 10) m9), (wa 10, aZ ta 8 g9), (wa 11, oR (wa 12) m11), (wa 12, aZ ta 8 g11), (wa 13, oR (wa 14) m13), (wa 14, aZ ta 8 g13)]) (As := [.int (nI 0)]) (rest := []) (ci := 7) hx hb hml hown hts hGok hK hA hG hl.1 hP hD hS (ct_X9_sessionOf_0 ll D ta hGok lg ya yb wa wb o v ct  H.size) tw_934 tw_931 tw_933 tw_25 tw_65 hdX9_sessionOf rfl ⟨rfl, rfl, Nat.le_of_ble_eq_true rfl, Nat.le_of_ble_eq_true rfl, Nat.le_of_ble_eq_true rfl, Nat.le_of_ble_eq_true rfl⟩ rfl rfl (q0 := 0) rfl [0] [1, 2, 3, 4, 5, 6, 7, 8, 9, 10, 11, 12, 13, 14, 15] rfl rfl (by decide) rfl (Nat.le_of_ble_eq_true rfl) dX9_secret_2 (fun u H locs hq hP hD hS => ?_)
  refine W.eq (g2 := F0 mm 5 ls [.ref (wa 0)]) rfl ?_
  have hP : va_P D vwCl [(wa 0, oW wa st lv cnt cm), (wa 1, oR (wa 2) m1), (wa 2, aZ ta 32 g1), (wa 3, oR (wa 4) m3), (wa 4, aZ ta 32 g3), (wa 5, oR (wa 6) m5), (wa 6, aZ ta 32 g5), (wa 7, oR (wa 8) m7), (wa 8, aZ ta 32 g7), (wa 9, oR (wa 10) m9), (wa 10, aZ ta 8 g9), (wa 11, oR (wa 12) m11), (wa 12, aZ ta 8 g11), (wa 13, oR (wa 14) m13), (wa 14, aZ ta 8 g13), (lg 0, oG lg ya yb wa wb o v ct)] H := hP
  have hD : va_D A [(wa 0, oW wa st lv cnt cm), (wa 1, oR (wa 2) m1), (wa 2, aZ ta 32 g1), (wa 3, oR (wa 4) m3), (wa 4, aZ ta 32 g3), (wa 5, oR (wa 6) m5), (wa 6, aZ ta 32 g5), (wa 7, oR (wa 8) m7), (wa 8, aZ ta 32 g7), (wa 9, oR (wa 10) m9), (wa 10, aZ ta 8 g9), (wa 11, oR (wa 12) m11), (wa 12, aZ ta 8 g11), (wa 13, oR (wa 14) m13), (wa 14, aZ ta 8 g13), (lg 0, oG lg ya yb wa wb o v ct)] := hD
  refine lv_astore (pc := 5) (lv' := [(4, .ref (wa 0)), (0, .ref (lg 0)), (1, .int (nI 0)), (2, .int wh), (3, .int j)]) hx hb dX9_secret_5 hl (by decide) rfl (fun ls hl => ?_)
  refine lv_aload (pc := 7) hx hb dX9_secret_7 (lv_at hl 0 rfl) ?_
  refine lv_ifnull (pc := 9) hx hb dX9_secret_9 ?_
  refine lv_aload (pc := 12) hx hb dX9_secret_12 (lv_at hl 0 rfl) ?_
  refine va_getN (pc := 14) (D := D) (ci := 6) (v := .int (nI st)) (C := RX8) (T := TX8) (N := 14) hx hb hts iu8 hown hK hP 0 rfl rfl 0 (by decide) (va_Nw.use rfl (GC_w140 hG)) (fun _ h9 => h9) rfl dX9_secret_14 ?_
  refine lv_if_ne (pc := 17) (tgt := 22) hx hb dX9_secret_17 (by decide) (fun c_1 => ?_) (fun c_1 => ?_)
  · skip
    rw [q_eq0 (by omega)] at c_1
    have hs0 := c_1
    refine lv_aload (pc := 22) hx hb dX9_secret_22 (lv_at hl 0 rfl) ?_
    refine lv_iload_n (pc := 24) hx hb dX9_secret_24 rfl (lv_at hl 3 rfl) ?_
    by_cases hk0 : wh = nI 0
    · skip
      subst hk0
      refine cs_V (pc := 25) (idx := 212) (n := 1) (wr := [(wa 1, oR (wa 2) m1), (wa 2, aZ ta 32 g1), (wa 3, oR (wa 4) m3), (wa 4, aZ ta 32 g3), (wa 5, oR (wa 6) m5), (wa 6, aZ ta 32 g5), (wa 7, oR (wa 8) m7), (wa 8, aZ ta 32 g7), (wa 9, oR (wa 10) m9), (wa 10, aZ ta 8 g9), (wa 11, oR (wa 12) m11), (wa 12, aZ ta 8 g11), (wa 13, oR (wa 14) m13), (wa 14, aZ ta 8 g13), (lg 0, oG lg ya yb wa wb o v ct)]) (As := [.int (nI 0)]) (rest := []) (ci := 6) hx hb hml hown hts hGok hK hA hG hl.1 hP hD hS (ct_X8_secretRow_0 ll D ta gs wa st lv cnt cm  H.size) tw_952 tw_949 tw_950 tw_951 tw_68 hdX8_secretRow rfl ⟨rfl, rfl, Nat.le_of_ble_eq_true rfl, Nat.le_of_ble_eq_true rfl, Nat.le_of_ble_eq_true rfl, Nat.le_of_ble_eq_true rfl⟩ rfl rfl (q0 := 0) rfl [0] [1, 2, 3, 4, 5, 6, 7, 8, 9, 10, 11, 12, 13, 14, 15] rfl rfl (by decide) rfl (Nat.le_of_ble_eq_true rfl) dX9_secret_25 (fun u H locs hq hP hD hS => ?_)
      refine W.eq (g2 := F0 mm 28 ls [.ref (wa 1)]) rfl ?_
      have hP : va_P D vwCl [(wa 1, oR (wa 2) m1), (wa 2, aZ ta 32 g1), (wa 3, oR (wa 4) m3), (wa 4, aZ ta 32 g3), (wa 5, oR (wa 6) m5), (wa 6, aZ ta 32 g5), (wa 7, oR (wa 8) m7), (wa 8, aZ ta 32 g7), (wa 9, oR (wa 10) m9), (wa 10, aZ ta 8 g9), (wa 11, oR (wa 12) m11), (wa 12, aZ ta 8 g11), (wa 13, oR (wa 14) m13), (wa 14, aZ ta 8 g13), (lg 0, oG lg ya yb wa wb o v ct), (wa 0, oW wa st lv cnt cm)] H := hP
      have hD : va_D A [(wa 1, oR (wa 2) m1), (wa 2, aZ ta 32 g1), (wa 3, oR (wa 4) m3), (wa 4, aZ ta 32 g3), (wa 5, oR (wa 6) m5), (wa 6, aZ ta 32 g5), (wa 7, oR (wa 8) m7), (wa 8, aZ ta 32 g7), (wa 9, oR (wa 10) m9), (wa 10, aZ ta 8 g9), (wa 11, oR (wa 12) m11), (wa 12, aZ ta 8 g11), (wa 13, oR (wa 14) m13), (wa 14, aZ ta 8 g13), (lg 0, oG lg ya yb wa wb o v ct), (wa 0, oW wa st lv cnt cm)] := hD
      refine lv_astore (pc := 28) (lv' := [(5, .ref (wa 1)), (4, .ref (wa 0)), (0, .ref (lg 0)), (1, .int (nI 0)), (2, .int (nI 0)), (3, .int j)]) hx hb dX9_secret_28 hl (by decide) rfl (fun ls hl => ?_)
      refine lv_aload (pc := 30) hx hb dX9_secret_30 (lv_at hl 0 rfl) ?_
      refine lv_ifnonnull (pc := 32) (tgt := 39) hx hb dX9_secret_32 (by decide) ?_
      refine lv_aload (pc := 39) hx hb dX9_secret_39 (lv_at hl 0 rfl) ?_
      refine lv_iload_n (pc := 41) hx hb dX9_secret_41 rfl (lv_at hl 5 rfl) ?_
      refine cs_V (pc := 42) (idx := 76) (n := 1) (wr := [(wa 3, oR (wa 4) m3), (wa 4, aZ ta 32 g3), (wa 5, oR (wa 6) m5), (wa 6, aZ ta 32 g5), (wa 7, oR (wa 8) m7), (wa 8, aZ ta 32 g7), (wa 9, oR (wa 10) m9), (wa 10, aZ ta 8 g9), (wa 11, oR (wa 12) m11), (wa 12, aZ ta 8 g11), (wa 13, oR (wa 14) m13), (wa 14, aZ ta 8 g13), (lg 0, oG lg ya yb wa wb o v ct), (wa 0, oW wa st lv cnt cm)]) (As := [.int j]) (rest := []) (ci := 5) hx hb hml hown hts hGok hK hA hG hl.1 hP hD hS (ct_X6_at_any ll D ta hGok (wa 1) (wa 2) 32 g1 m1 j (by first | assumption | omega | rfl | decide) (by first | assumption | omega | rfl | decide) H.size) tw_413 tw_410 tw_411 tw_412 tw_66 hdX6_at rfl ⟨rfl, rfl, Nat.le_of_ble_eq_true rfl, Nat.le_of_ble_eq_true rfl, Nat.le_of_ble_eq_true rfl, Nat.le_of_ble_eq_true rfl⟩ rfl rfl (q0 := 0) rfl [0, 1] [2, 3, 4, 5, 6, 7, 8, 9, 10, 11, 12, 13, 14, 15] rfl rfl (by decide) rfl (Nat.le_of_ble_eq_true rfl) dX9_secret_42 (fun u H locs hq hP hD hS => ?_)
      generalize u = r_42 at hq hP hD ⊢
      have hq : (r_42 = qAt g1 m1 j) := hq
      have hr_42 := hq
      refine W.eq (g2 := F0 mm 45 ls [.int r_42]) rfl ?_
      have hP : va_P D vwCl [(wa 3, oR (wa 4) m3), (wa 4, aZ ta 32 g3), (wa 5, oR (wa 6) m5), (wa 6, aZ ta 32 g5), (wa 7, oR (wa 8) m7), (wa 8, aZ ta 32 g7), (wa 9, oR (wa 10) m9), (wa 10, aZ ta 8 g9), (wa 11, oR (wa 12) m11), (wa 12, aZ ta 8 g11), (wa 13, oR (wa 14) m13), (wa 14, aZ ta 8 g13), (lg 0, oG lg ya yb wa wb o v ct), (wa 0, oW wa st lv cnt cm), (wa 1, oR (wa 2) m1), (wa 2, aZ ta 32 g1)] H := hP
      have hD : va_D A [(wa 3, oR (wa 4) m3), (wa 4, aZ ta 32 g3), (wa 5, oR (wa 6) m5), (wa 6, aZ ta 32 g5), (wa 7, oR (wa 8) m7), (wa 8, aZ ta 32 g7), (wa 9, oR (wa 10) m9), (wa 10, aZ ta 8 g9), (wa 11, oR (wa 12) m11), (wa 12, aZ ta 8 g11), (wa 13, oR (wa 14) m13), (wa 14, aZ ta 8 g13), (lg 0, oG lg ya yb wa wb o v ct), (wa 0, oW wa st lv cnt cm), (wa 1, oR (wa 2) m1), (wa 2, aZ ta 32 g1)] := hD
      have hq_2 : ((r_42 : Int32) = if st = 0 then -1 else secF (qL g1 m1) (qL g3 m3) (qL g5 m5) (qL g7 m7) (qL g9 m9) (qL g11 m11) (qL g13 m13) (nI 0) j) := by
        rw [if_neg (by omega)]
        first | (rw [hr_42, qAt_L]; rfl) | exact hsn.symm
      exact hret (r_42) _ _ _ _ dX9_secret_45 hq_2 (hP.sub [12, 13, 14, 15, 0, 1, 2, 3, 4, 5, 6, 7, 8, 9, 10, 11] rfl) (hD.sub [12, 13, 14, 15, 0, 1, 2, 3, 4, 5, 6, 7, 8, 9, 10, 11] (by decide) rfl) hS
    · skip
      by_cases hk1 : wh = nI 1
      · skip
        subst hk1
        refine cs_V (pc := 25) (idx := 212) (n := 1) (wr := [(wa 1, oR (wa 2) m1), (wa 2, aZ ta 32 g1), (wa 3, oR (wa 4) m3), (wa 4, aZ ta 32 g3), (wa 5, oR (wa 6) m5), (wa 6, aZ ta 32 g5), (wa 7, oR (wa 8) m7), (wa 8, aZ ta 32 g7), (wa 9, oR (wa 10) m9), (wa 10, aZ ta 8 g9), (wa 11, oR (wa 12) m11), (wa 12, aZ ta 8 g11), (wa 13, oR (wa 14) m13), (wa 14, aZ ta 8 g13), (lg 0, oG lg ya yb wa wb o v ct)]) (As := [.int (nI 1)]) (rest := []) (ci := 6) hx hb hml hown hts hGok hK hA hG hl.1 hP hD hS (ct_X8_secretRow_1 ll D ta gs wa st lv cnt cm  H.size) tw_952 tw_949 tw_950 tw_951 tw_68 hdX8_secretRow rfl ⟨rfl, rfl, Nat.le_of_ble_eq_true rfl, Nat.le_of_ble_eq_true rfl, Nat.le_of_ble_eq_true rfl, Nat.le_of_ble_eq_true rfl⟩ rfl rfl (q0 := 0) rfl [0] [1, 2, 3, 4, 5, 6, 7, 8, 9, 10, 11, 12, 13, 14, 15] rfl rfl (by decide) rfl (Nat.le_of_ble_eq_true rfl) dX9_secret_25 (fun u H locs hq hP hD hS => ?_)
        refine W.eq (g2 := F0 mm 28 ls [.ref (wa 3)]) rfl ?_
        have hP : va_P D vwCl [(wa 1, oR (wa 2) m1), (wa 2, aZ ta 32 g1), (wa 3, oR (wa 4) m3), (wa 4, aZ ta 32 g3), (wa 5, oR (wa 6) m5), (wa 6, aZ ta 32 g5), (wa 7, oR (wa 8) m7), (wa 8, aZ ta 32 g7), (wa 9, oR (wa 10) m9), (wa 10, aZ ta 8 g9), (wa 11, oR (wa 12) m11), (wa 12, aZ ta 8 g11), (wa 13, oR (wa 14) m13), (wa 14, aZ ta 8 g13), (lg 0, oG lg ya yb wa wb o v ct), (wa 0, oW wa st lv cnt cm)] H := hP
        have hD : va_D A [(wa 1, oR (wa 2) m1), (wa 2, aZ ta 32 g1), (wa 3, oR (wa 4) m3), (wa 4, aZ ta 32 g3), (wa 5, oR (wa 6) m5), (wa 6, aZ ta 32 g5), (wa 7, oR (wa 8) m7), (wa 8, aZ ta 32 g7), (wa 9, oR (wa 10) m9), (wa 10, aZ ta 8 g9), (wa 11, oR (wa 12) m11), (wa 12, aZ ta 8 g11), (wa 13, oR (wa 14) m13), (wa 14, aZ ta 8 g13), (lg 0, oG lg ya yb wa wb o v ct), (wa 0, oW wa st lv cnt cm)] := hD
        refine lv_astore (pc := 28) (lv' := [(5, .ref (wa 3)), (4, .ref (wa 0)), (0, .ref (lg 0)), (1, .int (nI 0)), (2, .int (nI 1)), (3, .int j)]) hx hb dX9_secret_28 hl (by decide) rfl (fun ls hl => ?_)
        refine lv_aload (pc := 30) hx hb dX9_secret_30 (lv_at hl 0 rfl) ?_
        refine lv_ifnonnull (pc := 32) (tgt := 39) hx hb dX9_secret_32 (by decide) ?_
        refine lv_aload (pc := 39) hx hb dX9_secret_39 (lv_at hl 0 rfl) ?_
        refine lv_iload_n (pc := 41) hx hb dX9_secret_41 rfl (lv_at hl 5 rfl) ?_
        refine cs_V (pc := 42) (idx := 76) (n := 1) (wr := [(wa 1, oR (wa 2) m1), (wa 2, aZ ta 32 g1), (wa 5, oR (wa 6) m5), (wa 6, aZ ta 32 g5), (wa 7, oR (wa 8) m7), (wa 8, aZ ta 32 g7), (wa 9, oR (wa 10) m9), (wa 10, aZ ta 8 g9), (wa 11, oR (wa 12) m11), (wa 12, aZ ta 8 g11), (wa 13, oR (wa 14) m13), (wa 14, aZ ta 8 g13), (lg 0, oG lg ya yb wa wb o v ct), (wa 0, oW wa st lv cnt cm)]) (As := [.int j]) (rest := []) (ci := 5) hx hb hml hown hts hGok hK hA hG hl.1 hP hD hS (ct_X6_at_any ll D ta hGok (wa 3) (wa 4) 32 g3 m3 j (by first | assumption | omega | rfl | decide) (by first | assumption | omega | rfl | decide) H.size) tw_413 tw_410 tw_411 tw_412 tw_66 hdX6_at rfl ⟨rfl, rfl, Nat.le_of_ble_eq_true rfl, Nat.le_of_ble_eq_true rfl, Nat.le_of_ble_eq_true rfl, Nat.le_of_ble_eq_true rfl⟩ rfl rfl (q0 := 2) rfl [2, 3] [0, 1, 4, 5, 6, 7, 8, 9, 10, 11, 12, 13, 14, 15] rfl rfl (by decide) rfl (Nat.le_of_ble_eq_true rfl) dX9_secret_42 (fun u H locs hq hP hD hS => ?_)
        generalize u = r_42 at hq hP hD ⊢
        have hq : (r_42 = qAt g3 m3 j) := hq
        have hr_42 := hq
        refine W.eq (g2 := F0 mm 45 ls [.int r_42]) rfl ?_
        have hP : va_P D vwCl [(wa 1, oR (wa 2) m1), (wa 2, aZ ta 32 g1), (wa 5, oR (wa 6) m5), (wa 6, aZ ta 32 g5), (wa 7, oR (wa 8) m7), (wa 8, aZ ta 32 g7), (wa 9, oR (wa 10) m9), (wa 10, aZ ta 8 g9), (wa 11, oR (wa 12) m11), (wa 12, aZ ta 8 g11), (wa 13, oR (wa 14) m13), (wa 14, aZ ta 8 g13), (lg 0, oG lg ya yb wa wb o v ct), (wa 0, oW wa st lv cnt cm), (wa 3, oR (wa 4) m3), (wa 4, aZ ta 32 g3)] H := hP
        have hD : va_D A [(wa 1, oR (wa 2) m1), (wa 2, aZ ta 32 g1), (wa 5, oR (wa 6) m5), (wa 6, aZ ta 32 g5), (wa 7, oR (wa 8) m7), (wa 8, aZ ta 32 g7), (wa 9, oR (wa 10) m9), (wa 10, aZ ta 8 g9), (wa 11, oR (wa 12) m11), (wa 12, aZ ta 8 g11), (wa 13, oR (wa 14) m13), (wa 14, aZ ta 8 g13), (lg 0, oG lg ya yb wa wb o v ct), (wa 0, oW wa st lv cnt cm), (wa 3, oR (wa 4) m3), (wa 4, aZ ta 32 g3)] := hD
        have hq_3 : ((r_42 : Int32) = if st = 0 then -1 else secF (qL g1 m1) (qL g3 m3) (qL g5 m5) (qL g7 m7) (qL g9 m9) (qL g11 m11) (qL g13 m13) (nI 1) j) := by
          rw [if_neg (by omega)]
          first | (rw [hr_42, qAt_L]; rfl) | exact hsn.symm
        exact hret (r_42) _ _ _ _ dX9_secret_45 hq_3 (hP.sub [12, 13, 0, 1, 14, 15, 2, 3, 4, 5, 6, 7, 8, 9, 10, 11] rfl) (hD.sub [12, 13, 0, 1, 14, 15, 2, 3, 4, 5, 6, 7, 8, 9, 10, 11] (by decide) rfl) hS
      · skip
        by_cases hk2 : wh = nI 2
        · skip
          subst hk2
          refine cs_V (pc := 25) (idx := 212) (n := 1) (wr := [(wa 1, oR (wa 2) m1), (wa 2, aZ ta 32 g1), (wa 3, oR (wa 4) m3), (wa 4, aZ ta 32 g3), (wa 5, oR (wa 6) m5), (wa 6, aZ ta 32 g5), (wa 7, oR (wa 8) m7), (wa 8, aZ ta 32 g7), (wa 9, oR (wa 10) m9), (wa 10, aZ ta 8 g9), (wa 11, oR (wa 12) m11), (wa 12, aZ ta 8 g11), (wa 13, oR (wa 14) m13), (wa 14, aZ ta 8 g13), (lg 0, oG lg ya yb wa wb o v ct)]) (As := [.int (nI 2)]) (rest := []) (ci := 6) hx hb hml hown hts hGok hK hA hG hl.1 hP hD hS (ct_X8_secretRow_2 ll D ta gs wa st lv cnt cm  H.size) tw_952 tw_949 tw_950 tw_951 tw_68 hdX8_secretRow rfl ⟨rfl, rfl, Nat.le_of_ble_eq_true rfl, Nat.le_of_ble_eq_true rfl, Nat.le_of_ble_eq_true rfl, Nat.le_of_ble_eq_true rfl⟩ rfl rfl (q0 := 0) rfl [0] [1, 2, 3, 4, 5, 6, 7, 8, 9, 10, 11, 12, 13, 14, 15] rfl rfl (by decide) rfl (Nat.le_of_ble_eq_true rfl) dX9_secret_25 (fun u H locs hq hP hD hS => ?_)
          refine W.eq (g2 := F0 mm 28 ls [.ref (wa 5)]) rfl ?_
          have hP : va_P D vwCl [(wa 1, oR (wa 2) m1), (wa 2, aZ ta 32 g1), (wa 3, oR (wa 4) m3), (wa 4, aZ ta 32 g3), (wa 5, oR (wa 6) m5), (wa 6, aZ ta 32 g5), (wa 7, oR (wa 8) m7), (wa 8, aZ ta 32 g7), (wa 9, oR (wa 10) m9), (wa 10, aZ ta 8 g9), (wa 11, oR (wa 12) m11), (wa 12, aZ ta 8 g11), (wa 13, oR (wa 14) m13), (wa 14, aZ ta 8 g13), (lg 0, oG lg ya yb wa wb o v ct), (wa 0, oW wa st lv cnt cm)] H := hP
          have hD : va_D A [(wa 1, oR (wa 2) m1), (wa 2, aZ ta 32 g1), (wa 3, oR (wa 4) m3), (wa 4, aZ ta 32 g3), (wa 5, oR (wa 6) m5), (wa 6, aZ ta 32 g5), (wa 7, oR (wa 8) m7), (wa 8, aZ ta 32 g7), (wa 9, oR (wa 10) m9), (wa 10, aZ ta 8 g9), (wa 11, oR (wa 12) m11), (wa 12, aZ ta 8 g11), (wa 13, oR (wa 14) m13), (wa 14, aZ ta 8 g13), (lg 0, oG lg ya yb wa wb o v ct), (wa 0, oW wa st lv cnt cm)] := hD
          refine lv_astore (pc := 28) (lv' := [(5, .ref (wa 5)), (4, .ref (wa 0)), (0, .ref (lg 0)), (1, .int (nI 0)), (2, .int (nI 2)), (3, .int j)]) hx hb dX9_secret_28 hl (by decide) rfl (fun ls hl => ?_)
          refine lv_aload (pc := 30) hx hb dX9_secret_30 (lv_at hl 0 rfl) ?_
          refine lv_ifnonnull (pc := 32) (tgt := 39) hx hb dX9_secret_32 (by decide) ?_
          refine lv_aload (pc := 39) hx hb dX9_secret_39 (lv_at hl 0 rfl) ?_
          refine lv_iload_n (pc := 41) hx hb dX9_secret_41 rfl (lv_at hl 5 rfl) ?_
          refine cs_V (pc := 42) (idx := 76) (n := 1) (wr := [(wa 1, oR (wa 2) m1), (wa 2, aZ ta 32 g1), (wa 3, oR (wa 4) m3), (wa 4, aZ ta 32 g3), (wa 7, oR (wa 8) m7), (wa 8, aZ ta 32 g7), (wa 9, oR (wa 10) m9), (wa 10, aZ ta 8 g9), (wa 11, oR (wa 12) m11), (wa 12, aZ ta 8 g11), (wa 13, oR (wa 14) m13), (wa 14, aZ ta 8 g13), (lg 0, oG lg ya yb wa wb o v ct), (wa 0, oW wa st lv cnt cm)]) (As := [.int j]) (rest := []) (ci := 5) hx hb hml hown hts hGok hK hA hG hl.1 hP hD hS (ct_X6_at_any ll D ta hGok (wa 5) (wa 6) 32 g5 m5 j (by first | assumption | omega | rfl | decide) (by first | assumption | omega | rfl | decide) H.size) tw_413 tw_410 tw_411 tw_412 tw_66 hdX6_at rfl ⟨rfl, rfl, Nat.le_of_ble_eq_true rfl, Nat.le_of_ble_eq_true rfl, Nat.le_of_ble_eq_true rfl, Nat.le_of_ble_eq_true rfl⟩ rfl rfl (q0 := 4) rfl [4, 5] [0, 1, 2, 3, 6, 7, 8, 9, 10, 11, 12, 13, 14, 15] rfl rfl (by decide) rfl (Nat.le_of_ble_eq_true rfl) dX9_secret_42 (fun u H locs hq hP hD hS => ?_)
          generalize u = r_42 at hq hP hD ⊢
          have hq : (r_42 = qAt g5 m5 j) := hq
          have hr_42 := hq
          refine W.eq (g2 := F0 mm 45 ls [.int r_42]) rfl ?_
          have hP : va_P D vwCl [(wa 1, oR (wa 2) m1), (wa 2, aZ ta 32 g1), (wa 3, oR (wa 4) m3), (wa 4, aZ ta 32 g3), (wa 7, oR (wa 8) m7), (wa 8, aZ ta 32 g7), (wa 9, oR (wa 10) m9), (wa 10, aZ ta 8 g9), (wa 11, oR (wa 12) m11), (wa 12, aZ ta 8 g11), (wa 13, oR (wa 14) m13), (wa 14, aZ ta 8 g13), (lg 0, oG lg ya yb wa wb o v ct), (wa 0, oW wa st lv cnt cm), (wa 5, oR (wa 6) m5), (wa 6, aZ ta 32 g5)] H := hP
          have hD : va_D A [(wa 1, oR (wa 2) m1), (wa 2, aZ ta 32 g1), (wa 3, oR (wa 4) m3), (wa 4, aZ ta 32 g3), (wa 7, oR (wa 8) m7), (wa 8, aZ ta 32 g7), (wa 9, oR (wa 10) m9), (wa 10, aZ ta 8 g9), (wa 11, oR (wa 12) m11), (wa 12, aZ ta 8 g11), (wa 13, oR (wa 14) m13), (wa 14, aZ ta 8 g13), (lg 0, oG lg ya yb wa wb o v ct), (wa 0, oW wa st lv cnt cm), (wa 5, oR (wa 6) m5), (wa 6, aZ ta 32 g5)] := hD
          have hq_4 : ((r_42 : Int32) = if st = 0 then -1 else secF (qL g1 m1) (qL g3 m3) (qL g5 m5) (qL g7 m7) (qL g9 m9) (qL g11 m11) (qL g13 m13) (nI 2) j) := by
            rw [if_neg (by omega)]
            first | (rw [hr_42, qAt_L]; rfl) | exact hsn.symm
          exact hret (r_42) _ _ _ _ dX9_secret_45 hq_4 (hP.sub [12, 13, 0, 1, 2, 3, 14, 15, 4, 5, 6, 7, 8, 9, 10, 11] rfl) (hD.sub [12, 13, 0, 1, 2, 3, 14, 15, 4, 5, 6, 7, 8, 9, 10, 11] (by decide) rfl) hS
        · skip
          by_cases hk3 : wh = nI 3
          · skip
            subst hk3
            refine cs_V (pc := 25) (idx := 212) (n := 1) (wr := [(wa 1, oR (wa 2) m1), (wa 2, aZ ta 32 g1), (wa 3, oR (wa 4) m3), (wa 4, aZ ta 32 g3), (wa 5, oR (wa 6) m5), (wa 6, aZ ta 32 g5), (wa 7, oR (wa 8) m7), (wa 8, aZ ta 32 g7), (wa 9, oR (wa 10) m9), (wa 10, aZ ta 8 g9), (wa 11, oR (wa 12) m11), (wa 12, aZ ta 8 g11), (wa 13, oR (wa 14) m13), (wa 14, aZ ta 8 g13), (lg 0, oG lg ya yb wa wb o v ct)]) (As := [.int (nI 3)]) (rest := []) (ci := 6) hx hb hml hown hts hGok hK hA hG hl.1 hP hD hS (ct_X8_secretRow_3 ll D ta gs wa st lv cnt cm  H.size) tw_952 tw_949 tw_950 tw_951 tw_68 hdX8_secretRow rfl ⟨rfl, rfl, Nat.le_of_ble_eq_true rfl, Nat.le_of_ble_eq_true rfl, Nat.le_of_ble_eq_true rfl, Nat.le_of_ble_eq_true rfl⟩ rfl rfl (q0 := 0) rfl [0] [1, 2, 3, 4, 5, 6, 7, 8, 9, 10, 11, 12, 13, 14, 15] rfl rfl (by decide) rfl (Nat.le_of_ble_eq_true rfl) dX9_secret_25 (fun u H locs hq hP hD hS => ?_)
            refine W.eq (g2 := F0 mm 28 ls [.ref (wa 7)]) rfl ?_
            have hP : va_P D vwCl [(wa 1, oR (wa 2) m1), (wa 2, aZ ta 32 g1), (wa 3, oR (wa 4) m3), (wa 4, aZ ta 32 g3), (wa 5, oR (wa 6) m5), (wa 6, aZ ta 32 g5), (wa 7, oR (wa 8) m7), (wa 8, aZ ta 32 g7), (wa 9, oR (wa 10) m9), (wa 10, aZ ta 8 g9), (wa 11, oR (wa 12) m11), (wa 12, aZ ta 8 g11), (wa 13, oR (wa 14) m13), (wa 14, aZ ta 8 g13), (lg 0, oG lg ya yb wa wb o v ct), (wa 0, oW wa st lv cnt cm)] H := hP
            have hD : va_D A [(wa 1, oR (wa 2) m1), (wa 2, aZ ta 32 g1), (wa 3, oR (wa 4) m3), (wa 4, aZ ta 32 g3), (wa 5, oR (wa 6) m5), (wa 6, aZ ta 32 g5), (wa 7, oR (wa 8) m7), (wa 8, aZ ta 32 g7), (wa 9, oR (wa 10) m9), (wa 10, aZ ta 8 g9), (wa 11, oR (wa 12) m11), (wa 12, aZ ta 8 g11), (wa 13, oR (wa 14) m13), (wa 14, aZ ta 8 g13), (lg 0, oG lg ya yb wa wb o v ct), (wa 0, oW wa st lv cnt cm)] := hD
            refine lv_astore (pc := 28) (lv' := [(5, .ref (wa 7)), (4, .ref (wa 0)), (0, .ref (lg 0)), (1, .int (nI 0)), (2, .int (nI 3)), (3, .int j)]) hx hb dX9_secret_28 hl (by decide) rfl (fun ls hl => ?_)
            refine lv_aload (pc := 30) hx hb dX9_secret_30 (lv_at hl 0 rfl) ?_
            refine lv_ifnonnull (pc := 32) (tgt := 39) hx hb dX9_secret_32 (by decide) ?_
            refine lv_aload (pc := 39) hx hb dX9_secret_39 (lv_at hl 0 rfl) ?_
            refine lv_iload_n (pc := 41) hx hb dX9_secret_41 rfl (lv_at hl 5 rfl) ?_
            refine cs_V (pc := 42) (idx := 76) (n := 1) (wr := [(wa 1, oR (wa 2) m1), (wa 2, aZ ta 32 g1), (wa 3, oR (wa 4) m3), (wa 4, aZ ta 32 g3), (wa 5, oR (wa 6) m5), (wa 6, aZ ta 32 g5), (wa 9, oR (wa 10) m9), (wa 10, aZ ta 8 g9), (wa 11, oR (wa 12) m11), (wa 12, aZ ta 8 g11), (wa 13, oR (wa 14) m13), (wa 14, aZ ta 8 g13), (lg 0, oG lg ya yb wa wb o v ct), (wa 0, oW wa st lv cnt cm)]) (As := [.int j]) (rest := []) (ci := 5) hx hb hml hown hts hGok hK hA hG hl.1 hP hD hS (ct_X6_at_any ll D ta hGok (wa 7) (wa 8) 32 g7 m7 j (by first | assumption | omega | rfl | decide) (by first | assumption | omega | rfl | decide) H.size) tw_413 tw_410 tw_411 tw_412 tw_66 hdX6_at rfl ⟨rfl, rfl, Nat.le_of_ble_eq_true rfl, Nat.le_of_ble_eq_true rfl, Nat.le_of_ble_eq_true rfl, Nat.le_of_ble_eq_true rfl⟩ rfl rfl (q0 := 6) rfl [6, 7] [0, 1, 2, 3, 4, 5, 8, 9, 10, 11, 12, 13, 14, 15] rfl rfl (by decide) rfl (Nat.le_of_ble_eq_true rfl) dX9_secret_42 (fun u H locs hq hP hD hS => ?_)
            generalize u = r_42 at hq hP hD ⊢
            have hq : (r_42 = qAt g7 m7 j) := hq
            have hr_42 := hq
            refine W.eq (g2 := F0 mm 45 ls [.int r_42]) rfl ?_
            have hP : va_P D vwCl [(wa 1, oR (wa 2) m1), (wa 2, aZ ta 32 g1), (wa 3, oR (wa 4) m3), (wa 4, aZ ta 32 g3), (wa 5, oR (wa 6) m5), (wa 6, aZ ta 32 g5), (wa 9, oR (wa 10) m9), (wa 10, aZ ta 8 g9), (wa 11, oR (wa 12) m11), (wa 12, aZ ta 8 g11), (wa 13, oR (wa 14) m13), (wa 14, aZ ta 8 g13), (lg 0, oG lg ya yb wa wb o v ct), (wa 0, oW wa st lv cnt cm), (wa 7, oR (wa 8) m7), (wa 8, aZ ta 32 g7)] H := hP
            have hD : va_D A [(wa 1, oR (wa 2) m1), (wa 2, aZ ta 32 g1), (wa 3, oR (wa 4) m3), (wa 4, aZ ta 32 g3), (wa 5, oR (wa 6) m5), (wa 6, aZ ta 32 g5), (wa 9, oR (wa 10) m9), (wa 10, aZ ta 8 g9), (wa 11, oR (wa 12) m11), (wa 12, aZ ta 8 g11), (wa 13, oR (wa 14) m13), (wa 14, aZ ta 8 g13), (lg 0, oG lg ya yb wa wb o v ct), (wa 0, oW wa st lv cnt cm), (wa 7, oR (wa 8) m7), (wa 8, aZ ta 32 g7)] := hD
            have hq_5 : ((r_42 : Int32) = if st = 0 then -1 else secF (qL g1 m1) (qL g3 m3) (qL g5 m5) (qL g7 m7) (qL g9 m9) (qL g11 m11) (qL g13 m13) (nI 3) j) := by
              rw [if_neg (by omega)]
              first | (rw [hr_42, qAt_L]; rfl) | exact hsn.symm
            exact hret (r_42) _ _ _ _ dX9_secret_45 hq_5 (hP.sub [12, 13, 0, 1, 2, 3, 4, 5, 14, 15, 6, 7, 8, 9, 10, 11] rfl) (hD.sub [12, 13, 0, 1, 2, 3, 4, 5, 14, 15, 6, 7, 8, 9, 10, 11] (by decide) rfl) hS
          · skip
            by_cases hk4 : wh = nI 4
            · skip
              subst hk4
              refine cs_V (pc := 25) (idx := 212) (n := 1) (wr := [(wa 1, oR (wa 2) m1), (wa 2, aZ ta 32 g1), (wa 3, oR (wa 4) m3), (wa 4, aZ ta 32 g3), (wa 5, oR (wa 6) m5), (wa 6, aZ ta 32 g5), (wa 7, oR (wa 8) m7), (wa 8, aZ ta 32 g7), (wa 9, oR (wa 10) m9), (wa 10, aZ ta 8 g9), (wa 11, oR (wa 12) m11), (wa 12, aZ ta 8 g11), (wa 13, oR (wa 14) m13), (wa 14, aZ ta 8 g13), (lg 0, oG lg ya yb wa wb o v ct)]) (As := [.int (nI 4)]) (rest := []) (ci := 6) hx hb hml hown hts hGok hK hA hG hl.1 hP hD hS (ct_X8_secretRow_4 ll D ta gs wa st lv cnt cm  H.size) tw_952 tw_949 tw_950 tw_951 tw_68 hdX8_secretRow rfl ⟨rfl, rfl, Nat.le_of_ble_eq_true rfl, Nat.le_of_ble_eq_true rfl, Nat.le_of_ble_eq_true rfl, Nat.le_of_ble_eq_true rfl⟩ rfl rfl (q0 := 0) rfl [0] [1, 2, 3, 4, 5, 6, 7, 8, 9, 10, 11, 12, 13, 14, 15] rfl rfl (by decide) rfl (Nat.le_of_ble_eq_true rfl) dX9_secret_25 (fun u H locs hq hP hD hS => ?_)
              refine W.eq (g2 := F0 mm 28 ls [.ref (wa 9)]) rfl ?_
              have hP : va_P D vwCl [(wa 1, oR (wa 2) m1), (wa 2, aZ ta 32 g1), (wa 3, oR (wa 4) m3), (wa 4, aZ ta 32 g3), (wa 5, oR (wa 6) m5), (wa 6, aZ ta 32 g5), (wa 7, oR (wa 8) m7), (wa 8, aZ ta 32 g7), (wa 9, oR (wa 10) m9), (wa 10, aZ ta 8 g9), (wa 11, oR (wa 12) m11), (wa 12, aZ ta 8 g11), (wa 13, oR (wa 14) m13), (wa 14, aZ ta 8 g13), (lg 0, oG lg ya yb wa wb o v ct), (wa 0, oW wa st lv cnt cm)] H := hP
              have hD : va_D A [(wa 1, oR (wa 2) m1), (wa 2, aZ ta 32 g1), (wa 3, oR (wa 4) m3), (wa 4, aZ ta 32 g3), (wa 5, oR (wa 6) m5), (wa 6, aZ ta 32 g5), (wa 7, oR (wa 8) m7), (wa 8, aZ ta 32 g7), (wa 9, oR (wa 10) m9), (wa 10, aZ ta 8 g9), (wa 11, oR (wa 12) m11), (wa 12, aZ ta 8 g11), (wa 13, oR (wa 14) m13), (wa 14, aZ ta 8 g13), (lg 0, oG lg ya yb wa wb o v ct), (wa 0, oW wa st lv cnt cm)] := hD
              refine lv_astore (pc := 28) (lv' := [(5, .ref (wa 9)), (4, .ref (wa 0)), (0, .ref (lg 0)), (1, .int (nI 0)), (2, .int (nI 4)), (3, .int j)]) hx hb dX9_secret_28 hl (by decide) rfl (fun ls hl => ?_)
              refine lv_aload (pc := 30) hx hb dX9_secret_30 (lv_at hl 0 rfl) ?_
              refine lv_ifnonnull (pc := 32) (tgt := 39) hx hb dX9_secret_32 (by decide) ?_
              refine lv_aload (pc := 39) hx hb dX9_secret_39 (lv_at hl 0 rfl) ?_
              refine lv_iload_n (pc := 41) hx hb dX9_secret_41 rfl (lv_at hl 5 rfl) ?_
              refine cs_V (pc := 42) (idx := 76) (n := 1) (wr := [(wa 1, oR (wa 2) m1), (wa 2, aZ ta 32 g1), (wa 3, oR (wa 4) m3), (wa 4, aZ ta 32 g3), (wa 5, oR (wa 6) m5), (wa 6, aZ ta 32 g5), (wa 7, oR (wa 8) m7), (wa 8, aZ ta 32 g7), (wa 11, oR (wa 12) m11), (wa 12, aZ ta 8 g11), (wa 13, oR (wa 14) m13), (wa 14, aZ ta 8 g13), (lg 0, oG lg ya yb wa wb o v ct), (wa 0, oW wa st lv cnt cm)]) (As := [.int j]) (rest := []) (ci := 5) hx hb hml hown hts hGok hK hA hG hl.1 hP hD hS (ct_X6_at_any ll D ta hGok (wa 9) (wa 10) 8 g9 m9 j (by first | assumption | omega | rfl | decide) (by first | assumption | omega | rfl | decide) H.size) tw_413 tw_410 tw_411 tw_412 tw_66 hdX6_at rfl ⟨rfl, rfl, Nat.le_of_ble_eq_true rfl, Nat.le_of_ble_eq_true rfl, Nat.le_of_ble_eq_true rfl, Nat.le_of_ble_eq_true rfl⟩ rfl rfl (q0 := 8) rfl [8, 9] [0, 1, 2, 3, 4, 5, 6, 7, 10, 11, 12, 13, 14, 15] rfl rfl (by decide) rfl (Nat.le_of_ble_eq_true rfl) dX9_secret_42 (fun u H locs hq hP hD hS => ?_)
              generalize u = r_42 at hq hP hD ⊢
              have hq : (r_42 = qAt g9 m9 j) := hq
              have hr_42 := hq
              refine W.eq (g2 := F0 mm 45 ls [.int r_42]) rfl ?_
              have hP : va_P D vwCl [(wa 1, oR (wa 2) m1), (wa 2, aZ ta 32 g1), (wa 3, oR (wa 4) m3), (wa 4, aZ ta 32 g3), (wa 5, oR (wa 6) m5), (wa 6, aZ ta 32 g5), (wa 7, oR (wa 8) m7), (wa 8, aZ ta 32 g7), (wa 11, oR (wa 12) m11), (wa 12, aZ ta 8 g11), (wa 13, oR (wa 14) m13), (wa 14, aZ ta 8 g13), (lg 0, oG lg ya yb wa wb o v ct), (wa 0, oW wa st lv cnt cm), (wa 9, oR (wa 10) m9), (wa 10, aZ ta 8 g9)] H := hP
              have hD : va_D A [(wa 1, oR (wa 2) m1), (wa 2, aZ ta 32 g1), (wa 3, oR (wa 4) m3), (wa 4, aZ ta 32 g3), (wa 5, oR (wa 6) m5), (wa 6, aZ ta 32 g5), (wa 7, oR (wa 8) m7), (wa 8, aZ ta 32 g7), (wa 11, oR (wa 12) m11), (wa 12, aZ ta 8 g11), (wa 13, oR (wa 14) m13), (wa 14, aZ ta 8 g13), (lg 0, oG lg ya yb wa wb o v ct), (wa 0, oW wa st lv cnt cm), (wa 9, oR (wa 10) m9), (wa 10, aZ ta 8 g9)] := hD
              have hq_6 : ((r_42 : Int32) = if st = 0 then -1 else secF (qL g1 m1) (qL g3 m3) (qL g5 m5) (qL g7 m7) (qL g9 m9) (qL g11 m11) (qL g13 m13) (nI 4) j) := by
                rw [if_neg (by omega)]
                first | (rw [hr_42, qAt_L]; rfl) | exact hsn.symm
              exact hret (r_42) _ _ _ _ dX9_secret_45 hq_6 (hP.sub [12, 13, 0, 1, 2, 3, 4, 5, 6, 7, 14, 15, 8, 9, 10, 11] rfl) (hD.sub [12, 13, 0, 1, 2, 3, 4, 5, 6, 7, 14, 15, 8, 9, 10, 11] (by decide) rfl) hS
            · skip
              by_cases hk5 : wh = nI 5
              · skip
                subst hk5
                refine cs_V (pc := 25) (idx := 212) (n := 1) (wr := [(wa 1, oR (wa 2) m1), (wa 2, aZ ta 32 g1), (wa 3, oR (wa 4) m3), (wa 4, aZ ta 32 g3), (wa 5, oR (wa 6) m5), (wa 6, aZ ta 32 g5), (wa 7, oR (wa 8) m7), (wa 8, aZ ta 32 g7), (wa 9, oR (wa 10) m9), (wa 10, aZ ta 8 g9), (wa 11, oR (wa 12) m11), (wa 12, aZ ta 8 g11), (wa 13, oR (wa 14) m13), (wa 14, aZ ta 8 g13), (lg 0, oG lg ya yb wa wb o v ct)]) (As := [.int (nI 5)]) (rest := []) (ci := 6) hx hb hml hown hts hGok hK hA hG hl.1 hP hD hS (ct_X8_secretRow_5 ll D ta gs wa st lv cnt cm  H.size) tw_952 tw_949 tw_950 tw_951 tw_68 hdX8_secretRow rfl ⟨rfl, rfl, Nat.le_of_ble_eq_true rfl, Nat.le_of_ble_eq_true rfl, Nat.le_of_ble_eq_true rfl, Nat.le_of_ble_eq_true rfl⟩ rfl rfl (q0 := 0) rfl [0] [1, 2, 3, 4, 5, 6, 7, 8, 9, 10, 11, 12, 13, 14, 15] rfl rfl (by decide) rfl (Nat.le_of_ble_eq_true rfl) dX9_secret_25 (fun u H locs hq hP hD hS => ?_)
                refine W.eq (g2 := F0 mm 28 ls [.ref (wa 11)]) rfl ?_
                have hP : va_P D vwCl [(wa 1, oR (wa 2) m1), (wa 2, aZ ta 32 g1), (wa 3, oR (wa 4) m3), (wa 4, aZ ta 32 g3), (wa 5, oR (wa 6) m5), (wa 6, aZ ta 32 g5), (wa 7, oR (wa 8) m7), (wa 8, aZ ta 32 g7), (wa 9, oR (wa 10) m9), (wa 10, aZ ta 8 g9), (wa 11, oR (wa 12) m11), (wa 12, aZ ta 8 g11), (wa 13, oR (wa 14) m13), (wa 14, aZ ta 8 g13), (lg 0, oG lg ya yb wa wb o v ct), (wa 0, oW wa st lv cnt cm)] H := hP
                have hD : va_D A [(wa 1, oR (wa 2) m1), (wa 2, aZ ta 32 g1), (wa 3, oR (wa 4) m3), (wa 4, aZ ta 32 g3), (wa 5, oR (wa 6) m5), (wa 6, aZ ta 32 g5), (wa 7, oR (wa 8) m7), (wa 8, aZ ta 32 g7), (wa 9, oR (wa 10) m9), (wa 10, aZ ta 8 g9), (wa 11, oR (wa 12) m11), (wa 12, aZ ta 8 g11), (wa 13, oR (wa 14) m13), (wa 14, aZ ta 8 g13), (lg 0, oG lg ya yb wa wb o v ct), (wa 0, oW wa st lv cnt cm)] := hD
                refine lv_astore (pc := 28) (lv' := [(5, .ref (wa 11)), (4, .ref (wa 0)), (0, .ref (lg 0)), (1, .int (nI 0)), (2, .int (nI 5)), (3, .int j)]) hx hb dX9_secret_28 hl (by decide) rfl (fun ls hl => ?_)
                refine lv_aload (pc := 30) hx hb dX9_secret_30 (lv_at hl 0 rfl) ?_
                refine lv_ifnonnull (pc := 32) (tgt := 39) hx hb dX9_secret_32 (by decide) ?_
                refine lv_aload (pc := 39) hx hb dX9_secret_39 (lv_at hl 0 rfl) ?_
                refine lv_iload_n (pc := 41) hx hb dX9_secret_41 rfl (lv_at hl 5 rfl) ?_
                refine cs_V (pc := 42) (idx := 76) (n := 1) (wr := [(wa 1, oR (wa 2) m1), (wa 2, aZ ta 32 g1), (wa 3, oR (wa 4) m3), (wa 4, aZ ta 32 g3), (wa 5, oR (wa 6) m5), (wa 6, aZ ta 32 g5), (wa 7, oR (wa 8) m7), (wa 8, aZ ta 32 g7), (wa 9, oR (wa 10) m9), (wa 10, aZ ta 8 g9), (wa 13, oR (wa 14) m13), (wa 14, aZ ta 8 g13), (lg 0, oG lg ya yb wa wb o v ct), (wa 0, oW wa st lv cnt cm)]) (As := [.int j]) (rest := []) (ci := 5) hx hb hml hown hts hGok hK hA hG hl.1 hP hD hS (ct_X6_at_any ll D ta hGok (wa 11) (wa 12) 8 g11 m11 j (by first | assumption | omega | rfl | decide) (by first | assumption | omega | rfl | decide) H.size) tw_413 tw_410 tw_411 tw_412 tw_66 hdX6_at rfl ⟨rfl, rfl, Nat.le_of_ble_eq_true rfl, Nat.le_of_ble_eq_true rfl, Nat.le_of_ble_eq_true rfl, Nat.le_of_ble_eq_true rfl⟩ rfl rfl (q0 := 10) rfl [10, 11] [0, 1, 2, 3, 4, 5, 6, 7, 8, 9, 12, 13, 14, 15] rfl rfl (by decide) rfl (Nat.le_of_ble_eq_true rfl) dX9_secret_42 (fun u H locs hq hP hD hS => ?_)
                generalize u = r_42 at hq hP hD ⊢
                have hq : (r_42 = qAt g11 m11 j) := hq
                have hr_42 := hq
                refine W.eq (g2 := F0 mm 45 ls [.int r_42]) rfl ?_
                have hP : va_P D vwCl [(wa 1, oR (wa 2) m1), (wa 2, aZ ta 32 g1), (wa 3, oR (wa 4) m3), (wa 4, aZ ta 32 g3), (wa 5, oR (wa 6) m5), (wa 6, aZ ta 32 g5), (wa 7, oR (wa 8) m7), (wa 8, aZ ta 32 g7), (wa 9, oR (wa 10) m9), (wa 10, aZ ta 8 g9), (wa 13, oR (wa 14) m13), (wa 14, aZ ta 8 g13), (lg 0, oG lg ya yb wa wb o v ct), (wa 0, oW wa st lv cnt cm), (wa 11, oR (wa 12) m11), (wa 12, aZ ta 8 g11)] H := hP
                have hD : va_D A [(wa 1, oR (wa 2) m1), (wa 2, aZ ta 32 g1), (wa 3, oR (wa 4) m3), (wa 4, aZ ta 32 g3), (wa 5, oR (wa 6) m5), (wa 6, aZ ta 32 g5), (wa 7, oR (wa 8) m7), (wa 8, aZ ta 32 g7), (wa 9, oR (wa 10) m9), (wa 10, aZ ta 8 g9), (wa 13, oR (wa 14) m13), (wa 14, aZ ta 8 g13), (lg 0, oG lg ya yb wa wb o v ct), (wa 0, oW wa st lv cnt cm), (wa 11, oR (wa 12) m11), (wa 12, aZ ta 8 g11)] := hD
                have hq_7 : ((r_42 : Int32) = if st = 0 then -1 else secF (qL g1 m1) (qL g3 m3) (qL g5 m5) (qL g7 m7) (qL g9 m9) (qL g11 m11) (qL g13 m13) (nI 5) j) := by
                  rw [if_neg (by omega)]
                  first | (rw [hr_42, qAt_L]; rfl) | exact hsn.symm
                exact hret (r_42) _ _ _ _ dX9_secret_45 hq_7 (hP.sub [12, 13, 0, 1, 2, 3, 4, 5, 6, 7, 8, 9, 14, 15, 10, 11] rfl) (hD.sub [12, 13, 0, 1, 2, 3, 4, 5, 6, 7, 8, 9, 14, 15, 10, 11] (by decide) rfl) hS
              · skip
                by_cases hk6 : wh = nI 6
                · skip
                  subst hk6
                  refine cs_V (pc := 25) (idx := 212) (n := 1) (wr := [(wa 1, oR (wa 2) m1), (wa 2, aZ ta 32 g1), (wa 3, oR (wa 4) m3), (wa 4, aZ ta 32 g3), (wa 5, oR (wa 6) m5), (wa 6, aZ ta 32 g5), (wa 7, oR (wa 8) m7), (wa 8, aZ ta 32 g7), (wa 9, oR (wa 10) m9), (wa 10, aZ ta 8 g9), (wa 11, oR (wa 12) m11), (wa 12, aZ ta 8 g11), (wa 13, oR (wa 14) m13), (wa 14, aZ ta 8 g13), (lg 0, oG lg ya yb wa wb o v ct)]) (As := [.int (nI 6)]) (rest := []) (ci := 6) hx hb hml hown hts hGok hK hA hG hl.1 hP hD hS (ct_X8_secretRow_6 ll D ta gs wa st lv cnt cm  H.size) tw_952 tw_949 tw_950 tw_951 tw_68 hdX8_secretRow rfl ⟨rfl, rfl, Nat.le_of_ble_eq_true rfl, Nat.le_of_ble_eq_true rfl, Nat.le_of_ble_eq_true rfl, Nat.le_of_ble_eq_true rfl⟩ rfl rfl (q0 := 0) rfl [0] [1, 2, 3, 4, 5, 6, 7, 8, 9, 10, 11, 12, 13, 14, 15] rfl rfl (by decide) rfl (Nat.le_of_ble_eq_true rfl) dX9_secret_25 (fun u H locs hq hP hD hS => ?_)
                  refine W.eq (g2 := F0 mm 28 ls [.ref (wa 13)]) rfl ?_
                  have hP : va_P D vwCl [(wa 1, oR (wa 2) m1), (wa 2, aZ ta 32 g1), (wa 3, oR (wa 4) m3), (wa 4, aZ ta 32 g3), (wa 5, oR (wa 6) m5), (wa 6, aZ ta 32 g5), (wa 7, oR (wa 8) m7), (wa 8, aZ ta 32 g7), (wa 9, oR (wa 10) m9), (wa 10, aZ ta 8 g9), (wa 11, oR (wa 12) m11), (wa 12, aZ ta 8 g11), (wa 13, oR (wa 14) m13), (wa 14, aZ ta 8 g13), (lg 0, oG lg ya yb wa wb o v ct), (wa 0, oW wa st lv cnt cm)] H := hP
                  have hD : va_D A [(wa 1, oR (wa 2) m1), (wa 2, aZ ta 32 g1), (wa 3, oR (wa 4) m3), (wa 4, aZ ta 32 g3), (wa 5, oR (wa 6) m5), (wa 6, aZ ta 32 g5), (wa 7, oR (wa 8) m7), (wa 8, aZ ta 32 g7), (wa 9, oR (wa 10) m9), (wa 10, aZ ta 8 g9), (wa 11, oR (wa 12) m11), (wa 12, aZ ta 8 g11), (wa 13, oR (wa 14) m13), (wa 14, aZ ta 8 g13), (lg 0, oG lg ya yb wa wb o v ct), (wa 0, oW wa st lv cnt cm)] := hD
                  refine lv_astore (pc := 28) (lv' := [(5, .ref (wa 13)), (4, .ref (wa 0)), (0, .ref (lg 0)), (1, .int (nI 0)), (2, .int (nI 6)), (3, .int j)]) hx hb dX9_secret_28 hl (by decide) rfl (fun ls hl => ?_)
                  refine lv_aload (pc := 30) hx hb dX9_secret_30 (lv_at hl 0 rfl) ?_
                  refine lv_ifnonnull (pc := 32) (tgt := 39) hx hb dX9_secret_32 (by decide) ?_
                  refine lv_aload (pc := 39) hx hb dX9_secret_39 (lv_at hl 0 rfl) ?_
                  refine lv_iload_n (pc := 41) hx hb dX9_secret_41 rfl (lv_at hl 5 rfl) ?_
                  refine cs_V (pc := 42) (idx := 76) (n := 1) (wr := [(wa 1, oR (wa 2) m1), (wa 2, aZ ta 32 g1), (wa 3, oR (wa 4) m3), (wa 4, aZ ta 32 g3), (wa 5, oR (wa 6) m5), (wa 6, aZ ta 32 g5), (wa 7, oR (wa 8) m7), (wa 8, aZ ta 32 g7), (wa 9, oR (wa 10) m9), (wa 10, aZ ta 8 g9), (wa 11, oR (wa 12) m11), (wa 12, aZ ta 8 g11), (lg 0, oG lg ya yb wa wb o v ct), (wa 0, oW wa st lv cnt cm)]) (As := [.int j]) (rest := []) (ci := 5) hx hb hml hown hts hGok hK hA hG hl.1 hP hD hS (ct_X6_at_any ll D ta hGok (wa 13) (wa 14) 8 g13 m13 j (by first | assumption | omega | rfl | decide) (by first | assumption | omega | rfl | decide) H.size) tw_413 tw_410 tw_411 tw_412 tw_66 hdX6_at rfl ⟨rfl, rfl, Nat.le_of_ble_eq_true rfl, Nat.le_of_ble_eq_true rfl, Nat.le_of_ble_eq_true rfl, Nat.le_of_ble_eq_true rfl⟩ rfl rfl (q0 := 12) rfl [12, 13] [0, 1, 2, 3, 4, 5, 6, 7, 8, 9, 10, 11, 14, 15] rfl rfl (by decide) rfl (Nat.le_of_ble_eq_true rfl) dX9_secret_42 (fun u H locs hq hP hD hS => ?_)
                  generalize u = r_42 at hq hP hD ⊢
                  have hq : (r_42 = qAt g13 m13 j) := hq
                  have hr_42 := hq
                  refine W.eq (g2 := F0 mm 45 ls [.int r_42]) rfl ?_
                  have hP : va_P D vwCl [(wa 1, oR (wa 2) m1), (wa 2, aZ ta 32 g1), (wa 3, oR (wa 4) m3), (wa 4, aZ ta 32 g3), (wa 5, oR (wa 6) m5), (wa 6, aZ ta 32 g5), (wa 7, oR (wa 8) m7), (wa 8, aZ ta 32 g7), (wa 9, oR (wa 10) m9), (wa 10, aZ ta 8 g9), (wa 11, oR (wa 12) m11), (wa 12, aZ ta 8 g11), (lg 0, oG lg ya yb wa wb o v ct), (wa 0, oW wa st lv cnt cm), (wa 13, oR (wa 14) m13), (wa 14, aZ ta 8 g13)] H := hP
                  have hD : va_D A [(wa 1, oR (wa 2) m1), (wa 2, aZ ta 32 g1), (wa 3, oR (wa 4) m3), (wa 4, aZ ta 32 g3), (wa 5, oR (wa 6) m5), (wa 6, aZ ta 32 g5), (wa 7, oR (wa 8) m7), (wa 8, aZ ta 32 g7), (wa 9, oR (wa 10) m9), (wa 10, aZ ta 8 g9), (wa 11, oR (wa 12) m11), (wa 12, aZ ta 8 g11), (lg 0, oG lg ya yb wa wb o v ct), (wa 0, oW wa st lv cnt cm), (wa 13, oR (wa 14) m13), (wa 14, aZ ta 8 g13)] := hD
                  have hq_8 : ((r_42 : Int32) = if st = 0 then -1 else secF (qL g1 m1) (qL g3 m3) (qL g5 m5) (qL g7 m7) (qL g9 m9) (qL g11 m11) (qL g13 m13) (nI 6) j) := by
                    rw [if_neg (by omega)]
                    first | (rw [hr_42, qAt_L]; rfl) | exact hsn.symm
                  exact hret (r_42) _ _ _ _ dX9_secret_45 hq_8 (hP.sub [12, 13, 0, 1, 2, 3, 4, 5, 6, 7, 8, 9, 10, 11, 14, 15] rfl) (hD.sub [12, 13, 0, 1, 2, 3, 4, 5, 6, 7, 8, 9, 10, 11, 14, 15] (by decide) rfl) hS
                · skip
                  have hsn := sec_no (E := qL g1 m1) (M := qL g3 m3) (B := qL g5 m5) (S := qL g7 m7) (HP := qL g9 m9) (CP := qL g11 m11) (CH := qL g13 m13) (j := j) hk0 hk1 hk2 hk3 hk4 hk5 hk6
                  refine cs_V (pc := 25) (idx := 212) (n := 1) (wr := [(wa 1, oR (wa 2) m1), (wa 2, aZ ta 32 g1), (wa 3, oR (wa 4) m3), (wa 4, aZ ta 32 g3), (wa 5, oR (wa 6) m5), (wa 6, aZ ta 32 g5), (wa 7, oR (wa 8) m7), (wa 8, aZ ta 32 g7), (wa 9, oR (wa 10) m9), (wa 10, aZ ta 8 g9), (wa 11, oR (wa 12) m11), (wa 12, aZ ta 8 g11), (wa 13, oR (wa 14) m13), (wa 14, aZ ta 8 g13), (lg 0, oG lg ya yb wa wb o v ct)]) (As := [.int wh]) (rest := []) (ci := 6) hx hb hml hown hts hGok hK hA hG hl.1 hP hD hS (ct_X8_secretRow_no ll D ta gs wa st lv cnt cm wh (fun k hk => match k, hk with | 0, _ => hk0 | 1, _ => hk1 | 2, _ => hk2 | 3, _ => hk3 | 4, _ => hk4 | 5, _ => hk5 | 6, _ => hk6) H.size) tw_952 tw_949 tw_950 tw_951 tw_68 hdX8_secretRow rfl ⟨rfl, rfl, Nat.le_of_ble_eq_true rfl, Nat.le_of_ble_eq_true rfl, Nat.le_of_ble_eq_true rfl, Nat.le_of_ble_eq_true rfl⟩ rfl rfl (q0 := 0) rfl [0] [1, 2, 3, 4, 5, 6, 7, 8, 9, 10, 11, 12, 13, 14, 15] rfl rfl (by decide) rfl (Nat.le_of_ble_eq_true rfl) dX9_secret_25 (fun u H locs hq hP hD hS => ?_)
                  refine W.eq (g2 := F0 mm 28 ls [.null]) rfl ?_
                  have hP : va_P D vwCl [(wa 1, oR (wa 2) m1), (wa 2, aZ ta 32 g1), (wa 3, oR (wa 4) m3), (wa 4, aZ ta 32 g3), (wa 5, oR (wa 6) m5), (wa 6, aZ ta 32 g5), (wa 7, oR (wa 8) m7), (wa 8, aZ ta 32 g7), (wa 9, oR (wa 10) m9), (wa 10, aZ ta 8 g9), (wa 11, oR (wa 12) m11), (wa 12, aZ ta 8 g11), (wa 13, oR (wa 14) m13), (wa 14, aZ ta 8 g13), (lg 0, oG lg ya yb wa wb o v ct), (wa 0, oW wa st lv cnt cm)] H := hP
                  have hD : va_D A [(wa 1, oR (wa 2) m1), (wa 2, aZ ta 32 g1), (wa 3, oR (wa 4) m3), (wa 4, aZ ta 32 g3), (wa 5, oR (wa 6) m5), (wa 6, aZ ta 32 g5), (wa 7, oR (wa 8) m7), (wa 8, aZ ta 32 g7), (wa 9, oR (wa 10) m9), (wa 10, aZ ta 8 g9), (wa 11, oR (wa 12) m11), (wa 12, aZ ta 8 g11), (wa 13, oR (wa 14) m13), (wa 14, aZ ta 8 g13), (lg 0, oG lg ya yb wa wb o v ct), (wa 0, oW wa st lv cnt cm)] := hD
                  refine lv_astoreN (pc := 28) (lv' := [(5, .null), (4, .ref (wa 0)), (0, .ref (lg 0)), (1, .int (nI 0)), (2, .int wh), (3, .int j)]) hx hb dX9_secret_28 hl (by decide) rfl (fun ls hl => ?_)
                  refine lv_aloadN (pc := 30) hx hb dX9_secret_30 (lv_at hl 0 rfl) ?_
                  refine lv_ifnonnullN (pc := 32) hx hb dX9_secret_32 ?_
                  refine lv_iconst (pc := 35) (v := (-1)) hx hb dX9_secret_35 (by decide +kernel) ?_
                  refine lv_goto (pc := 36) (tgt := 45) hx hb dX9_secret_36 (by decide) ?_
                  refine q_top (y := (-1)) (by first | rfl | decide +kernel | (simp; done)) ?_
                  have hq_9 : (((-1) : Int32) = if st = 0 then -1 else secF (qL g1 m1) (qL g3 m3) (qL g5 m5) (qL g7 m7) (qL g9 m9) (qL g11 m11) (qL g13 m13) wh j) := by
                    rw [if_neg (by omega)]
                    first | (rw [hr_42, qAt_L]; rfl) | exact hsn.symm
                  exact hret (-1) _ _ _ _ dX9_secret_45 hq_9 (hP.sub [14, 15, 0, 1, 2, 3, 4, 5, 6, 7, 8, 9, 10, 11, 12, 13] rfl) (hD.sub [14, 15, 0, 1, 2, 3, 4, 5, 6, 7, 8, 9, 10, 11, 12, 13] (by decide) rfl) hS
  · skip
    rw [q_eq0 (by omega)] at c_1
    have hs0 := c_1
    refine lv_iconst (pc := 20) (v := (-1)) hx hb dX9_secret_20 (by decide +kernel) ?_
    refine q_top (y := (-1)) (by first | rfl | decide +kernel | (simp; done)) ?_
    have hq_10 : (((-1) : Int32) = if st = 0 then -1 else secF (qL g1 m1) (qL g3 m3) (qL g5 m5) (qL g7 m7) (qL g9 m9) (qL g11 m11) (qL g13 m13) wh j) := by
      rw [if_pos (by omega)]
    exact hret (-1) _ _ _ _ dX9_secret_21 hq_10 (hP.sub [15, 0, 1, 2, 3, 4, 5, 6, 7, 8, 9, 10, 11, 12, 13, 14] rfl) (hD.sub [15, 0, 1, 2, 3, 4, 5, 6, 7, 8, 9, 10, 11, 12, 13, 14] (by decide) rfl) hS
set_option maxHeartbeats 4000000 in
set_option maxRecDepth 100000 in
theorem ct_X9_about_1 (ll : Launch) (D : va_G) (ta : Nat → ClassId) (gs : Nat → Nat) (lg : Nat → Nat) (ya : Nat → Nat) (yb : Nat → Nat) (wa : Nat → Nat) (wb : Nat → Nat) (o : Nat → Nat) (v : Nat → Nat) (ct : Nat) (st : Nat) (lv : Nat) (cnt : Nat) (cm : Bool) (ru : Nat) (ln : Nat) (gl : Nat → BitVec 8) (nl : Nat) (gou : Nat → BitVec 8) (nou : Nat) (i : Int32)  (sz : Nat) : CT ll yX9_about cX9_about 5 (some .int) ({ frames := 1, cells := 0, slots := 0, locals := 21 } : Room) D ta ((GC gs)) [.ref (lg 0), .int (nI 1), .int i] [(lg 0, oG lg ya yb wa wb o v ct), (wb 0, oW wb st lv cnt cm), (yb 0, oK yb ru ln), (lg 5, oR (lg 6) nl), (lg 6, aZ ta 300 gl), (lg 3, oR (lg 4) nou), (lg 4, aZ ta 400 gou)] sz (S := Int32) (fun u => some (.int u)) (fun u => ((u : Int32) = aboutF st lv ru ln ct nl nou i)) (fun u => [(lg 0, oG lg ya yb wa wb o v ct), (wb 0, oW wb st lv cnt cm), (yb 0, oK yb ru ln), (lg 5, oR (lg 6) nl), (lg 6, aZ ta 300 gl), (lg 3, oR (lg 4) nou), (lg 4, aZ ta 400 gou)]) 0 0 := by
  refine CT.of_i (r := fun u => u) rfl (by decide) (Nat.le_of_ble_eq_true rfl) ?_
  have hGok := GC_ok gs
  intro pp ee ss mm below meth kc A Q hx hb hml hown hin hts hK hA hsz hG hret H locs hP hD hS ls hl
  have hl : lv_has ls 5 [(0, .ref (lg 0)), (1, .int (nI 1)), (2, .int i)] := hl
  refine lv_aload_n (pc := 0) hx hb dX9_about_0 rfl (lv_at hl 0 rfl) ?_
  refine lv_iload_n (pc := 1) hx hb dX9_about_1 rfl (lv_at hl 1 rfl) ?_
  refine cs_V (pc := 2) (idx := 198) (n := 1) (wr := [(wb 0, oW wb st lv cnt cm), (yb 0, oK yb ru ln), (lg 5, oR (lg 6) nl), (lg 6, aZ ta 300 gl), (lg 3, oR (lg 4) nou), (lg 4, aZ ta 400 gou)]) (As := [.int (nI 1)]) (rest := []) (ci := 7) hx hb hml hown hts hGok hK hA hG hl.1 hP hD hS (ct_X9_sessionOf_1 ll D ta hGok lg ya yb wa wb o v ct  H.size) tw_934 tw_931 tw_933 tw_25 tw_65 hdX9_sessionOf rfl ⟨rfl, rfl, Nat.le_of_ble_eq_true rfl, Nat.le_of_ble_eq_true rfl, Nat.le_of_ble_eq_true rfl, Nat.le_of_ble_eq_true rfl⟩ rfl rfl (q0 := 0) rfl [0] [1, 2, 3, 4, 5, 6] rfl rfl (by decide) rfl (Nat.le_of_ble_eq_true rfl) dX9_about_2 (fun u H locs hq hP hD hS => ?_)
  refine W.eq (g2 := F0 mm 5 ls [.ref (wb 0)]) rfl ?_
  have hP : va_P D vwCl [(wb 0, oW wb st lv cnt cm), (yb 0, oK yb ru ln), (lg 5, oR (lg 6) nl), (lg 6, aZ ta 300 gl), (lg 3, oR (lg 4) nou), (lg 4, aZ ta 400 gou), (lg 0, oG lg ya yb wa wb o v ct)] H := hP
  have hD : va_D A [(wb 0, oW wb st lv cnt cm), (yb 0, oK yb ru ln), (lg 5, oR (lg 6) nl), (lg 6, aZ ta 300 gl), (lg 3, oR (lg 4) nou), (lg 4, aZ ta 400 gou), (lg 0, oG lg ya yb wa wb o v ct)] := hD
  refine lv_astore_n (pc := 5) (lv' := [(3, .ref (wb 0)), (0, .ref (lg 0)), (1, .int (nI 1)), (2, .int i)]) hx hb dX9_about_5 rfl hl (by decide) rfl (fun ls hl => ?_)
  refine lv_aload_n (pc := 6) hx hb dX9_about_6 rfl (lv_at hl 1 rfl) ?_
  refine lv_iload_n (pc := 7) hx hb dX9_about_7 rfl (lv_at hl 2 rfl) ?_
  refine cs_V (pc := 8) (idx := 91) (n := 1) (wr := [(wb 0, oW wb st lv cnt cm), (yb 0, oK yb ru ln), (lg 5, oR (lg 6) nl), (lg 6, aZ ta 300 gl), (lg 3, oR (lg 4) nou), (lg 4, aZ ta 400 gou)]) (As := [.int (nI 1)]) (rest := []) (ci := 7) hx hb hml hown hts hGok hK hA hG hl.1 hP hD hS (ct_X9_keysOf_1 ll D ta hGok lg ya yb wa wb o v ct  H.size) tw_455 tw_452 tw_454 tw_0 tw_65 hdX9_keysOf rfl ⟨rfl, rfl, Nat.le_of_ble_eq_true rfl, Nat.le_of_ble_eq_true rfl, Nat.le_of_ble_eq_true rfl, Nat.le_of_ble_eq_true rfl⟩ rfl rfl (q0 := 6) rfl [6] [0, 1, 2, 3, 4, 5] rfl rfl (by decide) rfl (Nat.le_of_ble_eq_true rfl) dX9_about_8 (fun u H locs hq hP hD hS => ?_)
  refine W.eq (g2 := F0 mm 11 ls [.ref (yb 0)]) rfl ?_
  have hP : va_P D vwCl [(wb 0, oW wb st lv cnt cm), (yb 0, oK yb ru ln), (lg 5, oR (lg 6) nl), (lg 6, aZ ta 300 gl), (lg 3, oR (lg 4) nou), (lg 4, aZ ta 400 gou), (lg 0, oG lg ya yb wa wb o v ct)] H := hP
  have hD : va_D A [(wb 0, oW wb st lv cnt cm), (yb 0, oK yb ru ln), (lg 5, oR (lg 6) nl), (lg 6, aZ ta 300 gl), (lg 3, oR (lg 4) nou), (lg 4, aZ ta 400 gou), (lg 0, oG lg ya yb wa wb o v ct)] := hD
  refine lv_astore (pc := 11) (lv' := [(4, .ref (yb 0)), (3, .ref (wb 0)), (0, .ref (lg 0)), (1, .int (nI 1)), (2, .int i)]) hx hb dX9_about_11 hl (by decide) rfl (fun ls hl => ?_)
  refine lv_aload_n (pc := 13) hx hb dX9_about_13 rfl (lv_at hl 1 rfl) ?_
  refine lv_ifnull (pc := 14) hx hb dX9_about_14 ?_
  refine lv_aload (pc := 17) hx hb dX9_about_17 (lv_at hl 0 rfl) ?_
  refine lv_ifnonnull (pc := 19) (tgt := 24) hx hb dX9_about_19 (by decide) ?_
  refine lv_iload_n (pc := 24) hx hb dX9_about_24 rfl (lv_at hl 4 rfl) ?_
  by_cases c_1 : i = nI 0
  · subst c_1
    refine lv_tableIn (pc := 25) (tgt := 68) hx hb dX9_about_25 (off := 43) (by decide) (by decide) (by decide) (by decide) ?_
    refine lv_aload_n (pc := 68) hx hb dX9_about_68 rfl (lv_at hl 1 rfl) ?_
    refine va_getN (pc := 69) (D := D) (ci := 6) (v := .int (nI st)) (C := RX8) (T := TX8) (N := 14) hx hb hts iu8 hown hK hP 0 rfl rfl 0 (by decide) (va_Nw.use rfl (GC_w140 hG)) (fun _ h9 => h9) rfl dX9_about_69 ?_
    refine q_top (y := (nI st)) (by first | rfl | decide +kernel | (simp; done)) ?_
    have hq_2 : (((nI st) : Int32) = aboutF st lv ru ln ct nl nou (nI 0)) := by
      rfl
    exact hret (nI st) _ _ _ _ dX9_about_72 hq_2 (hP.sub [6, 0, 1, 2, 3, 4, 5] rfl) (hD.sub [6, 0, 1, 2, 3, 4, 5] (by decide) rfl) hS
  by_cases c_3 : i = nI 1
  · subst c_3
    refine lv_tableIn (pc := 25) (tgt := 73) hx hb dX9_about_25 (off := 48) (by decide) (by decide) (by decide) (by decide) ?_
    refine lv_aload_n (pc := 73) hx hb dX9_about_73 rfl (lv_at hl 1 rfl) ?_
    refine va_getN (pc := 74) (D := D) (ci := 6) (v := .int (nI lv)) (C := RX8) (T := TX8) (N := 14) hx hb hts iu8 hown hK hP 0 rfl rfl 1 (by decide) (va_Nw.use rfl (GC_w143 hG)) (fun _ h9 => h9) rfl dX9_about_74 ?_
    refine q_top (y := (nI lv)) (by first | rfl | decide +kernel | (simp; done)) ?_
    have hq_4 : (((nI lv) : Int32) = aboutF st lv ru ln ct nl nou (nI 1)) := by
      rfl
    exact hret (nI lv) _ _ _ _ dX9_about_77 hq_4 (hP.sub [6, 0, 1, 2, 3, 4, 5] rfl) (hD.sub [6, 0, 1, 2, 3, 4, 5] (by decide) rfl) hS
  by_cases c_5 : i = nI 2
  · subst c_5
    refine lv_tableIn (pc := 25) (tgt := 78) hx hb dX9_about_25 (off := 53) (by decide) (by decide) (by decide) (by decide) ?_
    refine lv_aload (pc := 78) hx hb dX9_about_78 (lv_at hl 0 rfl) ?_
    refine va_getN (pc := 80) (D := D) (ci := 2) (v := .int (nI ru)) (C := RX3) (T := TX3) (N := 5) hx hb hts iu3 hown hK hP 1 rfl rfl 0 (by decide) (va_Nw.use rfl (GC_w107 hG)) (fun _ h9 => h9) rfl dX9_about_80 ?_
    refine q_top (y := (nI ru)) (by first | rfl | decide +kernel | (simp; done)) ?_
    have hq_6 : (((nI ru) : Int32) = aboutF st lv ru ln ct nl nou (nI 2)) := by
      rfl
    exact hret (nI ru) _ _ _ _ dX9_about_83 hq_6 (hP.sub [6, 0, 1, 2, 3, 4, 5] rfl) (hD.sub [6, 0, 1, 2, 3, 4, 5] (by decide) rfl) hS
  by_cases c_7 : i = nI 3
  · subst c_7
    refine lv_tableIn (pc := 25) (tgt := 84) hx hb dX9_about_25 (off := 59) (by decide) (by decide) (by decide) (by decide) ?_
    refine lv_aload (pc := 84) hx hb dX9_about_84 (lv_at hl 0 rfl) ?_
    refine va_getN (pc := 86) (D := D) (ci := 2) (v := .int (nI ln)) (C := RX3) (T := TX3) (N := 5) hx hb hts iu3 hown hK hP 1 rfl rfl 1 (by decide) (va_Nw.use rfl (GC_w110 hG)) (fun _ h9 => h9) rfl dX9_about_86 ?_
    refine q_top (y := (nI ln)) (by first | rfl | decide +kernel | (simp; done)) ?_
    have hq_8 : (((nI ln) : Int32) = aboutF st lv ru ln ct nl nou (nI 3)) := by
      rfl
    exact hret (nI ln) _ _ _ _ dX9_about_89 hq_8 (hP.sub [6, 0, 1, 2, 3, 4, 5] rfl) (hD.sub [6, 0, 1, 2, 3, 4, 5] (by decide) rfl) hS
  by_cases c_9 : i = nI 4
  · subst c_9
    refine lv_tableIn (pc := 25) (tgt := 90) hx hb dX9_about_25 (off := 65) (by decide) (by decide) (by decide) (by decide) ?_
    refine lv_aload_n (pc := 90) hx hb dX9_about_90 rfl (lv_at hl 2 rfl) ?_
    refine va_get (pc := 91) (D := D) (ci := 7) (v := .int (nI ct)) (C := RX9) (T := TX9) (N := 11) hx hb hts iu9 hown hK hP 6 rfl rfl 10 (by decide) (hts _ tw_362) (fun _ h9 => h9) rfl dX9_about_91 ?_
    refine q_top (y := (nI ct)) (by first | rfl | decide +kernel | (simp; done)) ?_
    have hq_10 : (((nI ct) : Int32) = aboutF st lv ru ln ct nl nou (nI 4)) := by
      rfl
    exact hret (nI ct) _ _ _ _ dX9_about_94 hq_10 (hP.sub [6, 0, 1, 2, 3, 4, 5] rfl) (hD.sub [6, 0, 1, 2, 3, 4, 5] (by decide) rfl) hS
  by_cases c_11 : i = nI 5
  · subst c_11
    refine lv_tableIn (pc := 25) (tgt := 95) hx hb dX9_about_25 (off := 70) (by decide) (by decide) (by decide) (by decide) ?_
    refine lv_aload_n (pc := 95) hx hb dX9_about_95 rfl (lv_at hl 2 rfl) ?_
    refine va_get (pc := 96) (D := D) (ci := 7) (v := .ref (lg 5)) (C := RX9) (T := TX9) (N := 11) hx hb hts iu9 hown hK hP 6 rfl rfl 2 (by decide) (hts _ tw_354) (fun _ h9 => h9) rfl dX9_about_96 ?_
    refine cs_V (pc := 99) (idx := 64) (n := 0) (wr := [(wb 0, oW wb st lv cnt cm), (yb 0, oK yb ru ln), (lg 3, oR (lg 4) nou), (lg 4, aZ ta 400 gou), (lg 0, oG lg ya yb wa wb o v ct)]) (As := []) (rest := []) (ci := 5) hx hb hml hown hts hGok hK hA hG hl.1 hP hD hS (ct_X6_size ll D ta hGok (lg 5) (lg 6) 300 gl nl  H.size) tw_393 tw_390 tw_391 tw_392 tw_66 hdX6_size rfl ⟨rfl, rfl, Nat.le_of_ble_eq_true rfl, Nat.le_of_ble_eq_true rfl, Nat.le_of_ble_eq_true rfl, Nat.le_of_ble_eq_true rfl⟩ rfl rfl (q0 := 2) rfl [2, 3] [0, 1, 4, 5, 6] rfl rfl (by decide) rfl (Nat.le_of_ble_eq_true rfl) dX9_about_99 (fun u H locs hq hP hD hS => ?_)
    refine W.eq (g2 := F0 mm 102 ls [.int (nI nl)]) rfl ?_
    have hP : va_P D vwCl [(wb 0, oW wb st lv cnt cm), (yb 0, oK yb ru ln), (lg 3, oR (lg 4) nou), (lg 4, aZ ta 400 gou), (lg 0, oG lg ya yb wa wb o v ct), (lg 5, oR (lg 6) nl), (lg 6, aZ ta 300 gl)] H := hP
    have hD : va_D A [(wb 0, oW wb st lv cnt cm), (yb 0, oK yb ru ln), (lg 3, oR (lg 4) nou), (lg 4, aZ ta 400 gou), (lg 0, oG lg ya yb wa wb o v ct), (lg 5, oR (lg 6) nl), (lg 6, aZ ta 300 gl)] := hD
    refine q_top (y := (nI nl)) (by first | rfl | decide +kernel | (simp; done)) ?_
    have hq_12 : (((nI nl) : Int32) = aboutF st lv ru ln ct nl nou (nI 5)) := by
      rfl
    exact hret (nI nl) _ _ _ _ dX9_about_102 hq_12 (hP.sub [4, 0, 1, 5, 6, 2, 3] rfl) (hD.sub [4, 0, 1, 5, 6, 2, 3] (by decide) rfl) hS
  by_cases c_13 : i = nI 6
  · subst c_13
    refine lv_tableIn (pc := 25) (tgt := 103) hx hb dX9_about_25 (off := 78) (by decide) (by decide) (by decide) (by decide) ?_
    refine lv_aload_n (pc := 103) hx hb dX9_about_103 rfl (lv_at hl 2 rfl) ?_
    refine va_get (pc := 104) (D := D) (ci := 7) (v := .ref (lg 3)) (C := RX9) (T := TX9) (N := 11) hx hb hts iu9 hown hK hP 6 rfl rfl 1 (by decide) (hts _ tw_353) (fun _ h9 => h9) rfl dX9_about_104 ?_
    refine cs_V (pc := 107) (idx := 64) (n := 0) (wr := [(wb 0, oW wb st lv cnt cm), (yb 0, oK yb ru ln), (lg 5, oR (lg 6) nl), (lg 6, aZ ta 300 gl), (lg 0, oG lg ya yb wa wb o v ct)]) (As := []) (rest := []) (ci := 5) hx hb hml hown hts hGok hK hA hG hl.1 hP hD hS (ct_X6_size ll D ta hGok (lg 3) (lg 4) 400 gou nou  H.size) tw_393 tw_390 tw_391 tw_392 tw_66 hdX6_size rfl ⟨rfl, rfl, Nat.le_of_ble_eq_true rfl, Nat.le_of_ble_eq_true rfl, Nat.le_of_ble_eq_true rfl, Nat.le_of_ble_eq_true rfl⟩ rfl rfl (q0 := 4) rfl [4, 5] [0, 1, 2, 3, 6] rfl rfl (by decide) rfl (Nat.le_of_ble_eq_true rfl) dX9_about_107 (fun u H locs hq hP hD hS => ?_)
    refine W.eq (g2 := F0 mm 110 ls [.int (nI nou)]) rfl ?_
    have hP : va_P D vwCl [(wb 0, oW wb st lv cnt cm), (yb 0, oK yb ru ln), (lg 5, oR (lg 6) nl), (lg 6, aZ ta 300 gl), (lg 0, oG lg ya yb wa wb o v ct), (lg 3, oR (lg 4) nou), (lg 4, aZ ta 400 gou)] H := hP
    have hD : va_D A [(wb 0, oW wb st lv cnt cm), (yb 0, oK yb ru ln), (lg 5, oR (lg 6) nl), (lg 6, aZ ta 300 gl), (lg 0, oG lg ya yb wa wb o v ct), (lg 3, oR (lg 4) nou), (lg 4, aZ ta 400 gou)] := hD
    refine q_top (y := (nI nou)) (by first | rfl | decide +kernel | (simp; done)) ?_
    have hq_14 : (((nI nou) : Int32) = aboutF st lv ru ln ct nl nou (nI 6)) := by
      rfl
    exact hret (nI nou) _ _ _ _ dX9_about_110 hq_14 (hP.sub [4, 0, 1, 2, 3, 5, 6] rfl) (hD.sub [4, 0, 1, 2, 3, 5, 6] (by decide) rfl) hS
  refine lv_tableOut (pc := 25) (tgt := 111) hx hb dX9_about_25 (q_out (n := 6) (fun k hk => match k, hk with | 0, _ => c_1 | 1, _ => c_3 | 2, _ => c_5 | 3, _ => c_7 | 4, _ => c_9 | 5, _ => c_11 | 6, _ => c_13 | k + 7, h => absurd h (by omega)) (by decide)) (by decide) ?_
  refine lv_iconst (pc := 111) (v := (-1)) hx hb dX9_about_111 (by decide +kernel) ?_
  refine q_top (y := (-1)) (by first | rfl | decide +kernel | (simp; done)) ?_
  have hq_15 : (((-1) : Int32) = aboutF st lv ru ln ct nl nou i) := by
    symm; simp only [aboutF]; simp_all
  exact hret (-1) _ _ _ _ dX9_about_112 hq_15 (hP.sub [6, 0, 1, 2, 3, 4, 5] rfl) (hD.sub [6, 0, 1, 2, 3, 4, 5] (by decide) rfl) hS
set_option maxHeartbeats 4000000 in
set_option maxRecDepth 100000 in
theorem ct_X9_secret_1 (ll : Launch) (D : va_G) (ta : Nat → ClassId) (gs : Nat → Nat) (lg : Nat → Nat) (ya : Nat → Nat) (yb : Nat → Nat) (wa : Nat → Nat) (wb : Nat → Nat) (o : Nat → Nat) (v : Nat → Nat) (ct : Nat) (st : Nat) (lv : Nat) (cnt : Nat) (cm : Bool) (g1 : Nat → BitVec 8) (m1 : Nat) (g3 : Nat → BitVec 8) (m3 : Nat) (g5 : Nat → BitVec 8) (m5 : Nat) (g7 : Nat → BitVec 8) (m7 : Nat) (g9 : Nat → BitVec 8) (m9 : Nat) (g11 : Nat → BitVec 8) (m11 : Nat) (g13 : Nat → BitVec 8) (m13 : Nat) (wh : Int32) (j : Int32) (hst : st ≤ 2) (hm1 : m1 ≤ 32) (hm3 : m3 ≤ 32) (hm5 : m5 ≤ 32) (hm7 : m7 ≤ 32) (hm9 : m9 ≤ 8) (hm11 : m11 ≤ 8) (hm13 : m13 ≤ 8) (sz : Nat) : CT ll yX9_secret cX9_secret 6 (some .int) ({ frames := 1, cells := 0, slots := 0, locals := 21 } : Room) D ta ((GC gs)) [.ref (lg 0), .int (nI 1), .int wh, .int j] [(lg 0, oG lg ya yb wa wb o v ct), (wb 0, oW wb st lv cnt cm), (wb 1, oR (wb 2) m1), (wb 2, aZ ta 32 g1), (wb 3, oR (wb 4) m3), (wb 4, aZ ta 32 g3), (wb 5, oR (wb 6) m5), (wb 6, aZ ta 32 g5), (wb 7, oR (wb 8) m7), (wb 8, aZ ta 32 g7), (wb 9, oR (wb 10) m9), (wb 10, aZ ta 8 g9), (wb 11, oR (wb 12) m11), (wb 12, aZ ta 8 g11), (wb 13, oR (wb 14) m13), (wb 14, aZ ta 8 g13)] sz (S := Int32) (fun u => some (.int u)) (fun u => ((u : Int32) = if st = 0 then -1 else secF (qL g1 m1) (qL g3 m3) (qL g5 m5) (qL g7 m7) (qL g9 m9) (qL g11 m11) (qL g13 m13) wh j)) (fun u => [(lg 0, oG lg ya yb wa wb o v ct), (wb 0, oW wb st lv cnt cm), (wb 1, oR (wb 2) m1), (wb 2, aZ ta 32 g1), (wb 3, oR (wb 4) m3), (wb 4, aZ ta 32 g3), (wb 5, oR (wb 6) m5), (wb 6, aZ ta 32 g5), (wb 7, oR (wb 8) m7), (wb 8, aZ ta 32 g7), (wb 9, oR (wb 10) m9), (wb 10, aZ ta 8 g9), (wb 11, oR (wb 12) m11), (wb 12, aZ ta 8 g11), (wb 13, oR (wb 14) m13), (wb 14, aZ ta 8 g13)]) 0 0 := by
  refine CT.of_i (r := fun u => u) rfl (by decide) (Nat.le_of_ble_eq_true rfl) ?_
  have hGok := GC_ok gs
  intro pp ee ss mm below meth kc A Q hx hb hml hown hin hts hK hA hsz hG hret H locs hP hD hS ls hl
  have hl : lv_has ls 6 [(0, .ref (lg 0)), (1, .int (nI 1)), (2, .int wh), (3, .int j)] := hl
  refine lv_aload_n (pc := 0) hx hb dX9_secret_0 rfl (lv_at hl 0 rfl) ?_
  refine lv_iload_n (pc := 1) hx hb dX9_secret_1 rfl (lv_at hl 1 rfl) ?_
  refine cs_V (pc := 2) (idx := 198) (n := 1) (wr := [(wb 0, oW wb st lv cnt cm), (wb 1, oR (wb 2) m1), (wb 2, aZ ta 32 g1), (wb 3, oR (wb 4) m3), (wb 4, aZ ta 32 g3), (wb 5, oR (wb 6) m5), (wb 6, aZ ta 32 g5), (wb 7, oR (wb 8) m7), (wb 8, aZ ta 32 g7), (wb 9, oR (wb 10) m9), (wb 10, aZ ta 8 g9), (wb 11, oR (wb 12) m11), (wb 12, aZ ta 8 g11), (wb 13, oR (wb 14) m13), (wb 14, aZ ta 8 g13)]) (As := [.int (nI 1)]) (rest := []) (ci := 7) hx hb hml hown hts hGok hK hA hG hl.1 hP hD hS (ct_X9_sessionOf_1 ll D ta hGok lg ya yb wa wb o v ct  H.size) tw_934 tw_931 tw_933 tw_25 tw_65 hdX9_sessionOf rfl ⟨rfl, rfl, Nat.le_of_ble_eq_true rfl, Nat.le_of_ble_eq_true rfl, Nat.le_of_ble_eq_true rfl, Nat.le_of_ble_eq_true rfl⟩ rfl rfl (q0 := 0) rfl [0] [1, 2, 3, 4, 5, 6, 7, 8, 9, 10, 11, 12, 13, 14, 15] rfl rfl (by decide) rfl (Nat.le_of_ble_eq_true rfl) dX9_secret_2 (fun u H locs hq hP hD hS => ?_)
  refine W.eq (g2 := F0 mm 5 ls [.ref (wb 0)]) rfl ?_
  have hP : va_P D vwCl [(wb 0, oW wb st lv cnt cm), (wb 1, oR (wb 2) m1), (wb 2, aZ ta 32 g1), (wb 3, oR (wb 4) m3), (wb 4, aZ ta 32 g3), (wb 5, oR (wb 6) m5), (wb 6, aZ ta 32 g5), (wb 7, oR (wb 8) m7), (wb 8, aZ ta 32 g7), (wb 9, oR (wb 10) m9), (wb 10, aZ ta 8 g9), (wb 11, oR (wb 12) m11), (wb 12, aZ ta 8 g11), (wb 13, oR (wb 14) m13), (wb 14, aZ ta 8 g13), (lg 0, oG lg ya yb wa wb o v ct)] H := hP
  have hD : va_D A [(wb 0, oW wb st lv cnt cm), (wb 1, oR (wb 2) m1), (wb 2, aZ ta 32 g1), (wb 3, oR (wb 4) m3), (wb 4, aZ ta 32 g3), (wb 5, oR (wb 6) m5), (wb 6, aZ ta 32 g5), (wb 7, oR (wb 8) m7), (wb 8, aZ ta 32 g7), (wb 9, oR (wb 10) m9), (wb 10, aZ ta 8 g9), (wb 11, oR (wb 12) m11), (wb 12, aZ ta 8 g11), (wb 13, oR (wb 14) m13), (wb 14, aZ ta 8 g13), (lg 0, oG lg ya yb wa wb o v ct)] := hD
  refine lv_astore (pc := 5) (lv' := [(4, .ref (wb 0)), (0, .ref (lg 0)), (1, .int (nI 1)), (2, .int wh), (3, .int j)]) hx hb dX9_secret_5 hl (by decide) rfl (fun ls hl => ?_)
  refine lv_aload (pc := 7) hx hb dX9_secret_7 (lv_at hl 0 rfl) ?_
  refine lv_ifnull (pc := 9) hx hb dX9_secret_9 ?_
  refine lv_aload (pc := 12) hx hb dX9_secret_12 (lv_at hl 0 rfl) ?_
  refine va_getN (pc := 14) (D := D) (ci := 6) (v := .int (nI st)) (C := RX8) (T := TX8) (N := 14) hx hb hts iu8 hown hK hP 0 rfl rfl 0 (by decide) (va_Nw.use rfl (GC_w140 hG)) (fun _ h9 => h9) rfl dX9_secret_14 ?_
  refine lv_if_ne (pc := 17) (tgt := 22) hx hb dX9_secret_17 (by decide) (fun c_1 => ?_) (fun c_1 => ?_)
  · skip
    rw [q_eq0 (by omega)] at c_1
    have hs0 := c_1
    refine lv_aload (pc := 22) hx hb dX9_secret_22 (lv_at hl 0 rfl) ?_
    refine lv_iload_n (pc := 24) hx hb dX9_secret_24 rfl (lv_at hl 3 rfl) ?_
    by_cases hk0 : wh = nI 0
    · skip
      subst hk0
      refine cs_V (pc := 25) (idx := 212) (n := 1) (wr := [(wb 1, oR (wb 2) m1), (wb 2, aZ ta 32 g1), (wb 3, oR (wb 4) m3), (wb 4, aZ ta 32 g3), (wb 5, oR (wb 6) m5), (wb 6, aZ ta 32 g5), (wb 7, oR (wb 8) m7), (wb 8, aZ ta 32 g7), (wb 9, oR (wb 10) m9), (wb 10, aZ ta 8 g9), (wb 11, oR (wb 12) m11), (wb 12, aZ ta 8 g11), (wb 13, oR (wb 14) m13), (wb 14, aZ ta 8 g13), (lg 0, oG lg ya yb wa wb o v ct)]) (As := [.int (nI 0)]) (rest := []) (ci := 6) hx hb hml hown hts hGok hK hA hG hl.1 hP hD hS (ct_X8_secretRow_0 ll D ta gs wb st lv cnt cm  H.size) tw_952 tw_949 tw_950 tw_951 tw_68 hdX8_secretRow rfl ⟨rfl, rfl, Nat.le_of_ble_eq_true rfl, Nat.le_of_ble_eq_true rfl, Nat.le_of_ble_eq_true rfl, Nat.le_of_ble_eq_true rfl⟩ rfl rfl (q0 := 0) rfl [0] [1, 2, 3, 4, 5, 6, 7, 8, 9, 10, 11, 12, 13, 14, 15] rfl rfl (by decide) rfl (Nat.le_of_ble_eq_true rfl) dX9_secret_25 (fun u H locs hq hP hD hS => ?_)
      refine W.eq (g2 := F0 mm 28 ls [.ref (wb 1)]) rfl ?_
      have hP : va_P D vwCl [(wb 1, oR (wb 2) m1), (wb 2, aZ ta 32 g1), (wb 3, oR (wb 4) m3), (wb 4, aZ ta 32 g3), (wb 5, oR (wb 6) m5), (wb 6, aZ ta 32 g5), (wb 7, oR (wb 8) m7), (wb 8, aZ ta 32 g7), (wb 9, oR (wb 10) m9), (wb 10, aZ ta 8 g9), (wb 11, oR (wb 12) m11), (wb 12, aZ ta 8 g11), (wb 13, oR (wb 14) m13), (wb 14, aZ ta 8 g13), (lg 0, oG lg ya yb wa wb o v ct), (wb 0, oW wb st lv cnt cm)] H := hP
      have hD : va_D A [(wb 1, oR (wb 2) m1), (wb 2, aZ ta 32 g1), (wb 3, oR (wb 4) m3), (wb 4, aZ ta 32 g3), (wb 5, oR (wb 6) m5), (wb 6, aZ ta 32 g5), (wb 7, oR (wb 8) m7), (wb 8, aZ ta 32 g7), (wb 9, oR (wb 10) m9), (wb 10, aZ ta 8 g9), (wb 11, oR (wb 12) m11), (wb 12, aZ ta 8 g11), (wb 13, oR (wb 14) m13), (wb 14, aZ ta 8 g13), (lg 0, oG lg ya yb wa wb o v ct), (wb 0, oW wb st lv cnt cm)] := hD
      refine lv_astore (pc := 28) (lv' := [(5, .ref (wb 1)), (4, .ref (wb 0)), (0, .ref (lg 0)), (1, .int (nI 1)), (2, .int (nI 0)), (3, .int j)]) hx hb dX9_secret_28 hl (by decide) rfl (fun ls hl => ?_)
      refine lv_aload (pc := 30) hx hb dX9_secret_30 (lv_at hl 0 rfl) ?_
      refine lv_ifnonnull (pc := 32) (tgt := 39) hx hb dX9_secret_32 (by decide) ?_
      refine lv_aload (pc := 39) hx hb dX9_secret_39 (lv_at hl 0 rfl) ?_
      refine lv_iload_n (pc := 41) hx hb dX9_secret_41 rfl (lv_at hl 5 rfl) ?_
      refine cs_V (pc := 42) (idx := 76) (n := 1) (wr := [(wb 3, oR (wb 4) m3), (wb 4, aZ ta 32 g3), (wb 5, oR (wb 6) m5), (wb 6, aZ ta 32 g5), (wb 7, oR (wb 8) m7), (wb 8, aZ ta 32 g7), (wb 9, oR (wb 10) m9), (wb 10, aZ ta 8 g9), (wb 11, oR (wb 12) m11), (wb 12, aZ ta 8 g11), (wb 13, oR (wb 14) m13), (wb 14, aZ ta 8 g13), (lg 0, oG lg ya yb wa wb o v ct), (wb 0, oW wb st lv cnt cm)]) (As := [.int j]) (rest := []) (ci := 5) hx hb hml hown hts hGok hK hA hG hl.1 hP hD hS (ct_X6_at_any ll D ta hGok (wb 1) (wb 2) 32 g1 m1 j (by first | assumption | omega | rfl | decide) (by first | assumption | omega | rfl | decide) H.size) tw_413 tw_410 tw_411 tw_412 tw_66 hdX6_at rfl ⟨rfl, rfl, Nat.le_of_ble_eq_true rfl, Nat.le_of_ble_eq_true rfl, Nat.le_of_ble_eq_true rfl, Nat.le_of_ble_eq_true rfl⟩ rfl rfl (q0 := 0) rfl [0, 1] [2, 3, 4, 5, 6, 7, 8, 9, 10, 11, 12, 13, 14, 15] rfl rfl (by decide) rfl (Nat.le_of_ble_eq_true rfl) dX9_secret_42 (fun u H locs hq hP hD hS => ?_)
      generalize u = r_42 at hq hP hD ⊢
      have hq : (r_42 = qAt g1 m1 j) := hq
      have hr_42 := hq
      refine W.eq (g2 := F0 mm 45 ls [.int r_42]) rfl ?_
      have hP : va_P D vwCl [(wb 3, oR (wb 4) m3), (wb 4, aZ ta 32 g3), (wb 5, oR (wb 6) m5), (wb 6, aZ ta 32 g5), (wb 7, oR (wb 8) m7), (wb 8, aZ ta 32 g7), (wb 9, oR (wb 10) m9), (wb 10, aZ ta 8 g9), (wb 11, oR (wb 12) m11), (wb 12, aZ ta 8 g11), (wb 13, oR (wb 14) m13), (wb 14, aZ ta 8 g13), (lg 0, oG lg ya yb wa wb o v ct), (wb 0, oW wb st lv cnt cm), (wb 1, oR (wb 2) m1), (wb 2, aZ ta 32 g1)] H := hP
      have hD : va_D A [(wb 3, oR (wb 4) m3), (wb 4, aZ ta 32 g3), (wb 5, oR (wb 6) m5), (wb 6, aZ ta 32 g5), (wb 7, oR (wb 8) m7), (wb 8, aZ ta 32 g7), (wb 9, oR (wb 10) m9), (wb 10, aZ ta 8 g9), (wb 11, oR (wb 12) m11), (wb 12, aZ ta 8 g11), (wb 13, oR (wb 14) m13), (wb 14, aZ ta 8 g13), (lg 0, oG lg ya yb wa wb o v ct), (wb 0, oW wb st lv cnt cm), (wb 1, oR (wb 2) m1), (wb 2, aZ ta 32 g1)] := hD
      have hq_2 : ((r_42 : Int32) = if st = 0 then -1 else secF (qL g1 m1) (qL g3 m3) (qL g5 m5) (qL g7 m7) (qL g9 m9) (qL g11 m11) (qL g13 m13) (nI 0) j) := by
        rw [if_neg (by omega)]
        first | (rw [hr_42, qAt_L]; rfl) | exact hsn.symm
      exact hret (r_42) _ _ _ _ dX9_secret_45 hq_2 (hP.sub [12, 13, 14, 15, 0, 1, 2, 3, 4, 5, 6, 7, 8, 9, 10, 11] rfl) (hD.sub [12, 13, 14, 15, 0, 1, 2, 3, 4, 5, 6, 7, 8, 9, 10, 11] (by decide) rfl) hS
    · skip
      by_cases hk1 : wh = nI 1
      · skip
        subst hk1
        refine cs_V (pc := 25) (idx := 212) (n := 1) (wr := [(wb 1, oR (wb 2) m1), (wb 2, aZ ta 32 g1), (wb 3, oR (wb 4) m3), (wb 4, aZ ta 32 g3), (wb 5, oR (wb 6) m5), (wb 6, aZ ta 32 g5), (wb 7, oR (wb 8) m7), (wb 8, aZ ta 32 g7), (wb 9, oR (wb 10) m9), (wb 10, aZ ta 8 g9), (wb 11, oR (wb 12) m11), (wb 12, aZ ta 8 g11), (wb 13, oR (wb 14) m13), (wb 14, aZ ta 8 g13), (lg 0, oG lg ya yb wa wb o v ct)]) (As := [.int (nI 1)]) (rest := []) (ci := 6) hx hb hml hown hts hGok hK hA hG hl.1 hP hD hS (ct_X8_secretRow_1 ll D ta gs wb st lv cnt cm  H.size) tw_952 tw_949 tw_950 tw_951 tw_68 hdX8_secretRow rfl ⟨rfl, rfl, Nat.le_of_ble_eq_true rfl, Nat.le_of_ble_eq_true rfl, Nat.le_of_ble_eq_true rfl, Nat.le_of_ble_eq_true rfl⟩ rfl rfl (q0 := 0) rfl [0] [1, 2, 3, 4, 5, 6, 7, 8, 9, 10, 11, 12, 13, 14, 15] rfl rfl (by decide) rfl (Nat.le_of_ble_eq_true rfl) dX9_secret_25 (fun u H locs hq hP hD hS => ?_)
        refine W.eq (g2 := F0 mm 28 ls [.ref (wb 3)]) rfl ?_
        have hP : va_P D vwCl [(wb 1, oR (wb 2) m1), (wb 2, aZ ta 32 g1), (wb 3, oR (wb 4) m3), (wb 4, aZ ta 32 g3), (wb 5, oR (wb 6) m5), (wb 6, aZ ta 32 g5), (wb 7, oR (wb 8) m7), (wb 8, aZ ta 32 g7), (wb 9, oR (wb 10) m9), (wb 10, aZ ta 8 g9), (wb 11, oR (wb 12) m11), (wb 12, aZ ta 8 g11), (wb 13, oR (wb 14) m13), (wb 14, aZ ta 8 g13), (lg 0, oG lg ya yb wa wb o v ct), (wb 0, oW wb st lv cnt cm)] H := hP
        have hD : va_D A [(wb 1, oR (wb 2) m1), (wb 2, aZ ta 32 g1), (wb 3, oR (wb 4) m3), (wb 4, aZ ta 32 g3), (wb 5, oR (wb 6) m5), (wb 6, aZ ta 32 g5), (wb 7, oR (wb 8) m7), (wb 8, aZ ta 32 g7), (wb 9, oR (wb 10) m9), (wb 10, aZ ta 8 g9), (wb 11, oR (wb 12) m11), (wb 12, aZ ta 8 g11), (wb 13, oR (wb 14) m13), (wb 14, aZ ta 8 g13), (lg 0, oG lg ya yb wa wb o v ct), (wb 0, oW wb st lv cnt cm)] := hD
        refine lv_astore (pc := 28) (lv' := [(5, .ref (wb 3)), (4, .ref (wb 0)), (0, .ref (lg 0)), (1, .int (nI 1)), (2, .int (nI 1)), (3, .int j)]) hx hb dX9_secret_28 hl (by decide) rfl (fun ls hl => ?_)
        refine lv_aload (pc := 30) hx hb dX9_secret_30 (lv_at hl 0 rfl) ?_
        refine lv_ifnonnull (pc := 32) (tgt := 39) hx hb dX9_secret_32 (by decide) ?_
        refine lv_aload (pc := 39) hx hb dX9_secret_39 (lv_at hl 0 rfl) ?_
        refine lv_iload_n (pc := 41) hx hb dX9_secret_41 rfl (lv_at hl 5 rfl) ?_
        refine cs_V (pc := 42) (idx := 76) (n := 1) (wr := [(wb 1, oR (wb 2) m1), (wb 2, aZ ta 32 g1), (wb 5, oR (wb 6) m5), (wb 6, aZ ta 32 g5), (wb 7, oR (wb 8) m7), (wb 8, aZ ta 32 g7), (wb 9, oR (wb 10) m9), (wb 10, aZ ta 8 g9), (wb 11, oR (wb 12) m11), (wb 12, aZ ta 8 g11), (wb 13, oR (wb 14) m13), (wb 14, aZ ta 8 g13), (lg 0, oG lg ya yb wa wb o v ct), (wb 0, oW wb st lv cnt cm)]) (As := [.int j]) (rest := []) (ci := 5) hx hb hml hown hts hGok hK hA hG hl.1 hP hD hS (ct_X6_at_any ll D ta hGok (wb 3) (wb 4) 32 g3 m3 j (by first | assumption | omega | rfl | decide) (by first | assumption | omega | rfl | decide) H.size) tw_413 tw_410 tw_411 tw_412 tw_66 hdX6_at rfl ⟨rfl, rfl, Nat.le_of_ble_eq_true rfl, Nat.le_of_ble_eq_true rfl, Nat.le_of_ble_eq_true rfl, Nat.le_of_ble_eq_true rfl⟩ rfl rfl (q0 := 2) rfl [2, 3] [0, 1, 4, 5, 6, 7, 8, 9, 10, 11, 12, 13, 14, 15] rfl rfl (by decide) rfl (Nat.le_of_ble_eq_true rfl) dX9_secret_42 (fun u H locs hq hP hD hS => ?_)
        generalize u = r_42 at hq hP hD ⊢
        have hq : (r_42 = qAt g3 m3 j) := hq
        have hr_42 := hq
        refine W.eq (g2 := F0 mm 45 ls [.int r_42]) rfl ?_
        have hP : va_P D vwCl [(wb 1, oR (wb 2) m1), (wb 2, aZ ta 32 g1), (wb 5, oR (wb 6) m5), (wb 6, aZ ta 32 g5), (wb 7, oR (wb 8) m7), (wb 8, aZ ta 32 g7), (wb 9, oR (wb 10) m9), (wb 10, aZ ta 8 g9), (wb 11, oR (wb 12) m11), (wb 12, aZ ta 8 g11), (wb 13, oR (wb 14) m13), (wb 14, aZ ta 8 g13), (lg 0, oG lg ya yb wa wb o v ct), (wb 0, oW wb st lv cnt cm), (wb 3, oR (wb 4) m3), (wb 4, aZ ta 32 g3)] H := hP
        have hD : va_D A [(wb 1, oR (wb 2) m1), (wb 2, aZ ta 32 g1), (wb 5, oR (wb 6) m5), (wb 6, aZ ta 32 g5), (wb 7, oR (wb 8) m7), (wb 8, aZ ta 32 g7), (wb 9, oR (wb 10) m9), (wb 10, aZ ta 8 g9), (wb 11, oR (wb 12) m11), (wb 12, aZ ta 8 g11), (wb 13, oR (wb 14) m13), (wb 14, aZ ta 8 g13), (lg 0, oG lg ya yb wa wb o v ct), (wb 0, oW wb st lv cnt cm), (wb 3, oR (wb 4) m3), (wb 4, aZ ta 32 g3)] := hD
        have hq_3 : ((r_42 : Int32) = if st = 0 then -1 else secF (qL g1 m1) (qL g3 m3) (qL g5 m5) (qL g7 m7) (qL g9 m9) (qL g11 m11) (qL g13 m13) (nI 1) j) := by
          rw [if_neg (by omega)]
          first | (rw [hr_42, qAt_L]; rfl) | exact hsn.symm
        exact hret (r_42) _ _ _ _ dX9_secret_45 hq_3 (hP.sub [12, 13, 0, 1, 14, 15, 2, 3, 4, 5, 6, 7, 8, 9, 10, 11] rfl) (hD.sub [12, 13, 0, 1, 14, 15, 2, 3, 4, 5, 6, 7, 8, 9, 10, 11] (by decide) rfl) hS
      · skip
        by_cases hk2 : wh = nI 2
        · skip
          subst hk2
          refine cs_V (pc := 25) (idx := 212) (n := 1) (wr := [(wb 1, oR (wb 2) m1), (wb 2, aZ ta 32 g1), (wb 3, oR (wb 4) m3), (wb 4, aZ ta 32 g3), (wb 5, oR (wb 6) m5), (wb 6, aZ ta 32 g5), (wb 7, oR (wb 8) m7), (wb 8, aZ ta 32 g7), (wb 9, oR (wb 10) m9), (wb 10, aZ ta 8 g9), (wb 11, oR (wb 12) m11), (wb 12, aZ ta 8 g11), (wb 13, oR (wb 14) m13), (wb 14, aZ ta 8 g13), (lg 0, oG lg ya yb wa wb o v ct)]) (As := [.int (nI 2)]) (rest := []) (ci := 6) hx hb hml hown hts hGok hK hA hG hl.1 hP hD hS (ct_X8_secretRow_2 ll D ta gs wb st lv cnt cm  H.size) tw_952 tw_949 tw_950 tw_951 tw_68 hdX8_secretRow rfl ⟨rfl, rfl, Nat.le_of_ble_eq_true rfl, Nat.le_of_ble_eq_true rfl, Nat.le_of_ble_eq_true rfl, Nat.le_of_ble_eq_true rfl⟩ rfl rfl (q0 := 0) rfl [0] [1, 2, 3, 4, 5, 6, 7, 8, 9, 10, 11, 12, 13, 14, 15] rfl rfl (by decide) rfl (Nat.le_of_ble_eq_true rfl) dX9_secret_25 (fun u H locs hq hP hD hS => ?_)
          refine W.eq (g2 := F0 mm 28 ls [.ref (wb 5)]) rfl ?_
          have hP : va_P D vwCl [(wb 1, oR (wb 2) m1), (wb 2, aZ ta 32 g1), (wb 3, oR (wb 4) m3), (wb 4, aZ ta 32 g3), (wb 5, oR (wb 6) m5), (wb 6, aZ ta 32 g5), (wb 7, oR (wb 8) m7), (wb 8, aZ ta 32 g7), (wb 9, oR (wb 10) m9), (wb 10, aZ ta 8 g9), (wb 11, oR (wb 12) m11), (wb 12, aZ ta 8 g11), (wb 13, oR (wb 14) m13), (wb 14, aZ ta 8 g13), (lg 0, oG lg ya yb wa wb o v ct), (wb 0, oW wb st lv cnt cm)] H := hP
          have hD : va_D A [(wb 1, oR (wb 2) m1), (wb 2, aZ ta 32 g1), (wb 3, oR (wb 4) m3), (wb 4, aZ ta 32 g3), (wb 5, oR (wb 6) m5), (wb 6, aZ ta 32 g5), (wb 7, oR (wb 8) m7), (wb 8, aZ ta 32 g7), (wb 9, oR (wb 10) m9), (wb 10, aZ ta 8 g9), (wb 11, oR (wb 12) m11), (wb 12, aZ ta 8 g11), (wb 13, oR (wb 14) m13), (wb 14, aZ ta 8 g13), (lg 0, oG lg ya yb wa wb o v ct), (wb 0, oW wb st lv cnt cm)] := hD
          refine lv_astore (pc := 28) (lv' := [(5, .ref (wb 5)), (4, .ref (wb 0)), (0, .ref (lg 0)), (1, .int (nI 1)), (2, .int (nI 2)), (3, .int j)]) hx hb dX9_secret_28 hl (by decide) rfl (fun ls hl => ?_)
          refine lv_aload (pc := 30) hx hb dX9_secret_30 (lv_at hl 0 rfl) ?_
          refine lv_ifnonnull (pc := 32) (tgt := 39) hx hb dX9_secret_32 (by decide) ?_
          refine lv_aload (pc := 39) hx hb dX9_secret_39 (lv_at hl 0 rfl) ?_
          refine lv_iload_n (pc := 41) hx hb dX9_secret_41 rfl (lv_at hl 5 rfl) ?_
          refine cs_V (pc := 42) (idx := 76) (n := 1) (wr := [(wb 1, oR (wb 2) m1), (wb 2, aZ ta 32 g1), (wb 3, oR (wb 4) m3), (wb 4, aZ ta 32 g3), (wb 7, oR (wb 8) m7), (wb 8, aZ ta 32 g7), (wb 9, oR (wb 10) m9), (wb 10, aZ ta 8 g9), (wb 11, oR (wb 12) m11), (wb 12, aZ ta 8 g11), (wb 13, oR (wb 14) m13), (wb 14, aZ ta 8 g13), (lg 0, oG lg ya yb wa wb o v ct), (wb 0, oW wb st lv cnt cm)]) (As := [.int j]) (rest := []) (ci := 5) hx hb hml hown hts hGok hK hA hG hl.1 hP hD hS (ct_X6_at_any ll D ta hGok (wb 5) (wb 6) 32 g5 m5 j (by first | assumption | omega | rfl | decide) (by first | assumption | omega | rfl | decide) H.size) tw_413 tw_410 tw_411 tw_412 tw_66 hdX6_at rfl ⟨rfl, rfl, Nat.le_of_ble_eq_true rfl, Nat.le_of_ble_eq_true rfl, Nat.le_of_ble_eq_true rfl, Nat.le_of_ble_eq_true rfl⟩ rfl rfl (q0 := 4) rfl [4, 5] [0, 1, 2, 3, 6, 7, 8, 9, 10, 11, 12, 13, 14, 15] rfl rfl (by decide) rfl (Nat.le_of_ble_eq_true rfl) dX9_secret_42 (fun u H locs hq hP hD hS => ?_)
          generalize u = r_42 at hq hP hD ⊢
          have hq : (r_42 = qAt g5 m5 j) := hq
          have hr_42 := hq
          refine W.eq (g2 := F0 mm 45 ls [.int r_42]) rfl ?_
          have hP : va_P D vwCl [(wb 1, oR (wb 2) m1), (wb 2, aZ ta 32 g1), (wb 3, oR (wb 4) m3), (wb 4, aZ ta 32 g3), (wb 7, oR (wb 8) m7), (wb 8, aZ ta 32 g7), (wb 9, oR (wb 10) m9), (wb 10, aZ ta 8 g9), (wb 11, oR (wb 12) m11), (wb 12, aZ ta 8 g11), (wb 13, oR (wb 14) m13), (wb 14, aZ ta 8 g13), (lg 0, oG lg ya yb wa wb o v ct), (wb 0, oW wb st lv cnt cm), (wb 5, oR (wb 6) m5), (wb 6, aZ ta 32 g5)] H := hP
          have hD : va_D A [(wb 1, oR (wb 2) m1), (wb 2, aZ ta 32 g1), (wb 3, oR (wb 4) m3), (wb 4, aZ ta 32 g3), (wb 7, oR (wb 8) m7), (wb 8, aZ ta 32 g7), (wb 9, oR (wb 10) m9), (wb 10, aZ ta 8 g9), (wb 11, oR (wb 12) m11), (wb 12, aZ ta 8 g11), (wb 13, oR (wb 14) m13), (wb 14, aZ ta 8 g13), (lg 0, oG lg ya yb wa wb o v ct), (wb 0, oW wb st lv cnt cm), (wb 5, oR (wb 6) m5), (wb 6, aZ ta 32 g5)] := hD
          have hq_4 : ((r_42 : Int32) = if st = 0 then -1 else secF (qL g1 m1) (qL g3 m3) (qL g5 m5) (qL g7 m7) (qL g9 m9) (qL g11 m11) (qL g13 m13) (nI 2) j) := by
            rw [if_neg (by omega)]
            first | (rw [hr_42, qAt_L]; rfl) | exact hsn.symm
          exact hret (r_42) _ _ _ _ dX9_secret_45 hq_4 (hP.sub [12, 13, 0, 1, 2, 3, 14, 15, 4, 5, 6, 7, 8, 9, 10, 11] rfl) (hD.sub [12, 13, 0, 1, 2, 3, 14, 15, 4, 5, 6, 7, 8, 9, 10, 11] (by decide) rfl) hS
        · skip
          by_cases hk3 : wh = nI 3
          · skip
            subst hk3
            refine cs_V (pc := 25) (idx := 212) (n := 1) (wr := [(wb 1, oR (wb 2) m1), (wb 2, aZ ta 32 g1), (wb 3, oR (wb 4) m3), (wb 4, aZ ta 32 g3), (wb 5, oR (wb 6) m5), (wb 6, aZ ta 32 g5), (wb 7, oR (wb 8) m7), (wb 8, aZ ta 32 g7), (wb 9, oR (wb 10) m9), (wb 10, aZ ta 8 g9), (wb 11, oR (wb 12) m11), (wb 12, aZ ta 8 g11), (wb 13, oR (wb 14) m13), (wb 14, aZ ta 8 g13), (lg 0, oG lg ya yb wa wb o v ct)]) (As := [.int (nI 3)]) (rest := []) (ci := 6) hx hb hml hown hts hGok hK hA hG hl.1 hP hD hS (ct_X8_secretRow_3 ll D ta gs wb st lv cnt cm  H.size) tw_952 tw_949 tw_950 tw_951 tw_68 hdX8_secretRow rfl ⟨rfl, rfl, Nat.le_of_ble_eq_true rfl, Nat.le_of_ble_eq_true rfl, Nat.le_of_ble_eq_true rfl, Nat.le_of_ble_eq_true rfl⟩ rfl rfl (q0 := 0) rfl [0] [1, 2, 3, 4, 5, 6, 7, 8, 9, 10, 11, 12, 13, 14, 15] rfl rfl (by decide) rfl (Nat.le_of_ble_eq_true rfl) dX9_secret_25 (fun u H locs hq hP hD hS => ?_)
            refine W.eq (g2 := F0 mm 28 ls [.ref (wb 7)]) rfl ?_
            have hP : va_P D vwCl [(wb 1, oR (wb 2) m1), (wb 2, aZ ta 32 g1), (wb 3, oR (wb 4) m3), (wb 4, aZ ta 32 g3), (wb 5, oR (wb 6) m5), (wb 6, aZ ta 32 g5), (wb 7, oR (wb 8) m7), (wb 8, aZ ta 32 g7), (wb 9, oR (wb 10) m9), (wb 10, aZ ta 8 g9), (wb 11, oR (wb 12) m11), (wb 12, aZ ta 8 g11), (wb 13, oR (wb 14) m13), (wb 14, aZ ta 8 g13), (lg 0, oG lg ya yb wa wb o v ct), (wb 0, oW wb st lv cnt cm)] H := hP
            have hD : va_D A [(wb 1, oR (wb 2) m1), (wb 2, aZ ta 32 g1), (wb 3, oR (wb 4) m3), (wb 4, aZ ta 32 g3), (wb 5, oR (wb 6) m5), (wb 6, aZ ta 32 g5), (wb 7, oR (wb 8) m7), (wb 8, aZ ta 32 g7), (wb 9, oR (wb 10) m9), (wb 10, aZ ta 8 g9), (wb 11, oR (wb 12) m11), (wb 12, aZ ta 8 g11), (wb 13, oR (wb 14) m13), (wb 14, aZ ta 8 g13), (lg 0, oG lg ya yb wa wb o v ct), (wb 0, oW wb st lv cnt cm)] := hD
            refine lv_astore (pc := 28) (lv' := [(5, .ref (wb 7)), (4, .ref (wb 0)), (0, .ref (lg 0)), (1, .int (nI 1)), (2, .int (nI 3)), (3, .int j)]) hx hb dX9_secret_28 hl (by decide) rfl (fun ls hl => ?_)
            refine lv_aload (pc := 30) hx hb dX9_secret_30 (lv_at hl 0 rfl) ?_
            refine lv_ifnonnull (pc := 32) (tgt := 39) hx hb dX9_secret_32 (by decide) ?_
            refine lv_aload (pc := 39) hx hb dX9_secret_39 (lv_at hl 0 rfl) ?_
            refine lv_iload_n (pc := 41) hx hb dX9_secret_41 rfl (lv_at hl 5 rfl) ?_
            refine cs_V (pc := 42) (idx := 76) (n := 1) (wr := [(wb 1, oR (wb 2) m1), (wb 2, aZ ta 32 g1), (wb 3, oR (wb 4) m3), (wb 4, aZ ta 32 g3), (wb 5, oR (wb 6) m5), (wb 6, aZ ta 32 g5), (wb 9, oR (wb 10) m9), (wb 10, aZ ta 8 g9), (wb 11, oR (wb 12) m11), (wb 12, aZ ta 8 g11), (wb 13, oR (wb 14) m13), (wb 14, aZ ta 8 g13), (lg 0, oG lg ya yb wa wb o v ct), (wb 0, oW wb st lv cnt cm)]) (As := [.int j]) (rest := []) (ci := 5) hx hb hml hown hts hGok hK hA hG hl.1 hP hD hS (ct_X6_at_any ll D ta hGok (wb 7) (wb 8) 32 g7 m7 j (by first | assumption | omega | rfl | decide) (by first | assumption | omega | rfl | decide) H.size) tw_413 tw_410 tw_411 tw_412 tw_66 hdX6_at rfl ⟨rfl, rfl, Nat.le_of_ble_eq_true rfl, Nat.le_of_ble_eq_true rfl, Nat.le_of_ble_eq_true rfl, Nat.le_of_ble_eq_true rfl⟩ rfl rfl (q0 := 6) rfl [6, 7] [0, 1, 2, 3, 4, 5, 8, 9, 10, 11, 12, 13, 14, 15] rfl rfl (by decide) rfl (Nat.le_of_ble_eq_true rfl) dX9_secret_42 (fun u H locs hq hP hD hS => ?_)
            generalize u = r_42 at hq hP hD ⊢
            have hq : (r_42 = qAt g7 m7 j) := hq
            have hr_42 := hq
            refine W.eq (g2 := F0 mm 45 ls [.int r_42]) rfl ?_
            have hP : va_P D vwCl [(wb 1, oR (wb 2) m1), (wb 2, aZ ta 32 g1), (wb 3, oR (wb 4) m3), (wb 4, aZ ta 32 g3), (wb 5, oR (wb 6) m5), (wb 6, aZ ta 32 g5), (wb 9, oR (wb 10) m9), (wb 10, aZ ta 8 g9), (wb 11, oR (wb 12) m11), (wb 12, aZ ta 8 g11), (wb 13, oR (wb 14) m13), (wb 14, aZ ta 8 g13), (lg 0, oG lg ya yb wa wb o v ct), (wb 0, oW wb st lv cnt cm), (wb 7, oR (wb 8) m7), (wb 8, aZ ta 32 g7)] H := hP
            have hD : va_D A [(wb 1, oR (wb 2) m1), (wb 2, aZ ta 32 g1), (wb 3, oR (wb 4) m3), (wb 4, aZ ta 32 g3), (wb 5, oR (wb 6) m5), (wb 6, aZ ta 32 g5), (wb 9, oR (wb 10) m9), (wb 10, aZ ta 8 g9), (wb 11, oR (wb 12) m11), (wb 12, aZ ta 8 g11), (wb 13, oR (wb 14) m13), (wb 14, aZ ta 8 g13), (lg 0, oG lg ya yb wa wb o v ct), (wb 0, oW wb st lv cnt cm), (wb 7, oR (wb 8) m7), (wb 8, aZ ta 32 g7)] := hD
            have hq_5 : ((r_42 : Int32) = if st = 0 then -1 else secF (qL g1 m1) (qL g3 m3) (qL g5 m5) (qL g7 m7) (qL g9 m9) (qL g11 m11) (qL g13 m13) (nI 3) j) := by
              rw [if_neg (by omega)]
              first | (rw [hr_42, qAt_L]; rfl) | exact hsn.symm
            exact hret (r_42) _ _ _ _ dX9_secret_45 hq_5 (hP.sub [12, 13, 0, 1, 2, 3, 4, 5, 14, 15, 6, 7, 8, 9, 10, 11] rfl) (hD.sub [12, 13, 0, 1, 2, 3, 4, 5, 14, 15, 6, 7, 8, 9, 10, 11] (by decide) rfl) hS
          · skip
            by_cases hk4 : wh = nI 4
            · skip
              subst hk4
              refine cs_V (pc := 25) (idx := 212) (n := 1) (wr := [(wb 1, oR (wb 2) m1), (wb 2, aZ ta 32 g1), (wb 3, oR (wb 4) m3), (wb 4, aZ ta 32 g3), (wb 5, oR (wb 6) m5), (wb 6, aZ ta 32 g5), (wb 7, oR (wb 8) m7), (wb 8, aZ ta 32 g7), (wb 9, oR (wb 10) m9), (wb 10, aZ ta 8 g9), (wb 11, oR (wb 12) m11), (wb 12, aZ ta 8 g11), (wb 13, oR (wb 14) m13), (wb 14, aZ ta 8 g13), (lg 0, oG lg ya yb wa wb o v ct)]) (As := [.int (nI 4)]) (rest := []) (ci := 6) hx hb hml hown hts hGok hK hA hG hl.1 hP hD hS (ct_X8_secretRow_4 ll D ta gs wb st lv cnt cm  H.size) tw_952 tw_949 tw_950 tw_951 tw_68 hdX8_secretRow rfl ⟨rfl, rfl, Nat.le_of_ble_eq_true rfl, Nat.le_of_ble_eq_true rfl, Nat.le_of_ble_eq_true rfl, Nat.le_of_ble_eq_true rfl⟩ rfl rfl (q0 := 0) rfl [0] [1, 2, 3, 4, 5, 6, 7, 8, 9, 10, 11, 12, 13, 14, 15] rfl rfl (by decide) rfl (Nat.le_of_ble_eq_true rfl) dX9_secret_25 (fun u H locs hq hP hD hS => ?_)
              refine W.eq (g2 := F0 mm 28 ls [.ref (wb 9)]) rfl ?_
              have hP : va_P D vwCl [(wb 1, oR (wb 2) m1), (wb 2, aZ ta 32 g1), (wb 3, oR (wb 4) m3), (wb 4, aZ ta 32 g3), (wb 5, oR (wb 6) m5), (wb 6, aZ ta 32 g5), (wb 7, oR (wb 8) m7), (wb 8, aZ ta 32 g7), (wb 9, oR (wb 10) m9), (wb 10, aZ ta 8 g9), (wb 11, oR (wb 12) m11), (wb 12, aZ ta 8 g11), (wb 13, oR (wb 14) m13), (wb 14, aZ ta 8 g13), (lg 0, oG lg ya yb wa wb o v ct), (wb 0, oW wb st lv cnt cm)] H := hP
              have hD : va_D A [(wb 1, oR (wb 2) m1), (wb 2, aZ ta 32 g1), (wb 3, oR (wb 4) m3), (wb 4, aZ ta 32 g3), (wb 5, oR (wb 6) m5), (wb 6, aZ ta 32 g5), (wb 7, oR (wb 8) m7), (wb 8, aZ ta 32 g7), (wb 9, oR (wb 10) m9), (wb 10, aZ ta 8 g9), (wb 11, oR (wb 12) m11), (wb 12, aZ ta 8 g11), (wb 13, oR (wb 14) m13), (wb 14, aZ ta 8 g13), (lg 0, oG lg ya yb wa wb o v ct), (wb 0, oW wb st lv cnt cm)] := hD
              refine lv_astore (pc := 28) (lv' := [(5, .ref (wb 9)), (4, .ref (wb 0)), (0, .ref (lg 0)), (1, .int (nI 1)), (2, .int (nI 4)), (3, .int j)]) hx hb dX9_secret_28 hl (by decide) rfl (fun ls hl => ?_)
              refine lv_aload (pc := 30) hx hb dX9_secret_30 (lv_at hl 0 rfl) ?_
              refine lv_ifnonnull (pc := 32) (tgt := 39) hx hb dX9_secret_32 (by decide) ?_
              refine lv_aload (pc := 39) hx hb dX9_secret_39 (lv_at hl 0 rfl) ?_
              refine lv_iload_n (pc := 41) hx hb dX9_secret_41 rfl (lv_at hl 5 rfl) ?_
              refine cs_V (pc := 42) (idx := 76) (n := 1) (wr := [(wb 1, oR (wb 2) m1), (wb 2, aZ ta 32 g1), (wb 3, oR (wb 4) m3), (wb 4, aZ ta 32 g3), (wb 5, oR (wb 6) m5), (wb 6, aZ ta 32 g5), (wb 7, oR (wb 8) m7), (wb 8, aZ ta 32 g7), (wb 11, oR (wb 12) m11), (wb 12, aZ ta 8 g11), (wb 13, oR (wb 14) m13), (wb 14, aZ ta 8 g13), (lg 0, oG lg ya yb wa wb o v ct), (wb 0, oW wb st lv cnt cm)]) (As := [.int j]) (rest := []) (ci := 5) hx hb hml hown hts hGok hK hA hG hl.1 hP hD hS (ct_X6_at_any ll D ta hGok (wb 9) (wb 10) 8 g9 m9 j (by first | assumption | omega | rfl | decide) (by first | assumption | omega | rfl | decide) H.size) tw_413 tw_410 tw_411 tw_412 tw_66 hdX6_at rfl ⟨rfl, rfl, Nat.le_of_ble_eq_true rfl, Nat.le_of_ble_eq_true rfl, Nat.le_of_ble_eq_true rfl, Nat.le_of_ble_eq_true rfl⟩ rfl rfl (q0 := 8) rfl [8, 9] [0, 1, 2, 3, 4, 5, 6, 7, 10, 11, 12, 13, 14, 15] rfl rfl (by decide) rfl (Nat.le_of_ble_eq_true rfl) dX9_secret_42 (fun u H locs hq hP hD hS => ?_)
              generalize u = r_42 at hq hP hD ⊢
              have hq : (r_42 = qAt g9 m9 j) := hq
              have hr_42 := hq
              refine W.eq (g2 := F0 mm 45 ls [.int r_42]) rfl ?_
              have hP : va_P D vwCl [(wb 1, oR (wb 2) m1), (wb 2, aZ ta 32 g1), (wb 3, oR (wb 4) m3), (wb 4, aZ ta 32 g3), (wb 5, oR (wb 6) m5), (wb 6, aZ ta 32 g5), (wb 7, oR (wb 8) m7), (wb 8, aZ ta 32 g7), (wb 11, oR (wb 12) m11), (wb 12, aZ ta 8 g11), (wb 13, oR (wb 14) m13), (wb 14, aZ ta 8 g13), (lg 0, oG lg ya yb wa wb o v ct), (wb 0, oW wb st lv cnt cm), (wb 9, oR (wb 10) m9), (wb 10, aZ ta 8 g9)] H := hP
              have hD : va_D A [(wb 1, oR (wb 2) m1), (wb 2, aZ ta 32 g1), (wb 3, oR (wb 4) m3), (wb 4, aZ ta 32 g3), (wb 5, oR (wb 6) m5), (wb 6, aZ ta 32 g5), (wb 7, oR (wb 8) m7), (wb 8, aZ ta 32 g7), (wb 11, oR (wb 12) m11), (wb 12, aZ ta 8 g11), (wb 13, oR (wb 14) m13), (wb 14, aZ ta 8 g13), (lg 0, oG lg ya yb wa wb o v ct), (wb 0, oW wb st lv cnt cm), (wb 9, oR (wb 10) m9), (wb 10, aZ ta 8 g9)] := hD
              have hq_6 : ((r_42 : Int32) = if st = 0 then -1 else secF (qL g1 m1) (qL g3 m3) (qL g5 m5) (qL g7 m7) (qL g9 m9) (qL g11 m11) (qL g13 m13) (nI 4) j) := by
                rw [if_neg (by omega)]
                first | (rw [hr_42, qAt_L]; rfl) | exact hsn.symm
              exact hret (r_42) _ _ _ _ dX9_secret_45 hq_6 (hP.sub [12, 13, 0, 1, 2, 3, 4, 5, 6, 7, 14, 15, 8, 9, 10, 11] rfl) (hD.sub [12, 13, 0, 1, 2, 3, 4, 5, 6, 7, 14, 15, 8, 9, 10, 11] (by decide) rfl) hS
            · skip
              by_cases hk5 : wh = nI 5
              · skip
                subst hk5
                refine cs_V (pc := 25) (idx := 212) (n := 1) (wr := [(wb 1, oR (wb 2) m1), (wb 2, aZ ta 32 g1), (wb 3, oR (wb 4) m3), (wb 4, aZ ta 32 g3), (wb 5, oR (wb 6) m5), (wb 6, aZ ta 32 g5), (wb 7, oR (wb 8) m7), (wb 8, aZ ta 32 g7), (wb 9, oR (wb 10) m9), (wb 10, aZ ta 8 g9), (wb 11, oR (wb 12) m11), (wb 12, aZ ta 8 g11), (wb 13, oR (wb 14) m13), (wb 14, aZ ta 8 g13), (lg 0, oG lg ya yb wa wb o v ct)]) (As := [.int (nI 5)]) (rest := []) (ci := 6) hx hb hml hown hts hGok hK hA hG hl.1 hP hD hS (ct_X8_secretRow_5 ll D ta gs wb st lv cnt cm  H.size) tw_952 tw_949 tw_950 tw_951 tw_68 hdX8_secretRow rfl ⟨rfl, rfl, Nat.le_of_ble_eq_true rfl, Nat.le_of_ble_eq_true rfl, Nat.le_of_ble_eq_true rfl, Nat.le_of_ble_eq_true rfl⟩ rfl rfl (q0 := 0) rfl [0] [1, 2, 3, 4, 5, 6, 7, 8, 9, 10, 11, 12, 13, 14, 15] rfl rfl (by decide) rfl (Nat.le_of_ble_eq_true rfl) dX9_secret_25 (fun u H locs hq hP hD hS => ?_)
                refine W.eq (g2 := F0 mm 28 ls [.ref (wb 11)]) rfl ?_
                have hP : va_P D vwCl [(wb 1, oR (wb 2) m1), (wb 2, aZ ta 32 g1), (wb 3, oR (wb 4) m3), (wb 4, aZ ta 32 g3), (wb 5, oR (wb 6) m5), (wb 6, aZ ta 32 g5), (wb 7, oR (wb 8) m7), (wb 8, aZ ta 32 g7), (wb 9, oR (wb 10) m9), (wb 10, aZ ta 8 g9), (wb 11, oR (wb 12) m11), (wb 12, aZ ta 8 g11), (wb 13, oR (wb 14) m13), (wb 14, aZ ta 8 g13), (lg 0, oG lg ya yb wa wb o v ct), (wb 0, oW wb st lv cnt cm)] H := hP
                have hD : va_D A [(wb 1, oR (wb 2) m1), (wb 2, aZ ta 32 g1), (wb 3, oR (wb 4) m3), (wb 4, aZ ta 32 g3), (wb 5, oR (wb 6) m5), (wb 6, aZ ta 32 g5), (wb 7, oR (wb 8) m7), (wb 8, aZ ta 32 g7), (wb 9, oR (wb 10) m9), (wb 10, aZ ta 8 g9), (wb 11, oR (wb 12) m11), (wb 12, aZ ta 8 g11), (wb 13, oR (wb 14) m13), (wb 14, aZ ta 8 g13), (lg 0, oG lg ya yb wa wb o v ct), (wb 0, oW wb st lv cnt cm)] := hD
                refine lv_astore (pc := 28) (lv' := [(5, .ref (wb 11)), (4, .ref (wb 0)), (0, .ref (lg 0)), (1, .int (nI 1)), (2, .int (nI 5)), (3, .int j)]) hx hb dX9_secret_28 hl (by decide) rfl (fun ls hl => ?_)
                refine lv_aload (pc := 30) hx hb dX9_secret_30 (lv_at hl 0 rfl) ?_
                refine lv_ifnonnull (pc := 32) (tgt := 39) hx hb dX9_secret_32 (by decide) ?_
                refine lv_aload (pc := 39) hx hb dX9_secret_39 (lv_at hl 0 rfl) ?_
                refine lv_iload_n (pc := 41) hx hb dX9_secret_41 rfl (lv_at hl 5 rfl) ?_
                refine cs_V (pc := 42) (idx := 76) (n := 1) (wr := [(wb 1, oR (wb 2) m1), (wb 2, aZ ta 32 g1), (wb 3, oR (wb 4) m3), (wb 4, aZ ta 32 g3), (wb 5, oR (wb 6) m5), (wb 6, aZ ta 32 g5), (wb 7, oR (wb 8) m7), (wb 8, aZ ta 32 g7), (wb 9, oR (wb 10) m9), (wb 10, aZ ta 8 g9), (wb 13, oR (wb 14) m13), (wb 14, aZ ta 8 g13), (lg 0, oG lg ya yb wa wb o v ct), (wb 0, oW wb st lv cnt cm)]) (As := [.int j]) (rest := []) (ci := 5) hx hb hml hown hts hGok hK hA hG hl.1 hP hD hS (ct_X6_at_any ll D ta hGok (wb 11) (wb 12) 8 g11 m11 j (by first | assumption | omega | rfl | decide) (by first | assumption | omega | rfl | decide) H.size) tw_413 tw_410 tw_411 tw_412 tw_66 hdX6_at rfl ⟨rfl, rfl, Nat.le_of_ble_eq_true rfl, Nat.le_of_ble_eq_true rfl, Nat.le_of_ble_eq_true rfl, Nat.le_of_ble_eq_true rfl⟩ rfl rfl (q0 := 10) rfl [10, 11] [0, 1, 2, 3, 4, 5, 6, 7, 8, 9, 12, 13, 14, 15] rfl rfl (by decide) rfl (Nat.le_of_ble_eq_true rfl) dX9_secret_42 (fun u H locs hq hP hD hS => ?_)
                generalize u = r_42 at hq hP hD ⊢
                have hq : (r_42 = qAt g11 m11 j) := hq
                have hr_42 := hq
                refine W.eq (g2 := F0 mm 45 ls [.int r_42]) rfl ?_
                have hP : va_P D vwCl [(wb 1, oR (wb 2) m1), (wb 2, aZ ta 32 g1), (wb 3, oR (wb 4) m3), (wb 4, aZ ta 32 g3), (wb 5, oR (wb 6) m5), (wb 6, aZ ta 32 g5), (wb 7, oR (wb 8) m7), (wb 8, aZ ta 32 g7), (wb 9, oR (wb 10) m9), (wb 10, aZ ta 8 g9), (wb 13, oR (wb 14) m13), (wb 14, aZ ta 8 g13), (lg 0, oG lg ya yb wa wb o v ct), (wb 0, oW wb st lv cnt cm), (wb 11, oR (wb 12) m11), (wb 12, aZ ta 8 g11)] H := hP
                have hD : va_D A [(wb 1, oR (wb 2) m1), (wb 2, aZ ta 32 g1), (wb 3, oR (wb 4) m3), (wb 4, aZ ta 32 g3), (wb 5, oR (wb 6) m5), (wb 6, aZ ta 32 g5), (wb 7, oR (wb 8) m7), (wb 8, aZ ta 32 g7), (wb 9, oR (wb 10) m9), (wb 10, aZ ta 8 g9), (wb 13, oR (wb 14) m13), (wb 14, aZ ta 8 g13), (lg 0, oG lg ya yb wa wb o v ct), (wb 0, oW wb st lv cnt cm), (wb 11, oR (wb 12) m11), (wb 12, aZ ta 8 g11)] := hD
                have hq_7 : ((r_42 : Int32) = if st = 0 then -1 else secF (qL g1 m1) (qL g3 m3) (qL g5 m5) (qL g7 m7) (qL g9 m9) (qL g11 m11) (qL g13 m13) (nI 5) j) := by
                  rw [if_neg (by omega)]
                  first | (rw [hr_42, qAt_L]; rfl) | exact hsn.symm
                exact hret (r_42) _ _ _ _ dX9_secret_45 hq_7 (hP.sub [12, 13, 0, 1, 2, 3, 4, 5, 6, 7, 8, 9, 14, 15, 10, 11] rfl) (hD.sub [12, 13, 0, 1, 2, 3, 4, 5, 6, 7, 8, 9, 14, 15, 10, 11] (by decide) rfl) hS
              · skip
                by_cases hk6 : wh = nI 6
                · skip
                  subst hk6
                  refine cs_V (pc := 25) (idx := 212) (n := 1) (wr := [(wb 1, oR (wb 2) m1), (wb 2, aZ ta 32 g1), (wb 3, oR (wb 4) m3), (wb 4, aZ ta 32 g3), (wb 5, oR (wb 6) m5), (wb 6, aZ ta 32 g5), (wb 7, oR (wb 8) m7), (wb 8, aZ ta 32 g7), (wb 9, oR (wb 10) m9), (wb 10, aZ ta 8 g9), (wb 11, oR (wb 12) m11), (wb 12, aZ ta 8 g11), (wb 13, oR (wb 14) m13), (wb 14, aZ ta 8 g13), (lg 0, oG lg ya yb wa wb o v ct)]) (As := [.int (nI 6)]) (rest := []) (ci := 6) hx hb hml hown hts hGok hK hA hG hl.1 hP hD hS (ct_X8_secretRow_6 ll D ta gs wb st lv cnt cm  H.size) tw_952 tw_949 tw_950 tw_951 tw_68 hdX8_secretRow rfl ⟨rfl, rfl, Nat.le_of_ble_eq_true rfl, Nat.le_of_ble_eq_true rfl, Nat.le_of_ble_eq_true rfl, Nat.le_of_ble_eq_true rfl⟩ rfl rfl (q0 := 0) rfl [0] [1, 2, 3, 4, 5, 6, 7, 8, 9, 10, 11, 12, 13, 14, 15] rfl rfl (by decide) rfl (Nat.le_of_ble_eq_true rfl) dX9_secret_25 (fun u H locs hq hP hD hS => ?_)
                  refine W.eq (g2 := F0 mm 28 ls [.ref (wb 13)]) rfl ?_
                  have hP : va_P D vwCl [(wb 1, oR (wb 2) m1), (wb 2, aZ ta 32 g1), (wb 3, oR (wb 4) m3), (wb 4, aZ ta 32 g3), (wb 5, oR (wb 6) m5), (wb 6, aZ ta 32 g5), (wb 7, oR (wb 8) m7), (wb 8, aZ ta 32 g7), (wb 9, oR (wb 10) m9), (wb 10, aZ ta 8 g9), (wb 11, oR (wb 12) m11), (wb 12, aZ ta 8 g11), (wb 13, oR (wb 14) m13), (wb 14, aZ ta 8 g13), (lg 0, oG lg ya yb wa wb o v ct), (wb 0, oW wb st lv cnt cm)] H := hP
                  have hD : va_D A [(wb 1, oR (wb 2) m1), (wb 2, aZ ta 32 g1), (wb 3, oR (wb 4) m3), (wb 4, aZ ta 32 g3), (wb 5, oR (wb 6) m5), (wb 6, aZ ta 32 g5), (wb 7, oR (wb 8) m7), (wb 8, aZ ta 32 g7), (wb 9, oR (wb 10) m9), (wb 10, aZ ta 8 g9), (wb 11, oR (wb 12) m11), (wb 12, aZ ta 8 g11), (wb 13, oR (wb 14) m13), (wb 14, aZ ta 8 g13), (lg 0, oG lg ya yb wa wb o v ct), (wb 0, oW wb st lv cnt cm)] := hD
                  refine lv_astore (pc := 28) (lv' := [(5, .ref (wb 13)), (4, .ref (wb 0)), (0, .ref (lg 0)), (1, .int (nI 1)), (2, .int (nI 6)), (3, .int j)]) hx hb dX9_secret_28 hl (by decide) rfl (fun ls hl => ?_)
                  refine lv_aload (pc := 30) hx hb dX9_secret_30 (lv_at hl 0 rfl) ?_
                  refine lv_ifnonnull (pc := 32) (tgt := 39) hx hb dX9_secret_32 (by decide) ?_
                  refine lv_aload (pc := 39) hx hb dX9_secret_39 (lv_at hl 0 rfl) ?_
                  refine lv_iload_n (pc := 41) hx hb dX9_secret_41 rfl (lv_at hl 5 rfl) ?_
                  refine cs_V (pc := 42) (idx := 76) (n := 1) (wr := [(wb 1, oR (wb 2) m1), (wb 2, aZ ta 32 g1), (wb 3, oR (wb 4) m3), (wb 4, aZ ta 32 g3), (wb 5, oR (wb 6) m5), (wb 6, aZ ta 32 g5), (wb 7, oR (wb 8) m7), (wb 8, aZ ta 32 g7), (wb 9, oR (wb 10) m9), (wb 10, aZ ta 8 g9), (wb 11, oR (wb 12) m11), (wb 12, aZ ta 8 g11), (lg 0, oG lg ya yb wa wb o v ct), (wb 0, oW wb st lv cnt cm)]) (As := [.int j]) (rest := []) (ci := 5) hx hb hml hown hts hGok hK hA hG hl.1 hP hD hS (ct_X6_at_any ll D ta hGok (wb 13) (wb 14) 8 g13 m13 j (by first | assumption | omega | rfl | decide) (by first | assumption | omega | rfl | decide) H.size) tw_413 tw_410 tw_411 tw_412 tw_66 hdX6_at rfl ⟨rfl, rfl, Nat.le_of_ble_eq_true rfl, Nat.le_of_ble_eq_true rfl, Nat.le_of_ble_eq_true rfl, Nat.le_of_ble_eq_true rfl⟩ rfl rfl (q0 := 12) rfl [12, 13] [0, 1, 2, 3, 4, 5, 6, 7, 8, 9, 10, 11, 14, 15] rfl rfl (by decide) rfl (Nat.le_of_ble_eq_true rfl) dX9_secret_42 (fun u H locs hq hP hD hS => ?_)
                  generalize u = r_42 at hq hP hD ⊢
                  have hq : (r_42 = qAt g13 m13 j) := hq
                  have hr_42 := hq
                  refine W.eq (g2 := F0 mm 45 ls [.int r_42]) rfl ?_
                  have hP : va_P D vwCl [(wb 1, oR (wb 2) m1), (wb 2, aZ ta 32 g1), (wb 3, oR (wb 4) m3), (wb 4, aZ ta 32 g3), (wb 5, oR (wb 6) m5), (wb 6, aZ ta 32 g5), (wb 7, oR (wb 8) m7), (wb 8, aZ ta 32 g7), (wb 9, oR (wb 10) m9), (wb 10, aZ ta 8 g9), (wb 11, oR (wb 12) m11), (wb 12, aZ ta 8 g11), (lg 0, oG lg ya yb wa wb o v ct), (wb 0, oW wb st lv cnt cm), (wb 13, oR (wb 14) m13), (wb 14, aZ ta 8 g13)] H := hP
                  have hD : va_D A [(wb 1, oR (wb 2) m1), (wb 2, aZ ta 32 g1), (wb 3, oR (wb 4) m3), (wb 4, aZ ta 32 g3), (wb 5, oR (wb 6) m5), (wb 6, aZ ta 32 g5), (wb 7, oR (wb 8) m7), (wb 8, aZ ta 32 g7), (wb 9, oR (wb 10) m9), (wb 10, aZ ta 8 g9), (wb 11, oR (wb 12) m11), (wb 12, aZ ta 8 g11), (lg 0, oG lg ya yb wa wb o v ct), (wb 0, oW wb st lv cnt cm), (wb 13, oR (wb 14) m13), (wb 14, aZ ta 8 g13)] := hD
                  have hq_8 : ((r_42 : Int32) = if st = 0 then -1 else secF (qL g1 m1) (qL g3 m3) (qL g5 m5) (qL g7 m7) (qL g9 m9) (qL g11 m11) (qL g13 m13) (nI 6) j) := by
                    rw [if_neg (by omega)]
                    first | (rw [hr_42, qAt_L]; rfl) | exact hsn.symm
                  exact hret (r_42) _ _ _ _ dX9_secret_45 hq_8 (hP.sub [12, 13, 0, 1, 2, 3, 4, 5, 6, 7, 8, 9, 10, 11, 14, 15] rfl) (hD.sub [12, 13, 0, 1, 2, 3, 4, 5, 6, 7, 8, 9, 10, 11, 14, 15] (by decide) rfl) hS
                · skip
                  have hsn := sec_no (E := qL g1 m1) (M := qL g3 m3) (B := qL g5 m5) (S := qL g7 m7) (HP := qL g9 m9) (CP := qL g11 m11) (CH := qL g13 m13) (j := j) hk0 hk1 hk2 hk3 hk4 hk5 hk6
                  refine cs_V (pc := 25) (idx := 212) (n := 1) (wr := [(wb 1, oR (wb 2) m1), (wb 2, aZ ta 32 g1), (wb 3, oR (wb 4) m3), (wb 4, aZ ta 32 g3), (wb 5, oR (wb 6) m5), (wb 6, aZ ta 32 g5), (wb 7, oR (wb 8) m7), (wb 8, aZ ta 32 g7), (wb 9, oR (wb 10) m9), (wb 10, aZ ta 8 g9), (wb 11, oR (wb 12) m11), (wb 12, aZ ta 8 g11), (wb 13, oR (wb 14) m13), (wb 14, aZ ta 8 g13), (lg 0, oG lg ya yb wa wb o v ct)]) (As := [.int wh]) (rest := []) (ci := 6) hx hb hml hown hts hGok hK hA hG hl.1 hP hD hS (ct_X8_secretRow_no ll D ta gs wb st lv cnt cm wh (fun k hk => match k, hk with | 0, _ => hk0 | 1, _ => hk1 | 2, _ => hk2 | 3, _ => hk3 | 4, _ => hk4 | 5, _ => hk5 | 6, _ => hk6) H.size) tw_952 tw_949 tw_950 tw_951 tw_68 hdX8_secretRow rfl ⟨rfl, rfl, Nat.le_of_ble_eq_true rfl, Nat.le_of_ble_eq_true rfl, Nat.le_of_ble_eq_true rfl, Nat.le_of_ble_eq_true rfl⟩ rfl rfl (q0 := 0) rfl [0] [1, 2, 3, 4, 5, 6, 7, 8, 9, 10, 11, 12, 13, 14, 15] rfl rfl (by decide) rfl (Nat.le_of_ble_eq_true rfl) dX9_secret_25 (fun u H locs hq hP hD hS => ?_)
                  refine W.eq (g2 := F0 mm 28 ls [.null]) rfl ?_
                  have hP : va_P D vwCl [(wb 1, oR (wb 2) m1), (wb 2, aZ ta 32 g1), (wb 3, oR (wb 4) m3), (wb 4, aZ ta 32 g3), (wb 5, oR (wb 6) m5), (wb 6, aZ ta 32 g5), (wb 7, oR (wb 8) m7), (wb 8, aZ ta 32 g7), (wb 9, oR (wb 10) m9), (wb 10, aZ ta 8 g9), (wb 11, oR (wb 12) m11), (wb 12, aZ ta 8 g11), (wb 13, oR (wb 14) m13), (wb 14, aZ ta 8 g13), (lg 0, oG lg ya yb wa wb o v ct), (wb 0, oW wb st lv cnt cm)] H := hP
                  have hD : va_D A [(wb 1, oR (wb 2) m1), (wb 2, aZ ta 32 g1), (wb 3, oR (wb 4) m3), (wb 4, aZ ta 32 g3), (wb 5, oR (wb 6) m5), (wb 6, aZ ta 32 g5), (wb 7, oR (wb 8) m7), (wb 8, aZ ta 32 g7), (wb 9, oR (wb 10) m9), (wb 10, aZ ta 8 g9), (wb 11, oR (wb 12) m11), (wb 12, aZ ta 8 g11), (wb 13, oR (wb 14) m13), (wb 14, aZ ta 8 g13), (lg 0, oG lg ya yb wa wb o v ct), (wb 0, oW wb st lv cnt cm)] := hD
                  refine lv_astoreN (pc := 28) (lv' := [(5, .null), (4, .ref (wb 0)), (0, .ref (lg 0)), (1, .int (nI 1)), (2, .int wh), (3, .int j)]) hx hb dX9_secret_28 hl (by decide) rfl (fun ls hl => ?_)
                  refine lv_aloadN (pc := 30) hx hb dX9_secret_30 (lv_at hl 0 rfl) ?_
                  refine lv_ifnonnullN (pc := 32) hx hb dX9_secret_32 ?_
                  refine lv_iconst (pc := 35) (v := (-1)) hx hb dX9_secret_35 (by decide +kernel) ?_
                  refine lv_goto (pc := 36) (tgt := 45) hx hb dX9_secret_36 (by decide) ?_
                  refine q_top (y := (-1)) (by first | rfl | decide +kernel | (simp; done)) ?_
                  have hq_9 : (((-1) : Int32) = if st = 0 then -1 else secF (qL g1 m1) (qL g3 m3) (qL g5 m5) (qL g7 m7) (qL g9 m9) (qL g11 m11) (qL g13 m13) wh j) := by
                    rw [if_neg (by omega)]
                    first | (rw [hr_42, qAt_L]; rfl) | exact hsn.symm
                  exact hret (-1) _ _ _ _ dX9_secret_45 hq_9 (hP.sub [14, 15, 0, 1, 2, 3, 4, 5, 6, 7, 8, 9, 10, 11, 12, 13] rfl) (hD.sub [14, 15, 0, 1, 2, 3, 4, 5, 6, 7, 8, 9, 10, 11, 12, 13] (by decide) rfl) hS
  · skip
    rw [q_eq0 (by omega)] at c_1
    have hs0 := c_1
    refine lv_iconst (pc := 20) (v := (-1)) hx hb dX9_secret_20 (by decide +kernel) ?_
    refine q_top (y := (-1)) (by first | rfl | decide +kernel | (simp; done)) ?_
    have hq_10 : (((-1) : Int32) = if st = 0 then -1 else secF (qL g1 m1) (qL g3 m3) (qL g5 m5) (qL g7 m7) (qL g9 m9) (qL g11 m11) (qL g13 m13) wh j) := by
      rw [if_pos (by omega)]
    exact hret (-1) _ _ _ _ dX9_secret_21 hq_10 (hP.sub [15, 0, 1, 2, 3, 4, 5, 6, 7, 8, 9, 10, 11, 12, 13, 14] rfl) (hD.sub [15, 0, 1, 2, 3, 4, 5, 6, 7, 8, 9, 10, 11, 12, 13, 14] (by decide) rfl) hS
set_option maxHeartbeats 4000000 in
set_option maxRecDepth 100000 in
theorem ct_X9_about_no (ll : Launch) (D : va_G) (ta : Nat → ClassId) (gs : Nat → Nat) (lg : Nat → Nat) (ya : Nat → Nat) (yb : Nat → Nat) (wa : Nat → Nat) (wb : Nat → Nat) (o : Nat → Nat) (v : Nat → Nat) (ct : Nat) (s9 : Int32) (i : Int32) (hi0 : ¬ s9 = nI 0) (hi1 : ¬ s9 = nI 1) (sz : Nat) : CT ll yX9_about cX9_about 5 (some .int) ({ frames := 1, cells := 0, slots := 0, locals := 21 } : Room) D ta ((GC gs)) [.ref (lg 0), .int s9, .int i] [(lg 0, oG lg ya yb wa wb o v ct)] sz (S := Int32) (fun u => some (.int u)) (fun u => ((u : Int32) = -1)) (fun u => [(lg 0, oG lg ya yb wa wb o v ct)]) 0 0 := by
  refine CT.of_i (r := fun u => u) rfl (by decide) (Nat.le_of_ble_eq_true rfl) ?_
  have hGok := GC_ok gs
  intro pp ee ss mm below meth kc A Q hx hb hml hown hin hts hK hA hsz hG hret H locs hP hD hS ls hl
  have hl : lv_has ls 5 [(0, .ref (lg 0)), (1, .int s9), (2, .int i)] := hl
  refine lv_aload_n (pc := 0) hx hb dX9_about_0 rfl (lv_at hl 0 rfl) ?_
  refine lv_iload_n (pc := 1) hx hb dX9_about_1 rfl (lv_at hl 1 rfl) ?_
  refine cs_V (pc := 2) (idx := 198) (n := 1) (wr := []) (As := [.int s9]) (rest := []) (ci := 7) hx hb hml hown hts hGok hK hA hG hl.1 hP hD hS (ct_X9_sessionOf_no ll D ta hGok lg ya yb wa wb o v ct s9 (by first | assumption | omega | rfl | decide) (by first | assumption | omega | rfl | decide) H.size) tw_934 tw_931 tw_933 tw_25 tw_65 hdX9_sessionOf rfl ⟨rfl, rfl, Nat.le_of_ble_eq_true rfl, Nat.le_of_ble_eq_true rfl, Nat.le_of_ble_eq_true rfl, Nat.le_of_ble_eq_true rfl⟩ rfl rfl (q0 := 0) rfl [0] [] rfl rfl (by decide) rfl (Nat.le_of_ble_eq_true rfl) dX9_about_2 (fun u H locs hq hP hD hS => ?_)
  refine W.eq (g2 := F0 mm 5 ls [.null]) rfl ?_
  have hP : va_P D vwCl [(lg 0, oG lg ya yb wa wb o v ct)] H := hP
  have hD : va_D A [(lg 0, oG lg ya yb wa wb o v ct)] := hD
  refine lv_astore_nN (pc := 5) (lv' := [(3, .null), (0, .ref (lg 0)), (1, .int s9), (2, .int i)]) hx hb dX9_about_5 rfl hl (by decide) rfl (fun ls hl => ?_)
  refine lv_aload_n (pc := 6) hx hb dX9_about_6 rfl (lv_at hl 1 rfl) ?_
  refine lv_iload_n (pc := 7) hx hb dX9_about_7 rfl (lv_at hl 2 rfl) ?_
  refine cs_V (pc := 8) (idx := 91) (n := 1) (wr := []) (As := [.int s9]) (rest := []) (ci := 7) hx hb hml hown hts hGok hK hA hG hl.1 hP hD hS (ct_X9_keysOf_no ll D ta hGok lg ya yb wa wb o v ct s9 (by first | assumption | omega | rfl | decide) (by first | assumption | omega | rfl | decide) H.size) tw_455 tw_452 tw_454 tw_0 tw_65 hdX9_keysOf rfl ⟨rfl, rfl, Nat.le_of_ble_eq_true rfl, Nat.le_of_ble_eq_true rfl, Nat.le_of_ble_eq_true rfl, Nat.le_of_ble_eq_true rfl⟩ rfl rfl (q0 := 0) rfl [0] [] rfl rfl (by decide) rfl (Nat.le_of_ble_eq_true rfl) dX9_about_8 (fun u H locs hq hP hD hS => ?_)
  refine W.eq (g2 := F0 mm 11 ls [.null]) rfl ?_
  have hP : va_P D vwCl [(lg 0, oG lg ya yb wa wb o v ct)] H := hP
  have hD : va_D A [(lg 0, oG lg ya yb wa wb o v ct)] := hD
  refine lv_astoreN (pc := 11) (lv' := [(4, .null), (3, .null), (0, .ref (lg 0)), (1, .int s9), (2, .int i)]) hx hb dX9_about_11 hl (by decide) rfl (fun ls hl => ?_)
  refine lv_aload_nN (pc := 13) hx hb dX9_about_13 rfl (lv_at hl 1 rfl) ?_
  refine lv_ifnullN (pc := 14) (tgt := 22) hx hb dX9_about_14 (by decide) ?_
  refine lv_iconst (pc := 22) (v := (-1)) hx hb dX9_about_22 (by decide +kernel) ?_
  refine q_top (y := (-1)) (by first | rfl | decide +kernel | (simp; done)) ?_
  have hq_1 : (((-1) : Int32) = -1) := by
    first | rfl | trivial | (refine ⟨?_, ?_⟩ <;> rfl) | (simp; done) | omega
  exact hret (-1) _ _ _ _ dX9_about_23 hq_1 (hP.sub [0] rfl) (hD.sub [0] (by decide) rfl) hS
set_option maxHeartbeats 4000000 in
set_option maxRecDepth 100000 in
theorem ct_X9_secret_no (ll : Launch) (D : va_G) (ta : Nat → ClassId) (gs : Nat → Nat) (lg : Nat → Nat) (ya : Nat → Nat) (yb : Nat → Nat) (wa : Nat → Nat) (wb : Nat → Nat) (o : Nat → Nat) (v : Nat → Nat) (ct : Nat) (s9 : Int32) (i : Int32) (j : Int32) (hi0 : ¬ s9 = nI 0) (hi1 : ¬ s9 = nI 1) (sz : Nat) : CT ll yX9_secret cX9_secret 6 (some .int) ({ frames := 1, cells := 0, slots := 0, locals := 21 } : Room) D ta ((GC gs)) [.ref (lg 0), .int s9, .int i, .int j] [(lg 0, oG lg ya yb wa wb o v ct)] sz (S := Int32) (fun u => some (.int u)) (fun u => ((u : Int32) = -1)) (fun u => [(lg 0, oG lg ya yb wa wb o v ct)]) 0 0 := by
  refine CT.of_i (r := fun u => u) rfl (by decide) (Nat.le_of_ble_eq_true rfl) ?_
  have hGok := GC_ok gs
  intro pp ee ss mm below meth kc A Q hx hb hml hown hin hts hK hA hsz hG hret H locs hP hD hS ls hl
  have hl : lv_has ls 6 [(0, .ref (lg 0)), (1, .int s9), (2, .int i), (3, .int j)] := hl
  refine lv_aload_n (pc := 0) hx hb dX9_secret_0 rfl (lv_at hl 0 rfl) ?_
  refine lv_iload_n (pc := 1) hx hb dX9_secret_1 rfl (lv_at hl 1 rfl) ?_
  refine cs_V (pc := 2) (idx := 198) (n := 1) (wr := []) (As := [.int s9]) (rest := []) (ci := 7) hx hb hml hown hts hGok hK hA hG hl.1 hP hD hS (ct_X9_sessionOf_no ll D ta hGok lg ya yb wa wb o v ct s9 (by first | assumption | omega | rfl | decide) (by first | assumption | omega | rfl | decide) H.size) tw_934 tw_931 tw_933 tw_25 tw_65 hdX9_sessionOf rfl ⟨rfl, rfl, Nat.le_of_ble_eq_true rfl, Nat.le_of_ble_eq_true rfl, Nat.le_of_ble_eq_true rfl, Nat.le_of_ble_eq_true rfl⟩ rfl rfl (q0 := 0) rfl [0] [] rfl rfl (by decide) rfl (Nat.le_of_ble_eq_true rfl) dX9_secret_2 (fun u H locs hq hP hD hS => ?_)
  refine W.eq (g2 := F0 mm 5 ls [.null]) rfl ?_
  have hP : va_P D vwCl [(lg 0, oG lg ya yb wa wb o v ct)] H := hP
  have hD : va_D A [(lg 0, oG lg ya yb wa wb o v ct)] := hD
  refine lv_astoreN (pc := 5) (lv' := [(4, .null), (0, .ref (lg 0)), (1, .int s9), (2, .int i), (3, .int j)]) hx hb dX9_secret_5 hl (by decide) rfl (fun ls hl => ?_)
  refine lv_aloadN (pc := 7) hx hb dX9_secret_7 (lv_at hl 0 rfl) ?_
  refine lv_ifnullN (pc := 9) (tgt := 20) hx hb dX9_secret_9 (by decide) ?_
  refine lv_iconst (pc := 20) (v := (-1)) hx hb dX9_secret_20 (by decide +kernel) ?_
  refine q_top (y := (-1)) (by first | rfl | decide +kernel | (simp; done)) ?_
  have hq_1 : (((-1) : Int32) = -1) := by
    first | rfl | trivial | (refine ⟨?_, ?_⟩ <;> rfl) | (simp; done) | omega
  exact hret (-1) _ _ _ _ dX9_secret_21 hq_1 (hP.sub [0] rfl) (hD.sub [0] (by decide) rfl) hS
