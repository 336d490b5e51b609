theorem hdX6_size : yX6_size.cls ≠ "java/lang/invoke/MethodHandle" ∧ yX6_size.cls ≠ "java/lang/invoke/VarHandle" ∧ (parseMethodDescriptor yX6_size.desc).map (fun d => d.parameters.length) = some 0 := ⟨by decide +kernel, by decide +kernel, by decide +kernel⟩
theorem dX6_size_0 : decode cX6_size 0 = .ok (.aload_n 0, 1) := by decide +kernel
theorem dX6_size_1 : decode cX6_size 1 = .ok (.getfield 9, 3) := by decide +kernel
theorem dX6_size_4 : decode cX6_size 4 = .ok (.ireturn, 1) := by decide +kernel
set_option maxHeartbeats 4000000 in
set_option maxRecDepth 100000 in
theorem ct_X6_size (ll : Launch) (D : va_G) (ta : Nat → ClassId) {G : (Nat → Prop) → State → Heap → Prop} (hGok : GOK G) (h0 : Nat) (b0 : Nat) (cap : Nat) (g : Nat → BitVec 8) (n : Nat)  (sz : Nat) : CT ll yX6_size cX6_size 1 (some .int) ({ frames := 0, cells := 0, slots := 0, locals := 0 } : Room) D ta G [.ref h0] [(h0, oR b0 n), (b0, aZ ta cap g)] sz (S := Unit) (fun u => some (.int (nI n))) (fun u => True) (fun u => [(h0, oR b0 n), (b0, aZ ta cap g)]) 0 0 := by
  refine CT.of_i (r := fun u => nI n) rfl (by decide) (Nat.le_of_ble_eq_true rfl) ?_
  intro pp ee ss mm below meth kc A Q hx hb hml hown hin hts hK hA hsz hG hret H locs hP hD hS ls hl
  have hl : lv_has ls 1 [(0, .ref h0)] := hl
  refine lv_aload_n (pc := 0) hx hb dX6_size_0 rfl (lv_at hl 0 rfl) ?_
  refine va_get (pc := 1) (D := D) (ci := 5) (v := .int (nI n)) (C := RX6) (T := TX6) (N := 2) hx hb hts iu6 hown hK hP 0 rfl rfl 1 (by decide) (hts _ tw_91) (fun _ h9 => h9) rfl dX6_size_1 ?_
  have hq_1 : True := trivial
  exact hret () _ _ _ _ dX6_size_4 hq_1 (hP.sub [0, 1] rfl) (hD.sub [0, 1] (by decide) rfl) hS
theorem hdX6_at : yX6_at.cls ≠ "java/lang/invoke/MethodHandle" ∧ yX6_at.cls ≠ "java/lang/invoke/VarHandle" ∧ (parseMethodDescriptor yX6_at.desc).map (fun d => d.parameters.length) = some 1 := ⟨by decide +kernel, by decide +kernel, by decide +kernel⟩
theorem dX6_at_0 : decode cX6_at 0 = .ok (.iload_n 1, 1) := by decide +kernel
theorem dX6_at_1 : decode cX6_at 1 = .ok (.ifCond .lt 20, 3) := by decide +kernel
theorem dX6_at_4 : decode cX6_at 4 = .ok (.iload_n 1, 1) := by decide +kernel
theorem dX6_at_5 : decode cX6_at 5 = .ok (.aload_n 0, 1) := by decide +kernel
theorem dX6_at_6 : decode cX6_at 6 = .ok (.getfield 9, 3) := by decide +kernel
theorem dX6_at_9 : decode cX6_at 9 = .ok (.if_icmp .ge 12, 3) := by decide +kernel
theorem dX6_at_12 : decode cX6_at 12 = .ok (.aload_n 0, 1) := by decide +kernel
theorem dX6_at_13 : decode cX6_at 13 = .ok (.getfield 15, 3) := by decide +kernel
theorem dX6_at_16 : decode cX6_at 16 = .ok (.iload_n 1, 1) := by decide +kernel
theorem dX6_at_17 : decode cX6_at 17 = .ok (.iaload, 1) := by decide +kernel
theorem dX6_at_18 : decode cX6_at 18 = .ok (.goto 4, 3) := by decide +kernel
theorem dX6_at_21 : decode cX6_at 21 = .ok (.iconst (-1), 1) := by decide +kernel
theorem dX6_at_22 : decode cX6_at 22 = .ok (.ireturn, 1) := by decide +kernel
set_option maxHeartbeats 4000000 in
set_option maxRecDepth 100000 in
theorem ct_X6_at_in (ll : Launch) (D : va_G) (ta : Nat → ClassId) {G : (Nat → Prop) → State → Heap → Prop} (hGok : GOK G) (h0 : Nat) (b0 : Nat) (cap : Nat) (g : Nat → BitVec 8) (n : Nat) (j : Nat) (hn : n ≤ cap) (hc : cap < 2147483648) (hj : j < n) (sz : Nat) : CT ll yX6_at cX6_at 2 (some .int) ({ frames := 0, cells := 0, slots := 0, locals := 0 } : Room) D ta G [.ref h0, .int (nI j)] [(h0, oR b0 n), (b0, aZ ta cap g)] sz (S := Unit) (fun u => some (.int (qz (g j)))) (fun u => True) (fun u => [(h0, oR b0 n), (b0, aZ ta cap g)]) 0 0 := by
  refine CT.of_i (r := fun u => qz (g j)) rfl (by decide) (Nat.le_of_ble_eq_true rfl) ?_
  intro pp ee ss mm below meth kc A Q hx hb hml hown hin hts hK hA hsz hG hret H locs hP hD hS ls hl
  have hl : lv_has ls 2 [(0, .ref h0), (1, .int (nI j))] := hl
  refine lv_iload_n (pc := 0) hx hb dX6_at_0 rfl (lv_at hl 1 rfl) ?_
  refine lv_if_lt (pc := 1) (tgt := 21) hx hb dX6_at_1 (by decide) (fun c_1 => ?_) (fun _ => ?_)
  · skip
    rw [q_lt0 (by omega)] at c_1
    exact c_1.elim
  refine lv_iload_n (pc := 4) hx hb dX6_at_4 rfl (lv_at hl 1 rfl) ?_
  refine lv_aload_n (pc := 5) hx hb dX6_at_5 rfl (lv_at hl 0 rfl) ?_
  refine va_get (pc := 6) (D := D) (ci := 5) (v := .int (nI n)) (C := RX6) (T := TX6) (N := 2) hx hb hts iu6 hown hK hP 0 rfl rfl 1 (by decide) (hts _ tw_91) (fun _ h9 => h9) rfl dX6_at_6 ?_
  refine lv_icmp_ge (pc := 9) (tgt := 21) hx hb dX6_at_9 (by decide) (fun c_2 => ?_) (fun _ => ?_)
  · skip
    rw [nI_leI (by omega) (by omega)] at c_2
    first | omega | simp_all
  refine lv_aload_n (pc := 12) hx hb dX6_at_12 rfl (lv_at hl 0 rfl) ?_
  refine va_get (pc := 13) (D := D) (ci := 5) (v := .ref b0) (C := RX6) (T := TX6) (N := 2) hx hb hts iu6 hown hK hP 0 rfl rfl 0 (by decide) (hts _ tw_90) (fun _ h9 => h9) rfl dX6_at_13 ?_
  refine lv_iload_n (pc := 16) hx hb dX6_at_16 rfl (lv_at hl 1 rfl) ?_
  refine q_iald (pc := 17) hx hb hK hP 1 0 rfl rfl (k := j) (v := qz (g j)) rfl (by omega) (by omega) rfl dX6_at_17 ?_
  refine lv_goto (pc := 18) (tgt := 22) hx hb dX6_at_18 (by decide) ?_
  have hq_3 : True := trivial
  exact hret () _ _ _ _ dX6_at_22 hq_3 (hP.sub [0, 1] rfl) (hD.sub [0, 1] (by decide) rfl) hS
set_option maxHeartbeats 4000000 in
set_option maxRecDepth 100000 in
theorem ct_X6_at_any (ll : Launch) (D : va_G) (ta : Nat → ClassId) {G : (Nat → Prop) → State → Heap → Prop} (hGok : GOK G) (h0 : Nat) (b0 : Nat) (cap : Nat) (g : Nat → BitVec 8) (n : Nat) (i : Int32) (hn : n ≤ cap) (hc : cap < 2147483648) (sz : Nat) : CT ll yX6_at cX6_at 2 (some .int) ({ frames := 0, cells := 0, slots := 0, locals := 0 } : Room) D ta G [.ref h0, .int i] [(h0, oR b0 n), (b0, aZ ta cap g)] sz (S := Int32) (fun u => some (.int u)) (fun u => (u = qAt g n i)) (fun u => [(h0, oR b0 n), (b0, aZ ta cap g)]) 0 0 := by
  refine CT.of_i (r := fun u => u) rfl (by decide) (Nat.le_of_ble_eq_true rfl) ?_
  intro pp ee ss mm below meth kc A Q hx hb hml hown hin hts hK hA hsz hG hret H locs hP hD hS ls hl
  have hl : lv_has ls 2 [(0, .ref h0), (1, .int i)] := hl
  refine lv_iload_n (pc := 0) hx hb dX6_at_0 rfl (lv_at hl 1 rfl) ?_
  refine lv_if_lt (pc := 1) (tgt := 21) hx hb dX6_at_1 (by decide) (fun c_1 => ?_) (fun c_1 => ?_)
  · skip
    have hr1 := qAt_neg (g := g) (n := n) c_1
    refine lv_iconst (pc := 21) (v := (-1)) hx hb dX6_at_21 (by decide +kernel) ?_
    refine q_top (y := (-1)) (by first | rfl | decide +kernel | (simp; done)) ?_
    have hq_2 : ((-1) = qAt g n i) := by
      rw [hr1]
    exact hret (-1) _ _ _ _ dX6_at_22 hq_2 (hP.sub [0, 1] rfl) (hD.sub [0, 1] (by decide) rfl) hS
  · skip
    have hi0 := c_1
    refine lv_iload_n (pc := 4) hx hb dX6_at_4 rfl (lv_at hl 1 rfl) ?_
    refine lv_aload_n (pc := 5) hx hb dX6_at_5 rfl (lv_at hl 0 rfl) ?_
    refine va_get (pc := 6) (D := D) (ci := 5) (v := .int (nI n)) (C := RX6) (T := TX6) (N := 2) hx hb hts iu6 hown hK hP 0 rfl rfl 1 (by decide) (hts _ tw_91) (fun _ h9 => h9) rfl dX6_at_6 ?_
    refine lv_icmp_ge (pc := 9) (tgt := 21) hx hb dX6_at_9 (by decide) (fun c_3 => ?_) (fun c_3 => ?_)
    · skip
      have hr1 := qAt_big (g := g) (by omega) c_3
      refine lv_iconst (pc := 21) (v := (-1)) hx hb dX6_at_21 (by decide +kernel) ?_
      refine q_top (y := (-1)) (by first | rfl | decide +kernel | (simp; done)) ?_
      have hq_4 : ((-1) = qAt g n i) := by
        rw [hr1]
      exact hret (-1) _ _ _ _ dX6_at_22 hq_4 (hP.sub [0, 1] rfl) (hD.sub [0, 1] (by decide) rfl) hS
    · skip
      obtain ⟨j, hj, rfl⟩ := q_ix hi0 c_3 (by omega)
      have hr1 := qAt_in (g := g) hj (by omega)
      refine lv_aload_n (pc := 12) hx hb dX6_at_12 rfl (lv_at hl 0 rfl) ?_
      refine va_get (pc := 13) (D := D) (ci := 5) (v := .ref b0) (C := RX6) (T := TX6) (N := 2) hx hb hts iu6 hown hK hP 0 rfl rfl 0 (by decide) (hts _ tw_90) (fun _ h9 => h9) rfl dX6_at_13 ?_
      refine lv_iload_n (pc := 16) hx hb dX6_at_16 rfl (lv_at hl 1 rfl) ?_
      refine q_iald (pc := 17) hx hb hK hP 1 0 rfl rfl (k := j) (v := qz (g j)) rfl (by omega) (by omega) rfl dX6_at_17 ?_
      refine lv_goto (pc := 18) (tgt := 22) hx hb dX6_at_18 (by decide) ?_
      refine q_top (y := (qz (g j))) (by first | rfl | decide +kernel | (simp; done)) ?_
      have hq_5 : ((qz (g j)) = qAt g n (nI j)) := by
        rw [hr1]
      exact hret (qz (g j)) _ _ _ _ dX6_at_22 hq_5 (hP.sub [0, 1] rfl) (hD.sub [0, 1] (by decide) rfl) hS
theorem hdX6_put : yX6_put.cls ≠ "java/lang/invoke/MethodHandle" ∧ yX6_put.cls ≠ "java/lang/invoke/VarHandle" ∧ (parseMethodDescriptor yX6_put.desc).map (fun d => d.parameters.length) = some 2 := ⟨by decide +kernel, by decide +kernel, by decide +kernel⟩
theorem dX6_put_0 : decode cX6_put 0 = .ok (.iload_n 1, 1) := by decide +kernel
theorem dX6_put_1 : decode cX6_put 1 = .ok (.ifCond .lt 22, 3) := by decide +kernel
theorem dX6_put_4 : decode cX6_put 4 = .ok (.iload_n 1, 1) := by decide +kernel
theorem dX6_put_5 : decode cX6_put 5 = .ok (.aload_n 0, 1) := by decide +kernel
theorem dX6_put_6 : decode cX6_put 6 = .ok (.getfield 9, 3) := by decide +kernel
theorem dX6_put_9 : decode cX6_put 9 = .ok (.if_icmp .ge 14, 3) := by decide +kernel
theorem dX6_put_12 : decode cX6_put 12 = .ok (.aload_n 0, 1) := by decide +kernel
theorem dX6_put_13 : decode cX6_put 13 = .ok (.getfield 15, 3) := by decide +kernel
theorem dX6_put_16 : decode cX6_put 16 = .ok (.iload_n 1, 1) := by decide +kernel
theorem dX6_put_17 : decode cX6_put 17 = .ok (.iload_n 2, 1) := by decide +kernel
theorem dX6_put_18 : decode cX6_put 18 = .ok (.sipush 255, 3) := by decide +kernel
theorem dX6_put_21 : decode cX6_put 21 = .ok (.iand, 1) := by decide +kernel
theorem dX6_put_22 : decode cX6_put 22 = .ok (.iastore, 1) := by decide +kernel
theorem dX6_put_23 : decode cX6_put 23 = .ok (.return_, 1) := by decide +kernel
set_option maxHeartbeats 4000000 in
set_option maxRecDepth 100000 in
theorem ct_X6_put (ll : Launch) (D : va_G) (ta : Nat → ClassId) {G : (Nat → Prop) → State → Heap → Prop} (hGok : GOK G) (h0 : Nat) (b0 : Nat) (cap : Nat) (g : Nat → BitVec 8) (n : Nat) (j : Nat) (x : Int32) (hn : n ≤ cap) (hc : cap < 2147483648) (hj : j < n) (sz : Nat) : CT ll yX6_put cX6_put 3 none ({ frames := 0, cells := 0, slots := 0, locals := 0 } : Room) D ta G [.ref h0, .int (nI j), .int x] [(h0, oR b0 n), (b0, aZ ta cap g)] sz (S := (Nat → BitVec 8)) (fun _ => none) (fun u => (u = qU g j (qlo x))) (fun u => [(h0, oR b0 n), (b0, aZ ta cap u)]) 0 0 := by
  refine CT.of_v rfl (by decide) (Nat.le_of_ble_eq_true rfl) ?_
  intro pp ee ss mm below meth kc A Q hx hb hml hown hin hts hK hA hsz hG hret H locs hP hD hS ls hl
  have hl : lv_has ls 3 [(0, .ref h0), (1, .int (nI j)), (2, .int x)] := hl
  refine lv_iload_n (pc := 0) hx hb dX6_put_0 rfl (lv_at hl 1 rfl) ?_
  refine lv_if_lt (pc := 1) (tgt := 23) hx hb dX6_put_1 (by decide) (fun c_1 => ?_) (fun _ => ?_)
  · skip
    rw [q_lt0 (by omega)] at c_1
    exact c_1.elim
  refine lv_iload_n (pc := 4) hx hb dX6_put_4 rfl (lv_at hl 1 rfl) ?_
  refine lv_aload_n (pc := 5) hx hb dX6_put_5 rfl (lv_at hl 0 rfl) ?_
  refine va_get (pc := 6) (D := D) (ci := 5) (v := .int (nI n)) (C := RX6) (T := TX6) (N := 2) hx hb hts iu6 hown hK hP 0 rfl rfl 1 (by decide) (hts _ tw_91) (fun _ h9 => h9) rfl dX6_put_6 ?_
  refine lv_icmp_ge (pc := 9) (tgt := 23) hx hb dX6_put_9 (by decide) (fun c_2 => ?_) (fun _ => ?_)
  · skip
    rw [nI_leI (by omega) (by omega)] at c_2
    first | omega | simp_all
  refine lv_aload_n (pc := 12) hx hb dX6_put_12 rfl (lv_at hl 0 rfl) ?_
  refine va_get (pc := 13) (D := D) (ci := 5) (v := .ref b0) (C := RX6) (T := TX6) (N := 2) hx hb hts iu6 hown hK hP 0 rfl rfl 0 (by decide) (hts _ tw_90) (fun _ h9 => h9) rfl dX6_put_13 ?_
  refine lv_iload_n (pc := 16) hx hb dX6_put_16 rfl (lv_at hl 1 rfl) ?_
  refine lv_iload_n (pc := 17) hx hb dX6_put_17 rfl (lv_at hl 2 rfl) ?_
  refine lv_sipush (pc := 18) (v := nI 255) hx hb dX6_put_18 (by decide +kernel) ?_
  refine lv_iand (pc := 21) hx hb dX6_put_21 ?_
  refine q_top (y := qz (qlo x)) (q_m255 _) ?_
  refine q_iastZ (pc := 22) hx hb hK hP hD hS 1 0 rfl rfl (k := j) rfl (by omega) (by omega) (b := qlo x) rfl dX6_put_22 (fun H locs hP hD hS => ?_)
  have hP : va_P D vwCl [(h0, oR b0 n), (b0, aZ ta cap (qU g j (qlo x)))] H := hP
  have hD : va_D A [(h0, oR b0 n), (b0, aZ ta cap (qU g j (qlo x)))] := hD
  have hq_3 : ((qU g j (qlo x)) = qU g j (qlo x)) := by
    first | rfl | trivial | (refine ⟨?_, ?_⟩ <;> rfl) | (simp; done) | omega
  exact hret (qU g j (qlo x)) _ _ _ _ dX6_put_23 hq_3 (hP.sub [0, 1] rfl) (hD.sub [0, 1] (by decide) rfl) hS
theorem hdX6_clear : yX6_clear.cls ≠ "java/lang/invoke/MethodHandle" ∧ yX6_clear.cls ≠ "java/lang/invoke/VarHandle" ∧ (parseMethodDescriptor yX6_clear.desc).map (fun d => d.parameters.length) = some 0 := ⟨by decide +kernel, by decide +kernel, by decide +kernel⟩
theorem dX6_clear_0 : decode cX6_clear 0 = .ok (.aload_n 0, 1) := by decide +kernel
theorem dX6_clear_1 : decode cX6_clear 1 = .ok (.iconst 0, 1) := by decide +kernel
theorem dX6_clear_2 : decode cX6_clear 2 = .ok (.putfield 9, 3) := by decide +kernel
theorem dX6_clear_5 : decode cX6_clear 5 = .ok (.return_, 1) := by decide +kernel
set_option maxHeartbeats 4000000 in
set_option maxRecDepth 100000 in
theorem ct_X6_clear (ll : Launch) (D : va_G) (ta : Nat → ClassId) {G : (Nat → Prop) → State → Heap → Prop} (hGok : GOK G) (h0 : Nat) (b0 : Nat) (cap : Nat) (g : Nat → BitVec 8) (n : Nat)  (sz : Nat) : CT ll yX6_clear cX6_clear 1 none ({ frames := 0, cells := 0, slots := 0, locals := 0 } : Room) D ta G [.ref h0] [(h0, oR b0 n), (b0, aZ ta cap g)] sz (S := Unit) (fun _ => none) (fun u => True) (fun u => [(h0, oR b0 0), (b0, aZ ta cap g)]) 0 0 := by
  refine CT.of_v rfl (by decide) (Nat.le_of_ble_eq_true rfl) ?_
  intro pp ee ss mm below meth kc A Q hx hb hml hown hin hts hK hA hsz hG hret H locs hP hD hS ls hl
  have hl : lv_has ls 1 [(0, .ref h0)] := hl
  refine lv_aload_n (pc := 0) hx hb dX6_clear_0 rfl (lv_at hl 0 rfl) ?_
  refine lv_iconst (pc := 1) (v := nI 0) hx hb dX6_clear_1 (by decide +kernel) ?_
  refine va_put (pc := 2) (D := D) (ci := 5) (v := .int (nI 0)) (ty := .int) (C := RX6) (T := TX6) (N := 2) hx hb hts iu6 tyX6 tyX6_ok nmX6 hown hK hP hD hS 0 rfl rfl 1 (by decide) (hts _ tw_91) (fun _ h9 => h9) rfl (by decide +kernel) rfl rfl (Nat.le_of_ble_eq_true rfl) dX6_clear_2 (fun H locs hP hD hS => ?_)
  have hP : va_P D vwCl [(h0, oR b0 0), (b0, aZ ta cap g)] H := hP
  have hD : va_D A [(h0, oR b0 0), (b0, aZ ta cap g)] := hD
  have hq_1 : True := trivial
  exact hret () _ _ _ _ dX6_clear_5 hq_1 (hP.sub [0, 1] rfl) (hD.sub [0, 1] (by decide) rfl) hS
theorem hdX6_shorten : yX6_shorten.cls ≠ "java/lang/invoke/MethodHandle" ∧ yX6_shorten.cls ≠ "java/lang/invoke/VarHandle" ∧ (parseMethodDescriptor yX6_shorten.desc).map (fun d => d.parameters.length) = some 1 := ⟨by decide +kernel, by decide +kernel, by decide +kernel⟩
theorem dX6_shorten_0 : decode cX6_shorten 0 = .ok (.iload_n 1, 1) := by decide +kernel
theorem dX6_shorten_1 : decode cX6_shorten 1 = .ok (.ifCond .lt 11, 3) := by decide +kernel
theorem dX6_shorten_4 : decode cX6_shorten 4 = .ok (.iload_n 1, 1) := by decide +kernel
theorem dX6_shorten_5 : decode cX6_shorten 5 = .ok (.aload_n 0, 1) := by decide +kernel
theorem dX6_shorten_6 : decode cX6_shorten 6 = .ok (.getfield 9, 3) := by decide +kernel
theorem dX6_shorten_9 : decode cX6_shorten 9 = .ok (.if_icmp .le 5, 3) := by decide +kernel
theorem dX6_shorten_12 : decode cX6_shorten 12 = .ok (.iconst 0, 1) := by decide +kernel
theorem dX6_shorten_13 : decode cX6_shorten 13 = .ok (.ireturn, 1) := by decide +kernel
theorem dX6_shorten_14 : decode cX6_shorten 14 = .ok (.aload_n 0, 1) := by decide +kernel
theorem dX6_shorten_15 : decode cX6_shorten 15 = .ok (.iload_n 1, 1) := by decide +kernel
theorem dX6_shorten_16 : decode cX6_shorten 16 = .ok (.putfield 9, 3) := by decide +kernel
theorem dX6_shorten_19 : decode cX6_shorten 19 = .ok (.iconst 1, 1) := by decide +kernel
theorem dX6_shorten_20 : decode cX6_shorten 20 = .ok (.ireturn, 1) := by decide +kernel
set_option maxHeartbeats 4000000 in
set_option maxRecDepth 100000 in
theorem ct_X6_shorten (ll : Launch) (D : va_G) (ta : Nat → ClassId) {G : (Nat → Prop) → State → Heap → Prop} (hGok : GOK G) (h0 : Nat) (b0 : Nat) (cap : Nat) (g : Nat → BitVec 8) (n : Nat) (i : Int32) (hn : n ≤ cap) (hc : cap < 2147483648) (sz : Nat) : CT ll yX6_shorten cX6_shorten 2 (some .boolean) ({ frames := 0, cells := 0, slots := 0, locals := 0 } : Room) D ta G [.ref h0, .int i] [(h0, oR b0 n), (b0, aZ ta cap g)] sz (S := Bool × Nat) (fun u => some (.int (qb u.1))) (fun u => (u.1 = decide (0 ≤ i.toInt ∧ i.toInt ≤ n)) ∧ (u.2 = if u.1 then i.toInt.toNat else n)) (fun u => [(h0, oR b0 u.2), (b0, aZ ta cap g)]) 0 0 := by
  refine CT.of_z (r := fun u => u.1) rfl (by decide) (Nat.le_of_ble_eq_true rfl) ?_
  intro pp ee ss mm below meth kc A Q hx hb hml hown hin hts hK hA hsz hG hret H locs hP hD hS ls hl
  have hl : lv_has ls 2 [(0, .ref h0), (1, .int i)] := hl
  refine lv_iload_n (pc := 0) hx hb dX6_shorten_0 rfl (lv_at hl 1 rfl) ?_
  refine lv_if_lt (pc := 1) (tgt := 12) hx hb dX6_shorten_1 (by decide) (fun c_1 => ?_) (fun c_1 => ?_)
  · skip
    have hz1 : decide (0 ≤ i.toInt ∧ i.toInt ≤ n) = false := by
      have := Int32.lt_iff_toInt_lt.mp c_1
      simp at this ⊢
      omega
    refine lv_iconst (pc := 12) (v := nI 0) hx hb dX6_shorten_12 (by decide +kernel) ?_
    refine q_top (y := qb false) (by first | rfl | decide +kernel | (simp; done)) ?_
    have hq_2 : (false = decide (0 ≤ i.toInt ∧ i.toInt ≤ n)) ∧ (n = if false then i.toInt.toNat else n) := by
      exact ⟨hz1.symm, rfl⟩
    exact hret (⟨(false), (n)⟩ : Bool × Nat) _ _ _ _ dX6_shorten_13 hq_2 (hP.sub [0, 1] rfl) (hD.sub [0, 1] (by decide) rfl) hS
  · skip
    have hi0 := c_1
    refine lv_iload_n (pc := 4) hx hb dX6_shorten_4 rfl (lv_at hl 1 rfl) ?_
    refine lv_aload_n (pc := 5) hx hb dX6_shorten_5 rfl (lv_at hl 0 rfl) ?_
    refine va_get (pc := 6) (D := D) (ci := 5) (v := .int (nI n)) (C := RX6) (T := TX6) (N := 2) hx hb hts iu6 hown hK hP 0 rfl rfl 1 (by decide) (hts _ tw_91) (fun _ h9 => h9) rfl dX6_shorten_6 ?_
    refine lv_icmp_le (pc := 9) (tgt := 14) hx hb dX6_shorten_9 (by decide) (fun c_3 => ?_) (fun c_3 => ?_)
    · skip
      obtain ⟨j, hj, rfl⟩ := nI_of2 (M := nI n) (n := n) (nI_toInt (by omega)) hi0 c_3
      have hz1 : decide (0 ≤ (nI j).toInt ∧ (nI j).toInt ≤ n) = true := by
        rw [q_toI (by omega)]
        simp
        omega
      refine lv_aload_n (pc := 14) hx hb dX6_shorten_14 rfl (lv_at hl 0 rfl) ?_
      refine lv_iload_n (pc := 15) hx hb dX6_shorten_15 rfl (lv_at hl 1 rfl) ?_
      refine va_put (pc := 16) (D := D) (ci := 5) (v := .int (nI j)) (ty := .int) (C := RX6) (T := TX6) (N := 2) hx hb hts iu6 tyX6 tyX6_ok nmX6 hown hK hP hD hS 0 rfl rfl 1 (by decide) (hts _ tw_91) (fun _ h9 => h9) rfl (by decide +kernel) rfl rfl (Nat.le_of_ble_eq_true rfl) dX6_shorten_16 (fun H locs hP hD hS => ?_)
      have hP : va_P D vwCl [(h0, oR b0 j), (b0, aZ ta cap g)] H := hP
      have hD : va_D A [(h0, oR b0 j), (b0, aZ ta cap g)] := hD
      refine lv_iconst (pc := 19) (v := nI 1) hx hb dX6_shorten_19 (by decide +kernel) ?_
      refine q_top (y := qb true) (by first | rfl | decide +kernel | (simp; done)) ?_
      have hq_4 : (true = decide (0 ≤ (nI j).toInt ∧ (nI j).toInt ≤ n)) ∧ (j = if true then (nI j).toInt.toNat else n) := by
        exact ⟨hz1.symm, by rw [q_toI (by omega)]; rfl⟩
      exact hret (⟨(true), (j)⟩ : Bool × Nat) _ _ _ _ dX6_shorten_20 hq_4 (hP.sub [0, 1] rfl) (hD.sub [0, 1] (by decide) rfl) hS
    · skip
      have hz1 : decide (0 ≤ i.toInt ∧ i.toInt ≤ n) = false := by
        have h9 : ¬ i.toInt ≤ (nI n).toInt := fun q => c_3 (Int32.le_iff_toInt_le.mpr q)
        rw [q_toI (by omega)] at h9
        simp
        omega
      refine lv_iconst (pc := 12) (v := nI 0) hx hb dX6_shorten_12 (by decide +kernel) ?_
      refine q_top (y := qb false) (by first | rfl | decide +kernel | (simp; done)) ?_
      have hq_5 : (false = decide (0 ≤ i.toInt ∧ i.toInt ≤ n)) ∧ (n = if false then i.toInt.toNat else n) := by
        exact ⟨hz1.symm, rfl⟩
      exact hret (⟨(false), (n)⟩ : Bool × Nat) _ _ _ _ dX6_shorten_13 hq_5 (hP.sub [0, 1] rfl) (hD.sub [0, 1] (by decide) rfl) hS
theorem hdX6_add : yX6_add.cls ≠ "java/lang/invoke/MethodHandle" ∧ yX6_add.cls ≠ "java/lang/invoke/VarHandle" ∧ (parseMethodDescriptor yX6_add.desc).map (fun d => d.parameters.length) = some 1 := ⟨by decide +kernel, by decide +kernel, by decide +kernel⟩
theorem dX6_add_0 : decode cX6_add 0 = .ok (.aload_n 0, 1) := by decide +kernel
theorem dX6_add_1 : decode cX6_add 1 = .ok (.getfield 9, 3) := by decide +kernel
theorem dX6_add_4 : decode cX6_add 4 = .ok (.aload_n 0, 1) := by decide +kernel
theorem dX6_add_5 : decode cX6_add 5 = .ok (.getfield 15, 3) := by decide +kernel
theorem dX6_add_8 : decode cX6_add 8 = .ok (.arraylength, 1) := by decide +kernel
theorem dX6_add_9 : decode cX6_add 9 = .ok (.if_icmp .ge 27, 3) := by decide +kernel
theorem dX6_add_12 : decode cX6_add 12 = .ok (.aload_n 0, 1) := by decide +kernel
theorem dX6_add_13 : decode cX6_add 13 = .ok (.getfield 15, 3) := by decide +kernel
theorem dX6_add_16 : decode cX6_add 16 = .ok (.aload_n 0, 1) := by decide +kernel
theorem dX6_add_17 : decode cX6_add 17 = .ok (.getfield 9, 3) := by decide +kernel
theorem dX6_add_20 : decode cX6_add 20 = .ok (.iload_n 1, 1) := by decide +kernel
theorem dX6_add_21 : decode cX6_add 21 = .ok (.sipush 255, 3) := by decide +kernel
theorem dX6_add_24 : decode cX6_add 24 = .ok (.iand, 1) := by decide +kernel
theorem dX6_add_25 : decode cX6_add 25 = .ok (.iastore, 1) := by decide +kernel
theorem dX6_add_26 : decode cX6_add 26 = .ok (.aload_n 0, 1) := by decide +kernel
theorem dX6_add_27 : decode cX6_add 27 = .ok (.dup, 1) := by decide +kernel
theorem dX6_add_28 : decode cX6_add 28 = .ok (.getfield 9, 3) := by decide +kernel
theorem dX6_add_31 : decode cX6_add 31 = .ok (.iconst 1, 1) := by decide +kernel
theorem dX6_add_32 : decode cX6_add 32 = .ok (.iadd, 1) := by decide +kernel
theorem dX6_add_33 : decode cX6_add 33 = .ok (.putfield 9, 3) := by decide +kernel
theorem dX6_add_36 : decode cX6_add 36 = .ok (.return_, 1) := by decide +kernel
set_option maxHeartbeats 4000000 in
set_option maxRecDepth 100000 in
theorem ct_X6_add (ll : Launch) (D : va_G) (ta : Nat → ClassId) {G : (Nat → Prop) → State → Heap → Prop} (hGok : GOK G) (h0 : Nat) (b0 : Nat) (cap : Nat) (g : Nat → BitVec 8) (n : Nat) (x : Int32) (hn : n < cap) (hc : cap < 2147483648) (sz : Nat) : CT ll yX6_add cX6_add 2 none ({ frames := 0, cells := 0, slots := 0, locals := 0 } : Room) D ta G [.ref h0, .int x] [(h0, oR b0 n), (b0, aZ ta cap g)] sz (S := (Nat → BitVec 8)) (fun _ => none) (fun u => (qL u (n + 1) = qL g n ++ [qlo x])) (fun u => [(h0, oR b0 (n + 1)), (b0, aZ ta cap u)]) 0 0 := by
  refine CT.of_v rfl (by decide) (Nat.le_of_ble_eq_true rfl) ?_
  intro pp ee ss mm below meth kc A Q hx hb hml hown hin hts hK hA hsz hG hret H locs hP hD hS ls hl
  have hl : lv_has ls 2 [(0, .ref h0), (1, .int x)] := hl
  refine lv_aload_n (pc := 0) hx hb dX6_add_0 rfl (lv_at hl 0 rfl) ?_
  refine va_get (pc := 1) (D := D) (ci := 5) (v := .int (nI n)) (C := RX6) (T := TX6) (N := 2) hx hb hts iu6 hown hK hP 0 rfl rfl 1 (by decide) (hts _ tw_91) (fun _ h9 => h9) rfl dX6_add_1 ?_
  refine lv_aload_n (pc := 4) hx hb dX6_add_4 rfl (lv_at hl 0 rfl) ?_
  refine va_get (pc := 5) (D := D) (ci := 5) (v := .ref b0) (C := RX6) (T := TX6) (N := 2) hx hb hts iu6 hown hK hP 0 rfl rfl 0 (by decide) (hts _ tw_90) (fun _ h9 => h9) rfl dX6_add_5 ?_
  refine va_alen (pc := 8) hx hb hK hP 1 0 rfl rfl (v := nI cap) rfl dX6_add_8 ?_
  refine lv_icmp_ge (pc := 9) (tgt := 36) hx hb dX6_add_9 (by decide) (fun c_1 => ?_) (fun _ => ?_)
  · skip
    rw [nI_leI (by omega) (by omega)] at c_1
    first | omega | simp_all
  refine lv_aload_n (pc := 12) hx hb dX6_add_12 rfl (lv_at hl 0 rfl) ?_
  refine va_get (pc := 13) (D := D) (ci := 5) (v := .ref b0) (C := RX6) (T := TX6) (N := 2) hx hb hts iu6 hown hK hP 0 rfl rfl 0 (by decide) (hts _ tw_90) (fun _ h9 => h9) rfl dX6_add_13 ?_
  refine lv_aload_n (pc := 16) hx hb dX6_add_16 rfl (lv_at hl 0 rfl) ?_
  refine va_get (pc := 17) (D := D) (ci := 5) (v := .int (nI n)) (C := RX6) (T := TX6) (N := 2) hx hb hts iu6 hown hK hP 0 rfl rfl 1 (by decide) (hts _ tw_91) (fun _ h9 => h9) rfl dX6_add_17 ?_
  refine lv_iload_n (pc := 20) hx hb dX6_add_20 rfl (lv_at hl 1 rfl) ?_
  refine lv_sipush (pc := 21) (v := nI 255) hx hb dX6_add_21 (by decide +kernel) ?_
  refine lv_iand (pc := 24) hx hb dX6_add_24 ?_
  refine q_top (y := qz (qlo x)) (q_m255 _) ?_
  refine q_iastZ (pc := 25) hx hb hK hP hD hS 1 0 rfl rfl (k := n) rfl (by omega) (by omega) (b := qlo x) rfl dX6_add_25 (fun H locs hP hD hS => ?_)
  have hP : va_P D vwCl [(h0, oR b0 n), (b0, aZ ta cap (qU g n (qlo x)))] H := hP
  have hD : va_D A [(h0, oR b0 n), (b0, aZ ta cap (qU g n (qlo x)))] := hD
  refine lv_aload_n (pc := 26) hx hb dX6_add_26 rfl (lv_at hl 0 rfl) ?_
  refine lv_dup (pc := 27) hx hb dX6_add_27 rfl ?_
  refine va_get (pc := 28) (D := D) (ci := 5) (v := .int (nI n)) (C := RX6) (T := TX6) (N := 2) hx hb hts iu6 hown hK hP 0 rfl rfl 1 (by decide) (hts _ tw_91) (fun _ h9 => h9) rfl dX6_add_28 ?_
  refine lv_iconst (pc := 31) (v := nI 1) hx hb dX6_add_31 (by decide +kernel) ?_
  refine lv_iadd (pc := 32) hx hb dX6_add_32 ?_
  refine q_top (y := nI (n + 1)) (nI_add n 1) ?_
  refine va_put (pc := 33) (D := D) (ci := 5) (v := .int (nI (n + 1))) (ty := .int) (C := RX6) (T := TX6) (N := 2) hx hb hts iu6 tyX6 tyX6_ok nmX6 hown hK hP hD hS 0 rfl rfl 1 (by decide) (hts _ tw_91) (fun _ h9 => h9) rfl (by decide +kernel) rfl rfl (Nat.le_of_ble_eq_true rfl) dX6_add_33 (fun H locs hP hD hS => ?_)
  have hP : va_P D vwCl [(h0, oR b0 (n + 1)), (b0, aZ ta cap (qU g n (qlo x)))] H := hP
  have hD : va_D A [(h0, oR b0 (n + 1)), (b0, aZ ta cap (qU g n (qlo x)))] := hD
  have hq_2 : (qL (qU g n (qlo x)) (n + 1) = qL g n ++ [qlo x]) := by
    exact qL_snoc
  exact hret (qU g n (qlo x)) _ _ _ _ dX6_add_36 hq_2 (hP.sub [0, 1] rfl) (hD.sub [0, 1] (by decide) rfl) hS
theorem hdX6_addNumber : yX6_addNumber.cls ≠ "java/lang/invoke/MethodHandle" ∧ yX6_addNumber.cls ≠ "java/lang/invoke/VarHandle" ∧ (parseMethodDescriptor yX6_addNumber.desc).map (fun d => d.parameters.length) = some 2 := ⟨by decide +kernel, by decide +kernel, by decide +kernel⟩
theorem dX6_addNumber_0 : decode cX6_addNumber 0 = .ok (.iload_n 3, 1) := by decide +kernel
theorem dX6_addNumber_1 : decode cX6_addNumber 1 = .ok (.iconst 1, 1) := by decide +kernel
theorem dX6_addNumber_2 : decode cX6_addNumber 2 = .ok (.isub, 1) := by decide +kernel
theorem dX6_addNumber_3 : decode cX6_addNumber 3 = .ok (.istore 4, 2) := by decide +kernel
theorem dX6_addNumber_5 : decode cX6_addNumber 5 = .ok (.iload 4, 2) := by decide +kernel
theorem dX6_addNumber_7 : decode cX6_addNumber 7 = .ok (.ifCond .lt 21, 3) := by decide +kernel
theorem dX6_addNumber_10 : decode cX6_addNumber 10 = .ok (.aload_n 0, 1) := by decide +kernel
theorem dX6_addNumber_11 : decode cX6_addNumber 11 = .ok (.lload_n 1, 1) := by decide +kernel
theorem dX6_addNumber_12 : decode cX6_addNumber 12 = .ok (.bipush 8, 2) := by decide +kernel
theorem dX6_addNumber_14 : decode cX6_addNumber 14 = .ok (.iload 4, 2) := by decide +kernel
theorem dX6_addNumber_16 : decode cX6_addNumber 16 = .ok (.imul, 1) := by decide +kernel
theorem dX6_addNumber_17 : decode cX6_addNumber 17 = .ok (.lushr, 1) := by decide +kernel
theorem dX6_addNumber_18 : decode cX6_addNumber 18 = .ok (.l2i, 1) := by decide +kernel
theorem dX6_addNumber_19 : decode cX6_addNumber 19 = .ok (.invokevirtual 19, 3) := by decide +kernel
theorem dX6_addNumber_22 : decode cX6_addNumber 22 = .ok (.iinc 4 (-1), 3) := by decide +kernel
theorem dX6_addNumber_25 : decode cX6_addNumber 25 = .ok (.goto (-20), 3) := by decide +kernel
theorem dX6_addNumber_28 : decode cX6_addNumber 28 = .ok (.return_, 1) := by decide +kernel
set_option maxHeartbeats 4000000 in
set_option maxRecDepth 100000 in
theorem ct_X6_addNumber (ll : Launch) (D : va_G) (ta : Nat → ClassId) {G : (Nat → Prop) → State → Heap → Prop} (hGok : GOK G) (h0 : Nat) (b0 : Nat) (cap : Nat) (g : Nat → BitVec 8) (n : Nat) (x : Int64) (cnt : Nat) (hn : n + cnt ≤ cap) (hc : cap < 2147483648) (h8 : cnt ≤ 8) (sz : Nat) : CT ll yX6_addNumber cX6_addNumber 5 none ({ frames := 1, cells := 0, slots := 0, locals := 21 } : Room) D ta G [.ref h0, .long x, .int (nI cnt)] [(h0, oR b0 n), (b0, aZ ta cap g)] sz (S := (Nat → BitVec 8)) (fun _ => none) (fun u => (qL u (n + cnt) = qL g n ++ qNum x cnt)) (fun u => [(h0, oR b0 (n + cnt)), (b0, aZ ta cap u)]) 0 0 := by
  refine CT.of_v rfl (by decide) (Nat.le_of_ble_eq_true rfl) ?_
  intro pp ee ss mm below meth kc A Q hx hb hml hown hin hts hK hA hsz hG hret H locs hP hD hS ls hl
  have hl : lv_has ls 5 [(0, .ref h0), (1, .long x), (3, .int (nI cnt))] := hl
  refine lv_iload_n (pc := 0) hx hb dX6_addNumber_0 rfl (lv_at hl 2 rfl) ?_
  refine lv_iconst (pc := 1) (v := nI 1) hx hb dX6_addNumber_1 (by decide +kernel) ?_
  refine lv_isub (pc := 2) hx hb dX6_addNumber_2 ?_
  refine q_top (y := qI cnt) (qI_of cnt) ?_
  refine lv_istore (pc := 3) (lv' := [(4, .int (qI cnt)), (0, .ref h0), (1, .long x), (3, .int (nI cnt))]) hx hb dX6_addNumber_3 hl (by decide) rfl (fun ls hl => ?_)
  have LP5 : ∀ (nn : Nat) (c : Nat) (m : Nat) (g' : Nat → BitVec 8), (c ≤ cnt) → (m = n + (cnt - c)) → (qL g' m = qL g n ++ (qNum x cnt).take (cnt - c)) → (c < nn) → ∀ (H : Heap) (locs : List Loc), va_P D vwCl [(h0, oR b0 m), (b0, aZ ta cap g')] H → va_D A [(h0, oR b0 m), (b0, aZ ta cap g')] → va_S A ss.heap H locs → ∀ ls : Array Slot, lv_has ls 5 [(4, .int (qI c)), (0, .ref h0), (1, .long x), (3, .int (nI cnt))] → W pp ll ee ({ frames := 1, cells := 0, slots := 0, locals := 21 } : Room) ss mm (([.ref h0, .long x, .int (nI cnt)] : List Value).toArray) below meth kc H locs 0 0 Q (F0 mm 5 ls []) := by
    intro nn
    induction nn with
    | zero => intro c m g' hcc hm hLL hmu; exact absurd hmu (Nat.not_lt_zero _)
    | succ nn ih =>
      intro c m g' hcc hm hLL hmu H locs hP hD hS ls hl
      refine lv_iload (pc := 5) hx hb dX6_addNumber_5 (lv_at hl 0 rfl) ?_
      refine lv_if_lt (pc := 7) (tgt := 28) hx hb dX6_addNumber_7 (by decide) (fun c_1 => ?_) (fun c_1 => ?_)
      · skip
        rw [qI_neg (by omega)] at c_1
        subst c_1
        have em : m = n + cnt := by omega
        subst em
        have hq_2 : (qL g' (n + cnt) = qL g n ++ qNum x cnt) := by
          rw [hLL, Nat.sub_zero, List.take_of_length_le (by rw [qNum_len]; omega)]
        exact hret (g') _ _ _ _ dX6_addNumber_28 hq_2 (hP.sub [0, 1] rfl) (hD.sub [0, 1] (by decide) rfl) hS
      · skip
        rw [qI_neg (by omega)] at c_1
        obtain ⟨k, rfl⟩ : ∃ k, c = k + 1 := ⟨c - 1, by omega⟩
        rw [qI_s] at hl
        refine lv_aload_n (pc := 10) hx hb dX6_addNumber_10 rfl (lv_at hl 1 rfl) ?_
        refine lv_lload_n (pc := 11) hx hb dX6_addNumber_11 rfl (lv_at hl 2 rfl) ?_
        refine lv_bipush (pc := 12) (v := nI 8) hx hb dX6_addNumber_12 (by decide +kernel) ?_
        refine lv_iload (pc := 14) hx hb dX6_addNumber_14 (lv_at hl 0 rfl) ?_
        refine lv_imul (pc := 16) hx hb dX6_addNumber_16 ?_
        refine q_top (y := nI (8 * k)) (pk_mul 8 k) ?_
        refine lv_lushr (pc := 17) (v := (x.toUInt64 >>> ((nI (8 * k)).toInt64.toUInt64 &&& Int64.toUInt64 63)).toInt64) hx hb dX6_addNumber_17 rfl ?_
        refine lv_l2i (pc := 18) (v := ((x.toUInt64 >>> ((nI (8 * k)).toInt64.toUInt64 &&& Int64.toUInt64 63)).toInt64).toInt32) hx hb dX6_addNumber_18 rfl ?_
        refine cs_V (pc := 19) (idx := 19) (n := 1) (wr := []) (As := [.int (((x.toUInt64 >>> ((nI (8 * k)).toInt64.toUInt64 &&& Int64.toUInt64 63)).toInt64).toInt32)]) (rest := []) (ci := 5) hx hb hml hown hts hGok hK hA hG hl.1 hP hD hS (ct_X6_add ll D ta hGok h0 b0 cap g' m (((x.toUInt64 >>> ((nI (8 * k)).toInt64.toUInt64 &&& Int64.toUInt64 63)).toInt64).toInt32) (by first | assumption | omega | rfl | decide) (by first | assumption | omega | rfl | decide) H.size) tw_231 tw_228 tw_229 tw_230 tw_66 hdX6_add rfl ⟨rfl, rfl, Nat.le_of_ble_eq_true rfl, Nat.le_of_ble_eq_true rfl, Nat.le_of_ble_eq_true rfl, Nat.le_of_ble_eq_true rfl⟩ rfl rfl (q0 := 0) rfl [0, 1] [] rfl rfl (by decide) rfl (Nat.le_of_ble_eq_true rfl) dX6_addNumber_19 (fun u H locs hq hP hD hS => ?_)
        generalize u = g1_19 at hq hP hD ⊢
        have hq : (qL g1_19 (m + 1) = qL g' m ++ [qlo (((x.toUInt64 >>> ((nI (8 * k)).toInt64.toUInt64 &&& Int64.toUInt64 63)).toInt64).toInt32)]) := hq
        have hL_19 := hq
        refine W.eq (g2 := F0 mm 22 ls []) rfl ?_
        have hP : va_P D vwCl [(h0, oR b0 (m + 1)), (b0, aZ ta cap g1_19)] H := hP
        have hD : va_D A [(h0, oR b0 (m + 1)), (b0, aZ ta cap g1_19)] := hD
        refine lv_iinc (pc := 22) (v := qI k) (lv' := [(4, .int (qI k)), (0, .ref h0), (1, .long x), (3, .int (nI cnt))]) hx hb dX6_addNumber_22 hl (k := 0) rfl rfl (by decide) rfl (fun ls hl => ?_)
        refine lv_goto (pc := 25) (tgt := 5) hx hb dX6_addNumber_25 (by decide) ?_
        exact ih k (m + 1) g1_19 (by omega) (by omega) (by rw [hL_19, hLL, show cnt - k = (cnt - (k + 1)) + 1 by omega, List.take_add_one, qNum_get (by omega), List.append_assoc, qN_of _ (by omega), show cnt - 1 - (cnt - (k + 1)) = k by omega]; rfl) (by omega) _ _ (hP.sub [0, 1] rfl) (hD.sub [0, 1] (by decide) rfl) hS ls (lv_sub hl [0, 1, 2, 3] rfl)
  exact LP5 _ cnt n g (Nat.le_refl _) (by omega) (by rw [Nat.sub_self, List.take_zero, List.append_nil]) (Nat.lt_succ_self _) _ _ (hP.sub [0, 1] rfl) (hD.sub [0, 1] (by decide) rfl) hS ls (lv_sub hl [0, 1, 2, 3] rfl)
theorem hdX6_addZeros : yX6_addZeros.cls ≠ "java/lang/invoke/MethodHandle" ∧ yX6_addZeros.cls ≠ "java/lang/invoke/VarHandle" ∧ (parseMethodDescriptor yX6_addZeros.desc).map (fun d => d.parameters.length) = some 1 := ⟨by decide +kernel, by decide +kernel, by decide +kernel⟩
theorem dX6_addZeros_0 : decode cX6_addZeros 0 = .ok (.iconst 0, 1) := by decide +kernel
theorem dX6_addZeros_1 : decode cX6_addZeros 1 = .ok (.istore_n 2, 1) := by decide +kernel
theorem dX6_addZeros_2 : decode cX6_addZeros 2 = .ok (.iload_n 2, 1) := by decide +kernel
theorem dX6_addZeros_3 : decode cX6_addZeros 3 = .ok (.iload_n 1, 1) := by decide +kernel
theorem dX6_addZeros_4 : decode cX6_addZeros 4 = .ok (.if_icmp .ge 14, 3) := by decide +kernel
theorem dX6_addZeros_7 : decode cX6_addZeros 7 = .ok (.aload_n 0, 1) := by decide +kernel
theorem dX6_addZeros_8 : decode cX6_addZeros 8 = .ok (.iconst 0, 1) := by decide +kernel
theorem dX6_addZeros_9 : decode cX6_addZeros 9 = .ok (.invokevirtual 19, 3) := by decide +kernel
theorem dX6_addZeros_12 : decode cX6_addZeros 12 = .ok (.iinc 2 1, 3) := by decide +kernel
theorem dX6_addZeros_15 : decode cX6_addZeros 15 = .ok (.goto (-13), 3) := by decide +kernel
theorem dX6_addZeros_18 : decode cX6_addZeros 18 = .ok (.return_, 1) := by decide +kernel
set_option maxHeartbeats 4000000 in
set_option maxRecDepth 100000 in
theorem ct_X6_addZeros (ll : Launch) (D : va_G) (ta : Nat → ClassId) {G : (Nat → Prop) → State → Heap → Prop} (hGok : GOK G) (h0 : Nat) (b0 : Nat) (cap : Nat) (g : Nat → BitVec 8) (n : Nat) (cnt : Nat) (hn : n + cnt ≤ cap) (hc : cap < 2147483648) (sz : Nat) : CT ll yX6_addZeros cX6_addZeros 3 none ({ frames := 1, cells := 0, slots := 0, locals := 21 } : Room) D ta G [.ref h0, .int (nI cnt)] [(h0, oR b0 n), (b0, aZ ta cap g)] sz (S := (Nat → BitVec 8)) (fun _ => none) (fun u => (qL u (n + cnt) = qL g n ++ List.replicate cnt 0#8)) (fun u => [(h0, oR b0 (n + cnt)), (b0, aZ ta cap u)]) 0 0 := by
  refine CT.of_v rfl (by decide) (Nat.le_of_ble_eq_true rfl) ?_
  intro pp ee ss mm below meth kc A Q hx hb hml hown hin hts hK hA hsz hG hret H locs hP hD hS ls hl
  have hl : lv_has ls 3 [(0, .ref h0), (1, .int (nI cnt))] := hl
  refine lv_iconst (pc := 0) (v := nI 0) hx hb dX6_addZeros_0 (by decide +kernel) ?_
  refine lv_istore_n (pc := 1) (lv' := [(2, .int (nI 0)), (0, .ref h0), (1, .int (nI cnt))]) hx hb dX6_addZeros_1 rfl hl (by decide) rfl (fun ls hl => ?_)
  have LP2 : ∀ (nn : Nat) (c : Nat) (m : Nat) (g' : Nat → BitVec 8), (c ≤ cnt) → (m = n + c) → (qL g' m = qL g n ++ List.replicate c 0#8) → (cnt - c < nn) → ∀ (H : Heap) (locs : List Loc), va_P D vwCl [(h0, oR b0 m), (b0, aZ ta cap g')] H → va_D A [(h0, oR b0 m), (b0, aZ ta cap g')] → va_S A ss.heap H locs → ∀ ls : Array Slot, lv_has ls 3 [(2, .int (nI c)), (0, .ref h0), (1, .int (nI cnt))] → W pp ll ee ({ frames := 1, cells := 0, slots := 0, locals := 21 } : Room) ss mm (([.ref h0, .int (nI cnt)] : List Value).toArray) below meth kc H locs 0 0 Q (F0 mm 2 ls []) := by
    intro nn
    induction nn with
    | zero => intro c m g' hcc hm hLL hmu; exact absurd hmu (Nat.not_lt_zero _)
    | succ nn ih =>
      intro c m g' hcc hm hLL hmu H locs hP hD hS ls hl
      refine lv_iload_n (pc := 2) hx hb dX6_addZeros_2 rfl (lv_at hl 0 rfl) ?_
      refine lv_iload_n (pc := 3) hx hb dX6_addZeros_3 rfl (lv_at hl 2 rfl) ?_
      refine lv_icmp_ge (pc := 4) (tgt := 18) hx hb dX6_addZeros_4 (by decide) (fun c_1 => ?_) (fun c_1 => ?_)
      · skip
        rw [nI_leI (by omega) (by omega)] at c_1
        have ec : cnt = c := by omega
        subst ec
        subst hm
        have hq_2 : (qL g' (n + cnt) = qL g n ++ List.replicate cnt 0#8) := by
          exact hLL
        exact hret (g') _ _ _ _ dX6_addZeros_18 hq_2 (hP.sub [0, 1] rfl) (hD.sub [0, 1] (by decide) rfl) hS
      · skip
        rw [nI_leI (by omega) (by omega)] at c_1
        refine lv_aload_n (pc := 7) hx hb dX6_addZeros_7 rfl (lv_at hl 1 rfl) ?_
        refine lv_iconst (pc := 8) (v := nI 0) hx hb dX6_addZeros_8 (by decide +kernel) ?_
        refine cs_V (pc := 9) (idx := 19) (n := 1) (wr := []) (As := [.int (nI 0)]) (rest := []) (ci := 5) hx hb hml hown hts hGok hK hA hG hl.1 hP hD hS (ct_X6_add ll D ta hGok h0 b0 cap g' m (nI 0) (by first | assumption | omega | rfl | decide) (by first | assumption | omega | rfl | decide) H.size) tw_231 tw_228 tw_229 tw_230 tw_66 hdX6_add rfl ⟨rfl, rfl, Nat.le_of_ble_eq_true rfl, Nat.le_of_ble_eq_true rfl, Nat.le_of_ble_eq_true rfl, Nat.le_of_ble_eq_true rfl⟩ rfl rfl (q0 := 0) rfl [0, 1] [] rfl rfl (by decide) rfl (Nat.le_of_ble_eq_true rfl) dX6_addZeros_9 (fun u H locs hq hP hD hS => ?_)
        generalize u = g1_9 at hq hP hD ⊢
        have hq : (qL g1_9 (m + 1) = qL g' m ++ [qlo (nI 0)]) := hq
        have hL_9 := hq
        refine W.eq (g2 := F0 mm 12 ls []) rfl ?_
        have hP : va_P D vwCl [(h0, oR b0 (m + 1)), (b0, aZ ta cap g1_9)] H := hP
        have hD : va_D A [(h0, oR b0 (m + 1)), (b0, aZ ta cap g1_9)] := hD
        refine lv_iinc (pc := 12) (v := nI (c + 1)) (lv' := [(2, .int (nI (c + 1))), (0, .ref h0), (1, .int (nI cnt))]) hx hb dX6_addZeros_12 hl (k := 0) rfl (by first | exact nI_add c 1 | rfl) (by decide) rfl (fun ls hl => ?_)
        refine lv_goto (pc := 15) (tgt := 2) hx hb dX6_addZeros_15 (by decide) ?_
        exact ih (c + 1) (m + 1) g1_9 (by omega) (by omega) (by rw [hL_9, hLL, qlo_nI, List.replicate_succ', List.append_assoc]) (by omega) _ _ (hP.sub [0, 1] rfl) (hD.sub [0, 1] (by decide) rfl) hS ls (lv_sub hl [0, 1, 2] rfl)
  exact LP2 _ 0 n g (Nat.zero_le _) (by omega) (by simp) (Nat.lt_succ_self _) _ _ (hP.sub [0, 1] rfl) (hD.sub [0, 1] (by decide) rfl) hS ls (lv_sub hl [0, 1, 2] rfl)
theorem hdX6_addPart : yX6_addPart.cls ≠ "java/lang/invoke/MethodHandle" ∧ yX6_addPart.cls ≠ "java/lang/invoke/VarHandle" ∧ (parseMethodDescriptor yX6_addPart.desc).map (fun d => d.parameters.length) = some 3 := ⟨by decide +kernel, by decide +kernel, by decide +kernel⟩
theorem dX6_addPart_0 : decode cX6_addPart 0 = .ok (.iload_n 2, 1) := by decide +kernel
theorem dX6_addPart_1 : decode cX6_addPart 1 = .ok (.istore 4, 2) := by decide +kernel
theorem dX6_addPart_3 : decode cX6_addPart 3 = .ok (.iload 4, 2) := by decide +kernel
theorem dX6_addPart_5 : decode cX6_addPart 5 = .ok (.iload_n 3, 1) := by decide +kernel
theorem dX6_addPart_6 : decode cX6_addPart 6 = .ok (.if_icmp .ge 28, 3) := by decide +kernel
theorem dX6_addPart_9 : decode cX6_addPart 9 = .ok (.iload 4, 2) := by decide +kernel
theorem dX6_addPart_11 : decode cX6_addPart 11 = .ok (.aload_n 1, 1) := by decide +kernel
theorem dX6_addPart_12 : decode cX6_addPart 12 = .ok (.getfield 9, 3) := by decide +kernel
theorem dX6_addPart_15 : decode cX6_addPart 15 = .ok (.if_icmp .ge 19, 3) := by decide +kernel
theorem dX6_addPart_18 : decode cX6_addPart 18 = .ok (.aload_n 0, 1) := by decide +kernel
theorem dX6_addPart_19 : decode cX6_addPart 19 = .ok (.aload_n 1, 1) := by decide +kernel
theorem dX6_addPart_20 : decode cX6_addPart 20 = .ok (.iload 4, 2) := by decide +kernel
theorem dX6_addPart_22 : decode cX6_addPart 22 = .ok (.invokevirtual 23, 3) := by decide +kernel
theorem dX6_addPart_25 : decode cX6_addPart 25 = .ok (.invokevirtual 19, 3) := by decide +kernel
theorem dX6_addPart_28 : decode cX6_addPart 28 = .ok (.iinc 4 1, 3) := by decide +kernel
theorem dX6_addPart_31 : decode cX6_addPart 31 = .ok (.goto (-28), 3) := by decide +kernel
theorem dX6_addPart_34 : decode cX6_addPart 34 = .ok (.return_, 1) := by decide +kernel
set_option maxHeartbeats 4000000 in
set_option maxRecDepth 100000 in
theorem ct_X6_addPart (ll : Launch) (D : va_G) (ta : Nat → ClassId) {G : (Nat → Prop) → State → Heap → Prop} (hGok : GOK G) (h0 : Nat) (b0 : Nat) (cap : Nat) (g : Nat → BitVec 8) (n : Nat) (h2 : Nat) (b2 : Nat) (cap2 : Nat) (g2 : Nat → BitVec 8) (n2 : Nat) (f : Nat) (t : Nat) (hn : n + (min t n2 - f) ≤ cap) (hc : cap < 2147483648) (hn2 : n2 ≤ cap2) (hc2 : cap2 < 2147483648) (hf : f < 2147483648) (ht : t < 2147483648) (sz : Nat) : CT ll yX6_addPart cX6_addPart 5 none ({ frames := 1, cells := 0, slots := 0, locals := 21 } : Room) D ta G [.ref h0, .ref h2, .int (nI f), .int (nI t)] [(h0, oR b0 n), (b0, aZ ta cap g), (h2, oR b2 n2), (b2, aZ ta cap2 g2)] sz (S := (Nat → BitVec 8) × Nat) (fun _ => none) (fun u => (u.2 = n + (min t n2 - f)) ∧ (qL u.1 u.2 = qL g n ++ ((qL g2 n2).take t).drop f)) (fun u => [(h0, oR b0 u.2), (b0, aZ ta cap u.1), (h2, oR b2 n2), (b2, aZ ta cap2 g2)]) 0 0 := by
  refine CT.of_v rfl (by decide) (Nat.le_of_ble_eq_true rfl) ?_
  intro pp ee ss mm below meth kc A Q hx hb hml hown hin hts hK hA hsz hG hret H locs hP hD hS ls hl
  have hl : lv_has ls 5 [(0, .ref h0), (1, .ref h2), (2, .int (nI f)), (3, .int (nI t))] := hl
  refine lv_iload_n (pc := 0) hx hb dX6_addPart_0 rfl (lv_at hl 2 rfl) ?_
  refine lv_istore (pc := 1) (lv' := [(4, .int (nI f)), (0, .ref h0), (1, .ref h2), (2, .int (nI f)), (3, .int (nI t))]) hx hb dX6_addPart_1 hl (by decide) rfl (fun ls hl => ?_)
  have LP3 : ∀ (nn : Nat) (c : Nat) (m : Nat) (g' : Nat → BitVec 8), (f ≤ c ∧ (c = f ∨ c ≤ min t n2)) → (m = n + (c - f)) → (qL g' m ++ ((qL g2 n2).take t).drop c = qL g n ++ ((qL g2 n2).take t).drop f) → (min t n2 - c < nn) → ∀ (H : Heap) (locs : List Loc), va_P D vwCl [(h0, oR b0 m), (b0, aZ ta cap g'), (h2, oR b2 n2), (b2, aZ ta cap2 g2)] H → va_D A [(h0, oR b0 m), (b0, aZ ta cap g'), (h2, oR b2 n2), (b2, aZ ta cap2 g2)] → va_S A ss.heap H locs → ∀ ls : Array Slot, lv_has ls 5 [(4, .int (nI c)), (0, .ref h0), (1, .ref h2), (2, .int (nI f)), (3, .int (nI t))] → W pp ll ee ({ frames := 1, cells := 0, slots := 0, locals := 21 } : Room) ss mm (([.ref h0, .ref h2, .int (nI f), .int (nI t)] : List Value).toArray) below meth kc H locs 0 0 Q (F0 mm 3 ls []) := by
    intro nn
    induction nn with
    | zero => intro c m g' hcc hm hLL hmu; exact absurd hmu (Nat.not_lt_zero _)
    | succ nn ih =>
      intro c m g' hcc hm hLL hmu H locs hP hD hS ls hl
      refine lv_iload (pc := 3) hx hb dX6_addPart_3 (lv_at hl 0 rfl) ?_
      refine lv_iload_n (pc := 5) hx hb dX6_addPart_5 rfl (lv_at hl 4 rfl) ?_
      refine lv_icmp_ge (pc := 6) (tgt := 34) hx hb dX6_addPart_6 (by decide) (fun c_1 => ?_) (fun c_1 => ?_)
      · skip
        rw [nI_leI (by omega) (by omega)] at c_1
        have hend : min t n2 ≤ c := by omega
        have hq_2 : (m = n + (min t n2 - f)) ∧ (qL g' m = qL g n ++ ((qL g2 n2).take t).drop f) := by
          refine ⟨by omega, ?_⟩
          rw [← hLL, List.drop_of_length_le (by simp [qL_len]; omega), List.append_nil]
        exact hret (⟨(g'), (m)⟩ : (Nat → BitVec 8) × Nat) _ _ _ _ dX6_addPart_34 hq_2 (hP.sub [0, 1, 2, 3] rfl) (hD.sub [0, 1, 2, 3] (by decide) rfl) hS
      · skip
        rw [nI_leI (by omega) (by omega)] at c_1
        refine lv_iload (pc := 9) hx hb dX6_addPart_9 (lv_at hl 0 rfl) ?_
        refine lv_aload_n (pc := 11) hx hb dX6_addPart_11 rfl (lv_at hl 2 rfl) ?_
        refine va_get (pc := 12) (D := D) (ci := 5) (v := .int (nI n2)) (C := RX6) (T := TX6) (N := 2) hx hb hts iu6 hown hK hP 2 rfl rfl 1 (by decide) (hts _ tw_91) (fun _ h9 => h9) rfl dX6_addPart_12 ?_
        refine lv_icmp_ge (pc := 15) (tgt := 34) hx hb dX6_addPart_15 (by decide) (fun c_3 => ?_) (fun c_3 => ?_)
        · skip
          rw [nI_leI (by omega) (by omega)] at c_3
          have hend : min t n2 ≤ c := by omega
          have hq_4 : (m = n + (min t n2 - f)) ∧ (qL g' m = qL g n ++ ((qL g2 n2).take t).drop f) := by
            refine ⟨by omega, ?_⟩
            rw [← hLL, List.drop_of_length_le (by simp [qL_len]; omega), List.append_nil]
          exact hret (⟨(g'), (m)⟩ : (Nat → BitVec 8) × Nat) _ _ _ _ dX6_addPart_34 hq_4 (hP.sub [0, 1, 2, 3] rfl) (hD.sub [0, 1, 2, 3] (by decide) rfl) hS
        · skip
          rw [nI_leI (by omega) (by omega)] at c_3
          refine lv_aload_n (pc := 18) hx hb dX6_addPart_18 rfl (lv_at hl 1 rfl) ?_
          refine lv_aload_n (pc := 19) hx hb dX6_addPart_19 rfl (lv_at hl 2 rfl) ?_
          refine lv_iload (pc := 20) hx hb dX6_addPart_20 (lv_at hl 0 rfl) ?_
          refine cs_V (pc := 22) (idx := 23) (n := 1) (wr := [(h0, oR b0 m), (b0, aZ ta cap g')]) (As := [.int (nI c)]) (rest := [.ref h0]) (ci := 5) hx hb hml hown hts hGok hK hA hG hl.1 hP hD hS (ct_X6_at_in ll D ta hGok h2 b2 cap2 g2 n2 c (by first | assumption | omega | rfl | decide) (by first | assumption | omega | rfl | decide) (by first | assumption | omega | rfl | decide) H.size) tw_413 tw_446 tw_411 tw_412 tw_66 hdX6_at rfl ⟨rfl, rfl, Nat.le_of_ble_eq_true rfl, Nat.le_of_ble_eq_true rfl, Nat.le_of_ble_eq_true rfl, Nat.le_of_ble_eq_true rfl⟩ rfl rfl (q0 := 2) rfl [2, 3] [0, 1] rfl rfl (by decide) rfl (Nat.le_of_ble_eq_true rfl) dX6_addPart_22 (fun u H locs hq hP hD hS => ?_)
          refine W.eq (g2 := F0 mm 25 ls [.int (qz (g2 c)), .ref h0]) rfl ?_
          have hP : va_P D vwCl [(h0, oR b0 m), (b0, aZ ta cap g'), (h2, oR b2 n2), (b2, aZ ta cap2 g2)] H := hP
          have hD : va_D A [(h0, oR b0 m), (b0, aZ ta cap g'), (h2, oR b2 n2), (b2, aZ ta cap2 g2)] := hD
          refine cs_V (pc := 25) (idx := 19) (n := 1) (wr := [(h2, oR b2 n2), (b2, aZ ta cap2 g2)]) (As := [.int (qz (g2 c))]) (rest := []) (ci := 5) hx hb hml hown hts hGok hK hA hG hl.1 hP hD hS (ct_X6_add ll D ta hGok h0 b0 cap g' m (qz (g2 c)) (by first | assumption | omega | rfl | decide) (by first | assumption | omega | rfl | decide) H.size) tw_231 tw_228 tw_229 tw_230 tw_66 hdX6_add rfl ⟨rfl, rfl, Nat.le_of_ble_eq_true rfl, Nat.le_of_ble_eq_true rfl, Nat.le_of_ble_eq_true rfl, Nat.le_of_ble_eq_true rfl⟩ rfl rfl (q0 := 0) rfl [0, 1] [2, 3] rfl rfl (by decide) rfl (Nat.le_of_ble_eq_true rfl) dX6_addPart_25 (fun u H locs hq hP hD hS => ?_)
          generalize u = g1_25 at hq hP hD ⊢
          have hq : (qL g1_25 (m + 1) = qL g' m ++ [qlo (qz (g2 c))]) := hq
          have hL_25 := hq
          refine W.eq (g2 := F0 mm 28 ls []) rfl ?_
          have hP : va_P D vwCl [(h2, oR b2 n2), (b2, aZ ta cap2 g2), (h0, oR b0 (m + 1)), (b0, aZ ta cap g1_25)] H := hP
          have hD : va_D A [(h2, oR b2 n2), (b2, aZ ta cap2 g2), (h0, oR b0 (m + 1)), (b0, aZ ta cap g1_25)] := hD
          refine lv_iinc (pc := 28) (v := nI (c + 1)) (lv' := [(4, .int (nI (c + 1))), (0, .ref h0), (1, .ref h2), (2, .int (nI f)), (3, .int (nI t))]) hx hb dX6_addPart_28 hl (k := 0) rfl (by first | exact nI_add c 1 | rfl) (by decide) rfl (fun ls hl => ?_)
          refine lv_goto (pc := 31) (tgt := 3) hx hb dX6_addPart_31 (by decide) ?_
          exact ih (c + 1) (m + 1) g1_25 (by omega) (by omega) (by rw [← hLL, hL_25, qlo_qz, qL_drop1 (g := g2) (n := n2) (i := c) (t := t) (by omega) (by omega), List.append_assoc]; rfl) (by omega) _ _ (hP.sub [2, 3, 0, 1] rfl) (hD.sub [2, 3, 0, 1] (by decide) rfl) hS ls (lv_sub hl [0, 1, 2, 3, 4] rfl)
  exact LP3 _ f n g (by omega) (by omega) (rfl) (Nat.lt_succ_self _) _ _ (hP.sub [0, 1, 2, 3] rfl) (hD.sub [0, 1, 2, 3] (by decide) rfl) hS ls (lv_sub hl [0, 1, 2, 3, 4] rfl)
set_option maxHeartbeats 4000000 in
set_option maxRecDepth 100000 in
theorem ct_X6_addPart_neg (ll : Launch) (D : va_G) (ta : Nat → ClassId) {G : (Nat → Prop) → State → Heap → Prop} (hGok : GOK G) (h0 : Nat) (b0 : Nat) (cap : Nat) (g : Nat → BitVec 8) (n : Nat) (h2 : Nat) (b2 : Nat) (cap2 : Nat) (g2 : Nat → BitVec 8) (n2 : Nat) (f : Nat) (t : Int32) (hf : f < 2147483648) (ht : t < 0) (sz : Nat) : CT ll yX6_addPart cX6_addPart 5 none ({ frames := 1, cells := 0, slots := 0, locals := 21 } : Room) D ta G [.ref h0, .ref h2, .int (nI f), .int t] [(h0, oR b0 n), (b0, aZ ta cap g), (h2, oR b2 n2), (b2, aZ ta cap2 g2)] sz (S := Unit) (fun _ => none) (fun u => True) (fun u => [(h0, oR b0 n), (b0, aZ ta cap g), (h2, oR b2 n2), (b2, aZ ta cap2 g2)]) 0 0 := by
  refine CT.of_v rfl (by decide) (Nat.le_of_ble_eq_true rfl) ?_
  intro pp ee ss mm below meth kc A Q hx hb hml hown hin hts hK hA hsz hG hret H locs hP hD hS ls hl
  have hl : lv_has ls 5 [(0, .ref h0), (1, .ref h2), (2, .int (nI f)), (3, .int t)] := hl
  refine lv_iload_n (pc := 0) hx hb dX6_addPart_0 rfl (lv_at hl 2 rfl) ?_
  refine lv_istore (pc := 1) (lv' := [(4, .int (nI f)), (0, .ref h0), (1, .ref h2), (2, .int (nI f)), (3, .int t)]) hx hb dX6_addPart_1 hl (by decide) rfl (fun ls hl => ?_)
  refine lv_iload (pc := 3) hx hb dX6_addPart_3 (lv_at hl 0 rfl) ?_
  refine lv_iload_n (pc := 5) hx hb dX6_addPart_5 rfl (lv_at hl 4 rfl) ?_
  refine lv_icmp_ge (pc := 6) (tgt := 34) hx hb dX6_addPart_6 (by decide) (fun _ => ?_) (fun c_1 => ?_)
  rotate_left
  · skip
    exact absurd (Int32.le_of_lt (Int32.lt_of_lt_of_le ht (nI_pos' (by omega)))) c_1
  have hq_2 : True := trivial
  exact hret () _ _ _ _ dX6_addPart_34 hq_2 (hP.sub [0, 1, 2, 3] rfl) (hD.sub [0, 1, 2, 3] (by decide) rfl) hS
theorem hdX6_addAll : yX6_addAll.cls ≠ "java/lang/invoke/MethodHandle" ∧ yX6_addAll.cls ≠ "java/lang/invoke/VarHandle" ∧ (parseMethodDescriptor yX6_addAll.desc).map (fun d => d.parameters.length) = some 1 := ⟨by decide +kernel, by decide +kernel, by decide +kernel⟩
theorem dX6_addAll_0 : decode cX6_addAll 0 = .ok (.aload_n 0, 1) := by decide +kernel
theorem dX6_addAll_1 : decode cX6_addAll 1 = .ok (.aload_n 1, 1) := by decide +kernel
theorem dX6_addAll_2 : decode cX6_addAll 2 = .ok (.iconst 0, 1) := by decide +kernel
theorem dX6_addAll_3 : decode cX6_addAll 3 = .ok (.aload_n 1, 1) := by decide +kernel
theorem dX6_addAll_4 : decode cX6_addAll 4 = .ok (.getfield 9, 3) := by decide +kernel
theorem dX6_addAll_7 : decode cX6_addAll 7 = .ok (.invokevirtual 27, 3) := by decide +kernel
theorem dX6_addAll_10 : decode cX6_addAll 10 = .ok (.return_, 1) := by decide +kernel
set_option maxHeartbeats 4000000 in
set_option maxRecDepth 100000 in
theorem ct_X6_addAll (ll : Launch) (D : va_G) (ta : Nat → ClassId) {G : (Nat → Prop) → State → Heap → Prop} (hGok : GOK G) (h0 : Nat) (b0 : Nat) (cap : Nat) (g : Nat → BitVec 8) (n : Nat) (h2 : Nat) (b2 : Nat) (cap2 : Nat) (g2 : Nat → BitVec 8) (n2 : Nat) (hn : n + n2 ≤ cap) (hc : cap < 2147483648) (hn2 : n2 ≤ cap2) (hc2 : cap2 < 2147483648) (sz : Nat) : CT ll yX6_addAll cX6_addAll 2 none ({ frames := 2, cells := 0, slots := 0, locals := 45 } : Room) D ta G [.ref h0, .ref h2] [(h0, oR b0 n), (b0, aZ ta cap g), (h2, oR b2 n2), (b2, aZ ta cap2 g2)] sz (S := (Nat → BitVec 8)) (fun _ => none) (fun u => (qL u (n + n2) = qL g n ++ qL g2 n2)) (fun u => [(h0, oR b0 (n + n2)), (b0, aZ ta cap u), (h2, oR b2 n2), (b2, aZ ta cap2 g2)]) 0 0 := by
  refine CT.of_v rfl (by decide) (Nat.le_of_ble_eq_true rfl) ?_
  intro pp ee ss mm below meth kc A Q hx hb hml hown hin hts hK hA hsz hG hret H locs hP hD hS ls hl
  have hl : lv_has ls 2 [(0, .ref h0), (1, .ref h2)] := hl
  refine lv_aload_n (pc := 0) hx hb dX6_addAll_0 rfl (lv_at hl 0 rfl) ?_
  refine lv_aload_n (pc := 1) hx hb dX6_addAll_1 rfl (lv_at hl 1 rfl) ?_
  refine lv_iconst (pc := 2) (v := nI 0) hx hb dX6_addAll_2 (by decide +kernel) ?_
  refine lv_aload_n (pc := 3) hx hb dX6_addAll_3 rfl (lv_at hl 1 rfl) ?_
  refine va_get (pc := 4) (D := D) (ci := 5) (v := .int (nI n2)) (C := RX6) (T := TX6) (N := 2) hx hb hts iu6 hown hK hP 2 rfl rfl 1 (by decide) (hts _ tw_91) (fun _ h9 => h9) rfl dX6_addAll_4 ?_
  refine cs_V (pc := 7) (idx := 27) (n := 3) (wr := []) (As := [.ref h2, .int (nI 0), .int (nI n2)]) (rest := []) (ci := 5) hx hb hml hown hts hGok hK hA hG hl.1 hP hD hS (ct_X6_addPart ll D ta hGok h0 b0 cap g n h2 b2 cap2 g2 n2 0 n2 (by first | assumption | omega | rfl | decide) (by first | assumption | omega | rfl | decide) (by first | assumption | omega | rfl | decide) (by first | assumption | omega | rfl | decide) (by first | assumption | omega | rfl | decide) (by first | assumption | omega | rfl | decide) H.size) tw_445 tw_442 tw_443 tw_444 tw_66 hdX6_addPart rfl ⟨rfl, rfl, Nat.le_of_ble_eq_true rfl, Nat.le_of_ble_eq_true rfl, Nat.le_of_ble_eq_true rfl, Nat.le_of_ble_eq_true rfl⟩ rfl rfl (q0 := 0) rfl [0, 1, 2, 3] [] rfl rfl (by decide) rfl (Nat.le_of_ble_eq_true rfl) dX6_addAll_7 (fun u H locs hq hP hD hS => ?_)
  obtain ⟨g1_7, n1_7⟩ := u
  have hq : (n1_7 = n + (min n2 n2 - 0)) ∧ (qL g1_7 n1_7 = qL g n ++ ((qL g2 n2).take n2).drop 0) := hq
  obtain ⟨hm_7, hL_7⟩ := hq
  refine W.eq (g2 := F0 mm 10 ls []) rfl ?_
  have hP : va_P D vwCl [(h0, oR b0 n1_7), (b0, aZ ta cap g1_7), (h2, oR b2 n2), (b2, aZ ta cap2 g2)] H := hP
  have hD : va_D A [(h0, oR b0 n1_7), (b0, aZ ta cap g1_7), (h2, oR b2 n2), (b2, aZ ta cap2 g2)] := hD
  have en_1 : n + n2 = n1_7 := by omega
  subst en_1
  have hq_2 : (qL g1_7 (n + n2) = qL g n ++ qL g2 n2) := by
    rw [hL_7, List.drop_zero, List.take_of_length_le (by rw [qL_len]; omega)]
  exact hret (g1_7) _ _ _ _ dX6_addAll_10 hq_2 (hP.sub [0, 1, 2, 3] rfl) (hD.sub [0, 1, 2, 3] (by decide) rfl) hS
theorem hdX6_copy : yX6_copy.cls ≠ "java/lang/invoke/MethodHandle" ∧ yX6_copy.cls ≠ "java/lang/invoke/VarHandle" ∧ (parseMethodDescriptor yX6_copy.desc).map (fun d => d.parameters.length) = some 1 := ⟨by decide +kernel, by decide +kernel, by decide +kernel⟩
theorem dX6_copy_0 : decode cX6_copy 0 = .ok (.aload_n 0, 1) := by decide +kernel
theorem dX6_copy_1 : decode cX6_copy 1 = .ok (.invokevirtual 31, 3) := by decide +kernel
theorem dX6_copy_4 : decode cX6_copy 4 = .ok (.aload_n 0, 1) := by decide +kernel
theorem dX6_copy_5 : decode cX6_copy 5 = .ok (.aload_n 1, 1) := by decide +kernel
theorem dX6_copy_6 : decode cX6_copy 6 = .ok (.iconst 0, 1) := by decide +kernel
theorem dX6_copy_7 : decode cX6_copy 7 = .ok (.aload_n 1, 1) := by decide +kernel
theorem dX6_copy_8 : decode cX6_copy 8 = .ok (.getfield 9, 3) := by decide +kernel
theorem dX6_copy_11 : decode cX6_copy 11 = .ok (.invokevirtual 27, 3) := by decide +kernel
theorem dX6_copy_14 : decode cX6_copy 14 = .ok (.return_, 1) := by decide +kernel
set_option maxHeartbeats 4000000 in
set_option maxRecDepth 100000 in
theorem ct_X6_copy (ll : Launch) (D : va_G) (ta : Nat → ClassId) {G : (Nat → Prop) → State → Heap → Prop} (hGok : GOK G) (h0 : Nat) (b0 : Nat) (cap : Nat) (g : Nat → BitVec 8) (n : Nat) (h2 : Nat) (b2 : Nat) (cap2 : Nat) (g2 : Nat → BitVec 8) (n2 : Nat) (hn : n2 ≤ cap) (hc : cap < 2147483648) (hn2 : n2 ≤ cap2) (hc2 : cap2 < 2147483648) (sz : Nat) : CT ll yX6_copy cX6_copy 2 none ({ frames := 2, cells := 0, slots := 0, locals := 45 } : Room) D ta G [.ref h0, .ref h2] [(h0, oR b0 n), (b0, aZ ta cap g), (h2, oR b2 n2), (b2, aZ ta cap2 g2)] sz (S := (Nat → BitVec 8)) (fun _ => none) (fun u => (qL u n2 = qL g2 n2)) (fun u => [(h0, oR b0 n2), (b0, aZ ta cap u), (h2, oR b2 n2), (b2, aZ ta cap2 g2)]) 0 0 := by
  refine CT.of_v rfl (by decide) (Nat.le_of_ble_eq_true rfl) ?_
  intro pp ee ss mm below meth kc A Q hx hb hml hown hin hts hK hA hsz hG hret H locs hP hD hS ls hl
  have hl : lv_has ls 2 [(0, .ref h0), (1, .ref h2)] := hl
  refine lv_aload_n (pc := 0) hx hb dX6_copy_0 rfl (lv_at hl 0 rfl) ?_
  refine cs_V (pc := 1) (idx := 31) (n := 0) (wr := [(h2, oR b2 n2), (b2, aZ ta cap2 g2)]) (As := []) (rest := []) (ci := 5) hx hb hml hown hts hGok hK hA hG hl.1 hP hD hS (ct_X6_clear ll D ta hGok h0 b0 cap g n  H.size) tw_441 tw_438 tw_439 tw_440 tw_66 hdX6_clear rfl ⟨rfl, rfl, Nat.le_of_ble_eq_true rfl, Nat.le_of_ble_eq_true rfl, Nat.le_of_ble_eq_true rfl, Nat.le_of_ble_eq_true rfl⟩ rfl rfl (q0 := 0) rfl [0, 1] [2, 3] rfl rfl (by decide) rfl (Nat.le_of_ble_eq_true rfl) dX6_copy_1 (fun u H locs hq hP hD hS => ?_)
  refine W.eq (g2 := F0 mm 4 ls []) rfl ?_
  have hP : va_P D vwCl [(h2, oR b2 n2), (b2, aZ ta cap2 g2), (h0, oR b0 0), (b0, aZ ta cap g)] H := hP
  have hD : va_D A [(h2, oR b2 n2), (b2, aZ ta cap2 g2), (h0, oR b0 0), (b0, aZ ta cap g)] := hD
  refine lv_aload_n (pc := 4) hx hb dX6_copy_4 rfl (lv_at hl 0 rfl) ?_
  refine lv_aload_n (pc := 5) hx hb dX6_copy_5 rfl (lv_at hl 1 rfl) ?_
  refine lv_iconst (pc := 6) (v := nI 0) hx hb dX6_copy_6 (by decide +kernel) ?_
  refine lv_aload_n (pc := 7) hx hb dX6_copy_7 rfl (lv_at hl 1 rfl) ?_
  refine va_get (pc := 8) (D := D) (ci := 5) (v := .int (nI n2)) (C := RX6) (T := TX6) (N := 2) hx hb hts iu6 hown hK hP 0 rfl rfl 1 (by decide) (hts _ tw_91) (fun _ h9 => h9) rfl dX6_copy_8 ?_
  refine cs_V (pc := 11) (idx := 27) (n := 3) (wr := []) (As := [.ref h2, .int (nI 0), .int (nI n2)]) (rest := []) (ci := 5) hx hb hml hown hts hGok hK hA hG hl.1 hP hD hS (ct_X6_addPart ll D ta hGok h0 b0 cap g 0 h2 b2 cap2 g2 n2 0 n2 (by first | assumption | omega | rfl | decide) (by first | assumption | omega | rfl | decide) (by first | assumption | omega | rfl | decide) (by first | assumption | omega | rfl | decide) (by first | assumption | omega | rfl | decide) (by first | assumption | omega | rfl | decide) H.size) tw_445 tw_442 tw_443 tw_444 tw_66 hdX6_addPart rfl ⟨rfl, rfl, Nat.le_of_ble_eq_true rfl, Nat.le_of_ble_eq_true rfl, Nat.le_of_ble_eq_true rfl, Nat.le_of_ble_eq_true rfl⟩ rfl rfl (q0 := 2) rfl [2, 3, 0, 1] [] rfl rfl (by decide) rfl (Nat.le_of_ble_eq_true rfl) dX6_copy_11 (fun u H locs hq hP hD hS => ?_)
  obtain ⟨g1_11, n1_11⟩ := u
  have hq : (n1_11 = 0 + (min n2 n2 - 0)) ∧ (qL g1_11 n1_11 = qL g 0 ++ ((qL g2 n2).take n2).drop 0) := hq
  obtain ⟨hm_11, hL_11⟩ := hq
  refine W.eq (g2 := F0 mm 14 ls []) rfl ?_
  have hP : va_P D vwCl [(h0, oR b0 n1_11), (b0, aZ ta cap g1_11), (h2, oR b2 n2), (b2, aZ ta cap2 g2)] H := hP
  have hD : va_D A [(h0, oR b0 n1_11), (b0, aZ ta cap g1_11), (h2, oR b2 n2), (b2, aZ ta cap2 g2)] := hD
  have en_1 : n2 = n1_11 := by omega
  subst en_1
  have hq_2 : (qL g1_11 n2 = qL g2 n2) := by
    rw [hL_11, List.drop_zero, List.take_of_length_le (by rw [qL_len]; omega)]
    rfl
  exact hret (g1_11) _ _ _ _ dX6_copy_14 hq_2 (hP.sub [0, 1, 2, 3] rfl) (hD.sub [0, 1, 2, 3] (by decide) rfl) hS
theorem hdX6_copyPart : yX6_copyPart.cls ≠ "java/lang/invoke/MethodHandle" ∧ yX6_copyPart.cls ≠ "java/lang/invoke/VarHandle" ∧ (parseMethodDescriptor yX6_copyPart.desc).map (fun d => d.parameters.length) = some 3 := ⟨by decide +kernel, by decide +kernel, by decide +kernel⟩
theorem dX6_copyPart_0 : decode cX6_copyPart 0 = .ok (.aload_n 0, 1) := by decide +kernel
theorem dX6_copyPart_1 : decode cX6_copyPart 1 = .ok (.invokevirtual 31, 3) := by decide +kernel
theorem dX6_copyPart_4 : decode cX6_copyPart 4 = .ok (.aload_n 0, 1) := by decide +kernel
theorem dX6_copyPart_5 : decode cX6_copyPart 5 = .ok (.aload_n 1, 1) := by decide +kernel
theorem dX6_copyPart_6 : decode cX6_copyPart 6 = .ok (.iload_n 2, 1) := by decide +kernel
theorem dX6_copyPart_7 : decode cX6_copyPart 7 = .ok (.iload_n 3, 1) := by decide +kernel
theorem dX6_copyPart_8 : decode cX6_copyPart 8 = .ok (.invokevirtual 27, 3) := by decide +kernel
theorem dX6_copyPart_11 : decode cX6_copyPart 11 = .ok (.return_, 1) := by decide +kernel
set_option maxHeartbeats 4000000 in
set_option maxRecDepth 100000 in
theorem ct_X6_copyPart (ll : Launch) (D : va_G) (ta : Nat → ClassId) {G : (Nat → Prop) → State → Heap → Prop} (hGok : GOK G) (h0 : Nat) (b0 : Nat) (cap : Nat) (g : Nat → BitVec 8) (n : Nat) (h2 : Nat) (b2 : Nat) (cap2 : Nat) (g2 : Nat → BitVec 8) (n2 : Nat) (f : Nat) (t : Nat) (hn : min t n2 - f ≤ cap) (hc : cap < 2147483648) (hn2 : n2 ≤ cap2) (hc2 : cap2 < 2147483648) (hf : f < 2147483648) (ht : t < 2147483648) (sz : Nat) : CT ll yX6_copyPart cX6_copyPart 4 none ({ frames := 2, cells := 0, slots := 0, locals := 45 } : Room) D ta G [.ref h0, .ref h2, .int (nI f), .int (nI t)] [(h0, oR b0 n), (b0, aZ ta cap g), (h2, oR b2 n2), (b2, aZ ta cap2 g2)] sz (S := (Nat → BitVec 8) × Nat) (fun _ => none) (fun u => (u.2 = min t n2 - f) ∧ (qL u.1 u.2 = ((qL g2 n2).take t).drop f)) (fun u => [(h0, oR b0 u.2), (b0, aZ ta cap u.1), (h2, oR b2 n2), (b2, aZ ta cap2 g2)]) 0 0 := by
  refine CT.of_v rfl (by decide) (Nat.le_of_ble_eq_true rfl) ?_
  intro pp ee ss mm below meth kc A Q hx hb hml hown hin hts hK hA hsz hG hret H locs hP hD hS ls hl
  have hl : lv_has ls 4 [(0, .ref h0), (1, .ref h2), (2, .int (nI f)), (3, .int (nI t))] := hl
  refine lv_aload_n (pc := 0) hx hb dX6_copyPart_0 rfl (lv_at hl 0 rfl) ?_
  refine cs_V (pc := 1) (idx := 31) (n := 0) (wr := [(h2, oR b2 n2), (b2, aZ ta cap2 g2)]) (As := []) (rest := []) (ci := 5) hx hb hml hown hts hGok hK hA hG hl.1 hP hD hS (ct_X6_clear ll D ta hGok h0 b0 cap g n  H.size) tw_441 tw_438 tw_439 tw_440 tw_66 hdX6_clear rfl ⟨rfl, rfl, Nat.le_of_ble_eq_true rfl, Nat.le_of_ble_eq_true rfl, Nat.le_of_ble_eq_true rfl, Nat.le_of_ble_eq_true rfl⟩ rfl rfl (q0 := 0) rfl [0, 1] [2, 3] rfl rfl (by decide) rfl (Nat.le_of_ble_eq_true rfl) dX6_copyPart_1 (fun u H locs hq hP hD hS => ?_)
  refine W.eq (g2 := F0 mm 4 ls []) rfl ?_
  have hP : va_P D vwCl [(h2, oR b2 n2), (b2, aZ ta cap2 g2), (h0, oR b0 0), (b0, aZ ta cap g)] H := hP
  have hD : va_D A [(h2, oR b2 n2), (b2, aZ ta cap2 g2), (h0, oR b0 0), (b0, aZ ta cap g)] := hD
  refine lv_aload_n (pc := 4) hx hb dX6_copyPart_4 rfl (lv_at hl 0 rfl) ?_
  refine lv_aload_n (pc := 5) hx hb dX6_copyPart_5 rfl (lv_at hl 1 rfl) ?_
  refine lv_iload_n (pc := 6) hx hb dX6_copyPart_6 rfl (lv_at hl 2 rfl) ?_
  refine lv_iload_n (pc := 7) hx hb dX6_copyPart_7 rfl (lv_at hl 3 rfl) ?_
  refine cs_V (pc := 8) (idx := 27) (n := 3) (wr := []) (As := [.ref h2, .int (nI f), .int (nI t)]) (rest := []) (ci := 5) hx hb hml hown hts hGok hK hA hG hl.1 hP hD hS (ct_X6_addPart ll D ta hGok h0 b0 cap g 0 h2 b2 cap2 g2 n2 f t (by first | assumption | omega | rfl | decide) (by first | assumption | omega | rfl | decide) (by first | assumption | omega | rfl | decide) (by first | assumption | omega | rfl | decide) (by first | assumption | omega | rfl | decide) (by first | assumption | omega | rfl | decide) H.size) tw_445 tw_442 tw_443 tw_444 tw_66 hdX6_addPart rfl ⟨rfl, rfl, Nat.le_of_ble_eq_true rfl, Nat.le_of_ble_eq_true rfl, Nat.le_of_ble_eq_true rfl, Nat.le_of_ble_eq_true rfl⟩ rfl rfl (q0 := 2) rfl [2, 3, 0, 1] [] rfl rfl (by decide) rfl (Nat.le_of_ble_eq_true rfl) dX6_copyPart_8 (fun u H locs hq hP hD hS => ?_)
  obtain ⟨g1_8, n1_8⟩ := u
  have hq : (n1_8 = 0 + (min t n2 - f)) ∧ (qL g1_8 n1_8 = qL g 0 ++ ((qL g2 n2).take t).drop f) := hq
  obtain ⟨hm_8, hL_8⟩ := hq
  refine W.eq (g2 := F0 mm 11 ls []) rfl ?_
  have hP : va_P D vwCl [(h0, oR b0 n1_8), (b0, aZ ta cap g1_8), (h2, oR b2 n2), (b2, aZ ta cap2 g2)] H := hP
  have hD : va_D A [(h0, oR b0 n1_8), (b0, aZ ta cap g1_8), (h2, oR b2 n2), (b2, aZ ta cap2 g2)] := hD
  have hq_1 : (n1_8 = min t n2 - f) ∧ (qL g1_8 n1_8 = ((qL g2 n2).take t).drop f) := by
    exact ⟨by omega, by rw [hL_8]; rfl⟩
  exact hret (⟨(g1_8), (n1_8)⟩ : (Nat → BitVec 8) × Nat) _ _ _ _ dX6_copyPart_11 hq_1 (hP.sub [0, 1, 2, 3] rfl) (hD.sub [0, 1, 2, 3] (by decide) rfl) hS
set_option maxHeartbeats 4000000 in
set_option maxRecDepth 100000 in
theorem ct_X6_copyPart_neg (ll : Launch) (D : va_G) (ta : Nat → ClassId) {G : (Nat → Prop) → State → Heap → Prop} (hGok : GOK G) (h0 : Nat) (b0 : Nat) (cap : Nat) (g : Nat → BitVec 8) (n : Nat) (h2 : Nat) (b2 : Nat) (cap2 : Nat) (g2 : Nat → BitVec 8) (n2 : Nat) (f : Nat) (t : Int32) (hf : f < 2147483648) (ht : t < 0) (sz : Nat) : CT ll yX6_copyPart cX6_copyPart 4 none ({ frames := 2, cells := 0, slots := 0, locals := 45 } : Room) D ta G [.ref h0, .ref h2, .int (nI f), .int t] [(h0, oR b0 n), (b0, aZ ta cap g), (h2, oR b2 n2), (b2, aZ ta cap2 g2)] sz (S := Unit) (fun _ => none) (fun u => True) (fun u => [(h0, oR b0 0), (b0, aZ ta cap g), (h2, oR b2 n2), (b2, aZ ta cap2 g2)]) 0 0 := by
  refine CT.of_v rfl (by decide) (Nat.le_of_ble_eq_true rfl) ?_
  intro pp ee ss mm below meth kc A Q hx hb hml hown hin hts hK hA hsz hG hret H locs hP hD hS ls hl
  have hl : lv_has ls 4 [(0, .ref h0), (1, .ref h2), (2, .int (nI f)), (3, .int t)] := hl
  refine lv_aload_n (pc := 0) hx hb dX6_copyPart_0 rfl (lv_at hl 0 rfl) ?_
  refine cs_V (pc := 1) (idx := 31) (n := 0) (wr := [(h2, oR b2 n2), (b2, aZ ta cap2 g2)]) (As := []) (rest := []) (ci := 5) hx hb hml hown hts hGok hK hA hG hl.1 hP hD hS (ct_X6_clear ll D ta hGok h0 b0 cap g n  H.size) tw_441 tw_438 tw_439 tw_440 tw_66 hdX6_clear rfl ⟨rfl, rfl, Nat.le_of_ble_eq_true rfl, Nat.le_of_ble_eq_true rfl, Nat.le_of_ble_eq_true rfl, Nat.le_of_ble_eq_true rfl⟩ rfl rfl (q0 := 0) rfl [0, 1] [2, 3] rfl rfl (by decide) rfl (Nat.le_of_ble_eq_true rfl) dX6_copyPart_1 (fun u H locs hq hP hD hS => ?_)
  refine W.eq (g2 := F0 mm 4 ls []) rfl ?_
  have hP : va_P D vwCl [(h2, oR b2 n2), (b2, aZ ta cap2 g2), (h0, oR b0 0), (b0, aZ ta cap g)] H := hP
  have hD : va_D A [(h2, oR b2 n2), (b2, aZ ta cap2 g2), (h0, oR b0 0), (b0, aZ ta cap g)] := hD
  refine lv_aload_n (pc := 4) hx hb dX6_copyPart_4 rfl (lv_at hl 0 rfl) ?_
  refine lv_aload_n (pc := 5) hx hb dX6_copyPart_5 rfl (lv_at hl 1 rfl) ?_
  refine lv_iload_n (pc := 6) hx hb dX6_copyPart_6 rfl (lv_at hl 2 rfl) ?_
  refine lv_iload_n (pc := 7) hx hb dX6_copyPart_7 rfl (lv_at hl 3 rfl) ?_
  refine cs_V (pc := 8) (idx := 27) (n := 3) (wr := []) (As := [.ref h2, .int (nI f), .int t]) (rest := []) (ci := 5) hx hb hml hown hts hGok hK hA hG hl.1 hP hD hS (ct_X6_addPart_neg ll D ta hGok h0 b0 cap g 0 h2 b2 cap2 g2 n2 f t (by first | assumption | omega | rfl | decide) (by first | assumption | omega | rfl | decide) H.size) tw_445 tw_442 tw_443 tw_444 tw_66 hdX6_addPart rfl ⟨rfl, rfl, Nat.le_of_ble_eq_true rfl, Nat.le_of_ble_eq_true rfl, Nat.le_of_ble_eq_true rfl, Nat.le_of_ble_eq_true rfl⟩ rfl rfl (q0 := 2) rfl [2, 3, 0, 1] [] rfl rfl (by decide) rfl (Nat.le_of_ble_eq_true rfl) dX6_copyPart_8 (fun u H locs hq hP hD hS => ?_)
  refine W.eq (g2 := F0 mm 11 ls []) rfl ?_
  have hP : va_P D vwCl [(h0, oR b0 0), (b0, aZ ta cap g), (h2, oR b2 n2), (b2, aZ ta cap2 g2)] H := hP
  have hD : va_D A [(h0, oR b0 0), (b0, aZ ta cap g), (h2, oR b2 n2), (b2, aZ ta cap2 g2)] := hD
  have hq_1 : True := trivial
  exact hret () _ _ _ _ dX6_copyPart_11 hq_1 (hP.sub [0, 1, 2, 3] rfl) (hD.sub [0, 1, 2, 3] (by decide) rfl) hS
theorem hdX6_pad : yX6_pad.cls ≠ "java/lang/invoke/MethodHandle" ∧ yX6_pad.cls ≠ "java/lang/invoke/VarHandle" ∧ (parseMethodDescriptor yX6_pad.desc).map (fun d => d.parameters.length) = some 1 := ⟨by decide +kernel, by decide +kernel, by decide +kernel⟩
theorem dX6_pad_0 : decode cX6_pad 0 = .ok (.aload_n 0, 1) := by decide +kernel
theorem dX6_pad_1 : decode cX6_pad 1 = .ok (.sipush 128, 3) := by decide +kernel
theorem dX6_pad_4 : decode cX6_pad 4 = .ok (.invokevirtual 19, 3) := by decide +kernel
theorem dX6_pad_7 : decode cX6_pad 7 = .ok (.iconst 1, 1) := by decide +kernel
theorem dX6_pad_8 : decode cX6_pad 8 = .ok (.istore_n 2, 1) := by decide +kernel
theorem dX6_pad_9 : decode cX6_pad 9 = .ok (.iload_n 2, 1) := by decide +kernel
theorem dX6_pad_10 : decode cX6_pad 10 = .ok (.iload_n 1, 1) := by decide +kernel
theorem dX6_pad_11 : decode cX6_pad 11 = .ok (.if_icmp .ge 25, 3) := by decide +kernel
theorem dX6_pad_14 : decode cX6_pad 14 = .ok (.aload_n 0, 1) := by decide +kernel
theorem dX6_pad_15 : decode cX6_pad 15 = .ok (.getfield 9, 3) := by decide +kernel
theorem dX6_pad_18 : decode cX6_pad 18 = .ok (.iload_n 1, 1) := by decide +kernel
theorem dX6_pad_19 : decode cX6_pad 19 = .ok (.iconst 1, 1) := by decide +kernel
theorem dX6_pad_20 : decode cX6_pad 20 = .ok (.isub, 1) := by decide +kernel
theorem dX6_pad_21 : decode cX6_pad 21 = .ok (.iand, 1) := by decide +kernel
theorem dX6_pad_22 : decode cX6_pad 22 = .ok (.ifCond .eq 14, 3) := by decide +kernel
theorem dX6_pad_25 : decode cX6_pad 25 = .ok (.aload_n 0, 1) := by decide +kernel
theorem dX6_pad_26 : decode cX6_pad 26 = .ok (.iconst 0, 1) := by decide +kernel
theorem dX6_pad_27 : decode cX6_pad 27 = .ok (.invokevirtual 19, 3) := by decide +kernel
theorem dX6_pad_30 : decode cX6_pad 30 = .ok (.iinc 2 1, 3) := by decide +kernel
theorem dX6_pad_33 : decode cX6_pad 33 = .ok (.goto (-24), 3) := by decide +kernel
theorem dX6_pad_36 : decode cX6_pad 36 = .ok (.return_, 1) := by decide +kernel
set_option maxHeartbeats 4000000 in
set_option maxRecDepth 100000 in
theorem ct_X6_pad8 (ll : Launch) (D : va_G) (ta : Nat → ClassId) {G : (Nat → Prop) → State → Heap → Prop} (hGok : GOK G) (h0 : Nat) (b0 : Nat) (cap : Nat) (g : Nat → BitVec 8) (n : Nat) (hn : (n / 8 + 1) * 8 ≤ cap) (hc : cap < 2147483648) (sz : Nat) : CT ll yX6_pad cX6_pad 3 none ({ frames := 1, cells := 0, slots := 0, locals := 21 } : Room) D ta G [.ref h0, .int (nI 8)] [(h0, oR b0 n), (b0, aZ ta cap g)] sz (S := (Nat → BitVec 8) × Nat) (fun _ => none) (fun u => (u.2 = (n / 8 + 1) * 8) ∧ (qL u.1 u.2 = qpad 8 (qL g n))) (fun u => [(h0, oR b0 u.2), (b0, aZ ta cap u.1)]) 0 0 := by
  refine CT.of_v rfl (by decide) (Nat.le_of_ble_eq_true rfl) ?_
  intro pp ee ss mm below meth kc A Q hx hb hml hown hin hts hK hA hsz hG hret H locs hP hD hS ls hl
  have hl : lv_has ls 3 [(0, .ref h0), (1, .int (nI 8))] := hl
  refine lv_aload_n (pc := 0) hx hb dX6_pad_0 rfl (lv_at hl 0 rfl) ?_
  refine lv_sipush (pc := 1) (v := nI 128) hx hb dX6_pad_1 (by decide +kernel) ?_
  refine cs_V (pc := 4) (idx := 19) (n := 1) (wr := []) (As := [.int (nI 128)]) (rest := []) (ci := 5) hx hb hml hown hts hGok hK hA hG hl.1 hP hD hS (ct_X6_add ll D ta hGok h0 b0 cap g n (nI 128) (by first | assumption | omega | rfl | decide) (by first | assumption | omega | rfl | decide) H.size) tw_231 tw_228 tw_229 tw_230 tw_66 hdX6_add rfl ⟨rfl, rfl, Nat.le_of_ble_eq_true rfl, Nat.le_of_ble_eq_true rfl, Nat.le_of_ble_eq_true rfl, Nat.le_of_ble_eq_true rfl⟩ rfl rfl (q0 := 0) rfl [0, 1] [] rfl rfl (by decide) rfl (Nat.le_of_ble_eq_true rfl) dX6_pad_4 (fun u H locs hq hP hD hS => ?_)
  generalize u = g1_4 at hq hP hD ⊢
  have hq : (qL g1_4 (n + 1) = qL g n ++ [qlo (nI 128)]) := hq
  have hL_4 := hq
  refine W.eq (g2 := F0 mm 7 ls []) rfl ?_
  have hP : va_P D vwCl [(h0, oR b0 (n + 1)), (b0, aZ ta cap g1_4)] H := hP
  have hD : va_D A [(h0, oR b0 (n + 1)), (b0, aZ ta cap g1_4)] := hD
  refine lv_iconst (pc := 7) (v := nI 1) hx hb dX6_pad_7 (by decide +kernel) ?_
  refine lv_istore_n (pc := 8) (lv' := [(2, .int (nI 1)), (0, .ref h0), (1, .int (nI 8))]) hx hb dX6_pad_8 rfl hl (by decide) rfl (fun ls hl => ?_)
  have LP9 : ∀ (nn : Nat) (c : Nat) (m : Nat) (g' : Nat → BitVec 8), (1 ≤ c ∧ c + n % 8 ≤ 8) → (m = n + c) → (qL g' m = qL g n ++ 0x80#8 :: List.replicate (c - 1) 0#8) → (8 - c < nn) → ∀ (H : Heap) (locs : List Loc), va_P D vwCl [(h0, oR b0 m), (b0, aZ ta cap g')] H → va_D A [(h0, oR b0 m), (b0, aZ ta cap g')] → va_S A ss.heap H locs → ∀ ls : Array Slot, lv_has ls 3 [(2, .int (nI c)), (0, .ref h0), (1, .int (nI 8))] → W pp ll ee ({ frames := 1, cells := 0, slots := 0, locals := 21 } : Room) ss mm (([.ref h0, .int (nI 8)] : List Value).toArray) below meth kc H locs 0 0 Q (F0 mm 9 ls []) := by
    intro nn
    induction nn with
    | zero => intro c m g' hcc hm hLL hmu; exact absurd hmu (Nat.not_lt_zero _)
    | succ nn ih =>
      intro c m g' hcc hm hLL hmu H locs hP hD hS ls hl
      refine lv_iload_n (pc := 9) hx hb dX6_pad_9 rfl (lv_at hl 0 rfl) ?_
      refine lv_iload_n (pc := 10) hx hb dX6_pad_10 rfl (lv_at hl 2 rfl) ?_
      refine lv_icmp_ge (pc := 11) (tgt := 36) hx hb dX6_pad_11 (by decide) (fun c_1 => ?_) (fun c_1 => ?_)
      · skip
        rw [nI_leI (by omega) (by omega)] at c_1
        have hend : c + n % 8 = 8 := by omega
        have hq_2 : (m = (n / 8 + 1) * 8) ∧ (qL g' m = qpad 8 (qL g n)) := by
          refine ⟨by omega, ?_⟩
          rw [hLL, qpad, qL_len, show 8 - 1 - n % 8 = c - 1 by omega]
        exact hret (⟨(g'), (m)⟩ : (Nat → BitVec 8) × Nat) _ _ _ _ dX6_pad_36 hq_2 (hP.sub [0, 1] rfl) (hD.sub [0, 1] (by decide) rfl) hS
      · skip
        rw [nI_leI (by omega) (by omega)] at c_1
        refine lv_aload_n (pc := 14) hx hb dX6_pad_14 rfl (lv_at hl 1 rfl) ?_
        refine va_get (pc := 15) (D := D) (ci := 5) (v := .int (nI m)) (C := RX6) (T := TX6) (N := 2) hx hb hts iu6 hown hK hP 0 rfl rfl 1 (by decide) (hts _ tw_91) (fun _ h9 => h9) rfl dX6_pad_15 ?_
        refine lv_iload_n (pc := 18) hx hb dX6_pad_18 rfl (lv_at hl 2 rfl) ?_
        refine lv_iconst (pc := 19) (v := nI 1) hx hb dX6_pad_19 (by decide +kernel) ?_
        refine lv_isub (pc := 20) hx hb dX6_pad_20 ?_
        refine q_top (y := nI 7) (by decide +kernel) ?_
        refine lv_iand (pc := 21) hx hb dX6_pad_21 ?_
        refine q_top (y := nI (m % 8)) (q_andN (k := 3) (p := 8) (by decide) (by omega)) ?_
        refine lv_if_eq (pc := 22) (tgt := 36) hx hb dX6_pad_22 (by decide) (fun c_3 => ?_) (fun c_3 => ?_)
        · skip
          rw [q_eq0 (by omega)] at c_3
          have hend : c + n % 8 = 8 := by omega
          have hq_4 : (m = (n / 8 + 1) * 8) ∧ (qL g' m = qpad 8 (qL g n)) := by
            refine ⟨by omega, ?_⟩
            rw [hLL, qpad, qL_len, show 8 - 1 - n % 8 = c - 1 by omega]
          exact hret (⟨(g'), (m)⟩ : (Nat → BitVec 8) × Nat) _ _ _ _ dX6_pad_36 hq_4 (hP.sub [0, 1] rfl) (hD.sub [0, 1] (by decide) rfl) hS
        · skip
          rw [q_eq0 (by omega)] at c_3
          refine lv_aload_n (pc := 25) hx hb dX6_pad_25 rfl (lv_at hl 1 rfl) ?_
          refine lv_iconst (pc := 26) (v := nI 0) hx hb dX6_pad_26 (by decide +kernel) ?_
          refine cs_V (pc := 27) (idx := 19) (n := 1) (wr := []) (As := [.int (nI 0)]) (rest := []) (ci := 5) hx hb hml hown hts hGok hK hA hG hl.1 hP hD hS (ct_X6_add ll D ta hGok h0 b0 cap g' m (nI 0) (by first | assumption | omega | rfl | decide) (by first | assumption | omega | rfl | decide) H.size) tw_231 tw_228 tw_229 tw_230 tw_66 hdX6_add rfl ⟨rfl, rfl, Nat.le_of_ble_eq_true rfl, Nat.le_of_ble_eq_true rfl, Nat.le_of_ble_eq_true rfl, Nat.le_of_ble_eq_true rfl⟩ rfl rfl (q0 := 0) rfl [0, 1] [] rfl rfl (by decide) rfl (Nat.le_of_ble_eq_true rfl) dX6_pad_27 (fun u H locs hq hP hD hS => ?_)
          generalize u = g1_27 at hq hP hD ⊢
          have hq : (qL g1_27 (m + 1) = qL g' m ++ [qlo (nI 0)]) := hq
          have hL_27 := hq
          refine W.eq (g2 := F0 mm 30 ls []) rfl ?_
          have hP : va_P D vwCl [(h0, oR b0 (m + 1)), (b0, aZ ta cap g1_27)] H := hP
          have hD : va_D A [(h0, oR b0 (m + 1)), (b0, aZ ta cap g1_27)] := hD
          refine lv_iinc (pc := 30) (v := nI (c + 1)) (lv' := [(2, .int (nI (c + 1))), (0, .ref h0), (1, .int (nI 8))]) hx hb dX6_pad_30 hl (k := 0) rfl (by first | exact nI_add c 1 | rfl) (by decide) rfl (fun ls hl => ?_)
          refine lv_goto (pc := 33) (tgt := 9) hx hb dX6_pad_33 (by decide) ?_
          exact ih (c + 1) (m + 1) g1_27 (by omega) (by omega) (by rw [hL_27, hLL, qlo_nI, List.append_assoc, List.cons_append, show c + 1 - 1 = (c - 1) + 1 by omega, List.replicate_succ']) (by omega) _ _ (hP.sub [0, 1] rfl) (hD.sub [0, 1] (by decide) rfl) hS ls (lv_sub hl [0, 1, 2] rfl)
  exact LP9 _ 1 (n + 1) g1_4 (by omega) (by omega) (by rw [hL_4, qlo_nI]; rfl) (Nat.lt_succ_self _) _ _ (hP.sub [0, 1] rfl) (hD.sub [0, 1] (by decide) rfl) hS ls (lv_sub hl [0, 1, 2] rfl)
set_option maxHeartbeats 4000000 in
set_option maxRecDepth 100000 in
theorem ct_X6_pad16 (ll : Launch) (D : va_G) (ta : Nat → ClassId) {G : (Nat → Prop) → State → Heap → Prop} (hGok : GOK G) (h0 : Nat) (b0 : Nat) (cap : Nat) (g : Nat → BitVec 8) (n : Nat) (hn : (n / 16 + 1) * 16 ≤ cap) (hc : cap < 2147483648) (sz : Nat) : CT ll yX6_pad cX6_pad 3 none ({ frames := 1, cells := 0, slots := 0, locals := 21 } : Room) D ta G [.ref h0, .int (nI 16)] [(h0, oR b0 n), (b0, aZ ta cap g)] sz (S := (Nat → BitVec 8) × Nat) (fun _ => none) (fun u => (u.2 = (n / 16 + 1) * 16) ∧ (qL u.1 u.2 = qpad 16 (qL g n))) (fun u => [(h0, oR b0 u.2), (b0, aZ ta cap u.1)]) 0 0 := by
  refine CT.of_v rfl (by decide) (Nat.le_of_ble_eq_true rfl) ?_
  intro pp ee ss mm below meth kc A Q hx hb hml hown hin hts hK hA hsz hG hret H locs hP hD hS ls hl
  have hl : lv_has ls 3 [(0, .ref h0), (1, .int (nI 16))] := hl
  refine lv_aload_n (pc := 0) hx hb dX6_pad_0 rfl (lv_at hl 0 rfl) ?_
  refine lv_sipush (pc := 1) (v := nI 128) hx hb dX6_pad_1 (by decide +kernel) ?_
  refine cs_V (pc := 4) (idx := 19) (n := 1) (wr := []) (As := [.int (nI 128)]) (rest := []) (ci := 5) hx hb hml hown hts hGok hK hA hG hl.1 hP hD hS (ct_X6_add ll D ta hGok h0 b0 cap g n (nI 128) (by first | assumption | omega | rfl | decide) (by first | assumption | omega | rfl | decide) H.size) tw_231 tw_228 tw_229 tw_230 tw_66 hdX6_add rfl ⟨rfl, rfl, Nat.le_of_ble_eq_true rfl, Nat.le_of_ble_eq_true rfl, Nat.le_of_ble_eq_true rfl, Nat.le_of_ble_eq_true rfl⟩ rfl rfl (q0 := 0) rfl [0, 1] [] rfl rfl (by decide) rfl (Nat.le_of_ble_eq_true rfl) dX6_pad_4 (fun u H locs hq hP hD hS => ?_)
  generalize u = g1_4 at hq hP hD ⊢
  have hq : (qL g1_4 (n + 1) = qL g n ++ [qlo (nI 128)]) := hq
  have hL_4 := hq
  refine W.eq (g2 := F0 mm 7 ls []) rfl ?_
  have hP : va_P D vwCl [(h0, oR b0 (n + 1)), (b0, aZ ta cap g1_4)] H := hP
  have hD : va_D A [(h0, oR b0 (n + 1)), (b0, aZ ta cap g1_4)] := hD
  refine lv_iconst (pc := 7) (v := nI 1) hx hb dX6_pad_7 (by decide +kernel) ?_
  refine lv_istore_n (pc := 8) (lv' := [(2, .int (nI 1)), (0, .ref h0), (1, .int (nI 16))]) hx hb dX6_pad_8 rfl hl (by decide) rfl (fun ls hl => ?_)
  have LP9 : ∀ (nn : Nat) (c : Nat) (m : Nat) (g' : Nat → BitVec 8), (1 ≤ c ∧ c + n % 16 ≤ 16) → (m = n + c) → (qL g' m = qL g n ++ 0x80#8 :: List.replicate (c - 1) 0#8) → (16 - c < nn) → ∀ (H : Heap) (locs : List Loc), va_P D vwCl [(h0, oR b0 m), (b0, aZ ta cap g')] H → va_D A [(h0, oR b0 m), (b0, aZ ta cap g')] → va_S A ss.heap H locs → ∀ ls : Array Slot, lv_has ls 3 [(2, .int (nI c)), (0, .ref h0), (1, .int (nI 16))] → W pp ll ee ({ frames := 1, cells := 0, slots := 0, locals := 21 } : Room) ss mm (([.ref h0, .int (nI 16)] : List Value).toArray) below meth kc H locs 0 0 Q (F0 mm 9 ls []) := by
    intro nn
    induction nn with
    | zero => intro c m g' hcc hm hLL hmu; exact absurd hmu (Nat.not_lt_zero _)
    | succ nn ih =>
      intro c m g' hcc hm hLL hmu H locs hP hD hS ls hl
      refine lv_iload_n (pc := 9) hx hb dX6_pad_9 rfl (lv_at hl 0 rfl) ?_
      refine lv_iload_n (pc := 10) hx hb dX6_pad_10 rfl (lv_at hl 2 rfl) ?_
      refine lv_icmp_ge (pc := 11) (tgt := 36) hx hb dX6_pad_11 (by decide) (fun c_1 => ?_) (fun c_1 => ?_)
      · skip
        rw [nI_leI (by omega) (by omega)] at c_1
        have hend : c + n % 16 = 16 := by omega
        have hq_2 : (m = (n / 16 + 1) * 16) ∧ (qL g' m = qpad 16 (qL g n)) := by
          refine ⟨by omega, ?_⟩
          rw [hLL, qpad, qL_len, show 16 - 1 - n % 16 = c - 1 by omega]
        exact hret (⟨(g'), (m)⟩ : (Nat → BitVec 8) × Nat) _ _ _ _ dX6_pad_36 hq_2 (hP.sub [0, 1] rfl) (hD.sub [0, 1] (by decide) rfl) hS
      · skip
        rw [nI_leI (by omega) (by omega)] at c_1
        refine lv_aload_n (pc := 14) hx hb dX6_pad_14 rfl (lv_at hl 1 rfl) ?_
        refine va_get (pc := 15) (D := D) (ci := 5) (v := .int (nI m)) (C := RX6) (T := TX6) (N := 2) hx hb hts iu6 hown hK hP 0 rfl rfl 1 (by decide) (hts _ tw_91) (fun _ h9 => h9) rfl dX6_pad_15 ?_
        refine lv_iload_n (pc := 18) hx hb dX6_pad_18 rfl (lv_at hl 2 rfl) ?_
        refine lv_iconst (pc := 19) (v := nI 1) hx hb dX6_pad_19 (by decide +kernel) ?_
        refine lv_isub (pc := 20) hx hb dX6_pad_20 ?_
        refine q_top (y := nI 15) (by decide +kernel) ?_
        refine lv_iand (pc := 21) hx hb dX6_pad_21 ?_
        refine q_top (y := nI (m % 16)) (q_andN (k := 4) (p := 16) (by decide) (by omega)) ?_
        refine lv_if_eq (pc := 22) (tgt := 36) hx hb dX6_pad_22 (by decide) (fun c_3 => ?_) (fun c_3 => ?_)
        · skip
          rw [q_eq0 (by omega)] at c_3
          have hend : c + n % 16 = 16 := by omega
          have hq_4 : (m = (n / 16 + 1) * 16) ∧ (qL g' m = qpad 16 (qL g n)) := by
            refine ⟨by omega, ?_⟩
            rw [hLL, qpad, qL_len, show 16 - 1 - n % 16 = c - 1 by omega]
          exact hret (⟨(g'), (m)⟩ : (Nat → BitVec 8) × Nat) _ _ _ _ dX6_pad_36 hq_4 (hP.sub [0, 1] rfl) (hD.sub [0, 1] (by decide) rfl) hS
        · skip
          rw [q_eq0 (by omega)] at c_3
          refine lv_aload_n (pc := 25) hx hb dX6_pad_25 rfl (lv_at hl 1 rfl) ?_
          refine lv_iconst (pc := 26) (v := nI 0) hx hb dX6_pad_26 (by decide +kernel) ?_
          refine cs_V (pc := 27) (idx := 19) (n := 1) (wr := []) (As := [.int (nI 0)]) (rest := []) (ci := 5) hx hb hml hown hts hGok hK hA hG hl.1 hP hD hS (ct_X6_add ll D ta hGok h0 b0 cap g' m (nI 0) (by first | assumption | omega | rfl | decide) (by first | assumption | omega | rfl | decide) H.size) tw_231 tw_228 tw_229 tw_230 tw_66 hdX6_add rfl ⟨rfl, rfl, Nat.le_of_ble_eq_true rfl, Nat.le_of_ble_eq_true rfl, Nat.le_of_ble_eq_true rfl, Nat.le_of_ble_eq_true rfl⟩ rfl rfl (q0 := 0) rfl [0, 1] [] rfl rfl (by decide) rfl (Nat.le_of_ble_eq_true rfl) dX6_pad_27 (fun u H locs hq hP hD hS => ?_)
          generalize u = g1_27 at hq hP hD ⊢
          have hq : (qL g1_27 (m + 1) = qL g' m ++ [qlo (nI 0)]) := hq
          have hL_27 := hq
          refine W.eq (g2 := F0 mm 30 ls []) rfl ?_
          have hP : va_P D vwCl [(h0, oR b0 (m + 1)), (b0, aZ ta cap g1_27)] H := hP
          have hD : va_D A [(h0, oR b0 (m + 1)), (b0, aZ ta cap g1_27)] := hD
          refine lv_iinc (pc := 30) (v := nI (c + 1)) (lv' := [(2, .int (nI (c + 1))), (0, .ref h0), (1, .int (nI 16))]) hx hb dX6_pad_30 hl (k := 0) rfl (by first | exact nI_add c 1 | rfl) (by decide) rfl (fun ls hl => ?_)
          refine lv_goto (pc := 33) (tgt := 9) hx hb dX6_pad_33 (by decide) ?_
          exact ih (c + 1) (m + 1) g1_27 (by omega) (by omega) (by rw [hL_27, hLL, qlo_nI, List.append_assoc, List.cons_append, show c + 1 - 1 = (c - 1) + 1 by omega, List.replicate_succ']) (by omega) _ _ (hP.sub [0, 1] rfl) (hD.sub [0, 1] (by decide) rfl) hS ls (lv_sub hl [0, 1, 2] rfl)
  exact LP9 _ 1 (n + 1) g1_4 (by omega) (by omega) (by rw [hL_4, qlo_nI]; rfl) (Nat.lt_succ_self _) _ _ (hP.sub [0, 1] rfl) (hD.sub [0, 1] (by decide) rfl) hS ls (lv_sub hl [0, 1, 2] rfl)
theorem hdX6_unpad : yX6_unpad.cls ≠ "java/lang/invoke/MethodHandle" ∧ yX6_unpad.cls ≠ "java/lang/invoke/VarHandle" ∧ (parseMethodDescriptor yX6_unpad.desc).map (fun d => d.parameters.length) = some 0 := ⟨by decide +kernel, by decide +kernel, by decide +kernel⟩
theorem dX6_unpad_0 : decode cX6_unpad 0 = .ok (.aload_n 0, 1) := by decide +kernel
theorem dX6_unpad_1 : decode cX6_unpad 1 = .ok (.getfield 9, 3) := by decide +kernel
theorem dX6_unpad_4 : decode cX6_unpad 4 = .ok (.iconst 1, 1) := by decide +kernel
theorem dX6_unpad_5 : decode cX6_unpad 5 = .ok (.isub, 1) := by decide +kernel
theorem dX6_unpad_6 : decode cX6_unpad 6 = .ok (.istore_n 1, 1) := by decide +kernel
theorem dX6_unpad_7 : decode cX6_unpad 7 = .ok (.iload_n 1, 1) := by decide +kernel
theorem dX6_unpad_8 : decode cX6_unpad 8 = .ok (.ifCond .le 17, 3) := by decide +kernel
theorem dX6_unpad_11 : decode cX6_unpad 11 = .ok (.aload_n 0, 1) := by decide +kernel
theorem dX6_unpad_12 : decode cX6_unpad 12 = .ok (.iload_n 1, 1) := by decide +kernel
theorem dX6_unpad_13 : decode cX6_unpad 13 = .ok (.invokevirtual 23, 3) := by decide +kernel
theorem dX6_unpad_16 : decode cX6_unpad 16 = .ok (.ifCond .ne 9, 3) := by decide +kernel
theorem dX6_unpad_19 : decode cX6_unpad 19 = .ok (.iinc 1 (-1), 3) := by decide +kernel
theorem dX6_unpad_22 : decode cX6_unpad 22 = .ok (.goto (-15), 3) := by decide +kernel
theorem dX6_unpad_25 : decode cX6_unpad 25 = .ok (.iload_n 1, 1) := by decide +kernel
theorem dX6_unpad_26 : decode cX6_unpad 26 = .ok (.iconst 1, 1) := by decide +kernel
theorem dX6_unpad_27 : decode cX6_unpad 27 = .ok (.if_icmp .lt 14, 3) := by decide +kernel
theorem dX6_unpad_30 : decode cX6_unpad 30 = .ok (.aload_n 0, 1) := by decide +kernel
theorem dX6_unpad_31 : decode cX6_unpad 31 = .ok (.iload_n 1, 1) := by decide +kernel
theorem dX6_unpad_32 : decode cX6_unpad 32 = .ok (.invokevirtual 23, 3) := by decide +kernel
theorem dX6_unpad_35 : decode cX6_unpad 35 = .ok (.sipush 128, 3) := by decide +kernel
theorem dX6_unpad_38 : decode cX6_unpad 38 = .ok (.if_icmp .eq 5, 3) := by decide +kernel
theorem dX6_unpad_41 : decode cX6_unpad 41 = .ok (.iconst 0, 1) := by decide +kernel
theorem dX6_unpad_42 : decode cX6_unpad 42 = .ok (.ireturn, 1) := by decide +kernel
theorem dX6_unpad_43 : decode cX6_unpad 43 = .ok (.aload_n 0, 1) := by decide +kernel
theorem dX6_unpad_44 : decode cX6_unpad 44 = .ok (.iload_n 1, 1) := by decide +kernel
theorem dX6_unpad_45 : decode cX6_unpad 45 = .ok (.putfield 9, 3) := by decide +kernel
theorem dX6_unpad_48 : decode cX6_unpad 48 = .ok (.iconst 1, 1) := by decide +kernel
theorem dX6_unpad_49 : decode cX6_unpad 49 = .ok (.ireturn, 1) := by decide +kernel
set_option maxHeartbeats 4000000 in
set_option maxRecDepth 100000 in
theorem ct_X6_unpad (ll : Launch) (D : va_G) (ta : Nat → ClassId) {G : (Nat → Prop) → State → Heap → Prop} (hGok : GOK G) (h0 : Nat) (b0 : Nat) (cap : Nat) (g : Nat → BitVec 8) (n : Nat) (hn : n ≤ cap) (hc : cap < 2147483648) (h1 : 0 < n) (sz : Nat) : CT ll yX6_unpad cX6_unpad 2 (some .boolean) ({ frames := 1, cells := 0, slots := 0, locals := 21 } : Room) D ta G [.ref h0] [(h0, oR b0 n), (b0, aZ ta cap g)] sz (S := Bool × Nat) (fun u => some (.int (qb u.1))) (fun u => (qunp (qL g n) = if u.1 then some (qL g u.2) else none) ∧ (u.2 ≤ n) ∧ (u.1 = true → 1 ≤ u.2 ∧ u.2 < n)) (fun u => [(h0, oR b0 u.2), (b0, aZ ta cap g)]) 0 0 := by
  refine CT.of_z (r := fun u => u.1) rfl (by decide) (Nat.le_of_ble_eq_true rfl) ?_
  intro pp ee ss mm below meth kc A Q hx hb hml hown hin hts hK hA hsz hG hret H locs hP hD hS ls hl
  have hl : lv_has ls 2 [(0, .ref h0)] := hl
  refine lv_aload_n (pc := 0) hx hb dX6_unpad_0 rfl (lv_at hl 0 rfl) ?_
  refine va_get (pc := 1) (D := D) (ci := 5) (v := .int (nI n)) (C := RX6) (T := TX6) (N := 2) hx hb hts iu6 hown hK hP 0 rfl rfl 1 (by decide) (hts _ tw_91) (fun _ h9 => h9) rfl dX6_unpad_1 ?_
  refine lv_iconst (pc := 4) (v := nI 1) hx hb dX6_unpad_4 (by decide +kernel) ?_
  refine lv_isub (pc := 5) hx hb dX6_unpad_5 ?_
  refine q_top (y := nI (n - 1)) (pk_sub (a := n) (b := 1) (by omega)) ?_
  refine lv_istore_n (pc := 6) (lv' := [(1, .int (nI (n - 1))), (0, .ref h0)]) hx hb dX6_unpad_6 rfl hl (by decide) rfl (fun ls hl => ?_)
  have LP7 : ∀ (nn : Nat) (c : Nat), (c < n) → (qnz g c = qnz g (n - 1)) → (c < nn) → ∀ (H : Heap) (locs : List Loc), va_P D vwCl [(h0, oR b0 n), (b0, aZ ta cap g)] H → va_D A [(h0, oR b0 n), (b0, aZ ta cap g)] → va_S A ss.heap H locs → ∀ ls : Array Slot, lv_has ls 2 [(1, .int (nI c)), (0, .ref h0)] → W pp ll ee ({ frames := 1, cells := 0, slots := 0, locals := 21 } : Room) ss mm (([.ref h0] : List Value).toArray) below meth kc H locs 0 0 Q (F0 mm 7 ls []) := by
    intro nn
    induction nn with
    | zero => intro c hcc hqz hmu; exact absurd hmu (Nat.not_lt_zero _)
    | succ nn ih =>
      intro c hcc hqz hmu H locs hP hD hS ls hl
      refine lv_iload_n (pc := 7) hx hb dX6_unpad_7 rfl (lv_at hl 0 rfl) ?_
      refine lv_if_le (pc := 8) (tgt := 25) hx hb dX6_unpad_8 (by decide) (fun c_1 => ?_) (fun c_1 => ?_)
      · skip
        rw [q_le0 (by omega)] at c_1
        have hfin : c = qnz g (n - 1) := by subst c_1; exact hqz
        refine lv_iload_n (pc := 25) hx hb dX6_unpad_25 rfl (lv_at hl 0 rfl) ?_
        refine lv_iconst (pc := 26) (v := nI 1) hx hb dX6_unpad_26 (by decide +kernel) ?_
        refine lv_icmp_lt (pc := 27) (tgt := 41) hx hb dX6_unpad_27 (by decide) (fun c_2 => ?_) (fun c_2 => ?_)
        · skip
          rw [nI_ltI (by omega) (by omega)] at c_2
          refine lv_iconst (pc := 41) (v := nI 0) hx hb dX6_unpad_41 (by decide +kernel) ?_
          refine q_top (y := qb false) (by first | rfl | decide +kernel | (simp; done)) ?_
          have hq_3 : (qunp (qL g n) = if false then some (qL g n) else none) ∧ (n ≤ n) ∧ (false = true → 1 ≤ n ∧ n < n) := by
            refine ⟨?_, Nat.le_refl _, fun h => by cases h⟩
            rw [qunp_qL h1, if_neg]
            · rfl
            · rw [← hfin]; first | omega | (intro hh; simp_all)
          exact hret (⟨(false), (n)⟩ : Bool × Nat) _ _ _ _ dX6_unpad_42 hq_3 (hP.sub [0, 1] rfl) (hD.sub [0, 1] (by decide) rfl) hS
        · skip
          rw [nI_ltI (by omega) (by omega)] at c_2
          refine lv_aload_n (pc := 30) hx hb dX6_unpad_30 rfl (lv_at hl 1 rfl) ?_
          refine lv_iload_n (pc := 31) hx hb dX6_unpad_31 rfl (lv_at hl 0 rfl) ?_
          refine cs_V (pc := 32) (idx := 23) (n := 1) (wr := []) (As := [.int (nI c)]) (rest := []) (ci := 5) hx hb hml hown hts hGok hK hA hG hl.1 hP hD hS (ct_X6_at_in ll D ta hGok h0 b0 cap g n c (by first | assumption | omega | rfl | decide) (by first | assumption | omega | rfl | decide) (by first | assumption | omega | rfl | decide) H.size) tw_413 tw_446 tw_411 tw_412 tw_66 hdX6_at rfl ⟨rfl, rfl, Nat.le_of_ble_eq_true rfl, Nat.le_of_ble_eq_true rfl, Nat.le_of_ble_eq_true rfl, Nat.le_of_ble_eq_true rfl⟩ rfl rfl (q0 := 0) rfl [0, 1] [] rfl rfl (by decide) rfl (Nat.le_of_ble_eq_true rfl) dX6_unpad_32 (fun u H locs hq hP hD hS => ?_)
          refine W.eq (g2 := F0 mm 35 ls [.int (qz (g c))]) rfl ?_
          have hP : va_P D vwCl [(h0, oR b0 n), (b0, aZ ta cap g)] H := hP
          have hD : va_D A [(h0, oR b0 n), (b0, aZ ta cap g)] := hD
          refine lv_sipush (pc := 35) (v := nI 128) hx hb dX6_unpad_35 (by decide +kernel) ?_
          refine lv_icmp_eq (pc := 38) (tgt := 43) hx hb dX6_unpad_38 (by decide) (fun c_4 => ?_) (fun c_4 => ?_)
          · skip
            rw [qz_80] at c_4
            refine lv_aload_n (pc := 43) hx hb dX6_unpad_43 rfl (lv_at hl 1 rfl) ?_
            refine lv_iload_n (pc := 44) hx hb dX6_unpad_44 rfl (lv_at hl 0 rfl) ?_
            refine va_put (pc := 45) (D := D) (ci := 5) (v := .int (nI c)) (ty := .int) (C := RX6) (T := TX6) (N := 2) hx hb hts iu6 tyX6 tyX6_ok nmX6 hown hK hP hD hS 0 rfl rfl 1 (by decide) (hts _ tw_91) (fun _ h9 => h9) rfl (by decide +kernel) rfl rfl (Nat.le_of_ble_eq_true rfl) dX6_unpad_45 (fun H locs hP hD hS => ?_)
            have hP : va_P D vwCl [(h0, oR b0 c), (b0, aZ ta cap g)] H := hP
            have hD : va_D A [(h0, oR b0 c), (b0, aZ ta cap g)] := hD
            refine lv_iconst (pc := 48) (v := nI 1) hx hb dX6_unpad_48 (by decide +kernel) ?_
            refine q_top (y := qb true) (by first | rfl | decide +kernel | (simp; done)) ?_
            have hq_5 : (qunp (qL g n) = if true then some (qL g c) else none) ∧ (c ≤ n) ∧ (true = true → 1 ≤ c ∧ c < n) := by
              refine ⟨?_, by omega, fun _ => by omega⟩
              rw [qunp_qL h1, if_pos]
              · rw [← hfin]; rfl
              · rw [← hfin]; exact ⟨by omega, by assumption⟩
            exact hret (⟨(true), (c)⟩ : Bool × Nat) _ _ _ _ dX6_unpad_49 hq_5 (hP.sub [0, 1] rfl) (hD.sub [0, 1] (by decide) rfl) hS
          · skip
            rw [qz_80] at c_4
            refine lv_iconst (pc := 41) (v := nI 0) hx hb dX6_unpad_41 (by decide +kernel) ?_
            refine q_top (y := qb false) (by first | rfl | decide +kernel | (simp; done)) ?_
            have hq_6 : (qunp (qL g n) = if false then some (qL g n) else none) ∧ (n ≤ n) ∧ (false = true → 1 ≤ n ∧ n < n) := by
              refine ⟨?_, Nat.le_refl _, fun h => by cases h⟩
              rw [qunp_qL h1, if_neg]
              · rfl
              · rw [← hfin]; first | omega | (intro hh; simp_all)
            exact hret (⟨(false), (n)⟩ : Bool × Nat) _ _ _ _ dX6_unpad_42 hq_6 (hP.sub [0, 1] rfl) (hD.sub [0, 1] (by decide) rfl) hS
      · skip
        rw [q_le0 (by omega)] at c_1
        refine lv_aload_n (pc := 11) hx hb dX6_unpad_11 rfl (lv_at hl 1 rfl) ?_
        refine lv_iload_n (pc := 12) hx hb dX6_unpad_12 rfl (lv_at hl 0 rfl) ?_
        refine cs_V (pc := 13) (idx := 23) (n := 1) (wr := []) (As := [.int (nI c)]) (rest := []) (ci := 5) hx hb hml hown hts hGok hK hA hG hl.1 hP hD hS (ct_X6_at_in ll D ta hGok h0 b0 cap g n c (by first | assumption | omega | rfl | decide) (by first | assumption | omega | rfl | decide) (by first | assumption | omega | rfl | decide) H.size) tw_413 tw_446 tw_411 tw_412 tw_66 hdX6_at rfl ⟨rfl, rfl, Nat.le_of_ble_eq_true rfl, Nat.le_of_ble_eq_true rfl, Nat.le_of_ble_eq_true rfl, Nat.le_of_ble_eq_true rfl⟩ rfl rfl (q0 := 0) rfl [0, 1] [] rfl rfl (by decide) rfl (Nat.le_of_ble_eq_true rfl) dX6_unpad_13 (fun u H locs hq hP hD hS => ?_)
        refine W.eq (g2 := F0 mm 16 ls [.int (qz (g c))]) rfl ?_
        have hP : va_P D vwCl [(h0, oR b0 n), (b0, aZ ta cap g)] H := hP
        have hD : va_D A [(h0, oR b0 n), (b0, aZ ta cap g)] := hD
        refine lv_if_ne (pc := 16) (tgt := 25) hx hb dX6_unpad_16 (by decide) (fun c_7 => ?_) (fun c_7 => ?_)
        · skip
          have hfin : c = qnz g (n - 1) := by
            rw [qz_0] at c_7
            rw [← hqz]
            exact (qnz_stop c_7).symm
          refine lv_iload_n (pc := 25) hx hb dX6_unpad_25 rfl (lv_at hl 0 rfl) ?_
          refine lv_iconst (pc := 26) (v := nI 1) hx hb dX6_unpad_26 (by decide +kernel) ?_
          refine lv_icmp_lt (pc := 27) (tgt := 41) hx hb dX6_unpad_27 (by decide) (fun c_8 => ?_) (fun c_8 => ?_)
          · skip
            rw [nI_ltI (by omega) (by omega)] at c_8
            refine lv_iconst (pc := 41) (v := nI 0) hx hb dX6_unpad_41 (by decide +kernel) ?_
            refine q_top (y := qb false) (by first | rfl | decide +kernel | (simp; done)) ?_
            have hq_9 : (qunp (qL g n) = if false then some (qL g n) else none) ∧ (n ≤ n) ∧ (false = true → 1 ≤ n ∧ n < n) := by
              refine ⟨?_, Nat.le_refl _, fun h => by cases h⟩
              rw [qunp_qL h1, if_neg]
              · rfl
              · rw [← hfin]; first | omega | (intro hh; simp_all)
            exact hret (⟨(false), (n)⟩ : Bool × Nat) _ _ _ _ dX6_unpad_42 hq_9 (hP.sub [0, 1] rfl) (hD.sub [0, 1] (by decide) rfl) hS
          · skip
            rw [nI_ltI (by omega) (by omega)] at c_8
            refine lv_aload_n (pc := 30) hx hb dX6_unpad_30 rfl (lv_at hl 1 rfl) ?_
            refine lv_iload_n (pc := 31) hx hb dX6_unpad_31 rfl (lv_at hl 0 rfl) ?_
            refine cs_V (pc := 32) (idx := 23) (n := 1) (wr := []) (As := [.int (nI c)]) (rest := []) (ci := 5) hx hb hml hown hts hGok hK hA hG hl.1 hP hD hS (ct_X6_at_in ll D ta hGok h0 b0 cap g n c (by first | assumption | omega | rfl | decide) (by first | assumption | omega | rfl | decide) (by first | assumption | omega | rfl | decide) H.size) tw_413 tw_446 tw_411 tw_412 tw_66 hdX6_at rfl ⟨rfl, rfl, Nat.le_of_ble_eq_true rfl, Nat.le_of_ble_eq_true rfl, Nat.le_of_ble_eq_true rfl, Nat.le_of_ble_eq_true rfl⟩ rfl rfl (q0 := 0) rfl [0, 1] [] rfl rfl (by decide) rfl (Nat.le_of_ble_eq_true rfl) dX6_unpad_32 (fun u H locs hq hP hD hS => ?_)
            refine W.eq (g2 := F0 mm 35 ls [.int (qz (g c))]) rfl ?_
            have hP : va_P D vwCl [(h0, oR b0 n), (b0, aZ ta cap g)] H := hP
            have hD : va_D A [(h0, oR b0 n), (b0, aZ ta cap g)] := hD
            refine lv_sipush (pc := 35) (v := nI 128) hx hb dX6_unpad_35 (by decide +kernel) ?_
            refine lv_icmp_eq (pc := 38) (tgt := 43) hx hb dX6_unpad_38 (by decide) (fun c_10 => ?_) (fun c_10 => ?_)
            · skip
              rw [qz_80] at c_10
              refine lv_aload_n (pc := 43) hx hb dX6_unpad_43 rfl (lv_at hl 1 rfl) ?_
              refine lv_iload_n (pc := 44) hx hb dX6_unpad_44 rfl (lv_at hl 0 rfl) ?_
              refine va_put (pc := 45) (D := D) (ci := 5) (v := .int (nI c)) (ty := .int) (C := RX6) (T := TX6) (N := 2) hx hb hts iu6 tyX6 tyX6_ok nmX6 hown hK hP hD hS 0 rfl rfl 1 (by decide) (hts _ tw_91) (fun _ h9 => h9) rfl (by decide +kernel) rfl rfl (Nat.le_of_ble_eq_true rfl) dX6_unpad_45 (fun H locs hP hD hS => ?_)
              have hP : va_P D vwCl [(h0, oR b0 c), (b0, aZ ta cap g)] H := hP
              have hD : va_D A [(h0, oR b0 c), (b0, aZ ta cap g)] := hD
              refine lv_iconst (pc := 48) (v := nI 1) hx hb dX6_unpad_48 (by decide +kernel) ?_
              refine q_top (y := qb true) (by first | rfl | decide +kernel | (simp; done)) ?_
              have hq_11 : (qunp (qL g n) = if true then some (qL g c) else none) ∧ (c ≤ n) ∧ (true = true → 1 ≤ c ∧ c < n) := by
                refine ⟨?_, by omega, fun _ => by omega⟩
                rw [qunp_qL h1, if_pos]
                · rw [← hfin]; rfl
                · rw [← hfin]; exact ⟨by omega, by assumption⟩
              exact hret (⟨(true), (c)⟩ : Bool × Nat) _ _ _ _ dX6_unpad_49 hq_11 (hP.sub [0, 1] rfl) (hD.sub [0, 1] (by decide) rfl) hS
            · skip
              rw [qz_80] at c_10
              refine lv_iconst (pc := 41) (v := nI 0) hx hb dX6_unpad_41 (by decide +kernel) ?_
              refine q_top (y := qb false) (by first | rfl | decide +kernel | (simp; done)) ?_
              have hq_12 : (qunp (qL g n) = if false then some (qL g n) else none) ∧ (n ≤ n) ∧ (false = true → 1 ≤ n ∧ n < n) := by
                refine ⟨?_, Nat.le_refl _, fun h => by cases h⟩
                rw [qunp_qL h1, if_neg]
                · rfl
                · rw [← hfin]; first | omega | (intro hh; simp_all)
              exact hret (⟨(false), (n)⟩ : Bool × Nat) _ _ _ _ dX6_unpad_42 hq_12 (hP.sub [0, 1] rfl) (hD.sub [0, 1] (by decide) rfl) hS
        · skip
          rw [qz_0] at c_7
          refine lv_iinc (pc := 19) (v := nI (c - 1)) (lv' := [(1, .int (nI (c - 1))), (0, .ref h0)]) hx hb dX6_unpad_19 hl (k := 0) rfl (q_dec (by omega)) (by decide) rfl (fun ls hl => ?_)
          refine lv_goto (pc := 22) (tgt := 7) hx hb dX6_unpad_22 (by decide) ?_
          exact ih (c - 1) (by omega) (by rw [← hqz]; exact (qnz_step (by omega) (by assumption)).symm) (by omega) _ _ (hP.sub [0, 1] rfl) (hD.sub [0, 1] (by decide) rfl) hS ls (lv_sub hl [0, 1] rfl)
  exact LP7 _ (n - 1) (by omega) (rfl) (Nat.lt_succ_self _) _ _ (hP.sub [0, 1] rfl) (hD.sub [0, 1] (by decide) rfl) hS ls (lv_sub hl [0, 1] rfl)
theorem hdX6_hasAt : yX6_hasAt.cls ≠ "java/lang/invoke/MethodHandle" ∧ yX6_hasAt.cls ≠ "java/lang/invoke/VarHandle" ∧ (parseMethodDescriptor yX6_hasAt.desc).map (fun d => d.parameters.length) = some 3 := ⟨by decide +kernel, by decide +kernel, by decide +kernel⟩
theorem dX6_hasAt_0 : decode cX6_hasAt 0 = .ok (.iconst 0, 1) := by decide +kernel
theorem dX6_hasAt_1 : decode cX6_hasAt 1 = .ok (.istore 4, 2) := by decide +kernel
theorem dX6_hasAt_3 : decode cX6_hasAt 3 = .ok (.iload 4, 2) := by decide +kernel
theorem dX6_hasAt_5 : decode cX6_hasAt 5 = .ok (.iload_n 3, 1) := by decide +kernel
theorem dX6_hasAt_6 : decode cX6_hasAt 6 = .ok (.if_icmp .ge 28, 3) := by decide +kernel
theorem dX6_hasAt_9 : decode cX6_hasAt 9 = .ok (.aload_n 0, 1) := by decide +kernel
theorem dX6_hasAt_10 : decode cX6_hasAt 10 = .ok (.iload_n 1, 1) := by decide +kernel
theorem dX6_hasAt_11 : decode cX6_hasAt 11 = .ok (.iload 4, 2) := by decide +kernel
theorem dX6_hasAt_13 : decode cX6_hasAt 13 = .ok (.iadd, 1) := by decide +kernel
theorem dX6_hasAt_14 : decode cX6_hasAt 14 = .ok (.invokevirtual 23, 3) := by decide +kernel
theorem dX6_hasAt_17 : decode cX6_hasAt 17 = .ok (.aload_n 2, 1) := by decide +kernel
theorem dX6_hasAt_18 : decode cX6_hasAt 18 = .ok (.iload 4, 2) := by decide +kernel
theorem dX6_hasAt_20 : decode cX6_hasAt 20 = .ok (.invokevirtual 23, 3) := by decide +kernel
theorem dX6_hasAt_23 : decode cX6_hasAt 23 = .ok (.if_icmp .eq 5, 3) := by decide +kernel
theorem dX6_hasAt_26 : decode cX6_hasAt 26 = .ok (.iconst 0, 1) := by decide +kernel
theorem dX6_hasAt_27 : decode cX6_hasAt 27 = .ok (.ireturn, 1) := by decide +kernel
theorem dX6_hasAt_28 : decode cX6_hasAt 28 = .ok (.iinc 4 1, 3) := by decide +kernel
theorem dX6_hasAt_31 : decode cX6_hasAt 31 = .ok (.goto (-28), 3) := by decide +kernel
theorem dX6_hasAt_34 : decode cX6_hasAt 34 = .ok (.iconst 1, 1) := by decide +kernel
theorem dX6_hasAt_35 : decode cX6_hasAt 35 = .ok (.ireturn, 1) := by decide +kernel
set_option maxHeartbeats 4000000 in
set_option maxRecDepth 100000 in
theorem ct_X6_hasAt (ll : Launch) (D : va_G) (ta : Nat → ClassId) {G : (Nat → Prop) → State → Heap → Prop} (hGok : GOK G) (h0 : Nat) (b0 : Nat) (cap : Nat) (g : Nat → BitVec 8) (n : Nat) (h2 : Nat) (b2 : Nat) (cap2 : Nat) (g2 : Nat → BitVec 8) (n2 : Nat) (f : Nat) (cnt : Nat) (hn : n ≤ cap) (hc : cap < 2147483648) (hn2 : n2 ≤ cap2) (hc2 : cap2 < 2147483648) (hf : f + cnt ≤ n) (hcnt : cnt ≤ n2) (sz : Nat) : CT ll yX6_hasAt cX6_hasAt 5 (some .boolean) ({ frames := 1, cells := 0, slots := 0, locals := 21 } : Room) D ta G [.ref h0, .int (nI f), .ref h2, .int (nI cnt)] [(h0, oR b0 n), (b0, aZ ta cap g), (h2, oR b2 n2), (b2, aZ ta cap2 g2)] sz (S := Bool) (fun u => some (.int (qb u))) (fun u => (u = qHas g g2 f cnt)) (fun u => [(h0, oR b0 n), (b0, aZ ta cap g), (h2, oR b2 n2), (b2, aZ ta cap2 g2)]) 0 0 := by
  refine CT.of_z (r := fun u => u) rfl (by decide) (Nat.le_of_ble_eq_true rfl) ?_
  intro pp ee ss mm below meth kc A Q hx hb hml hown hin hts hK hA hsz hG hret H locs hP hD hS ls hl
  have hl : lv_has ls 5 [(0, .ref h0), (1, .int (nI f)), (2, .ref h2), (3, .int (nI cnt))] := hl
  refine lv_iconst (pc := 0) (v := nI 0) hx hb dX6_hasAt_0 (by decide +kernel) ?_
  refine lv_istore (pc := 1) (lv' := [(4, .int (nI 0)), (0, .ref h0), (1, .int (nI f)), (2, .ref h2), (3, .int (nI cnt))]) hx hb dX6_hasAt_1 hl (by decide) rfl (fun ls hl => ?_)
  have LP3 : ∀ (nn : Nat) (c : Nat), (c ≤ cnt) → (∀ j, j < c → g (f + j) = g2 j) → (cnt - c < nn) → ∀ (H : Heap) (locs : List Loc), va_P D vwCl [(h0, oR b0 n), (b0, aZ ta cap g), (h2, oR b2 n2), (b2, aZ ta cap2 g2)] H → va_D A [(h0, oR b0 n), (b0, aZ ta cap g), (h2, oR b2 n2), (b2, aZ ta cap2 g2)] → va_S A ss.heap H locs → ∀ ls : Array Slot, lv_has ls 5 [(4, .int (nI c)), (0, .ref h0), (1, .int (nI f)), (2, .ref h2), (3, .int (nI cnt))] → W pp ll ee ({ frames := 1, cells := 0, slots := 0, locals := 21 } : Room) ss mm (([.ref h0, .int (nI f), .ref h2, .int (nI cnt)] : List Value).toArray) below meth kc H locs 0 0 Q (F0 mm 3 ls []) := by
    intro nn
    induction nn with
    | zero => intro c hcc hA2 hmu; exact absurd hmu (Nat.not_lt_zero _)
    | succ nn ih =>
      intro c hcc hA2 hmu H locs hP hD hS ls hl
      refine lv_iload (pc := 3) hx hb dX6_hasAt_3 (lv_at hl 0 rfl) ?_
      refine lv_iload_n (pc := 5) hx hb dX6_hasAt_5 rfl (lv_at hl 4 rfl) ?_
      refine lv_icmp_ge (pc := 6) (tgt := 34) hx hb dX6_hasAt_6 (by decide) (fun c_1 => ?_) (fun c_1 => ?_)
      · skip
        rw [nI_leI (by omega) (by omega)] at c_1
        refine lv_iconst (pc := 34) (v := nI 1) hx hb dX6_hasAt_34 (by decide +kernel) ?_
        refine q_top (y := qb true) (by first | rfl | decide +kernel | (simp; done)) ?_
        have hq_2 : (true = qHas g g2 f cnt) := by
          symm; rw [qHas_t]; intro j hj; exact hA2 j (by omega)
        exact hret (true) _ _ _ _ dX6_hasAt_35 hq_2 (hP.sub [0, 1, 2, 3] rfl) (hD.sub [0, 1, 2, 3] (by decide) rfl) hS
      · skip
        rw [nI_leI (by omega) (by omega)] at c_1
        refine lv_aload_n (pc := 9) hx hb dX6_hasAt_9 rfl (lv_at hl 1 rfl) ?_
        refine lv_iload_n (pc := 10) hx hb dX6_hasAt_10 rfl (lv_at hl 2 rfl) ?_
        refine lv_iload (pc := 11) hx hb dX6_hasAt_11 (lv_at hl 0 rfl) ?_
        refine lv_iadd (pc := 13) hx hb dX6_hasAt_13 ?_
        refine q_top (y := nI (f + c)) (nI_add f c) ?_
        refine cs_V (pc := 14) (idx := 23) (n := 1) (wr := [(h2, oR b2 n2), (b2, aZ ta cap2 g2)]) (As := [.int (nI (f + c))]) (rest := []) (ci := 5) hx hb hml hown hts hGok hK hA hG hl.1 hP hD hS (ct_X6_at_in ll D ta hGok h0 b0 cap g n (f + c) (by first | assumption | omega | rfl | decide) (by first | assumption | omega | rfl | decide) (by first | assumption | omega | rfl | decide) H.size) tw_413 tw_446 tw_411 tw_412 tw_66 hdX6_at rfl ⟨rfl, rfl, Nat.le_of_ble_eq_true rfl, Nat.le_of_ble_eq_true rfl, Nat.le_of_ble_eq_true rfl, Nat.le_of_ble_eq_true rfl⟩ rfl rfl (q0 := 0) rfl [0, 1] [2, 3] rfl rfl (by decide) rfl (Nat.le_of_ble_eq_true rfl) dX6_hasAt_14 (fun u H locs hq hP hD hS => ?_)
        refine W.eq (g2 := F0 mm 17 ls [.int (qz (g (f + c)))]) rfl ?_
        have hP : va_P D vwCl [(h2, oR b2 n2), (b2, aZ ta cap2 g2), (h0, oR b0 n), (b0, aZ ta cap g)] H := hP
        have hD : va_D A [(h2, oR b2 n2), (b2, aZ ta cap2 g2), (h0, oR b0 n), (b0, aZ ta cap g)] := hD
        refine lv_aload_n (pc := 17) hx hb dX6_hasAt_17 rfl (lv_at hl 3 rfl) ?_
        refine lv_iload (pc := 18) hx hb dX6_hasAt_18 (lv_at hl 0 rfl) ?_
        refine cs_V (pc := 20) (idx := 23) (n := 1) (wr := [(h0, oR b0 n), (b0, aZ ta cap g)]) (As := [.int (nI c)]) (rest := [.int (qz (g (f + c)))]) (ci := 5) hx hb hml hown hts hGok hK hA hG hl.1 hP hD hS (ct_X6_at_in ll D ta hGok h2 b2 cap2 g2 n2 c (by first | assumption | omega | rfl | decide) (by first | assumption | omega | rfl | decide) (by first | assumption | omega | rfl | decide) H.size) tw_413 tw_446 tw_411 tw_412 tw_66 hdX6_at rfl ⟨rfl, rfl, Nat.le_of_ble_eq_true rfl, Nat.le_of_ble_eq_true rfl, Nat.le_of_ble_eq_true rfl, Nat.le_of_ble_eq_true rfl⟩ rfl rfl (q0 := 0) rfl [0, 1] [2, 3] rfl rfl (by decide) rfl (Nat.le_of_ble_eq_true rfl) dX6_hasAt_20 (fun u H locs hq hP hD hS => ?_)
        refine W.eq (g2 := F0 mm 23 ls [.int (qz (g2 c)), .int (qz (g (f + c)))]) rfl ?_
        have hP : va_P D vwCl [(h0, oR b0 n), (b0, aZ ta cap g), (h2, oR b2 n2), (b2, aZ ta cap2 g2)] H := hP
        have hD : va_D A [(h0, oR b0 n), (b0, aZ ta cap g), (h2, oR b2 n2), (b2, aZ ta cap2 g2)] := hD
        refine lv_icmp_eq (pc := 23) (tgt := 28) hx hb dX6_hasAt_23 (by decide) (fun c_3 => ?_) (fun c_3 => ?_)
        · skip
          rw [qz_eq] at c_3
          refine lv_iinc (pc := 28) (v := nI (c + 1)) (lv' := [(4, .int (nI (c + 1))), (0, .ref h0), (1, .int (nI f)), (2, .ref h2), (3, .int (nI cnt))]) hx hb dX6_hasAt_28 hl (k := 0) rfl (by first | exact nI_add c 1 | rfl) (by decide) rfl (fun ls hl => ?_)
          refine lv_goto (pc := 31) (tgt := 3) hx hb dX6_hasAt_31 (by decide) ?_
          exact ih (c + 1) (by omega) (by intro j hj; rcases Nat.lt_or_ge j c with h | h; exact hA2 j h; rw [show j = c by omega]; assumption) (by omega) _ _ (hP.sub [0, 1, 2, 3] rfl) (hD.sub [0, 1, 2, 3] (by decide) rfl) hS ls (lv_sub hl [0, 1, 2, 3, 4] rfl)
        · skip
          rw [qz_eq] at c_3
          refine lv_iconst (pc := 26) (v := nI 0) hx hb dX6_hasAt_26 (by decide +kernel) ?_
          refine q_top (y := qb false) (by first | rfl | decide +kernel | (simp; done)) ?_
          have hq_4 : (false = qHas g g2 f cnt) := by
            symm; rw [qHas_f]; exact ⟨c, by omega, by assumption⟩
          exact hret (false) _ _ _ _ dX6_hasAt_27 hq_4 (hP.sub [0, 1, 2, 3] rfl) (hD.sub [0, 1, 2, 3] (by decide) rfl) hS
  exact LP3 _ 0 (by omega) (fun j hj => absurd hj (Nat.not_lt_zero _)) (Nat.lt_succ_self _) _ _ (hP.sub [0, 1, 2, 3] rfl) (hD.sub [0, 1, 2, 3] (by decide) rfl) hS ls (lv_sub hl [0, 1, 2, 3, 4] rfl)
theorem hdX6_same : yX6_same.cls ≠ "java/lang/invoke/MethodHandle" ∧ yX6_same.cls ≠ "java/lang/invoke/VarHandle" ∧ (parseMethodDescriptor yX6_same.desc).map (fun d => d.parameters.length) = some 1 := ⟨by decide +kernel, by decide +kernel, by decide +kernel⟩
theorem dX6_same_0 : decode cX6_same 0 = .ok (.aload_n 0, 1) := by decide +kernel
theorem dX6_same_1 : decode cX6_same 1 = .ok (.getfield 9, 3) := by decide +kernel
theorem dX6_same_4 : decode cX6_same 4 = .ok (.aload_n 1, 1) := by decide +kernel
theorem dX6_same_5 : decode cX6_same 5 = .ok (.getfield 9, 3) := by decide +kernel
theorem dX6_same_8 : decode cX6_same 8 = .ok (.if_icmp .ne 20, 3) := by decide +kernel
theorem dX6_same_11 : decode cX6_same 11 = .ok (.aload_n 0, 1) := by decide +kernel
theorem dX6_same_12 : decode cX6_same 12 = .ok (.iconst 0, 1) := by decide +kernel
theorem dX6_same_13 : decode cX6_same 13 = .ok (.aload_n 1, 1) := by decide +kernel
theorem dX6_same_14 : decode cX6_same 14 = .ok (.aload_n 0, 1) := by decide +kernel
theorem dX6_same_15 : decode cX6_same 15 = .ok (.getfield 9, 3) := by decide +kernel
theorem dX6_same_18 : decode cX6_same 18 = .ok (.invokevirtual 34, 3) := by decide +kernel
theorem dX6_same_21 : decode cX6_same 21 = .ok (.ifCond .eq 7, 3) := by decide +kernel
theorem dX6_same_24 : decode cX6_same 24 = .ok (.iconst 1, 1) := by decide +kernel
theorem dX6_same_25 : decode cX6_same 25 = .ok (.goto 4, 3) := by decide +kernel
theorem dX6_same_28 : decode cX6_same 28 = .ok (.iconst 0, 1) := by decide +kernel
theorem dX6_same_29 : decode cX6_same 29 = .ok (.ireturn, 1) := by decide +kernel
set_option maxHeartbeats 4000000 in
set_option maxRecDepth 100000 in
theorem ct_X6_same (ll : Launch) (D : va_G) (ta : Nat → ClassId) {G : (Nat → Prop) → State → Heap → Prop} (hGok : GOK G) (h0 : Nat) (b0 : Nat) (cap : Nat) (g : Nat → BitVec 8) (n : Nat) (h2 : Nat) (b2 : Nat) (cap2 : Nat) (g2 : Nat → BitVec 8) (n2 : Nat) (hn : n ≤ cap) (hc : cap < 2147483648) (hn2 : n2 ≤ cap2) (hc2 : cap2 < 2147483648) (sz : Nat) : CT ll yX6_same cX6_same 2 (some .boolean) ({ frames := 2, cells := 0, slots := 0, locals := 45 } : Room) D ta G [.ref h0, .ref h2] [(h0, oR b0 n), (b0, aZ ta cap g), (h2, oR b2 n2), (b2, aZ ta cap2 g2)] sz (S := Bool) (fun u => some (.int (qb u))) (fun u => (u = decide (qL g n = qL g2 n2))) (fun u => [(h0, oR b0 n), (b0, aZ ta cap g), (h2, oR b2 n2), (b2, aZ ta cap2 g2)]) 0 0 := by
  refine CT.of_z (r := fun u => u) rfl (by decide) (Nat.le_of_ble_eq_true rfl) ?_
  intro pp ee ss mm below meth kc A Q hx hb hml hown hin hts hK hA hsz hG hret H locs hP hD hS ls hl
  have hl : lv_has ls 2 [(0, .ref h0), (1, .ref h2)] := hl
  refine lv_aload_n (pc := 0) hx hb dX6_same_0 rfl (lv_at hl 0 rfl) ?_
  refine va_get (pc := 1) (D := D) (ci := 5) (v := .int (nI n)) (C := RX6) (T := TX6) (N := 2) hx hb hts iu6 hown hK hP 0 rfl rfl 1 (by decide) (hts _ tw_91) (fun _ h9 => h9) rfl dX6_same_1 ?_
  refine lv_aload_n (pc := 4) hx hb dX6_same_4 rfl (lv_at hl 1 rfl) ?_
  refine va_get (pc := 5) (D := D) (ci := 5) (v := .int (nI n2)) (C := RX6) (T := TX6) (N := 2) hx hb hts iu6 hown hK hP 2 rfl rfl 1 (by decide) (hts _ tw_91) (fun _ h9 => h9) rfl dX6_same_5 ?_
  refine lv_icmp_ne (pc := 8) (tgt := 28) hx hb dX6_same_8 (by decide) (fun c_1 => ?_) (fun c_1 => ?_)
  · skip
    rw [nI_eq (by omega) (by omega)] at c_1
    have c_1 := c_1
    have hres : ¬ qL g n = qL g2 n2 := by
      intro hh
      have := congrArg List.length hh
      rw [qL_len, qL_len] at this
      exact c_1 this
    refine lv_iconst (pc := 28) (v := nI 0) hx hb dX6_same_28 (by decide +kernel) ?_
    refine q_top (y := qb false) (by first | rfl | decide +kernel | (simp; done)) ?_
    have hq_2 : (false = decide (qL g n = qL g2 n2)) := by
      first | exact (decide_eq_true hres).symm | exact (decide_eq_false hres).symm
    exact hret (false) _ _ _ _ dX6_same_29 hq_2 (hP.sub [0, 1, 2, 3] rfl) (hD.sub [0, 1, 2, 3] (by decide) rfl) hS
  · skip
    rw [nI_eq (by omega) (by omega)] at c_1
    have c_1 := c_1
    refine lv_aload_n (pc := 11) hx hb dX6_same_11 rfl (lv_at hl 0 rfl) ?_
    refine lv_iconst (pc := 12) (v := nI 0) hx hb dX6_same_12 (by decide +kernel) ?_
    refine lv_aload_n (pc := 13) hx hb dX6_same_13 rfl (lv_at hl 1 rfl) ?_
    refine lv_aload_n (pc := 14) hx hb dX6_same_14 rfl (lv_at hl 0 rfl) ?_
    refine va_get (pc := 15) (D := D) (ci := 5) (v := .int (nI n)) (C := RX6) (T := TX6) (N := 2) hx hb hts iu6 hown hK hP 0 rfl rfl 1 (by decide) (hts _ tw_91) (fun _ h9 => h9) rfl dX6_same_15 ?_
    refine cs_V (pc := 18) (idx := 34) (n := 3) (wr := []) (As := [.int (nI 0), .ref h2, .int (nI n)]) (rest := []) (ci := 5) hx hb hml hown hts hGok hK hA hG hl.1 hP hD hS (ct_X6_hasAt ll D ta hGok h0 b0 cap g n h2 b2 cap2 g2 n2 0 n (by first | assumption | omega | rfl | decide) (by first | assumption | omega | rfl | decide) (by first | assumption | omega | rfl | decide) (by first | assumption | omega | rfl | decide) (by first | assumption | omega | rfl | decide) (by first | assumption | omega | rfl | decide) H.size) tw_688 tw_685 tw_686 tw_687 tw_66 hdX6_hasAt rfl ⟨rfl, rfl, Nat.le_of_ble_eq_true rfl, Nat.le_of_ble_eq_true rfl, Nat.le_of_ble_eq_true rfl, Nat.le_of_ble_eq_true rfl⟩ rfl rfl (q0 := 0) rfl [0, 1, 2, 3] [] rfl rfl (by decide) rfl (Nat.le_of_ble_eq_true rfl) dX6_same_18 (fun u H locs hq hP hD hS => ?_)
    generalize u = z_18 at hq hP hD ⊢
    have hq : (z_18 = qHas g g2 0 n) := hq
    have hz_18 := hq
    refine W.eq (g2 := F0 mm 21 ls [.int (qb z_18)]) rfl ?_
    have hP : va_P D vwCl [(h0, oR b0 n), (b0, aZ ta cap g), (h2, oR b2 n2), (b2, aZ ta cap2 g2)] H := hP
    have hD : va_D A [(h0, oR b0 n), (b0, aZ ta cap g), (h2, oR b2 n2), (b2, aZ ta cap2 g2)] := hD
    refine lv_if_eq (pc := 21) (tgt := 28) hx hb dX6_same_21 (by decide) (fun c_3 => ?_) (fun c_3 => ?_)
    · skip
      rw [q_beq] at c_3
      try rw [Bool.not_eq_false] at c_3
      have hres : ¬ qL g n = qL g2 n2 := by
        subst hz_18
        intro hh
        subst c_1
        rw [qL_ext] at hh
        rw [qHas_f] at c_3
        obtain ⟨j, hj, hne⟩ := c_3
        rw [Nat.zero_add] at hne
        exact hne (hh j hj)
      refine lv_iconst (pc := 28) (v := nI 0) hx hb dX6_same_28 (by decide +kernel) ?_
      refine q_top (y := qb false) (by first | rfl | decide +kernel | (simp; done)) ?_
      have hq_4 : (false = decide (qL g n = qL g2 n2)) := by
        first | exact (decide_eq_true hres).symm | exact (decide_eq_false hres).symm
      exact hret (false) _ _ _ _ dX6_same_29 hq_4 (hP.sub [0, 1, 2, 3] rfl) (hD.sub [0, 1, 2, 3] (by decide) rfl) hS
    · skip
      rw [q_beq] at c_3
      try rw [Bool.not_eq_false] at c_3
      have hres : qL g n = qL g2 n2 := by
        subst hz_18
        subst c_1
        rw [qL_ext]
        rw [qHas_t] at c_3
        intro j hj
        have := c_3 j hj
        rwa [Nat.zero_add] at this
      refine lv_iconst (pc := 24) (v := nI 1) hx hb dX6_same_24 (by decide +kernel) ?_
      refine lv_goto (pc := 25) (tgt := 29) hx hb dX6_same_25 (by decide) ?_
      refine q_top (y := qb true) (by first | rfl | decide +kernel | (simp; done)) ?_
      have hq_5 : (true = decide (qL g n = qL g2 n2)) := by
        first | exact (decide_eq_true hres).symm | exact (decide_eq_false hres).symm
      exact hret (true) _ _ _ _ dX6_same_29 hq_5 (hP.sub [0, 1, 2, 3] rfl) (hD.sub [0, 1, 2, 3] (by decide) rfl) hS
theorem hdX6_endsWithCode : yX6_endsWithCode.cls ≠ "java/lang/invoke/MethodHandle" ∧ yX6_endsWithCode.cls ≠ "java/lang/invoke/VarHandle" ∧ (parseMethodDescriptor yX6_endsWithCode.desc).map (fun d => d.parameters.length) = some 1 := ⟨by decide +kernel, by decide +kernel, by decide +kernel⟩
theorem dX6_endsWithCode_0 : decode cX6_endsWithCode 0 = .ok (.aload_n 0, 1) := by decide +kernel
theorem dX6_endsWithCode_1 : decode cX6_endsWithCode 1 = .ok (.getfield 9, 3) := by decide +kernel
theorem dX6_endsWithCode_4 : decode cX6_endsWithCode 4 = .ok (.bipush 8, 2) := by decide +kernel
theorem dX6_endsWithCode_6 : decode cX6_endsWithCode 6 = .ok (.if_icmp .lt 33, 3) := by decide +kernel
theorem dX6_endsWithCode_9 : decode cX6_endsWithCode 9 = .ok (.aload_n 1, 1) := by decide +kernel
theorem dX6_endsWithCode_10 : decode cX6_endsWithCode 10 = .ok (.getfield 9, 3) := by decide +kernel
theorem dX6_endsWithCode_13 : decode cX6_endsWithCode 13 = .ok (.bipush 8, 2) := by decide +kernel
theorem dX6_endsWithCode_15 : decode cX6_endsWithCode 15 = .ok (.if_icmp .lt 24, 3) := by decide +kernel
theorem dX6_endsWithCode_18 : decode cX6_endsWithCode 18 = .ok (.aload_n 0, 1) := by decide +kernel
theorem dX6_endsWithCode_19 : decode cX6_endsWithCode 19 = .ok (.aload_n 0, 1) := by decide +kernel
theorem dX6_endsWithCode_20 : decode cX6_endsWithCode 20 = .ok (.getfield 9, 3) := by decide +kernel
theorem dX6_endsWithCode_23 : decode cX6_endsWithCode 23 = .ok (.bipush 8, 2) := by decide +kernel
theorem dX6_endsWithCode_25 : decode cX6_endsWithCode 25 = .ok (.isub, 1) := by decide +kernel
theorem dX6_endsWithCode_26 : decode cX6_endsWithCode 26 = .ok (.aload_n 1, 1) := by decide +kernel
theorem dX6_endsWithCode_27 : decode cX6_endsWithCode 27 = .ok (.bipush 8, 2) := by decide +kernel
theorem dX6_endsWithCode_29 : decode cX6_endsWithCode 29 = .ok (.invokevirtual 34, 3) := by decide +kernel
theorem dX6_endsWithCode_32 : decode cX6_endsWithCode 32 = .ok (.ifCond .eq 7, 3) := by decide +kernel
theorem dX6_endsWithCode_35 : decode cX6_endsWithCode 35 = .ok (.iconst 1, 1) := by decide +kernel
theorem dX6_endsWithCode_36 : decode cX6_endsWithCode 36 = .ok (.goto 4, 3) := by decide +kernel
theorem dX6_endsWithCode_39 : decode cX6_endsWithCode 39 = .ok (.iconst 0, 1) := by decide +kernel
theorem dX6_endsWithCode_40 : decode cX6_endsWithCode 40 = .ok (.ireturn, 1) := by decide +kernel
set_option maxHeartbeats 4000000 in
set_option maxRecDepth 100000 in
theorem ct_X6_endsWithCode (ll : Launch) (D : va_G) (ta : Nat → ClassId) {G : (Nat → Prop) → State → Heap → Prop} (hGok : GOK G) (h0 : Nat) (b0 : Nat) (cap : Nat) (g : Nat → BitVec 8) (n : Nat) (h2 : Nat) (b2 : Nat) (cap2 : Nat) (g2 : Nat → BitVec 8) (n2 : Nat) (hn : n ≤ cap) (hc : cap < 2147483648) (hn2 : n2 ≤ cap2) (hc2 : cap2 < 2147483648) (sz : Nat) : CT ll yX6_endsWithCode cX6_endsWithCode 2 (some .boolean) ({ frames := 2, cells := 0, slots := 0, locals := 45 } : Room) D ta G [.ref h0, .ref h2] [(h0, oR b0 n), (b0, aZ ta cap g), (h2, oR b2 n2), (b2, aZ ta cap2 g2)] sz (S := Bool) (fun u => some (.int (qb u))) (fun u => (u = decide (8 ≤ n ∧ 8 ≤ n2 ∧ (qL g n).drop (n - 8) = (qL g2 n2).take 8))) (fun u => [(h0, oR b0 n), (b0, aZ ta cap g), (h2, oR b2 n2), (b2, aZ ta cap2 g2)]) 0 0 := by
  refine CT.of_z (r := fun u => u) rfl (by decide) (Nat.le_of_ble_eq_true rfl) ?_
  intro pp ee ss mm below meth kc A Q hx hb hml hown hin hts hK hA hsz hG hret H locs hP hD hS ls hl
  have hl : lv_has ls 2 [(0, .ref h0), (1, .ref h2)] := hl
  refine lv_aload_n (pc := 0) hx hb dX6_endsWithCode_0 rfl (lv_at hl 0 rfl) ?_
  refine va_get (pc := 1) (D := D) (ci := 5) (v := .int (nI n)) (C := RX6) (T := TX6) (N := 2) hx hb hts iu6 hown hK hP 0 rfl rfl 1 (by decide) (hts _ tw_91) (fun _ h9 => h9) rfl dX6_endsWithCode_1 ?_
  refine lv_bipush (pc := 4) (v := nI 8) hx hb dX6_endsWithCode_4 (by decide +kernel) ?_
  refine lv_icmp_lt (pc := 6) (tgt := 39) hx hb dX6_endsWithCode_6 (by decide) (fun c_1 => ?_) (fun c_1 => ?_)
  · skip
    rw [nI_ltI (by omega) (by omega)] at c_1
    have hres : ¬ (8 ≤ n ∧ 8 ≤ n2 ∧ (qL g n).drop (n - 8) = (qL g2 n2).take 8) := fun h => by omega
    refine lv_iconst (pc := 39) (v := nI 0) hx hb dX6_endsWithCode_39 (by decide +kernel) ?_
    refine q_top (y := qb false) (by first | rfl | decide +kernel | (simp; done)) ?_
    have hq_2 : (false = decide (8 ≤ n ∧ 8 ≤ n2 ∧ (qL g n).drop (n - 8) = (qL g2 n2).take 8)) := by
      first | exact (decide_eq_true hres).symm | exact (decide_eq_false hres).symm
    exact hret (false) _ _ _ _ dX6_endsWithCode_40 hq_2 (hP.sub [0, 1, 2, 3] rfl) (hD.sub [0, 1, 2, 3] (by decide) rfl) hS
  · skip
    rw [nI_ltI (by omega) (by omega)] at c_1
    refine lv_aload_n (pc := 9) hx hb dX6_endsWithCode_9 rfl (lv_at hl 1 rfl) ?_
    refine va_get (pc := 10) (D := D) (ci := 5) (v := .int (nI n2)) (C := RX6) (T := TX6) (N := 2) hx hb hts iu6 hown hK hP 2 rfl rfl 1 (by decide) (hts _ tw_91) (fun _ h9 => h9) rfl dX6_endsWithCode_10 ?_
    refine lv_bipush (pc := 13) (v := nI 8) hx hb dX6_endsWithCode_13 (by decide +kernel) ?_
    refine lv_icmp_lt (pc := 15) (tgt := 39) hx hb dX6_endsWithCode_15 (by decide) (fun c_3 => ?_) (fun c_3 => ?_)
    · skip
      rw [nI_ltI (by omega) (by omega)] at c_3
      have hres : ¬ (8 ≤ n ∧ 8 ≤ n2 ∧ (qL g n).drop (n - 8) = (qL g2 n2).take 8) := fun h => by omega
      refine lv_iconst (pc := 39) (v := nI 0) hx hb dX6_endsWithCode_39 (by decide +kernel) ?_
      refine q_top (y := qb false) (by first | rfl | decide +kernel | (simp; done)) ?_
      have hq_4 : (false = decide (8 ≤ n ∧ 8 ≤ n2 ∧ (qL g n).drop (n - 8) = (qL g2 n2).take 8)) := by
        first | exact (decide_eq_true hres).symm | exact (decide_eq_false hres).symm
      exact hret (false) _ _ _ _ dX6_endsWithCode_40 hq_4 (hP.sub [0, 1, 2, 3] rfl) (hD.sub [0, 1, 2, 3] (by decide) rfl) hS
    · skip
      rw [nI_ltI (by omega) (by omega)] at c_3
      refine lv_aload_n (pc := 18) hx hb dX6_endsWithCode_18 rfl (lv_at hl 0 rfl) ?_
      refine lv_aload_n (pc := 19) hx hb dX6_endsWithCode_19 rfl (lv_at hl 0 rfl) ?_
      refine va_get (pc := 20) (D := D) (ci := 5) (v := .int (nI n)) (C := RX6) (T := TX6) (N := 2) hx hb hts iu6 hown hK hP 0 rfl rfl 1 (by decide) (hts _ tw_91) (fun _ h9 => h9) rfl dX6_endsWithCode_20 ?_
      refine lv_bipush (pc := 23) (v := nI 8) hx hb dX6_endsWithCode_23 (by decide +kernel) ?_
      refine lv_isub (pc := 25) hx hb dX6_endsWithCode_25 ?_
      refine q_top (y := nI (n - 8)) (pk_sub (a := n) (b := 8) (by omega)) ?_
      refine lv_aload_n (pc := 26) hx hb dX6_endsWithCode_26 rfl (lv_at hl 1 rfl) ?_
      refine lv_bipush (pc := 27) (v := nI 8) hx hb dX6_endsWithCode_27 (by decide +kernel) ?_
      refine cs_V (pc := 29) (idx := 34) (n := 3) (wr := []) (As := [.int (nI (n - 8)), .ref h2, .int (nI 8)]) (rest := []) (ci := 5) hx hb hml hown hts hGok hK hA hG hl.1 hP hD hS (ct_X6_hasAt ll D ta hGok h0 b0 cap g n h2 b2 cap2 g2 n2 (n - 8) 8 (by first | assumption | omega | rfl | decide) (by first | assumption | omega | rfl | decide) (by first | assumption | omega | rfl | decide) (by first | assumption | omega | rfl | decide) (by first | assumption | omega | rfl | decide) (by first | assumption | omega | rfl | decide) H.size) tw_688 tw_685 tw_686 tw_687 tw_66 hdX6_hasAt rfl ⟨rfl, rfl, Nat.le_of_ble_eq_true rfl, Nat.le_of_ble_eq_true rfl, Nat.le_of_ble_eq_true rfl, Nat.le_of_ble_eq_true rfl⟩ rfl rfl (q0 := 0) rfl [0, 1, 2, 3] [] rfl rfl (by decide) rfl (Nat.le_of_ble_eq_true rfl) dX6_endsWithCode_29 (fun u H locs hq hP hD hS => ?_)
      generalize u = z_29 at hq hP hD ⊢
      have hq : (z_29 = qHas g g2 (n - 8) 8) := hq
      have hz_29 := hq
      refine W.eq (g2 := F0 mm 32 ls [.int (qb z_29)]) rfl ?_
      have hP : va_P D vwCl [(h0, oR b0 n), (b0, aZ ta cap g), (h2, oR b2 n2), (b2, aZ ta cap2 g2)] H := hP
      have hD : va_D A [(h0, oR b0 n), (b0, aZ ta cap g), (h2, oR b2 n2), (b2, aZ ta cap2 g2)] := hD
      refine lv_if_eq (pc := 32) (tgt := 39) hx hb dX6_endsWithCode_32 (by decide) (fun c_5 => ?_) (fun c_5 => ?_)
      · skip
        rw [q_beq] at c_5
        try rw [Bool.not_eq_false] at c_5
        have hres : ¬ (8 ≤ n ∧ 8 ≤ n2 ∧ (qL g n).drop (n - 8) = (qL g2 n2).take 8) := by
          rw [qL_tail (by omega) (by omega)]
          intro hh
          subst hz_29
          rw [qHas_f] at c_5
          obtain ⟨j, hj, hne⟩ := c_5
          exact hne (hh.2.2 j hj)
        refine lv_iconst (pc := 39) (v := nI 0) hx hb dX6_endsWithCode_39 (by decide +kernel) ?_
        refine q_top (y := qb false) (by first | rfl | decide +kernel | (simp; done)) ?_
        have hq_6 : (false = decide (8 ≤ n ∧ 8 ≤ n2 ∧ (qL g n).drop (n - 8) = (qL g2 n2).take 8)) := by
          first | exact (decide_eq_true hres).symm | exact (decide_eq_false hres).symm
        exact hret (false) _ _ _ _ dX6_endsWithCode_40 hq_6 (hP.sub [0, 1, 2, 3] rfl) (hD.sub [0, 1, 2, 3] (by decide) rfl) hS
      · skip
        rw [q_beq] at c_5
        try rw [Bool.not_eq_false] at c_5
        have hres : 8 ≤ n ∧ 8 ≤ n2 ∧ (qL g n).drop (n - 8) = (qL g2 n2).take 8 := by
          rw [qL_tail (by omega) (by omega)]
          subst hz_29
          exact ⟨by omega, by omega, qHas_t.mp c_5⟩
        refine lv_iconst (pc := 35) (v := nI 1) hx hb dX6_endsWithCode_35 (by decide +kernel) ?_
        refine lv_goto (pc := 36) (tgt := 40) hx hb dX6_endsWithCode_36 (by decide) ?_
        refine q_top (y := qb true) (by first | rfl | decide +kernel | (simp; done)) ?_
        have hq_7 : (true = decide (8 ≤ n ∧ 8 ≤ n2 ∧ (qL g n).drop (n - 8) = (qL g2 n2).take 8)) := by
          first | exact (decide_eq_true hres).symm | exact (decide_eq_false hres).symm
        exact hret (true) _ _ _ _ dX6_endsWithCode_40 hq_7 (hP.sub [0, 1, 2, 3] rfl) (hD.sub [0, 1, 2, 3] (by decide) rfl) hS
