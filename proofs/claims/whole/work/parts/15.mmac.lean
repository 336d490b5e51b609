set_option maxHeartbeats 4000000 in
set_option maxRecDepth 100000 in
theorem ct_X10_des_L (ll : Launch) (D : va_G) (ta : Nat → ClassId) {G : (Nat → Prop) → State → Heap → Prop} (hGok : GOK G) (h0 : Nat) (a : Nat → Nat) (ar : Nat) (mn : Nat) (tp : Nat) (osz : Nat) (lsz : Nat) (ns : Nat) (ct : Nat) (hb2 : Nat) (at0 : Nat) (capb : Nat) (gb : Nat → BitVec 8) (hk : Nat) (fr : Nat) (capk : Nat) (gk : Nat → BitVec 8) (bi : Nat → Bool) (tu : Nat → Bool) (cd : Nat → Bool) (sk : Nat → Bool) (hf : Nat → Bool) (wd : Nat → Bool) (β : Bool) (hat : at0 + 8 ≤ capb) (hcb : capb < 2147483648) (hck : capk < 2147483648) (hf8 : fr + 8 ≤ capk) (sz : Nat) : CT ll yX10_des cX10_des 13 none ({ frames := 1, cells := 0, slots := 0, locals := 28 } : Room) D ta G [.ref h0, .ref hb2, .int (nI at0), .ref hk, .int (nI fr), .int (qb β)] [(h0, oM a ar mn tp osz lsz ns ct), (a 0, aK ta 64 tIP), (a 1, aK ta 48 tSPR), (a 2, aK ta 32 tMIX), (a 3, aK ta 56 tCH), (a 4, aK ta 48 tSEC), (a 5, aK ta 512 tSBX), (a 10, aB ta 64 bi), (a 11, aB ta 64 tu), (a 12, aB ta 56 cd), (a 13, aB ta 768 sk), (a 14, aB ta 32 hf), (a 15, aB ta 48 wd), (hb2, aS ta capb gb), (hk, aS ta capk gk)] sz (S := (Nat → BitVec 8) × (Nat → Bool) × (Nat → Bool) × (Nat → Bool) × (Nat → Bool) × (Nat → Bool) × (Nat → Bool)) (fun _ => none) (fun u => (seg u.1 at0 8 = desL (seg gk fr 8) β (seg gb at0 8)) ∧ (∀ j, (j < at0 ∨ at0 + 8 ≤ j) → u.1 j = gb j)) (fun u => [(h0, oM a ar mn tp osz lsz ns ct), (a 0, aK ta 64 tIP), (a 1, aK ta 48 tSPR), (a 2, aK ta 32 tMIX), (a 3, aK ta 56 tCH), (a 4, aK ta 48 tSEC), (a 5, aK ta 512 tSBX), (a 10, aB ta 64 u.2.1), (a 11, aB ta 64 u.2.2.1), (a 12, aB ta 56 u.2.2.2.1), (a 13, aB ta 768 u.2.2.2.2.1), (a 14, aB ta 32 u.2.2.2.2.2.1), (a 15, aB ta 48 u.2.2.2.2.2.2), (hb2, aS ta capb u.1), (hk, aS ta capk gk)]) 0 0 := by
  exact CT.mono (ct_X10_des ll D ta hGok h0 a ar mn tp osz lsz ns ct hb2 at0 capb gb hk fr capk gk bi tu cd sk hf wd β hat hcb hck hf8 sz) (fun u hu => ⟨des_seg hu.1, hu.2⟩)
set_option maxHeartbeats 4000000 in
set_option maxRecDepth 100000 in
theorem ct_X10_des3_L (ll : Launch) (D : va_G) (ta : Nat → ClassId) {G : (Nat → Prop) → State → Heap → Prop} (hGok : GOK G) (h0 : Nat) (a : Nat → Nat) (ar : Nat) (mn : Nat) (tp : Nat) (osz : Nat) (lsz : Nat) (ns : Nat) (ct : Nat) (hb2 : Nat) (at0 : Nat) (capb : Nat) (gb : Nat → BitVec 8) (hk : Nat) (fr : Nat) (capk : Nat) (gk : Nat → BitVec 8) (bi : Nat → Bool) (tu : Nat → Bool) (cd : Nat → Bool) (sk : Nat → Bool) (hf : Nat → Bool) (wd : Nat → Bool) (β : Bool) (hat : at0 + 8 ≤ capb) (hcb : capb < 2147483648) (hck : capk < 2147483648) (hf16 : fr + 16 ≤ capk) (sz : Nat) : CT ll yX10_des3 cX10_des3 6 none ({ frames := 2, cells := 0, slots := 0, locals := 60 } : Room) D ta G [.ref h0, .ref hb2, .int (nI at0), .ref hk, .int (nI fr), .int (qb β)] [(h0, oM a ar mn tp osz lsz ns ct), (a 0, aK ta 64 tIP), (a 1, aK ta 48 tSPR), (a 2, aK ta 32 tMIX), (a 3, aK ta 56 tCH), (a 4, aK ta 48 tSEC), (a 5, aK ta 512 tSBX), (a 10, aB ta 64 bi), (a 11, aB ta 64 tu), (a 12, aB ta 56 cd), (a 13, aB ta 768 sk), (a 14, aB ta 32 hf), (a 15, aB ta 48 wd), (hb2, aS ta capb gb), (hk, aS ta capk gk)] sz (S := (Nat → BitVec 8) × (Nat → Bool) × (Nat → Bool) × (Nat → Bool) × (Nat → Bool) × (Nat → Bool) × (Nat → Bool)) (fun _ => none) (fun u => (seg u.1 at0 8 = tdesL (seg gk fr 16) β (seg gb at0 8)) ∧ (∀ j, (j < at0 ∨ at0 + 8 ≤ j) → u.1 j = gb j)) (fun u => [(h0, oM a ar mn tp osz lsz ns ct), (a 0, aK ta 64 tIP), (a 1, aK ta 48 tSPR), (a 2, aK ta 32 tMIX), (a 3, aK ta 56 tCH), (a 4, aK ta 48 tSEC), (a 5, aK ta 512 tSBX), (a 10, aB ta 64 u.2.1), (a 11, aB ta 64 u.2.2.1), (a 12, aB ta 56 u.2.2.2.1), (a 13, aB ta 768 u.2.2.2.2.1), (a 14, aB ta 32 u.2.2.2.2.2.1), (a 15, aB ta 48 u.2.2.2.2.2.2), (hb2, aS ta capb u.1), (hk, aS ta capk gk)]) 0 0 := by
  exact CT.mono (ct_X10_des3 ll D ta hGok h0 a ar mn tp osz lsz ns ct hb2 at0 capb gb hk fr capk gk bi tu cd sk hf wd β hat hcb hck hf16 sz) (fun u hu => ⟨tdes_seg hu.1, hu.2⟩)
theorem hdX10_fresh : yX10_fresh.cls ≠ "java/lang/invoke/MethodHandle" ∧ yX10_fresh.cls ≠ "java/lang/invoke/VarHandle" ∧ (parseMethodDescriptor yX10_fresh.desc).map (fun d => d.parameters.length) = some 0 := ⟨by decide +kernel, by decide +kernel, by decide +kernel⟩
theorem dX10_fresh_0 : decode cX10_fresh 0 = .ok (.aload_n 0, 1) := by decide +kernel
theorem dX10_fresh_1 : decode cX10_fresh 1 = .ok (.iconst 0, 1) := by decide +kernel
theorem dX10_fresh_2 : decode cX10_fresh 2 = .ok (.putfield 81, 3) := by decide +kernel
theorem dX10_fresh_5 : decode cX10_fresh 5 = .ok (.return_, 1) := by decide +kernel
set_option maxHeartbeats 4000000 in
set_option maxRecDepth 100000 in
theorem ct_X10_fresh (ll : Launch) (D : va_G) (ta : Nat → ClassId) {G : (Nat → Prop) → State → Heap → Prop} (hGok : GOK G) (h0 : Nat) (a : Nat → Nat) (ar : Nat) (mn : Nat) (tp : Nat) (osz : Nat) (lsz : Nat) (ns : Nat) (ct : Nat)  (sz : Nat) : CT ll yX10_fresh cX10_fresh 1 none ({ frames := 0, cells := 0, slots := 0, locals := 0 } : Room) D ta G [.ref h0] [(h0, oM a ar mn tp osz lsz ns ct)] sz (S := Unit) (fun _ => none) (fun u => True) (fun u => [(h0, oM a ar 0 tp osz lsz ns ct)]) 0 0 := by
  refine CT.of_v rfl (by decide) (Nat.le_of_ble_eq_true rfl) ?_
  intro pp ee ss mm below meth kc A Q hx hb hml hown hin hts hK hA hsz hG hret H locs hP hD hS ls hl
  have hl : lv_has ls 1 [(0, .ref h0)] := hl
  refine lv_aload_n (pc := 0) hx hb dX10_fresh_0 rfl (lv_at hl 0 rfl) ?_
  refine lv_iconst (pc := 1) (v := nI 0) hx hb dX10_fresh_1 (by decide +kernel) ?_
  refine va_put (pc := 2) (D := D) (ci := 8) (v := .int (nI 0)) (ty := .int) (C := RX10) (T := TX10) (N := 57) hx hb hts iu10 tyX10 tyX10_ok nmX10 hown hK hP hD hS 0 rfl rfl 23 (by decide) (hts _ tw_1068) (fun _ h9 => h9) rfl (by decide +kernel) rfl rfl (Nat.le_of_ble_eq_true rfl) dX10_fresh_2 (fun H locs hP hD hS => ?_)
  have hP : va_P D vwCl [(h0, oM a ar 0 tp osz lsz ns ct)] H := hP
  have hD : va_D A [(h0, oM a ar 0 tp osz lsz ns ct)] := hD
  have hq_1 : True := trivial
  exact hret () _ _ _ _ dX10_fresh_5 hq_1 (hP.sub [0] rfl) (hD.sub [0] (by decide) rfl) hS
theorem hdX10_add : yX10_add.cls ≠ "java/lang/invoke/MethodHandle" ∧ yX10_add.cls ≠ "java/lang/invoke/VarHandle" ∧ (parseMethodDescriptor yX10_add.desc).map (fun d => d.parameters.length) = some 1 := ⟨by decide +kernel, by decide +kernel, by decide +kernel⟩
theorem dX10_add_0 : decode cX10_add 0 = .ok (.aload_n 0, 1) := by decide +kernel
theorem dX10_add_1 : decode cX10_add 1 = .ok (.getfield 84, 3) := by decide +kernel
theorem dX10_add_4 : decode cX10_add 4 = .ok (.aload_n 0, 1) := by decide +kernel
theorem dX10_add_5 : decode cX10_add 5 = .ok (.getfield 81, 3) := by decide +kernel
theorem dX10_add_8 : decode cX10_add 8 = .ok (.iload_n 1, 1) := by decide +kernel
theorem dX10_add_9 : decode cX10_add 9 = .ok (.i2b, 1) := by decide +kernel
theorem dX10_add_10 : decode cX10_add 10 = .ok (.bastore, 1) := by decide +kernel
theorem dX10_add_11 : decode cX10_add 11 = .ok (.aload_n 0, 1) := by decide +kernel
theorem dX10_add_12 : decode cX10_add 12 = .ok (.dup, 1) := by decide +kernel
theorem dX10_add_13 : decode cX10_add 13 = .ok (.getfield 81, 3) := by decide +kernel
theorem dX10_add_16 : decode cX10_add 16 = .ok (.iconst 1, 1) := by decide +kernel
theorem dX10_add_17 : decode cX10_add 17 = .ok (.iadd, 1) := by decide +kernel
theorem dX10_add_18 : decode cX10_add 18 = .ok (.putfield 81, 3) := by decide +kernel
theorem dX10_add_21 : decode cX10_add 21 = .ok (.return_, 1) := by decide +kernel
set_option maxHeartbeats 4000000 in
set_option maxRecDepth 100000 in
theorem ct_X10_add (ll : Launch) (D : va_G) (ta : Nat → ClassId) {G : (Nat → Prop) → State → Heap → Prop} (hGok : GOK G) (h0 : Nat) (a : Nat → Nat) (ar : Nat) (mn : Nat) (tp : Nat) (osz : Nat) (lsz : Nat) (ns : Nat) (ct : Nat) (gm : Nat → BitVec 8) (x : Int32) (hmn : mn < 700) (sz : Nat) : CT ll yX10_add cX10_add 2 none ({ frames := 0, cells := 0, slots := 0, locals := 0 } : Room) D ta G [.ref h0, .int x] [(h0, oM a ar mn tp osz lsz ns ct), (a 22, aS ta 700 gm)] sz (S := (Nat → BitVec 8)) (fun _ => none) (fun u => (qL u (mn + 1) = qL gm mn ++ [qlo x])) (fun u => [(h0, oM a ar (mn + 1) tp osz lsz ns ct), (a 22, aS ta 700 u)]) 0 0 := by
  refine CT.of_v rfl (by decide) (Nat.le_of_ble_eq_true rfl) ?_
  intro pp ee ss mm below meth kc A Q hx hb hml hown hin hts hK hA hsz hG hret H locs hP hD hS ls hl
  have hl : lv_has ls 2 [(0, .ref h0), (1, .int x)] := hl
  refine lv_aload_n (pc := 0) hx hb dX10_add_0 rfl (lv_at hl 0 rfl) ?_
  refine va_get (pc := 1) (D := D) (ci := 8) (v := .ref (a 22)) (C := RX10) (T := TX10) (N := 57) hx hb hts iu10 hown hK hP 0 rfl rfl 22 (by decide) (hts _ tw_1067) (fun _ h9 => h9) rfl dX10_add_1 ?_
  refine lv_aload_n (pc := 4) hx hb dX10_add_4 rfl (lv_at hl 0 rfl) ?_
  refine va_get (pc := 5) (D := D) (ci := 8) (v := .int (nI mn)) (C := RX10) (T := TX10) (N := 57) hx hb hts iu10 hown hK hP 0 rfl rfl 23 (by decide) (hts _ tw_1068) (fun _ h9 => h9) rfl dX10_add_5 ?_
  refine lv_iload_n (pc := 8) hx hb dX10_add_8 rfl (lv_at hl 1 rfl) ?_
  refine lv_i2b (pc := 9) (v := qs (qlo x)) hx hb dX10_add_9 (q_i2b _) ?_
  refine q_bastS (pc := 10) hx hb hK hP hD hS 1 2 rfl rfl (k := mn) rfl (by omega) (by omega) (b := qlo x) (qlo_qs _) dX10_add_10 (fun H locs hP hD hS => ?_)
  have hP : va_P D vwCl [(h0, oM a ar mn tp osz lsz ns ct), (a 22, aS ta 700 (qU gm mn (qlo x)))] H := hP
  have hD : va_D A [(h0, oM a ar mn tp osz lsz ns ct), (a 22, aS ta 700 (qU gm mn (qlo x)))] := hD
  refine lv_aload_n (pc := 11) hx hb dX10_add_11 rfl (lv_at hl 0 rfl) ?_
  refine lv_dup (pc := 12) hx hb dX10_add_12 rfl ?_
  refine va_get (pc := 13) (D := D) (ci := 8) (v := .int (nI mn)) (C := RX10) (T := TX10) (N := 57) hx hb hts iu10 hown hK hP 0 rfl rfl 23 (by decide) (hts _ tw_1068) (fun _ h9 => h9) rfl dX10_add_13 ?_
  refine lv_iconst (pc := 16) (v := nI 1) hx hb dX10_add_16 (by decide +kernel) ?_
  refine lv_iadd (pc := 17) hx hb dX10_add_17 ?_
  refine q_top (y := nI (mn + 1)) (nI_add mn 1) ?_
  refine va_put (pc := 18) (D := D) (ci := 8) (v := .int (nI (mn + 1))) (ty := .int) (C := RX10) (T := TX10) (N := 57) hx hb hts iu10 tyX10 tyX10_ok nmX10 hown hK hP hD hS 0 rfl rfl 23 (by decide) (hts _ tw_1068) (fun _ h9 => h9) rfl (by decide +kernel) rfl rfl (Nat.le_of_ble_eq_true rfl) dX10_add_18 (fun H locs hP hD hS => ?_)
  have hP : va_P D vwCl [(h0, oM a ar (mn + 1) tp osz lsz ns ct), (a 22, aS ta 700 (qU gm mn (qlo x)))] H := hP
  have hD : va_D A [(h0, oM a ar (mn + 1) tp osz lsz ns ct), (a 22, aS ta 700 (qU gm mn (qlo x)))] := hD
  have hq_1 : (qL (qU gm mn (qlo x)) (mn + 1) = qL gm mn ++ [qlo x]) := by
    exact qL_snoc
  exact hret (qU gm mn (qlo x)) _ _ _ _ dX10_add_21 hq_1 (hP.sub [0, 1] rfl) (hD.sub [0, 1] (by decide) rfl) hS
theorem hdX10_addAll : yX10_addAll.cls ≠ "java/lang/invoke/MethodHandle" ∧ yX10_addAll.cls ≠ "java/lang/invoke/VarHandle" ∧ (parseMethodDescriptor yX10_addAll.desc).map (fun d => d.parameters.length) = some 3 := ⟨by decide +kernel, by decide +kernel, by decide +kernel⟩
theorem dX10_addAll_0 : decode cX10_addAll 0 = .ok (.iconst 0, 1) := by decide +kernel
theorem dX10_addAll_1 : decode cX10_addAll 1 = .ok (.istore 4, 2) := by decide +kernel
theorem dX10_addAll_3 : decode cX10_addAll 3 = .ok (.iload 4, 2) := by decide +kernel
theorem dX10_addAll_5 : decode cX10_addAll 5 = .ok (.iload_n 3, 1) := by decide +kernel
theorem dX10_addAll_6 : decode cX10_addAll 6 = .ok (.if_icmp .ge 19, 3) := by decide +kernel
theorem dX10_addAll_9 : decode cX10_addAll 9 = .ok (.aload_n 0, 1) := by decide +kernel
theorem dX10_addAll_10 : decode cX10_addAll 10 = .ok (.aload_n 1, 1) := by decide +kernel
theorem dX10_addAll_11 : decode cX10_addAll 11 = .ok (.iload_n 2, 1) := by decide +kernel
theorem dX10_addAll_12 : decode cX10_addAll 12 = .ok (.iload 4, 2) := by decide +kernel
theorem dX10_addAll_14 : decode cX10_addAll 14 = .ok (.iadd, 1) := by decide +kernel
theorem dX10_addAll_15 : decode cX10_addAll 15 = .ok (.baload, 1) := by decide +kernel
theorem dX10_addAll_16 : decode cX10_addAll 16 = .ok (.invokevirtual 87, 3) := by decide +kernel
theorem dX10_addAll_19 : decode cX10_addAll 19 = .ok (.iinc 4 1, 3) := by decide +kernel
theorem dX10_addAll_22 : decode cX10_addAll 22 = .ok (.goto (-19), 3) := by decide +kernel
theorem dX10_addAll_25 : decode cX10_addAll 25 = .ok (.return_, 1) := by decide +kernel
set_option maxHeartbeats 4000000 in
set_option maxRecDepth 100000 in
theorem ct_X10_addAll (ll : Launch) (D : va_G) (ta : Nat → ClassId) {G : (Nat → Prop) → State → Heap → Prop} (hGok : GOK G) (h0 : Nat) (a : Nat → Nat) (ar : Nat) (mn : Nat) (tp : Nat) (osz : Nat) (lsz : Nat) (ns : Nat) (ct : Nat) (gm : Nat → BitVec 8) (hb2 : Nat) (fr : Nat) (capb : Nat) (gb : Nat → BitVec 8) (n : Nat) (hmn : mn + n ≤ 700) (hb9 : fr + n ≤ capb) (hcb : capb < 2147483648) (sz : Nat) : CT ll yX10_addAll cX10_addAll 5 none ({ frames := 1, cells := 0, slots := 0, locals := 21 } : Room) D ta G [.ref h0, .ref hb2, .int (nI fr), .int (nI n)] [(h0, oM a ar mn tp osz lsz ns ct), (a 22, aS ta 700 gm), (hb2, aS ta capb gb)] sz (S := (Nat → BitVec 8)) (fun _ => none) (fun u => (qL u (mn + n) = qL gm mn ++ seg gb fr n)) (fun u => [(h0, oM a ar (mn + n) tp osz lsz ns ct), (a 22, aS ta 700 u), (hb2, aS ta capb gb)]) 0 0 := by
  refine CT.of_v rfl (by decide) (Nat.le_of_ble_eq_true rfl) ?_
  intro pp ee ss mm below meth kc A Q hx hb hml hown hin hts hK hA hsz hG hret H locs hP hD hS ls hl
  have hl : lv_has ls 5 [(0, .ref h0), (1, .ref hb2), (2, .int (nI fr)), (3, .int (nI n))] := hl
  refine lv_iconst (pc := 0) (v := nI 0) hx hb dX10_addAll_0 (by decide +kernel) ?_
  refine lv_istore (pc := 1) (lv' := [(4, .int (nI 0)), (0, .ref h0), (1, .ref hb2), (2, .int (nI fr)), (3, .int (nI n))]) hx hb dX10_addAll_1 hl (by decide) rfl (fun ls hl => ?_)
  have LP3 : ∀ (nn3 : Nat) (c : Nat) (m1 : Nat) (g' : Nat → BitVec 8), (c ≤ n) → (m1 = mn + c) → (qL g' m1 = qL gm mn ++ seg gb fr c) → (n - c < nn3) → ∀ (H : Heap) (locs : List Loc), va_P D vwCl [(h0, oM a ar m1 tp osz lsz ns ct), (a 22, aS ta 700 g'), (hb2, aS ta capb gb)] H → va_D A [(h0, oM a ar m1 tp osz lsz ns ct), (a 22, aS ta 700 g'), (hb2, aS ta capb gb)] → va_S A ss.heap H locs → ∀ ls : Array Slot, lv_has ls 5 [(4, .int (nI c)), (0, .ref h0), (1, .ref hb2), (2, .int (nI fr)), (3, .int (nI n))] → W pp ll ee ({ frames := 1, cells := 0, slots := 0, locals := 21 } : Room) ss mm (([.ref h0, .ref hb2, .int (nI fr), .int (nI n)] : List Value).toArray) below meth kc H locs 0 0 Q (F0 mm 3 ls []) := by
    intro nn3
    induction nn3 with
    | zero => intro c m1 g' hcc hm hLL hmu; exact absurd hmu (Nat.not_lt_zero _)
    | succ nn3 ih3 =>
      intro c m1 g' hcc hm hLL hmu3 H locs hP hD hS ls hl
      refine lv_iload (pc := 3) hx hb dX10_addAll_3 (lv_at hl 0 rfl) ?_
      refine lv_iload_n (pc := 5) hx hb dX10_addAll_5 rfl (lv_at hl 4 rfl) ?_
      refine lv_icmp_ge (pc := 6) (tgt := 25) hx hb dX10_addAll_6 (by decide) (fun c_1 => ?_) (fun c_1 => ?_)
      · skip
        rw [nI_leI (by omega) (by omega)] at c_1
        have en_2 : n = c := by omega
        subst en_2
        have en_3 : mn + n = m1 := by omega
        subst en_3
        have hq_4 : (qL g' (mn + n) = qL gm mn ++ seg gb fr n) := by
          exact hLL
        exact hret (g') _ _ _ _ dX10_addAll_25 hq_4 (hP.sub [0, 1, 2] rfl) (hD.sub [0, 1, 2] (by decide) rfl) hS
      · skip
        rw [nI_leI (by omega) (by omega)] at c_1
        refine lv_aload_n (pc := 9) hx hb dX10_addAll_9 rfl (lv_at hl 1 rfl) ?_
        refine lv_aload_n (pc := 10) hx hb dX10_addAll_10 rfl (lv_at hl 2 rfl) ?_
        refine lv_iload_n (pc := 11) hx hb dX10_addAll_11 rfl (lv_at hl 3 rfl) ?_
        refine lv_iload (pc := 12) hx hb dX10_addAll_12 (lv_at hl 0 rfl) ?_
        refine lv_iadd (pc := 14) hx hb dX10_addAll_14 ?_
        refine q_top (y := nI (fr + c)) (nI_add fr c) ?_
        refine q_bald (pc := 15) hx hb hK hP 2 2 rfl rfl (k := fr + c) (v := qs (gb (fr + c))) rfl (by omega) (by omega) rfl dX10_addAll_15 ?_
        refine cs_V (pc := 16) (idx := 87) (n := 1) (wr := [(hb2, aS ta capb gb)]) (As := [.int (qs (gb (fr + c)))]) (rest := []) (ci := 8) hx hb hml hown hts hGok hK hA hG hl.1 hP hD hS (ct_X10_add ll D ta hGok h0 a ar m1 tp osz lsz ns ct g' (qs (gb (fr + c))) (by first | assumption | omega | rfl | decide) H.size) tw_1310 tw_1307 tw_1309 tw_37 tw_75 hdX10_add rfl ⟨rfl, rfl, Nat.le_of_ble_eq_true rfl, Nat.le_of_ble_eq_true rfl, Nat.le_of_ble_eq_true rfl, Nat.le_of_ble_eq_true rfl⟩ rfl rfl (q0 := 0) rfl [0, 1] [2] rfl rfl (by decide) rfl (Nat.le_of_ble_eq_true rfl) dX10_addAll_16 (fun u H locs hq hP hD hS => ?_)
        generalize u = gm1_16 at hq hP hD ⊢
        have hq : (qL gm1_16 (m1 + 1) = qL g' m1 ++ [qlo (qs (gb (fr + c)))]) := hq
        have hL_16 := hq
        refine W.eq (g2 := F0 mm 19 ls []) rfl ?_
        have hP : va_P D vwCl [(hb2, aS ta capb gb), (h0, oM a ar (m1 + 1) tp osz lsz ns ct), (a 22, aS ta 700 gm1_16)] H := hP
        have hD : va_D A [(hb2, aS ta capb gb), (h0, oM a ar (m1 + 1) tp osz lsz ns ct), (a 22, aS ta 700 gm1_16)] := hD
        refine lv_iinc (pc := 19) (v := nI (c + 1)) (lv' := [(4, .int (nI (c + 1))), (0, .ref h0), (1, .ref hb2), (2, .int (nI fr)), (3, .int (nI n))]) hx hb dX10_addAll_19 hl (k := 0) rfl (by first | exact nI_add c 1 | rfl) (by decide) rfl (fun ls hl => ?_)
        refine lv_goto (pc := 22) (tgt := 3) hx hb dX10_addAll_22 (by decide) ?_
        exact ih3 (c + 1) (m1 + 1) gm1_16 (by omega) (by omega) (by rw [hL_16, hLL, qlo_qs, List.append_assoc, seg, seg, qL_succ]) (by omega) _ _ (hP.sub [1, 2, 0] rfl) (hD.sub [1, 2, 0] (by decide) rfl) hS ls (lv_sub hl [0, 1, 2, 3, 4] rfl)
  exact LP3 _ 0 mn gm (by omega) (by omega) (by simp [seg, qL_0]) (Nat.lt_succ_self _) _ _ (hP.sub [0, 1, 2] rfl) (hD.sub [0, 1, 2] (by decide) rfl) hS ls (lv_sub hl [0, 1, 2, 3, 4] rfl)
theorem hdX10_fillUp : yX10_fillUp.cls ≠ "java/lang/invoke/MethodHandle" ∧ yX10_fillUp.cls ≠ "java/lang/invoke/VarHandle" ∧ (parseMethodDescriptor yX10_fillUp.desc).map (fun d => d.parameters.length) = some 1 := ⟨by decide +kernel, by decide +kernel, by decide +kernel⟩
theorem dX10_fillUp_0 : decode cX10_fillUp 0 = .ok (.aload_n 0, 1) := by decide +kernel
theorem dX10_fillUp_1 : decode cX10_fillUp 1 = .ok (.sipush 128, 3) := by decide +kernel
theorem dX10_fillUp_4 : decode cX10_fillUp 4 = .ok (.invokevirtual 87, 3) := by decide +kernel
theorem dX10_fillUp_7 : decode cX10_fillUp 7 = .ok (.aload_n 0, 1) := by decide +kernel
theorem dX10_fillUp_8 : decode cX10_fillUp 8 = .ok (.getfield 81, 3) := by decide +kernel
theorem dX10_fillUp_11 : decode cX10_fillUp 11 = .ok (.iload_n 1, 1) := by decide +kernel
theorem dX10_fillUp_12 : decode cX10_fillUp 12 = .ok (.irem, 1) := by decide +kernel
theorem dX10_fillUp_13 : decode cX10_fillUp 13 = .ok (.ifCond .eq 11, 3) := by decide +kernel
theorem dX10_fillUp_16 : decode cX10_fillUp 16 = .ok (.aload_n 0, 1) := by decide +kernel
theorem dX10_fillUp_17 : decode cX10_fillUp 17 = .ok (.iconst 0, 1) := by decide +kernel
theorem dX10_fillUp_18 : decode cX10_fillUp 18 = .ok (.invokevirtual 87, 3) := by decide +kernel
theorem dX10_fillUp_21 : decode cX10_fillUp 21 = .ok (.goto (-14), 3) := by decide +kernel
theorem dX10_fillUp_24 : decode cX10_fillUp 24 = .ok (.return_, 1) := by decide +kernel
set_option maxHeartbeats 4000000 in
set_option maxRecDepth 100000 in
theorem ct_X10_fillUp8 (ll : Launch) (D : va_G) (ta : Nat → ClassId) {G : (Nat → Prop) → State → Heap → Prop} (hGok : GOK G) (h0 : Nat) (a : Nat → Nat) (ar : Nat) (mn : Nat) (tp : Nat) (osz : Nat) (lsz : Nat) (ns : Nat) (ct : Nat) (gm : Nat → BitVec 8) (hmn : (mn / 8 + 1) * 8 ≤ 700) (sz : Nat) : CT ll yX10_fillUp cX10_fillUp 2 none ({ frames := 1, cells := 0, slots := 0, locals := 21 } : Room) D ta G [.ref h0, .int (nI 8)] [(h0, oM a ar mn tp osz lsz ns ct), (a 22, aS ta 700 gm)] sz (S := (Nat → BitVec 8) × Nat) (fun _ => none) (fun u => (u.2 = (mn / 8 + 1) * 8) ∧ (qL u.1 u.2 = qpad 8 (qL gm mn))) (fun u => [(h0, oM a ar u.2 tp osz lsz ns ct), (a 22, aS ta 700 u.1)]) 0 0 := by
  refine CT.of_v rfl (by decide) (Nat.le_of_ble_eq_true rfl) ?_
  intro pp ee ss mm below meth kc A Q hx hb hml hown hin hts hK hA hsz hG hret H locs hP hD hS ls hl
  have hl : lv_has ls 2 [(0, .ref h0), (1, .int (nI 8))] := hl
  refine lv_aload_n (pc := 0) hx hb dX10_fillUp_0 rfl (lv_at hl 0 rfl) ?_
  refine lv_sipush (pc := 1) (v := nI 128) hx hb dX10_fillUp_1 (by decide +kernel) ?_
  refine cs_V (pc := 4) (idx := 87) (n := 1) (wr := []) (As := [.int (nI 128)]) (rest := []) (ci := 8) hx hb hml hown hts hGok hK hA hG hl.1 hP hD hS (ct_X10_add ll D ta hGok h0 a ar mn tp osz lsz ns ct gm (nI 128) (by first | assumption | omega | rfl | decide) H.size) tw_1310 tw_1307 tw_1309 tw_37 tw_75 hdX10_add rfl ⟨rfl, rfl, Nat.le_of_ble_eq_true rfl, Nat.le_of_ble_eq_true rfl, Nat.le_of_ble_eq_true rfl, Nat.le_of_ble_eq_true rfl⟩ rfl rfl (q0 := 0) rfl [0, 1] [] rfl rfl (by decide) rfl (Nat.le_of_ble_eq_true rfl) dX10_fillUp_4 (fun u H locs hq hP hD hS => ?_)
  generalize u = gm1_4 at hq hP hD ⊢
  have hq : (qL gm1_4 (mn + 1) = qL gm mn ++ [qlo (nI 128)]) := hq
  have hL_4 := hq
  refine W.eq (g2 := F0 mm 7 ls []) rfl ?_
  have hP : va_P D vwCl [(h0, oM a ar (mn + 1) tp osz lsz ns ct), (a 22, aS ta 700 gm1_4)] H := hP
  have hD : va_D A [(h0, oM a ar (mn + 1) tp osz lsz ns ct), (a 22, aS ta 700 gm1_4)] := hD
  have LP7 : ∀ (nn7 : Nat) (c : Nat) (m1 : Nat) (g' : Nat → BitVec 8), (1 ≤ c ∧ c + mn % 8 ≤ 8) → (m1 = mn + c) → (qL g' m1 = qL gm mn ++ 0x80#8 :: List.replicate (c - 1) 0#8) → (8 - c < nn7) → ∀ (H : Heap) (locs : List Loc), va_P D vwCl [(h0, oM a ar m1 tp osz lsz ns ct), (a 22, aS ta 700 g')] H → va_D A [(h0, oM a ar m1 tp osz lsz ns ct), (a 22, aS ta 700 g')] → va_S A ss.heap H locs → ∀ ls : Array Slot, lv_has ls 2 [(0, .ref h0), (1, .int (nI 8))] → W pp ll ee ({ frames := 1, cells := 0, slots := 0, locals := 21 } : Room) ss mm (([.ref h0, .int (nI 8)] : List Value).toArray) below meth kc H locs 0 0 Q (F0 mm 7 ls []) := by
    intro nn7
    induction nn7 with
    | zero => intro c m1 g' hcc hm hLL hmu; exact absurd hmu (Nat.not_lt_zero _)
    | succ nn7 ih7 =>
      intro c m1 g' hcc hm hLL hmu7 H locs hP hD hS ls hl
      refine lv_aload_n (pc := 7) hx hb dX10_fillUp_7 rfl (lv_at hl 0 rfl) ?_
      refine va_get (pc := 8) (D := D) (ci := 8) (v := .int (nI m1)) (C := RX10) (T := TX10) (N := 57) hx hb hts iu10 hown hK hP 0 rfl rfl 23 (by decide) (hts _ tw_1068) (fun _ h9 => h9) rfl dX10_fillUp_8 ?_
      refine lv_iload_n (pc := 11) hx hb dX10_fillUp_11 rfl (lv_at hl 1 rfl) ?_
      refine lv_irem (pc := 12) hx hb dX10_fillUp_12 (q_ne0 (by omega) (by omega)) ?_
      refine q_top (y := nI (m1 % 8)) (pk_rem (by omega) (by omega) (by omega)) ?_
      refine lv_if_eq (pc := 13) (tgt := 24) hx hb dX10_fillUp_13 (by decide) (fun c_1 => ?_) (fun c_1 => ?_)
      · skip
        rw [q_eq0 (by omega)] at c_1
        have hend : c + mn % 8 = 8 := by omega
        have hq_2 : (m1 = (mn / 8 + 1) * 8) ∧ (qL g' m1 = qpad 8 (qL gm mn)) := by
          refine ⟨by omega, ?_⟩
          rw [hLL, qpad, qL_len, show 8 - 1 - mn % 8 = c - 1 by omega]
        exact hret (⟨(g'), (m1)⟩ : (Nat → BitVec 8) × Nat) _ _ _ _ dX10_fillUp_24 hq_2 (hP.sub [0, 1] rfl) (hD.sub [0, 1] (by decide) rfl) hS
      · skip
        rw [q_eq0 (by omega)] at c_1
        refine lv_aload_n (pc := 16) hx hb dX10_fillUp_16 rfl (lv_at hl 0 rfl) ?_
        refine lv_iconst (pc := 17) (v := nI 0) hx hb dX10_fillUp_17 (by decide +kernel) ?_
        refine cs_V (pc := 18) (idx := 87) (n := 1) (wr := []) (As := [.int (nI 0)]) (rest := []) (ci := 8) hx hb hml hown hts hGok hK hA hG hl.1 hP hD hS (ct_X10_add ll D ta hGok h0 a ar m1 tp osz lsz ns ct g' (nI 0) (by first | assumption | omega | rfl | decide) H.size) tw_1310 tw_1307 tw_1309 tw_37 tw_75 hdX10_add rfl ⟨rfl, rfl, Nat.le_of_ble_eq_true rfl, Nat.le_of_ble_eq_true rfl, Nat.le_of_ble_eq_true rfl, Nat.le_of_ble_eq_true rfl⟩ rfl rfl (q0 := 0) rfl [0, 1] [] rfl rfl (by decide) rfl (Nat.le_of_ble_eq_true rfl) dX10_fillUp_18 (fun u H locs hq hP hD hS => ?_)
        generalize u = gm1_18 at hq hP hD ⊢
        have hq : (qL gm1_18 (m1 + 1) = qL g' m1 ++ [qlo (nI 0)]) := hq
        have hL_18 := hq
        refine W.eq (g2 := F0 mm 21 ls []) rfl ?_
        have hP : va_P D vwCl [(h0, oM a ar (m1 + 1) tp osz lsz ns ct), (a 22, aS ta 700 gm1_18)] H := hP
        have hD : va_D A [(h0, oM a ar (m1 + 1) tp osz lsz ns ct), (a 22, aS ta 700 gm1_18)] := hD
        refine lv_goto (pc := 21) (tgt := 7) hx hb dX10_fillUp_21 (by decide) ?_
        exact ih7 (c + 1) (m1 + 1) gm1_18 (by omega) (by omega) (by rw [hL_18, hLL, qlo_nI, List.append_assoc, List.cons_append, show c + 1 - 1 = (c - 1) + 1 by omega, List.replicate_succ']) (by omega) _ _ (hP.sub [0, 1] rfl) (hD.sub [0, 1] (by decide) rfl) hS ls (lv_sub hl [0, 1] rfl)
  exact LP7 _ 1 (mn + 1) gm1_4 (by omega) (by omega) (by rw [hL_4, qlo_nI]; rfl) (Nat.lt_succ_self _) _ _ (hP.sub [0, 1] rfl) (hD.sub [0, 1] (by decide) rfl) hS ls (lv_sub hl [0, 1] rfl)
set_option maxHeartbeats 4000000 in
set_option maxRecDepth 100000 in
theorem ct_X10_fillUp16 (ll : Launch) (D : va_G) (ta : Nat → ClassId) {G : (Nat → Prop) → State → Heap → Prop} (hGok : GOK G) (h0 : Nat) (a : Nat → Nat) (ar : Nat) (mn : Nat) (tp : Nat) (osz : Nat) (lsz : Nat) (ns : Nat) (ct : Nat) (gm : Nat → BitVec 8) (hmn : (mn / 16 + 1) * 16 ≤ 700) (sz : Nat) : CT ll yX10_fillUp cX10_fillUp 2 none ({ frames := 1, cells := 0, slots := 0, locals := 21 } : Room) D ta G [.ref h0, .int (nI 16)] [(h0, oM a ar mn tp osz lsz ns ct), (a 22, aS ta 700 gm)] sz (S := (Nat → BitVec 8) × Nat) (fun _ => none) (fun u => (u.2 = (mn / 16 + 1) * 16) ∧ (qL u.1 u.2 = qpad 16 (qL gm mn))) (fun u => [(h0, oM a ar u.2 tp osz lsz ns ct), (a 22, aS ta 700 u.1)]) 0 0 := by
  refine CT.of_v rfl (by decide) (Nat.le_of_ble_eq_true rfl) ?_
  intro pp ee ss mm below meth kc A Q hx hb hml hown hin hts hK hA hsz hG hret H locs hP hD hS ls hl
  have hl : lv_has ls 2 [(0, .ref h0), (1, .int (nI 16))] := hl
  refine lv_aload_n (pc := 0) hx hb dX10_fillUp_0 rfl (lv_at hl 0 rfl) ?_
  refine lv_sipush (pc := 1) (v := nI 128) hx hb dX10_fillUp_1 (by decide +kernel) ?_
  refine cs_V (pc := 4) (idx := 87) (n := 1) (wr := []) (As := [.int (nI 128)]) (rest := []) (ci := 8) hx hb hml hown hts hGok hK hA hG hl.1 hP hD hS (ct_X10_add ll D ta hGok h0 a ar mn tp osz lsz ns ct gm (nI 128) (by first | assumption | omega | rfl | decide) H.size) tw_1310 tw_1307 tw_1309 tw_37 tw_75 hdX10_add rfl ⟨rfl, rfl, Nat.le_of_ble_eq_true rfl, Nat.le_of_ble_eq_true rfl, Nat.le_of_ble_eq_true rfl, Nat.le_of_ble_eq_true rfl⟩ rfl rfl (q0 := 0) rfl [0, 1] [] rfl rfl (by decide) rfl (Nat.le_of_ble_eq_true rfl) dX10_fillUp_4 (fun u H locs hq hP hD hS => ?_)
  generalize u = gm1_4 at hq hP hD ⊢
  have hq : (qL gm1_4 (mn + 1) = qL gm mn ++ [qlo (nI 128)]) := hq
  have hL_4 := hq
  refine W.eq (g2 := F0 mm 7 ls []) rfl ?_
  have hP : va_P D vwCl [(h0, oM a ar (mn + 1) tp osz lsz ns ct), (a 22, aS ta 700 gm1_4)] H := hP
  have hD : va_D A [(h0, oM a ar (mn + 1) tp osz lsz ns ct), (a 22, aS ta 700 gm1_4)] := hD
  have LP7 : ∀ (nn7 : Nat) (c : Nat) (m1 : Nat) (g' : Nat → BitVec 8), (1 ≤ c ∧ c + mn % 16 ≤ 16) → (m1 = mn + c) → (qL g' m1 = qL gm mn ++ 0x80#8 :: List.replicate (c - 1) 0#8) → (16 - c < nn7) → ∀ (H : Heap) (locs : List Loc), va_P D vwCl [(h0, oM a ar m1 tp osz lsz ns ct), (a 22, aS ta 700 g')] H → va_D A [(h0, oM a ar m1 tp osz lsz ns ct), (a 22, aS ta 700 g')] → va_S A ss.heap H locs → ∀ ls : Array Slot, lv_has ls 2 [(0, .ref h0), (1, .int (nI 16))] → W pp ll ee ({ frames := 1, cells := 0, slots := 0, locals := 21 } : Room) ss mm (([.ref h0, .int (nI 16)] : List Value).toArray) below meth kc H locs 0 0 Q (F0 mm 7 ls []) := by
    intro nn7
    induction nn7 with
    | zero => intro c m1 g' hcc hm hLL hmu; exact absurd hmu (Nat.not_lt_zero _)
    | succ nn7 ih7 =>
      intro c m1 g' hcc hm hLL hmu7 H locs hP hD hS ls hl
      refine lv_aload_n (pc := 7) hx hb dX10_fillUp_7 rfl (lv_at hl 0 rfl) ?_
      refine va_get (pc := 8) (D := D) (ci := 8) (v := .int (nI m1)) (C := RX10) (T := TX10) (N := 57) hx hb hts iu10 hown hK hP 0 rfl rfl 23 (by decide) (hts _ tw_1068) (fun _ h9 => h9) rfl dX10_fillUp_8 ?_
      refine lv_iload_n (pc := 11) hx hb dX10_fillUp_11 rfl (lv_at hl 1 rfl) ?_
      refine lv_irem (pc := 12) hx hb dX10_fillUp_12 (q_ne0 (by omega) (by omega)) ?_
      refine q_top (y := nI (m1 % 16)) (pk_rem (by omega) (by omega) (by omega)) ?_
      refine lv_if_eq (pc := 13) (tgt := 24) hx hb dX10_fillUp_13 (by decide) (fun c_1 => ?_) (fun c_1 => ?_)
      · skip
        rw [q_eq0 (by omega)] at c_1
        have hend : c + mn % 16 = 16 := by omega
        have hq_2 : (m1 = (mn / 16 + 1) * 16) ∧ (qL g' m1 = qpad 16 (qL gm mn)) := by
          refine ⟨by omega, ?_⟩
          rw [hLL, qpad, qL_len, show 16 - 1 - mn % 16 = c - 1 by omega]
        exact hret (⟨(g'), (m1)⟩ : (Nat → BitVec 8) × Nat) _ _ _ _ dX10_fillUp_24 hq_2 (hP.sub [0, 1] rfl) (hD.sub [0, 1] (by decide) rfl) hS
      · skip
        rw [q_eq0 (by omega)] at c_1
        refine lv_aload_n (pc := 16) hx hb dX10_fillUp_16 rfl (lv_at hl 0 rfl) ?_
        refine lv_iconst (pc := 17) (v := nI 0) hx hb dX10_fillUp_17 (by decide +kernel) ?_
        refine cs_V (pc := 18) (idx := 87) (n := 1) (wr := []) (As := [.int (nI 0)]) (rest := []) (ci := 8) hx hb hml hown hts hGok hK hA hG hl.1 hP hD hS (ct_X10_add ll D ta hGok h0 a ar m1 tp osz lsz ns ct g' (nI 0) (by first | assumption | omega | rfl | decide) H.size) tw_1310 tw_1307 tw_1309 tw_37 tw_75 hdX10_add rfl ⟨rfl, rfl, Nat.le_of_ble_eq_true rfl, Nat.le_of_ble_eq_true rfl, Nat.le_of_ble_eq_true rfl, Nat.le_of_ble_eq_true rfl⟩ rfl rfl (q0 := 0) rfl [0, 1] [] rfl rfl (by decide) rfl (Nat.le_of_ble_eq_true rfl) dX10_fillUp_18 (fun u H locs hq hP hD hS => ?_)
        generalize u = gm1_18 at hq hP hD ⊢
        have hq : (qL gm1_18 (m1 + 1) = qL g' m1 ++ [qlo (nI 0)]) := hq
        have hL_18 := hq
        refine W.eq (g2 := F0 mm 21 ls []) rfl ?_
        have hP : va_P D vwCl [(h0, oM a ar (m1 + 1) tp osz lsz ns ct), (a 22, aS ta 700 gm1_18)] H := hP
        have hD : va_D A [(h0, oM a ar (m1 + 1) tp osz lsz ns ct), (a 22, aS ta 700 gm1_18)] := hD
        refine lv_goto (pc := 21) (tgt := 7) hx hb dX10_fillUp_21 (by decide) ?_
        exact ih7 (c + 1) (m1 + 1) gm1_18 (by omega) (by omega) (by rw [hL_18, hLL, qlo_nI, List.append_assoc, List.cons_append, show c + 1 - 1 = (c - 1) + 1 by omega, List.replicate_succ']) (by omega) _ _ (hP.sub [0, 1] rfl) (hD.sub [0, 1] (by decide) rfl) hS ls (lv_sub hl [0, 1] rfl)
  exact LP7 _ 1 (mn + 1) gm1_4 (by omega) (by omega) (by rw [hL_4, qlo_nI]; rfl) (Nat.lt_succ_self _) _ _ (hP.sub [0, 1] rfl) (hD.sub [0, 1] (by decide) rfl) hS ls (lv_sub hl [0, 1] rfl)
theorem hdX10_addLength : yX10_addLength.cls ≠ "java/lang/invoke/MethodHandle" ∧ yX10_addLength.cls ≠ "java/lang/invoke/VarHandle" ∧ (parseMethodDescriptor yX10_addLength.desc).map (fun d => d.parameters.length) = some 1 := ⟨by decide +kernel, by decide +kernel, by decide +kernel⟩
theorem dX10_addLength_0 : decode cX10_addLength 0 = .ok (.aload_n 0, 1) := by decide +kernel
theorem dX10_addLength_1 : decode cX10_addLength 1 = .ok (.iload_n 1, 1) := by decide +kernel
theorem dX10_addLength_2 : decode cX10_addLength 2 = .ok (.sipush 255, 3) := by decide +kernel
theorem dX10_addLength_5 : decode cX10_addLength 5 = .ok (.iand, 1) := by decide +kernel
theorem dX10_addLength_6 : decode cX10_addLength 6 = .ok (.invokevirtual 87, 3) := by decide +kernel
theorem dX10_addLength_9 : decode cX10_addLength 9 = .ok (.return_, 1) := by decide +kernel
set_option maxHeartbeats 4000000 in
set_option maxRecDepth 100000 in
theorem ct_X10_addLength (ll : Launch) (D : va_G) (ta : Nat → ClassId) {G : (Nat → Prop) → State → Heap → Prop} (hGok : GOK G) (h0 : Nat) (a : Nat → Nat) (ar : Nat) (mn : Nat) (tp : Nat) (osz : Nat) (lsz : Nat) (ns : Nat) (ct : Nat) (gm : Nat → BitVec 8) (n : Nat) (hmn : mn < 700) (hn9 : n < 2147483648) (sz : Nat) : CT ll yX10_addLength cX10_addLength 2 none ({ frames := 1, cells := 0, slots := 0, locals := 21 } : Room) D ta G [.ref h0, .int (nI n)] [(h0, oM a ar mn tp osz lsz ns ct), (a 22, aS ta 700 gm)] sz (S := (Nat → BitVec 8)) (fun _ => none) (fun u => (qL u (mn + 1) = qL gm mn ++ [BitVec.ofNat 8 n])) (fun u => [(h0, oM a ar (mn + 1) tp osz lsz ns ct), (a 22, aS ta 700 u)]) 0 0 := by
  refine CT.of_v rfl (by decide) (Nat.le_of_ble_eq_true rfl) ?_
  intro pp ee ss mm below meth kc A Q hx hb hml hown hin hts hK hA hsz hG hret H locs hP hD hS ls hl
  have hl : lv_has ls 2 [(0, .ref h0), (1, .int (nI n))] := hl
  refine lv_aload_n (pc := 0) hx hb dX10_addLength_0 rfl (lv_at hl 0 rfl) ?_
  refine lv_iload_n (pc := 1) hx hb dX10_addLength_1 rfl (lv_at hl 1 rfl) ?_
  refine lv_sipush (pc := 2) (v := nI 255) hx hb dX10_addLength_2 (by decide +kernel) ?_
  refine lv_iand (pc := 5) hx hb dX10_addLength_5 ?_
  refine q_top (y := nI (n % 256)) (q_andN (k := 8) (p := 256) (by decide) (by omega)) ?_
  refine cs_V (pc := 6) (idx := 87) (n := 1) (wr := []) (As := [.int (nI (n % 256))]) (rest := []) (ci := 8) hx hb hml hown hts hGok hK hA hG hl.1 hP hD hS (ct_X10_add ll D ta hGok h0 a ar mn tp osz lsz ns ct gm (nI (n % 256)) (by first | assumption | omega | rfl | decide) H.size) tw_1310 tw_1307 tw_1309 tw_37 tw_75 hdX10_add rfl ⟨rfl, rfl, Nat.le_of_ble_eq_true rfl, Nat.le_of_ble_eq_true rfl, Nat.le_of_ble_eq_true rfl, Nat.le_of_ble_eq_true rfl⟩ rfl rfl (q0 := 0) rfl [0, 1] [] rfl rfl (by decide) rfl (Nat.le_of_ble_eq_true rfl) dX10_addLength_6 (fun u H locs hq hP hD hS => ?_)
  generalize u = gm1_6 at hq hP hD ⊢
  have hq : (qL gm1_6 (mn + 1) = qL gm mn ++ [qlo (nI (n % 256))]) := hq
  have hL_6 := hq
  refine W.eq (g2 := F0 mm 9 ls []) rfl ?_
  have hP : va_P D vwCl [(h0, oM a ar (mn + 1) tp osz lsz ns ct), (a 22, aS ta 700 gm1_6)] H := hP
  have hD : va_D A [(h0, oM a ar (mn + 1) tp osz lsz ns ct), (a 22, aS ta 700 gm1_6)] := hD
  have hq_1 : (qL gm1_6 (mn + 1) = qL gm mn ++ [BitVec.ofNat 8 n]) := by
    rw [hL_6, qlo_nI, ofNat8_mod]
  exact hret (gm1_6) _ _ _ _ dX10_addLength_9 hq_1 (hP.sub [0, 1] rfl) (hD.sub [0, 1] (by decide) rfl) hS
theorem hdX10_mac3 : yX10_mac3.cls ≠ "java/lang/invoke/MethodHandle" ∧ yX10_mac3.cls ≠ "java/lang/invoke/VarHandle" ∧ (parseMethodDescriptor yX10_mac3.desc).map (fun d => d.parameters.length) = some 2 := ⟨by decide +kernel, by decide +kernel, by decide +kernel⟩
theorem dX10_mac3_0 : decode cX10_mac3 0 = .ok (.aload_n 0, 1) := by decide +kernel
theorem dX10_mac3_1 : decode cX10_mac3 1 = .ok (.bipush 8, 2) := by decide +kernel
theorem dX10_mac3_3 : decode cX10_mac3 3 = .ok (.invokevirtual 91, 3) := by decide +kernel
theorem dX10_mac3_6 : decode cX10_mac3 6 = .ok (.iconst 0, 1) := by decide +kernel
theorem dX10_mac3_7 : decode cX10_mac3 7 = .ok (.istore_n 3, 1) := by decide +kernel
theorem dX10_mac3_8 : decode cX10_mac3 8 = .ok (.iload_n 3, 1) := by decide +kernel
theorem dX10_mac3_9 : decode cX10_mac3 9 = .ok (.bipush 8, 2) := by decide +kernel
theorem dX10_mac3_11 : decode cX10_mac3 11 = .ok (.if_icmp .ge 16, 3) := by decide +kernel
theorem dX10_mac3_14 : decode cX10_mac3 14 = .ok (.aload_n 0, 1) := by decide +kernel
theorem dX10_mac3_15 : decode cX10_mac3 15 = .ok (.getfield 94, 3) := by decide +kernel
theorem dX10_mac3_18 : decode cX10_mac3 18 = .ok (.iload_n 3, 1) := by decide +kernel
theorem dX10_mac3_19 : decode cX10_mac3 19 = .ok (.iconst 0, 1) := by decide +kernel
theorem dX10_mac3_20 : decode cX10_mac3 20 = .ok (.bastore, 1) := by decide +kernel
theorem dX10_mac3_21 : decode cX10_mac3 21 = .ok (.iinc 3 1, 3) := by decide +kernel
theorem dX10_mac3_24 : decode cX10_mac3 24 = .ok (.goto (-16), 3) := by decide +kernel
theorem dX10_mac3_27 : decode cX10_mac3 27 = .ok (.iconst 0, 1) := by decide +kernel
theorem dX10_mac3_28 : decode cX10_mac3 28 = .ok (.istore_n 3, 1) := by decide +kernel
theorem dX10_mac3_29 : decode cX10_mac3 29 = .ok (.iload_n 3, 1) := by decide +kernel
theorem dX10_mac3_30 : decode cX10_mac3 30 = .ok (.aload_n 0, 1) := by decide +kernel
theorem dX10_mac3_31 : decode cX10_mac3 31 = .ok (.getfield 81, 3) := by decide +kernel
theorem dX10_mac3_34 : decode cX10_mac3 34 = .ok (.if_icmp .ge 57, 3) := by decide +kernel
theorem dX10_mac3_37 : decode cX10_mac3 37 = .ok (.iconst 0, 1) := by decide +kernel
theorem dX10_mac3_38 : decode cX10_mac3 38 = .ok (.istore 4, 2) := by decide +kernel
theorem dX10_mac3_40 : decode cX10_mac3 40 = .ok (.iload 4, 2) := by decide +kernel
theorem dX10_mac3_42 : decode cX10_mac3 42 = .ok (.bipush 8, 2) := by decide +kernel
theorem dX10_mac3_44 : decode cX10_mac3 44 = .ok (.if_icmp .ge 29, 3) := by decide +kernel
theorem dX10_mac3_47 : decode cX10_mac3 47 = .ok (.aload_n 0, 1) := by decide +kernel
theorem dX10_mac3_48 : decode cX10_mac3 48 = .ok (.getfield 94, 3) := by decide +kernel
theorem dX10_mac3_51 : decode cX10_mac3 51 = .ok (.iload 4, 2) := by decide +kernel
theorem dX10_mac3_53 : decode cX10_mac3 53 = .ok (.dup2, 1) := by decide +kernel
theorem dX10_mac3_54 : decode cX10_mac3 54 = .ok (.baload, 1) := by decide +kernel
theorem dX10_mac3_55 : decode cX10_mac3 55 = .ok (.aload_n 0, 1) := by decide +kernel
theorem dX10_mac3_56 : decode cX10_mac3 56 = .ok (.getfield 84, 3) := by decide +kernel
theorem dX10_mac3_59 : decode cX10_mac3 59 = .ok (.iload_n 3, 1) := by decide +kernel
theorem dX10_mac3_60 : decode cX10_mac3 60 = .ok (.iload 4, 2) := by decide +kernel
theorem dX10_mac3_62 : decode cX10_mac3 62 = .ok (.iadd, 1) := by decide +kernel
theorem dX10_mac3_63 : decode cX10_mac3 63 = .ok (.baload, 1) := by decide +kernel
theorem dX10_mac3_64 : decode cX10_mac3 64 = .ok (.ixor, 1) := by decide +kernel
theorem dX10_mac3_65 : decode cX10_mac3 65 = .ok (.i2b, 1) := by decide +kernel
theorem dX10_mac3_66 : decode cX10_mac3 66 = .ok (.bastore, 1) := by decide +kernel
theorem dX10_mac3_67 : decode cX10_mac3 67 = .ok (.iinc 4 1, 3) := by decide +kernel
theorem dX10_mac3_70 : decode cX10_mac3 70 = .ok (.goto (-30), 3) := by decide +kernel
theorem dX10_mac3_73 : decode cX10_mac3 73 = .ok (.aload_n 0, 1) := by decide +kernel
theorem dX10_mac3_74 : decode cX10_mac3 74 = .ok (.aload_n 0, 1) := by decide +kernel
theorem dX10_mac3_75 : decode cX10_mac3 75 = .ok (.getfield 94, 3) := by decide +kernel
theorem dX10_mac3_78 : decode cX10_mac3 78 = .ok (.iconst 0, 1) := by decide +kernel
theorem dX10_mac3_79 : decode cX10_mac3 79 = .ok (.aload_n 1, 1) := by decide +kernel
theorem dX10_mac3_80 : decode cX10_mac3 80 = .ok (.iload_n 2, 1) := by decide +kernel
theorem dX10_mac3_81 : decode cX10_mac3 81 = .ok (.iconst 0, 1) := by decide +kernel
theorem dX10_mac3_82 : decode cX10_mac3 82 = .ok (.invokevirtual 97, 3) := by decide +kernel
theorem dX10_mac3_85 : decode cX10_mac3 85 = .ok (.iinc 3 8, 3) := by decide +kernel
theorem dX10_mac3_88 : decode cX10_mac3 88 = .ok (.goto (-59), 3) := by decide +kernel
theorem dX10_mac3_91 : decode cX10_mac3 91 = .ok (.return_, 1) := by decide +kernel
set_option maxHeartbeats 4000000 in
set_option maxRecDepth 100000 in
theorem ct_X10_mac3 (ll : Launch) (D : va_G) (ta : Nat → ClassId) {G : (Nat → Prop) → State → Heap → Prop} (hGok : GOK G) (h0 : Nat) (a : Nat → Nat) (ar : Nat) (mn : Nat) (tp : Nat) (osz : Nat) (lsz : Nat) (ns : Nat) (ct : Nat) (gm : Nat → BitVec 8) (mac : Nat → BitVec 8) (hk : Nat) (fr : Nat) (capk : Nat) (gk : Nat → BitVec 8) (bi : Nat → Bool) (tu : Nat → Bool) (cd : Nat → Bool) (sk : Nat → Bool) (hf : Nat → Bool) (wd : Nat → Bool) (hmn : (mn / 8 + 1) * 8 ≤ 700) (hf16 : fr + 16 ≤ capk) (hck : capk < 2147483648) (sz : Nat) : CT ll yX10_mac3 cX10_mac3 5 none ({ frames := 3, cells := 0, slots := 0, locals := 85 } : Room) D ta G [.ref h0, .ref hk, .int (nI fr)] [(h0, oM a ar mn tp osz lsz ns ct), (a 22, aS ta 700 gm), (a 24, aS ta 16 mac), (a 0, aK ta 64 tIP), (a 1, aK ta 48 tSPR), (a 2, aK ta 32 tMIX), (a 3, aK ta 56 tCH), (a 4, aK ta 48 tSEC), (a 5, aK ta 512 tSBX), (a 10, aB ta 64 bi), (a 11, aB ta 64 tu), (a 12, aB ta 56 cd), (a 13, aB ta 768 sk), (a 14, aB ta 32 hf), (a 15, aB ta 48 wd), (hk, aS ta capk gk)] sz (S := (Nat → BitVec 8) × Nat × (Nat → BitVec 8) × (Nat → Bool) × (Nat → Bool) × (Nat → Bool) × (Nat → Bool) × (Nat → Bool) × (Nat → Bool)) (fun _ => none) (fun u => (seg u.2.2.1 0 8 = mac3L (seg gk fr 16) (qL gm mn))) (fun u => [(h0, oM a ar u.2.1 tp osz lsz ns ct), (a 22, aS ta 700 u.1), (a 24, aS ta 16 u.2.2.1), (a 0, aK ta 64 tIP), (a 1, aK ta 48 tSPR), (a 2, aK ta 32 tMIX), (a 3, aK ta 56 tCH), (a 4, aK ta 48 tSEC), (a 5, aK ta 512 tSBX), (a 10, aB ta 64 u.2.2.2.1), (a 11, aB ta 64 u.2.2.2.2.1), (a 12, aB ta 56 u.2.2.2.2.2.1), (a 13, aB ta 768 u.2.2.2.2.2.2.1), (a 14, aB ta 32 u.2.2.2.2.2.2.2.1), (a 15, aB ta 48 u.2.2.2.2.2.2.2.2), (hk, aS ta capk gk)]) 0 0 := by
  refine CT.of_v rfl (by decide) (Nat.le_of_ble_eq_true rfl) ?_
  intro pp ee ss mm below meth kc A Q hx hb hml hown hin hts hK hA hsz hG hret H locs hP hD hS ls hl
  have hl : lv_has ls 5 [(0, .ref h0), (1, .ref hk), (2, .int (nI fr))] := hl
  refine lv_aload_n (pc := 0) hx hb dX10_mac3_0 rfl (lv_at hl 0 rfl) ?_
  refine lv_bipush (pc := 1) (v := nI 8) hx hb dX10_mac3_1 (by decide +kernel) ?_
  refine cs_V (pc := 3) (idx := 91) (n := 1) (wr := [(a 24, aS ta 16 mac), (a 0, aK ta 64 tIP), (a 1, aK ta 48 tSPR), (a 2, aK ta 32 tMIX), (a 3, aK ta 56 tCH), (a 4, aK ta 48 tSEC), (a 5, aK ta 512 tSBX), (a 10, aB ta 64 bi), (a 11, aB ta 64 tu), (a 12, aB ta 56 cd), (a 13, aB ta 768 sk), (a 14, aB ta 32 hf), (a 15, aB ta 48 wd), (hk, aS ta capk gk)]) (As := [.int (nI 8)]) (rest := []) (ci := 8) hx hb hml hown hts hGok hK hA hG hl.1 hP hD hS (ct_X10_fillUp8 ll D ta hGok h0 a ar mn tp osz lsz ns ct gm (by first | assumption | omega | rfl | decide) H.size) tw_1318 tw_1315 tw_1317 tw_39 tw_75 hdX10_fillUp rfl ⟨rfl, rfl, Nat.le_of_ble_eq_true rfl, Nat.le_of_ble_eq_true rfl, Nat.le_of_ble_eq_true rfl, Nat.le_of_ble_eq_true rfl⟩ rfl rfl (q0 := 0) rfl [0, 1] [2, 3, 4, 5, 6, 7, 8, 9, 10, 11, 12, 13, 14, 15] rfl rfl (by decide) rfl (Nat.le_of_ble_eq_true rfl) dX10_mac3_3 (fun u H locs hq hP hD hS => ?_)
  obtain ⟨gm1_3, mn1_3⟩ := u
  have hq : (mn1_3 = (mn / 8 + 1) * 8) ∧ (qL gm1_3 mn1_3 = qpad 8 (qL gm mn)) := hq
  obtain ⟨hm_3, hL_3⟩ := hq
  refine W.eq (g2 := F0 mm 6 ls []) rfl ?_
  have hP : va_P D vwCl [(a 24, aS ta 16 mac), (a 0, aK ta 64 tIP), (a 1, aK ta 48 tSPR), (a 2, aK ta 32 tMIX), (a 3, aK ta 56 tCH), (a 4, aK ta 48 tSEC), (a 5, aK ta 512 tSBX), (a 10, aB ta 64 bi), (a 11, aB ta 64 tu), (a 12, aB ta 56 cd), (a 13, aB ta 768 sk), (a 14, aB ta 32 hf), (a 15, aB ta 48 wd), (hk, aS ta capk gk), (h0, oM a ar mn1_3 tp osz lsz ns ct), (a 22, aS ta 700 gm1_3)] H := hP
  have hD : va_D A [(a 24, aS ta 16 mac), (a 0, aK ta 64 tIP), (a 1, aK ta 48 tSPR), (a 2, aK ta 32 tMIX), (a 3, aK ta 56 tCH), (a 4, aK ta 48 tSEC), (a 5, aK ta 512 tSBX), (a 10, aB ta 64 bi), (a 11, aB ta 64 tu), (a 12, aB ta 56 cd), (a 13, aB ta 768 sk), (a 14, aB ta 32 hf), (a 15, aB ta 48 wd), (hk, aS ta capk gk), (h0, oM a ar mn1_3 tp osz lsz ns ct), (a 22, aS ta 700 gm1_3)] := hD
  refine lv_iconst (pc := 6) (v := nI 0) hx hb dX10_mac3_6 (by decide +kernel) ?_
  refine lv_istore_n (pc := 7) (lv' := [(3, .int (nI 0)), (0, .ref h0), (1, .ref hk), (2, .int (nI fr))]) hx hb dX10_mac3_7 rfl hl (by decide) rfl (fun ls hl => ?_)
  have LP8 : ∀ (nn8 : Nat) (k : Nat) (z' : Nat → BitVec 8), (k ≤ 8) → (qSeg z' mac 0 k (fun _ => 0#8)) → (8 - k < nn8) → ∀ (H : Heap) (locs : List Loc), va_P D vwCl [(a 24, aS ta 16 z'), (a 0, aK ta 64 tIP), (a 1, aK ta 48 tSPR), (a 2, aK ta 32 tMIX), (a 3, aK ta 56 tCH), (a 4, aK ta 48 tSEC), (a 5, aK ta 512 tSBX), (a 10, aB ta 64 bi), (a 11, aB ta 64 tu), (a 12, aB ta 56 cd), (a 13, aB ta 768 sk), (a 14, aB ta 32 hf), (a 15, aB ta 48 wd), (hk, aS ta capk gk), (h0, oM a ar mn1_3 tp osz lsz ns ct), (a 22, aS ta 700 gm1_3)] H → va_D A [(a 24, aS ta 16 z'), (a 0, aK ta 64 tIP), (a 1, aK ta 48 tSPR), (a 2, aK ta 32 tMIX), (a 3, aK ta 56 tCH), (a 4, aK ta 48 tSEC), (a 5, aK ta 512 tSBX), (a 10, aB ta 64 bi), (a 11, aB ta 64 tu), (a 12, aB ta 56 cd), (a 13, aB ta 768 sk), (a 14, aB ta 32 hf), (a 15, aB ta 48 wd), (hk, aS ta capk gk), (h0, oM a ar mn1_3 tp osz lsz ns ct), (a 22, aS ta 700 gm1_3)] → va_S A ss.heap H locs → ∀ ls : Array Slot, lv_has ls 5 [(3, .int (nI k)), (0, .ref h0), (1, .ref hk), (2, .int (nI fr))] → W pp ll ee ({ frames := 3, cells := 0, slots := 0, locals := 85 } : Room) ss mm (([.ref h0, .ref hk, .int (nI fr)] : List Value).toArray) below meth kc H locs 0 0 Q (F0 mm 8 ls []) := by
    intro nn8
    induction nn8 with
    | zero => intro k z' hkk hz hmu; exact absurd hmu (Nat.not_lt_zero _)
    | succ nn8 ih8 =>
      intro k z' hkk hz hmu8 H locs hP hD hS ls hl
      refine lv_iload_n (pc := 8) hx hb dX10_mac3_8 rfl (lv_at hl 0 rfl) ?_
      refine lv_bipush (pc := 9) (v := nI 8) hx hb dX10_mac3_9 (by decide +kernel) ?_
      refine lv_icmp_ge (pc := 11) (tgt := 27) hx hb dX10_mac3_11 (by decide) (fun c_1 => ?_) (fun c_1 => ?_)
      · skip
        rw [nI_leI (by omega) (by omega)] at c_1
        refine lv_iconst (pc := 27) (v := nI 0) hx hb dX10_mac3_27 (by decide +kernel) ?_
        refine lv_istore_n (pc := 28) (lv' := [(3, .int (nI 0)), (0, .ref h0), (1, .ref hk), (2, .int (nI fr))]) hx hb dX10_mac3_28 rfl hl (by decide) rfl (fun ls hl => ?_)
        have LP29 : ∀ (nn29 : Nat) (i : Nat) (c' : Nat → BitVec 8) (xb : Nat → Bool) (xt : Nat → Bool) (xc : Nat → Bool) (xs : Nat → Bool) (xh : Nat → Bool) (xw : Nat → Bool), (i ≤ mn / 8 + 1) → (qL c' 8 = cbcM (tdesL (seg gk fr 16) false) 8 (zeroL 8) (qpad 8 (qL gm mn)) i) → (mn / 8 + 1 - i < nn29) → ∀ (H : Heap) (locs : List Loc), va_P D vwCl [(a 24, aS ta 16 c'), (a 0, aK ta 64 tIP), (a 1, aK ta 48 tSPR), (a 2, aK ta 32 tMIX), (a 3, aK ta 56 tCH), (a 4, aK ta 48 tSEC), (a 5, aK ta 512 tSBX), (a 10, aB ta 64 xb), (a 11, aB ta 64 xt), (a 12, aB ta 56 xc), (a 13, aB ta 768 xs), (a 14, aB ta 32 xh), (a 15, aB ta 48 xw), (hk, aS ta capk gk), (h0, oM a ar mn1_3 tp osz lsz ns ct), (a 22, aS ta 700 gm1_3)] H → va_D A [(a 24, aS ta 16 c'), (a 0, aK ta 64 tIP), (a 1, aK ta 48 tSPR), (a 2, aK ta 32 tMIX), (a 3, aK ta 56 tCH), (a 4, aK ta 48 tSEC), (a 5, aK ta 512 tSBX), (a 10, aB ta 64 xb), (a 11, aB ta 64 xt), (a 12, aB ta 56 xc), (a 13, aB ta 768 xs), (a 14, aB ta 32 xh), (a 15, aB ta 48 xw), (hk, aS ta capk gk), (h0, oM a ar mn1_3 tp osz lsz ns ct), (a 22, aS ta 700 gm1_3)] → va_S A ss.heap H locs → ∀ ls : Array Slot, lv_has ls 5 [(3, .int (nI (8 * i))), (0, .ref h0), (1, .ref hk), (2, .int (nI fr))] → W pp ll ee ({ frames := 3, cells := 0, slots := 0, locals := 85 } : Room) ss mm (([.ref h0, .ref hk, .int (nI fr)] : List Value).toArray) below meth kc H locs 0 0 Q (F0 mm 29 ls []) := by
          intro nn29
          induction nn29 with
          | zero => intro i c' xb xt xc xs xh xw hii hc hmu; exact absurd hmu (Nat.not_lt_zero _)
          | succ nn29 ih29 =>
            intro i c' xb xt xc xs xh xw hii hc hmu29 H locs hP hD hS ls hl
            refine lv_iload_n (pc := 29) hx hb dX10_mac3_29 rfl (lv_at hl 0 rfl) ?_
            refine lv_aload_n (pc := 30) hx hb dX10_mac3_30 rfl (lv_at hl 1 rfl) ?_
            refine va_get (pc := 31) (D := D) (ci := 8) (v := .int (nI mn1_3)) (C := RX10) (T := TX10) (N := 57) hx hb hts iu10 hown hK hP 14 rfl rfl 23 (by decide) (hts _ tw_1068) (fun _ h9 => h9) rfl dX10_mac3_31 ?_
            refine lv_icmp_ge (pc := 34) (tgt := 91) hx hb dX10_mac3_34 (by decide) (fun c_2 => ?_) (fun c_2 => ?_)
            · skip
              rw [nI_leI (by omega) (by omega)] at c_2
              have ei : i = mn / 8 + 1 := by omega
              have hq_3 : (seg c' 0 8 = mac3L (seg gk fr 16) (qL gm mn)) := by
                rw [seg_0, hc, ei, mac3L, qL_len]
              exact hret (⟨(gm1_3), (mn1_3), (c'), (xb), (xt), (xc), (xs), (xh), (xw)⟩ : (Nat → BitVec 8) × Nat × (Nat → BitVec 8) × (Nat → Bool) × (Nat → Bool) × (Nat → Bool) × (Nat → Bool) × (Nat → Bool) × (Nat → Bool)) _ _ _ _ dX10_mac3_91 hq_3 (hP.sub [14, 15, 0, 1, 2, 3, 4, 5, 6, 7, 8, 9, 10, 11, 12, 13] rfl) (hD.sub [14, 15, 0, 1, 2, 3, 4, 5, 6, 7, 8, 9, 10, 11, 12, 13] (by decide) rfl) hS
            · skip
              rw [nI_leI (by omega) (by omega)] at c_2
              refine lv_iconst (pc := 37) (v := nI 0) hx hb dX10_mac3_37 (by decide +kernel) ?_
              refine lv_istore (pc := 38) (lv' := [(4, .int (nI 0)), (3, .int (nI (8 * i))), (0, .ref h0), (1, .ref hk), (2, .int (nI fr))]) hx hb dX10_mac3_38 hl (by decide) rfl (fun ls hl => ?_)
              have LP40 : ∀ (nn40 : Nat) (d : Nat) (d' : Nat → BitVec 8), (d ≤ 8) → (qSeg d' c' 0 d (fun j => c' j ^^^ gm1_3 (8 * i + j))) → (8 - d < nn40) → ∀ (H : Heap) (locs : List Loc), va_P D vwCl [(a 24, aS ta 16 d'), (a 0, aK ta 64 tIP), (a 1, aK ta 48 tSPR), (a 2, aK ta 32 tMIX), (a 3, aK ta 56 tCH), (a 4, aK ta 48 tSEC), (a 5, aK ta 512 tSBX), (a 10, aB ta 64 xb), (a 11, aB ta 64 xt), (a 12, aB ta 56 xc), (a 13, aB ta 768 xs), (a 14, aB ta 32 xh), (a 15, aB ta 48 xw), (hk, aS ta capk gk), (h0, oM a ar mn1_3 tp osz lsz ns ct), (a 22, aS ta 700 gm1_3)] H → va_D A [(a 24, aS ta 16 d'), (a 0, aK ta 64 tIP), (a 1, aK ta 48 tSPR), (a 2, aK ta 32 tMIX), (a 3, aK ta 56 tCH), (a 4, aK ta 48 tSEC), (a 5, aK ta 512 tSBX), (a 10, aB ta 64 xb), (a 11, aB ta 64 xt), (a 12, aB ta 56 xc), (a 13, aB ta 768 xs), (a 14, aB ta 32 xh), (a 15, aB ta 48 xw), (hk, aS ta capk gk), (h0, oM a ar mn1_3 tp osz lsz ns ct), (a 22, aS ta 700 gm1_3)] → va_S A ss.heap H locs → ∀ ls : Array Slot, lv_has ls 5 [(4, .int (nI d)), (3, .int (nI (8 * i))), (0, .ref h0), (1, .ref hk), (2, .int (nI fr))] → W pp ll ee ({ frames := 3, cells := 0, slots := 0, locals := 85 } : Room) ss mm (([.ref h0, .ref hk, .int (nI fr)] : List Value).toArray) below meth kc H locs 0 0 Q (F0 mm 40 ls []) := by
                intro nn40
                induction nn40 with
                | zero => intro d d' hdd hd hmu; exact absurd hmu (Nat.not_lt_zero _)
                | succ nn40 ih40 =>
                  intro d d' hdd hd hmu40 H locs hP hD hS ls hl
                  refine lv_iload (pc := 40) hx hb dX10_mac3_40 (lv_at hl 0 rfl) ?_
                  refine lv_bipush (pc := 42) (v := nI 8) hx hb dX10_mac3_42 (by decide +kernel) ?_
                  refine lv_icmp_ge (pc := 44) (tgt := 73) hx hb dX10_mac3_44 (by decide) (fun c_4 => ?_) (fun c_4 => ?_)
                  · skip
                    rw [nI_leI (by omega) (by omega)] at c_4
                    refine lv_aload_n (pc := 73) hx hb dX10_mac3_73 rfl (lv_at hl 2 rfl) ?_
                    refine lv_aload_n (pc := 74) hx hb dX10_mac3_74 rfl (lv_at hl 2 rfl) ?_
                    refine va_get (pc := 75) (D := D) (ci := 8) (v := .ref (a 24)) (C := RX10) (T := TX10) (N := 57) hx hb hts iu10 hown hK hP 14 rfl rfl 24 (by decide) (hts _ tw_1069) (fun _ h9 => h9) rfl dX10_mac3_75 ?_
                    refine lv_iconst (pc := 78) (v := nI 0) hx hb dX10_mac3_78 (by decide +kernel) ?_
                    refine lv_aload_n (pc := 79) hx hb dX10_mac3_79 rfl (lv_at hl 3 rfl) ?_
                    refine lv_iload_n (pc := 80) hx hb dX10_mac3_80 rfl (lv_at hl 4 rfl) ?_
                    refine lv_iconst (pc := 81) (v := nI 0) hx hb dX10_mac3_81 (by decide +kernel) ?_
                    refine cs_V (pc := 82) (idx := 97) (n := 5) (wr := [(a 22, aS ta 700 gm1_3)]) (As := [.ref (a 24), .int (nI 0), .ref hk, .int (nI fr), .int (nI 0)]) (rest := []) (ci := 8) hx hb hml hown hts hGok hK hA hG hl.1 hP hD hS (ct_X10_des3_L ll D ta hGok h0 a ar mn1_3 tp osz lsz ns ct (a 24) 0 16 d' hk fr capk gk xb xt xc xs xh xw false (by first | assumption | omega | rfl | decide) (by first | assumption | omega | rfl | decide) (by first | assumption | omega | rfl | decide) (by first | assumption | omega | rfl | decide) H.size) tw_1290 tw_1287 tw_1289 tw_32 tw_75 hdX10_des3 rfl ⟨rfl, rfl, Nat.le_of_ble_eq_true rfl, Nat.le_of_ble_eq_true rfl, Nat.le_of_ble_eq_true rfl, Nat.le_of_ble_eq_true rfl⟩ rfl rfl (q0 := 14) rfl [14, 1, 2, 3, 4, 5, 6, 7, 8, 9, 10, 11, 12, 0, 13] [15] rfl rfl (by decide) rfl (Nat.le_of_ble_eq_true rfl) dX10_mac3_82 (fun u H locs hq hP hD hS => ?_)
                    obtain ⟨gb1_82, bi1_82, tu1_82, cd1_82, sk1_82, hf1_82, wd1_82⟩ := u
                    have hq : (seg gb1_82 0 8 = tdesL (seg gk fr 16) false (seg d' 0 8)) ∧ (∀ j, (j < 0 ∨ 0 + 8 ≤ j) → gb1_82 j = d' j) := hq
                    obtain ⟨hs_82, hfr_82⟩ := hq
                    refine W.eq (g2 := F0 mm 85 ls []) rfl ?_
                    have hP : va_P D vwCl [(a 22, aS ta 700 gm1_3), (h0, oM a ar mn1_3 tp osz lsz ns ct), (a 0, aK ta 64 tIP), (a 1, aK ta 48 tSPR), (a 2, aK ta 32 tMIX), (a 3, aK ta 56 tCH), (a 4, aK ta 48 tSEC), (a 5, aK ta 512 tSBX), (a 10, aB ta 64 bi1_82), (a 11, aB ta 64 tu1_82), (a 12, aB ta 56 cd1_82), (a 13, aB ta 768 sk1_82), (a 14, aB ta 32 hf1_82), (a 15, aB ta 48 wd1_82), (a 24, aS ta 16 gb1_82), (hk, aS ta capk gk)] H := hP
                    have hD : va_D A [(a 22, aS ta 700 gm1_3), (h0, oM a ar mn1_3 tp osz lsz ns ct), (a 0, aK ta 64 tIP), (a 1, aK ta 48 tSPR), (a 2, aK ta 32 tMIX), (a 3, aK ta 56 tCH), (a 4, aK ta 48 tSEC), (a 5, aK ta 512 tSBX), (a 10, aB ta 64 bi1_82), (a 11, aB ta 64 tu1_82), (a 12, aB ta 56 cd1_82), (a 13, aB ta 768 sk1_82), (a 14, aB ta 32 hf1_82), (a 15, aB ta 48 wd1_82), (a 24, aS ta 16 gb1_82), (hk, aS ta capk gk)] := hD
                    refine lv_iinc (pc := 85) (v := nI (8 * i + 8)) (lv' := [(3, .int (nI (8 * i + 8))), (4, .int (nI d)), (0, .ref h0), (1, .ref hk), (2, .int (nI fr))]) hx hb dX10_mac3_85 hl (k := 1) rfl (by first | exact nI_add (8 * i) 8 | rfl) (by decide) rfl (fun ls hl => ?_)
                    refine lv_goto (pc := 88) (tgt := 29) hx hb dX10_mac3_88 (by decide) ?_
                    exact ih29 (i + 1) gb1_82 bi1_82 tu1_82 cd1_82 sk1_82 hf1_82 wd1_82 (by omega) (by rw [← seg_0, hs_82]; exact cbcM_next trivial hc hL_3 (qSeg_segk hd (by omega)) (by omega)) (by omega) _ _ (hP.sub [14, 2, 3, 4, 5, 6, 7, 8, 9, 10, 11, 12, 13, 15, 1, 0] rfl) (hD.sub [14, 2, 3, 4, 5, 6, 7, 8, 9, 10, 11, 12, 13, 15, 1, 0] (by decide) rfl) hS ls (lv_sub hl [0, 2, 3, 4] rfl)
                  · skip
                    rw [nI_leI (by omega) (by omega)] at c_4
                    refine lv_aload_n (pc := 47) hx hb dX10_mac3_47 rfl (lv_at hl 2 rfl) ?_
                    refine va_get (pc := 48) (D := D) (ci := 8) (v := .ref (a 24)) (C := RX10) (T := TX10) (N := 57) hx hb hts iu10 hown hK hP 14 rfl rfl 24 (by decide) (hts _ tw_1069) (fun _ h9 => h9) rfl dX10_mac3_48 ?_
                    refine lv_iload (pc := 51) hx hb dX10_mac3_51 (lv_at hl 0 rfl) ?_
                    refine lv_dup2_11 (pc := 53) hx hb dX10_mac3_53 rfl rfl ?_
                    refine q_bald (pc := 54) hx hb hK hP 0 2 rfl rfl (k := d) (v := qs (d' d)) rfl (by omega) (by omega) rfl dX10_mac3_54 ?_
                    refine lv_aload_n (pc := 55) hx hb dX10_mac3_55 rfl (lv_at hl 2 rfl) ?_
                    refine va_get (pc := 56) (D := D) (ci := 8) (v := .ref (a 22)) (C := RX10) (T := TX10) (N := 57) hx hb hts iu10 hown hK hP 14 rfl rfl 22 (by decide) (hts _ tw_1067) (fun _ h9 => h9) rfl dX10_mac3_56 ?_
                    refine lv_iload_n (pc := 59) hx hb dX10_mac3_59 rfl (lv_at hl 1 rfl) ?_
                    refine lv_iload (pc := 60) hx hb dX10_mac3_60 (lv_at hl 0 rfl) ?_
                    refine lv_iadd (pc := 62) hx hb dX10_mac3_62 ?_
                    refine q_top (y := nI (8 * i + d)) (nI_add (8 * i) d) ?_
                    refine q_bald (pc := 63) hx hb hK hP 15 2 rfl rfl (k := 8 * i + d) (v := qs (gm1_3 (8 * i + d))) rfl (by omega) (by omega) rfl dX10_mac3_63 ?_
                    refine lv_ixor (pc := 64) hx hb dX10_mac3_64 ?_
                    refine q_top (y := qs ((d' d) ^^^ (gm1_3 (8 * i + d)))) (q_xor_s _ _) ?_
                    refine lv_i2b (pc := 65) (v := qs ((d' d) ^^^ (gm1_3 (8 * i + d)))) hx hb dX10_mac3_65 (q_i2b_s _) ?_
                    refine q_bastS (pc := 66) hx hb hK hP hD hS 0 2 rfl rfl (k := d) rfl (by omega) (by omega) (b := (d' d) ^^^ (gm1_3 (8 * i + d))) (qlo_qs _) dX10_mac3_66 (fun H locs hP hD hS => ?_)
                    have hP : va_P D vwCl [(a 24, aS ta 16 (qU d' d ((d' d) ^^^ (gm1_3 (8 * i + d))))), (a 0, aK ta 64 tIP), (a 1, aK ta 48 tSPR), (a 2, aK ta 32 tMIX), (a 3, aK ta 56 tCH), (a 4, aK ta 48 tSEC), (a 5, aK ta 512 tSBX), (a 10, aB ta 64 xb), (a 11, aB ta 64 xt), (a 12, aB ta 56 xc), (a 13, aB ta 768 xs), (a 14, aB ta 32 xh), (a 15, aB ta 48 xw), (hk, aS ta capk gk), (h0, oM a ar mn1_3 tp osz lsz ns ct), (a 22, aS ta 700 gm1_3)] H := hP
                    have hD : va_D A [(a 24, aS ta 16 (qU d' d ((d' d) ^^^ (gm1_3 (8 * i + d))))), (a 0, aK ta 64 tIP), (a 1, aK ta 48 tSPR), (a 2, aK ta 32 tMIX), (a 3, aK ta 56 tCH), (a 4, aK ta 48 tSEC), (a 5, aK ta 512 tSBX), (a 10, aB ta 64 xb), (a 11, aB ta 64 xt), (a 12, aB ta 56 xc), (a 13, aB ta 768 xs), (a 14, aB ta 32 xh), (a 15, aB ta 48 xw), (hk, aS ta capk gk), (h0, oM a ar mn1_3 tp osz lsz ns ct), (a 22, aS ta 700 gm1_3)] := hD
                    refine lv_iinc (pc := 67) (v := nI (d + 1)) (lv' := [(4, .int (nI (d + 1))), (3, .int (nI (8 * i))), (0, .ref h0), (1, .ref hk), (2, .int (nI fr))]) hx hb dX10_mac3_67 hl (k := 0) rfl (by first | exact nI_add d 1 | rfl) (by decide) rfl (fun ls hl => ?_)
                    refine lv_goto (pc := 70) (tgt := 40) hx hb dX10_mac3_70 (by decide) ?_
                    exact ih40 (d + 1) (qU d' d ((d' d) ^^^ (gm1_3 (8 * i + d)))) (by omega) (qSeg_s hd (by omega) (by rw [hd.2 _ (by omega)])) (by omega) _ _ (hP.sub [0, 1, 2, 3, 4, 5, 6, 7, 8, 9, 10, 11, 12, 13, 14, 15] rfl) (hD.sub [0, 1, 2, 3, 4, 5, 6, 7, 8, 9, 10, 11, 12, 13, 14, 15] (by decide) rfl) hS ls (lv_sub hl [0, 1, 2, 3, 4] rfl)
              exact LP40 _ 0 c' (by omega) (qSeg_0) (Nat.lt_succ_self _) _ _ (hP.sub [0, 1, 2, 3, 4, 5, 6, 7, 8, 9, 10, 11, 12, 13, 14, 15] rfl) (hD.sub [0, 1, 2, 3, 4, 5, 6, 7, 8, 9, 10, 11, 12, 13, 14, 15] (by decide) rfl) hS ls (lv_sub hl [0, 1, 2, 3, 4] rfl)
        exact LP29 _ 0 z' bi tu cd sk hf wd (by omega) (by rw [← seg_0, qSeg_segk hz (by omega)]; rfl) (Nat.lt_succ_self _) _ _ (hP.sub [0, 1, 2, 3, 4, 5, 6, 7, 8, 9, 10, 11, 12, 13, 14, 15] rfl) (hD.sub [0, 1, 2, 3, 4, 5, 6, 7, 8, 9, 10, 11, 12, 13, 14, 15] (by decide) rfl) hS ls (lv_sub hl [0, 1, 2, 3] rfl)
      · skip
        rw [nI_leI (by omega) (by omega)] at c_1
        refine lv_aload_n (pc := 14) hx hb dX10_mac3_14 rfl (lv_at hl 1 rfl) ?_
        refine va_get (pc := 15) (D := D) (ci := 8) (v := .ref (a 24)) (C := RX10) (T := TX10) (N := 57) hx hb hts iu10 hown hK hP 14 rfl rfl 24 (by decide) (hts _ tw_1069) (fun _ h9 => h9) rfl dX10_mac3_15 ?_
        refine lv_iload_n (pc := 18) hx hb dX10_mac3_18 rfl (lv_at hl 0 rfl) ?_
        refine lv_iconst (pc := 19) (v := nI 0) hx hb dX10_mac3_19 (by decide +kernel) ?_
        refine q_bastS (pc := 20) hx hb hK hP hD hS 0 2 rfl rfl (k := k) rfl (by omega) (by omega) (b := BitVec.ofNat 8 0) (qlo_nI _) dX10_mac3_20 (fun H locs hP hD hS => ?_)
        have hP : va_P D vwCl [(a 24, aS ta 16 (qU z' k (BitVec.ofNat 8 0))), (a 0, aK ta 64 tIP), (a 1, aK ta 48 tSPR), (a 2, aK ta 32 tMIX), (a 3, aK ta 56 tCH), (a 4, aK ta 48 tSEC), (a 5, aK ta 512 tSBX), (a 10, aB ta 64 bi), (a 11, aB ta 64 tu), (a 12, aB ta 56 cd), (a 13, aB ta 768 sk), (a 14, aB ta 32 hf), (a 15, aB ta 48 wd), (hk, aS ta capk gk), (h0, oM a ar mn1_3 tp osz lsz ns ct), (a 22, aS ta 700 gm1_3)] H := hP
        have hD : va_D A [(a 24, aS ta 16 (qU z' k (BitVec.ofNat 8 0))), (a 0, aK ta 64 tIP), (a 1, aK ta 48 tSPR), (a 2, aK ta 32 tMIX), (a 3, aK ta 56 tCH), (a 4, aK ta 48 tSEC), (a 5, aK ta 512 tSBX), (a 10, aB ta 64 bi), (a 11, aB ta 64 tu), (a 12, aB ta 56 cd), (a 13, aB ta 768 sk), (a 14, aB ta 32 hf), (a 15, aB ta 48 wd), (hk, aS ta capk gk), (h0, oM a ar mn1_3 tp osz lsz ns ct), (a 22, aS ta 700 gm1_3)] := hD
        refine lv_iinc (pc := 21) (v := nI (k + 1)) (lv' := [(3, .int (nI (k + 1))), (0, .ref h0), (1, .ref hk), (2, .int (nI fr))]) hx hb dX10_mac3_21 hl (k := 0) rfl (by first | exact nI_add k 1 | rfl) (by decide) rfl (fun ls hl => ?_)
        refine lv_goto (pc := 24) (tgt := 8) hx hb dX10_mac3_24 (by decide) ?_
        exact ih8 (k + 1) (qU z' k (BitVec.ofNat 8 0)) (by omega) (qSeg_s hz (by omega) rfl) (by omega) _ _ (hP.sub [0, 1, 2, 3, 4, 5, 6, 7, 8, 9, 10, 11, 12, 13, 14, 15] rfl) (hD.sub [0, 1, 2, 3, 4, 5, 6, 7, 8, 9, 10, 11, 12, 13, 14, 15] (by decide) rfl) hS ls (lv_sub hl [0, 1, 2, 3] rfl)
  exact LP8 _ 0 mac (by omega) (qSeg_0) (Nat.lt_succ_self _) _ _ (hP.sub [0, 1, 2, 3, 4, 5, 6, 7, 8, 9, 10, 11, 12, 13, 14, 15] rfl) (hD.sub [0, 1, 2, 3, 4, 5, 6, 7, 8, 9, 10, 11, 12, 13, 14, 15] (by decide) rfl) hS ls (lv_sub hl [0, 1, 2, 3] rfl)
theorem hdX10_retail : yX10_retail.cls ≠ "java/lang/invoke/MethodHandle" ∧ yX10_retail.cls ≠ "java/lang/invoke/VarHandle" ∧ (parseMethodDescriptor yX10_retail.desc).map (fun d => d.parameters.length) = some 4 := ⟨by decide +kernel, by decide +kernel, by decide +kernel⟩
theorem dX10_retail_0 : decode cX10_retail 0 = .ok (.aload_n 0, 1) := by decide +kernel
theorem dX10_retail_1 : decode cX10_retail 1 = .ok (.bipush 8, 2) := by decide +kernel
theorem dX10_retail_3 : decode cX10_retail 3 = .ok (.invokevirtual 91, 3) := by decide +kernel
theorem dX10_retail_6 : decode cX10_retail 6 = .ok (.iconst 0, 1) := by decide +kernel
theorem dX10_retail_7 : decode cX10_retail 7 = .ok (.istore 5, 2) := by decide +kernel
theorem dX10_retail_9 : decode cX10_retail 9 = .ok (.iload 5, 2) := by decide +kernel
theorem dX10_retail_11 : decode cX10_retail 11 = .ok (.bipush 8, 2) := by decide +kernel
theorem dX10_retail_13 : decode cX10_retail 13 = .ok (.if_icmp .ge 23, 3) := by decide +kernel
theorem dX10_retail_16 : decode cX10_retail 16 = .ok (.aload_n 0, 1) := by decide +kernel
theorem dX10_retail_17 : decode cX10_retail 17 = .ok (.getfield 94, 3) := by decide +kernel
theorem dX10_retail_20 : decode cX10_retail 20 = .ok (.iload 5, 2) := by decide +kernel
theorem dX10_retail_22 : decode cX10_retail 22 = .ok (.aload_n 3, 1) := by decide +kernel
theorem dX10_retail_23 : decode cX10_retail 23 = .ok (.iload 4, 2) := by decide +kernel
theorem dX10_retail_25 : decode cX10_retail 25 = .ok (.iload 5, 2) := by decide +kernel
theorem dX10_retail_27 : decode cX10_retail 27 = .ok (.iadd, 1) := by decide +kernel
theorem dX10_retail_28 : decode cX10_retail 28 = .ok (.baload, 1) := by decide +kernel
theorem dX10_retail_29 : decode cX10_retail 29 = .ok (.bastore, 1) := by decide +kernel
theorem dX10_retail_30 : decode cX10_retail 30 = .ok (.iinc 5 1, 3) := by decide +kernel
theorem dX10_retail_33 : decode cX10_retail 33 = .ok (.goto (-24), 3) := by decide +kernel
theorem dX10_retail_36 : decode cX10_retail 36 = .ok (.iconst 0, 1) := by decide +kernel
theorem dX10_retail_37 : decode cX10_retail 37 = .ok (.istore 5, 2) := by decide +kernel
theorem dX10_retail_39 : decode cX10_retail 39 = .ok (.iload 5, 2) := by decide +kernel
theorem dX10_retail_41 : decode cX10_retail 41 = .ok (.aload_n 0, 1) := by decide +kernel
theorem dX10_retail_42 : decode cX10_retail 42 = .ok (.getfield 81, 3) := by decide +kernel
theorem dX10_retail_45 : decode cX10_retail 45 = .ok (.if_icmp .ge 58, 3) := by decide +kernel
theorem dX10_retail_48 : decode cX10_retail 48 = .ok (.iconst 0, 1) := by decide +kernel
theorem dX10_retail_49 : decode cX10_retail 49 = .ok (.istore 6, 2) := by decide +kernel
theorem dX10_retail_51 : decode cX10_retail 51 = .ok (.iload 6, 2) := by decide +kernel
theorem dX10_retail_53 : decode cX10_retail 53 = .ok (.bipush 8, 2) := by decide +kernel
theorem dX10_retail_55 : decode cX10_retail 55 = .ok (.if_icmp .ge 30, 3) := by decide +kernel
theorem dX10_retail_58 : decode cX10_retail 58 = .ok (.aload_n 0, 1) := by decide +kernel
theorem dX10_retail_59 : decode cX10_retail 59 = .ok (.getfield 94, 3) := by decide +kernel
theorem dX10_retail_62 : decode cX10_retail 62 = .ok (.iload 6, 2) := by decide +kernel
theorem dX10_retail_64 : decode cX10_retail 64 = .ok (.dup2, 1) := by decide +kernel
theorem dX10_retail_65 : decode cX10_retail 65 = .ok (.baload, 1) := by decide +kernel
theorem dX10_retail_66 : decode cX10_retail 66 = .ok (.aload_n 0, 1) := by decide +kernel
theorem dX10_retail_67 : decode cX10_retail 67 = .ok (.getfield 84, 3) := by decide +kernel
theorem dX10_retail_70 : decode cX10_retail 70 = .ok (.iload 5, 2) := by decide +kernel
theorem dX10_retail_72 : decode cX10_retail 72 = .ok (.iload 6, 2) := by decide +kernel
theorem dX10_retail_74 : decode cX10_retail 74 = .ok (.iadd, 1) := by decide +kernel
theorem dX10_retail_75 : decode cX10_retail 75 = .ok (.baload, 1) := by decide +kernel
theorem dX10_retail_76 : decode cX10_retail 76 = .ok (.ixor, 1) := by decide +kernel
theorem dX10_retail_77 : decode cX10_retail 77 = .ok (.i2b, 1) := by decide +kernel
theorem dX10_retail_78 : decode cX10_retail 78 = .ok (.bastore, 1) := by decide +kernel
theorem dX10_retail_79 : decode cX10_retail 79 = .ok (.iinc 6 1, 3) := by decide +kernel
theorem dX10_retail_82 : decode cX10_retail 82 = .ok (.goto (-31), 3) := by decide +kernel
theorem dX10_retail_85 : decode cX10_retail 85 = .ok (.aload_n 0, 1) := by decide +kernel
theorem dX10_retail_86 : decode cX10_retail 86 = .ok (.aload_n 0, 1) := by decide +kernel
theorem dX10_retail_87 : decode cX10_retail 87 = .ok (.getfield 94, 3) := by decide +kernel
theorem dX10_retail_90 : decode cX10_retail 90 = .ok (.iconst 0, 1) := by decide +kernel
theorem dX10_retail_91 : decode cX10_retail 91 = .ok (.aload_n 1, 1) := by decide +kernel
theorem dX10_retail_92 : decode cX10_retail 92 = .ok (.iload_n 2, 1) := by decide +kernel
theorem dX10_retail_93 : decode cX10_retail 93 = .ok (.iconst 0, 1) := by decide +kernel
theorem dX10_retail_94 : decode cX10_retail 94 = .ok (.invokevirtual 44, 3) := by decide +kernel
theorem dX10_retail_97 : decode cX10_retail 97 = .ok (.iinc 5 8, 3) := by decide +kernel
theorem dX10_retail_100 : decode cX10_retail 100 = .ok (.goto (-61), 3) := by decide +kernel
theorem dX10_retail_103 : decode cX10_retail 103 = .ok (.aload_n 0, 1) := by decide +kernel
theorem dX10_retail_104 : decode cX10_retail 104 = .ok (.aload_n 0, 1) := by decide +kernel
theorem dX10_retail_105 : decode cX10_retail 105 = .ok (.getfield 94, 3) := by decide +kernel
theorem dX10_retail_108 : decode cX10_retail 108 = .ok (.iconst 0, 1) := by decide +kernel
theorem dX10_retail_109 : decode cX10_retail 109 = .ok (.aload_n 1, 1) := by decide +kernel
theorem dX10_retail_110 : decode cX10_retail 110 = .ok (.iload_n 2, 1) := by decide +kernel
theorem dX10_retail_111 : decode cX10_retail 111 = .ok (.bipush 8, 2) := by decide +kernel
theorem dX10_retail_113 : decode cX10_retail 113 = .ok (.iadd, 1) := by decide +kernel
theorem dX10_retail_114 : decode cX10_retail 114 = .ok (.iconst 1, 1) := by decide +kernel
theorem dX10_retail_115 : decode cX10_retail 115 = .ok (.invokevirtual 44, 3) := by decide +kernel
theorem dX10_retail_118 : decode cX10_retail 118 = .ok (.aload_n 0, 1) := by decide +kernel
theorem dX10_retail_119 : decode cX10_retail 119 = .ok (.aload_n 0, 1) := by decide +kernel
theorem dX10_retail_120 : decode cX10_retail 120 = .ok (.getfield 94, 3) := by decide +kernel
theorem dX10_retail_123 : decode cX10_retail 123 = .ok (.iconst 0, 1) := by decide +kernel
theorem dX10_retail_124 : decode cX10_retail 124 = .ok (.aload_n 1, 1) := by decide +kernel
theorem dX10_retail_125 : decode cX10_retail 125 = .ok (.iload_n 2, 1) := by decide +kernel
theorem dX10_retail_126 : decode cX10_retail 126 = .ok (.iconst 0, 1) := by decide +kernel
theorem dX10_retail_127 : decode cX10_retail 127 = .ok (.invokevirtual 44, 3) := by decide +kernel
theorem dX10_retail_130 : decode cX10_retail 130 = .ok (.return_, 1) := by decide +kernel
set_option maxHeartbeats 4000000 in
set_option maxRecDepth 100000 in
theorem ct_X10_retail (ll : Launch) (D : va_G) (ta : Nat → ClassId) {G : (Nat → Prop) → State → Heap → Prop} (hGok : GOK G) (h0 : Nat) (a : Nat → Nat) (ar : Nat) (mn : Nat) (tp : Nat) (osz : Nat) (lsz : Nat) (ns : Nat) (ct : Nat) (gm : Nat → BitVec 8) (mac : Nat → BitVec 8) (hk : Nat) (fr : Nat) (capk : Nat) (gk : Nat → BitVec 8) (hi : Nat) (fi : Nat) (capi : Nat) (gi : Nat → BitVec 8) (bi : Nat → Bool) (tu : Nat → Bool) (cd : Nat → Bool) (sk : Nat → Bool) (hf : Nat → Bool) (wd : Nat → Bool) (hmn : (mn / 8 + 1) * 8 ≤ 700) (hf16 : fr + 16 ≤ capk) (hck : capk < 2147483648) (hfi : fi + 8 ≤ capi) (hci : capi < 2147483648) (sz : Nat) : CT ll yX10_retail cX10_retail 7 none ({ frames := 2, cells := 0, slots := 0, locals := 60 } : Room) D ta G [.ref h0, .ref hk, .int (nI fr), .ref hi, .int (nI fi)] [(h0, oM a ar mn tp osz lsz ns ct), (a 22, aS ta 700 gm), (a 24, aS ta 16 mac), (a 0, aK ta 64 tIP), (a 1, aK ta 48 tSPR), (a 2, aK ta 32 tMIX), (a 3, aK ta 56 tCH), (a 4, aK ta 48 tSEC), (a 5, aK ta 512 tSBX), (a 10, aB ta 64 bi), (a 11, aB ta 64 tu), (a 12, aB ta 56 cd), (a 13, aB ta 768 sk), (a 14, aB ta 32 hf), (a 15, aB ta 48 wd), (hk, aS ta capk gk), (hi, aS ta capi gi)] sz (S := (Nat → BitVec 8) × Nat × (Nat → BitVec 8) × (Nat → Bool) × (Nat → Bool) × (Nat → Bool) × (Nat → Bool) × (Nat → Bool) × (Nat → Bool)) (fun _ => none) (fun u => (seg u.2.2.1 0 8 = retailL (seg gk fr 16) (seg gi fi 8) (qL gm mn))) (fun u => [(h0, oM a ar u.2.1 tp osz lsz ns ct), (a 22, aS ta 700 u.1), (a 24, aS ta 16 u.2.2.1), (a 0, aK ta 64 tIP), (a 1, aK ta 48 tSPR), (a 2, aK ta 32 tMIX), (a 3, aK ta 56 tCH), (a 4, aK ta 48 tSEC), (a 5, aK ta 512 tSBX), (a 10, aB ta 64 u.2.2.2.1), (a 11, aB ta 64 u.2.2.2.2.1), (a 12, aB ta 56 u.2.2.2.2.2.1), (a 13, aB ta 768 u.2.2.2.2.2.2.1), (a 14, aB ta 32 u.2.2.2.2.2.2.2.1), (a 15, aB ta 48 u.2.2.2.2.2.2.2.2), (hk, aS ta capk gk), (hi, aS ta capi gi)]) 0 0 := by
  refine CT.of_v rfl (by decide) (Nat.le_of_ble_eq_true rfl) ?_
  intro pp ee ss mm below meth kc A Q hx hb hml hown hin hts hK hA hsz hG hret H locs hP hD hS ls hl
  have hl : lv_has ls 7 [(0, .ref h0), (1, .ref hk), (2, .int (nI fr)), (3, .ref hi), (4, .int (nI fi))] := hl
  refine lv_aload_n (pc := 0) hx hb dX10_retail_0 rfl (lv_at hl 0 rfl) ?_
  refine lv_bipush (pc := 1) (v := nI 8) hx hb dX10_retail_1 (by decide +kernel) ?_
  refine cs_V (pc := 3) (idx := 91) (n := 1) (wr := [(a 24, aS ta 16 mac), (a 0, aK ta 64 tIP), (a 1, aK ta 48 tSPR), (a 2, aK ta 32 tMIX), (a 3, aK ta 56 tCH), (a 4, aK ta 48 tSEC), (a 5, aK ta 512 tSBX), (a 10, aB ta 64 bi), (a 11, aB ta 64 tu), (a 12, aB ta 56 cd), (a 13, aB ta 768 sk), (a 14, aB ta 32 hf), (a 15, aB ta 48 wd), (hk, aS ta capk gk), (hi, aS ta capi gi)]) (As := [.int (nI 8)]) (rest := []) (ci := 8) hx hb hml hown hts hGok hK hA hG hl.1 hP hD hS (ct_X10_fillUp8 ll D ta hGok h0 a ar mn tp osz lsz ns ct gm (by first | assumption | omega | rfl | decide) H.size) tw_1318 tw_1315 tw_1317 tw_39 tw_75 hdX10_fillUp rfl ⟨rfl, rfl, Nat.le_of_ble_eq_true rfl, Nat.le_of_ble_eq_true rfl, Nat.le_of_ble_eq_true rfl, Nat.le_of_ble_eq_true rfl⟩ rfl rfl (q0 := 0) rfl [0, 1] [2, 3, 4, 5, 6, 7, 8, 9, 10, 11, 12, 13, 14, 15, 16] rfl rfl (by decide) rfl (Nat.le_of_ble_eq_true rfl) dX10_retail_3 (fun u H locs hq hP hD hS => ?_)
  obtain ⟨gm1_3, mn1_3⟩ := u
  have hq : (mn1_3 = (mn / 8 + 1) * 8) ∧ (qL gm1_3 mn1_3 = qpad 8 (qL gm mn)) := hq
  obtain ⟨hm_3, hL_3⟩ := hq
  refine W.eq (g2 := F0 mm 6 ls []) rfl ?_
  have hP : va_P D vwCl [(a 24, aS ta 16 mac), (a 0, aK ta 64 tIP), (a 1, aK ta 48 tSPR), (a 2, aK ta 32 tMIX), (a 3, aK ta 56 tCH), (a 4, aK ta 48 tSEC), (a 5, aK ta 512 tSBX), (a 10, aB ta 64 bi), (a 11, aB ta 64 tu), (a 12, aB ta 56 cd), (a 13, aB ta 768 sk), (a 14, aB ta 32 hf), (a 15, aB ta 48 wd), (hk, aS ta capk gk), (hi, aS ta capi gi), (h0, oM a ar mn1_3 tp osz lsz ns ct), (a 22, aS ta 700 gm1_3)] H := hP
  have hD : va_D A [(a 24, aS ta 16 mac), (a 0, aK ta 64 tIP), (a 1, aK ta 48 tSPR), (a 2, aK ta 32 tMIX), (a 3, aK ta 56 tCH), (a 4, aK ta 48 tSEC), (a 5, aK ta 512 tSBX), (a 10, aB ta 64 bi), (a 11, aB ta 64 tu), (a 12, aB ta 56 cd), (a 13, aB ta 768 sk), (a 14, aB ta 32 hf), (a 15, aB ta 48 wd), (hk, aS ta capk gk), (hi, aS ta capi gi), (h0, oM a ar mn1_3 tp osz lsz ns ct), (a 22, aS ta 700 gm1_3)] := hD
  refine lv_iconst (pc := 6) (v := nI 0) hx hb dX10_retail_6 (by decide +kernel) ?_
  refine lv_istore (pc := 7) (lv' := [(5, .int (nI 0)), (0, .ref h0), (1, .ref hk), (2, .int (nI fr)), (3, .ref hi), (4, .int (nI fi))]) hx hb dX10_retail_7 hl (by decide) rfl (fun ls hl => ?_)
  have LP9 : ∀ (nn9 : Nat) (k : Nat) (z' : Nat → BitVec 8), (k ≤ 8) → (qSeg z' mac 0 k (fun j => gi (fi + j))) → (8 - k < nn9) → ∀ (H : Heap) (locs : List Loc), va_P D vwCl [(a 24, aS ta 16 z'), (a 0, aK ta 64 tIP), (a 1, aK ta 48 tSPR), (a 2, aK ta 32 tMIX), (a 3, aK ta 56 tCH), (a 4, aK ta 48 tSEC), (a 5, aK ta 512 tSBX), (a 10, aB ta 64 bi), (a 11, aB ta 64 tu), (a 12, aB ta 56 cd), (a 13, aB ta 768 sk), (a 14, aB ta 32 hf), (a 15, aB ta 48 wd), (hk, aS ta capk gk), (hi, aS ta capi gi), (h0, oM a ar mn1_3 tp osz lsz ns ct), (a 22, aS ta 700 gm1_3)] H → va_D A [(a 24, aS ta 16 z'), (a 0, aK ta 64 tIP), (a 1, aK ta 48 tSPR), (a 2, aK ta 32 tMIX), (a 3, aK ta 56 tCH), (a 4, aK ta 48 tSEC), (a 5, aK ta 512 tSBX), (a 10, aB ta 64 bi), (a 11, aB ta 64 tu), (a 12, aB ta 56 cd), (a 13, aB ta 768 sk), (a 14, aB ta 32 hf), (a 15, aB ta 48 wd), (hk, aS ta capk gk), (hi, aS ta capi gi), (h0, oM a ar mn1_3 tp osz lsz ns ct), (a 22, aS ta 700 gm1_3)] → va_S A ss.heap H locs → ∀ ls : Array Slot, lv_has ls 7 [(5, .int (nI k)), (0, .ref h0), (1, .ref hk), (2, .int (nI fr)), (3, .ref hi), (4, .int (nI fi))] → W pp ll ee ({ frames := 2, cells := 0, slots := 0, locals := 60 } : Room) ss mm (([.ref h0, .ref hk, .int (nI fr), .ref hi, .int (nI fi)] : List Value).toArray) below meth kc H locs 0 0 Q (F0 mm 9 ls []) := by
    intro nn9
    induction nn9 with
    | zero => intro k z' hkk hz hmu; exact absurd hmu (Nat.not_lt_zero _)
    | succ nn9 ih9 =>
      intro k z' hkk hz hmu9 H locs hP hD hS ls hl
      refine lv_iload (pc := 9) hx hb dX10_retail_9 (lv_at hl 0 rfl) ?_
      refine lv_bipush (pc := 11) (v := nI 8) hx hb dX10_retail_11 (by decide +kernel) ?_
      refine lv_icmp_ge (pc := 13) (tgt := 36) hx hb dX10_retail_13 (by decide) (fun c_1 => ?_) (fun c_1 => ?_)
      · skip
        rw [nI_leI (by omega) (by omega)] at c_1
        refine lv_iconst (pc := 36) (v := nI 0) hx hb dX10_retail_36 (by decide +kernel) ?_
        refine lv_istore (pc := 37) (lv' := [(5, .int (nI 0)), (0, .ref h0), (1, .ref hk), (2, .int (nI fr)), (3, .ref hi), (4, .int (nI fi))]) hx hb dX10_retail_37 hl (by decide) rfl (fun ls hl => ?_)
        have LP39 : ∀ (nn39 : Nat) (i : Nat) (c' : Nat → BitVec 8) (xb : Nat → Bool) (xt : Nat → Bool) (xc : Nat → Bool) (xs : Nat → Bool) (xh : Nat → Bool) (xw : Nat → Bool), (i ≤ mn / 8 + 1) → (qL c' 8 = cbcM (desL (seg gk fr 8) false) 8 (seg gi fi 8) (qpad 8 (qL gm mn)) i) → (mn / 8 + 1 - i < nn39) → ∀ (H : Heap) (locs : List Loc), va_P D vwCl [(a 24, aS ta 16 c'), (a 0, aK ta 64 tIP), (a 1, aK ta 48 tSPR), (a 2, aK ta 32 tMIX), (a 3, aK ta 56 tCH), (a 4, aK ta 48 tSEC), (a 5, aK ta 512 tSBX), (a 10, aB ta 64 xb), (a 11, aB ta 64 xt), (a 12, aB ta 56 xc), (a 13, aB ta 768 xs), (a 14, aB ta 32 xh), (a 15, aB ta 48 xw), (hk, aS ta capk gk), (hi, aS ta capi gi), (h0, oM a ar mn1_3 tp osz lsz ns ct), (a 22, aS ta 700 gm1_3)] H → va_D A [(a 24, aS ta 16 c'), (a 0, aK ta 64 tIP), (a 1, aK ta 48 tSPR), (a 2, aK ta 32 tMIX), (a 3, aK ta 56 tCH), (a 4, aK ta 48 tSEC), (a 5, aK ta 512 tSBX), (a 10, aB ta 64 xb), (a 11, aB ta 64 xt), (a 12, aB ta 56 xc), (a 13, aB ta 768 xs), (a 14, aB ta 32 xh), (a 15, aB ta 48 xw), (hk, aS ta capk gk), (hi, aS ta capi gi), (h0, oM a ar mn1_3 tp osz lsz ns ct), (a 22, aS ta 700 gm1_3)] → va_S A ss.heap H locs → ∀ ls : Array Slot, lv_has ls 7 [(5, .int (nI (8 * i))), (0, .ref h0), (1, .ref hk), (2, .int (nI fr)), (3, .ref hi), (4, .int (nI fi))] → W pp ll ee ({ frames := 2, cells := 0, slots := 0, locals := 60 } : Room) ss mm (([.ref h0, .ref hk, .int (nI fr), .ref hi, .int (nI fi)] : List Value).toArray) below meth kc H locs 0 0 Q (F0 mm 39 ls []) := by
          intro nn39
          induction nn39 with
          | zero => intro i c' xb xt xc xs xh xw hii hc hmu; exact absurd hmu (Nat.not_lt_zero _)
          | succ nn39 ih39 =>
            intro i c' xb xt xc xs xh xw hii hc hmu39 H locs hP hD hS ls hl
            refine lv_iload (pc := 39) hx hb dX10_retail_39 (lv_at hl 0 rfl) ?_
            refine lv_aload_n (pc := 41) hx hb dX10_retail_41 rfl (lv_at hl 1 rfl) ?_
            refine va_get (pc := 42) (D := D) (ci := 8) (v := .int (nI mn1_3)) (C := RX10) (T := TX10) (N := 57) hx hb hts iu10 hown hK hP 15 rfl rfl 23 (by decide) (hts _ tw_1068) (fun _ h9 => h9) rfl dX10_retail_42 ?_
            refine lv_icmp_ge (pc := 45) (tgt := 103) hx hb dX10_retail_45 (by decide) (fun c_2 => ?_) (fun c_2 => ?_)
            · skip
              rw [nI_leI (by omega) (by omega)] at c_2
              have ei : i = mn / 8 + 1 := by omega
              refine lv_aload_n (pc := 103) hx hb dX10_retail_103 rfl (lv_at hl 1 rfl) ?_
              refine lv_aload_n (pc := 104) hx hb dX10_retail_104 rfl (lv_at hl 1 rfl) ?_
              refine va_get (pc := 105) (D := D) (ci := 8) (v := .ref (a 24)) (C := RX10) (T := TX10) (N := 57) hx hb hts iu10 hown hK hP 15 rfl rfl 24 (by decide) (hts _ tw_1069) (fun _ h9 => h9) rfl dX10_retail_105 ?_
              refine lv_iconst (pc := 108) (v := nI 0) hx hb dX10_retail_108 (by decide +kernel) ?_
              refine lv_aload_n (pc := 109) hx hb dX10_retail_109 rfl (lv_at hl 2 rfl) ?_
              refine lv_iload_n (pc := 110) hx hb dX10_retail_110 rfl (lv_at hl 3 rfl) ?_
              refine lv_bipush (pc := 111) (v := nI 8) hx hb dX10_retail_111 (by decide +kernel) ?_
              refine lv_iadd (pc := 113) hx hb dX10_retail_113 ?_
              refine q_top (y := nI (fr + 8)) (nI_add fr 8) ?_
              refine lv_iconst (pc := 114) (v := nI 1) hx hb dX10_retail_114 (by decide +kernel) ?_
              refine cs_V (pc := 115) (idx := 44) (n := 5) (wr := [(hi, aS ta capi gi), (a 22, aS ta 700 gm1_3)]) (As := [.ref (a 24), .int (nI 0), .ref hk, .int (nI (fr + 8)), .int (nI 1)]) (rest := []) (ci := 8) hx hb hml hown hts hGok hK hA hG hl.1 hP hD hS (ct_X10_des_L ll D ta hGok h0 a ar mn1_3 tp osz lsz ns ct (a 24) 0 16 c' hk (fr + 8) capk gk xb xt xc xs xh xw true (by first | assumption | omega | rfl | decide) (by first | assumption | omega | rfl | decide) (by first | assumption | omega | rfl | decide) (by first | assumption | omega | rfl | decide) H.size) tw_1294 tw_1291 tw_1293 tw_33 tw_75 hdX10_des rfl ⟨rfl, rfl, Nat.le_of_ble_eq_true rfl, Nat.le_of_ble_eq_true rfl, Nat.le_of_ble_eq_true rfl, Nat.le_of_ble_eq_true rfl⟩ rfl rfl (q0 := 15) rfl [15, 1, 2, 3, 4, 5, 6, 7, 8, 9, 10, 11, 12, 0, 13] [14, 16] rfl rfl (by decide) rfl (Nat.le_of_ble_eq_true rfl) dX10_retail_115 (fun u H locs hq hP hD hS => ?_)
              obtain ⟨gb1_115, bi1_115, tu1_115, cd1_115, sk1_115, hf1_115, wd1_115⟩ := u
              have hq : (seg gb1_115 0 8 = desL (seg gk (fr + 8) 8) true (seg c' 0 8)) ∧ (∀ j, (j < 0 ∨ 0 + 8 ≤ j) → gb1_115 j = c' j) := hq
              obtain ⟨hs_115, hfr_115⟩ := hq
              refine W.eq (g2 := F0 mm 118 ls []) rfl ?_
              have hP : va_P D vwCl [(hi, aS ta capi gi), (a 22, aS ta 700 gm1_3), (h0, oM a ar mn1_3 tp osz lsz ns ct), (a 0, aK ta 64 tIP), (a 1, aK ta 48 tSPR), (a 2, aK ta 32 tMIX), (a 3, aK ta 56 tCH), (a 4, aK ta 48 tSEC), (a 5, aK ta 512 tSBX), (a 10, aB ta 64 bi1_115), (a 11, aB ta 64 tu1_115), (a 12, aB ta 56 cd1_115), (a 13, aB ta 768 sk1_115), (a 14, aB ta 32 hf1_115), (a 15, aB ta 48 wd1_115), (a 24, aS ta 16 gb1_115), (hk, aS ta capk gk)] H := hP
              have hD : va_D A [(hi, aS ta capi gi), (a 22, aS ta 700 gm1_3), (h0, oM a ar mn1_3 tp osz lsz ns ct), (a 0, aK ta 64 tIP), (a 1, aK ta 48 tSPR), (a 2, aK ta 32 tMIX), (a 3, aK ta 56 tCH), (a 4, aK ta 48 tSEC), (a 5, aK ta 512 tSBX), (a 10, aB ta 64 bi1_115), (a 11, aB ta 64 tu1_115), (a 12, aB ta 56 cd1_115), (a 13, aB ta 768 sk1_115), (a 14, aB ta 32 hf1_115), (a 15, aB ta 48 wd1_115), (a 24, aS ta 16 gb1_115), (hk, aS ta capk gk)] := hD
              refine lv_aload_n (pc := 118) hx hb dX10_retail_118 rfl (lv_at hl 1 rfl) ?_
              refine lv_aload_n (pc := 119) hx hb dX10_retail_119 rfl (lv_at hl 1 rfl) ?_
              refine va_get (pc := 120) (D := D) (ci := 8) (v := .ref (a 24)) (C := RX10) (T := TX10) (N := 57) hx hb hts iu10 hown hK hP 2 rfl rfl 24 (by decide) (hts _ tw_1069) (fun _ h9 => h9) rfl dX10_retail_120 ?_
              refine lv_iconst (pc := 123) (v := nI 0) hx hb dX10_retail_123 (by decide +kernel) ?_
              refine lv_aload_n (pc := 124) hx hb dX10_retail_124 rfl (lv_at hl 2 rfl) ?_
              refine lv_iload_n (pc := 125) hx hb dX10_retail_125 rfl (lv_at hl 3 rfl) ?_
              refine lv_iconst (pc := 126) (v := nI 0) hx hb dX10_retail_126 (by decide +kernel) ?_
              refine cs_V (pc := 127) (idx := 44) (n := 5) (wr := [(hi, aS ta capi gi), (a 22, aS ta 700 gm1_3)]) (As := [.ref (a 24), .int (nI 0), .ref hk, .int (nI fr), .int (nI 0)]) (rest := []) (ci := 8) hx hb hml hown hts hGok hK hA hG hl.1 hP hD hS (ct_X10_des_L ll D ta hGok h0 a ar mn1_3 tp osz lsz ns ct (a 24) 0 16 gb1_115 hk fr capk gk bi1_115 tu1_115 cd1_115 sk1_115 hf1_115 wd1_115 false (by first | assumption | omega | rfl | decide) (by first | assumption | omega | rfl | decide) (by first | assumption | omega | rfl | decide) (by first | assumption | omega | rfl | decide) H.size) tw_1294 tw_1291 tw_1293 tw_33 tw_75 hdX10_des rfl ⟨rfl, rfl, Nat.le_of_ble_eq_true rfl, Nat.le_of_ble_eq_true rfl, Nat.le_of_ble_eq_true rfl, Nat.le_of_ble_eq_true rfl⟩ rfl rfl (q0 := 2) rfl [2, 3, 4, 5, 6, 7, 8, 9, 10, 11, 12, 13, 14, 15, 16] [0, 1] rfl rfl (by decide) rfl (Nat.le_of_ble_eq_true rfl) dX10_retail_127 (fun u H locs hq hP hD hS => ?_)
              obtain ⟨gb1_127, bi1_127, tu1_127, cd1_127, sk1_127, hf1_127, wd1_127⟩ := u
              have hq : (seg gb1_127 0 8 = desL (seg gk fr 8) false (seg gb1_115 0 8)) ∧ (∀ j, (j < 0 ∨ 0 + 8 ≤ j) → gb1_127 j = gb1_115 j) := hq
              obtain ⟨hs_127, hfr_127⟩ := hq
              refine W.eq (g2 := F0 mm 130 ls []) rfl ?_
              have hP : va_P D vwCl [(hi, aS ta capi gi), (a 22, aS ta 700 gm1_3), (h0, oM a ar mn1_3 tp osz lsz ns ct), (a 0, aK ta 64 tIP), (a 1, aK ta 48 tSPR), (a 2, aK ta 32 tMIX), (a 3, aK ta 56 tCH), (a 4, aK ta 48 tSEC), (a 5, aK ta 512 tSBX), (a 10, aB ta 64 bi1_127), (a 11, aB ta 64 tu1_127), (a 12, aB ta 56 cd1_127), (a 13, aB ta 768 sk1_127), (a 14, aB ta 32 hf1_127), (a 15, aB ta 48 wd1_127), (a 24, aS ta 16 gb1_127), (hk, aS ta capk gk)] H := hP
              have hD : va_D A [(hi, aS ta capi gi), (a 22, aS ta 700 gm1_3), (h0, oM a ar mn1_3 tp osz lsz ns ct), (a 0, aK ta 64 tIP), (a 1, aK ta 48 tSPR), (a 2, aK ta 32 tMIX), (a 3, aK ta 56 tCH), (a 4, aK ta 48 tSEC), (a 5, aK ta 512 tSBX), (a 10, aB ta 64 bi1_127), (a 11, aB ta 64 tu1_127), (a 12, aB ta 56 cd1_127), (a 13, aB ta 768 sk1_127), (a 14, aB ta 32 hf1_127), (a 15, aB ta 48 wd1_127), (a 24, aS ta 16 gb1_127), (hk, aS ta capk gk)] := hD
              have hq_3 : (seg gb1_127 0 8 = retailL (seg gk fr 16) (seg gi fi 8) (qL gm mn)) := by
                rw [hs_127, hs_115, seg_0, hc, ei, retailL, seg_take (by omega), seg_drop, qL_len]
              exact hret (⟨(gm1_3), (mn1_3), (gb1_127), (bi1_127), (tu1_127), (cd1_127), (sk1_127), (hf1_127), (wd1_127)⟩ : (Nat → BitVec 8) × Nat × (Nat → BitVec 8) × (Nat → Bool) × (Nat → Bool) × (Nat → Bool) × (Nat → Bool) × (Nat → Bool) × (Nat → Bool)) _ _ _ _ dX10_retail_130 hq_3 (hP.sub [2, 1, 15, 3, 4, 5, 6, 7, 8, 9, 10, 11, 12, 13, 14, 16, 0] rfl) (hD.sub [2, 1, 15, 3, 4, 5, 6, 7, 8, 9, 10, 11, 12, 13, 14, 16, 0] (by decide) rfl) hS
            · skip
              rw [nI_leI (by omega) (by omega)] at c_2
              refine lv_iconst (pc := 48) (v := nI 0) hx hb dX10_retail_48 (by decide +kernel) ?_
              refine lv_istore (pc := 49) (lv' := [(6, .int (nI 0)), (5, .int (nI (8 * i))), (0, .ref h0), (1, .ref hk), (2, .int (nI fr)), (3, .ref hi), (4, .int (nI fi))]) hx hb dX10_retail_49 hl (by decide) rfl (fun ls hl => ?_)
              have LP51 : ∀ (nn51 : Nat) (d : Nat) (d' : Nat → BitVec 8), (d ≤ 8) → (qSeg d' c' 0 d (fun j => c' j ^^^ gm1_3 (8 * i + j))) → (8 - d < nn51) → ∀ (H : Heap) (locs : List Loc), va_P D vwCl [(a 24, aS ta 16 d'), (a 0, aK ta 64 tIP), (a 1, aK ta 48 tSPR), (a 2, aK ta 32 tMIX), (a 3, aK ta 56 tCH), (a 4, aK ta 48 tSEC), (a 5, aK ta 512 tSBX), (a 10, aB ta 64 xb), (a 11, aB ta 64 xt), (a 12, aB ta 56 xc), (a 13, aB ta 768 xs), (a 14, aB ta 32 xh), (a 15, aB ta 48 xw), (hk, aS ta capk gk), (hi, aS ta capi gi), (h0, oM a ar mn1_3 tp osz lsz ns ct), (a 22, aS ta 700 gm1_3)] H → va_D A [(a 24, aS ta 16 d'), (a 0, aK ta 64 tIP), (a 1, aK ta 48 tSPR), (a 2, aK ta 32 tMIX), (a 3, aK ta 56 tCH), (a 4, aK ta 48 tSEC), (a 5, aK ta 512 tSBX), (a 10, aB ta 64 xb), (a 11, aB ta 64 xt), (a 12, aB ta 56 xc), (a 13, aB ta 768 xs), (a 14, aB ta 32 xh), (a 15, aB ta 48 xw), (hk, aS ta capk gk), (hi, aS ta capi gi), (h0, oM a ar mn1_3 tp osz lsz ns ct), (a 22, aS ta 700 gm1_3)] → va_S A ss.heap H locs → ∀ ls : Array Slot, lv_has ls 7 [(6, .int (nI d)), (5, .int (nI (8 * i))), (0, .ref h0), (1, .ref hk), (2, .int (nI fr)), (3, .ref hi), (4, .int (nI fi))] → W pp ll ee ({ frames := 2, cells := 0, slots := 0, locals := 60 } : Room) ss mm (([.ref h0, .ref hk, .int (nI fr), .ref hi, .int (nI fi)] : List Value).toArray) below meth kc H locs 0 0 Q (F0 mm 51 ls []) := by
                intro nn51
                induction nn51 with
                | zero => intro d d' hdd hd hmu; exact absurd hmu (Nat.not_lt_zero _)
                | succ nn51 ih51 =>
                  intro d d' hdd hd hmu51 H locs hP hD hS ls hl
                  refine lv_iload (pc := 51) hx hb dX10_retail_51 (lv_at hl 0 rfl) ?_
                  refine lv_bipush (pc := 53) (v := nI 8) hx hb dX10_retail_53 (by decide +kernel) ?_
                  refine lv_icmp_ge (pc := 55) (tgt := 85) hx hb dX10_retail_55 (by decide) (fun c_4 => ?_) (fun c_4 => ?_)
                  · skip
                    rw [nI_leI (by omega) (by omega)] at c_4
                    refine lv_aload_n (pc := 85) hx hb dX10_retail_85 rfl (lv_at hl 2 rfl) ?_
                    refine lv_aload_n (pc := 86) hx hb dX10_retail_86 rfl (lv_at hl 2 rfl) ?_
                    refine va_get (pc := 87) (D := D) (ci := 8) (v := .ref (a 24)) (C := RX10) (T := TX10) (N := 57) hx hb hts iu10 hown hK hP 15 rfl rfl 24 (by decide) (hts _ tw_1069) (fun _ h9 => h9) rfl dX10_retail_87 ?_
                    refine lv_iconst (pc := 90) (v := nI 0) hx hb dX10_retail_90 (by decide +kernel) ?_
                    refine lv_aload_n (pc := 91) hx hb dX10_retail_91 rfl (lv_at hl 3 rfl) ?_
                    refine lv_iload_n (pc := 92) hx hb dX10_retail_92 rfl (lv_at hl 4 rfl) ?_
                    refine lv_iconst (pc := 93) (v := nI 0) hx hb dX10_retail_93 (by decide +kernel) ?_
                    refine cs_V (pc := 94) (idx := 44) (n := 5) (wr := [(hi, aS ta capi gi), (a 22, aS ta 700 gm1_3)]) (As := [.ref (a 24), .int (nI 0), .ref hk, .int (nI fr), .int (nI 0)]) (rest := []) (ci := 8) hx hb hml hown hts hGok hK hA hG hl.1 hP hD hS (ct_X10_des_L ll D ta hGok h0 a ar mn1_3 tp osz lsz ns ct (a 24) 0 16 d' hk fr capk gk xb xt xc xs xh xw false (by first | assumption | omega | rfl | decide) (by first | assumption | omega | rfl | decide) (by first | assumption | omega | rfl | decide) (by first | assumption | omega | rfl | decide) H.size) tw_1294 tw_1291 tw_1293 tw_33 tw_75 hdX10_des rfl ⟨rfl, rfl, Nat.le_of_ble_eq_true rfl, Nat.le_of_ble_eq_true rfl, Nat.le_of_ble_eq_true rfl, Nat.le_of_ble_eq_true rfl⟩ rfl rfl (q0 := 15) rfl [15, 1, 2, 3, 4, 5, 6, 7, 8, 9, 10, 11, 12, 0, 13] [14, 16] rfl rfl (by decide) rfl (Nat.le_of_ble_eq_true rfl) dX10_retail_94 (fun u H locs hq hP hD hS => ?_)
                    obtain ⟨gb1_94, bi1_94, tu1_94, cd1_94, sk1_94, hf1_94, wd1_94⟩ := u
                    have hq : (seg gb1_94 0 8 = desL (seg gk fr 8) false (seg d' 0 8)) ∧ (∀ j, (j < 0 ∨ 0 + 8 ≤ j) → gb1_94 j = d' j) := hq
                    obtain ⟨hs_94, hfr_94⟩ := hq
                    refine W.eq (g2 := F0 mm 97 ls []) rfl ?_
                    have hP : va_P D vwCl [(hi, aS ta capi gi), (a 22, aS ta 700 gm1_3), (h0, oM a ar mn1_3 tp osz lsz ns ct), (a 0, aK ta 64 tIP), (a 1, aK ta 48 tSPR), (a 2, aK ta 32 tMIX), (a 3, aK ta 56 tCH), (a 4, aK ta 48 tSEC), (a 5, aK ta 512 tSBX), (a 10, aB ta 64 bi1_94), (a 11, aB ta 64 tu1_94), (a 12, aB ta 56 cd1_94), (a 13, aB ta 768 sk1_94), (a 14, aB ta 32 hf1_94), (a 15, aB ta 48 wd1_94), (a 24, aS ta 16 gb1_94), (hk, aS ta capk gk)] H := hP
                    have hD : va_D A [(hi, aS ta capi gi), (a 22, aS ta 700 gm1_3), (h0, oM a ar mn1_3 tp osz lsz ns ct), (a 0, aK ta 64 tIP), (a 1, aK ta 48 tSPR), (a 2, aK ta 32 tMIX), (a 3, aK ta 56 tCH), (a 4, aK ta 48 tSEC), (a 5, aK ta 512 tSBX), (a 10, aB ta 64 bi1_94), (a 11, aB ta 64 tu1_94), (a 12, aB ta 56 cd1_94), (a 13, aB ta 768 sk1_94), (a 14, aB ta 32 hf1_94), (a 15, aB ta 48 wd1_94), (a 24, aS ta 16 gb1_94), (hk, aS ta capk gk)] := hD
                    refine lv_iinc (pc := 97) (v := nI (8 * i + 8)) (lv' := [(5, .int (nI (8 * i + 8))), (6, .int (nI d)), (0, .ref h0), (1, .ref hk), (2, .int (nI fr)), (3, .ref hi), (4, .int (nI fi))]) hx hb dX10_retail_97 hl (k := 1) rfl (by first | exact nI_add (8 * i) 8 | rfl) (by decide) rfl (fun ls hl => ?_)
                    refine lv_goto (pc := 100) (tgt := 39) hx hb dX10_retail_100 (by decide) ?_
                    exact ih39 (i + 1) gb1_94 bi1_94 tu1_94 cd1_94 sk1_94 hf1_94 wd1_94 (by omega) (by rw [← seg_0, hs_94]; exact cbcM_next trivial hc hL_3 (qSeg_segk hd (by omega)) (by omega)) (by omega) _ _ (hP.sub [15, 3, 4, 5, 6, 7, 8, 9, 10, 11, 12, 13, 14, 16, 0, 2, 1] rfl) (hD.sub [15, 3, 4, 5, 6, 7, 8, 9, 10, 11, 12, 13, 14, 16, 0, 2, 1] (by decide) rfl) hS ls (lv_sub hl [0, 2, 3, 4, 5, 6] rfl)
                  · skip
                    rw [nI_leI (by omega) (by omega)] at c_4
                    refine lv_aload_n (pc := 58) hx hb dX10_retail_58 rfl (lv_at hl 2 rfl) ?_
                    refine va_get (pc := 59) (D := D) (ci := 8) (v := .ref (a 24)) (C := RX10) (T := TX10) (N := 57) hx hb hts iu10 hown hK hP 15 rfl rfl 24 (by decide) (hts _ tw_1069) (fun _ h9 => h9) rfl dX10_retail_59 ?_
                    refine lv_iload (pc := 62) hx hb dX10_retail_62 (lv_at hl 0 rfl) ?_
                    refine lv_dup2_11 (pc := 64) hx hb dX10_retail_64 rfl rfl ?_
                    refine q_bald (pc := 65) hx hb hK hP 0 2 rfl rfl (k := d) (v := qs (d' d)) rfl (by omega) (by omega) rfl dX10_retail_65 ?_
                    refine lv_aload_n (pc := 66) hx hb dX10_retail_66 rfl (lv_at hl 2 rfl) ?_
                    refine va_get (pc := 67) (D := D) (ci := 8) (v := .ref (a 22)) (C := RX10) (T := TX10) (N := 57) hx hb hts iu10 hown hK hP 15 rfl rfl 22 (by decide) (hts _ tw_1067) (fun _ h9 => h9) rfl dX10_retail_67 ?_
                    refine lv_iload (pc := 70) hx hb dX10_retail_70 (lv_at hl 1 rfl) ?_
                    refine lv_iload (pc := 72) hx hb dX10_retail_72 (lv_at hl 0 rfl) ?_
                    refine lv_iadd (pc := 74) hx hb dX10_retail_74 ?_
                    refine q_top (y := nI (8 * i + d)) (nI_add (8 * i) d) ?_
                    refine q_bald (pc := 75) hx hb hK hP 16 2 rfl rfl (k := 8 * i + d) (v := qs (gm1_3 (8 * i + d))) rfl (by omega) (by omega) rfl dX10_retail_75 ?_
                    refine lv_ixor (pc := 76) hx hb dX10_retail_76 ?_
                    refine q_top (y := qs ((d' d) ^^^ (gm1_3 (8 * i + d)))) (q_xor_s _ _) ?_
                    refine lv_i2b (pc := 77) (v := qs ((d' d) ^^^ (gm1_3 (8 * i + d)))) hx hb dX10_retail_77 (q_i2b_s _) ?_
                    refine q_bastS (pc := 78) hx hb hK hP hD hS 0 2 rfl rfl (k := d) rfl (by omega) (by omega) (b := (d' d) ^^^ (gm1_3 (8 * i + d))) (qlo_qs _) dX10_retail_78 (fun H locs hP hD hS => ?_)
                    have hP : va_P D vwCl [(a 24, aS ta 16 (qU d' d ((d' d) ^^^ (gm1_3 (8 * i + d))))), (a 0, aK ta 64 tIP), (a 1, aK ta 48 tSPR), (a 2, aK ta 32 tMIX), (a 3, aK ta 56 tCH), (a 4, aK ta 48 tSEC), (a 5, aK ta 512 tSBX), (a 10, aB ta 64 xb), (a 11, aB ta 64 xt), (a 12, aB ta 56 xc), (a 13, aB ta 768 xs), (a 14, aB ta 32 xh), (a 15, aB ta 48 xw), (hk, aS ta capk gk), (hi, aS ta capi gi), (h0, oM a ar mn1_3 tp osz lsz ns ct), (a 22, aS ta 700 gm1_3)] H := hP
                    have hD : va_D A [(a 24, aS ta 16 (qU d' d ((d' d) ^^^ (gm1_3 (8 * i + d))))), (a 0, aK ta 64 tIP), (a 1, aK ta 48 tSPR), (a 2, aK ta 32 tMIX), (a 3, aK ta 56 tCH), (a 4, aK ta 48 tSEC), (a 5, aK ta 512 tSBX), (a 10, aB ta 64 xb), (a 11, aB ta 64 xt), (a 12, aB ta 56 xc), (a 13, aB ta 768 xs), (a 14, aB ta 32 xh), (a 15, aB ta 48 xw), (hk, aS ta capk gk), (hi, aS ta capi gi), (h0, oM a ar mn1_3 tp osz lsz ns ct), (a 22, aS ta 700 gm1_3)] := hD
                    refine lv_iinc (pc := 79) (v := nI (d + 1)) (lv' := [(6, .int (nI (d + 1))), (5, .int (nI (8 * i))), (0, .ref h0), (1, .ref hk), (2, .int (nI fr)), (3, .ref hi), (4, .int (nI fi))]) hx hb dX10_retail_79 hl (k := 0) rfl (by first | exact nI_add d 1 | rfl) (by decide) rfl (fun ls hl => ?_)
                    refine lv_goto (pc := 82) (tgt := 51) hx hb dX10_retail_82 (by decide) ?_
                    exact ih51 (d + 1) (qU d' d ((d' d) ^^^ (gm1_3 (8 * i + d)))) (by omega) (qSeg_s hd (by omega) (by rw [hd.2 _ (by omega)])) (by omega) _ _ (hP.sub [0, 1, 2, 3, 4, 5, 6, 7, 8, 9, 10, 11, 12, 13, 14, 15, 16] rfl) (hD.sub [0, 1, 2, 3, 4, 5, 6, 7, 8, 9, 10, 11, 12, 13, 14, 15, 16] (by decide) rfl) hS ls (lv_sub hl [0, 1, 2, 3, 4, 5, 6] rfl)
              exact LP51 _ 0 c' (by omega) (qSeg_0) (Nat.lt_succ_self _) _ _ (hP.sub [0, 1, 2, 3, 4, 5, 6, 7, 8, 9, 10, 11, 12, 13, 14, 15, 16] rfl) (hD.sub [0, 1, 2, 3, 4, 5, 6, 7, 8, 9, 10, 11, 12, 13, 14, 15, 16] (by decide) rfl) hS ls (lv_sub hl [0, 1, 2, 3, 4, 5, 6] rfl)
        exact LP39 _ 0 z' bi tu cd sk hf wd (by omega) (by rw [← seg_0, qSeg_segk hz (by omega)]; rfl) (Nat.lt_succ_self _) _ _ (hP.sub [0, 1, 2, 3, 4, 5, 6, 7, 8, 9, 10, 11, 12, 13, 14, 15, 16] rfl) (hD.sub [0, 1, 2, 3, 4, 5, 6, 7, 8, 9, 10, 11, 12, 13, 14, 15, 16] (by decide) rfl) hS ls (lv_sub hl [0, 1, 2, 3, 4, 5] rfl)
      · skip
        rw [nI_leI (by omega) (by omega)] at c_1
        refine lv_aload_n (pc := 16) hx hb dX10_retail_16 rfl (lv_at hl 1 rfl) ?_
        refine va_get (pc := 17) (D := D) (ci := 8) (v := .ref (a 24)) (C := RX10) (T := TX10) (N := 57) hx hb hts iu10 hown hK hP 15 rfl rfl 24 (by decide) (hts _ tw_1069) (fun _ h9 => h9) rfl dX10_retail_17 ?_
        refine lv_iload (pc := 20) hx hb dX10_retail_20 (lv_at hl 0 rfl) ?_
        refine lv_aload_n (pc := 22) hx hb dX10_retail_22 rfl (lv_at hl 4 rfl) ?_
        refine lv_iload (pc := 23) hx hb dX10_retail_23 (lv_at hl 5 rfl) ?_
        refine lv_iload (pc := 25) hx hb dX10_retail_25 (lv_at hl 0 rfl) ?_
        refine lv_iadd (pc := 27) hx hb dX10_retail_27 ?_
        refine q_top (y := nI (fi + k)) (nI_add fi k) ?_
        refine q_bald (pc := 28) hx hb hK hP 14 2 rfl rfl (k := fi + k) (v := qs (gi (fi + k))) rfl (by omega) (by omega) rfl dX10_retail_28 ?_
        refine q_bastS (pc := 29) hx hb hK hP hD hS 0 2 rfl rfl (k := k) rfl (by omega) (by omega) (b := gi (fi + k)) (qlo_qs _) dX10_retail_29 (fun H locs hP hD hS => ?_)
        have hP : va_P D vwCl [(a 24, aS ta 16 (qU z' k (gi (fi + k)))), (a 0, aK ta 64 tIP), (a 1, aK ta 48 tSPR), (a 2, aK ta 32 tMIX), (a 3, aK ta 56 tCH), (a 4, aK ta 48 tSEC), (a 5, aK ta 512 tSBX), (a 10, aB ta 64 bi), (a 11, aB ta 64 tu), (a 12, aB ta 56 cd), (a 13, aB ta 768 sk), (a 14, aB ta 32 hf), (a 15, aB ta 48 wd), (hk, aS ta capk gk), (hi, aS ta capi gi), (h0, oM a ar mn1_3 tp osz lsz ns ct), (a 22, aS ta 700 gm1_3)] H := hP
        have hD : va_D A [(a 24, aS ta 16 (qU z' k (gi (fi + k)))), (a 0, aK ta 64 tIP), (a 1, aK ta 48 tSPR), (a 2, aK ta 32 tMIX), (a 3, aK ta 56 tCH), (a 4, aK ta 48 tSEC), (a 5, aK ta 512 tSBX), (a 10, aB ta 64 bi), (a 11, aB ta 64 tu), (a 12, aB ta 56 cd), (a 13, aB ta 768 sk), (a 14, aB ta 32 hf), (a 15, aB ta 48 wd), (hk, aS ta capk gk), (hi, aS ta capi gi), (h0, oM a ar mn1_3 tp osz lsz ns ct), (a 22, aS ta 700 gm1_3)] := hD
        refine lv_iinc (pc := 30) (v := nI (k + 1)) (lv' := [(5, .int (nI (k + 1))), (0, .ref h0), (1, .ref hk), (2, .int (nI fr)), (3, .ref hi), (4, .int (nI fi))]) hx hb dX10_retail_30 hl (k := 0) rfl (by first | exact nI_add k 1 | rfl) (by decide) rfl (fun ls hl => ?_)
        refine lv_goto (pc := 33) (tgt := 9) hx hb dX10_retail_33 (by decide) ?_
        exact ih9 (k + 1) (qU z' k (gi (fi + k))) (by omega) (qSeg_s hz (by omega) rfl) (by omega) _ _ (hP.sub [0, 1, 2, 3, 4, 5, 6, 7, 8, 9, 10, 11, 12, 13, 14, 15, 16] rfl) (hD.sub [0, 1, 2, 3, 4, 5, 6, 7, 8, 9, 10, 11, 12, 13, 14, 15, 16] (by decide) rfl) hS ls (lv_sub hl [0, 1, 2, 3, 4, 5] rfl)
  exact LP9 _ 0 mac (by omega) (qSeg_0) (Nat.lt_succ_self _) _ _ (hP.sub [0, 1, 2, 3, 4, 5, 6, 7, 8, 9, 10, 11, 12, 13, 14, 15, 16] rfl) (hD.sub [0, 1, 2, 3, 4, 5, 6, 7, 8, 9, 10, 11, 12, 13, 14, 15, 16] (by decide) rfl) hS ls (lv_sub hl [0, 1, 2, 3, 4, 5] rfl)
theorem hdX10_shift : yX10_shift.cls ≠ "java/lang/invoke/MethodHandle" ∧ yX10_shift.cls ≠ "java/lang/invoke/VarHandle" ∧ (parseMethodDescriptor yX10_shift.desc).map (fun d => d.parameters.length) = some 1 := ⟨by decide +kernel, by decide +kernel, by decide +kernel⟩
theorem dX10_shift_0 : decode cX10_shift 0 = .ok (.aload_n 0, 1) := by decide +kernel
theorem dX10_shift_1 : decode cX10_shift 1 = .ok (.iconst 0, 1) := by decide +kernel
theorem dX10_shift_2 : decode cX10_shift 2 = .ok (.baload, 1) := by decide +kernel
theorem dX10_shift_3 : decode cX10_shift 3 = .ok (.bipush 7, 2) := by decide +kernel
theorem dX10_shift_5 : decode cX10_shift 5 = .ok (.ishr, 1) := by decide +kernel
theorem dX10_shift_6 : decode cX10_shift 6 = .ok (.iconst 1, 1) := by decide +kernel
theorem dX10_shift_7 : decode cX10_shift 7 = .ok (.iand, 1) := by decide +kernel
theorem dX10_shift_8 : decode cX10_shift 8 = .ok (.istore_n 1, 1) := by decide +kernel
theorem dX10_shift_9 : decode cX10_shift 9 = .ok (.iconst 0, 1) := by decide +kernel
theorem dX10_shift_10 : decode cX10_shift 10 = .ok (.istore_n 2, 1) := by decide +kernel
theorem dX10_shift_11 : decode cX10_shift 11 = .ok (.iload_n 2, 1) := by decide +kernel
theorem dX10_shift_12 : decode cX10_shift 12 = .ok (.bipush 16, 2) := by decide +kernel
theorem dX10_shift_14 : decode cX10_shift 14 = .ok (.if_icmp .ge 39, 3) := by decide +kernel
theorem dX10_shift_17 : decode cX10_shift 17 = .ok (.aload_n 0, 1) := by decide +kernel
theorem dX10_shift_18 : decode cX10_shift 18 = .ok (.iload_n 2, 1) := by decide +kernel
theorem dX10_shift_19 : decode cX10_shift 19 = .ok (.aload_n 0, 1) := by decide +kernel
theorem dX10_shift_20 : decode cX10_shift 20 = .ok (.iload_n 2, 1) := by decide +kernel
theorem dX10_shift_21 : decode cX10_shift 21 = .ok (.baload, 1) := by decide +kernel
theorem dX10_shift_22 : decode cX10_shift 22 = .ok (.iconst 1, 1) := by decide +kernel
theorem dX10_shift_23 : decode cX10_shift 23 = .ok (.ishl, 1) := by decide +kernel
theorem dX10_shift_24 : decode cX10_shift 24 = .ok (.iload_n 2, 1) := by decide +kernel
theorem dX10_shift_25 : decode cX10_shift 25 = .ok (.bipush 15, 2) := by decide +kernel
theorem dX10_shift_27 : decode cX10_shift 27 = .ok (.if_icmp .ge 16, 3) := by decide +kernel
theorem dX10_shift_30 : decode cX10_shift 30 = .ok (.aload_n 0, 1) := by decide +kernel
theorem dX10_shift_31 : decode cX10_shift 31 = .ok (.iload_n 2, 1) := by decide +kernel
theorem dX10_shift_32 : decode cX10_shift 32 = .ok (.iconst 1, 1) := by decide +kernel
theorem dX10_shift_33 : decode cX10_shift 33 = .ok (.iadd, 1) := by decide +kernel
theorem dX10_shift_34 : decode cX10_shift 34 = .ok (.baload, 1) := by decide +kernel
theorem dX10_shift_35 : decode cX10_shift 35 = .ok (.bipush 7, 2) := by decide +kernel
theorem dX10_shift_37 : decode cX10_shift 37 = .ok (.ishr, 1) := by decide +kernel
theorem dX10_shift_38 : decode cX10_shift 38 = .ok (.iconst 1, 1) := by decide +kernel
theorem dX10_shift_39 : decode cX10_shift 39 = .ok (.iand, 1) := by decide +kernel
theorem dX10_shift_40 : decode cX10_shift 40 = .ok (.goto 4, 3) := by decide +kernel
theorem dX10_shift_43 : decode cX10_shift 43 = .ok (.iconst 0, 1) := by decide +kernel
theorem dX10_shift_44 : decode cX10_shift 44 = .ok (.ior, 1) := by decide +kernel
theorem dX10_shift_45 : decode cX10_shift 45 = .ok (.i2b, 1) := by decide +kernel
theorem dX10_shift_46 : decode cX10_shift 46 = .ok (.bastore, 1) := by decide +kernel
theorem dX10_shift_47 : decode cX10_shift 47 = .ok (.iinc 2 1, 3) := by decide +kernel
theorem dX10_shift_50 : decode cX10_shift 50 = .ok (.goto (-39), 3) := by decide +kernel
theorem dX10_shift_53 : decode cX10_shift 53 = .ok (.iload_n 1, 1) := by decide +kernel
theorem dX10_shift_54 : decode cX10_shift 54 = .ok (.iconst 1, 1) := by decide +kernel
theorem dX10_shift_55 : decode cX10_shift 55 = .ok (.if_icmp .ne 13, 3) := by decide +kernel
theorem dX10_shift_58 : decode cX10_shift 58 = .ok (.aload_n 0, 1) := by decide +kernel
theorem dX10_shift_59 : decode cX10_shift 59 = .ok (.bipush 15, 2) := by decide +kernel
theorem dX10_shift_61 : decode cX10_shift 61 = .ok (.dup2, 1) := by decide +kernel
theorem dX10_shift_62 : decode cX10_shift 62 = .ok (.baload, 1) := by decide +kernel
theorem dX10_shift_63 : decode cX10_shift 63 = .ok (.bipush (-121), 2) := by decide +kernel
theorem dX10_shift_65 : decode cX10_shift 65 = .ok (.ixor, 1) := by decide +kernel
theorem dX10_shift_66 : decode cX10_shift 66 = .ok (.i2b, 1) := by decide +kernel
theorem dX10_shift_67 : decode cX10_shift 67 = .ok (.bastore, 1) := by decide +kernel
theorem dX10_shift_68 : decode cX10_shift 68 = .ok (.return_, 1) := by decide +kernel
set_option maxHeartbeats 4000000 in
set_option maxRecDepth 100000 in
theorem ct_X10_shift (ll : Launch) (D : va_G) (ta : Nat → ClassId) {G : (Nat → Prop) → State → Heap → Prop} (hGok : GOK G) (hb2 : Nat) (gb : Nat → BitVec 8)  (sz : Nat) : CT ll yX10_shift cX10_shift 3 none ({ frames := 0, cells := 0, slots := 0, locals := 0 } : Room) D ta G [.ref hb2] [(hb2, aS ta 16 gb)] sz (S := (Nat → BitVec 8)) (fun _ => none) (fun u => (seg u 0 16 = shL (seg gb 0 16))) (fun u => [(hb2, aS ta 16 u)]) 0 0 := by
  refine CT.of_v rfl (by decide) (Nat.le_of_ble_eq_true rfl) ?_
  intro pp ee ss mm below meth kc A Q hx hb hml hown hin hts hK hA hsz hG hret H locs hP hD hS ls hl
  have hl : lv_has ls 3 [(0, .ref hb2)] := hl
  refine lv_aload_n (pc := 0) hx hb dX10_shift_0 rfl (lv_at hl 0 rfl) ?_
  refine lv_iconst (pc := 1) (v := nI 0) hx hb dX10_shift_1 (by decide +kernel) ?_
  refine q_bald (pc := 2) hx hb hK hP 0 2 rfl rfl (k := 0) (v := qs (gb 0)) rfl (by omega) (by omega) rfl dX10_shift_2 ?_
  refine lv_bipush (pc := 3) (v := nI 7) hx hb dX10_shift_3 (by decide +kernel) ?_
  refine lv_ishr (pc := 5) hx hb dX10_shift_5 ?_
  refine lv_iconst (pc := 6) (v := nI 1) hx hb dX10_shift_6 (by decide +kernel) ?_
  refine lv_iand (pc := 7) hx hb dX10_shift_7 ?_
  refine q_top (y := qb ((gb 0).getLsbD 7)) (q_bit_s _ (by omega)) ?_
  refine lv_istore_n (pc := 8) (lv' := [(1, .int (qb ((gb 0).getLsbD 7))), (0, .ref hb2)]) hx hb dX10_shift_8 rfl hl (by decide) rfl (fun ls hl => ?_)
  refine lv_iconst (pc := 9) (v := nI 0) hx hb dX10_shift_9 (by decide +kernel) ?_
  refine lv_istore_n (pc := 10) (lv' := [(2, .int (nI 0)), (1, .int (qb ((gb 0).getLsbD 7))), (0, .ref hb2)]) hx hb dX10_shift_10 rfl hl (by decide) rfl (fun ls hl => ?_)
  have LP11 : ∀ (nn11 : Nat) (k : Nat) (g' : Nat → BitVec 8), (k ≤ 16) → (qSeg g' gb 0 k (shF gb)) → (16 - k < nn11) → ∀ (H : Heap) (locs : List Loc), va_P D vwCl [(hb2, aS ta 16 g')] H → va_D A [(hb2, aS ta 16 g')] → va_S A ss.heap H locs → ∀ ls : Array Slot, lv_has ls 3 [(2, .int (nI k)), (1, .int (qb ((gb 0).getLsbD 7))), (0, .ref hb2)] → W pp ll ee ({ frames := 0, cells := 0, slots := 0, locals := 0 } : Room) ss mm (([.ref hb2] : List Value).toArray) below meth kc H locs 0 0 Q (F0 mm 11 ls []) := by
    intro nn11
    induction nn11 with
    | zero => intro k g' hkk hs hmu; exact absurd hmu (Nat.not_lt_zero _)
    | succ nn11 ih11 =>
      intro k g' hkk hs hmu11 H locs hP hD hS ls hl
      refine lv_iload_n (pc := 11) hx hb dX10_shift_11 rfl (lv_at hl 0 rfl) ?_
      refine lv_bipush (pc := 12) (v := nI 16) hx hb dX10_shift_12 (by decide +kernel) ?_
      refine lv_icmp_ge (pc := 14) (tgt := 53) hx hb dX10_shift_14 (by decide) (fun c_1 => ?_) (fun c_1 => ?_)
      · skip
        rw [nI_leI (by omega) (by omega)] at c_1
        refine lv_iload_n (pc := 53) hx hb dX10_shift_53 rfl (lv_at hl 1 rfl) ?_
        refine lv_iconst (pc := 54) (v := nI 1) hx hb dX10_shift_54 (by decide +kernel) ?_
        refine lv_icmp_ne (pc := 55) (tgt := 68) hx hb dX10_shift_55 (by decide) (fun c_2 => ?_) (fun c_2 => ?_)
        · skip
          rw [q_b1] at c_2
          try rw [Bool.not_eq_true] at c_2
          have hcar := c_2
          have hq_3 : (seg g' 0 16 = shL (seg gb 0 16)) := by
            first | exact (sh_end (by omega) hs).1 (by rw [hcar]; decide) | exact (sh_end (by omega) hs).2 hcar
          exact hret (g') _ _ _ _ dX10_shift_68 hq_3 (hP.sub [0] rfl) (hD.sub [0] (by decide) rfl) hS
        · skip
          rw [q_b1] at c_2
          try rw [Bool.not_eq_true] at c_2
          have hcar := c_2
          refine lv_aload_n (pc := 58) hx hb dX10_shift_58 rfl (lv_at hl 2 rfl) ?_
          refine lv_bipush (pc := 59) (v := nI 15) hx hb dX10_shift_59 (by decide +kernel) ?_
          refine lv_dup2_11 (pc := 61) hx hb dX10_shift_61 rfl rfl ?_
          refine q_bald (pc := 62) hx hb hK hP 0 2 rfl rfl (k := 15) (v := qs (g' 15)) rfl (by omega) (by omega) rfl dX10_shift_62 ?_
          refine lv_bipush (pc := 63) (v := (-121)) hx hb dX10_shift_63 (by decide +kernel) ?_
          refine lv_ixor (pc := 65) hx hb dX10_shift_65 ?_
          refine lv_i2b (pc := 66) (v := qs (qlo ((qs (g' 15)) ^^^ (-121)))) hx hb dX10_shift_66 (q_i2b _) ?_
          refine q_bastS (pc := 67) hx hb hK hP hD hS 0 2 rfl rfl (k := 15) rfl (by omega) (by omega) (b := qlo ((qs (g' 15)) ^^^ (-121))) (qlo_qs _) dX10_shift_67 (fun H locs hP hD hS => ?_)
          have hP : va_P D vwCl [(hb2, aS ta 16 (qU g' 15 (qlo ((qs (g' 15)) ^^^ (-121)))))] H := hP
          have hD : va_D A [(hb2, aS ta 16 (qU g' 15 (qlo ((qs (g' 15)) ^^^ (-121)))))] := hD
          have hq_4 : (seg (qU g' 15 (qlo ((qs (g' 15)) ^^^ (-121)))) 0 16 = shL (seg gb 0 16)) := by
            first | exact (sh_end (by omega) hs).1 (by rw [hcar]; decide) | exact (sh_end (by omega) hs).2 hcar
          exact hret (qU g' 15 (qlo ((qs (g' 15)) ^^^ (-121)))) _ _ _ _ dX10_shift_68 hq_4 (hP.sub [0] rfl) (hD.sub [0] (by decide) rfl) hS
      · skip
        rw [nI_leI (by omega) (by omega)] at c_1
        refine lv_aload_n (pc := 17) hx hb dX10_shift_17 rfl (lv_at hl 2 rfl) ?_
        refine lv_iload_n (pc := 18) hx hb dX10_shift_18 rfl (lv_at hl 0 rfl) ?_
        refine lv_aload_n (pc := 19) hx hb dX10_shift_19 rfl (lv_at hl 2 rfl) ?_
        refine lv_iload_n (pc := 20) hx hb dX10_shift_20 rfl (lv_at hl 0 rfl) ?_
        refine q_bald (pc := 21) hx hb hK hP 0 2 rfl rfl (k := k) (v := qs (g' k)) rfl (by omega) (by omega) rfl dX10_shift_21 ?_
        refine lv_iconst (pc := 22) (v := nI 1) hx hb dX10_shift_22 (by decide +kernel) ?_
        refine lv_ishl (pc := 23) hx hb dX10_shift_23 ?_
        refine lv_iload_n (pc := 24) hx hb dX10_shift_24 rfl (lv_at hl 0 rfl) ?_
        refine lv_bipush (pc := 25) (v := nI 15) hx hb dX10_shift_25 (by decide +kernel) ?_
        refine lv_icmp_ge (pc := 27) (tgt := 43) hx hb dX10_shift_27 (by decide) (fun c_5 => ?_) (fun c_5 => ?_)
        · skip
          rw [nI_leI (by omega) (by omega)] at c_5
          refine lv_iconst (pc := 43) (v := nI 0) hx hb dX10_shift_43 (by decide +kernel) ?_
          refine lv_ior (pc := 44) hx hb dX10_shift_44 ?_
          refine lv_i2b (pc := 45) (v := qs (qlo (((qs (g' k)) <<< ((nI 1) &&& 31)) ||| (nI 0)))) hx hb dX10_shift_45 (q_i2b _) ?_
          refine q_bastS (pc := 46) hx hb hK hP hD hS 0 2 rfl rfl (k := k) rfl (by omega) (by omega) (b := qlo (((qs (g' k)) <<< ((nI 1) &&& 31)) ||| (nI 0))) (qlo_qs _) dX10_shift_46 (fun H locs hP hD hS => ?_)
          have hP : va_P D vwCl [(hb2, aS ta 16 (qU g' k (qlo (((qs (g' k)) <<< ((nI 1) &&& 31)) ||| (nI 0)))))] H := hP
          have hD : va_D A [(hb2, aS ta 16 (qU g' k (qlo (((qs (g' k)) <<< ((nI 1) &&& 31)) ||| (nI 0)))))] := hD
          refine lv_iinc (pc := 47) (v := nI (k + 1)) (lv' := [(2, .int (nI (k + 1))), (1, .int (qb ((gb 0).getLsbD 7))), (0, .ref hb2)]) hx hb dX10_shift_47 hl (k := 0) rfl (by first | exact nI_add k 1 | rfl) (by decide) rfl (fun ls hl => ?_)
          refine lv_goto (pc := 50) (tgt := 11) hx hb dX10_shift_50 (by decide) ?_
          exact ih11 (k + 1) (qU g' k (qlo (((qs (g' k)) <<< ((nI 1) &&& 31)) ||| (nI 0)))) (by omega) (qSeg_s hs (by omega) (by rw [shF]; first | (rw [qlo_shl1, hs.2 k (by omega), hs.2 (k + 1) (by omega), if_pos (show k < 15 by omega)]) | (rw [qlo_shl0, hs.2 k (by omega), if_neg (show ¬ k < 15 by omega)]))) (by omega) _ _ (hP.sub [0] rfl) (hD.sub [0] (by decide) rfl) hS ls (lv_sub hl [0, 1, 2] rfl)
        · skip
          rw [nI_leI (by omega) (by omega)] at c_5
          refine lv_aload_n (pc := 30) hx hb dX10_shift_30 rfl (lv_at hl 2 rfl) ?_
          refine lv_iload_n (pc := 31) hx hb dX10_shift_31 rfl (lv_at hl 0 rfl) ?_
          refine lv_iconst (pc := 32) (v := nI 1) hx hb dX10_shift_32 (by decide +kernel) ?_
          refine lv_iadd (pc := 33) hx hb dX10_shift_33 ?_
          refine q_top (y := nI (k + 1)) (nI_add k 1) ?_
          refine q_bald (pc := 34) hx hb hK hP 0 2 rfl rfl (k := k + 1) (v := qs (g' (k + 1))) rfl (by omega) (by omega) rfl dX10_shift_34 ?_
          refine lv_bipush (pc := 35) (v := nI 7) hx hb dX10_shift_35 (by decide +kernel) ?_
          refine lv_ishr (pc := 37) hx hb dX10_shift_37 ?_
          refine lv_iconst (pc := 38) (v := nI 1) hx hb dX10_shift_38 (by decide +kernel) ?_
          refine lv_iand (pc := 39) hx hb dX10_shift_39 ?_
          refine q_top (y := qb ((g' (k + 1)).getLsbD 7)) (q_bit_s _ (by omega)) ?_
          refine lv_goto (pc := 40) (tgt := 44) hx hb dX10_shift_40 (by decide) ?_
          refine lv_ior (pc := 44) hx hb dX10_shift_44 ?_
          refine lv_i2b (pc := 45) (v := qs (qlo (((qs (g' k)) <<< ((nI 1) &&& 31)) ||| (qb ((g' (k + 1)).getLsbD 7))))) hx hb dX10_shift_45 (q_i2b _) ?_
          refine q_bastS (pc := 46) hx hb hK hP hD hS 0 2 rfl rfl (k := k) rfl (by omega) (by omega) (b := qlo (((qs (g' k)) <<< ((nI 1) &&& 31)) ||| (qb ((g' (k + 1)).getLsbD 7)))) (qlo_qs _) dX10_shift_46 (fun H locs hP hD hS => ?_)
          have hP : va_P D vwCl [(hb2, aS ta 16 (qU g' k (qlo (((qs (g' k)) <<< ((nI 1) &&& 31)) ||| (qb ((g' (k + 1)).getLsbD 7))))))] H := hP
          have hD : va_D A [(hb2, aS ta 16 (qU g' k (qlo (((qs (g' k)) <<< ((nI 1) &&& 31)) ||| (qb ((g' (k + 1)).getLsbD 7))))))] := hD
          refine lv_iinc (pc := 47) (v := nI (k + 1)) (lv' := [(2, .int (nI (k + 1))), (1, .int (qb ((gb 0).getLsbD 7))), (0, .ref hb2)]) hx hb dX10_shift_47 hl (k := 0) rfl (by first | exact nI_add k 1 | rfl) (by decide) rfl (fun ls hl => ?_)
          refine lv_goto (pc := 50) (tgt := 11) hx hb dX10_shift_50 (by decide) ?_
          exact ih11 (k + 1) (qU g' k (qlo (((qs (g' k)) <<< ((nI 1) &&& 31)) ||| (qb ((g' (k + 1)).getLsbD 7))))) (by omega) (qSeg_s hs (by omega) (by rw [shF]; first | (rw [qlo_shl1, hs.2 k (by omega), hs.2 (k + 1) (by omega), if_pos (show k < 15 by omega)]) | (rw [qlo_shl0, hs.2 k (by omega), if_neg (show ¬ k < 15 by omega)]))) (by omega) _ _ (hP.sub [0] rfl) (hD.sub [0] (by decide) rfl) hS ls (lv_sub hl [0, 1, 2] rfl)
  exact LP11 _ 0 gb (by omega) (qSeg_0) (Nat.lt_succ_self _) _ _ (hP.sub [0] rfl) (hD.sub [0] (by decide) rfl) hS ls (lv_sub hl [0, 1, 2] rfl)
set_option maxHeartbeats 4000000 in
set_option maxRecDepth 100000 in
theorem ct_X10_aes_fL (ll : Launch) (D : va_G) (ta : Nat → ClassId) {G : (Nat → Prop) → State → Heap → Prop} (hGok : GOK G) (h0 : Nat) (a : Nat → Nat) (mn : Nat) (tp : Nat) (osz : Nat) (lsz : Nat) (ns : Nat) (ct : Nat) (hb2 : Nat) (at0 : Nat) (capb : Nat) (gb : Nat → BitVec 8) (ce : Nat → BitVec 8) (rk : Nat → BitVec 8) (n : Nat) (K : Bytes) (hat : at0 + 16 ≤ capb) (hcb : capb < 2147483648) (hn : n = 16 ∨ n = 24 ∨ n = 32) (hKn : K.length = n) (hrk : rkOK rk K) (sz : Nat) : CT ll yX10_aes cX10_aes 6 none ({ frames := 3, cells := 0, slots := 0, locals := 73 } : Room) D ta G [.ref h0, .ref hb2, .int (nI at0), .int (qb false)] [(h0, oM a (n / 4 + 6) mn tp osz lsz ns ct), (a 8, aZ ta 256 BOX), (a 9, aZ ta 256 UBOX), (a 16, aS ta 240 rk), (a 18, aS ta 16 ce), (hb2, aS ta capb gb)] sz (S := (Nat → BitVec 8) × (Nat → BitVec 8)) (fun _ => none) (fun u => (seg u.1 at0 16 = aesE K (seg gb at0 16)) ∧ (∀ j, (j < at0 ∨ at0 + 16 ≤ j) → u.1 j = gb j)) (fun u => [(h0, oM a (n / 4 + 6) mn tp osz lsz ns ct), (a 8, aZ ta 256 BOX), (a 9, aZ ta 256 UBOX), (a 16, aS ta 240 rk), (a 18, aS ta 16 u.2), (hb2, aS ta capb u.1)]) 0 0 := by
  exact CT.mono (ct_X10_aes_f ll D ta hGok h0 a (n / 4 + 6) mn tp osz lsz ns ct hb2 at0 capb gb ce rk hat hcb (by omega) sz) (fun u hu => ⟨aes_seg hKn hrk hu, hu.2⟩)
set_option maxHeartbeats 4000000 in
set_option maxRecDepth 100000 in
theorem ct_X10_aes_bL (ll : Launch) (D : va_G) (ta : Nat → ClassId) {G : (Nat → Prop) → State → Heap → Prop} (hGok : GOK G) (h0 : Nat) (a : Nat → Nat) (mn : Nat) (tp : Nat) (osz : Nat) (lsz : Nat) (ns : Nat) (ct : Nat) (hb2 : Nat) (at0 : Nat) (capb : Nat) (gb : Nat → BitVec 8) (ce : Nat → BitVec 8) (rk : Nat → BitVec 8) (n : Nat) (K : Bytes) (hat : at0 + 16 ≤ capb) (hcb : capb < 2147483648) (hn : n = 16 ∨ n = 24 ∨ n = 32) (hKn : K.length = n) (hrk : rkOK rk K) (sz : Nat) : CT ll yX10_aes cX10_aes 6 none ({ frames := 3, cells := 0, slots := 0, locals := 73 } : Room) D ta G [.ref h0, .ref hb2, .int (nI at0), .int (qb true)] [(h0, oM a (n / 4 + 6) mn tp osz lsz ns ct), (a 8, aZ ta 256 BOX), (a 9, aZ ta 256 UBOX), (a 16, aS ta 240 rk), (a 18, aS ta 16 ce), (hb2, aS ta capb gb)] sz (S := (Nat → BitVec 8) × (Nat → BitVec 8)) (fun _ => none) (fun u => (seg u.1 at0 16 = aesD K (seg gb at0 16)) ∧ (∀ j, (j < at0 ∨ at0 + 16 ≤ j) → u.1 j = gb j)) (fun u => [(h0, oM a (n / 4 + 6) mn tp osz lsz ns ct), (a 8, aZ ta 256 BOX), (a 9, aZ ta 256 UBOX), (a 16, aS ta 240 rk), (a 18, aS ta 16 u.2), (hb2, aS ta capb u.1)]) 0 0 := by
  exact CT.mono (ct_X10_aes_b ll D ta hGok h0 a (n / 4 + 6) mn tp osz lsz ns ct hb2 at0 capb gb ce rk hat hcb (by omega) sz) (fun u hu => ⟨aesD_seg hKn hrk hu, hu.2⟩)
set_option maxHeartbeats 4000000 in
set_option maxRecDepth 100000 in
theorem ct_X10_aesKeyL (ll : Launch) (D : va_G) (ta : Nat → ClassId) {G : (Nat → Prop) → State → Heap → Prop} (hGok : GOK G) (h0 : Nat) (a : Nat → Nat) (ar : Nat) (mn : Nat) (tp : Nat) (osz : Nat) (lsz : Nat) (ns : Nat) (ct : Nat) (hk : Nat) (fr : Nat) (capk : Nat) (gk : Nat → BitVec 8) (rk : Nat → BitVec 8) (len : Nat) (hl : len = 16 ∨ len = 24 ∨ len = 32) (hf : fr + len ≤ capk) (hck : capk < 2147483648) (sz : Nat) : CT ll yX10_aesKey cX10_aesKey 9 none ({ frames := 1, cells := 0, slots := 0, locals := 20 } : Room) D ta G [.ref h0, .ref hk, .int (nI fr), .int (nI len)] [(h0, oM a ar mn tp osz lsz ns ct), (a 8, aZ ta 256 BOX), (a 16, aS ta 240 rk), (hk, aS ta capk gk)] sz (S := (Nat → BitVec 8)) (fun _ => none) (fun u => (rkOK u (seg gk fr len))) (fun u => [(h0, oM a (len / 4 + 6) mn tp osz lsz ns ct), (a 8, aZ ta 256 BOX), (a 16, aS ta 240 u), (hk, aS ta capk gk)]) 0 0 := by
  exact CT.mono (ct_X10_aesKey ll D ta hGok h0 a ar mn tp osz lsz ns ct hk fr capk gk rk len hl hf hck sz) (fun u hu => rk_seg hl hu)
theorem hdX10_cmac : yX10_cmac.cls ≠ "java/lang/invoke/MethodHandle" ∧ yX10_cmac.cls ≠ "java/lang/invoke/VarHandle" ∧ (parseMethodDescriptor yX10_cmac.desc).map (fun d => d.parameters.length) = some 3 := ⟨by decide +kernel, by decide +kernel, by decide +kernel⟩
theorem dX10_cmac_0 : decode cX10_cmac 0 = .ok (.aload_n 0, 1) := by decide +kernel
theorem dX10_cmac_1 : decode cX10_cmac 1 = .ok (.aload_n 1, 1) := by decide +kernel
theorem dX10_cmac_2 : decode cX10_cmac 2 = .ok (.iload_n 2, 1) := by decide +kernel
theorem dX10_cmac_3 : decode cX10_cmac 3 = .ok (.iload_n 3, 1) := by decide +kernel
theorem dX10_cmac_4 : decode cX10_cmac 4 = .ok (.invokevirtual 100, 3) := by decide +kernel
theorem dX10_cmac_7 : decode cX10_cmac 7 = .ok (.iconst 0, 1) := by decide +kernel
theorem dX10_cmac_8 : decode cX10_cmac 8 = .ok (.istore 4, 2) := by decide +kernel
theorem dX10_cmac_10 : decode cX10_cmac 10 = .ok (.iload 4, 2) := by decide +kernel
theorem dX10_cmac_12 : decode cX10_cmac 12 = .ok (.bipush 16, 2) := by decide +kernel
theorem dX10_cmac_14 : decode cX10_cmac 14 = .ok (.if_icmp .ge 17, 3) := by decide +kernel
theorem dX10_cmac_17 : decode cX10_cmac 17 = .ok (.aload_n 0, 1) := by decide +kernel
theorem dX10_cmac_18 : decode cX10_cmac 18 = .ok (.getfield 103, 3) := by decide +kernel
theorem dX10_cmac_21 : decode cX10_cmac 21 = .ok (.iload 4, 2) := by decide +kernel
theorem dX10_cmac_23 : decode cX10_cmac 23 = .ok (.iconst 0, 1) := by decide +kernel
theorem dX10_cmac_24 : decode cX10_cmac 24 = .ok (.bastore, 1) := by decide +kernel
theorem dX10_cmac_25 : decode cX10_cmac 25 = .ok (.iinc 4 1, 3) := by decide +kernel
theorem dX10_cmac_28 : decode cX10_cmac 28 = .ok (.goto (-18), 3) := by decide +kernel
theorem dX10_cmac_31 : decode cX10_cmac 31 = .ok (.aload_n 0, 1) := by decide +kernel
theorem dX10_cmac_32 : decode cX10_cmac 32 = .ok (.aload_n 0, 1) := by decide +kernel
theorem dX10_cmac_33 : decode cX10_cmac 33 = .ok (.getfield 103, 3) := by decide +kernel
theorem dX10_cmac_36 : decode cX10_cmac 36 = .ok (.iconst 0, 1) := by decide +kernel
theorem dX10_cmac_37 : decode cX10_cmac 37 = .ok (.iconst 0, 1) := by decide +kernel
theorem dX10_cmac_38 : decode cX10_cmac 38 = .ok (.invokevirtual 106, 3) := by decide +kernel
theorem dX10_cmac_41 : decode cX10_cmac 41 = .ok (.aload_n 0, 1) := by decide +kernel
theorem dX10_cmac_42 : decode cX10_cmac 42 = .ok (.getfield 103, 3) := by decide +kernel
theorem dX10_cmac_45 : decode cX10_cmac 45 = .ok (.invokestatic 110, 3) := by decide +kernel
theorem dX10_cmac_48 : decode cX10_cmac 48 = .ok (.aload_n 0, 1) := by decide +kernel
theorem dX10_cmac_49 : decode cX10_cmac 49 = .ok (.getfield 81, 3) := by decide +kernel
theorem dX10_cmac_52 : decode cX10_cmac 52 = .ok (.ifCond .le 17, 3) := by decide +kernel
theorem dX10_cmac_55 : decode cX10_cmac 55 = .ok (.aload_n 0, 1) := by decide +kernel
theorem dX10_cmac_56 : decode cX10_cmac 56 = .ok (.getfield 81, 3) := by decide +kernel
theorem dX10_cmac_59 : decode cX10_cmac 59 = .ok (.bipush 16, 2) := by decide +kernel
theorem dX10_cmac_61 : decode cX10_cmac 61 = .ok (.irem, 1) := by decide +kernel
theorem dX10_cmac_62 : decode cX10_cmac 62 = .ok (.ifCond .ne 7, 3) := by decide +kernel
theorem dX10_cmac_65 : decode cX10_cmac 65 = .ok (.iconst 1, 1) := by decide +kernel
theorem dX10_cmac_66 : decode cX10_cmac 66 = .ok (.goto 4, 3) := by decide +kernel
theorem dX10_cmac_69 : decode cX10_cmac 69 = .ok (.iconst 0, 1) := by decide +kernel
theorem dX10_cmac_70 : decode cX10_cmac 70 = .ok (.istore 4, 2) := by decide +kernel
theorem dX10_cmac_72 : decode cX10_cmac 72 = .ok (.iload 4, 2) := by decide +kernel
theorem dX10_cmac_74 : decode cX10_cmac 74 = .ok (.ifCond .ne 16, 3) := by decide +kernel
theorem dX10_cmac_77 : decode cX10_cmac 77 = .ok (.aload_n 0, 1) := by decide +kernel
theorem dX10_cmac_78 : decode cX10_cmac 78 = .ok (.getfield 103, 3) := by decide +kernel
theorem dX10_cmac_81 : decode cX10_cmac 81 = .ok (.invokestatic 110, 3) := by decide +kernel
theorem dX10_cmac_84 : decode cX10_cmac 84 = .ok (.aload_n 0, 1) := by decide +kernel
theorem dX10_cmac_85 : decode cX10_cmac 85 = .ok (.bipush 16, 2) := by decide +kernel
theorem dX10_cmac_87 : decode cX10_cmac 87 = .ok (.invokevirtual 91, 3) := by decide +kernel
theorem dX10_cmac_90 : decode cX10_cmac 90 = .ok (.iconst 0, 1) := by decide +kernel
theorem dX10_cmac_91 : decode cX10_cmac 91 = .ok (.istore 5, 2) := by decide +kernel
theorem dX10_cmac_93 : decode cX10_cmac 93 = .ok (.iload 5, 2) := by decide +kernel
theorem dX10_cmac_95 : decode cX10_cmac 95 = .ok (.bipush 16, 2) := by decide +kernel
theorem dX10_cmac_97 : decode cX10_cmac 97 = .ok (.if_icmp .ge 43, 3) := by decide +kernel
theorem dX10_cmac_100 : decode cX10_cmac 100 = .ok (.aload_n 0, 1) := by decide +kernel
theorem dX10_cmac_101 : decode cX10_cmac 101 = .ok (.getfield 84, 3) := by decide +kernel
theorem dX10_cmac_104 : decode cX10_cmac 104 = .ok (.aload_n 0, 1) := by decide +kernel
theorem dX10_cmac_105 : decode cX10_cmac 105 = .ok (.getfield 81, 3) := by decide +kernel
theorem dX10_cmac_108 : decode cX10_cmac 108 = .ok (.bipush 16, 2) := by decide +kernel
theorem dX10_cmac_110 : decode cX10_cmac 110 = .ok (.isub, 1) := by decide +kernel
theorem dX10_cmac_111 : decode cX10_cmac 111 = .ok (.iload 5, 2) := by decide +kernel
theorem dX10_cmac_113 : decode cX10_cmac 113 = .ok (.iadd, 1) := by decide +kernel
theorem dX10_cmac_114 : decode cX10_cmac 114 = .ok (.dup2, 1) := by decide +kernel
theorem dX10_cmac_115 : decode cX10_cmac 115 = .ok (.baload, 1) := by decide +kernel
theorem dX10_cmac_116 : decode cX10_cmac 116 = .ok (.aload_n 0, 1) := by decide +kernel
theorem dX10_cmac_117 : decode cX10_cmac 117 = .ok (.getfield 103, 3) := by decide +kernel
theorem dX10_cmac_120 : decode cX10_cmac 120 = .ok (.iload 5, 2) := by decide +kernel
theorem dX10_cmac_122 : decode cX10_cmac 122 = .ok (.baload, 1) := by decide +kernel
theorem dX10_cmac_123 : decode cX10_cmac 123 = .ok (.ixor, 1) := by decide +kernel
theorem dX10_cmac_124 : decode cX10_cmac 124 = .ok (.i2b, 1) := by decide +kernel
theorem dX10_cmac_125 : decode cX10_cmac 125 = .ok (.bastore, 1) := by decide +kernel
theorem dX10_cmac_126 : decode cX10_cmac 126 = .ok (.aload_n 0, 1) := by decide +kernel
theorem dX10_cmac_127 : decode cX10_cmac 127 = .ok (.getfield 94, 3) := by decide +kernel
theorem dX10_cmac_130 : decode cX10_cmac 130 = .ok (.iload 5, 2) := by decide +kernel
theorem dX10_cmac_132 : decode cX10_cmac 132 = .ok (.iconst 0, 1) := by decide +kernel
theorem dX10_cmac_133 : decode cX10_cmac 133 = .ok (.bastore, 1) := by decide +kernel
theorem dX10_cmac_134 : decode cX10_cmac 134 = .ok (.iinc 5 1, 3) := by decide +kernel
theorem dX10_cmac_137 : decode cX10_cmac 137 = .ok (.goto (-44), 3) := by decide +kernel
theorem dX10_cmac_140 : decode cX10_cmac 140 = .ok (.iconst 0, 1) := by decide +kernel
theorem dX10_cmac_141 : decode cX10_cmac 141 = .ok (.istore 5, 2) := by decide +kernel
theorem dX10_cmac_143 : decode cX10_cmac 143 = .ok (.iload 5, 2) := by decide +kernel
theorem dX10_cmac_145 : decode cX10_cmac 145 = .ok (.aload_n 0, 1) := by decide +kernel
theorem dX10_cmac_146 : decode cX10_cmac 146 = .ok (.getfield 81, 3) := by decide +kernel
theorem dX10_cmac_149 : decode cX10_cmac 149 = .ok (.if_icmp .ge 56, 3) := by decide +kernel
theorem dX10_cmac_152 : decode cX10_cmac 152 = .ok (.iconst 0, 1) := by decide +kernel
theorem dX10_cmac_153 : decode cX10_cmac 153 = .ok (.istore 6, 2) := by decide +kernel
theorem dX10_cmac_155 : decode cX10_cmac 155 = .ok (.iload 6, 2) := by decide +kernel
theorem dX10_cmac_157 : decode cX10_cmac 157 = .ok (.bipush 16, 2) := by decide +kernel
theorem dX10_cmac_159 : decode cX10_cmac 159 = .ok (.if_icmp .ge 30, 3) := by decide +kernel
theorem dX10_cmac_162 : decode cX10_cmac 162 = .ok (.aload_n 0, 1) := by decide +kernel
theorem dX10_cmac_163 : decode cX10_cmac 163 = .ok (.getfield 94, 3) := by decide +kernel
theorem dX10_cmac_166 : decode cX10_cmac 166 = .ok (.iload 6, 2) := by decide +kernel
theorem dX10_cmac_168 : decode cX10_cmac 168 = .ok (.dup2, 1) := by decide +kernel
theorem dX10_cmac_169 : decode cX10_cmac 169 = .ok (.baload, 1) := by decide +kernel
theorem dX10_cmac_170 : decode cX10_cmac 170 = .ok (.aload_n 0, 1) := by decide +kernel
theorem dX10_cmac_171 : decode cX10_cmac 171 = .ok (.getfield 84, 3) := by decide +kernel
theorem dX10_cmac_174 : decode cX10_cmac 174 = .ok (.iload 5, 2) := by decide +kernel
theorem dX10_cmac_176 : decode cX10_cmac 176 = .ok (.iload 6, 2) := by decide +kernel
theorem dX10_cmac_178 : decode cX10_cmac 178 = .ok (.iadd, 1) := by decide +kernel
theorem dX10_cmac_179 : decode cX10_cmac 179 = .ok (.baload, 1) := by decide +kernel
theorem dX10_cmac_180 : decode cX10_cmac 180 = .ok (.ixor, 1) := by decide +kernel
theorem dX10_cmac_181 : decode cX10_cmac 181 = .ok (.i2b, 1) := by decide +kernel
theorem dX10_cmac_182 : decode cX10_cmac 182 = .ok (.bastore, 1) := by decide +kernel
theorem dX10_cmac_183 : decode cX10_cmac 183 = .ok (.iinc 6 1, 3) := by decide +kernel
theorem dX10_cmac_186 : decode cX10_cmac 186 = .ok (.goto (-31), 3) := by decide +kernel
theorem dX10_cmac_189 : decode cX10_cmac 189 = .ok (.aload_n 0, 1) := by decide +kernel
theorem dX10_cmac_190 : decode cX10_cmac 190 = .ok (.aload_n 0, 1) := by decide +kernel
theorem dX10_cmac_191 : decode cX10_cmac 191 = .ok (.getfield 94, 3) := by decide +kernel
theorem dX10_cmac_194 : decode cX10_cmac 194 = .ok (.iconst 0, 1) := by decide +kernel
theorem dX10_cmac_195 : decode cX10_cmac 195 = .ok (.iconst 0, 1) := by decide +kernel
theorem dX10_cmac_196 : decode cX10_cmac 196 = .ok (.invokevirtual 106, 3) := by decide +kernel
theorem dX10_cmac_199 : decode cX10_cmac 199 = .ok (.iinc 5 16, 3) := by decide +kernel
theorem dX10_cmac_202 : decode cX10_cmac 202 = .ok (.goto (-59), 3) := by decide +kernel
theorem dX10_cmac_205 : decode cX10_cmac 205 = .ok (.return_, 1) := by decide +kernel
set_option maxHeartbeats 4000000 in
set_option maxRecDepth 100000 in
theorem ct_X10_cmac (ll : Launch) (D : va_G) (ta : Nat → ClassId) {G : (Nat → Prop) → State → Heap → Prop} (hGok : GOK G) (h0 : Nat) (a : Nat → Nat) (ar : Nat) (mn : Nat) (tp : Nat) (osz : Nat) (lsz : Nat) (ns : Nat) (ct : Nat) (gm : Nat → BitVec 8) (mac : Nat → BitVec 8) (k1 : Nat → BitVec 8) (rk : Nat → BitVec 8) (ce : Nat → BitVec 8) (hk : Nat) (fr : Nat) (capk : Nat) (gk : Nat → BitVec 8) (len : Nat) (hmn : (mn / 16 + 1) * 16 ≤ 700) (hln : len = 16 ∨ len = 24 ∨ len = 32) (hf : fr + len ≤ capk) (hck : capk < 2147483648) (sz : Nat) : CT ll yX10_cmac cX10_cmac 7 none ({ frames := 4, cells := 0, slots := 0, locals := 98 } : Room) D ta G [.ref h0, .ref hk, .int (nI fr), .int (nI len)] [(h0, oM a ar mn tp osz lsz ns ct), (a 8, aZ ta 256 BOX), (a 9, aZ ta 256 UBOX), (a 16, aS ta 240 rk), (a 18, aS ta 16 ce), (a 22, aS ta 700 gm), (a 24, aS ta 16 mac), (a 25, aS ta 16 k1), (hk, aS ta capk gk)] sz (S := Nat × (Nat → BitVec 8) × (Nat → BitVec 8) × (Nat → BitVec 8) × (Nat → BitVec 8) × (Nat → BitVec 8)) (fun _ => none) (fun u => (seg u.2.2.1 0 16 = cmacL (seg gk fr len) (qL gm mn))) (fun u => [(h0, oM a (len / 4 + 6) u.1 tp osz lsz ns ct), (a 8, aZ ta 256 BOX), (a 9, aZ ta 256 UBOX), (a 16, aS ta 240 u.2.2.2.2.1), (a 18, aS ta 16 u.2.2.2.2.2), (a 22, aS ta 700 u.2.1), (a 24, aS ta 16 u.2.2.1), (a 25, aS ta 16 u.2.2.2.1), (hk, aS ta capk gk)]) 0 0 := by
  refine CT.of_v rfl (by decide) (Nat.le_of_ble_eq_true rfl) ?_
  intro pp ee ss mm below meth kc A Q hx hb hml hown hin hts hK hA hsz hG hret H locs hP hD hS ls hl
  have hl : lv_has ls 7 [(0, .ref h0), (1, .ref hk), (2, .int (nI fr)), (3, .int (nI len))] := hl
  refine lv_aload_n (pc := 0) hx hb dX10_cmac_0 rfl (lv_at hl 0 rfl) ?_
  refine lv_aload_n (pc := 1) hx hb dX10_cmac_1 rfl (lv_at hl 1 rfl) ?_
  refine lv_iload_n (pc := 2) hx hb dX10_cmac_2 rfl (lv_at hl 2 rfl) ?_
  refine lv_iload_n (pc := 3) hx hb dX10_cmac_3 rfl (lv_at hl 3 rfl) ?_
  refine cs_V (pc := 4) (idx := 100) (n := 3) (wr := [(a 9, aZ ta 256 UBOX), (a 18, aS ta 16 ce), (a 22, aS ta 700 gm), (a 24, aS ta 16 mac), (a 25, aS ta 16 k1)]) (As := [.ref hk, .int (nI fr), .int (nI len)]) (rest := []) (ci := 8) hx hb hml hown hts hGok hK hA hG hl.1 hP hD hS (ct_X10_aesKeyL ll D ta hGok h0 a ar mn tp osz lsz ns ct hk fr capk gk rk len (by first | assumption | omega | rfl | decide) (by first | assumption | omega | rfl | decide) (by first | assumption | omega | rfl | decide) H.size) tw_1338 tw_1335 tw_1337 tw_44 tw_75 hdX10_aesKey rfl ⟨rfl, rfl, Nat.le_of_ble_eq_true rfl, Nat.le_of_ble_eq_true rfl, Nat.le_of_ble_eq_true rfl, Nat.le_of_ble_eq_true rfl⟩ rfl rfl (q0 := 0) rfl [0, 1, 3, 8] [2, 4, 5, 6, 7] rfl rfl (by decide) rfl (Nat.le_of_ble_eq_true rfl) dX10_cmac_4 (fun u H locs hq hP hD hS => ?_)
  generalize u = rk1_4 at hq hP hD ⊢
  have hq : (rkOK rk1_4 (seg gk fr len)) := hq
  have hs_4 := hq
  refine W.eq (g2 := F0 mm 7 ls []) rfl ?_
  have hP : va_P D vwCl [(a 9, aZ ta 256 UBOX), (a 18, aS ta 16 ce), (a 22, aS ta 700 gm), (a 24, aS ta 16 mac), (a 25, aS ta 16 k1), (h0, oM a (len / 4 + 6) mn tp osz lsz ns ct), (a 8, aZ ta 256 BOX), (a 16, aS ta 240 rk1_4), (hk, aS ta capk gk)] H := hP
  have hD : va_D A [(a 9, aZ ta 256 UBOX), (a 18, aS ta 16 ce), (a 22, aS ta 700 gm), (a 24, aS ta 16 mac), (a 25, aS ta 16 k1), (h0, oM a (len / 4 + 6) mn tp osz lsz ns ct), (a 8, aZ ta 256 BOX), (a 16, aS ta 240 rk1_4), (hk, aS ta capk gk)] := hD
  refine lv_iconst (pc := 7) (v := nI 0) hx hb dX10_cmac_7 (by decide +kernel) ?_
  refine lv_istore (pc := 8) (lv' := [(4, .int (nI 0)), (0, .ref h0), (1, .ref hk), (2, .int (nI fr)), (3, .int (nI len))]) hx hb dX10_cmac_8 hl (by decide) rfl (fun ls hl => ?_)
  have LP10 : ∀ (nn10 : Nat) (k : Nat) (z' : Nat → BitVec 8), (k ≤ 16) → (qSeg z' k1 0 k (fun _ => 0#8)) → (16 - k < nn10) → ∀ (H : Heap) (locs : List Loc), va_P D vwCl [(a 9, aZ ta 256 UBOX), (a 18, aS ta 16 ce), (a 22, aS ta 700 gm), (a 24, aS ta 16 mac), (a 25, aS ta 16 z'), (h0, oM a (len / 4 + 6) mn tp osz lsz ns ct), (a 8, aZ ta 256 BOX), (a 16, aS ta 240 rk1_4), (hk, aS ta capk gk)] H → va_D A [(a 9, aZ ta 256 UBOX), (a 18, aS ta 16 ce), (a 22, aS ta 700 gm), (a 24, aS ta 16 mac), (a 25, aS ta 16 z'), (h0, oM a (len / 4 + 6) mn tp osz lsz ns ct), (a 8, aZ ta 256 BOX), (a 16, aS ta 240 rk1_4), (hk, aS ta capk gk)] → va_S A ss.heap H locs → ∀ ls : Array Slot, lv_has ls 7 [(4, .int (nI k)), (0, .ref h0), (1, .ref hk), (2, .int (nI fr)), (3, .int (nI len))] → W pp ll ee ({ frames := 4, cells := 0, slots := 0, locals := 98 } : Room) ss mm (([.ref h0, .ref hk, .int (nI fr), .int (nI len)] : List Value).toArray) below meth kc H locs 0 0 Q (F0 mm 10 ls []) := by
    intro nn10
    induction nn10 with
    | zero => intro k z' hkk hz hmu; exact absurd hmu (Nat.not_lt_zero _)
    | succ nn10 ih10 =>
      intro k z' hkk hz hmu10 H locs hP hD hS ls hl
      refine lv_iload (pc := 10) hx hb dX10_cmac_10 (lv_at hl 0 rfl) ?_
      refine lv_bipush (pc := 12) (v := nI 16) hx hb dX10_cmac_12 (by decide +kernel) ?_
      refine lv_icmp_ge (pc := 14) (tgt := 31) hx hb dX10_cmac_14 (by decide) (fun c_1 => ?_) (fun c_1 => ?_)
      · skip
        rw [nI_leI (by omega) (by omega)] at c_1
        refine lv_aload_n (pc := 31) hx hb dX10_cmac_31 rfl (lv_at hl 1 rfl) ?_
        refine lv_aload_n (pc := 32) hx hb dX10_cmac_32 rfl (lv_at hl 1 rfl) ?_
        refine va_get (pc := 33) (D := D) (ci := 8) (v := .ref (a 25)) (C := RX10) (T := TX10) (N := 57) hx hb hts iu10 hown hK hP 5 rfl rfl 25 (by decide) (hts _ tw_1070) (fun _ h9 => h9) rfl dX10_cmac_33 ?_
        refine lv_iconst (pc := 36) (v := nI 0) hx hb dX10_cmac_36 (by decide +kernel) ?_
        refine lv_iconst (pc := 37) (v := nI 0) hx hb dX10_cmac_37 (by decide +kernel) ?_
        refine cs_V (pc := 38) (idx := 106) (n := 3) (wr := [(a 22, aS ta 700 gm), (a 24, aS ta 16 mac), (hk, aS ta capk gk)]) (As := [.ref (a 25), .int (nI 0), .int (nI 0)]) (rest := []) (ci := 8) hx hb hml hown hts hGok hK hA hG hl.1 hP hD hS (ct_X10_aes_fL ll D ta hGok h0 a mn tp osz lsz ns ct (a 25) 0 16 z' ce rk1_4 len ((seg gk fr len)) (by first | assumption | omega | rfl | decide) (by first | assumption | omega | rfl | decide) (hln) (seg_len) (hs_4) H.size) tw_1342 tw_1339 tw_1341 tw_45 tw_75 hdX10_aes rfl ⟨rfl, rfl, Nat.le_of_ble_eq_true rfl, Nat.le_of_ble_eq_true rfl, Nat.le_of_ble_eq_true rfl, Nat.le_of_ble_eq_true rfl⟩ rfl rfl (q0 := 5) rfl [5, 6, 0, 7, 1, 4] [2, 3, 8] rfl rfl (by decide) rfl (Nat.le_of_ble_eq_true rfl) dX10_cmac_38 (fun u H locs hq hP hD hS => ?_)
        obtain ⟨gb1_38, ce1_38⟩ := u
        have hq : (seg gb1_38 0 16 = aesE ((seg gk fr len)) (seg z' 0 16)) ∧ (∀ j, (j < 0 ∨ 0 + 16 ≤ j) → gb1_38 j = z' j) := hq
        obtain ⟨hs_38, hfr_38⟩ := hq
        refine W.eq (g2 := F0 mm 41 ls []) rfl ?_
        have hP : va_P D vwCl [(a 22, aS ta 700 gm), (a 24, aS ta 16 mac), (hk, aS ta capk gk), (h0, oM a (len / 4 + 6) mn tp osz lsz ns ct), (a 8, aZ ta 256 BOX), (a 9, aZ ta 256 UBOX), (a 16, aS ta 240 rk1_4), (a 18, aS ta 16 ce1_38), (a 25, aS ta 16 gb1_38)] H := hP
        have hD : va_D A [(a 22, aS ta 700 gm), (a 24, aS ta 16 mac), (hk, aS ta capk gk), (h0, oM a (len / 4 + 6) mn tp osz lsz ns ct), (a 8, aZ ta 256 BOX), (a 9, aZ ta 256 UBOX), (a 16, aS ta 240 rk1_4), (a 18, aS ta 16 ce1_38), (a 25, aS ta 16 gb1_38)] := hD
        refine lv_aload_n (pc := 41) hx hb dX10_cmac_41 rfl (lv_at hl 1 rfl) ?_
        refine va_get (pc := 42) (D := D) (ci := 8) (v := .ref (a 25)) (C := RX10) (T := TX10) (N := 57) hx hb hts iu10 hown hK hP 3 rfl rfl 25 (by decide) (hts _ tw_1070) (fun _ h9 => h9) rfl dX10_cmac_42 ?_
        refine cs_S (pc := 45) (idx := 110) (n := 1) (wr := [(a 22, aS ta 700 gm), (a 24, aS ta 16 mac), (hk, aS ta capk gk), (h0, oM a (len / 4 + 6) mn tp osz lsz ns ct), (a 8, aZ ta 256 BOX), (a 9, aZ ta 256 UBOX), (a 16, aS ta 240 rk1_4), (a 18, aS ta 16 ce1_38)]) (As := [.ref (a 25)]) (rest := []) hx hb hml hown hts hGok hK hA hG hl.1 hP hD hS (ct_X10_shift ll D ta hGok (a 25) gb1_38  H.size) tw_1353 tw_1351 tw_1352 tw_75 hdX10_shift rfl ⟨rfl, rfl, Nat.le_of_ble_eq_true rfl, Nat.le_of_ble_eq_true rfl, Nat.le_of_ble_eq_true rfl, Nat.le_of_ble_eq_true rfl⟩ [8] [0, 1, 2, 3, 4, 5, 6, 7] rfl rfl (by decide) rfl (Nat.le_of_ble_eq_true rfl) dX10_cmac_45 (fun u H locs hq hP hD hS => ?_)
        generalize u = gb1_45 at hq hP hD ⊢
        have hq : (seg gb1_45 0 16 = shL (seg gb1_38 0 16)) := hq
        have hs_45 := hq
        refine W.eq (g2 := F0 mm 48 ls []) rfl ?_
        have hP : va_P D vwCl [(a 22, aS ta 700 gm), (a 24, aS ta 16 mac), (hk, aS ta capk gk), (h0, oM a (len / 4 + 6) mn tp osz lsz ns ct), (a 8, aZ ta 256 BOX), (a 9, aZ ta 256 UBOX), (a 16, aS ta 240 rk1_4), (a 18, aS ta 16 ce1_38), (a 25, aS ta 16 gb1_45)] H := hP
        have hD : va_D A [(a 22, aS ta 700 gm), (a 24, aS ta 16 mac), (hk, aS ta capk gk), (h0, oM a (len / 4 + 6) mn tp osz lsz ns ct), (a 8, aZ ta 256 BOX), (a 9, aZ ta 256 UBOX), (a 16, aS ta 240 rk1_4), (a 18, aS ta 16 ce1_38), (a 25, aS ta 16 gb1_45)] := hD
        have JN90 : ∀ (mx : Nat) (gx : Nat → BitVec 8) (kx : Nat → BitVec 8), (16 ≤ mx ∧ mx ≤ 700 ∧ mx % 16 = 0) → (lastX (qL gx mx) (seg kx 0 16) = cmacT (seg gk fr len) (qL gm mn)) → ∀ (H : Heap) (locs : List Loc), va_P D vwCl [(a 22, aS ta 700 gx), (a 24, aS ta 16 mac), (hk, aS ta capk gk), (h0, oM a (len / 4 + 6) mx tp osz lsz ns ct), (a 8, aZ ta 256 BOX), (a 9, aZ ta 256 UBOX), (a 16, aS ta 240 rk1_4), (a 18, aS ta 16 ce1_38), (a 25, aS ta 16 kx)] H → va_D A [(a 22, aS ta 700 gx), (a 24, aS ta 16 mac), (hk, aS ta capk gk), (h0, oM a (len / 4 + 6) mx tp osz lsz ns ct), (a 8, aZ ta 256 BOX), (a 9, aZ ta 256 UBOX), (a 16, aS ta 240 rk1_4), (a 18, aS ta 16 ce1_38), (a 25, aS ta 16 kx)] → va_S A ss.heap H locs → ∀ ls : Array Slot, lv_has ls 7 [(0, .ref h0), (1, .ref hk), (2, .int (nI fr)), (3, .int (nI len))] → W pp ll ee ({ frames := 4, cells := 0, slots := 0, locals := 98 } : Room) ss mm (([.ref h0, .ref hk, .int (nI fr), .int (nI len)] : List Value).toArray) below meth kc H locs 0 0 Q (F0 mm 90 ls []) := by
          intro mx gx kx hmx hX H locs hP hD hS ls hl
          refine lv_iconst (pc := 90) (v := nI 0) hx hb dX10_cmac_90 (by decide +kernel) ?_
          refine lv_istore (pc := 91) (lv' := [(5, .int (nI 0)), (0, .ref h0), (1, .ref hk), (2, .int (nI fr)), (3, .int (nI len))]) hx hb dX10_cmac_91 hl (by decide) rfl (fun ls hl => ?_)
          have LP93 : ∀ (nn93 : Nat) (k : Nat) (m' : Nat → BitVec 8) (c' : Nat → BitVec 8), (k ≤ 16) → (qSeg m' gx (mx - 16) k (fun j => gx (mx - 16 + j) ^^^ kx j)) → (qSeg c' mac 0 k (fun _ => 0#8)) → (16 - k < nn93) → ∀ (H : Heap) (locs : List Loc), va_P D vwCl [(a 22, aS ta 700 m'), (a 24, aS ta 16 c'), (hk, aS ta capk gk), (h0, oM a (len / 4 + 6) mx tp osz lsz ns ct), (a 8, aZ ta 256 BOX), (a 9, aZ ta 256 UBOX), (a 16, aS ta 240 rk1_4), (a 18, aS ta 16 ce1_38), (a 25, aS ta 16 kx)] H → va_D A [(a 22, aS ta 700 m'), (a 24, aS ta 16 c'), (hk, aS ta capk gk), (h0, oM a (len / 4 + 6) mx tp osz lsz ns ct), (a 8, aZ ta 256 BOX), (a 9, aZ ta 256 UBOX), (a 16, aS ta 240 rk1_4), (a 18, aS ta 16 ce1_38), (a 25, aS ta 16 kx)] → va_S A ss.heap H locs → ∀ ls : Array Slot, lv_has ls 7 [(5, .int (nI k)), (0, .ref h0), (1, .ref hk), (2, .int (nI fr)), (3, .int (nI len))] → W pp ll ee ({ frames := 4, cells := 0, slots := 0, locals := 98 } : Room) ss mm (([.ref h0, .ref hk, .int (nI fr), .int (nI len)] : List Value).toArray) below meth kc H locs 0 0 Q (F0 mm 93 ls []) := by
            intro nn93
            induction nn93 with
            | zero => intro k m' c' hkk2 hm2 hc2 hmu; exact absurd hmu (Nat.not_lt_zero _)
            | succ nn93 ih93 =>
              intro k m' c' hkk2 hm2 hc2 hmu93 H locs hP hD hS ls hl
              refine lv_iload (pc := 93) hx hb dX10_cmac_93 (lv_at hl 0 rfl) ?_
              refine lv_bipush (pc := 95) (v := nI 16) hx hb dX10_cmac_95 (by decide +kernel) ?_
              refine lv_icmp_ge (pc := 97) (tgt := 140) hx hb dX10_cmac_97 (by decide) (fun c_2 => ?_) (fun c_2 => ?_)
              · skip
                rw [nI_leI (by omega) (by omega)] at c_2
                refine lv_iconst (pc := 140) (v := nI 0) hx hb dX10_cmac_140 (by decide +kernel) ?_
                refine lv_istore (pc := 141) (lv' := [(5, .int (nI 0)), (0, .ref h0), (1, .ref hk), (2, .int (nI fr)), (3, .int (nI len))]) hx hb dX10_cmac_141 hl (by decide) rfl (fun ls hl => ?_)
                have LP143 : ∀ (nn143 : Nat) (i : Nat) (x' : Nat → BitVec 8) (e' : Nat → BitVec 8), (16 * i ≤ mx) → (qL x' 16 = cbcM (aesE (seg gk fr len)) 16 (zeroL 16) (qL m' mx) i) → (mx - 16 * i < nn143) → ∀ (H : Heap) (locs : List Loc), va_P D vwCl [(a 22, aS ta 700 m'), (a 24, aS ta 16 x'), (hk, aS ta capk gk), (h0, oM a (len / 4 + 6) mx tp osz lsz ns ct), (a 8, aZ ta 256 BOX), (a 9, aZ ta 256 UBOX), (a 16, aS ta 240 rk1_4), (a 18, aS ta 16 e'), (a 25, aS ta 16 kx)] H → va_D A [(a 22, aS ta 700 m'), (a 24, aS ta 16 x'), (hk, aS ta capk gk), (h0, oM a (len / 4 + 6) mx tp osz lsz ns ct), (a 8, aZ ta 256 BOX), (a 9, aZ ta 256 UBOX), (a 16, aS ta 240 rk1_4), (a 18, aS ta 16 e'), (a 25, aS ta 16 kx)] → va_S A ss.heap H locs → ∀ ls : Array Slot, lv_has ls 7 [(5, .int (nI (16 * i))), (0, .ref h0), (1, .ref hk), (2, .int (nI fr)), (3, .int (nI len))] → W pp ll ee ({ frames := 4, cells := 0, slots := 0, locals := 98 } : Room) ss mm (([.ref h0, .ref hk, .int (nI fr), .int (nI len)] : List Value).toArray) below meth kc H locs 0 0 Q (F0 mm 143 ls []) := by
                  intro nn143
                  induction nn143 with
                  | zero => intro i x' e' hii hc hmu; exact absurd hmu (Nat.not_lt_zero _)
                  | succ nn143 ih143 =>
                    intro i x' e' hii hc hmu143 H locs hP hD hS ls hl
                    refine lv_iload (pc := 143) hx hb dX10_cmac_143 (lv_at hl 0 rfl) ?_
                    refine lv_aload_n (pc := 145) hx hb dX10_cmac_145 rfl (lv_at hl 1 rfl) ?_
                    refine va_get (pc := 146) (D := D) (ci := 8) (v := .int (nI mx)) (C := RX10) (T := TX10) (N := 57) hx hb hts iu10 hown hK hP 3 rfl rfl 23 (by decide) (hts _ tw_1068) (fun _ h9 => h9) rfl dX10_cmac_146 ?_
                    refine lv_icmp_ge (pc := 149) (tgt := 205) hx hb dX10_cmac_149 (by decide) (fun c_3 => ?_) (fun c_3 => ?_)
                    · skip
                      rw [nI_leI (by omega) (by omega)] at c_3
                      have hq_4 : (seg x' 0 16 = cmacL (seg gk fr len) (qL gm mn)) := by
                        have eT : qL m' mx = cmacT (seg gk fr len) (qL gm mn) := (lastX_seg (by omega) (by omega) hm2).trans hX
                        have eL : (cmacT (seg gk fr len) (qL gm mn)).length = mx := by rw [← eT, qL_len]
                        rw [seg_0, hc, cmacL, eL, eT, show mx / 16 = i by omega]
                      exact hret (⟨(mx), (m'), (x'), (kx), (rk1_4), (e')⟩ : Nat × (Nat → BitVec 8) × (Nat → BitVec 8) × (Nat → BitVec 8) × (Nat → BitVec 8) × (Nat → BitVec 8)) _ _ _ _ dX10_cmac_205 hq_4 (hP.sub [3, 4, 5, 6, 7, 0, 1, 8, 2] rfl) (hD.sub [3, 4, 5, 6, 7, 0, 1, 8, 2] (by decide) rfl) hS
                    · skip
                      rw [nI_leI (by omega) (by omega)] at c_3
                      refine lv_iconst (pc := 152) (v := nI 0) hx hb dX10_cmac_152 (by decide +kernel) ?_
                      refine lv_istore (pc := 153) (lv' := [(6, .int (nI 0)), (5, .int (nI (16 * i))), (0, .ref h0), (1, .ref hk), (2, .int (nI fr)), (3, .int (nI len))]) hx hb dX10_cmac_153 hl (by decide) rfl (fun ls hl => ?_)
                      have LP155 : ∀ (nn155 : Nat) (d : Nat) (d' : Nat → BitVec 8), (d ≤ 16) → (qSeg d' x' 0 d (fun j => x' j ^^^ m' (16 * i + j))) → (16 - d < nn155) → ∀ (H : Heap) (locs : List Loc), va_P D vwCl [(a 22, aS ta 700 m'), (a 24, aS ta 16 d'), (hk, aS ta capk gk), (h0, oM a (len / 4 + 6) mx tp osz lsz ns ct), (a 8, aZ ta 256 BOX), (a 9, aZ ta 256 UBOX), (a 16, aS ta 240 rk1_4), (a 18, aS ta 16 e'), (a 25, aS ta 16 kx)] H → va_D A [(a 22, aS ta 700 m'), (a 24, aS ta 16 d'), (hk, aS ta capk gk), (h0, oM a (len / 4 + 6) mx tp osz lsz ns ct), (a 8, aZ ta 256 BOX), (a 9, aZ ta 256 UBOX), (a 16, aS ta 240 rk1_4), (a 18, aS ta 16 e'), (a 25, aS ta 16 kx)] → va_S A ss.heap H locs → ∀ ls : Array Slot, lv_has ls 7 [(6, .int (nI d)), (5, .int (nI (16 * i))), (0, .ref h0), (1, .ref hk), (2, .int (nI fr)), (3, .int (nI len))] → W pp ll ee ({ frames := 4, cells := 0, slots := 0, locals := 98 } : Room) ss mm (([.ref h0, .ref hk, .int (nI fr), .int (nI len)] : List Value).toArray) below meth kc H locs 0 0 Q (F0 mm 155 ls []) := by
                        intro nn155
                        induction nn155 with
                        | zero => intro d d' hdd hd hmu; exact absurd hmu (Nat.not_lt_zero _)
                        | succ nn155 ih155 =>
                          intro d d' hdd hd hmu155 H locs hP hD hS ls hl
                          refine lv_iload (pc := 155) hx hb dX10_cmac_155 (lv_at hl 0 rfl) ?_
                          refine lv_bipush (pc := 157) (v := nI 16) hx hb dX10_cmac_157 (by decide +kernel) ?_
                          refine lv_icmp_ge (pc := 159) (tgt := 189) hx hb dX10_cmac_159 (by decide) (fun c_5 => ?_) (fun c_5 => ?_)
                          · skip
                            rw [nI_leI (by omega) (by omega)] at c_5
                            refine lv_aload_n (pc := 189) hx hb dX10_cmac_189 rfl (lv_at hl 2 rfl) ?_
                            refine lv_aload_n (pc := 190) hx hb dX10_cmac_190 rfl (lv_at hl 2 rfl) ?_
                            refine va_get (pc := 191) (D := D) (ci := 8) (v := .ref (a 24)) (C := RX10) (T := TX10) (N := 57) hx hb hts iu10 hown hK hP 3 rfl rfl 24 (by decide) (hts _ tw_1069) (fun _ h9 => h9) rfl dX10_cmac_191 ?_
                            refine lv_iconst (pc := 194) (v := nI 0) hx hb dX10_cmac_194 (by decide +kernel) ?_
                            refine lv_iconst (pc := 195) (v := nI 0) hx hb dX10_cmac_195 (by decide +kernel) ?_
                            refine cs_V (pc := 196) (idx := 106) (n := 3) (wr := [(a 22, aS ta 700 m'), (hk, aS ta capk gk), (a 25, aS ta 16 kx)]) (As := [.ref (a 24), .int (nI 0), .int (nI 0)]) (rest := []) (ci := 8) hx hb hml hown hts hGok hK hA hG hl.1 hP hD hS (ct_X10_aes_fL ll D ta hGok h0 a mx tp osz lsz ns ct (a 24) 0 16 d' e' rk1_4 len ((seg gk fr len)) (by first | assumption | omega | rfl | decide) (by first | assumption | omega | rfl | decide) (hln) (seg_len) (hs_4) H.size) tw_1342 tw_1339 tw_1341 tw_45 tw_75 hdX10_aes rfl ⟨rfl, rfl, Nat.le_of_ble_eq_true rfl, Nat.le_of_ble_eq_true rfl, Nat.le_of_ble_eq_true rfl, Nat.le_of_ble_eq_true rfl⟩ rfl rfl (q0 := 3) rfl [3, 4, 5, 6, 7, 1] [0, 2, 8] rfl rfl (by decide) rfl (Nat.le_of_ble_eq_true rfl) dX10_cmac_196 (fun u H locs hq hP hD hS => ?_)
                            obtain ⟨gb1_196, ce1_196⟩ := u
                            have hq : (seg gb1_196 0 16 = aesE ((seg gk fr len)) (seg d' 0 16)) ∧ (∀ j, (j < 0 ∨ 0 + 16 ≤ j) → gb1_196 j = d' j) := hq
                            obtain ⟨hs_196, hfr_196⟩ := hq
                            refine W.eq (g2 := F0 mm 199 ls []) rfl ?_
                            have hP : va_P D vwCl [(a 22, aS ta 700 m'), (hk, aS ta capk gk), (a 25, aS ta 16 kx), (h0, oM a (len / 4 + 6) mx tp osz lsz ns ct), (a 8, aZ ta 256 BOX), (a 9, aZ ta 256 UBOX), (a 16, aS ta 240 rk1_4), (a 18, aS ta 16 ce1_196), (a 24, aS ta 16 gb1_196)] H := hP
                            have hD : va_D A [(a 22, aS ta 700 m'), (hk, aS ta capk gk), (a 25, aS ta 16 kx), (h0, oM a (len / 4 + 6) mx tp osz lsz ns ct), (a 8, aZ ta 256 BOX), (a 9, aZ ta 256 UBOX), (a 16, aS ta 240 rk1_4), (a 18, aS ta 16 ce1_196), (a 24, aS ta 16 gb1_196)] := hD
                            refine lv_iinc (pc := 199) (v := nI (16 * i + 16)) (lv' := [(5, .int (nI (16 * i + 16))), (6, .int (nI d)), (0, .ref h0), (1, .ref hk), (2, .int (nI fr)), (3, .int (nI len))]) hx hb dX10_cmac_199 hl (k := 1) rfl (by first | exact nI_add (16 * i) 16 | rfl) (by decide) rfl (fun ls hl => ?_)
                            refine lv_goto (pc := 202) (tgt := 143) hx hb dX10_cmac_202 (by decide) ?_
                            exact ih143 (i + 1) gb1_196 ce1_196 (by omega) (by rw [← seg_0, hs_196]; exact cbcM_next trivial hc rfl (qSeg_segk hd (by omega)) (by omega)) (by omega) _ _ (hP.sub [0, 8, 1, 3, 4, 5, 6, 7, 2] rfl) (hD.sub [0, 8, 1, 3, 4, 5, 6, 7, 2] (by decide) rfl) hS ls (lv_sub hl [0, 2, 3, 4, 5] rfl)
                          · skip
                            rw [nI_leI (by omega) (by omega)] at c_5
                            refine lv_aload_n (pc := 162) hx hb dX10_cmac_162 rfl (lv_at hl 2 rfl) ?_
                            refine va_get (pc := 163) (D := D) (ci := 8) (v := .ref (a 24)) (C := RX10) (T := TX10) (N := 57) hx hb hts iu10 hown hK hP 3 rfl rfl 24 (by decide) (hts _ tw_1069) (fun _ h9 => h9) rfl dX10_cmac_163 ?_
                            refine lv_iload (pc := 166) hx hb dX10_cmac_166 (lv_at hl 0 rfl) ?_
                            refine lv_dup2_11 (pc := 168) hx hb dX10_cmac_168 rfl rfl ?_
                            refine q_bald (pc := 169) hx hb hK hP 1 2 rfl rfl (k := d) (v := qs (d' d)) rfl (by omega) (by omega) rfl dX10_cmac_169 ?_
                            refine lv_aload_n (pc := 170) hx hb dX10_cmac_170 rfl (lv_at hl 2 rfl) ?_
                            refine va_get (pc := 171) (D := D) (ci := 8) (v := .ref (a 22)) (C := RX10) (T := TX10) (N := 57) hx hb hts iu10 hown hK hP 3 rfl rfl 22 (by decide) (hts _ tw_1067) (fun _ h9 => h9) rfl dX10_cmac_171 ?_
                            refine lv_iload (pc := 174) hx hb dX10_cmac_174 (lv_at hl 1 rfl) ?_
                            refine lv_iload (pc := 176) hx hb dX10_cmac_176 (lv_at hl 0 rfl) ?_
                            refine lv_iadd (pc := 178) hx hb dX10_cmac_178 ?_
                            refine q_top (y := nI (16 * i + d)) (nI_add (16 * i) d) ?_
                            refine q_bald (pc := 179) hx hb hK hP 0 2 rfl rfl (k := 16 * i + d) (v := qs (m' (16 * i + d))) rfl (by omega) (by omega) rfl dX10_cmac_179 ?_
                            refine lv_ixor (pc := 180) hx hb dX10_cmac_180 ?_
                            refine q_top (y := qs ((d' d) ^^^ (m' (16 * i + d)))) (q_xor_s _ _) ?_
                            refine lv_i2b (pc := 181) (v := qs ((d' d) ^^^ (m' (16 * i + d)))) hx hb dX10_cmac_181 (q_i2b_s _) ?_
                            refine q_bastS (pc := 182) hx hb hK hP hD hS 1 2 rfl rfl (k := d) rfl (by omega) (by omega) (b := (d' d) ^^^ (m' (16 * i + d))) (qlo_qs _) dX10_cmac_182 (fun H locs hP hD hS => ?_)
                            have hP : va_P D vwCl [(a 22, aS ta 700 m'), (a 24, aS ta 16 (qU d' d ((d' d) ^^^ (m' (16 * i + d))))), (hk, aS ta capk gk), (h0, oM a (len / 4 + 6) mx tp osz lsz ns ct), (a 8, aZ ta 256 BOX), (a 9, aZ ta 256 UBOX), (a 16, aS ta 240 rk1_4), (a 18, aS ta 16 e'), (a 25, aS ta 16 kx)] H := hP
                            have hD : va_D A [(a 22, aS ta 700 m'), (a 24, aS ta 16 (qU d' d ((d' d) ^^^ (m' (16 * i + d))))), (hk, aS ta capk gk), (h0, oM a (len / 4 + 6) mx tp osz lsz ns ct), (a 8, aZ ta 256 BOX), (a 9, aZ ta 256 UBOX), (a 16, aS ta 240 rk1_4), (a 18, aS ta 16 e'), (a 25, aS ta 16 kx)] := hD
                            refine lv_iinc (pc := 183) (v := nI (d + 1)) (lv' := [(6, .int (nI (d + 1))), (5, .int (nI (16 * i))), (0, .ref h0), (1, .ref hk), (2, .int (nI fr)), (3, .int (nI len))]) hx hb dX10_cmac_183 hl (k := 0) rfl (by first | exact nI_add d 1 | rfl) (by decide) rfl (fun ls hl => ?_)
                            refine lv_goto (pc := 186) (tgt := 155) hx hb dX10_cmac_186 (by decide) ?_
                            exact ih155 (d + 1) (qU d' d ((d' d) ^^^ (m' (16 * i + d)))) (by omega) (qSeg_s hd (by omega) (by rw [hd.2 _ (by omega)])) (by omega) _ _ (hP.sub [0, 1, 2, 3, 4, 5, 6, 7, 8] rfl) (hD.sub [0, 1, 2, 3, 4, 5, 6, 7, 8] (by decide) rfl) hS ls (lv_sub hl [0, 1, 2, 3, 4, 5] rfl)
                      exact LP155 _ 0 x' (by omega) (qSeg_0) (Nat.lt_succ_self _) _ _ (hP.sub [0, 1, 2, 3, 4, 5, 6, 7, 8] rfl) (hD.sub [0, 1, 2, 3, 4, 5, 6, 7, 8] (by decide) rfl) hS ls (lv_sub hl [0, 1, 2, 3, 4, 5] rfl)
                exact LP143 _ 0 c' ce1_38 (by omega) (by rw [← seg_0, zero_seg hc2 (by omega)]; rfl) (Nat.lt_succ_self _) _ _ (hP.sub [0, 1, 2, 3, 4, 5, 6, 7, 8] rfl) (hD.sub [0, 1, 2, 3, 4, 5, 6, 7, 8] (by decide) rfl) hS ls (lv_sub hl [0, 1, 2, 3, 4] rfl)
              · skip
                rw [nI_leI (by omega) (by omega)] at c_2
                refine lv_aload_n (pc := 100) hx hb dX10_cmac_100 rfl (lv_at hl 1 rfl) ?_
                refine va_get (pc := 101) (D := D) (ci := 8) (v := .ref (a 22)) (C := RX10) (T := TX10) (N := 57) hx hb hts iu10 hown hK hP 3 rfl rfl 22 (by decide) (hts _ tw_1067) (fun _ h9 => h9) rfl dX10_cmac_101 ?_
                refine lv_aload_n (pc := 104) hx hb dX10_cmac_104 rfl (lv_at hl 1 rfl) ?_
                refine va_get (pc := 105) (D := D) (ci := 8) (v := .int (nI mx)) (C := RX10) (T := TX10) (N := 57) hx hb hts iu10 hown hK hP 3 rfl rfl 23 (by decide) (hts _ tw_1068) (fun _ h9 => h9) rfl dX10_cmac_105 ?_
                refine lv_bipush (pc := 108) (v := nI 16) hx hb dX10_cmac_108 (by decide +kernel) ?_
                refine lv_isub (pc := 110) hx hb dX10_cmac_110 ?_
                refine q_top (y := nI (mx - 16)) (pk_sub (a := mx) (b := 16) (by omega)) ?_
                refine lv_iload (pc := 111) hx hb dX10_cmac_111 (lv_at hl 0 rfl) ?_
                refine lv_iadd (pc := 113) hx hb dX10_cmac_113 ?_
                refine q_top (y := nI (mx - 16 + k)) (nI_add (mx - 16) k) ?_
                refine lv_dup2_11 (pc := 114) hx hb dX10_cmac_114 rfl rfl ?_
                refine q_bald (pc := 115) hx hb hK hP 0 2 rfl rfl (k := mx - 16 + k) (v := qs (m' (mx - 16 + k))) rfl (by omega) (by omega) rfl dX10_cmac_115 ?_
                refine lv_aload_n (pc := 116) hx hb dX10_cmac_116 rfl (lv_at hl 1 rfl) ?_
                refine va_get (pc := 117) (D := D) (ci := 8) (v := .ref (a 25)) (C := RX10) (T := TX10) (N := 57) hx hb hts iu10 hown hK hP 3 rfl rfl 25 (by decide) (hts _ tw_1070) (fun _ h9 => h9) rfl dX10_cmac_117 ?_
                refine lv_iload (pc := 120) hx hb dX10_cmac_120 (lv_at hl 0 rfl) ?_
                refine q_bald (pc := 122) hx hb hK hP 8 2 rfl rfl (k := k) (v := qs (kx k)) rfl (by omega) (by omega) rfl dX10_cmac_122 ?_
                refine lv_ixor (pc := 123) hx hb dX10_cmac_123 ?_
                refine q_top (y := qs ((m' (mx - 16 + k)) ^^^ (kx k))) (q_xor_s _ _) ?_
                refine lv_i2b (pc := 124) (v := qs ((m' (mx - 16 + k)) ^^^ (kx k))) hx hb dX10_cmac_124 (q_i2b_s _) ?_
                refine q_bastS (pc := 125) hx hb hK hP hD hS 0 2 rfl rfl (k := mx - 16 + k) rfl (by omega) (by omega) (b := (m' (mx - 16 + k)) ^^^ (kx k)) (qlo_qs _) dX10_cmac_125 (fun H locs hP hD hS => ?_)
                have hP : va_P D vwCl [(a 22, aS ta 700 (qU m' (mx - 16 + k) ((m' (mx - 16 + k)) ^^^ (kx k)))), (a 24, aS ta 16 c'), (hk, aS ta capk gk), (h0, oM a (len / 4 + 6) mx tp osz lsz ns ct), (a 8, aZ ta 256 BOX), (a 9, aZ ta 256 UBOX), (a 16, aS ta 240 rk1_4), (a 18, aS ta 16 ce1_38), (a 25, aS ta 16 kx)] H := hP
                have hD : va_D A [(a 22, aS ta 700 (qU m' (mx - 16 + k) ((m' (mx - 16 + k)) ^^^ (kx k)))), (a 24, aS ta 16 c'), (hk, aS ta capk gk), (h0, oM a (len / 4 + 6) mx tp osz lsz ns ct), (a 8, aZ ta 256 BOX), (a 9, aZ ta 256 UBOX), (a 16, aS ta 240 rk1_4), (a 18, aS ta 16 ce1_38), (a 25, aS ta 16 kx)] := hD
                refine lv_aload_n (pc := 126) hx hb dX10_cmac_126 rfl (lv_at hl 1 rfl) ?_
                refine va_get (pc := 127) (D := D) (ci := 8) (v := .ref (a 24)) (C := RX10) (T := TX10) (N := 57) hx hb hts iu10 hown hK hP 3 rfl rfl 24 (by decide) (hts _ tw_1069) (fun _ h9 => h9) rfl dX10_cmac_127 ?_
                refine lv_iload (pc := 130) hx hb dX10_cmac_130 (lv_at hl 0 rfl) ?_
                refine lv_iconst (pc := 132) (v := nI 0) hx hb dX10_cmac_132 (by decide +kernel) ?_
                refine q_bastS (pc := 133) hx hb hK hP hD hS 1 2 rfl rfl (k := k) rfl (by omega) (by omega) (b := BitVec.ofNat 8 0) (qlo_nI _) dX10_cmac_133 (fun H locs hP hD hS => ?_)
                have hP : va_P D vwCl [(a 22, aS ta 700 (qU m' (mx - 16 + k) ((m' (mx - 16 + k)) ^^^ (kx k)))), (a 24, aS ta 16 (qU c' k (BitVec.ofNat 8 0))), (hk, aS ta capk gk), (h0, oM a (len / 4 + 6) mx tp osz lsz ns ct), (a 8, aZ ta 256 BOX), (a 9, aZ ta 256 UBOX), (a 16, aS ta 240 rk1_4), (a 18, aS ta 16 ce1_38), (a 25, aS ta 16 kx)] H := hP
                have hD : va_D A [(a 22, aS ta 700 (qU m' (mx - 16 + k) ((m' (mx - 16 + k)) ^^^ (kx k)))), (a 24, aS ta 16 (qU c' k (BitVec.ofNat 8 0))), (hk, aS ta capk gk), (h0, oM a (len / 4 + 6) mx tp osz lsz ns ct), (a 8, aZ ta 256 BOX), (a 9, aZ ta 256 UBOX), (a 16, aS ta 240 rk1_4), (a 18, aS ta 16 ce1_38), (a 25, aS ta 16 kx)] := hD
                refine lv_iinc (pc := 134) (v := nI (k + 1)) (lv' := [(5, .int (nI (k + 1))), (0, .ref h0), (1, .ref hk), (2, .int (nI fr)), (3, .int (nI len))]) hx hb dX10_cmac_134 hl (k := 0) rfl (by first | exact nI_add k 1 | rfl) (by decide) rfl (fun ls hl => ?_)
                refine lv_goto (pc := 137) (tgt := 93) hx hb dX10_cmac_137 (by decide) ?_
                exact ih93 (k + 1) (qU m' (mx - 16 + k) ((m' (mx - 16 + k)) ^^^ (kx k))) (qU c' k (BitVec.ofNat 8 0)) (by omega) (qSeg_s hm2 rfl (by rw [hm2.2 _ (by omega)])) (qSeg_s hc2 (by omega) rfl) (by omega) _ _ (hP.sub [0, 1, 2, 3, 4, 5, 6, 7, 8] rfl) (hD.sub [0, 1, 2, 3, 4, 5, 6, 7, 8] (by decide) rfl) hS ls (lv_sub hl [0, 1, 2, 3, 4] rfl)
          exact LP93 _ 0 gx mac (by omega) (qSeg_0) (qSeg_0) (Nat.lt_succ_self _) _ _ (hP.sub [0, 1, 2, 3, 4, 5, 6, 7, 8] rfl) (hD.sub [0, 1, 2, 3, 4, 5, 6, 7, 8] (by decide) rfl) hS ls (lv_sub hl [0, 1, 2, 3, 4] rfl)
        refine lv_aload_n (pc := 48) hx hb dX10_cmac_48 rfl (lv_at hl 1 rfl) ?_
        refine va_get (pc := 49) (D := D) (ci := 8) (v := .int (nI mn)) (C := RX10) (T := TX10) (N := 57) hx hb hts iu10 hown hK hP 3 rfl rfl 23 (by decide) (hts _ tw_1068) (fun _ h9 => h9) rfl dX10_cmac_49 ?_
        refine lv_if_le (pc := 52) (tgt := 69) hx hb dX10_cmac_52 (by decide) (fun c_6 => ?_) (fun c_6 => ?_)
        · skip
          rw [q_le0 (by omega)] at c_6
          refine lv_iconst (pc := 69) (v := nI 0) hx hb dX10_cmac_69 (by decide +kernel) ?_
          refine lv_istore (pc := 70) (lv' := [(4, .int (nI 0)), (0, .ref h0), (1, .ref hk), (2, .int (nI fr)), (3, .int (nI len))]) hx hb dX10_cmac_70 hl (by decide) rfl (fun ls hl => ?_)
          refine lv_iload (pc := 72) hx hb dX10_cmac_72 (lv_at hl 0 rfl) ?_
          refine lv_if_ne (pc := 74) (tgt := 90) hx hb dX10_cmac_74 (by decide) (fun c_7 => absurd (by decide) c_7) (fun _ => ?_)
          refine lv_aload_n (pc := 77) hx hb dX10_cmac_77 rfl (lv_at hl 1 rfl) ?_
          refine va_get (pc := 78) (D := D) (ci := 8) (v := .ref (a 25)) (C := RX10) (T := TX10) (N := 57) hx hb hts iu10 hown hK hP 3 rfl rfl 25 (by decide) (hts _ tw_1070) (fun _ h9 => h9) rfl dX10_cmac_78 ?_
          refine cs_S (pc := 81) (idx := 110) (n := 1) (wr := [(a 22, aS ta 700 gm), (a 24, aS ta 16 mac), (hk, aS ta capk gk), (h0, oM a (len / 4 + 6) mn tp osz lsz ns ct), (a 8, aZ ta 256 BOX), (a 9, aZ ta 256 UBOX), (a 16, aS ta 240 rk1_4), (a 18, aS ta 16 ce1_38)]) (As := [.ref (a 25)]) (rest := []) hx hb hml hown hts hGok hK hA hG hl.1 hP hD hS (ct_X10_shift ll D ta hGok (a 25) gb1_45  H.size) tw_1353 tw_1351 tw_1352 tw_75 hdX10_shift rfl ⟨rfl, rfl, Nat.le_of_ble_eq_true rfl, Nat.le_of_ble_eq_true rfl, Nat.le_of_ble_eq_true rfl, Nat.le_of_ble_eq_true rfl⟩ [8] [0, 1, 2, 3, 4, 5, 6, 7] rfl rfl (by decide) rfl (Nat.le_of_ble_eq_true rfl) dX10_cmac_81 (fun u H locs hq hP hD hS => ?_)
          generalize u = gb1_81 at hq hP hD ⊢
          have hq : (seg gb1_81 0 16 = shL (seg gb1_45 0 16)) := hq
          have hs_81 := hq
          refine W.eq (g2 := F0 mm 84 ls []) rfl ?_
          have hP : va_P D vwCl [(a 22, aS ta 700 gm), (a 24, aS ta 16 mac), (hk, aS ta capk gk), (h0, oM a (len / 4 + 6) mn tp osz lsz ns ct), (a 8, aZ ta 256 BOX), (a 9, aZ ta 256 UBOX), (a 16, aS ta 240 rk1_4), (a 18, aS ta 16 ce1_38), (a 25, aS ta 16 gb1_81)] H := hP
          have hD : va_D A [(a 22, aS ta 700 gm), (a 24, aS ta 16 mac), (hk, aS ta capk gk), (h0, oM a (len / 4 + 6) mn tp osz lsz ns ct), (a 8, aZ ta 256 BOX), (a 9, aZ ta 256 UBOX), (a 16, aS ta 240 rk1_4), (a 18, aS ta 16 ce1_38), (a 25, aS ta 16 gb1_81)] := hD
          refine lv_aload_n (pc := 84) hx hb dX10_cmac_84 rfl (lv_at hl 1 rfl) ?_
          refine lv_bipush (pc := 85) (v := nI 16) hx hb dX10_cmac_85 (by decide +kernel) ?_
          refine cs_V (pc := 87) (idx := 91) (n := 1) (wr := [(a 24, aS ta 16 mac), (hk, aS ta capk gk), (a 8, aZ ta 256 BOX), (a 9, aZ ta 256 UBOX), (a 16, aS ta 240 rk1_4), (a 18, aS ta 16 ce1_38), (a 25, aS ta 16 gb1_81)]) (As := [.int (nI 16)]) (rest := []) (ci := 8) hx hb hml hown hts hGok hK hA hG hl.1 hP hD hS (ct_X10_fillUp16 ll D ta hGok h0 a (len / 4 + 6) mn tp osz lsz ns ct gm (by first | assumption | omega | rfl | decide) H.size) tw_1318 tw_1315 tw_1317 tw_39 tw_75 hdX10_fillUp rfl ⟨rfl, rfl, Nat.le_of_ble_eq_true rfl, Nat.le_of_ble_eq_true rfl, Nat.le_of_ble_eq_true rfl, Nat.le_of_ble_eq_true rfl⟩ rfl rfl (q0 := 3) rfl [3, 0] [1, 2, 4, 5, 6, 7, 8] rfl rfl (by decide) rfl (Nat.le_of_ble_eq_true rfl) dX10_cmac_87 (fun u H locs hq hP hD hS => ?_)
          obtain ⟨gm1_87, mn1_87⟩ := u
          have hq : (mn1_87 = (mn / 16 + 1) * 16) ∧ (qL gm1_87 mn1_87 = qpad 16 (qL gm mn)) := hq
          obtain ⟨hm_87, hL_87⟩ := hq
          refine W.eq (g2 := F0 mm 90 ls []) rfl ?_
          have hP : va_P D vwCl [(a 24, aS ta 16 mac), (hk, aS ta capk gk), (a 8, aZ ta 256 BOX), (a 9, aZ ta 256 UBOX), (a 16, aS ta 240 rk1_4), (a 18, aS ta 16 ce1_38), (a 25, aS ta 16 gb1_81), (h0, oM a (len / 4 + 6) mn1_87 tp osz lsz ns ct), (a 22, aS ta 700 gm1_87)] H := hP
          have hD : va_D A [(a 24, aS ta 16 mac), (hk, aS ta capk gk), (a 8, aZ ta 256 BOX), (a 9, aZ ta 256 UBOX), (a 16, aS ta 240 rk1_4), (a 18, aS ta 16 ce1_38), (a 25, aS ta 16 gb1_81), (h0, oM a (len / 4 + 6) mn1_87 tp osz lsz ns ct), (a 22, aS ta 700 gm1_87)] := hD
          exact JN90 mn1_87 gm1_87 gb1_81 (by first | assumption | omega | simp_all) (by first | (rw [cmacT, qL_len, if_pos ⟨by omega, by omega⟩, hs_45, hs_38, zero_seg hz (by omega)]) | (rw [cmacT, qL_len, if_neg (by omega), hL_87, hs_81, hs_45, hs_38, zero_seg hz (by omega)])) _ _ (hP.sub [8, 0, 1, 7, 2, 3, 4, 5, 6] rfl) (hD.sub [8, 0, 1, 7, 2, 3, 4, 5, 6] (by decide) rfl) hS ls (lv_sub hl [1, 2, 3, 4] rfl)
        · skip
          rw [q_le0 (by omega)] at c_6
          refine lv_aload_n (pc := 55) hx hb dX10_cmac_55 rfl (lv_at hl 1 rfl) ?_
          refine va_get (pc := 56) (D := D) (ci := 8) (v := .int (nI mn)) (C := RX10) (T := TX10) (N := 57) hx hb hts iu10 hown hK hP 3 rfl rfl 23 (by decide) (hts _ tw_1068) (fun _ h9 => h9) rfl dX10_cmac_56 ?_
          refine lv_bipush (pc := 59) (v := nI 16) hx hb dX10_cmac_59 (by decide +kernel) ?_
          refine lv_irem (pc := 61) hx hb dX10_cmac_61 (q_ne0 (by omega) (by omega)) ?_
          refine q_top (y := nI (mn % 16)) (pk_rem (by omega) (by omega) (by omega)) ?_
          refine lv_if_ne (pc := 62) (tgt := 69) hx hb dX10_cmac_62 (by decide) (fun c_8 => ?_) (fun c_8 => ?_)
          · skip
            rw [q_eq0 (by omega)] at c_8
            refine lv_iconst (pc := 69) (v := nI 0) hx hb dX10_cmac_69 (by decide +kernel) ?_
            refine lv_istore (pc := 70) (lv' := [(4, .int (nI 0)), (0, .ref h0), (1, .ref hk), (2, .int (nI fr)), (3, .int (nI len))]) hx hb dX10_cmac_70 hl (by decide) rfl (fun ls hl => ?_)
            refine lv_iload (pc := 72) hx hb dX10_cmac_72 (lv_at hl 0 rfl) ?_
            refine lv_if_ne (pc := 74) (tgt := 90) hx hb dX10_cmac_74 (by decide) (fun c_9 => absurd (by decide) c_9) (fun _ => ?_)
            refine lv_aload_n (pc := 77) hx hb dX10_cmac_77 rfl (lv_at hl 1 rfl) ?_
            refine va_get (pc := 78) (D := D) (ci := 8) (v := .ref (a 25)) (C := RX10) (T := TX10) (N := 57) hx hb hts iu10 hown hK hP 3 rfl rfl 25 (by decide) (hts _ tw_1070) (fun _ h9 => h9) rfl dX10_cmac_78 ?_
            refine cs_S (pc := 81) (idx := 110) (n := 1) (wr := [(a 22, aS ta 700 gm), (a 24, aS ta 16 mac), (hk, aS ta capk gk), (h0, oM a (len / 4 + 6) mn tp osz lsz ns ct), (a 8, aZ ta 256 BOX), (a 9, aZ ta 256 UBOX), (a 16, aS ta 240 rk1_4), (a 18, aS ta 16 ce1_38)]) (As := [.ref (a 25)]) (rest := []) hx hb hml hown hts hGok hK hA hG hl.1 hP hD hS (ct_X10_shift ll D ta hGok (a 25) gb1_45  H.size) tw_1353 tw_1351 tw_1352 tw_75 hdX10_shift rfl ⟨rfl, rfl, Nat.le_of_ble_eq_true rfl, Nat.le_of_ble_eq_true rfl, Nat.le_of_ble_eq_true rfl, Nat.le_of_ble_eq_true rfl⟩ [8] [0, 1, 2, 3, 4, 5, 6, 7] rfl rfl (by decide) rfl (Nat.le_of_ble_eq_true rfl) dX10_cmac_81 (fun u H locs hq hP hD hS => ?_)
            generalize u = gb1_81 at hq hP hD ⊢
            have hq : (seg gb1_81 0 16 = shL (seg gb1_45 0 16)) := hq
            have hs_81 := hq
            refine W.eq (g2 := F0 mm 84 ls []) rfl ?_
            have hP : va_P D vwCl [(a 22, aS ta 700 gm), (a 24, aS ta 16 mac), (hk, aS ta capk gk), (h0, oM a (len / 4 + 6) mn tp osz lsz ns ct), (a 8, aZ ta 256 BOX), (a 9, aZ ta 256 UBOX), (a 16, aS ta 240 rk1_4), (a 18, aS ta 16 ce1_38), (a 25, aS ta 16 gb1_81)] H := hP
            have hD : va_D A [(a 22, aS ta 700 gm), (a 24, aS ta 16 mac), (hk, aS ta capk gk), (h0, oM a (len / 4 + 6) mn tp osz lsz ns ct), (a 8, aZ ta 256 BOX), (a 9, aZ ta 256 UBOX), (a 16, aS ta 240 rk1_4), (a 18, aS ta 16 ce1_38), (a 25, aS ta 16 gb1_81)] := hD
            refine lv_aload_n (pc := 84) hx hb dX10_cmac_84 rfl (lv_at hl 1 rfl) ?_
            refine lv_bipush (pc := 85) (v := nI 16) hx hb dX10_cmac_85 (by decide +kernel) ?_
            refine cs_V (pc := 87) (idx := 91) (n := 1) (wr := [(a 24, aS ta 16 mac), (hk, aS ta capk gk), (a 8, aZ ta 256 BOX), (a 9, aZ ta 256 UBOX), (a 16, aS ta 240 rk1_4), (a 18, aS ta 16 ce1_38), (a 25, aS ta 16 gb1_81)]) (As := [.int (nI 16)]) (rest := []) (ci := 8) hx hb hml hown hts hGok hK hA hG hl.1 hP hD hS (ct_X10_fillUp16 ll D ta hGok h0 a (len / 4 + 6) mn tp osz lsz ns ct gm (by first | assumption | omega | rfl | decide) H.size) tw_1318 tw_1315 tw_1317 tw_39 tw_75 hdX10_fillUp rfl ⟨rfl, rfl, Nat.le_of_ble_eq_true rfl, Nat.le_of_ble_eq_true rfl, Nat.le_of_ble_eq_true rfl, Nat.le_of_ble_eq_true rfl⟩ rfl rfl (q0 := 3) rfl [3, 0] [1, 2, 4, 5, 6, 7, 8] rfl rfl (by decide) rfl (Nat.le_of_ble_eq_true rfl) dX10_cmac_87 (fun u H locs hq hP hD hS => ?_)
            obtain ⟨gm1_87, mn1_87⟩ := u
            have hq : (mn1_87 = (mn / 16 + 1) * 16) ∧ (qL gm1_87 mn1_87 = qpad 16 (qL gm mn)) := hq
            obtain ⟨hm_87, hL_87⟩ := hq
            refine W.eq (g2 := F0 mm 90 ls []) rfl ?_
            have hP : va_P D vwCl [(a 24, aS ta 16 mac), (hk, aS ta capk gk), (a 8, aZ ta 256 BOX), (a 9, aZ ta 256 UBOX), (a 16, aS ta 240 rk1_4), (a 18, aS ta 16 ce1_38), (a 25, aS ta 16 gb1_81), (h0, oM a (len / 4 + 6) mn1_87 tp osz lsz ns ct), (a 22, aS ta 700 gm1_87)] H := hP
            have hD : va_D A [(a 24, aS ta 16 mac), (hk, aS ta capk gk), (a 8, aZ ta 256 BOX), (a 9, aZ ta 256 UBOX), (a 16, aS ta 240 rk1_4), (a 18, aS ta 16 ce1_38), (a 25, aS ta 16 gb1_81), (h0, oM a (len / 4 + 6) mn1_87 tp osz lsz ns ct), (a 22, aS ta 700 gm1_87)] := hD
            exact JN90 mn1_87 gm1_87 gb1_81 (by first | assumption | omega | simp_all) (by first | (rw [cmacT, qL_len, if_pos ⟨by omega, by omega⟩, hs_45, hs_38, zero_seg hz (by omega)]) | (rw [cmacT, qL_len, if_neg (by omega), hL_87, hs_81, hs_45, hs_38, zero_seg hz (by omega)])) _ _ (hP.sub [8, 0, 1, 7, 2, 3, 4, 5, 6] rfl) (hD.sub [8, 0, 1, 7, 2, 3, 4, 5, 6] (by decide) rfl) hS ls (lv_sub hl [1, 2, 3, 4] rfl)
          · skip
            rw [q_eq0 (by omega)] at c_8
            refine lv_iconst (pc := 65) (v := nI 1) hx hb dX10_cmac_65 (by decide +kernel) ?_
            refine lv_goto (pc := 66) (tgt := 70) hx hb dX10_cmac_66 (by decide) ?_
            refine lv_istore (pc := 70) (lv' := [(4, .int (nI 1)), (0, .ref h0), (1, .ref hk), (2, .int (nI fr)), (3, .int (nI len))]) hx hb dX10_cmac_70 hl (by decide) rfl (fun ls hl => ?_)
            refine lv_iload (pc := 72) hx hb dX10_cmac_72 (lv_at hl 0 rfl) ?_
            refine lv_if_ne (pc := 74) (tgt := 90) hx hb dX10_cmac_74 (by decide) (fun _ => ?_) (fun c_10 => absurd c_10 (by decide))
            exact JN90 mn gm gb1_45 (by first | assumption | omega | simp_all) (by first | (rw [cmacT, qL_len, if_pos ⟨by omega, by omega⟩, hs_45, hs_38, zero_seg hz (by omega)]) | (rw [cmacT, qL_len, if_neg (by omega), hL_87, hs_81, hs_45, hs_38, zero_seg hz (by omega)])) _ _ (hP.sub [0, 1, 2, 3, 4, 5, 6, 7, 8] rfl) (hD.sub [0, 1, 2, 3, 4, 5, 6, 7, 8] (by decide) rfl) hS ls (lv_sub hl [1, 2, 3, 4] rfl)
      · skip
        rw [nI_leI (by omega) (by omega)] at c_1
        refine lv_aload_n (pc := 17) hx hb dX10_cmac_17 rfl (lv_at hl 1 rfl) ?_
        refine va_get (pc := 18) (D := D) (ci := 8) (v := .ref (a 25)) (C := RX10) (T := TX10) (N := 57) hx hb hts iu10 hown hK hP 5 rfl rfl 25 (by decide) (hts _ tw_1070) (fun _ h9 => h9) rfl dX10_cmac_18 ?_
        refine lv_iload (pc := 21) hx hb dX10_cmac_21 (lv_at hl 0 rfl) ?_
        refine lv_iconst (pc := 23) (v := nI 0) hx hb dX10_cmac_23 (by decide +kernel) ?_
        refine q_bastS (pc := 24) hx hb hK hP hD hS 4 2 rfl rfl (k := k) rfl (by omega) (by omega) (b := BitVec.ofNat 8 0) (qlo_nI _) dX10_cmac_24 (fun H locs hP hD hS => ?_)
        have hP : va_P D vwCl [(a 9, aZ ta 256 UBOX), (a 18, aS ta 16 ce), (a 22, aS ta 700 gm), (a 24, aS ta 16 mac), (a 25, aS ta 16 (qU z' k (BitVec.ofNat 8 0))), (h0, oM a (len / 4 + 6) mn tp osz lsz ns ct), (a 8, aZ ta 256 BOX), (a 16, aS ta 240 rk1_4), (hk, aS ta capk gk)] H := hP
        have hD : va_D A [(a 9, aZ ta 256 UBOX), (a 18, aS ta 16 ce), (a 22, aS ta 700 gm), (a 24, aS ta 16 mac), (a 25, aS ta 16 (qU z' k (BitVec.ofNat 8 0))), (h0, oM a (len / 4 + 6) mn tp osz lsz ns ct), (a 8, aZ ta 256 BOX), (a 16, aS ta 240 rk1_4), (hk, aS ta capk gk)] := hD
        refine lv_iinc (pc := 25) (v := nI (k + 1)) (lv' := [(4, .int (nI (k + 1))), (0, .ref h0), (1, .ref hk), (2, .int (nI fr)), (3, .int (nI len))]) hx hb dX10_cmac_25 hl (k := 0) rfl (by first | exact nI_add k 1 | rfl) (by decide) rfl (fun ls hl => ?_)
        refine lv_goto (pc := 28) (tgt := 10) hx hb dX10_cmac_28 (by decide) ?_
        exact ih10 (k + 1) (qU z' k (BitVec.ofNat 8 0)) (by omega) (qSeg_s hz (by omega) rfl) (by omega) _ _ (hP.sub [0, 1, 2, 3, 4, 5, 6, 7, 8] rfl) (hD.sub [0, 1, 2, 3, 4, 5, 6, 7, 8] (by decide) rfl) hS ls (lv_sub hl [0, 1, 2, 3, 4] rfl)
  exact LP10 _ 0 k1 (by omega) (qSeg_0) (Nat.lt_succ_self _) _ _ (hP.sub [0, 1, 2, 3, 4, 5, 6, 7, 8] rfl) (hD.sub [0, 1, 2, 3, 4, 5, 6, 7, 8] (by decide) rfl) hS ls (lv_sub hl [0, 1, 2, 3, 4] rfl)
theorem hdX10_kdf : yX10_kdf.cls ≠ "java/lang/invoke/MethodHandle" ∧ yX10_kdf.cls ≠ "java/lang/invoke/VarHandle" ∧ (parseMethodDescriptor yX10_kdf.desc).map (fun d => d.parameters.length) = some 8 := ⟨by decide +kernel, by decide +kernel, by decide +kernel⟩
theorem dX10_kdf_0 : decode cX10_kdf 0 = .ok (.iconst 1, 1) := by decide +kernel
theorem dX10_kdf_1 : decode cX10_kdf 1 = .ok (.istore 9, 2) := by decide +kernel
theorem dX10_kdf_3 : decode cX10_kdf 3 = .ok (.bipush 16, 2) := by decide +kernel
theorem dX10_kdf_5 : decode cX10_kdf 5 = .ok (.iload 9, 2) := by decide +kernel
theorem dX10_kdf_7 : decode cX10_kdf 7 = .ok (.iconst 1, 1) := by decide +kernel
theorem dX10_kdf_8 : decode cX10_kdf 8 = .ok (.isub, 1) := by decide +kernel
theorem dX10_kdf_9 : decode cX10_kdf 9 = .ok (.imul, 1) := by decide +kernel
theorem dX10_kdf_10 : decode cX10_kdf 10 = .ok (.iload 5, 2) := by decide +kernel
theorem dX10_kdf_12 : decode cX10_kdf 12 = .ok (.if_icmp .ge 144, 3) := by decide +kernel
theorem dX10_kdf_15 : decode cX10_kdf 15 = .ok (.aload_n 0, 1) := by decide +kernel
theorem dX10_kdf_16 : decode cX10_kdf 16 = .ok (.invokevirtual 114, 3) := by decide +kernel
theorem dX10_kdf_19 : decode cX10_kdf 19 = .ok (.iconst 0, 1) := by decide +kernel
theorem dX10_kdf_20 : decode cX10_kdf 20 = .ok (.istore 10, 2) := by decide +kernel
theorem dX10_kdf_22 : decode cX10_kdf 22 = .ok (.iload 10, 2) := by decide +kernel
theorem dX10_kdf_24 : decode cX10_kdf 24 = .ok (.bipush 11, 2) := by decide +kernel
theorem dX10_kdf_26 : decode cX10_kdf 26 = .ok (.if_icmp .ge 14, 3) := by decide +kernel
theorem dX10_kdf_29 : decode cX10_kdf 29 = .ok (.aload_n 0, 1) := by decide +kernel
theorem dX10_kdf_30 : decode cX10_kdf 30 = .ok (.iconst 0, 1) := by decide +kernel
theorem dX10_kdf_31 : decode cX10_kdf 31 = .ok (.invokevirtual 87, 3) := by decide +kernel
theorem dX10_kdf_34 : decode cX10_kdf 34 = .ok (.iinc 10 1, 3) := by decide +kernel
theorem dX10_kdf_37 : decode cX10_kdf 37 = .ok (.goto (-15), 3) := by decide +kernel
theorem dX10_kdf_40 : decode cX10_kdf 40 = .ok (.aload_n 0, 1) := by decide +kernel
theorem dX10_kdf_41 : decode cX10_kdf 41 = .ok (.iload 4, 2) := by decide +kernel
theorem dX10_kdf_43 : decode cX10_kdf 43 = .ok (.invokevirtual 87, 3) := by decide +kernel
theorem dX10_kdf_46 : decode cX10_kdf 46 = .ok (.aload_n 0, 1) := by decide +kernel
theorem dX10_kdf_47 : decode cX10_kdf 47 = .ok (.iconst 0, 1) := by decide +kernel
theorem dX10_kdf_48 : decode cX10_kdf 48 = .ok (.invokevirtual 87, 3) := by decide +kernel
theorem dX10_kdf_51 : decode cX10_kdf 51 = .ok (.aload_n 0, 1) := by decide +kernel
theorem dX10_kdf_52 : decode cX10_kdf 52 = .ok (.bipush 8, 2) := by decide +kernel
theorem dX10_kdf_54 : decode cX10_kdf 54 = .ok (.iload 5, 2) := by decide +kernel
theorem dX10_kdf_56 : decode cX10_kdf 56 = .ok (.imul, 1) := by decide +kernel
theorem dX10_kdf_57 : decode cX10_kdf 57 = .ok (.bipush 8, 2) := by decide +kernel
theorem dX10_kdf_59 : decode cX10_kdf 59 = .ok (.ishr, 1) := by decide +kernel
theorem dX10_kdf_60 : decode cX10_kdf 60 = .ok (.invokevirtual 87, 3) := by decide +kernel
theorem dX10_kdf_63 : decode cX10_kdf 63 = .ok (.aload_n 0, 1) := by decide +kernel
theorem dX10_kdf_64 : decode cX10_kdf 64 = .ok (.bipush 8, 2) := by decide +kernel
theorem dX10_kdf_66 : decode cX10_kdf 66 = .ok (.iload 5, 2) := by decide +kernel
theorem dX10_kdf_68 : decode cX10_kdf 68 = .ok (.imul, 1) := by decide +kernel
theorem dX10_kdf_69 : decode cX10_kdf 69 = .ok (.invokevirtual 87, 3) := by decide +kernel
theorem dX10_kdf_72 : decode cX10_kdf 72 = .ok (.aload_n 0, 1) := by decide +kernel
theorem dX10_kdf_73 : decode cX10_kdf 73 = .ok (.iload 9, 2) := by decide +kernel
theorem dX10_kdf_75 : decode cX10_kdf 75 = .ok (.invokevirtual 87, 3) := by decide +kernel
theorem dX10_kdf_78 : decode cX10_kdf 78 = .ok (.aload_n 0, 1) := by decide +kernel
theorem dX10_kdf_79 : decode cX10_kdf 79 = .ok (.aload_n 0, 1) := by decide +kernel
theorem dX10_kdf_80 : decode cX10_kdf 80 = .ok (.getfield 118, 3) := by decide +kernel
theorem dX10_kdf_83 : decode cX10_kdf 83 = .ok (.iconst 0, 1) := by decide +kernel
theorem dX10_kdf_84 : decode cX10_kdf 84 = .ok (.iload 6, 2) := by decide +kernel
theorem dX10_kdf_86 : decode cX10_kdf 86 = .ok (.invokevirtual 121, 3) := by decide +kernel
theorem dX10_kdf_89 : decode cX10_kdf 89 = .ok (.aload_n 0, 1) := by decide +kernel
theorem dX10_kdf_90 : decode cX10_kdf 90 = .ok (.aload_n 1, 1) := by decide +kernel
theorem dX10_kdf_91 : decode cX10_kdf 91 = .ok (.iload_n 2, 1) := by decide +kernel
theorem dX10_kdf_92 : decode cX10_kdf 92 = .ok (.iload_n 3, 1) := by decide +kernel
theorem dX10_kdf_93 : decode cX10_kdf 93 = .ok (.invokevirtual 124, 3) := by decide +kernel
theorem dX10_kdf_96 : decode cX10_kdf 96 = .ok (.iconst 0, 1) := by decide +kernel
theorem dX10_kdf_97 : decode cX10_kdf 97 = .ok (.istore 10, 2) := by decide +kernel
theorem dX10_kdf_99 : decode cX10_kdf 99 = .ok (.iload 10, 2) := by decide +kernel
theorem dX10_kdf_101 : decode cX10_kdf 101 = .ok (.bipush 16, 2) := by decide +kernel
theorem dX10_kdf_103 : decode cX10_kdf 103 = .ok (.if_icmp .ge 47, 3) := by decide +kernel
theorem dX10_kdf_106 : decode cX10_kdf 106 = .ok (.bipush 16, 2) := by decide +kernel
theorem dX10_kdf_108 : decode cX10_kdf 108 = .ok (.iload 9, 2) := by decide +kernel
theorem dX10_kdf_110 : decode cX10_kdf 110 = .ok (.iconst 1, 1) := by decide +kernel
theorem dX10_kdf_111 : decode cX10_kdf 111 = .ok (.isub, 1) := by decide +kernel
theorem dX10_kdf_112 : decode cX10_kdf 112 = .ok (.imul, 1) := by decide +kernel
theorem dX10_kdf_113 : decode cX10_kdf 113 = .ok (.iload 10, 2) := by decide +kernel
theorem dX10_kdf_115 : decode cX10_kdf 115 = .ok (.iadd, 1) := by decide +kernel
theorem dX10_kdf_116 : decode cX10_kdf 116 = .ok (.iload 5, 2) := by decide +kernel
theorem dX10_kdf_118 : decode cX10_kdf 118 = .ok (.if_icmp .ge 32, 3) := by decide +kernel
theorem dX10_kdf_121 : decode cX10_kdf 121 = .ok (.aload 7, 2) := by decide +kernel
theorem dX10_kdf_123 : decode cX10_kdf 123 = .ok (.iload 8, 2) := by decide +kernel
theorem dX10_kdf_125 : decode cX10_kdf 125 = .ok (.bipush 16, 2) := by decide +kernel
theorem dX10_kdf_127 : decode cX10_kdf 127 = .ok (.iload 9, 2) := by decide +kernel
theorem dX10_kdf_129 : decode cX10_kdf 129 = .ok (.iconst 1, 1) := by decide +kernel
theorem dX10_kdf_130 : decode cX10_kdf 130 = .ok (.isub, 1) := by decide +kernel
theorem dX10_kdf_131 : decode cX10_kdf 131 = .ok (.imul, 1) := by decide +kernel
theorem dX10_kdf_132 : decode cX10_kdf 132 = .ok (.iadd, 1) := by decide +kernel
theorem dX10_kdf_133 : decode cX10_kdf 133 = .ok (.iload 10, 2) := by decide +kernel
theorem dX10_kdf_135 : decode cX10_kdf 135 = .ok (.iadd, 1) := by decide +kernel
theorem dX10_kdf_136 : decode cX10_kdf 136 = .ok (.aload_n 0, 1) := by decide +kernel
theorem dX10_kdf_137 : decode cX10_kdf 137 = .ok (.getfield 94, 3) := by decide +kernel
theorem dX10_kdf_140 : decode cX10_kdf 140 = .ok (.iload 10, 2) := by decide +kernel
theorem dX10_kdf_142 : decode cX10_kdf 142 = .ok (.baload, 1) := by decide +kernel
theorem dX10_kdf_143 : decode cX10_kdf 143 = .ok (.bastore, 1) := by decide +kernel
theorem dX10_kdf_144 : decode cX10_kdf 144 = .ok (.iinc 10 1, 3) := by decide +kernel
theorem dX10_kdf_147 : decode cX10_kdf 147 = .ok (.goto (-48), 3) := by decide +kernel
theorem dX10_kdf_150 : decode cX10_kdf 150 = .ok (.iinc 9 1, 3) := by decide +kernel
theorem dX10_kdf_153 : decode cX10_kdf 153 = .ok (.goto (-150), 3) := by decide +kernel
theorem dX10_kdf_156 : decode cX10_kdf 156 = .ok (.return_, 1) := by decide +kernel
set_option maxHeartbeats 4000000 in
set_option maxRecDepth 100000 in
theorem ct_X10_kdf (ll : Launch) (D : va_G) (ta : Nat → ClassId) {G : (Nat → Prop) → State → Heap → Prop} (hGok : GOK G) (h0 : Nat) (a : Nat → Nat) (ar : Nat) (mn : Nat) (tp : Nat) (osz : Nat) (lsz : Nat) (ns : Nat) (ct : Nat) (gm : Nat → BitVec 8) (mac : Nat → BitVec 8) (k1 : Nat → BitVec 8) (rk : Nat → BitVec 8) (ce : Nat → BitVec 8) (hk : Nat) (fr : Nat) (capk : Nat) (gk : Nat → BitVec 8) (len : Nat) (c : Nat) (n : Nat) (size : Nat) (gov : Nat → BitVec 8) (ht : Nat) (at0 : Nat) (capt : Nat) (gt : Nat → BitVec 8) (hln : len = 16 ∨ len = 24 ∨ len = 32) (hf : fr + len ≤ capk) (hck : capk < 2147483648) (hc9 : c < 256) (hn9 : n ≤ 32) (hs9 : size ≤ 120) (ht9 : at0 + n ≤ capt) (hct : capt < 2147483648) (sz : Nat) : CT ll yX10_kdf cX10_kdf 11 none ({ frames := 5, cells := 0, slots := 0, locals := 124 } : Room) D ta G [.ref h0, .ref hk, .int (nI fr), .int (nI len), .int (nI c), .int (nI n), .int (nI size), .ref ht, .int (nI at0)] [(h0, oM a ar mn tp osz lsz ns ct), (a 8, aZ ta 256 BOX), (a 9, aZ ta 256 UBOX), (a 16, aS ta 240 rk), (a 18, aS ta 16 ce), (a 22, aS ta 700 gm), (a 24, aS ta 16 mac), (a 25, aS ta 16 k1), (hk, aS ta capk gk), (a 26, aS ta 120 gov), (ht, aS ta capt gt)] sz (S := Nat × Nat × (Nat → BitVec 8) × (Nat → BitVec 8) × (Nat → BitVec 8) × (Nat → BitVec 8) × (Nat → BitVec 8) × (Nat → BitVec 8)) (fun _ => none) (fun u => (seg u.2.2.2.2.2.2.2 at0 n = kdfL (seg gk fr len) c n (seg gov 0 size)) ∧ (∀ j, (j < at0 ∨ at0 + n ≤ j) → u.2.2.2.2.2.2.2 j = gt j)) (fun u => [(h0, oM a u.1 u.2.1 tp osz lsz ns ct), (a 8, aZ ta 256 BOX), (a 9, aZ ta 256 UBOX), (a 16, aS ta 240 u.2.2.2.2.2.1), (a 18, aS ta 16 u.2.2.2.2.2.2.1), (a 22, aS ta 700 u.2.2.1), (a 24, aS ta 16 u.2.2.2.1), (a 25, aS ta 16 u.2.2.2.2.1), (hk, aS ta capk gk), (a 26, aS ta 120 gov), (ht, aS ta capt u.2.2.2.2.2.2.2)]) 0 0 := by
  refine CT.of_v rfl (by decide) (Nat.le_of_ble_eq_true rfl) ?_
  intro pp ee ss mm below meth kc A Q hx hb hml hown hin hts hK hA hsz hG hret H locs hP hD hS ls hl
  have hl : lv_has ls 11 [(0, .ref h0), (1, .ref hk), (2, .int (nI fr)), (3, .int (nI len)), (4, .int (nI c)), (5, .int (nI n)), (6, .int (nI size)), (7, .ref ht), (8, .int (nI at0))] := hl
  refine lv_iconst (pc := 0) (v := nI 1) hx hb dX10_kdf_0 (by decide +kernel) ?_
  refine lv_istore (pc := 1) (lv' := [(9, .int (nI 1)), (0, .ref h0), (1, .ref hk), (2, .int (nI fr)), (3, .int (nI len)), (4, .int (nI c)), (5, .int (nI n)), (6, .int (nI size)), (7, .ref ht), (8, .int (nI at0))]) hx hb dX10_kdf_1 hl (by decide) rfl (fun ls hl => ?_)
  have LP3 : ∀ (nn3 : Nat) (b : Nat) (ar' : Nat) (mn' : Nat) (gm' : Nat → BitVec 8) (mac' : Nat → BitVec 8) (k' : Nat → BitVec 8) (rk' : Nat → BitVec 8) (ce' : Nat → BitVec 8) (g' : Nat → BitVec 8), (b ≤ 2) → (qSeg g' gt at0 (min (16 * b) n) (fun j => (cmacL (seg gk fr len) (kdfT c n (j / 16 + 1) (seg gov 0 size))).getD (j % 16) 0)) → (3 - b < nn3) → ∀ (H : Heap) (locs : List Loc), va_P D vwCl [(h0, oM a ar' mn' tp osz lsz ns ct), (a 8, aZ ta 256 BOX), (a 9, aZ ta 256 UBOX), (a 16, aS ta 240 rk'), (a 18, aS ta 16 ce'), (a 22, aS ta 700 gm'), (a 24, aS ta 16 mac'), (a 25, aS ta 16 k'), (hk, aS ta capk gk), (a 26, aS ta 120 gov), (ht, aS ta capt g')] H → va_D A [(h0, oM a ar' mn' tp osz lsz ns ct), (a 8, aZ ta 256 BOX), (a 9, aZ ta 256 UBOX), (a 16, aS ta 240 rk'), (a 18, aS ta 16 ce'), (a 22, aS ta 700 gm'), (a 24, aS ta 16 mac'), (a 25, aS ta 16 k'), (hk, aS ta capk gk), (a 26, aS ta 120 gov), (ht, aS ta capt g')] → va_S A ss.heap H locs → ∀ ls : Array Slot, lv_has ls 11 [(9, .int (nI (b + 1))), (0, .ref h0), (1, .ref hk), (2, .int (nI fr)), (3, .int (nI len)), (4, .int (nI c)), (5, .int (nI n)), (6, .int (nI size)), (7, .ref ht), (8, .int (nI at0))] → W pp ll ee ({ frames := 5, cells := 0, slots := 0, locals := 124 } : Room) ss mm (([.ref h0, .ref hk, .int (nI fr), .int (nI len), .int (nI c), .int (nI n), .int (nI size), .ref ht, .int (nI at0)] : List Value).toArray) below meth kc H locs 0 0 Q (F0 mm 3 ls []) := by
    intro nn3
    induction nn3 with
    | zero => intro b ar' mn' gm' mac' k' rk' ce' g' hbb hq1 hmu; exact absurd hmu (Nat.not_lt_zero _)
    | succ nn3 ih3 =>
      intro b ar' mn' gm' mac' k' rk' ce' g' hbb hq1 hmu3 H locs hP hD hS ls hl
      refine lv_bipush (pc := 3) (v := nI 16) hx hb dX10_kdf_3 (by decide +kernel) ?_
      refine lv_iload (pc := 5) hx hb dX10_kdf_5 (lv_at hl 0 rfl) ?_
      refine lv_iconst (pc := 7) (v := nI 1) hx hb dX10_kdf_7 (by decide +kernel) ?_
      refine lv_isub (pc := 8) hx hb dX10_kdf_8 ?_
      refine q_top (y := nI (b + 1 - 1)) (pk_sub (a := b + 1) (b := 1) (by omega)) ?_
      refine lv_imul (pc := 9) hx hb dX10_kdf_9 ?_
      refine q_top (y := nI (16 * (b + 1 - 1))) (pk_mul 16 (b + 1 - 1)) ?_
      refine lv_iload (pc := 10) hx hb dX10_kdf_10 (lv_at hl 6 rfl) ?_
      refine lv_icmp_ge (pc := 12) (tgt := 156) hx hb dX10_kdf_12 (by decide) (fun c_1 => ?_) (fun c_1 => ?_)
      · skip
        rw [nI_leI (by omega) (by omega)] at c_1
        have hq_2 : (seg g' at0 n = kdfL (seg gk fr len) c n (seg gov 0 size)) ∧ (∀ j, (j < at0 ∨ at0 + n ≤ j) → g' j = gt j) := by
          refine ⟨?_, fun j hj => hq1.2 j (by omega)⟩
          have e9 := qSeg_segk hq1 (show min (16 * b) n = n by omega)
          rw [e9, kdfL]
        exact hret (⟨(ar'), (mn'), (gm'), (mac'), (k'), (rk'), (ce'), (g')⟩ : Nat × Nat × (Nat → BitVec 8) × (Nat → BitVec 8) × (Nat → BitVec 8) × (Nat → BitVec 8) × (Nat → BitVec 8) × (Nat → BitVec 8)) _ _ _ _ dX10_kdf_156 hq_2 (hP.sub [0, 1, 2, 3, 4, 5, 6, 7, 8, 9, 10] rfl) (hD.sub [0, 1, 2, 3, 4, 5, 6, 7, 8, 9, 10] (by decide) rfl) hS
      · skip
        rw [nI_leI (by omega) (by omega)] at c_1
        refine lv_aload_n (pc := 15) hx hb dX10_kdf_15 rfl (lv_at hl 1 rfl) ?_
        refine cs_V (pc := 16) (idx := 114) (n := 0) (wr := [(a 8, aZ ta 256 BOX), (a 9, aZ ta 256 UBOX), (a 16, aS ta 240 rk'), (a 18, aS ta 16 ce'), (a 22, aS ta 700 gm'), (a 24, aS ta 16 mac'), (a 25, aS ta 16 k'), (hk, aS ta capk gk), (a 26, aS ta 120 gov), (ht, aS ta capt g')]) (As := []) (rest := []) (ci := 8) hx hb hml hown hts hGok hK hA hG hl.1 hP hD hS (ct_X10_fresh ll D ta hGok h0 a ar' mn' tp osz lsz ns ct  H.size) tw_1302 tw_1299 tw_1301 tw_35 tw_75 hdX10_fresh rfl ⟨rfl, rfl, Nat.le_of_ble_eq_true rfl, Nat.le_of_ble_eq_true rfl, Nat.le_of_ble_eq_true rfl, Nat.le_of_ble_eq_true rfl⟩ rfl rfl (q0 := 0) rfl [0] [1, 2, 3, 4, 5, 6, 7, 8, 9, 10] rfl rfl (by decide) rfl (Nat.le_of_ble_eq_true rfl) dX10_kdf_16 (fun u H locs hq hP hD hS => ?_)
        refine W.eq (g2 := F0 mm 19 ls []) rfl ?_
        have hP : va_P D vwCl [(a 8, aZ ta 256 BOX), (a 9, aZ ta 256 UBOX), (a 16, aS ta 240 rk'), (a 18, aS ta 16 ce'), (a 22, aS ta 700 gm'), (a 24, aS ta 16 mac'), (a 25, aS ta 16 k'), (hk, aS ta capk gk), (a 26, aS ta 120 gov), (ht, aS ta capt g'), (h0, oM a ar' 0 tp osz lsz ns ct)] H := hP
        have hD : va_D A [(a 8, aZ ta 256 BOX), (a 9, aZ ta 256 UBOX), (a 16, aS ta 240 rk'), (a 18, aS ta 16 ce'), (a 22, aS ta 700 gm'), (a 24, aS ta 16 mac'), (a 25, aS ta 16 k'), (hk, aS ta capk gk), (a 26, aS ta 120 gov), (ht, aS ta capt g'), (h0, oM a ar' 0 tp osz lsz ns ct)] := hD
        refine lv_iconst (pc := 19) (v := nI 0) hx hb dX10_kdf_19 (by decide +kernel) ?_
        refine lv_istore (pc := 20) (lv' := [(10, .int (nI 0)), (9, .int (nI (b + 1))), (0, .ref h0), (1, .ref hk), (2, .int (nI fr)), (3, .int (nI len)), (4, .int (nI c)), (5, .int (nI n)), (6, .int (nI size)), (7, .ref ht), (8, .int (nI at0))]) hx hb dX10_kdf_20 hl (by decide) rfl (fun ls hl => ?_)
        have LP22 : ∀ (nn22 : Nat) (k : Nat) (t' : Nat → BitVec 8), (k ≤ 11) → (qL t' k = zeroL k) → (11 - k < nn22) → ∀ (H : Heap) (locs : List Loc), va_P D vwCl [(a 8, aZ ta 256 BOX), (a 9, aZ ta 256 UBOX), (a 16, aS ta 240 rk'), (a 18, aS ta 16 ce'), (a 22, aS ta 700 t'), (a 24, aS ta 16 mac'), (a 25, aS ta 16 k'), (hk, aS ta capk gk), (a 26, aS ta 120 gov), (ht, aS ta capt g'), (h0, oM a ar' k tp osz lsz ns ct)] H → va_D A [(a 8, aZ ta 256 BOX), (a 9, aZ ta 256 UBOX), (a 16, aS ta 240 rk'), (a 18, aS ta 16 ce'), (a 22, aS ta 700 t'), (a 24, aS ta 16 mac'), (a 25, aS ta 16 k'), (hk, aS ta capk gk), (a 26, aS ta 120 gov), (ht, aS ta capt g'), (h0, oM a ar' k tp osz lsz ns ct)] → va_S A ss.heap H locs → ∀ ls : Array Slot, lv_has ls 11 [(10, .int (nI k)), (9, .int (nI (b + 1))), (0, .ref h0), (1, .ref hk), (2, .int (nI fr)), (3, .int (nI len)), (4, .int (nI c)), (5, .int (nI n)), (6, .int (nI size)), (7, .ref ht), (8, .int (nI at0))] → W pp ll ee ({ frames := 5, cells := 0, slots := 0, locals := 124 } : Room) ss mm (([.ref h0, .ref hk, .int (nI fr), .int (nI len), .int (nI c), .int (nI n), .int (nI size), .ref ht, .int (nI at0)] : List Value).toArray) below meth kc H locs 0 0 Q (F0 mm 22 ls []) := by
          intro nn22
          induction nn22 with
          | zero => intro k t' hkk ht1 hmu; exact absurd hmu (Nat.not_lt_zero _)
          | succ nn22 ih22 =>
            intro k t' hkk ht1 hmu22 H locs hP hD hS ls hl
            refine lv_iload (pc := 22) hx hb dX10_kdf_22 (lv_at hl 0 rfl) ?_
            refine lv_bipush (pc := 24) (v := nI 11) hx hb dX10_kdf_24 (by decide +kernel) ?_
            refine lv_icmp_ge (pc := 26) (tgt := 40) hx hb dX10_kdf_26 (by decide) (fun c_3 => ?_) (fun c_3 => ?_)
            · skip
              rw [nI_leI (by omega) (by omega)] at c_3
              have en_4 : 11 = k := by omega
              subst en_4
              refine lv_aload_n (pc := 40) hx hb dX10_kdf_40 rfl (lv_at hl 2 rfl) ?_
              refine lv_iload (pc := 41) hx hb dX10_kdf_41 (lv_at hl 6 rfl) ?_
              refine cs_V (pc := 43) (idx := 87) (n := 1) (wr := [(a 8, aZ ta 256 BOX), (a 9, aZ ta 256 UBOX), (a 16, aS ta 240 rk'), (a 18, aS ta 16 ce'), (a 24, aS ta 16 mac'), (a 25, aS ta 16 k'), (hk, aS ta capk gk), (a 26, aS ta 120 gov), (ht, aS ta capt g')]) (As := [.int (nI c)]) (rest := []) (ci := 8) hx hb hml hown hts hGok hK hA hG hl.1 hP hD hS (ct_X10_add ll D ta hGok h0 a ar' 11 tp osz lsz ns ct t' (nI c) (by first | assumption | omega | rfl | decide) H.size) tw_1310 tw_1307 tw_1309 tw_37 tw_75 hdX10_add rfl ⟨rfl, rfl, Nat.le_of_ble_eq_true rfl, Nat.le_of_ble_eq_true rfl, Nat.le_of_ble_eq_true rfl, Nat.le_of_ble_eq_true rfl⟩ rfl rfl (q0 := 10) rfl [10, 4] [0, 1, 2, 3, 5, 6, 7, 8, 9] rfl rfl (by decide) rfl (Nat.le_of_ble_eq_true rfl) dX10_kdf_43 (fun u H locs hq hP hD hS => ?_)
              generalize u = gm1_43 at hq hP hD ⊢
              have hq : (qL gm1_43 (11 + 1) = qL t' 11 ++ [qlo (nI c)]) := hq
              have hL_43 := hq
              refine W.eq (g2 := F0 mm 46 ls []) rfl ?_
              have hP : va_P D vwCl [(a 8, aZ ta 256 BOX), (a 9, aZ ta 256 UBOX), (a 16, aS ta 240 rk'), (a 18, aS ta 16 ce'), (a 24, aS ta 16 mac'), (a 25, aS ta 16 k'), (hk, aS ta capk gk), (a 26, aS ta 120 gov), (ht, aS ta capt g'), (h0, oM a ar' (11 + 1) tp osz lsz ns ct), (a 22, aS ta 700 gm1_43)] H := hP
              have hD : va_D A [(a 8, aZ ta 256 BOX), (a 9, aZ ta 256 UBOX), (a 16, aS ta 240 rk'), (a 18, aS ta 16 ce'), (a 24, aS ta 16 mac'), (a 25, aS ta 16 k'), (hk, aS ta capk gk), (a 26, aS ta 120 gov), (ht, aS ta capt g'), (h0, oM a ar' (11 + 1) tp osz lsz ns ct), (a 22, aS ta 700 gm1_43)] := hD
              refine lv_aload_n (pc := 46) hx hb dX10_kdf_46 rfl (lv_at hl 2 rfl) ?_
              refine lv_iconst (pc := 47) (v := nI 0) hx hb dX10_kdf_47 (by decide +kernel) ?_
              refine cs_V (pc := 48) (idx := 87) (n := 1) (wr := [(a 8, aZ ta 256 BOX), (a 9, aZ ta 256 UBOX), (a 16, aS ta 240 rk'), (a 18, aS ta 16 ce'), (a 24, aS ta 16 mac'), (a 25, aS ta 16 k'), (hk, aS ta capk gk), (a 26, aS ta 120 gov), (ht, aS ta capt g')]) (As := [.int (nI 0)]) (rest := []) (ci := 8) hx hb hml hown hts hGok hK hA hG hl.1 hP hD hS (ct_X10_add ll D ta hGok h0 a ar' (11 + 1) tp osz lsz ns ct gm1_43 (nI 0) (by first | assumption | omega | rfl | decide) H.size) tw_1310 tw_1307 tw_1309 tw_37 tw_75 hdX10_add rfl ⟨rfl, rfl, Nat.le_of_ble_eq_true rfl, Nat.le_of_ble_eq_true rfl, Nat.le_of_ble_eq_true rfl, Nat.le_of_ble_eq_true rfl⟩ rfl rfl (q0 := 9) rfl [9, 10] [0, 1, 2, 3, 4, 5, 6, 7, 8] rfl rfl (by decide) rfl (Nat.le_of_ble_eq_true rfl) dX10_kdf_48 (fun u H locs hq hP hD hS => ?_)
              generalize u = gm1_48 at hq hP hD ⊢
              have hq : (qL gm1_48 ((11 + 1) + 1) = qL gm1_43 (11 + 1) ++ [qlo (nI 0)]) := hq
              have hL_48 := hq
              refine W.eq (g2 := F0 mm 51 ls []) rfl ?_
              have hP : va_P D vwCl [(a 8, aZ ta 256 BOX), (a 9, aZ ta 256 UBOX), (a 16, aS ta 240 rk'), (a 18, aS ta 16 ce'), (a 24, aS ta 16 mac'), (a 25, aS ta 16 k'), (hk, aS ta capk gk), (a 26, aS ta 120 gov), (ht, aS ta capt g'), (h0, oM a ar' ((11 + 1) + 1) tp osz lsz ns ct), (a 22, aS ta 700 gm1_48)] H := hP
              have hD : va_D A [(a 8, aZ ta 256 BOX), (a 9, aZ ta 256 UBOX), (a 16, aS ta 240 rk'), (a 18, aS ta 16 ce'), (a 24, aS ta 16 mac'), (a 25, aS ta 16 k'), (hk, aS ta capk gk), (a 26, aS ta 120 gov), (ht, aS ta capt g'), (h0, oM a ar' ((11 + 1) + 1) tp osz lsz ns ct), (a 22, aS ta 700 gm1_48)] := hD
              refine lv_aload_n (pc := 51) hx hb dX10_kdf_51 rfl (lv_at hl 2 rfl) ?_
              refine lv_bipush (pc := 52) (v := nI 8) hx hb dX10_kdf_52 (by decide +kernel) ?_
              refine lv_iload (pc := 54) hx hb dX10_kdf_54 (lv_at hl 7 rfl) ?_
              refine lv_imul (pc := 56) hx hb dX10_kdf_56 ?_
              refine q_top (y := nI (8 * n)) (pk_mul 8 n) ?_
              refine lv_bipush (pc := 57) (v := nI 8) hx hb dX10_kdf_57 (by decide +kernel) ?_
              refine lv_ishr (pc := 59) hx hb dX10_kdf_59 ?_
              refine q_top (y := nI ((8 * n) / 256)) (q_shr (p := 256) (by decide) (by omega)) ?_
              refine cs_V (pc := 60) (idx := 87) (n := 1) (wr := [(a 8, aZ ta 256 BOX), (a 9, aZ ta 256 UBOX), (a 16, aS ta 240 rk'), (a 18, aS ta 16 ce'), (a 24, aS ta 16 mac'), (a 25, aS ta 16 k'), (hk, aS ta capk gk), (a 26, aS ta 120 gov), (ht, aS ta capt g')]) (As := [.int (nI ((8 * n) / 256))]) (rest := []) (ci := 8) hx hb hml hown hts hGok hK hA hG hl.1 hP hD hS (ct_X10_add ll D ta hGok h0 a ar' ((11 + 1) + 1) tp osz lsz ns ct gm1_48 (nI ((8 * n) / 256)) (by first | assumption | omega | rfl | decide) H.size) tw_1310 tw_1307 tw_1309 tw_37 tw_75 hdX10_add rfl ⟨rfl, rfl, Nat.le_of_ble_eq_true rfl, Nat.le_of_ble_eq_true rfl, Nat.le_of_ble_eq_true rfl, Nat.le_of_ble_eq_true rfl⟩ rfl rfl (q0 := 9) rfl [9, 10] [0, 1, 2, 3, 4, 5, 6, 7, 8] rfl rfl (by decide) rfl (Nat.le_of_ble_eq_true rfl) dX10_kdf_60 (fun u H locs hq hP hD hS => ?_)
              generalize u = gm1_60 at hq hP hD ⊢
              have hq : (qL gm1_60 (((11 + 1) + 1) + 1) = qL gm1_48 ((11 + 1) + 1) ++ [qlo (nI ((8 * n) / 256))]) := hq
              have hL_60 := hq
              refine W.eq (g2 := F0 mm 63 ls []) rfl ?_
              have hP : va_P D vwCl [(a 8, aZ ta 256 BOX), (a 9, aZ ta 256 UBOX), (a 16, aS ta 240 rk'), (a 18, aS ta 16 ce'), (a 24, aS ta 16 mac'), (a 25, aS ta 16 k'), (hk, aS ta capk gk), (a 26, aS ta 120 gov), (ht, aS ta capt g'), (h0, oM a ar' (((11 + 1) + 1) + 1) tp osz lsz ns ct), (a 22, aS ta 700 gm1_60)] H := hP
              have hD : va_D A [(a 8, aZ ta 256 BOX), (a 9, aZ ta 256 UBOX), (a 16, aS ta 240 rk'), (a 18, aS ta 16 ce'), (a 24, aS ta 16 mac'), (a 25, aS ta 16 k'), (hk, aS ta capk gk), (a 26, aS ta 120 gov), (ht, aS ta capt g'), (h0, oM a ar' (((11 + 1) + 1) + 1) tp osz lsz ns ct), (a 22, aS ta 700 gm1_60)] := hD
              refine lv_aload_n (pc := 63) hx hb dX10_kdf_63 rfl (lv_at hl 2 rfl) ?_
              refine lv_bipush (pc := 64) (v := nI 8) hx hb dX10_kdf_64 (by decide +kernel) ?_
              refine lv_iload (pc := 66) hx hb dX10_kdf_66 (lv_at hl 7 rfl) ?_
              refine lv_imul (pc := 68) hx hb dX10_kdf_68 ?_
              refine q_top (y := nI (8 * n)) (pk_mul 8 n) ?_
              refine cs_V (pc := 69) (idx := 87) (n := 1) (wr := [(a 8, aZ ta 256 BOX), (a 9, aZ ta 256 UBOX), (a 16, aS ta 240 rk'), (a 18, aS ta 16 ce'), (a 24, aS ta 16 mac'), (a 25, aS ta 16 k'), (hk, aS ta capk gk), (a 26, aS ta 120 gov), (ht, aS ta capt g')]) (As := [.int (nI (8 * n))]) (rest := []) (ci := 8) hx hb hml hown hts hGok hK hA hG hl.1 hP hD hS (ct_X10_add ll D ta hGok h0 a ar' (((11 + 1) + 1) + 1) tp osz lsz ns ct gm1_60 (nI (8 * n)) (by first | assumption | omega | rfl | decide) H.size) tw_1310 tw_1307 tw_1309 tw_37 tw_75 hdX10_add rfl ⟨rfl, rfl, Nat.le_of_ble_eq_true rfl, Nat.le_of_ble_eq_true rfl, Nat.le_of_ble_eq_true rfl, Nat.le_of_ble_eq_true rfl⟩ rfl rfl (q0 := 9) rfl [9, 10] [0, 1, 2, 3, 4, 5, 6, 7, 8] rfl rfl (by decide) rfl (Nat.le_of_ble_eq_true rfl) dX10_kdf_69 (fun u H locs hq hP hD hS => ?_)
              generalize u = gm1_69 at hq hP hD ⊢
              have hq : (qL gm1_69 ((((11 + 1) + 1) + 1) + 1) = qL gm1_60 (((11 + 1) + 1) + 1) ++ [qlo (nI (8 * n))]) := hq
              have hL_69 := hq
              refine W.eq (g2 := F0 mm 72 ls []) rfl ?_
              have hP : va_P D vwCl [(a 8, aZ ta 256 BOX), (a 9, aZ ta 256 UBOX), (a 16, aS ta 240 rk'), (a 18, aS ta 16 ce'), (a 24, aS ta 16 mac'), (a 25, aS ta 16 k'), (hk, aS ta capk gk), (a 26, aS ta 120 gov), (ht, aS ta capt g'), (h0, oM a ar' ((((11 + 1) + 1) + 1) + 1) tp osz lsz ns ct), (a 22, aS ta 700 gm1_69)] H := hP
              have hD : va_D A [(a 8, aZ ta 256 BOX), (a 9, aZ ta 256 UBOX), (a 16, aS ta 240 rk'), (a 18, aS ta 16 ce'), (a 24, aS ta 16 mac'), (a 25, aS ta 16 k'), (hk, aS ta capk gk), (a 26, aS ta 120 gov), (ht, aS ta capt g'), (h0, oM a ar' ((((11 + 1) + 1) + 1) + 1) tp osz lsz ns ct), (a 22, aS ta 700 gm1_69)] := hD
              refine lv_aload_n (pc := 72) hx hb dX10_kdf_72 rfl (lv_at hl 2 rfl) ?_
              refine lv_iload (pc := 73) hx hb dX10_kdf_73 (lv_at hl 1 rfl) ?_
              refine cs_V (pc := 75) (idx := 87) (n := 1) (wr := [(a 8, aZ ta 256 BOX), (a 9, aZ ta 256 UBOX), (a 16, aS ta 240 rk'), (a 18, aS ta 16 ce'), (a 24, aS ta 16 mac'), (a 25, aS ta 16 k'), (hk, aS ta capk gk), (a 26, aS ta 120 gov), (ht, aS ta capt g')]) (As := [.int (nI (b + 1))]) (rest := []) (ci := 8) hx hb hml hown hts hGok hK hA hG hl.1 hP hD hS (ct_X10_add ll D ta hGok h0 a ar' ((((11 + 1) + 1) + 1) + 1) tp osz lsz ns ct gm1_69 (nI (b + 1)) (by first | assumption | omega | rfl | decide) H.size) tw_1310 tw_1307 tw_1309 tw_37 tw_75 hdX10_add rfl ⟨rfl, rfl, Nat.le_of_ble_eq_true rfl, Nat.le_of_ble_eq_true rfl, Nat.le_of_ble_eq_true rfl, Nat.le_of_ble_eq_true rfl⟩ rfl rfl (q0 := 9) rfl [9, 10] [0, 1, 2, 3, 4, 5, 6, 7, 8] rfl rfl (by decide) rfl (Nat.le_of_ble_eq_true rfl) dX10_kdf_75 (fun u H locs hq hP hD hS => ?_)
              generalize u = gm1_75 at hq hP hD ⊢
              have hq : (qL gm1_75 (((((11 + 1) + 1) + 1) + 1) + 1) = qL gm1_69 ((((11 + 1) + 1) + 1) + 1) ++ [qlo (nI (b + 1))]) := hq
              have hL_75 := hq
              refine W.eq (g2 := F0 mm 78 ls []) rfl ?_
              have hP : va_P D vwCl [(a 8, aZ ta 256 BOX), (a 9, aZ ta 256 UBOX), (a 16, aS ta 240 rk'), (a 18, aS ta 16 ce'), (a 24, aS ta 16 mac'), (a 25, aS ta 16 k'), (hk, aS ta capk gk), (a 26, aS ta 120 gov), (ht, aS ta capt g'), (h0, oM a ar' (((((11 + 1) + 1) + 1) + 1) + 1) tp osz lsz ns ct), (a 22, aS ta 700 gm1_75)] H := hP
              have hD : va_D A [(a 8, aZ ta 256 BOX), (a 9, aZ ta 256 UBOX), (a 16, aS ta 240 rk'), (a 18, aS ta 16 ce'), (a 24, aS ta 16 mac'), (a 25, aS ta 16 k'), (hk, aS ta capk gk), (a 26, aS ta 120 gov), (ht, aS ta capt g'), (h0, oM a ar' (((((11 + 1) + 1) + 1) + 1) + 1) tp osz lsz ns ct), (a 22, aS ta 700 gm1_75)] := hD
              refine lv_aload_n (pc := 78) hx hb dX10_kdf_78 rfl (lv_at hl 2 rfl) ?_
              refine lv_aload_n (pc := 79) hx hb dX10_kdf_79 rfl (lv_at hl 2 rfl) ?_
              refine va_get (pc := 80) (D := D) (ci := 8) (v := .ref (a 26)) (C := RX10) (T := TX10) (N := 57) hx hb hts iu10 hown hK hP 9 rfl rfl 26 (by decide) (hts _ tw_1071) (fun _ h9 => h9) rfl dX10_kdf_80 ?_
              refine lv_iconst (pc := 83) (v := nI 0) hx hb dX10_kdf_83 (by decide +kernel) ?_
              refine lv_iload (pc := 84) hx hb dX10_kdf_84 (lv_at hl 8 rfl) ?_
              refine cs_V (pc := 86) (idx := 121) (n := 3) (wr := [(a 8, aZ ta 256 BOX), (a 9, aZ ta 256 UBOX), (a 16, aS ta 240 rk'), (a 18, aS ta 16 ce'), (a 24, aS ta 16 mac'), (a 25, aS ta 16 k'), (hk, aS ta capk gk), (ht, aS ta capt g')]) (As := [.ref (a 26), .int (nI 0), .int (nI size)]) (rest := []) (ci := 8) hx hb hml hown hts hGok hK hA hG hl.1 hP hD hS (ct_X10_addAll ll D ta hGok h0 a ar' (((((11 + 1) + 1) + 1) + 1) + 1) tp osz lsz ns ct gm1_75 (a 26) 0 120 gov size (by first | assumption | omega | rfl | decide) (by first | assumption | omega | rfl | decide) (by first | assumption | omega | rfl | decide) H.size) tw_1306 tw_1303 tw_1305 tw_36 tw_75 hdX10_addAll rfl ⟨rfl, rfl, Nat.le_of_ble_eq_true rfl, Nat.le_of_ble_eq_true rfl, Nat.le_of_ble_eq_true rfl, Nat.le_of_ble_eq_true rfl⟩ rfl rfl (q0 := 9) rfl [9, 10, 7] [0, 1, 2, 3, 4, 5, 6, 8] rfl rfl (by decide) rfl (Nat.le_of_ble_eq_true rfl) dX10_kdf_86 (fun u H locs hq hP hD hS => ?_)
              generalize u = gm1_86 at hq hP hD ⊢
              have hq : (qL gm1_86 ((((((11 + 1) + 1) + 1) + 1) + 1) + size) = qL gm1_75 (((((11 + 1) + 1) + 1) + 1) + 1) ++ seg gov 0 size) := hq
              have hL_86 := hq
              refine W.eq (g2 := F0 mm 89 ls []) rfl ?_
              have hP : va_P D vwCl [(a 8, aZ ta 256 BOX), (a 9, aZ ta 256 UBOX), (a 16, aS ta 240 rk'), (a 18, aS ta 16 ce'), (a 24, aS ta 16 mac'), (a 25, aS ta 16 k'), (hk, aS ta capk gk), (ht, aS ta capt g'), (h0, oM a ar' ((((((11 + 1) + 1) + 1) + 1) + 1) + size) tp osz lsz ns ct), (a 22, aS ta 700 gm1_86), (a 26, aS ta 120 gov)] H := hP
              have hD : va_D A [(a 8, aZ ta 256 BOX), (a 9, aZ ta 256 UBOX), (a 16, aS ta 240 rk'), (a 18, aS ta 16 ce'), (a 24, aS ta 16 mac'), (a 25, aS ta 16 k'), (hk, aS ta capk gk), (ht, aS ta capt g'), (h0, oM a ar' ((((((11 + 1) + 1) + 1) + 1) + 1) + size) tp osz lsz ns ct), (a 22, aS ta 700 gm1_86), (a 26, aS ta 120 gov)] := hD
              refine lv_aload_n (pc := 89) hx hb dX10_kdf_89 rfl (lv_at hl 2 rfl) ?_
              refine lv_aload_n (pc := 90) hx hb dX10_kdf_90 rfl (lv_at hl 3 rfl) ?_
              refine lv_iload_n (pc := 91) hx hb dX10_kdf_91 rfl (lv_at hl 4 rfl) ?_
              refine lv_iload_n (pc := 92) hx hb dX10_kdf_92 rfl (lv_at hl 5 rfl) ?_
              refine cs_V (pc := 93) (idx := 124) (n := 3) (wr := [(ht, aS ta capt g'), (a 26, aS ta 120 gov)]) (As := [.ref hk, .int (nI fr), .int (nI len)]) (rest := []) (ci := 8) hx hb hml hown hts hGok hK hA hG hl.1 hP hD hS (ct_X10_cmac ll D ta hGok h0 a ar' ((((((11 + 1) + 1) + 1) + 1) + 1) + size) tp osz lsz ns ct gm1_86 mac' k' rk' ce' hk fr capk gk len (by first | assumption | omega | rfl | decide) (by first | assumption | omega | rfl | decide) (by first | assumption | omega | rfl | decide) (by first | assumption | omega | rfl | decide) H.size) tw_1334 tw_1331 tw_1333 tw_43 tw_75 hdX10_cmac rfl ⟨rfl, rfl, Nat.le_of_ble_eq_true rfl, Nat.le_of_ble_eq_true rfl, Nat.le_of_ble_eq_true rfl, Nat.le_of_ble_eq_true rfl⟩ rfl rfl (q0 := 8) rfl [8, 0, 1, 2, 3, 9, 4, 5, 6] [7, 10] rfl rfl (by decide) rfl (Nat.le_of_ble_eq_true rfl) dX10_kdf_93 (fun u H locs hq hP hD hS => ?_)
              obtain ⟨mn1_93, gm1_93, mac1_93, k11_93, rk1_93, ce1_93⟩ := u
              have hq : (seg mac1_93 0 16 = cmacL (seg gk fr len) (qL gm1_86 ((((((11 + 1) + 1) + 1) + 1) + 1) + size))) := hq
              have hL_93 := hq
              refine W.eq (g2 := F0 mm 96 ls []) rfl ?_
              have hP : va_P D vwCl [(ht, aS ta capt g'), (a 26, aS ta 120 gov), (h0, oM a (len / 4 + 6) mn1_93 tp osz lsz ns ct), (a 8, aZ ta 256 BOX), (a 9, aZ ta 256 UBOX), (a 16, aS ta 240 rk1_93), (a 18, aS ta 16 ce1_93), (a 22, aS ta 700 gm1_93), (a 24, aS ta 16 mac1_93), (a 25, aS ta 16 k11_93), (hk, aS ta capk gk)] H := hP
              have hD : va_D A [(ht, aS ta capt g'), (a 26, aS ta 120 gov), (h0, oM a (len / 4 + 6) mn1_93 tp osz lsz ns ct), (a 8, aZ ta 256 BOX), (a 9, aZ ta 256 UBOX), (a 16, aS ta 240 rk1_93), (a 18, aS ta 16 ce1_93), (a 22, aS ta 700 gm1_93), (a 24, aS ta 16 mac1_93), (a 25, aS ta 16 k11_93), (hk, aS ta capk gk)] := hD
              have hT1 : qL gm1_86 (11 + 1 + 1 + 1 + 1 + 1 + size) = kdfT c n (b + 1) (seg gov 0 size) := by
                rw [hL_86, hL_75, hL_69, hL_60, hL_48, hL_43, ht1]
                simp [kdfT, qlo_nI, List.append_assoc]
              refine lv_iconst (pc := 96) (v := nI 0) hx hb dX10_kdf_96 (by decide +kernel) ?_
              refine lv_istore (pc := 97) (lv' := [(10, .int (nI 0)), (9, .int (nI (b + 1))), (0, .ref h0), (1, .ref hk), (2, .int (nI fr)), (3, .int (nI len)), (4, .int (nI c)), (5, .int (nI n)), (6, .int (nI size)), (7, .ref ht), (8, .int (nI at0))]) hx hb dX10_kdf_97 hl (by decide) rfl (fun ls hl => ?_)
              have LP99 : ∀ (nn99 : Nat) (d : Nat) (d' : Nat → BitVec 8), (d ≤ 16 ∧ 16 * b + d ≤ n) → (qSeg d' gt at0 (16 * b + d) (fun j => (cmacL (seg gk fr len) (kdfT c n (j / 16 + 1) (seg gov 0 size))).getD (j % 16) 0)) → (16 - d < nn99) → ∀ (H : Heap) (locs : List Loc), va_P D vwCl [(ht, aS ta capt d'), (a 26, aS ta 120 gov), (h0, oM a (len / 4 + 6) mn1_93 tp osz lsz ns ct), (a 8, aZ ta 256 BOX), (a 9, aZ ta 256 UBOX), (a 16, aS ta 240 rk1_93), (a 18, aS ta 16 ce1_93), (a 22, aS ta 700 gm1_93), (a 24, aS ta 16 mac1_93), (a 25, aS ta 16 k11_93), (hk, aS ta capk gk)] H → va_D A [(ht, aS ta capt d'), (a 26, aS ta 120 gov), (h0, oM a (len / 4 + 6) mn1_93 tp osz lsz ns ct), (a 8, aZ ta 256 BOX), (a 9, aZ ta 256 UBOX), (a 16, aS ta 240 rk1_93), (a 18, aS ta 16 ce1_93), (a 22, aS ta 700 gm1_93), (a 24, aS ta 16 mac1_93), (a 25, aS ta 16 k11_93), (hk, aS ta capk gk)] → va_S A ss.heap H locs → ∀ ls : Array Slot, lv_has ls 11 [(10, .int (nI d)), (9, .int (nI (b + 1))), (0, .ref h0), (1, .ref hk), (2, .int (nI fr)), (3, .int (nI len)), (4, .int (nI c)), (5, .int (nI n)), (6, .int (nI size)), (7, .ref ht), (8, .int (nI at0))] → W pp ll ee ({ frames := 5, cells := 0, slots := 0, locals := 124 } : Room) ss mm (([.ref h0, .ref hk, .int (nI fr), .int (nI len), .int (nI c), .int (nI n), .int (nI size), .ref ht, .int (nI at0)] : List Value).toArray) below meth kc H locs 0 0 Q (F0 mm 99 ls []) := by
                intro nn99
                induction nn99 with
                | zero => intro d d' hdd hd hmu; exact absurd hmu (Nat.not_lt_zero _)
                | succ nn99 ih99 =>
                  intro d d' hdd hd hmu99 H locs hP hD hS ls hl
                  refine lv_iload (pc := 99) hx hb dX10_kdf_99 (lv_at hl 0 rfl) ?_
                  refine lv_bipush (pc := 101) (v := nI 16) hx hb dX10_kdf_101 (by decide +kernel) ?_
                  refine lv_icmp_ge (pc := 103) (tgt := 150) hx hb dX10_kdf_103 (by decide) (fun c_5 => ?_) (fun c_5 => ?_)
                  · skip
                    rw [nI_leI (by omega) (by omega)] at c_5
                    refine lv_iinc (pc := 150) (v := nI (b + 2)) (lv' := [(9, .int (nI (b + 2))), (10, .int (nI d)), (0, .ref h0), (1, .ref hk), (2, .int (nI fr)), (3, .int (nI len)), (4, .int (nI c)), (5, .int (nI n)), (6, .int (nI size)), (7, .ref ht), (8, .int (nI at0))]) hx hb dX10_kdf_150 hl (k := 1) rfl (by first | exact nI_add (b + 1) 1 | rfl) (by decide) rfl (fun ls hl => ?_)
                    refine lv_goto (pc := 153) (tgt := 3) hx hb dX10_kdf_153 (by decide) ?_
                    exact ih3 (b + 1) (len / 4 + 6) mn1_93 gm1_93 mac1_93 k11_93 rk1_93 ce1_93 d' (by omega) (by rw [show min (16 * (b + 1)) n = 16 * b + d by omega]; exact hd) (by omega) _ _ (hP.sub [2, 3, 4, 5, 6, 7, 8, 9, 10, 1, 0] rfl) (hD.sub [2, 3, 4, 5, 6, 7, 8, 9, 10, 1, 0] (by decide) rfl) hS ls (lv_sub hl [0, 2, 3, 4, 5, 6, 7, 8, 9, 10] rfl)
                  · skip
                    rw [nI_leI (by omega) (by omega)] at c_5
                    refine lv_bipush (pc := 106) (v := nI 16) hx hb dX10_kdf_106 (by decide +kernel) ?_
                    refine lv_iload (pc := 108) hx hb dX10_kdf_108 (lv_at hl 1 rfl) ?_
                    refine lv_iconst (pc := 110) (v := nI 1) hx hb dX10_kdf_110 (by decide +kernel) ?_
                    refine lv_isub (pc := 111) hx hb dX10_kdf_111 ?_
                    refine q_top (y := nI (b + 1 - 1)) (pk_sub (a := b + 1) (b := 1) (by omega)) ?_
                    refine lv_imul (pc := 112) hx hb dX10_kdf_112 ?_
                    refine q_top (y := nI (16 * (b + 1 - 1))) (pk_mul 16 (b + 1 - 1)) ?_
                    refine lv_iload (pc := 113) hx hb dX10_kdf_113 (lv_at hl 0 rfl) ?_
                    refine lv_iadd (pc := 115) hx hb dX10_kdf_115 ?_
                    refine q_top (y := nI (16 * (b + 1 - 1) + d)) (nI_add (16 * (b + 1 - 1)) d) ?_
                    refine lv_iload (pc := 116) hx hb dX10_kdf_116 (lv_at hl 7 rfl) ?_
                    refine lv_icmp_ge (pc := 118) (tgt := 150) hx hb dX10_kdf_118 (by decide) (fun c_6 => ?_) (fun c_6 => ?_)
                    · skip
                      rw [nI_leI (by omega) (by omega)] at c_6
                      refine lv_iinc (pc := 150) (v := nI (b + 2)) (lv' := [(9, .int (nI (b + 2))), (10, .int (nI d)), (0, .ref h0), (1, .ref hk), (2, .int (nI fr)), (3, .int (nI len)), (4, .int (nI c)), (5, .int (nI n)), (6, .int (nI size)), (7, .ref ht), (8, .int (nI at0))]) hx hb dX10_kdf_150 hl (k := 1) rfl (by first | exact nI_add (b + 1) 1 | rfl) (by decide) rfl (fun ls hl => ?_)
                      refine lv_goto (pc := 153) (tgt := 3) hx hb dX10_kdf_153 (by decide) ?_
                      exact ih3 (b + 1) (len / 4 + 6) mn1_93 gm1_93 mac1_93 k11_93 rk1_93 ce1_93 d' (by omega) (by rw [show min (16 * (b + 1)) n = 16 * b + d by omega]; exact hd) (by omega) _ _ (hP.sub [2, 3, 4, 5, 6, 7, 8, 9, 10, 1, 0] rfl) (hD.sub [2, 3, 4, 5, 6, 7, 8, 9, 10, 1, 0] (by decide) rfl) hS ls (lv_sub hl [0, 2, 3, 4, 5, 6, 7, 8, 9, 10] rfl)
                    · skip
                      rw [nI_leI (by omega) (by omega)] at c_6
                      refine lv_aload (pc := 121) hx hb dX10_kdf_121 (lv_at hl 9 rfl) ?_
                      refine lv_iload (pc := 123) hx hb dX10_kdf_123 (lv_at hl 10 rfl) ?_
                      refine lv_bipush (pc := 125) (v := nI 16) hx hb dX10_kdf_125 (by decide +kernel) ?_
                      refine lv_iload (pc := 127) hx hb dX10_kdf_127 (lv_at hl 1 rfl) ?_
                      refine lv_iconst (pc := 129) (v := nI 1) hx hb dX10_kdf_129 (by decide +kernel) ?_
                      refine lv_isub (pc := 130) hx hb dX10_kdf_130 ?_
                      refine q_top (y := nI (b + 1 - 1)) (pk_sub (a := b + 1) (b := 1) (by omega)) ?_
                      refine lv_imul (pc := 131) hx hb dX10_kdf_131 ?_
                      refine q_top (y := nI (16 * (b + 1 - 1))) (pk_mul 16 (b + 1 - 1)) ?_
                      refine lv_iadd (pc := 132) hx hb dX10_kdf_132 ?_
                      refine q_top (y := nI (at0 + (16 * (b + 1 - 1)))) (nI_add at0 (16 * (b + 1 - 1))) ?_
                      refine lv_iload (pc := 133) hx hb dX10_kdf_133 (lv_at hl 0 rfl) ?_
                      refine lv_iadd (pc := 135) hx hb dX10_kdf_135 ?_
                      refine q_top (y := nI (at0 + (16 * (b + 1 - 1)) + d)) (nI_add (at0 + (16 * (b + 1 - 1))) d) ?_
                      refine lv_aload_n (pc := 136) hx hb dX10_kdf_136 rfl (lv_at hl 2 rfl) ?_
                      refine va_get (pc := 137) (D := D) (ci := 8) (v := .ref (a 24)) (C := RX10) (T := TX10) (N := 57) hx hb hts iu10 hown hK hP 2 rfl rfl 24 (by decide) (hts _ tw_1069) (fun _ h9 => h9) rfl dX10_kdf_137 ?_
                      refine lv_iload (pc := 140) hx hb dX10_kdf_140 (lv_at hl 0 rfl) ?_
                      refine q_bald (pc := 142) hx hb hK hP 8 2 rfl rfl (k := d) (v := qs (mac1_93 d)) rfl (by omega) (by omega) rfl dX10_kdf_142 ?_
                      refine q_bastS (pc := 143) hx hb hK hP hD hS 0 2 rfl rfl (k := at0 + (16 * (b + 1 - 1)) + d) rfl (by omega) (by omega) (b := mac1_93 d) (qlo_qs _) dX10_kdf_143 (fun H locs hP hD hS => ?_)
                      have hP : va_P D vwCl [(ht, aS ta capt (qU d' (at0 + (16 * (b + 1 - 1)) + d) (mac1_93 d))), (a 26, aS ta 120 gov), (h0, oM a (len / 4 + 6) mn1_93 tp osz lsz ns ct), (a 8, aZ ta 256 BOX), (a 9, aZ ta 256 UBOX), (a 16, aS ta 240 rk1_93), (a 18, aS ta 16 ce1_93), (a 22, aS ta 700 gm1_93), (a 24, aS ta 16 mac1_93), (a 25, aS ta 16 k11_93), (hk, aS ta capk gk)] H := hP
                      have hD : va_D A [(ht, aS ta capt (qU d' (at0 + (16 * (b + 1 - 1)) + d) (mac1_93 d))), (a 26, aS ta 120 gov), (h0, oM a (len / 4 + 6) mn1_93 tp osz lsz ns ct), (a 8, aZ ta 256 BOX), (a 9, aZ ta 256 UBOX), (a 16, aS ta 240 rk1_93), (a 18, aS ta 16 ce1_93), (a 22, aS ta 700 gm1_93), (a 24, aS ta 16 mac1_93), (a 25, aS ta 16 k11_93), (hk, aS ta capk gk)] := hD
                      refine lv_iinc (pc := 144) (v := nI (d + 1)) (lv' := [(10, .int (nI (d + 1))), (9, .int (nI (b + 1))), (0, .ref h0), (1, .ref hk), (2, .int (nI fr)), (3, .int (nI len)), (4, .int (nI c)), (5, .int (nI n)), (6, .int (nI size)), (7, .ref ht), (8, .int (nI at0))]) hx hb dX10_kdf_144 hl (k := 0) rfl (by first | exact nI_add d 1 | rfl) (by decide) rfl (fun ls hl => ?_)
                      refine lv_goto (pc := 147) (tgt := 99) hx hb dX10_kdf_147 (by decide) ?_
                      exact ih99 (d + 1) (qU d' (at0 + (16 * (b + 1 - 1)) + d) (mac1_93 d)) (by omega) (qSeg_s (k := 16 * b + d) hd (by omega) (by rw [show (16 * b + d) / 16 + 1 = b + 1 by omega, show (16 * b + d) % 16 = d by omega, ← hT1, ← hL_93, seg_getD (by omega), Nat.zero_add])) (by omega) _ _ (hP.sub [0, 1, 2, 3, 4, 5, 6, 7, 8, 9, 10] rfl) (hD.sub [0, 1, 2, 3, 4, 5, 6, 7, 8, 9, 10] (by decide) rfl) hS ls (lv_sub hl [0, 1, 2, 3, 4, 5, 6, 7, 8, 9, 10] rfl)
              exact LP99 _ 0 g' (by omega) (by rw [show 16 * b + 0 = min (16 * b) n by omega]; exact hq1) (Nat.lt_succ_self _) _ _ (hP.sub [0, 1, 2, 3, 4, 5, 6, 7, 8, 9, 10] rfl) (hD.sub [0, 1, 2, 3, 4, 5, 6, 7, 8, 9, 10] (by decide) rfl) hS ls (lv_sub hl [0, 1, 2, 3, 4, 5, 6, 7, 8, 9, 10] rfl)
            · skip
              rw [nI_leI (by omega) (by omega)] at c_3
              refine lv_aload_n (pc := 29) hx hb dX10_kdf_29 rfl (lv_at hl 2 rfl) ?_
              refine lv_iconst (pc := 30) (v := nI 0) hx hb dX10_kdf_30 (by decide +kernel) ?_
              refine cs_V (pc := 31) (idx := 87) (n := 1) (wr := [(a 8, aZ ta 256 BOX), (a 9, aZ ta 256 UBOX), (a 16, aS ta 240 rk'), (a 18, aS ta 16 ce'), (a 24, aS ta 16 mac'), (a 25, aS ta 16 k'), (hk, aS ta capk gk), (a 26, aS ta 120 gov), (ht, aS ta capt g')]) (As := [.int (nI 0)]) (rest := []) (ci := 8) hx hb hml hown hts hGok hK hA hG hl.1 hP hD hS (ct_X10_add ll D ta hGok h0 a ar' k tp osz lsz ns ct t' (nI 0) (by first | assumption | omega | rfl | decide) H.size) tw_1310 tw_1307 tw_1309 tw_37 tw_75 hdX10_add rfl ⟨rfl, rfl, Nat.le_of_ble_eq_true rfl, Nat.le_of_ble_eq_true rfl, Nat.le_of_ble_eq_true rfl, Nat.le_of_ble_eq_true rfl⟩ rfl rfl (q0 := 10) rfl [10, 4] [0, 1, 2, 3, 5, 6, 7, 8, 9] rfl rfl (by decide) rfl (Nat.le_of_ble_eq_true rfl) dX10_kdf_31 (fun u H locs hq hP hD hS => ?_)
              generalize u = gm1_31 at hq hP hD ⊢
              have hq : (qL gm1_31 (k + 1) = qL t' k ++ [qlo (nI 0)]) := hq
              have hL_31 := hq
              refine W.eq (g2 := F0 mm 34 ls []) rfl ?_
              have hP : va_P D vwCl [(a 8, aZ ta 256 BOX), (a 9, aZ ta 256 UBOX), (a 16, aS ta 240 rk'), (a 18, aS ta 16 ce'), (a 24, aS ta 16 mac'), (a 25, aS ta 16 k'), (hk, aS ta capk gk), (a 26, aS ta 120 gov), (ht, aS ta capt g'), (h0, oM a ar' (k + 1) tp osz lsz ns ct), (a 22, aS ta 700 gm1_31)] H := hP
              have hD : va_D A [(a 8, aZ ta 256 BOX), (a 9, aZ ta 256 UBOX), (a 16, aS ta 240 rk'), (a 18, aS ta 16 ce'), (a 24, aS ta 16 mac'), (a 25, aS ta 16 k'), (hk, aS ta capk gk), (a 26, aS ta 120 gov), (ht, aS ta capt g'), (h0, oM a ar' (k + 1) tp osz lsz ns ct), (a 22, aS ta 700 gm1_31)] := hD
              refine lv_iinc (pc := 34) (v := nI (k + 1)) (lv' := [(10, .int (nI (k + 1))), (9, .int (nI (b + 1))), (0, .ref h0), (1, .ref hk), (2, .int (nI fr)), (3, .int (nI len)), (4, .int (nI c)), (5, .int (nI n)), (6, .int (nI size)), (7, .ref ht), (8, .int (nI at0))]) hx hb dX10_kdf_34 hl (k := 0) rfl (by first | exact nI_add k 1 | rfl) (by decide) rfl (fun ls hl => ?_)
              refine lv_goto (pc := 37) (tgt := 22) hx hb dX10_kdf_37 (by decide) ?_
              exact ih22 (k + 1) gm1_31 (by omega) (by rw [hL_31, ht1, qlo_nI, zeroL, zeroL, List.replicate_succ']) (by omega) _ _ (hP.sub [0, 1, 2, 3, 10, 4, 5, 6, 7, 8, 9] rfl) (hD.sub [0, 1, 2, 3, 10, 4, 5, 6, 7, 8, 9] (by decide) rfl) hS ls (lv_sub hl [0, 1, 2, 3, 4, 5, 6, 7, 8, 9, 10] rfl)
        exact LP22 _ 0 gm' (by omega) (rfl) (Nat.lt_succ_self _) _ _ (hP.sub [0, 1, 2, 3, 4, 5, 6, 7, 8, 9, 10] rfl) (hD.sub [0, 1, 2, 3, 4, 5, 6, 7, 8, 9, 10] (by decide) rfl) hS ls (lv_sub hl [0, 1, 2, 3, 4, 5, 6, 7, 8, 9, 10] rfl)
  exact LP3 _ 0 ar mn gm mac k1 rk ce gt (by omega) (by rw [show min (16 * 0) n = 0 by omega]; exact qSeg_0) (Nat.lt_succ_self _) _ _ (hP.sub [0, 1, 2, 3, 4, 5, 6, 7, 8, 9, 10] rfl) (hD.sub [0, 1, 2, 3, 4, 5, 6, 7, 8, 9, 10] (by decide) rfl) hS ls (lv_sub hl [0, 1, 2, 3, 4, 5, 6, 7, 8, 9] rfl)
