set_option maxHeartbeats 4000000 in
set_option maxRecDepth 100000 in
theorem ct_X10_des_L (ll : Launch) (D : va_G) (ta : Nat → ClassId) {G : (Nat → Prop) → State → Heap → Prop} (hGok : GOK G) (h0 : Nat) (a : Nat → Nat) (ar : Nat) (mn : Nat) (tp : Nat) (osz : Nat) (lsz : Nat) (ns : Nat) (ct : Nat) (hb2 : Nat) (at0 : Nat) (capb : Nat) (gb : Nat → BitVec 8) (hk : Nat) (fr : Nat) (capk : Nat) (gk : Nat → BitVec 8) (bi : Nat → Bool) (tu : Nat → Bool) (cd : Nat → Bool) (sk : Nat → Bool) (hf : Nat → Bool) (wd : Nat → Bool) (β : Bool) (hat : at0 + 8 ≤ capb) (hcb : capb < 2147483648) (hck : capk < 2147483648) (hf8 : fr + 8 ≤ capk) (sz : Nat) : CT ll yX10_des cX10_des 13 none ({ frames := 1, cells := 0, slots := 0, locals := 28 } : Room) D ta G [.ref h0, .ref hb2, .int (nI at0), .ref hk, .int (nI fr), .int (qb β)] [(h0, oM a ar mn tp osz lsz ns ct), (a 0, aK ta 64 tIP), (a 1, aK ta 48 tSPR), (a 2, aK ta 32 tMIX), (a 3, aK ta 56 tCH), (a 4, aK ta 48 tSEC), (a 5, aK ta 512 tSBX), (a 10, aB ta 64 bi), (a 11, aB ta 64 tu), (a 12, aB ta 56 cd), (a 13, aB ta 768 sk), (a 14, aB ta 32 hf), (a 15, aB ta 48 wd), (hb2, aS ta capb gb), (hk, aS ta capk gk)] sz (S := (Nat → BitVec 8) × (Nat → Bool) × (Nat → Bool) × (Nat → Bool) × (Nat → Bool) × (Nat → Bool) × (Nat → Bool)) (fun _ => none) (fun u => (seg u.1 at0 8 = desL (seg gk fr 8) β (seg gb at0 8)) ∧ (∀ j, (j < at0 ∨ at0 + 8 ≤ j) → u.1 j = gb j)) (fun u => [(h0, oM a ar mn tp osz lsz ns ct), (a 0, aK ta 64 tIP), (a 1, aK ta 48 tSPR), (a 2, aK ta 32 tMIX), (a 3, aK ta 56 tCH), (a 4, aK ta 48 tSEC), (a 5, aK ta 512 tSBX), (a 10, aB ta 64 u.2.1), (a 11, aB ta 64 u.2.2.1), (a 12, aB ta 56 u.2.2.2.1), (a 13, aB ta 768 u.2.2.2.2.1), (a 14, aB ta 32 u.2.2.2.2.2.1), (a 15, aB ta 48 u.2.2.2.2.2.2), (hb2, aS ta capb u.1), (hk, aS ta capk gk)]) 0 0 := by
  exact CT.mono (ct_X10_des ll D ta hGok h0 a ar mn tp osz lsz ns ct hb2 at0 capb gb hk fr capk gk bi tu cd sk hf wd β hat hcb hck hf8 sz) (fun u hu => ⟨des_seg hu.1, hu.2⟩)
set_option maxHeartbeats 4000000 in
set_option maxRecDepth 100000 in
theorem ct_X10_des3_L (ll : Launch) (D : va_G) (ta : Nat → ClassId) {G : (Nat → Prop) → State → Heap → Prop} (hGok : GOK G) (h0 : Nat) (a : Nat → Nat) (ar : Nat) (mn : Nat) (tp : Nat) (osz : Nat) (lsz : Nat) (ns : Nat) (ct : Nat) (hb2 : Nat) (at0 : Nat) (capb : Nat) (gb : Nat → BitVec 8) (hk : Nat) (fr : Nat) (capk : Nat) (gk : Nat → BitVec 8) (bi : Nat → Bool) (tu : Nat → Bool) (cd : Nat → Bool) (sk : Nat → Bool) (hf : Nat → Bool) (wd : Nat → Bool) (β : Bool) (hat : at0 + 8 ≤ capb) (hcb : capb < 2147483648) (hck : capk < 2147483648) (hf16 : fr + 16 ≤ capk) (sz : Nat) : CT ll yX10_des3 cX10_des3 6 none ({ frames := 2, cells := 0, slots := 0, locals := 60 } : Room) D ta G [.ref h0, .ref hb2, .int (nI at0), .ref hk, .int (nI fr), .int (qb β)] [(h0, oM a ar mn tp osz lsz ns ct), (a 0, aK ta 64 tIP), (a 1, aK ta 48 tSPR), (a 2, aK ta 32 tMIX), (a 3, aK ta 56 tCH), (a 4, aK ta 48 tSEC), (a 5, aK ta 512 tSBX), (a 10, aB ta 64 bi), (a 11, aB ta 64 tu), (a 12, aB ta 56 cd), (a 13, aB ta 768 sk), (a 14, aB ta 32 hf), (a 15, aB ta 48 wd), (hb2, aS ta capb gb), (hk, aS ta capk gk)] sz (S := (Nat → BitVec 8) × (Nat → Bool) × (Nat → Bool) × (Nat → Bool) × (Nat → Bool) × (Nat → Bool) × (Nat → Bool)) (fun _ => none) (fun u => (seg u.1 at0 8 = tdesL (seg gk fr 16) β (seg gb at0 8)) ∧ (∀ j, (j < at0 ∨ at0 + 8 ≤ j) → u.1 j = gb j)) (fun u => [(h0, oM a ar mn tp osz lsz ns ct), (a 0, aK ta 64 tIP), (a 1, aK ta 48 tSPR), (a 2, aK ta 32 tMIX), (a 3, aK ta 56 tCH), (a 4, aK ta 48 tSEC), (a 5, aK ta 512 tSBX), (a 10, aB ta 64 u.2.1), (a 11, aB ta 64 u.2.2.1), (a 12, aB ta 56 u.2.2.2.1), (a 13, aB ta 768 u.2.2.2.2.1), (a 14, aB ta 32 u.2.2.2.2.2.1), (a 15, aB ta 48 u.2.2.2.2.2.2), (hb2, aS ta capb u.1), (hk, aS ta capk gk)]) 0 0 := by
  exact CT.mono (ct_X10_des3 ll D ta hGok h0 a ar mn tp osz lsz ns ct hb2 at0 capb gb hk fr capk gk bi tu cd sk hf wd β hat hcb hck hf16 sz) (fun u hu => ⟨tdes_seg hu.1, hu.2⟩)
theorem hdX10_fresh : yX10_fresh.cls ≠ "java/lang/invoke/MethodHandle" ∧ yX10_fresh.cls ≠ "java/lang/invoke/VarHandle" ∧ (parseMethodDescriptor yX10_fresh.desc).map (fun d => d.parameters.length) = some 0 := ⟨by decide +kernel, by decide +kernel, by decide +kernel⟩
theorem dX10_fresh_0 : decode cX10_fresh 0 = .ok (.aload_n 0, 1) := by decide +kernel
theorem dX10_fresh_1 : decode cX10_fresh 1 = .ok (.iconst 0, 1) := by decide +kernel
theorem dX10_fresh_2 : decode cX10_fresh 2 = .ok (.putfield 81, 3) := by decide +kernel
theorem dX10_fresh_5 : decode cX10_fresh 5 = .ok (.return_, 1) := by decide +kernel
set_option maxHeartbeats 4000000 in
set_option maxRecDepth 100000 in
theorem ct_X10_fresh (ll : Launch) (D : va_G) (ta : Nat → ClassId) {G : (Nat → Prop) → State → Heap → Prop} (hGok : GOK G) (h0 : Nat) (a : Nat → Nat) (ar : Nat) (mn : Nat) (tp : Nat) (osz : Nat) (lsz : Nat) (ns : Nat) (ct : Nat)  (sz : Nat) : CT ll yX10_fresh cX10_fresh 1 none ({ frames := 0, cells := 0, slots := 0, locals := 0 } : Room) D ta G [.ref h0] [(h0, oM a ar mn tp osz lsz ns ct)] sz (S := Unit) (fun _ => none) (fun u => True) (fun u => [(h0, oM a ar 0 tp osz lsz ns ct)]) 0 0 := by
  refine CT.of_v rfl (by decide) (Nat.le_of_ble_eq_true rfl) ?_
  intro pp ee ss mm below meth kc A Q hx hb hml hown hin hts hK hA hsz hG hret H locs hP hD hS ls hl
  have hl : lv_has ls 1 [(0, .ref h0)] := hl
  refine lv_aload_n (pc := 0) hx hb dX10_fresh_0 rfl (lv_at hl 0 rfl) ?_
  refine lv_iconst (pc := 1) (v := nI 0) hx hb dX10_fresh_1 (by decide +kernel) ?_
  refine va_put (pc := 2) (D := D) (ci := 8) (v := .int (nI 0)) (ty := .int) (C := RX10) (T := TX10) (N := 57) hx hb hts iu10 tyX10 tyX10_ok nmX10 hown hK hP hD hS 0 rfl rfl 23 (by decide) (hts _ tw_1068) (fun _ h9 => h9) rfl (by decide +kernel) rfl rfl (Nat.le_of_ble_eq_true rfl) dX10_fresh_2 (fun H locs hP hD hS => ?_)
  have hP : va_P D vwCl [(h0, oM a ar 0 tp osz lsz ns ct)] H := hP
  have hD : va_D A [(h0, oM a ar 0 tp osz lsz ns ct)] := hD
  have hq_1 : True := trivial
  exact hret () _ _ _ _ dX10_fresh_5 hq_1 (hP.sub [0] rfl) (hD.sub [0] (by decide) rfl) hS
theorem hdX10_add : yX10_add.cls ≠ "java/lang/invoke/MethodHandle" ∧ yX10_add.cls ≠ "java/lang/invoke/VarHandle" ∧ (parseMethodDescriptor yX10_add.desc).map (fun d => d.parameters.length) = some 1 := ⟨by decide +kernel, by decide +kernel, by decide +kernel⟩
theorem dX10_add_0 : decode cX10_add 0 = .ok (.aload_n 0, 1) := by decide +kernel
theorem dX10_add_1 : decode cX10_add 1 = .ok (.getfield 84, 3) := by decide +kernel
theorem dX10_add_4 : decode cX10_add 4 = .ok (.aload_n 0, 1) := by decide +kernel
theorem dX10_add_5 : decode cX10_add 5 = .ok (.getfield 81, 3) := by decide +kernel
theorem dX10_add_8 : decode cX10_add 8 = .ok (.iload_n 1, 1) := by decide +kernel
theorem dX10_add_9 : decode cX10_add 9 = .ok (.i2b, 1) := by decide +kernel
theorem dX10_add_10 : decode cX10_add 10 = .ok (.bastore, 1) := by decide +kernel
theorem dX10_add_11 : decode cX10_add 11 = .ok (.aload_n 0, 1) := by decide +kernel
theorem dX10_add_12 : decode cX10_add 12 = .ok (.dup, 1) := by decide +kernel
theorem dX10_add_13 : decode cX10_add 13 = .ok (.getfield 81, 3) := by decide +kernel
theorem dX10_add_16 : decode cX10_add 16 = .ok (.iconst 1, 1) := by decide +kernel
theorem dX10_add_17 : decode cX10_add 17 = .ok (.iadd, 1) := by decide +kernel
theorem dX10_add_18 : decode cX10_add 18 = .ok (.putfield 81, 3) := by decide +kernel
theorem dX10_add_21 : decode cX10_add 21 = .ok (.return_, 1) := by decide +kernel
set_option maxHeartbeats 4000000 in
set_option maxRecDepth 100000 in
theorem ct_X10_add (ll : Launch) (D : va_G) (ta : Nat → ClassId) {G : (Nat → Prop) → State → Heap → Prop} (hGok : GOK G) (h0 : Nat) (a : Nat → Nat) (ar : Nat) (mn : Nat) (tp : Nat) (osz : Nat) (lsz : Nat) (ns : Nat) (ct : Nat) (gm : Nat → BitVec 8) (x : Int32) (hmn : mn < 700) (sz : Nat) : CT ll yX10_add cX10_add 2 none ({ frames := 0, cells := 0, slots := 0, locals := 0 } : Room) D ta G [.ref h0, .int x] [(h0, oM a ar mn tp osz lsz ns ct), (a 22, aS ta 700 gm)] sz (S := (Nat → BitVec 8)) (fun _ => none) (fun u => (qL u (mn + 1) = qL gm mn ++ [qlo x])) (fun u => [(h0, oM a ar (mn + 1) tp osz lsz ns ct), (a 22, aS ta 700 u)]) 0 0 := by
  refine CT.of_v rfl (by decide) (Nat.le_of_ble_eq_true rfl) ?_
  intro pp ee ss mm below meth kc A Q hx hb hml hown hin hts hK hA hsz hG hret H locs hP hD hS ls hl
  have hl : lv_has ls 2 [(0, .ref h0), (1, .int x)] := hl
  refine lv_aload_n (pc := 0) hx hb dX10_add_0 rfl (lv_at hl 0 rfl) ?_
  refine va_get (pc := 1) (D := D) (ci := 8) (v := .ref (a 22)) (C := RX10) (T := TX10) (N := 57) hx hb hts iu10 hown hK hP 0 rfl rfl 22 (by decide) (hts _ tw_1067) (fun _ h9 => h9) rfl dX10_add_1 ?_
  refine lv_aload_n (pc := 4) hx hb dX10_add_4 rfl (lv_at hl 0 rfl) ?_
  refine va_get (pc := 5) (D := D) (ci := 8) (v := .int (nI mn)) (C := RX10) (T := TX10) (N := 57) hx hb hts iu10 hown hK hP 0 rfl rfl 23 (by decide) (hts _ tw_1068) (fun _ h9 => h9) rfl dX10_add_5 ?_
  refine lv_iload_n (pc := 8) hx hb dX10_add_8 rfl (lv_at hl 1 rfl) ?_
  refine lv_i2b (pc := 9) (v := qs (qlo x)) hx hb dX10_add_9 (q_i2b _) ?_
  refine q_bastS (pc := 10) hx hb hK hP hD hS 1 2 rfl rfl (k := mn) rfl (by omega) (by omega) (b := qlo x) (qlo_qs _) dX10_add_10 (fun H locs hP hD hS => ?_)
  have hP : va_P D vwCl [(h0, oM a ar mn tp osz lsz ns ct), (a 22, aS ta 700 (qU gm mn (qlo x)))] H := hP
  have hD : va_D A [(h0, oM a ar mn tp osz lsz ns ct), (a 22, aS ta 700 (qU gm mn (qlo x)))] := hD
  refine lv_aload_n (pc := 11) hx hb dX10_add_11 rfl (lv_at hl 0 rfl) ?_
  refine lv_dup (pc := 12) hx hb dX10_add_12 rfl ?_
  refine va_get (pc := 13) (D := D) (ci := 8) (v := .int (nI mn)) (C := RX10) (T := TX10) (N := 57) hx hb hts iu10 hown hK hP 0 rfl rfl 23 (by decide) (hts _ tw_1068) (fun _ h9 => h9) rfl dX10_add_13 ?_
  refine lv_iconst (pc := 16) (v := nI 1) hx hb dX10_add_16 (by decide +kernel) ?_
  refine lv_iadd (pc := 17) hx hb dX10_add_17 ?_
  refine q_top (y := nI (mn + 1)) (nI_add mn 1) ?_
  refine va_put (pc := 18) (D := D) (ci := 8) (v := .int (nI (mn + 1))) (ty := .int) (C := RX10) (T := TX10) (N := 57) hx hb hts iu10 tyX10 tyX10_ok nmX10 hown hK hP hD hS 0 rfl rfl 23 (by decide) (hts _ tw_1068) (fun _ h9 => h9) rfl (by decide +kernel) rfl rfl (Nat.le_of_ble_eq_true rfl) dX10_add_18 (fun H locs hP hD hS => ?_)
  have hP : va_P D vwCl [(h0, oM a ar (mn + 1) tp osz lsz ns ct), (a 22, aS ta 700 (qU gm mn (qlo x)))] H := hP
  have hD : va_D A [(h0, oM a ar (mn + 1) tp osz lsz ns ct), (a 22, aS ta 700 (qU gm mn (qlo x)))] := hD
  have hq_1 : (qL (qU gm mn (qlo x)) (mn + 1) = qL gm mn ++ [qlo x]) := by
    exact qL_snoc
  exact hret (qU gm mn (qlo x)) _ _ _ _ dX10_add_21 hq_1 (hP.sub [0, 1] rfl) (hD.sub [0, 1] (by decide) rfl) hS
theorem hdX10_addAll : yX10_addAll.cls ≠ "java/lang/invoke/MethodHandle" ∧ yX10_addAll.cls ≠ "java/lang/invoke/VarHandle" ∧ (parseMethodDescriptor yX10_addAll.desc).map (fun d => d.parameters.length) = some 3 := ⟨by decide +kernel, by decide +kernel, by decide +kernel⟩
theorem dX10_addAll_0 : decode cX10_addAll 0 = .ok (.iconst 0, 1) := by decide +kernel
theorem dX10_addAll_1 : decode cX10_addAll 1 = .ok (.istore 4, 2) := by decide +kernel
theorem dX10_addAll_3 : decode cX10_addAll 3 = .ok (.iload 4, 2) := by decide +kernel
theorem dX10_addAll_5 : decode cX10_addAll 5 = .ok (.iload_n 3, 1) := by decide +kernel
theorem dX10_addAll_6 : decode cX10_addAll 6 = .ok (.if_icmp .ge 19, 3) := by decide +kernel
theorem dX10_addAll_9 : decode cX10_addAll 9 = .ok (.aload_n 0, 1) := by decide +kernel
theorem dX10_addAll_10 : decode cX10_addAll 10 = .ok (.aload_n 1, 1) := by decide +kernel
theorem dX10_addAll_11 : decode cX10_addAll 11 = .ok (.iload_n 2, 1) := by decide +kernel
theorem dX10_addAll_12 : decode cX10_addAll 12 = .ok (.iload 4, 2) := by decide +kernel
theorem dX10_addAll_14 : decode cX10_addAll 14 = .ok (.iadd, 1) := by decide +kernel
theorem dX10_addAll_15 : decode cX10_addAll 15 = .ok (.baload, 1) := by decide +kernel
theorem dX10_addAll_16 : decode cX10_addAll 16 = .ok (.invokevirtual 87, 3) := by decide +kernel
theorem dX10_addAll_19 : decode cX10_addAll 19 = .ok (.iinc 4 1, 3) := by decide +kernel
theorem dX10_addAll_22 : decode cX10_addAll 22 = .ok (.goto (-19), 3) := by decide +kernel
theorem dX10_addAll_25 : decode cX10_addAll 25 = .ok (.return_, 1) := by decide +kernel
set_option maxHeartbeats 4000000 in
set_option maxRecDepth 100000 in
theorem ct_X10_addAll (ll : Launch) (D : va_G) (ta : Nat → ClassId) {G : (Nat → Prop) → State → Heap → Prop} (hGok : GOK G) (h0 : Nat) (a : Nat → Nat) (ar : Nat) (mn : Nat) (tp : Nat) (osz : Nat) (lsz : Nat) (ns : Nat) (ct : Nat) (gm : Nat → BitVec 8) (hb2 : Nat) (fr : Nat) (capb : Nat) (gb : Nat → BitVec 8) (n : Nat) (hmn : mn + n ≤ 700) (hb9 : fr + n ≤ capb) (hcb : capb < 2147483648) (sz : Nat) : CT ll yX10_addAll cX10_addAll 5 none ({ frames := 1, cells := 0, slots := 0, locals := 21 } : Room) D ta G [.ref h0, .ref hb2, .int (nI fr), .int (nI n)] [(h0, oM a ar mn tp osz lsz ns ct), (a 22, aS ta 700 gm), (hb2, aS ta capb gb)] sz (S := (Nat → BitVec 8)) (fun _ => none) (fun u => (qL u (mn + n) = qL gm mn ++ seg gb fr n)) (fun u => [(h0, oM a ar (mn + n) tp osz lsz ns ct), (a 22, aS ta 700 u), (hb2, aS ta capb gb)]) 0 0 := by
  refine CT.of_v rfl (by decide) (Nat.le_of_ble_eq_true rfl) ?_
  intro pp ee ss mm below meth kc A Q hx hb hml hown hin hts hK hA hsz hG hret H locs hP hD hS ls hl
  have hl : lv_has ls 5 [(0, .ref h0), (1, .ref hb2), (2, .int (nI fr)), (3, .int (nI n))] := hl
  refine lv_iconst (pc := 0) (v := nI 0) hx hb dX10_addAll_0 (by decide +kernel) ?_
  refine lv_istore (pc := 1) (lv' := [(4, .int (nI 0)), (0, .ref h0), (1, .ref hb2), (2, .int (nI fr)), (3, .int (nI n))]) hx hb dX10_addAll_1 hl (by decide) rfl (fun ls hl => ?_)
  have LP3 : ∀ (nn3 : Nat) (c : Nat) (m1 : Nat) (g' : Nat → BitVec 8), (c ≤ n) → (m1 = mn + c) → (qL g' m1 = qL gm mn ++ seg gb fr c) → (n - c < nn3) → ∀ (H : Heap) (locs : List Loc), va_P D vwCl [(h0, oM a ar m1 tp osz lsz ns ct), (a 22, aS ta 700 g'), (hb2, aS ta capb gb)] H → va_D A [(h0, oM a ar m1 tp osz lsz ns ct), (a 22, aS ta 700 g'), (hb2, aS ta capb gb)] → va_S A ss.heap H locs → ∀ ls : Array Slot, lv_has ls 5 [(4, .int (nI c)), (0, .ref h0), (1, .ref hb2), (2, .int (nI fr)), (3, .int (nI n))] → W pp ll ee ({ frames := 1, cells := 0, slots := 0, locals := 21 } : Room) ss mm (([.ref h0, .ref hb2, .int (nI fr), .int (nI n)] : List Value).toArray) below meth kc H locs 0 0 Q (F0 mm 3 ls []) := by
    intro nn3
    induction nn3 with
    | zero => intro c m1 g' hcc hm hLL hmu; exact absurd hmu (Nat.not_lt_zero _)
    | succ nn3 ih3 =>
      intro c m1 g' hcc hm hLL hmu3 H locs hP hD hS ls hl
      refine lv_iload (pc := 3) hx hb dX10_addAll_3 (lv_at hl 0 rfl) ?_
      refine lv_iload_n (pc := 5) hx hb dX10_addAll_5 rfl (lv_at hl 4 rfl) ?_
      refine lv_icmp_ge (pc := 6) (tgt := 25) hx hb dX10_addAll_6 (by decide) (fun c_1 => ?_) (fun c_1 => ?_)
      · skip
        rw [nI_leI (by omega) (by omega)] at c_1
        have en_2 : n = c := by omega
        subst en_2
        have en_3 : mn + n = m1 := by omega
        subst en_3
        have hq_4 : (qL g' (mn + n) = qL gm mn ++ seg gb fr n) := by
          exact hLL
        exact hret (g') _ _ _ _ dX10_addAll_25 hq_4 (hP.sub [0, 1, 2] rfl) (hD.sub [0, 1, 2] (by decide) rfl) hS
      · skip
        rw [nI_leI (by omega) (by omega)] at c_1
        refine lv_aload_n (pc := 9) hx hb dX10_addAll_9 rfl (lv_at hl 1 rfl) ?_
        refine lv_aload_n (pc := 10) hx hb dX10_addAll_10 rfl (lv_at hl 2 rfl) ?_
        refine lv_iload_n (pc := 11) hx hb dX10_addAll_11 rfl (lv_at hl 3 rfl) ?_
        refine lv_iload (pc := 12) hx hb dX10_addAll_12 (lv_at hl 0 rfl) ?_
        refine lv_iadd (pc := 14) hx hb dX10_addAll_14 ?_
        refine q_top (y := nI (fr + c)) (nI_add fr c) ?_
        refine q_bald (pc := 15) hx hb hK hP 2 2 rfl rfl (k := fr + c) (v := qs (gb (fr + c))) rfl (by omega) (by omega) rfl dX10_addAll_15 ?_
        refine cs_V (pc := 16) (idx := 87) (n := 1) (wr := [(hb2, aS ta capb gb)]) (As := [.int (qs (gb (fr + c)))]) (rest := []) (ci := 8) hx hb hml hown hts hGok hK hA hG hl.1 hP hD hS (ct_X10_add ll D ta hGok h0 a ar m1 tp osz lsz ns ct g' (qs (gb (fr + c))) (by first | assumption | omega | rfl | decide) H.size) tw_1310 tw_1307 tw_1309 tw_37 tw_75 hdX10_add rfl ⟨rfl, rfl, Nat.le_of_ble_eq_true rfl, Nat.le_of_ble_eq_true rfl, Nat.le_of_ble_eq_true rfl, Nat.le_of_ble_eq_true rfl⟩ rfl rfl (q0 := 0) rfl [0, 1] [2] rfl rfl (by decide) rfl (Nat.le_of_ble_eq_true rfl) dX10_addAll_16 (fun u H locs hq hP hD hS => ?_)
        generalize u = gm1_16 at hq hP hD ⊢
        have hq : (qL gm1_16 (m1 + 1) = qL g' m1 ++ [qlo (qs (gb (fr + c)))]) := hq
        have hL_16 := hq
        refine W.eq (g2 := F0 mm 19 ls []) rfl ?_
        have hP : va_P D vwCl [(hb2, aS ta capb gb), (h0, oM a ar (m1 + 1) tp osz lsz ns ct), (a 22, aS ta 700 gm1_16)] H := hP
        have hD : va_D A [(hb2, aS ta capb gb), (h0, oM a ar (m1 + 1) tp osz lsz ns ct), (a 22, aS ta 700 gm1_16)] := hD
        refine lv_iinc (pc := 19) (v := nI (c + 1)) (lv' := [(4, .int (nI (c + 1))), (0, .ref h0), (1, .ref hb2), (2, .int (nI fr)), (3, .int (nI n))]) hx hb dX10_addAll_19 hl (k := 0) rfl (by first | exact nI_add c 1 | rfl) (by decide) rfl (fun ls hl => ?_)
        refine lv_goto (pc := 22) (tgt := 3) hx hb dX10_addAll_22 (by decide) ?_
        exact ih3 (c + 1) (m1 + 1) gm1_16 (by omega) (by omega) (by rw [hL_16, hLL, qlo_qs, List.append_assoc, seg, seg, qL_succ]) (by omega) _ _ (hP.sub [1, 2, 0] rfl) (hD.sub [1, 2, 0] (by decide) rfl) hS ls (lv_sub hl [0, 1, 2, 3, 4] rfl)
  exact LP3 _ 0 mn gm (by omega) (by omega) (by simp [seg, qL_0]) (Nat.lt_succ_self _) _ _ (hP.sub [0, 1, 2] rfl) (hD.sub [0, 1, 2] (by decide) rfl) hS ls (lv_sub hl [0, 1, 2, 3, 4] rfl)
theorem hdX10_fillUp : yX10_fillUp.cls ≠ "java/lang/invoke/MethodHandle" ∧ yX10_fillUp.cls ≠ "java/lang/invoke/VarHandle" ∧ (parseMethodDescriptor yX10_fillUp.desc).map (fun d => d.parameters.length) = some 1 := ⟨by decide +kernel, by decide +kernel, by decide +kernel⟩
theorem dX10_fillUp_0 : decode cX10_fillUp 0 = .ok (.aload_n 0, 1) := by decide +kernel
theorem dX10_fillUp_1 : decode cX10_fillUp 1 = .ok (.sipush 128, 3) := by decide +kernel
theorem dX10_fillUp_4 : decode cX10_fillUp 4 = .ok (.invokevirtual 87, 3) := by decide +kernel
theorem dX10_fillUp_7 : decode cX10_fillUp 7 = .ok (.aload_n 0, 1) := by decide +kernel
theorem dX10_fillUp_8 : decode cX10_fillUp 8 = .ok (.getfield 81, 3) := by decide +kernel
theorem dX10_fillUp_11 : decode cX10_fillUp 11 = .ok (.iload_n 1, 1) := by decide +kernel
theorem dX10_fillUp_12 : decode cX10_fillUp 12 = .ok (.irem, 1) := by decide +kernel
theorem dX10_fillUp_13 : decode cX10_fillUp 13 = .ok (.ifCond .eq 11, 3) := by decide +kernel
theorem dX10_fillUp_16 : decode cX10_fillUp 16 = .ok (.aload_n 0, 1) := by decide +kernel
theorem dX10_fillUp_17 : decode cX10_fillUp 17 = .ok (.iconst 0, 1) := by decide +kernel
theorem dX10_fillUp_18 : decode cX10_fillUp 18 = .ok (.invokevirtual 87, 3) := by decide +kernel
theorem dX10_fillUp_21 : decode cX10_fillUp 21 = .ok (.goto (-14), 3) := by decide +kernel
theorem dX10_fillUp_24 : decode cX10_fillUp 24 = .ok (.return_, 1) := by decide +kernel
set_option maxHeartbeats 4000000 in
set_option maxRecDepth 100000 in
theorem ct_X10_fillUp8 (ll : Launch) (D : va_G) (ta : Nat → ClassId) {G : (Nat → Prop) → State → Heap → Prop} (hGok : GOK G) (h0 : Nat) (a : Nat → Nat) (ar : Nat) (mn : Nat) (tp : Nat) (osz : Nat) (lsz : Nat) (ns : Nat) (ct : Nat) (gm : Nat → BitVec 8) (hmn : (mn / 8 + 1) * 8 ≤ 700) (sz : Nat) : CT ll yX10_fillUp cX10_fillUp 2 none ({ frames := 1, cells := 0, slots := 0, locals := 21 } : Room) D ta G [.ref h0, .int (nI 8)] [(h0, oM a ar mn tp osz lsz ns ct), (a 22, aS ta 700 gm)] sz (S := (Nat → BitVec 8) × Nat) (fun _ => none) (fun u => (u.2 = (mn / 8 + 1) * 8) ∧ (qL u.1 u.2 = qpad 8 (qL gm mn))) (fun u => [(h0, oM a ar u.2 tp osz lsz ns ct), (a 22, aS ta 700 u.1)]) 0 0 := by
  refine CT.of_v rfl (by decide) (Nat.le_of_ble_eq_true rfl) ?_
  intro pp ee ss mm below meth kc A Q hx hb hml hown hin hts hK hA hsz hG hret H locs hP hD hS ls hl
  have hl : lv_has ls 2 [(0, .ref h0), (1, .int (nI 8))] := hl
  refine lv_aload_n (pc := 0) hx hb dX10_fillUp_0 rfl (lv_at hl 0 rfl) ?_
  refine lv_sipush (pc := 1) (v := nI 128) hx hb dX10_fillUp_1 (by decide +kernel) ?_
  refine cs_V (pc := 4) (idx := 87) (n := 1) (wr := []) (As := [.int (nI 128)]) (rest := []) (ci := 8) hx hb hml hown hts hGok hK hA hG hl.1 hP hD hS (ct_X10_add ll D ta hGok h0 a ar mn tp osz lsz ns ct gm (nI 128) (by first | assumption | omega | rfl | decide) H.size) tw_1310 tw_1307 tw_1309 tw_37 tw_75 hdX10_add rfl ⟨rfl, rfl, Nat.le_of_ble_eq_true rfl, Nat.le_of_ble_eq_true rfl, Nat.le_of_ble_eq_true rfl, Nat.le_of_ble_eq_true rfl⟩ rfl rfl (q0 := 0) rfl [0, 1] [] rfl rfl (by decide) rfl (Nat.le_of_ble_eq_true rfl) dX10_fillUp_4 (fun u H locs hq hP hD hS => ?_)
  generalize u = gm1_4 at hq hP hD ⊢
  have hq : (qL gm1_4 (mn + 1) = qL gm mn ++ [qlo (nI 128)]) := hq
  have hL_4 := hq
  refine W.eq (g2 := F0 mm 7 ls []) rfl ?_
  have hP : va_P D vwCl [(h0, oM a ar (mn + 1) tp osz lsz ns ct), (a 22, aS ta 700 gm1_4)] H := hP
  have hD : va_D A [(h0, oM a ar (mn + 1) tp osz lsz ns ct), (a 22, aS ta 700 gm1_4)] := hD
  have LP7 : ∀ (nn7 : Nat) (c : Nat) (m1 : Nat) (g' : Nat → BitVec 8), (1 ≤ c ∧ c + mn % 8 ≤ 8) → (m1 = mn + c) → (qL g' m1 = qL gm mn ++ 0x80#8 :: List.replicate (c - 1) 0#8) → (8 - c < nn7) → ∀ (H : Heap) (locs : List Loc), va_P D vwCl [(h0, oM a ar m1 tp osz lsz ns ct), (a 22, aS ta 700 g')] H → va_D A [(h0, oM a ar m1 tp osz lsz ns ct), (a 22, aS ta 700 g')] → va_S A ss.heap H locs → ∀ ls : Array Slot, lv_has ls 2 [(0, .ref h0), (1, .int (nI 8))] → W pp ll ee ({ frames := 1, cells := 0, slots := 0, locals := 21 } : Room) ss mm (([.ref h0, .int (nI 8)] : List Value).toArray) below meth kc H locs 0 0 Q (F0 mm 7 ls []) := by
    intro nn7
    induction nn7 with
    | zero => intro c m1 g' hcc hm hLL hmu; exact absurd hmu (Nat.not_lt_zero _)
    | succ nn7 ih7 =>
      intro c m1 g' hcc hm hLL hmu7 H locs hP hD hS ls hl
      refine lv_aload_n (pc := 7) hx hb dX10_fillUp_7 rfl (lv_at hl 0 rfl) ?_
      refine va_get (pc := 8) (D := D) (ci := 8) (v := .int (nI m1)) (C := RX10) (T := TX10) (N := 57) hx hb hts iu10 hown hK hP 0 rfl rfl 23 (by decide) (hts _ tw_1068) (fun _ h9 => h9) rfl dX10_fillUp_8 ?_
      refine lv_iload_n (pc := 11) hx hb dX10_fillUp_11 rfl (lv_at hl 1 rfl) ?_
      refine lv_irem (pc := 12) hx hb dX10_fillUp_12 (q_ne0 (by omega) (by omega)) ?_
      refine q_top (y := nI (m1 % 8)) (pk_rem (by omega) (by omega) (by omega)) ?_
      refine lv_if_eq (pc := 13) (tgt := 24) hx hb dX10_fillUp_13 (by decide) (fun c_1 => ?_) (fun c_1 => ?_)
      · skip
        rw [q_eq0 (by omega)] at c_1
        have hend : c + mn % 8 = 8 := by omega
        have hq_2 : (m1 = (mn / 8 + 1) * 8) ∧ (qL g' m1 = qpad 8 (qL gm mn)) := by
          refine ⟨by omega, ?_⟩
          rw [hLL, qpad, qL_len, show 8 - 1 - mn % 8 = c - 1 by omega]
        exact hret (⟨(g'), (m1)⟩ : (Nat → BitVec 8) × Nat) _ _ _ _ dX10_fillUp_24 hq_2 (hP.sub [0, 1] rfl) (hD.sub [0, 1] (by decide) rfl) hS
      · skip
        rw [q_eq0 (by omega)] at c_1
        refine lv_aload_n (pc := 16) hx hb dX10_fillUp_16 rfl (lv_at hl 0 rfl) ?_
        refine lv_iconst (pc := 17) (v := nI 0) hx hb dX10_fillUp_17 (by decide +kernel) ?_
        refine cs_V (pc := 18) (idx := 87) (n := 1) (wr := []) (As := [.int (nI 0)]) (rest := []) (ci := 8) hx hb hml hown hts hGok hK hA hG hl.1 hP hD hS (ct_X10_add ll D ta hGok h0 a ar m1 tp osz lsz ns ct g' (nI 0) (by first | assumption | omega | rfl | decide) H.size) tw_1310 tw_1307 tw_1309 tw_37 tw_75 hdX10_add rfl ⟨rfl, rfl, Nat.le_of_ble_eq_true rfl, Nat.le_of_ble_eq_true rfl, Nat.le_of_ble_eq_true rfl, Nat.le_of_ble_eq_true rfl⟩ rfl rfl (q0 := 0) rfl [0, 1] [] rfl rfl (by decide) rfl (Nat.le_of_ble_eq_true rfl) dX10_fillUp_18 (fun u H locs hq hP hD hS => ?_)
        generalize u = gm1_18 at hq hP hD ⊢
        have hq : (qL gm1_18 (m1 + 1) = qL g' m1 ++ [qlo (nI 0)]) := hq
        have hL_18 := hq
        refine W.eq (g2 := F0 mm 21 ls []) rfl ?_
        have hP : va_P D vwCl [(h0, oM a ar (m1 + 1) tp osz lsz ns ct), (a 22, aS ta 700 gm1_18)] H := hP
        have hD : va_D A [(h0, oM a ar (m1 + 1) tp osz lsz ns ct), (a 22, aS ta 700 gm1_18)] := hD
        refine lv_goto (pc := 21) (tgt := 7) hx hb dX10_fillUp_21 (by decide) ?_
        exact ih7 (c + 1) (m1 + 1) gm1_18 (by omega) (by omega) (by rw [hL_18, hLL, qlo_nI, List.append_assoc, List.cons_append, show c + 1 - 1 = (c - 1) + 1 by omega, List.replicate_succ']) (by omega) _ _ (hP.sub [0, 1] rfl) (hD.sub [0, 1] (by decide) rfl) hS ls (lv_sub hl [0, 1] rfl)
  exact LP7 _ 1 (mn + 1) gm1_4 (by omega) (by omega) (by rw [hL_4, qlo_nI]; rfl) (Nat.lt_succ_self _) _ _ (hP.sub [0, 1] rfl) (hD.sub [0, 1] (by decide) rfl) hS ls (lv_sub hl [0, 1] rfl)
set_option maxHeartbeats 4000000 in
set_option maxRecDepth 100000 in
theorem ct_X10_fillUp16 (ll : Launch) (D : va_G) (ta : Nat → ClassId) {G : (Nat → Prop) → State → Heap → Prop} (hGok : GOK G) (h0 : Nat) (a : Nat → Nat) (ar : Nat) (mn : Nat) (tp : Nat) (osz : Nat) (lsz : Nat) (ns : Nat) (ct : Nat) (gm : Nat → BitVec 8) (hmn : (mn / 16 + 1) * 16 ≤ 700) (sz : Nat) : CT ll yX10_fillUp cX10_fillUp 2 none ({ frames := 1, cells := 0, slots := 0, locals := 21 } : Room) D ta G [.ref h0, .int (nI 16)] [(h0, oM a ar mn tp osz lsz ns ct), (a 22, aS ta 700 gm)] sz (S := (Nat → BitVec 8) × Nat) (fun _ => none) (fun u => (u.2 = (mn / 16 + 1) * 16) ∧ (qL u.1 u.2 = qpad 16 (qL gm mn))) (fun u => [(h0, oM a ar u.2 tp osz lsz ns ct), (a 22, aS ta 700 u.1)]) 0 0 := by
  refine CT.of_v rfl (by decide) (Nat.le_of_ble_eq_true rfl) ?_
  intro pp ee ss mm below meth kc A Q hx hb hml hown hin hts hK hA hsz hG hret H locs hP hD hS ls hl
  have hl : lv_has ls 2 [(0, .ref h0), (1, .int (nI 16))] := hl
  refine lv_aload_n (pc := 0) hx hb dX10_fillUp_0 rfl (lv_at hl 0 rfl) ?_
  refine lv_sipush (pc := 1) (v := nI 128) hx hb dX10_fillUp_1 (by decide +kernel) ?_
  refine cs_V (pc := 4) (idx := 87) (n := 1) (wr := []) (As := [.int (nI 128)]) (rest := []) (ci := 8) hx hb hml hown hts hGok hK hA hG hl.1 hP hD hS (ct_X10_add ll D ta hGok h0 a ar mn tp osz lsz ns ct gm (nI 128) (by first | assumption | omega | rfl | decide) H.size) tw_1310 tw_1307 tw_1309 tw_37 tw_75 hdX10_add rfl ⟨rfl, rfl, Nat.le_of_ble_eq_true rfl, Nat.le_of_ble_eq_true rfl, Nat.le_of_ble_eq_true rfl, Nat.le_of_ble_eq_true rfl⟩ rfl rfl (q0 := 0) rfl [0, 1] [] rfl rfl (by decide) rfl (Nat.le_of_ble_eq_true rfl) dX10_fillUp_4 (fun u H locs hq hP hD hS => ?_)
  generalize u = gm1_4 at hq hP hD ⊢
  have hq : (qL gm1_4 (mn + 1) = qL gm mn ++ [qlo (nI 128)]) := hq
  have hL_4 := hq
  refine W.eq (g2 := F0 mm 7 ls []) rfl ?_
  have hP : va_P D vwCl [(h0, oM a ar (mn + 1) tp osz lsz ns ct), (a 22, aS ta 700 gm1_4)] H := hP
  have hD : va_D A [(h0, oM a ar (mn + 1) tp osz lsz ns ct), (a 22, aS ta 700 gm1_4)] := hD
  have LP7 : ∀ (nn7 : Nat) (c : Nat) (m1 : Nat) (g' : Nat → BitVec 8), (1 ≤ c ∧ c + mn % 16 ≤ 16) → (m1 = mn + c) → (qL g' m1 = qL gm mn ++ 0x80#8 :: List.replicate (c - 1) 0#8) → (16 - c < nn7) → ∀ (H : Heap) (locs : List Loc), va_P D vwCl [(h0, oM a ar m1 tp osz lsz ns ct), (a 22, aS ta 700 g')] H → va_D A [(h0, oM a ar m1 tp osz lsz ns ct), (a 22, aS ta 700 g')] → va_S A ss.heap H locs → ∀ ls : Array Slot, lv_has ls 2 [(0, .ref h0), (1, .int (nI 16))] → W pp ll ee ({ frames := 1, cells := 0, slots := 0, locals := 21 } : Room) ss mm (([.ref h0, .int (nI 16)] : List Value).toArray) below meth kc H locs 0 0 Q (F0 mm 7 ls []) := by
    intro nn7
    induction nn7 with
    | zero => intro c m1 g' hcc hm hLL hmu; exact absurd hmu (Nat.not_lt_zero _)
    | succ nn7 ih7 =>
      intro c m1 g' hcc hm hLL hmu7 H locs hP hD hS ls hl
      refine lv_aload_n (pc := 7) hx hb dX10_fillUp_7 rfl (lv_at hl 0 rfl) ?_
      refine va_get (pc := 8) (D := D) (ci := 8) (v := .int (nI m1)) (C := RX10) (T := TX10) (N := 57) hx hb hts iu10 hown hK hP 0 rfl rfl 23 (by decide) (hts _ tw_1068) (fun _ h9 => h9) rfl dX10_fillUp_8 ?_
      refine lv_iload_n (pc := 11) hx hb dX10_fillUp_11 rfl (lv_at hl 1 rfl) ?_
      refine lv_irem (pc := 12) hx hb dX10_fillUp_12 (q_ne0 (by omega) (by omega)) ?_
      refine q_top (y := nI (m1 % 16)) (pk_rem (by omega) (by omega) (by omega)) ?_
      refine lv_if_eq (pc := 13) (tgt := 24) hx hb dX10_fillUp_13 (by decide) (fun c_1 => ?_) (fun c_1 => ?_)
      · skip
        rw [q_eq0 (by omega)] at c_1
        have hend : c + mn % 16 = 16 := by omega
        have hq_2 : (m1 = (mn / 16 + 1) * 16) ∧ (qL g' m1 = qpad 16 (qL gm mn)) := by
          refine ⟨by omega, ?_⟩
          rw [hLL, qpad, qL_len, show 16 - 1 - mn % 16 = c - 1 by omega]
        exact hret (⟨(g'), (m1)⟩ : (Nat → BitVec 8) × Nat) _ _ _ _ dX10_fillUp_24 hq_2 (hP.sub [0, 1] rfl) (hD.sub [0, 1] (by decide) rfl) hS
      · skip
        rw [q_eq0 (by omega)] at c_1
        refine lv_aload_n (pc := 16) hx hb dX10_fillUp_16 rfl (lv_at hl 0 rfl) ?_
        refine lv_iconst (pc := 17) (v := nI 0) hx hb dX10_fillUp_17 (by decide +kernel) ?_
        refine cs_V (pc := 18) (idx := 87) (n := 1) (wr := []) (As := [.int (nI 0)]) (rest := []) (ci := 8) hx hb hml hown hts hGok hK hA hG hl.1 hP hD hS (ct_X10_add ll D ta hGok h0 a ar m1 tp osz lsz ns ct g' (nI 0) (by first | assumption | omega | rfl | decide) H.size) tw_1310 tw_1307 tw_1309 tw_37 tw_75 hdX10_add rfl ⟨rfl, rfl, Nat.le_of_ble_eq_true rfl, Nat.le_of_ble_eq_true rfl, Nat.le_of_ble_eq_true rfl, Nat.le_of_ble_eq_true rfl⟩ rfl rfl (q0 := 0) rfl [0, 1] [] rfl rfl (by decide) rfl (Nat.le_of_ble_eq_true rfl) dX10_fillUp_18 (fun u H locs hq hP hD hS => ?_)
        generalize u = gm1_18 at hq hP hD ⊢
        have hq : (qL gm1_18 (m1 + 1) = qL g' m1 ++ [qlo (nI 0)]) := hq
        have hL_18 := hq
        refine W.eq (g2 := F0 mm 21 ls []) rfl ?_
        have hP : va_P D vwCl [(h0, oM a ar (m1 + 1) tp osz lsz ns ct), (a 22, aS ta 700 gm1_18)] H := hP
        have hD : va_D A [(h0, oM a ar (m1 + 1) tp osz lsz ns ct), (a 22, aS ta 700 gm1_18)] := hD
        refine lv_goto (pc := 21) (tgt := 7) hx hb dX10_fillUp_21 (by decide) ?_
        exact ih7 (c + 1) (m1 + 1) gm1_18 (by omega) (by omega) (by rw [hL_18, hLL, qlo_nI, List.append_assoc, List.cons_append, show c + 1 - 1 = (c - 1) + 1 by omega, List.replicate_succ']) (by omega) _ _ (hP.sub [0, 1] rfl) (hD.sub [0, 1] (by decide) rfl) hS ls (lv_sub hl [0, 1] rfl)
  exact LP7 _ 1 (mn + 1) gm1_4 (by omega) (by omega) (by rw [hL_4, qlo_nI]; rfl) (Nat.lt_succ_self _) _ _ (hP.sub [0, 1] rfl) (hD.sub [0, 1] (by decide) rfl) hS ls (lv_sub hl [0, 1] rfl)
theorem hdX10_addLength : yX10_addLength.cls ≠ "java/lang/invoke/MethodHandle" ∧ yX10_addLength.cls ≠ "java/lang/invoke/VarHandle" ∧ (parseMethodDescriptor yX10_addLength.desc).map (fun d => d.parameters.length) = some 1 := ⟨by decide +kernel, by decide +kernel, by decide +kernel⟩
theorem dX10_addLength_0 : decode cX10_addLength 0 = .ok (.aload_n 0, 1) := by decide +kernel
theorem dX10_addLength_1 : decode cX10_addLength 1 = .ok (.iload_n 1, 1) := by decide +kernel
theorem dX10_addLength_2 : decode cX10_addLength 2 = .ok (.sipush 255, 3) := by decide +kernel
theorem dX10_addLength_5 : decode cX10_addLength 5 = .ok (.iand, 1) := by decide +kernel
theorem dX10_addLength_6 : decode cX10_addLength 6 = .ok (.invokevirtual 87, 3) := by decide +kernel
theorem dX10_addLength_9 : decode cX10_addLength 9 = .ok (.return_, 1) := by decide +kernel
set_option maxHeartbeats 4000000 in
set_option maxRecDepth 100000 in
theorem ct_X10_addLength (ll : Launch) (D : va_G) (ta : Nat → ClassId) {G : (Nat → Prop) → State → Heap → Prop} (hGok : GOK G) (h0 : Nat) (a : Nat → Nat) (ar : Nat) (mn : Nat) (tp : Nat) (osz : Nat) (lsz : Nat) (ns : Nat) (ct : Nat) (gm : Nat → BitVec 8) (n : Nat) (hmn : mn < 700) (hn9 : n < 2147483648) (sz : Nat) : CT ll yX10_addLength cX10_addLength 2 none ({ frames := 1, cells := 0, slots := 0, locals := 21 } : Room) D ta G [.ref h0, .int (nI n)] [(h0, oM a ar mn tp osz lsz ns ct), (a 22, aS ta 700 gm)] sz (S := (Nat → BitVec 8)) (fun _ => none) (fun u => (qL u (mn + 1) = qL gm mn ++ [BitVec.ofNat 8 n])) (fun u => [(h0, oM a ar (mn + 1) tp osz lsz ns ct), (a 22, aS ta 700 u)]) 0 0 := by
  refine CT.of_v rfl (by decide) (Nat.le_of_ble_eq_true rfl) ?_
  intro pp ee ss mm below meth kc A Q hx hb hml hown hin hts hK hA hsz hG hret H locs hP hD hS ls hl
  have hl : lv_has ls 2 [(0, .ref h0), (1, .int (nI n))] := hl
  refine lv_aload_n (pc := 0) hx hb dX10_addLength_0 rfl (lv_at hl 0 rfl) ?_
  refine lv_iload_n (pc := 1) hx hb dX10_addLength_1 rfl (lv_at hl 1 rfl) ?_
  refine lv_sipush (pc := 2) (v := nI 255) hx hb dX10_addLength_2 (by decide +kernel) ?_
  refine lv_iand (pc := 5) hx hb dX10_addLength_5 ?_
  refine q_top (y := nI (n % 256)) (q_andN (k := 8) (p := 256) (by decide) (by omega)) ?_
  refine cs_V (pc := 6) (idx := 87) (n := 1) (wr := []) (As := [.int (nI (n % 256))]) (rest := []) (ci := 8) hx hb hml hown hts hGok hK hA hG hl.1 hP hD hS (ct_X10_add ll D ta hGok h0 a ar mn tp osz lsz ns ct gm (nI (n % 256)) (by first | assumption | omega | rfl | decide) H.size) tw_1310 tw_1307 tw_1309 tw_37 tw_75 hdX10_add rfl ⟨rfl, rfl, Nat.le_of_ble_eq_true rfl, Nat.le_of_ble_eq_true rfl, Nat.le_of_ble_eq_true rfl, Nat.le_of_ble_eq_true rfl⟩ rfl rfl (q0 := 0) rfl [0, 1] [] rfl rfl (by decide) rfl (Nat.le_of_ble_eq_true rfl) dX10_addLength_6 (fun u H locs hq hP hD hS => ?_)
  generalize u = gm1_6 at hq hP hD ⊢
  have hq : (qL gm1_6 (mn + 1) = qL gm mn ++ [qlo (nI (n % 256))]) := hq
  have hL_6 := hq
  refine W.eq (g2 := F0 mm 9 ls []) rfl ?_
  have hP : va_P D vwCl [(h0, oM a ar (mn + 1) tp osz lsz ns ct), (a 22, aS ta 700 gm1_6)] H := hP
  have hD : va_D A [(h0, oM a ar (mn + 1) tp osz lsz ns ct), (a 22, aS ta 700 gm1_6)] := hD
  have hq_1 : (qL gm1_6 (mn + 1) = qL gm mn ++ [BitVec.ofNat 8 n]) := by
    rw [hL_6, qlo_nI, ofNat8_mod]
  exact hret (gm1_6) _ _ _ _ dX10_addLength_9 hq_1 (hP.sub [0, 1] rfl) (hD.sub [0, 1] (by decide) rfl) hS
theorem hdX10_mac3 : yX10_mac3.cls ≠ "java/lang/invoke/MethodHandle" ∧ yX10_mac3.cls ≠ "java/lang/invoke/VarHandle" ∧ (parseMethodDescriptor yX10_mac3.desc).map (fun d => d.parameters.length) = some 2 := ⟨by decide +kernel, by decide +kernel, by decide +kernel⟩
theorem dX10_mac3_0 : decode cX10_mac3 0 = .ok (.aload_n 0, 1) := by decide +kernel
theorem dX10_mac3_1 : decode cX10_mac3 1 = .ok (.bipush 8, 2) := by decide +kernel
theorem dX10_mac3_3 : decode cX10_mac3 3 = .ok (.invokevirtual 91, 3) := by decide +kernel
theorem dX10_mac3_6 : decode cX10_mac3 6 = .ok (.iconst 0, 1) := by decide +kernel
theorem dX10_mac3_7 : decode cX10_mac3 7 = .ok (.istore_n 3, 1) := by decide +kernel
theorem dX10_mac3_8 : decode cX10_mac3 8 = .ok (.iload_n 3, 1) := by decide +kernel
theorem dX10_mac3_9 : decode cX10_mac3 9 = .ok (.bipush 8, 2) := by decide +kernel
theorem dX10_mac3_11 : decode cX10_mac3 11 = .ok (.if_icmp .ge 16, 3) := by decide +kernel
theorem dX10_mac3_14 : decode cX10_mac3 14 = .ok (.aload_n 0, 1) := by decide +kernel
theorem dX10_mac3_15 : decode cX10_mac3 15 = .ok (.getfield 94, 3) := by decide +kernel
theorem dX10_mac3_18 : decode cX10_mac3 18 = .ok (.iload_n 3, 1) := by decide +kernel
theorem dX10_mac3_19 : decode cX10_mac3 19 = .ok (.iconst 0, 1) := by decide +kernel
theorem dX10_mac3_20 : decode cX10_mac3 20 = .ok (.bastore, 1) := by decide +kernel
theorem dX10_mac3_21 : decode cX10_mac3 21 = .ok (.iinc 3 1, 3) := by decide +kernel
theorem dX10_mac3_24 : decode cX10_mac3 24 = .ok (.goto (-16), 3) := by decide +kernel
theorem dX10_mac3_27 : decode cX10_mac3 27 = .ok (.iconst 0, 1) := by decide +kernel
theorem dX10_mac3_28 : decode cX10_mac3 28 = .ok (.istore_n 3, 1) := by decide +kernel
theorem dX10_mac3_29 : decode cX10_mac3 29 = .ok (.iload_n 3, 1) := by decide +kernel
theorem dX10_mac3_30 : decode cX10_mac3 30 = .ok (.aload_n 0, 1) := by decide +kernel
theorem dX10_mac3_31 : decode cX10_mac3 31 = .ok (.getfield 81, 3) := by decide +kernel
theorem dX10_mac3_34 : decode cX10_mac3 34 = .ok (.if_icmp .ge 57, 3) := by decide +kernel
theorem dX10_mac3_37 : decode cX10_mac3 37 = .ok (.iconst 0, 1) := by decide +kernel
theorem dX10_mac3_38 : decode cX10_mac3 38 = .ok (.istore 4, 2) := by decide +kernel
theorem dX10_mac3_40 : decode cX10_mac3 40 = .ok (.iload 4, 2) := by decide +kernel
theorem dX10_mac3_42 : decode cX10_mac3 42 = .ok (.bipush 8, 2) := by decide +kernel
theorem dX10_mac3_44 : decode cX10_mac3 44 = .ok (.if_icmp .ge 29, 3) := by decide +kernel
theorem dX10_mac3_47 : decode cX10_mac3 47 = .ok (.aload_n 0, 1) := by decide +kernel
theorem dX10_mac3_48 : decode cX10_mac3 48 = .ok (.getfield 94, 3) := by decide +kernel
theorem dX10_mac3_51 : decode cX10_mac3 51 = .ok (.iload 4, 2) := by decide +kernel
theorem dX10_mac3_53 : decode cX10_mac3 53 = .ok (.dup2, 1) := by decide +kernel
theorem dX10_mac3_54 : decode cX10_mac3 54 = .ok (.baload, 1) := by decide +kernel
theorem dX10_mac3_55 : decode cX10_mac3 55 = .ok (.aload_n 0, 1) := by decide +kernel
theorem dX10_mac3_56 : decode cX10_mac3 56 = .ok (.getfield 84, 3) := by decide +kernel
theorem dX10_mac3_59 : decode cX10_mac3 59 = .ok (.iload_n 3, 1) := by decide +kernel
theorem dX10_mac3_60 : decode cX10_mac3 60 = .ok (.iload 4, 2) := by decide +kernel
theorem dX10_mac3_62 : decode cX10_mac3 62 = .ok (.iadd, 1) := by decide +kernel
theorem dX10_mac3_63 : decode cX10_mac3 63 = .ok (.baload, 1) := by decide +kernel
theorem dX10_mac3_64 : decode cX10_mac3 64 = .ok (.ixor, 1) := by decide +kernel
theorem dX10_mac3_65 : decode cX10_mac3 65 = .ok (.i2b, 1) := by decide +kernel
theorem dX10_mac3_66 : decode cX10_mac3 66 = .ok (.bastore, 1) := by decide +kernel
theorem dX10_mac3_67 : decode cX10_mac3 67 = .ok (.iinc 4 1, 3) := by decide +kernel
theorem dX10_mac3_70 : decode cX10_mac3 70 = .ok (.goto (-30), 3) := by decide +kernel
theorem dX10_mac3_73 : decode cX10_mac3 73 = .ok (.aload_n 0, 1) := by decide +kernel
theorem dX10_mac3_74 : decode cX10_mac3 74 = .ok (.aload_n 0, 1) := by decide +kernel
theorem dX10_mac3_75 : decode cX10_mac3 75 = .ok (.getfield 94, 3) := by decide +kernel
theorem dX10_mac3_78 : decode cX10_mac3 78 = .ok (.iconst 0, 1) := by decide +kernel
theorem dX10_mac3_79 : decode cX10_mac3 79 = .ok (.aload_n 1, 1) := by decide +kernel
theorem dX10_mac3_80 : decode cX10_mac3 80 = .ok (.iload_n 2, 1) := by decide +kernel
theorem dX10_mac3_81 : decode cX10_mac3 81 = .ok (.iconst 0, 1) := by decide +kernel
theorem dX10_mac3_82 : decode cX10_mac3 82 = .ok (.invokevirtual 97, 3) := by decide +kernel
theorem dX10_mac3_85 : decode cX10_mac3 85 = .ok (.iinc 3 8, 3) := by decide +kernel
theorem dX10_mac3_88 : decode cX10_mac3 88 = .ok (.goto (-59), 3) := by decide +kernel
theorem dX10_mac3_91 : decode cX10_mac3 91 = .ok (.return_, 1) := by decide +kernel
set_option maxHeartbeats 4000000 in
set_option maxRecDepth 100000 in
theorem ct_X10_mac3 (ll : Launch) (D : va_G) (ta : Nat → ClassId) {G : (Nat → Prop) → State → Heap → Prop} (hGok : GOK G) (h0 : Nat) (a : Nat → Nat) (ar : Nat) (mn : Nat) (tp : Nat) (osz : Nat) (lsz : Nat) (ns : Nat) (ct : Nat) (gm : Nat → BitVec 8) (mac : Nat → BitVec 8) (hk : Nat) (fr : Nat) (capk : Nat) (gk : Nat → BitVec 8) (bi : Nat → Bool) (tu : Nat → Bool) (cd : Nat → Bool) (sk : Nat → Bool) (hf : Nat → Bool) (wd : Nat → Bool) (hmn : (mn / 8 + 1) * 8 ≤ 700) (hf16 : fr + 16 ≤ capk) (hck : capk < 2147483648) (sz : Nat) : CT ll yX10_mac3 cX10_mac3 5 none ({ frames := 3, cells := 0, slots := 0, locals := 85 } : Room) D ta G [.ref h0, .ref hk, .int (nI fr)] [(h0, oM a ar mn tp osz lsz ns ct), (a 22, aS ta 700 gm), (a 24, aS ta 16 mac), (a 0, aK ta 64 tIP), (a 1, aK ta 48 tSPR), (a 2, aK ta 32 tMIX), (a 3, aK ta 56 tCH), (a 4, aK ta 48 tSEC), (a 5, aK ta 512 tSBX), (a 10, aB ta 64 bi), (a 11, aB ta 64 tu), (a 12, aB ta 56 cd), (a 13, aB ta 768 sk), (a 14, aB ta 32 hf), (a 15, aB ta 48 wd), (hk, aS ta capk gk)] sz (S := (Nat → BitVec 8) × Nat × (Nat → BitVec 8) × (Nat → Bool) × (Nat → Bool) × (Nat → Bool) × (Nat → Bool) × (Nat → Bool) × (Nat → Bool)) (fun _ => none) (fun u => (seg u.2.2.1 0 8 = mac3L (seg gk fr 16) (qL gm mn))) (fun u => [(h0, oM a ar u.2.1 tp osz lsz ns ct), (a 22, aS ta 700 u.1), (a 24, aS ta 16 u.2.2.1), (a 0, aK ta 64 tIP), (a 1, aK ta 48 tSPR), (a 2, aK ta 32 tMIX), (a 3, aK ta 56 tCH), (a 4, aK ta 48 tSEC), (a 5, aK ta 512 tSBX), (a 10, aB ta 64 u.2.2.2.1), (a 11, aB ta 64 u.2.2.2.2.1), (a 12, aB ta 56 u.2.2.2.2.2.1), (a 13, aB ta 768 u.2.2.2.2.2.2.1), (a 14, aB ta 32 u.2.2.2.2.2.2.2.1), (a 15, aB ta 48 u.2.2.2.2.2.2.2.2), (hk, aS ta capk gk)]) 0 0 := by
  refine CT.of_v rfl (by decide) (Nat.le_of_ble_eq_true rfl) ?_
  intro pp ee ss mm below meth kc A Q hx hb hml hown hin hts hK hA hsz hG hret H locs hP hD hS ls hl
  have hl : lv_has ls 5 [(0, .ref h0), (1, .ref hk), (2, .int (nI fr))] := hl
  refine lv_aload_n (pc := 0) hx hb dX10_mac3_0 rfl (lv_at hl 0 rfl) ?_
  refine lv_bipush (pc := 1) (v := nI 8) hx hb dX10_mac3_1 (by decide +kernel) ?_
  refine cs_V (pc := 3) (idx := 91) (n := 1) (wr := [(a 24, aS ta 16 mac), (a 0, aK ta 64 tIP), (a 1, aK ta 48 tSPR), (a 2, aK ta 32 tMIX), (a 3, aK ta 56 tCH), (a 4, aK ta 48 tSEC), (a 5, aK ta 512 tSBX), (a 10, aB ta 64 bi), (a 11, aB ta 64 tu), (a 12, aB ta 56 cd), (a 13, aB ta 768 sk), (a 14, aB ta 32 hf), (a 15, aB ta 48 wd), (hk, aS ta capk gk)]) (As := [.int (nI 8)]) (rest := []) (ci := 8) hx hb hml hown hts hGok hK hA hG hl.1 hP hD hS (ct_X10_fillUp8 ll D ta hGok h0 a ar mn tp osz lsz ns ct gm (by first | assumption | omega | rfl | decide) H.size) tw_1318 tw_1315 tw_1317 tw_39 tw_75 hdX10_fillUp rfl ⟨rfl, rfl, Nat.le_of_ble_eq_true rfl, Nat.le_of_ble_eq_true rfl, Nat.le_of_ble_eq_true rfl, Nat.le_of_ble_eq_true rfl⟩ rfl rfl (q0 := 0) rfl [0, 1] [2, 3, 4, 5, 6, 7, 8, 9, 10, 11, 12, 13, 14, 15] rfl rfl (by decide) rfl (Nat.le_of_ble_eq_true rfl) dX10_mac3_3 (fun u H locs hq hP hD hS => ?_)
  obtain ⟨gm1_3, mn1_3⟩ := u
  have hq : (mn1_3 = (mn / 8 + 1) * 8) ∧ (qL gm1_3 mn1_3 = qpad 8 (qL gm mn)) := hq
  obtain ⟨hm_3, hL_3⟩ := hq
  refine W.eq (g2 := F0 mm 6 ls []) rfl ?_
  have hP : va_P D vwCl [(a 24, aS ta 16 mac), (a 0, aK ta 64 tIP), (a 1, aK ta 48 tSPR), (a 2, aK ta 32 tMIX), (a 3, aK ta 56 tCH), (a 4, aK ta 48 tSEC), (a 5, aK ta 512 tSBX), (a 10, aB ta 64 bi), (a 11, aB ta 64 tu), (a 12, aB ta 56 cd), (a 13, aB ta 768 sk), (a 14, aB ta 32 hf), (a 15, aB ta 48 wd), (hk, aS ta capk gk), (h0, oM a ar mn1_3 tp osz lsz ns ct), (a 22, aS ta 700 gm1_3)] H := hP
  have hD : va_D A [(a 24, aS ta 16 mac), (a 0, aK ta 64 tIP), (a 1, aK ta 48 tSPR), (a 2, aK ta 32 tMIX), (a 3, aK ta 56 tCH), (a 4, aK ta 48 tSEC), (a 5, aK ta 512 tSBX), (a 10, aB ta 64 bi), (a 11, aB ta 64 tu), (a 12, aB ta 56 cd), (a 13, aB ta 768 sk), (a 14, aB ta 32 hf), (a 15, aB ta 48 wd), (hk, aS ta capk gk), (h0, oM a ar mn1_3 tp osz lsz ns ct), (a 22, aS ta 700 gm1_3)] := hD
  refine lv_iconst (pc := 6) (v := nI 0) hx hb dX10_mac3_6 (by decide +kernel) ?_
  refine lv_istore_n (pc := 7) (lv' := [(3, .int (nI 0)), (0, .ref h0), (1, .ref hk), (2, .int (nI fr))]) hx hb dX10_mac3_7 rfl hl (by decide) rfl (fun ls hl => ?_)
  have LP8 : ∀ (nn8 : Nat) (k : Nat) (z' : Nat → BitVec 8), (k ≤ 8) → (qSeg z' mac 0 k (fun _ => 0#8)) → (8 - k < nn8) → ∀ (H : Heap) (locs : List Loc), va_P D vwCl [(a 24, aS ta 16 z'), (a 0, aK ta 64 tIP), (a 1, aK ta 48 tSPR), (a 2, aK ta 32 tMIX), (a 3, aK ta 56 tCH), (a 4, aK ta 48 tSEC), (a 5, aK ta 512 tSBX), (a 10, aB ta 64 bi), (a 11, aB ta 64 tu), (a 12, aB ta 56 cd), (a 13, aB ta 768 sk), (a 14, aB ta 32 hf), (a 15, aB ta 48 wd), (hk, aS ta capk gk), (h0, oM a ar mn1_3 tp osz lsz ns ct), (a 22, aS ta 700 gm1_3)] H → va_D A [(a 24, aS ta 16 z'), (a 0, aK ta 64 tIP), (a 1, aK ta 48 tSPR), (a 2, aK ta 32 tMIX), (a 3, aK ta 56 tCH), (a 4, aK ta 48 tSEC), (a 5, aK ta 512 tSBX), (a 10, aB ta 64 bi), (a 11, aB ta 64 tu), (a 12, aB ta 56 cd), (a 13, aB ta 768 sk), (a 14, aB ta 32 hf), (a 15, aB ta 48 wd), (hk, aS ta capk gk), (h0, oM a ar mn1_3 tp osz lsz ns ct), (a 22, aS ta 700 gm1_3)] → va_S A ss.heap H locs → ∀ ls : Array Slot, lv_has ls 5 [(3, .int (nI k)), (0, .ref h0), (1, .ref hk), (2, .int (nI fr))] → W pp ll ee ({ frames := 3, cells := 0, slots := 0, locals := 85 } : Room) ss mm (([.ref h0, .ref hk, .int (nI fr)] : List Value).toArray) below meth kc H locs 0 0 Q (F0 mm 8 ls []) := by
    intro nn8
    induction nn8 with
    | zero => intro k z' hkk hz hmu; exact absurd hmu (Nat.not_lt_zero _)
    | succ nn8 ih8 =>
      intro k z' hkk hz hmu8 H locs hP hD hS ls hl
      refine lv_iload_n (pc := 8) hx hb dX10_mac3_8 rfl (lv_at hl 0 rfl) ?_
      refine lv_bipush (pc := 9) (v := nI 8) hx hb dX10_mac3_9 (by decide +kernel) ?_
      refine lv_icmp_ge (pc := 11) (tgt := 27) hx hb dX10_mac3_11 (by decide) (fun c_1 => ?_) (fun c_1 => ?_)
      · skip
        rw [nI_leI (by omega) (by omega)] at c_1
        refine lv_iconst (pc := 27) (v := nI 0) hx hb dX10_mac3_27 (by decide +kernel) ?_
        refine lv_istore_n (pc := 28) (lv' := [(3, .int (nI 0)), (0, .ref h0), (1, .ref hk), (2, .int (nI fr))]) hx hb dX10_mac3_28 rfl hl (by decide) rfl (fun ls hl => ?_)
        have LP29 : ∀ (nn29 : Nat) (i : Nat) (c' : Nat → BitVec 8) (xb : Nat → Bool) (xt : Nat → Bool) (xc : Nat → Bool) (xs : Nat → Bool) (xh : Nat → Bool) (xw : Nat → Bool), (i ≤ mn / 8 + 1) → (qL c' 8 = cbcM (tdesL (seg gk fr 16) false) 8 (zeroL 8) (qpad 8 (qL gm mn)) i) → (mn / 8 + 1 - i < nn29) → ∀ (H : Heap) (locs : List Loc), va_P D vwCl [(a 24, aS ta 16 c'), (a 0, aK ta 64 tIP), (a 1, aK ta 48 tSPR), (a 2, aK ta 32 tMIX), (a 3, aK ta 56 tCH), (a 4, aK ta 48 tSEC), (a 5, aK ta 512 tSBX), (a 10, aB ta 64 xb), (a 11, aB ta 64 xt), (a 12, aB ta 56 xc), (a 13, aB ta 768 xs), (a 14, aB ta 32 xh), (a 15, aB ta 48 xw), (hk, aS ta capk gk), (h0, oM a ar mn1_3 tp osz lsz ns ct), (a 22, aS ta 700 gm1_3)] H → va_D A [(a 24, aS ta 16 c'), (a 0, aK ta 64 tIP), (a 1, aK ta 48 tSPR), (a 2, aK ta 32 tMIX), (a 3, aK ta 56 tCH), (a 4, aK ta 48 tSEC), (a 5, aK ta 512 tSBX), (a 10, aB ta 64 xb), (a 11, aB ta 64 xt), (a 12, aB ta 56 xc), (a 13, aB ta 768 xs), (a 14, aB ta 32 xh), (a 15, aB ta 48 xw), (hk, aS ta capk gk), (h0, oM a ar mn1_3 tp osz lsz ns ct), (a 22, aS ta 700 gm1_3)] → va_S A ss.heap H locs → ∀ ls : Array Slot, lv_has ls 5 [(3, .int (nI (8 * i))), (0, .ref h0), (1, .ref hk), (2, .int (nI fr))] → W pp ll ee ({ frames := 3, cells := 0, slots := 0, locals := 85 } : Room) ss mm (([.ref h0, .ref hk, .int (nI fr)] : List Value).toArray) below meth kc H locs 0 0 Q (F0 mm 29 ls []) := by
          intro nn29
          induction nn29 with
          | zero => intro i c' xb xt xc xs xh xw hii hc hmu; exact absurd hmu (Nat.not_lt_zero _)
          | succ nn29 ih29 =>
            intro i c' xb xt xc xs xh xw hii hc hmu29 H locs hP hD hS ls hl
            refine lv_iload_n (pc := 29) hx hb dX10_mac3_29 rfl (lv_at hl 0 rfl) ?_
            refine lv_aload_n (pc := 30) hx hb dX10_mac3_30 rfl (lv_at hl 1 rfl) ?_
            refine va_get (pc := 31) (D := D) (ci := 8) (v := .int (nI mn1_3)) (C := RX10) (T := TX10) (N := 57) hx hb hts iu10 hown hK hP 14 rfl rfl 23 (by decide) (hts _ tw_1068) (fun _ h9 => h9) rfl dX10_mac3_31 ?_
            refine lv_icmp_ge (pc := 34) (tgt := 91) hx hb dX10_mac3_34 (by decide) (fun c_2 => ?_) (fun c_2 => ?_)
            · skip
              rw [nI_leI (by omega) (by omega)] at c_2
              have ei : i = mn / 8 + 1 := by omega
              have hq_3 : (seg c' 0 8 = mac3L (seg gk fr 16) (qL gm mn)) := by
                rw [seg_0, hc, ei, mac3L, qL_len]
              exact hret (⟨(gm1_3), (mn1_3), (c'), (xb), (xt), (xc), (xs), (xh), (xw)⟩ : (Nat → BitVec 8) × Nat × (Nat → BitVec 8) × (Nat → Bool) × (Nat → Bool) × (Nat → Bool) × (Nat → Bool) × (Nat → Bool) × (Nat → Bool)) _ _ _ _ dX10_mac3_91 hq_3 (hP.sub [14, 15, 0, 1, 2, 3, 4, 5, 6, 7, 8, 9, 10, 11, 12, 13] rfl) (hD.sub [14, 15, 0, 1, 2, 3, 4, 5, 6, 7, 8, 9, 10, 11, 12, 13] (by decide) rfl) hS
            · skip
              rw [nI_leI (by omega) (by omega)] at c_2
              refine lv_iconst (pc := 37) (v := nI 0) hx hb dX10_mac3_37 (by decide +kernel) ?_
              refine lv_istore (pc := 38) (lv' := [(4, .int (nI 0)), (3, .int (nI (8 * i))), (0, .ref h0), (1, .ref hk), (2, .int (nI fr))]) hx hb dX10_mac3_38 hl (by decide) rfl (fun ls hl => ?_)
              have LP40 : ∀ (nn40 : Nat) (d : Nat) (d' : Nat → BitVec 8), (d ≤ 8) → (qSeg d' c' 0 d (fun j => c' j ^^^ gm1_3 (8 * i + j))) → (8 - d < nn40) → ∀ (H : Heap) (locs : List Loc), va_P D vwCl [(a 24, aS ta 16 d'), (a 0, aK ta 64 tIP), (a 1, aK ta 48 tSPR), (a 2, aK ta 32 tMIX), (a 3, aK ta 56 tCH), (a 4, aK ta 48 tSEC), (a 5, aK ta 512 tSBX), (a 10, aB ta 64 xb), (a 11, aB ta 64 xt), (a 12, aB ta 56 xc), (a 13, aB ta 768 xs), (a 14, aB ta 32 xh), (a 15, aB ta 48 xw), (hk, aS ta capk gk), (h0, oM a ar mn1_3 tp osz lsz ns ct), (a 22, aS ta 700 gm1_3)] H → va_D A [(a 24, aS ta 16 d'), (a 0, aK ta 64 tIP), (a 1, aK ta 48 tSPR), (a 2, aK ta 32 tMIX), (a 3, aK ta 56 tCH), (a 4, aK ta 48 tSEC), (a 5, aK ta 512 tSBX), (a 10, aB ta 64 xb), (a 11, aB ta 64 xt), (a 12, aB ta 56 xc), (a 13, aB ta 768 xs), (a 14, aB ta 32 xh), (a 15, aB ta 48 xw), (hk, aS ta capk gk), (h0, oM a ar mn1_3 tp osz lsz ns ct), (a 22, aS ta 700 gm1_3)] → va_S A ss.heap H locs → ∀ ls : Array Slot, lv_has ls 5 [(4, .int (nI d)), (3, .int (nI (8 * i))), (0, .ref h0), (1, .ref hk), (2, .int (nI fr))] → W pp ll ee ({ frames := 3, cells := 0, slots := 0, locals := 85 } : Room) ss mm (([.ref h0, .ref hk, .int (nI fr)] : List Value).toArray) below meth kc H locs 0 0 Q (F0 mm 40 ls []) := by
                intro nn40
                induction nn40 with
                | zero => intro d d' hdd hd hmu; exact absurd hmu (Nat.not_lt_zero _)
                | succ nn40 ih40 =>
                  intro d d' hdd hd hmu40 H locs hP hD hS ls hl
                  refine lv_iload (pc := 40) hx hb dX10_mac3_40 (lv_at hl 0 rfl) ?_
                  refine lv_bipush (pc := 42) (v := nI 8) hx hb dX10_mac3_42 (by decide +kernel) ?_
                  refine lv_icmp_ge (pc := 44) (tgt := 73) hx hb dX10_mac3_44 (by decide) (fun c_4 => ?_) (fun c_4 => ?_)
                  · skip
                    rw [nI_leI (by omega) (by omega)] at c_4
                    refine lv_aload_n (pc := 73) hx hb dX10_mac3_73 rfl (lv_at hl 2 rfl) ?_
                    refine lv_aload_n (pc := 74) hx hb dX10_mac3_74 rfl (lv_at hl 2 rfl) ?_
                    refine va_get (pc := 75) (D := D) (ci := 8) (v := .ref (a 24)) (C := RX10) (T := TX10) (N := 57) hx hb hts iu10 hown hK hP 14 rfl rfl 24 (by decide) (hts _ tw_1069) (fun _ h9 => h9) rfl dX10_mac3_75 ?_
                    refine lv_iconst (pc := 78) (v := nI 0) hx hb dX10_mac3_78 (by decide +kernel) ?_
                    refine lv_aload_n (pc := 79) hx hb dX10_mac3_79 rfl (lv_at hl 3 rfl) ?_
                    refine lv_iload_n (pc := 80) hx hb dX10_mac3_80 rfl (lv_at hl 4 rfl) ?_
                    refine lv_iconst (pc := 81) (v := nI 0) hx hb dX10_mac3_81 (by decide +kernel) ?_
                    refine cs_V (pc := 82) (idx := 97) (n := 5) (wr := [(a 22, aS ta 700 gm1_3)]) (As := [.ref (a 24), .int (nI 0), .ref hk, .int (nI fr), .int (nI 0)]) (rest := []) (ci := 8) hx hb hml hown hts hGok hK hA hG hl.1 hP hD hS (ct_X10_des3_L ll D ta hGok h0 a ar mn1_3 tp osz lsz ns ct (a 24) 0 16 d' hk fr capk gk xb xt xc xs xh xw false (by first | assumption | omega | rfl | decide) (by first | assumption | omega | rfl | decide) (by first | assumption | omega | rfl | decide) (by first | assumption | omega | rfl | decide) H.size) tw_1290 tw_1287 tw_1289 tw_32 tw_75 hdX10_des3 rfl ⟨rfl, rfl, Nat.le_of_ble_eq_true rfl, Nat.le_of_ble_eq_true rfl, Nat.le_of_ble_eq_true rfl, Nat.le_of_ble_eq_true rfl⟩ rfl rfl (q0 := 14) rfl [14, 1, 2, 3, 4, 5, 6, 7, 8, 9, 10, 11, 12, 0, 13] [15] rfl rfl (by decide) rfl (Nat.le_of_ble_eq_true rfl) dX10_mac3_82 (fun u H locs hq hP hD hS => ?_)
                    obtain ⟨gb1_82, bi1_82, tu1_82, cd1_82, sk1_82, hf1_82, wd1_82⟩ := u
                    have hq : (seg gb1_82 0 8 = tdesL (seg gk fr 16) false (seg d' 0 8)) ∧ (∀ j, (j < 0 ∨ 0 + 8 ≤ j) → gb1_82 j = d' j) := hq
                    obtain ⟨hs_82, hfr_82⟩ := hq
                    refine W.eq (g2 := F0 mm 85 ls []) rfl ?_
                    have hP : va_P D vwCl [(a 22, aS ta 700 gm1_3), (h0, oM a ar mn1_3 tp osz lsz ns ct), (a 0, aK ta 64 tIP), (a 1, aK ta 48 tSPR), (a 2, aK ta 32 tMIX), (a 3, aK ta 56 tCH), (a 4, aK ta 48 tSEC), (a 5, aK ta 512 tSBX), (a 10, aB ta 64 bi1_82), (a 11, aB ta 64 tu1_82), (a 12, aB ta 56 cd1_82), (a 13, aB ta 768 sk1_82), (a 14, aB ta 32 hf1_82), (a 15, aB ta 48 wd1_82), (a 24, aS ta 16 gb1_82), (hk, aS ta capk gk)] H := hP
                    have hD : va_D A [(a 22, aS ta 700 gm1_3), (h0, oM a ar mn1_3 tp osz lsz ns ct), (a 0, aK ta 64 tIP), (a 1, aK ta 48 tSPR), (a 2, aK ta 32 tMIX), (a 3, aK ta 56 tCH), (a 4, aK ta 48 tSEC), (a 5, aK ta 512 tSBX), (a 10, aB ta 64 bi1_82), (a 11, aB ta 64 tu1_82), (a 12, aB ta 56 cd1_82), (a 13, aB ta 768 sk1_82), (a 14, aB ta 32 hf1_82), (a 15, aB ta 48 wd1_82), (a 24, aS ta 16 gb1_82), (hk, aS ta capk gk)] := hD
                    refine lv_iinc (pc := 85) (v := nI (8 * i + 8)) (lv' := [(3, .int (nI (8 * i + 8))), (4, .int (nI d)), (0, .ref h0), (1, .ref hk), (2, .int (nI fr))]) hx hb dX10_mac3_85 hl (k := 1) rfl (by first | exact nI_add (8 * i) 8 | rfl) (by decide) rfl (fun ls hl => ?_)
                    refine lv_goto (pc := 88) (tgt := 29) hx hb dX10_mac3_88 (by decide) ?_
                    exact ih29 (i + 1) gb1_82 bi1_82 tu1_82 cd1_82 sk1_82 hf1_82 wd1_82 (by omega) (by rw [← seg_0, hs_82]; exact cbcM_next trivial hc hL_3 (qSeg_segk hd (by omega)) (by omega)) (by omega) _ _ (hP.sub [14, 2, 3, 4, 5, 6, 7, 8, 9, 10, 11, 12, 13, 15, 1, 0] rfl) (hD.sub [14, 2, 3, 4, 5, 6, 7, 8, 9, 10, 11, 12, 13, 15, 1, 0] (by decide) rfl) hS ls (lv_sub hl [0, 2, 3, 4] rfl)
                  · skip
                    rw [nI_leI (by omega) (by omega)] at c_4
                    refine lv_aload_n (pc := 47) hx hb dX10_mac3_47 rfl (lv_at hl 2 rfl) ?_
                    refine va_get (pc := 48) (D := D) (ci := 8) (v := .ref (a 24)) (C := RX10) (T := TX10) (N := 57) hx hb hts iu10 hown hK hP 14 rfl rfl 24 (by decide) (hts _ tw_1069) (fun _ h9 => h9) rfl dX10_mac3_48 ?_
                    refine lv_iload (pc := 51) hx hb dX10_mac3_51 (lv_at hl 0 rfl) ?_
                    refine lv_dup2_11 (pc := 53) hx hb dX10_mac3_53 rfl rfl ?_
                    refine q_bald (pc := 54) hx hb hK hP 0 2 rfl rfl (k := d) (v := qs (d' d)) rfl (by omega) (by omega) rfl dX10_mac3_54 ?_
                    refine lv_aload_n (pc := 55) hx hb dX10_mac3_55 rfl (lv_at hl 2 rfl) ?_
                    refine va_get (pc := 56) (D := D) (ci := 8) (v := .ref (a 22)) (C := RX10) (T := TX10) (N := 57) hx hb hts iu10 hown hK hP 14 rfl rfl 22 (by decide) (hts _ tw_1067) (fun _ h9 => h9) rfl dX10_mac3_56 ?_
                    refine lv_iload_n (pc := 59) hx hb dX10_mac3_59 rfl (lv_at hl 1 rfl) ?_
                    refine lv_iload (pc := 60) hx hb dX10_mac3_60 (lv_at hl 0 rfl) ?_
                    refine lv_iadd (pc := 62) hx hb dX10_mac3_62 ?_
                    refine q_top (y := nI (8 * i + d)) (nI_add (8 * i) d) ?_
                    refine q_bald (pc := 63) hx hb hK hP 15 2 rfl rfl (k := 8 * i + d) (v := qs (gm1_3 (8 * i + d))) rfl (by omega) (by omega) rfl dX10_mac3_63 ?_
                    refine lv_ixor (pc := 64) hx hb dX10_mac3_64 ?_
                    refine q_top (y := qs ((d' d) ^^^ (gm1_3 (8 * i + d)))) (q_xor_s _ _) ?_
                    refine lv_i2b (pc := 65) (v := qs ((d' d) ^^^ (gm1_3 (8 * i + d)))) hx hb dX10_mac3_65 (q_i2b_s _) ?_
                    refine q_bastS (pc := 66) hx hb hK hP hD hS 0 2 rfl rfl (k := d) rfl (by omega) (by omega) (b := (d' d) ^^^ (gm1_3 (8 * i + d))) (qlo_qs _) dX10_mac3_66 (fun H locs hP hD hS => ?_)
                    have hP : va_P D vwCl [(a 24, aS ta 16 (qU d' d ((d' d) ^^^ (gm1_3 (8 * i + d))))), (a 0, aK ta 64 tIP), (a 1, aK ta 48 tSPR), (a 2, aK ta 32 tMIX), (a 3, aK ta 56 tCH), (a 4, aK ta 48 tSEC), (a 5, aK ta 512 tSBX), (a 10, aB ta 64 xb), (a 11, aB ta 64 xt), (a 12, aB ta 56 xc), (a 13, aB ta 768 xs), (a 14, aB ta 32 xh), (a 15, aB ta 48 xw), (hk, aS ta capk gk), (h0, oM a ar mn1_3 tp osz lsz ns ct), (a 22, aS ta 700 gm1_3)] H := hP
                    have hD : va_D A [(a 24, aS ta 16 (qU d' d ((d' d) ^^^ (gm1_3 (8 * i + d))))), (a 0, aK ta 64 tIP), (a 1, aK ta 48 tSPR), (a 2, aK ta 32 tMIX), (a 3, aK ta 56 tCH), (a 4, aK ta 48 tSEC), (a 5, aK ta 512 tSBX), (a 10, aB ta 64 xb), (a 11, aB ta 64 xt), (a 12, aB ta 56 xc), (a 13, aB ta 768 xs), (a 14, aB ta 32 xh), (a 15, aB ta 48 xw), (hk, aS ta capk gk), (h0, oM a ar mn1_3 tp osz lsz ns ct), (a 22, aS ta 700 gm1_3)] := hD
                    refine lv_iinc (pc := 67) (v := nI (d + 1)) (lv' := [(4, .int (nI (d + 1))), (3, .int (nI (8 * i))), (0, .ref h0), (1, .ref hk), (2, .int (nI fr))]) hx hb dX10_mac3_67 hl (k := 0) rfl (by first | exact nI_add d 1 | rfl) (by decide) rfl (fun ls hl => ?_)
                    refine lv_goto (pc := 70) (tgt := 40) hx hb dX10_mac3_70 (by decide) ?_
                    exact ih40 (d + 1) (qU d' d ((d' d) ^^^ (gm1_3 (8 * i + d)))) (by omega) (qSeg_s hd (by omega) (by rw [hd.2 _ (by omega)])) (by omega) _ _ (hP.sub [0, 1, 2, 3, 4, 5, 6, 7, 8, 9, 10, 11, 12, 13, 14, 15] rfl) (hD.sub [0, 1, 2, 3, 4, 5, 6, 7, 8, 9, 10, 11, 12, 13, 14, 15] (by decide) rfl) hS ls (lv_sub hl [0, 1, 2, 3, 4] rfl)
              exact LP40 _ 0 c' (by omega) (qSeg_0) (Nat.lt_succ_self _) _ _ (hP.sub [0, 1, 2, 3, 4, 5, 6, 7, 8, 9, 10, 11, 12, 13, 14, 15] rfl) (hD.sub [0, 1, 2, 3, 4, 5, 6, 7, 8, 9, 10, 11, 12, 13, 14, 15] (by decide) rfl) hS ls (lv_sub hl [0, 1, 2, 3, 4] rfl)
        exact LP29 _ 0 z' bi tu cd sk hf wd (by omega) (by rw [← seg_0, qSeg_segk hz (by omega)]; rfl) (Nat.lt_succ_self _) _ _ (hP.sub [0, 1, 2, 3, 4, 5, 6, 7, 8, 9, 10, 11, 12, 13, 14, 15] rfl) (hD.sub [0, 1, 2, 3, 4, 5, 6, 7, 8, 9, 10, 11, 12, 13, 14, 15] (by decide) rfl) hS ls (lv_sub hl [0, 1, 2, 3] rfl)
      · skip
        rw [nI_leI (by omega) (by omega)] at c_1
        refine lv_aload_n (pc := 14) hx hb dX10_mac3_14 rfl (lv_at hl 1 rfl) ?_
        refine va_get (pc := 15) (D := D) (ci := 8) (v := .ref (a 24)) (C := RX10) (T := TX10) (N := 57) hx hb hts iu10 hown hK hP 14 rfl rfl 24 (by decide) (hts _ tw_1069) (fun _ h9 => h9) rfl dX10_mac3_15 ?_
        refine lv_iload_n (pc := 18) hx hb dX10_mac3_18 rfl (lv_at hl 0 rfl) ?_
        refine lv_iconst (pc := 19) (v := nI 0) hx hb dX10_mac3_19 (by decide +kernel) ?_
        refine q_bastS (pc := 20) hx hb hK hP hD hS 0 2 rfl rfl (k := k) rfl (by omega) (by omega) (b := BitVec.ofNat 8 0) (qlo_nI _) dX10_mac3_20 (fun H locs hP hD hS => ?_)
        have hP : va_P D vwCl [(a 24, aS ta 16 (qU z' k (BitVec.ofNat 8 0))), (a 0, aK ta 64 tIP), (a 1, aK ta 48 tSPR), (a 2, aK ta 32 tMIX), (a 3, aK ta 56 tCH), (a 4, aK ta 48 tSEC), (a 5, aK ta 512 tSBX), (a 10, aB ta 64 bi), (a 11, aB ta 64 tu), (a 12, aB ta 56 cd), (a 13, aB ta 768 sk), (a 14, aB ta 32 hf), (a 15, aB ta 48 wd), (hk, aS ta capk gk), (h0, oM a ar mn1_3 tp osz lsz ns ct), (a 22, aS ta 700 gm1_3)] H := hP
        have hD : va_D A [(a 24, aS ta 16 (qU z' k (BitVec.ofNat 8 0))), (a 0, aK ta 64 tIP), (a 1, aK ta 48 tSPR), (a 2, aK ta 32 tMIX), (a 3, aK ta 56 tCH), (a 4, aK ta 48 tSEC), (a 5, aK ta 512 tSBX), (a 10, aB ta 64 bi), (a 11, aB ta 64 tu), (a 12, aB ta 56 cd), (a 13, aB ta 768 sk), (a 14, aB ta 32 hf), (a 15, aB ta 48 wd), (hk, aS ta capk gk), (h0, oM a ar mn1_3 tp osz lsz ns ct), (a 22, aS ta 700 gm1_3)] := hD
        refine lv_iinc (pc := 21) (v := nI (k + 1)) (lv' := [(3, .int (nI (k + 1))), (0, .ref h0), (1, .ref hk), (2, .int (nI fr))]) hx hb dX10_mac3_21 hl (k := 0) rfl (by first | exact nI_add k 1 | rfl) (by decide) rfl (fun ls hl => ?_)
        refine lv_goto (pc := 24) (tgt := 8) hx hb dX10_mac3_24 (by decide) ?_
        exact ih8 (k + 1) (qU z' k (BitVec.ofNat 8 0)) (by omega) (qSeg_s hz (by omega) rfl) (by omega) _ _ (hP.sub [0, 1, 2, 3, 4, 5, 6, 7, 8, 9, 10, 11, 12, 13, 14, 15] rfl) (hD.sub [0, 1, 2, 3, 4, 5, 6, 7, 8, 9, 10, 11, 12, 13, 14, 15] (by decide) rfl) hS ls (lv_sub hl [0, 1, 2, 3] rfl)
  exact LP8 _ 0 mac (by omega) (qSeg_0) (Nat.lt_succ_self _) _ _ (hP.sub [0, 1, 2, 3, 4, 5, 6, 7, 8, 9, 10, 11, 12, 13, 14, 15] rfl) (hD.sub [0, 1, 2, 3, 4, 5, 6, 7, 8, 9, 10, 11, 12, 13, 14, 15] (by decide) rfl) hS ls (lv_sub hl [0, 1, 2, 3] rfl)
