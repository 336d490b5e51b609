theorem hdX10_hide : yX10_hide.cls ≠ "java/lang/invoke/MethodHandle" ∧ yX10_hide.cls ≠ "java/lang/invoke/VarHandle" ∧ (parseMethodDescriptor yX10_hide.desc).map (fun d => d.parameters.length) = some 3 := ⟨by decide +kernel, by decide +kernel, by decide +kernel⟩
theorem dX10_hide_0 : decode cX10_hide 0 = .ok (.aload_n 0, 1) := by decide +kernel
theorem dX10_hide_1 : decode cX10_hide 1 = .ok (.iload_n 1, 1) := by decide +kernel
theorem dX10_hide_2 : decode cX10_hide 2 = .ok (.invokevirtual 368, 3) := by decide +kernel
theorem dX10_hide_5 : decode cX10_hide 5 = .ok (.istore 4, 2) := by decide +kernel
theorem dX10_hide_7 : decode cX10_hide 7 = .ok (.iload_n 2, 1) := by decide +kernel
theorem dX10_hide_8 : decode cX10_hide 8 = .ok (.istore 5, 2) := by decide +kernel
theorem dX10_hide_10 : decode cX10_hide 10 = .ok (.aload_n 0, 1) := by decide +kernel
theorem dX10_hide_11 : decode cX10_hide 11 = .ok (.getfield 286, 3) := by decide +kernel
theorem dX10_hide_14 : decode cX10_hide 14 = .ok (.iload 5, 2) := by decide +kernel
theorem dX10_hide_16 : decode cX10_hide 16 = .ok (.bipush (-128), 2) := by decide +kernel
theorem dX10_hide_18 : decode cX10_hide 18 = .ok (.bastore, 1) := by decide +kernel
theorem dX10_hide_19 : decode cX10_hide 19 = .ok (.iinc 5 1, 3) := by decide +kernel
theorem dX10_hide_22 : decode cX10_hide 22 = .ok (.iload 5, 2) := by decide +kernel
theorem dX10_hide_24 : decode cX10_hide 24 = .ok (.iload 4, 2) := by decide +kernel
theorem dX10_hide_26 : decode cX10_hide 26 = .ok (.irem, 1) := by decide +kernel
theorem dX10_hide_27 : decode cX10_hide 27 = .ok (.ifCond .eq 17, 3) := by decide +kernel
theorem dX10_hide_30 : decode cX10_hide 30 = .ok (.aload_n 0, 1) := by decide +kernel
theorem dX10_hide_31 : decode cX10_hide 31 = .ok (.getfield 286, 3) := by decide +kernel
theorem dX10_hide_34 : decode cX10_hide 34 = .ok (.iload 5, 2) := by decide +kernel
theorem dX10_hide_36 : decode cX10_hide 36 = .ok (.iconst 0, 1) := by decide +kernel
theorem dX10_hide_37 : decode cX10_hide 37 = .ok (.bastore, 1) := by decide +kernel
theorem dX10_hide_38 : decode cX10_hide 38 = .ok (.iinc 5 1, 3) := by decide +kernel
theorem dX10_hide_41 : decode cX10_hide 41 = .ok (.goto (-19), 3) := by decide +kernel
theorem dX10_hide_44 : decode cX10_hide 44 = .ok (.aload_n 0, 1) := by decide +kernel
theorem dX10_hide_45 : decode cX10_hide 45 = .ok (.iload_n 1, 1) := by decide +kernel
theorem dX10_hide_46 : decode cX10_hide 46 = .ok (.iload_n 3, 1) := by decide +kernel
theorem dX10_hide_47 : decode cX10_hide 47 = .ok (.invokevirtual 371, 3) := by decide +kernel
theorem dX10_hide_50 : decode cX10_hide 50 = .ok (.iconst 0, 1) := by decide +kernel
theorem dX10_hide_51 : decode cX10_hide 51 = .ok (.istore 6, 2) := by decide +kernel
theorem dX10_hide_53 : decode cX10_hide 53 = .ok (.iload 6, 2) := by decide +kernel
theorem dX10_hide_55 : decode cX10_hide 55 = .ok (.iload 5, 2) := by decide +kernel
theorem dX10_hide_57 : decode cX10_hide 57 = .ok (.if_icmp .ge 95, 3) := by decide +kernel
theorem dX10_hide_60 : decode cX10_hide 60 = .ok (.iconst 0, 1) := by decide +kernel
theorem dX10_hide_61 : decode cX10_hide 61 = .ok (.istore 7, 2) := by decide +kernel
theorem dX10_hide_63 : decode cX10_hide 63 = .ok (.iload 7, 2) := by decide +kernel
theorem dX10_hide_65 : decode cX10_hide 65 = .ok (.iload 4, 2) := by decide +kernel
theorem dX10_hide_67 : decode cX10_hide 67 = .ok (.if_icmp .ge 30, 3) := by decide +kernel
theorem dX10_hide_70 : decode cX10_hide 70 = .ok (.aload_n 0, 1) := by decide +kernel
theorem dX10_hide_71 : decode cX10_hide 71 = .ok (.getfield 286, 3) := by decide +kernel
theorem dX10_hide_74 : decode cX10_hide 74 = .ok (.iload 6, 2) := by decide +kernel
theorem dX10_hide_76 : decode cX10_hide 76 = .ok (.iload 7, 2) := by decide +kernel
theorem dX10_hide_78 : decode cX10_hide 78 = .ok (.iadd, 1) := by decide +kernel
theorem dX10_hide_79 : decode cX10_hide 79 = .ok (.dup2, 1) := by decide +kernel
theorem dX10_hide_80 : decode cX10_hide 80 = .ok (.baload, 1) := by decide +kernel
theorem dX10_hide_81 : decode cX10_hide 81 = .ok (.aload_n 0, 1) := by decide +kernel
theorem dX10_hide_82 : decode cX10_hide 82 = .ok (.getfield 283, 3) := by decide +kernel
theorem dX10_hide_85 : decode cX10_hide 85 = .ok (.iload 7, 2) := by decide +kernel
theorem dX10_hide_87 : decode cX10_hide 87 = .ok (.baload, 1) := by decide +kernel
theorem dX10_hide_88 : decode cX10_hide 88 = .ok (.ixor, 1) := by decide +kernel
theorem dX10_hide_89 : decode cX10_hide 89 = .ok (.i2b, 1) := by decide +kernel
theorem dX10_hide_90 : decode cX10_hide 90 = .ok (.bastore, 1) := by decide +kernel
theorem dX10_hide_91 : decode cX10_hide 91 = .ok (.iinc 7 1, 3) := by decide +kernel
theorem dX10_hide_94 : decode cX10_hide 94 = .ok (.goto (-31), 3) := by decide +kernel
theorem dX10_hide_97 : decode cX10_hide 97 = .ok (.aload_n 0, 1) := by decide +kernel
theorem dX10_hide_98 : decode cX10_hide 98 = .ok (.iload_n 1, 1) := by decide +kernel
theorem dX10_hide_99 : decode cX10_hide 99 = .ok (.aload_n 0, 1) := by decide +kernel
theorem dX10_hide_100 : decode cX10_hide 100 = .ok (.getfield 286, 3) := by decide +kernel
theorem dX10_hide_103 : decode cX10_hide 103 = .ok (.iload 6, 2) := by decide +kernel
theorem dX10_hide_105 : decode cX10_hide 105 = .ok (.iconst 0, 1) := by decide +kernel
theorem dX10_hide_106 : decode cX10_hide 106 = .ok (.invokevirtual 373, 3) := by decide +kernel
theorem dX10_hide_109 : decode cX10_hide 109 = .ok (.iconst 0, 1) := by decide +kernel
theorem dX10_hide_110 : decode cX10_hide 110 = .ok (.istore 7, 2) := by decide +kernel
theorem dX10_hide_112 : decode cX10_hide 112 = .ok (.iload 7, 2) := by decide +kernel
theorem dX10_hide_114 : decode cX10_hide 114 = .ok (.iload 4, 2) := by decide +kernel
theorem dX10_hide_116 : decode cX10_hide 116 = .ok (.if_icmp .ge 26, 3) := by decide +kernel
theorem dX10_hide_119 : decode cX10_hide 119 = .ok (.aload_n 0, 1) := by decide +kernel
theorem dX10_hide_120 : decode cX10_hide 120 = .ok (.getfield 283, 3) := by decide +kernel
theorem dX10_hide_123 : decode cX10_hide 123 = .ok (.iload 7, 2) := by decide +kernel
theorem dX10_hide_125 : decode cX10_hide 125 = .ok (.aload_n 0, 1) := by decide +kernel
theorem dX10_hide_126 : decode cX10_hide 126 = .ok (.getfield 286, 3) := by decide +kernel
theorem dX10_hide_129 : decode cX10_hide 129 = .ok (.iload 6, 2) := by decide +kernel
theorem dX10_hide_131 : decode cX10_hide 131 = .ok (.iload 7, 2) := by decide +kernel
theorem dX10_hide_133 : decode cX10_hide 133 = .ok (.iadd, 1) := by decide +kernel
theorem dX10_hide_134 : decode cX10_hide 134 = .ok (.baload, 1) := by decide +kernel
theorem dX10_hide_135 : decode cX10_hide 135 = .ok (.bastore, 1) := by decide +kernel
theorem dX10_hide_136 : decode cX10_hide 136 = .ok (.iinc 7 1, 3) := by decide +kernel
theorem dX10_hide_139 : decode cX10_hide 139 = .ok (.goto (-27), 3) := by decide +kernel
theorem dX10_hide_142 : decode cX10_hide 142 = .ok (.iload 6, 2) := by decide +kernel
theorem dX10_hide_144 : decode cX10_hide 144 = .ok (.iload 4, 2) := by decide +kernel
theorem dX10_hide_146 : decode cX10_hide 146 = .ok (.iadd, 1) := by decide +kernel
theorem dX10_hide_147 : decode cX10_hide 147 = .ok (.istore 6, 2) := by decide +kernel
theorem dX10_hide_149 : decode cX10_hide 149 = .ok (.goto (-96), 3) := by decide +kernel
theorem dX10_hide_152 : decode cX10_hide 152 = .ok (.iload 5, 2) := by decide +kernel
theorem dX10_hide_154 : decode cX10_hide 154 = .ok (.ireturn, 1) := by decide +kernel
set_option maxHeartbeats 4000000 in
set_option maxRecDepth 100000 in
theorem ct_X10_hide_20 (ll : Launch) (D : va_G) (ta : Nat → ClassId) {G : (Nat → Prop) → State → Heap → Prop} (hGok : GOK G) (h0 : Nat) (a : Nat → Nat) (ar : Nat) (mn : Nat) (tp : Nat) (osz : Nat) (lsz : Nat) (ns : Nat) (ct : Nat) (bi : Nat → Bool) (tu : Nat → Bool) (cd : Nat → Bool) (sk : Nat → Bool) (hf : Nat → Bool) (wd : Nat → Bool) (gbl : Nat → BitVec 8) (gke : Nat → BitVec 8) (gwk : Nat → BitVec 8) (ru : Nat → Nat) (sd : Nat) (n8 : Nat) (hsd : sd ≤ 1) (hru : ru sd = 2) (hn8 : n8 ≤ 280) (sz : Nat) : CT ll yX10_hide cX10_hide 8 (some .int) ({ frames := 5, cells := 0, slots := 0, locals := 122 } : Room) D ta G [.ref h0, .int (nI sd), .int (nI n8), .int (nI 0)] [(h0, oM a ar mn tp osz lsz ns ct), (a 0, aK ta 64 tIP), (a 1, aK ta 48 tSPR), (a 2, aK ta 32 tMIX), (a 3, aK ta 56 tCH), (a 4, aK ta 48 tSEC), (a 5, aK ta 512 tSBX), (a 10, aB ta 64 bi), (a 11, aB ta 64 tu), (a 12, aB ta 56 cd), (a 13, aB ta 768 sk), (a 14, aB ta 32 hf), (a 15, aB ta 48 wd), (a 53, aS ta 16 gbl), (a 41, aS ta 256 gke), (a 36, aK ta 2 ru), (a 54, aS ta 300 gwk)] sz (S := (Nat → Bool) × (Nat → Bool) × (Nat → Bool) × (Nat → Bool) × (Nat → Bool) × (Nat → Bool) × (Nat → BitVec 8) × (Nat → BitVec 8) × Nat) (fun u => some (.int (nI u.2.2.2.2.2.2.2.2))) (fun u => (u.2.2.2.2.2.2.2.2 = (n8 / 8 + 1) * 8) ∧ (qL u.2.2.2.2.2.2.2.1 u.2.2.2.2.2.2.2.2 = hide2 (seg gke (128 * sd) 16) (qL gwk n8))) (fun u => [(h0, oM a ar mn tp osz lsz ns ct), (a 0, aK ta 64 tIP), (a 1, aK ta 48 tSPR), (a 2, aK ta 32 tMIX), (a 3, aK ta 56 tCH), (a 4, aK ta 48 tSEC), (a 5, aK ta 512 tSBX), (a 10, aB ta 64 u.1), (a 11, aB ta 64 u.2.1), (a 12, aB ta 56 u.2.2.1), (a 13, aB ta 768 u.2.2.2.1), (a 14, aB ta 32 u.2.2.2.2.1), (a 15, aB ta 48 u.2.2.2.2.2.1), (a 53, aS ta 16 u.2.2.2.2.2.2.1), (a 41, aS ta 256 gke), (a 36, aK ta 2 ru), (a 54, aS ta 300 u.2.2.2.2.2.2.2.1)]) 0 0 := by
  refine CT.of_i (r := fun u => nI u.2.2.2.2.2.2.2.2) rfl (by decide) (Nat.le_of_ble_eq_true rfl) ?_
  intro pp ee ss mm below meth kc A Q hx hb hml hown hin hts hK hA hsz hG hret H locs hP hD hS ls hl
  have hl : lv_has ls 8 [(0, .ref h0), (1, .int (nI sd)), (2, .int (nI n8)), (3, .int (nI 0))] := hl
  refine lv_aload_n (pc := 0) hx hb dX10_hide_0 rfl (lv_at hl 0 rfl) ?_
  refine lv_iload_n (pc := 1) hx hb dX10_hide_1 rfl (lv_at hl 1 rfl) ?_
  refine cs_V (pc := 2) (idx := 368) (n := 1) (wr := [(a 0, aK ta 64 tIP), (a 1, aK ta 48 tSPR), (a 2, aK ta 32 tMIX), (a 3, aK ta 56 tCH), (a 4, aK ta 48 tSEC), (a 5, aK ta 512 tSBX), (a 10, aB ta 64 bi), (a 11, aB ta 64 tu), (a 12, aB ta 56 cd), (a 13, aB ta 768 sk), (a 14, aB ta 32 hf), (a 15, aB ta 48 wd), (a 53, aS ta 16 gbl), (a 41, aS ta 256 gke), (a 54, aS ta 300 gwk)]) (As := [.int (nI sd)]) (rest := []) (ci := 8) hx hb hml hown hts hGok hK hA hG hl.1 hP hD hS (ct_X10_blockOf_2 ll D ta hGok h0 a ar mn tp osz lsz ns ct ru sd (by first | assumption | omega | rfl | decide) (by first | assumption | omega | rfl | decide) H.size) tw_1392 tw_1389 tw_1391 tw_54 tw_75 hdX10_blockOf rfl ⟨rfl, rfl, Nat.le_of_ble_eq_true rfl, Nat.le_of_ble_eq_true rfl, Nat.le_of_ble_eq_true rfl, Nat.le_of_ble_eq_true rfl⟩ rfl rfl (q0 := 0) rfl [0, 15] [1, 2, 3, 4, 5, 6, 7, 8, 9, 10, 11, 12, 13, 14, 16] rfl rfl (by decide) rfl (Nat.le_of_ble_eq_true rfl) dX10_hide_2 (fun u H locs hq hP hD hS => ?_)
  refine W.eq (g2 := F0 mm 5 ls [.int (nI 8)]) rfl ?_
  have hP : va_P D vwCl [(a 0, aK ta 64 tIP), (a 1, aK ta 48 tSPR), (a 2, aK ta 32 tMIX), (a 3, aK ta 56 tCH), (a 4, aK ta 48 tSEC), (a 5, aK ta 512 tSBX), (a 10, aB ta 64 bi), (a 11, aB ta 64 tu), (a 12, aB ta 56 cd), (a 13, aB ta 768 sk), (a 14, aB ta 32 hf), (a 15, aB ta 48 wd), (a 53, aS ta 16 gbl), (a 41, aS ta 256 gke), (a 54, aS ta 300 gwk), (h0, oM a ar mn tp osz lsz ns ct), (a 36, aK ta 2 ru)] H := hP
  have hD : va_D A [(a 0, aK ta 64 tIP), (a 1, aK ta 48 tSPR), (a 2, aK ta 32 tMIX), (a 3, aK ta 56 tCH), (a 4, aK ta 48 tSEC), (a 5, aK ta 512 tSBX), (a 10, aB ta 64 bi), (a 11, aB ta 64 tu), (a 12, aB ta 56 cd), (a 13, aB ta 768 sk), (a 14, aB ta 32 hf), (a 15, aB ta 48 wd), (a 53, aS ta 16 gbl), (a 41, aS ta 256 gke), (a 54, aS ta 300 gwk), (h0, oM a ar mn tp osz lsz ns ct), (a 36, aK ta 2 ru)] := hD
  refine lv_istore (pc := 5) (lv' := [(4, .int (nI 8)), (0, .ref h0), (1, .int (nI sd)), (2, .int (nI n8)), (3, .int (nI 0))]) hx hb dX10_hide_5 hl (by decide) rfl (fun ls hl => ?_)
  refine lv_iload_n (pc := 7) hx hb dX10_hide_7 rfl (lv_at hl 3 rfl) ?_
  refine lv_istore (pc := 8) (lv' := [(5, .int (nI n8)), (4, .int (nI 8)), (0, .ref h0), (1, .int (nI sd)), (2, .int (nI n8)), (3, .int (nI 0))]) hx hb dX10_hide_8 hl (by decide) rfl (fun ls hl => ?_)
  refine lv_aload_n (pc := 10) hx hb dX10_hide_10 rfl (lv_at hl 2 rfl) ?_
  refine va_get (pc := 11) (D := D) (ci := 8) (v := .ref (a 54)) (C := RX10) (T := TX10) (N := 57) hx hb hts iu10 hown hK hP 15 rfl rfl 54 (by decide) (hts _ tw_1099) (fun _ h9 => h9) rfl dX10_hide_11 ?_
  refine lv_iload (pc := 14) hx hb dX10_hide_14 (lv_at hl 0 rfl) ?_
  refine lv_bipush (pc := 16) (v := (-128)) hx hb dX10_hide_16 (by decide +kernel) ?_
  refine q_bastS (pc := 18) hx hb hK hP hD hS 14 2 rfl rfl (k := n8) rfl (by omega) (by omega) (b := qlo (-128)) rfl dX10_hide_18 (fun H locs hP hD hS => ?_)
  have hP : va_P D vwCl [(a 0, aK ta 64 tIP), (a 1, aK ta 48 tSPR), (a 2, aK ta 32 tMIX), (a 3, aK ta 56 tCH), (a 4, aK ta 48 tSEC), (a 5, aK ta 512 tSBX), (a 10, aB ta 64 bi), (a 11, aB ta 64 tu), (a 12, aB ta 56 cd), (a 13, aB ta 768 sk), (a 14, aB ta 32 hf), (a 15, aB ta 48 wd), (a 53, aS ta 16 gbl), (a 41, aS ta 256 gke), (a 54, aS ta 300 (qU gwk n8 (qlo (-128)))), (h0, oM a ar mn tp osz lsz ns ct), (a 36, aK ta 2 ru)] H := hP
  have hD : va_D A [(a 0, aK ta 64 tIP), (a 1, aK ta 48 tSPR), (a 2, aK ta 32 tMIX), (a 3, aK ta 56 tCH), (a 4, aK ta 48 tSEC), (a 5, aK ta 512 tSBX), (a 10, aB ta 64 bi), (a 11, aB ta 64 tu), (a 12, aB ta 56 cd), (a 13, aB ta 768 sk), (a 14, aB ta 32 hf), (a 15, aB ta 48 wd), (a 53, aS ta 16 gbl), (a 41, aS ta 256 gke), (a 54, aS ta 300 (qU gwk n8 (qlo (-128)))), (h0, oM a ar mn tp osz lsz ns ct), (a 36, aK ta 2 ru)] := hD
  refine lv_iinc (pc := 19) (v := nI (n8 + 1)) (lv' := [(5, .int (nI (n8 + 1))), (4, .int (nI 8)), (0, .ref h0), (1, .int (nI sd)), (2, .int (nI n8)), (3, .int (nI 0))]) hx hb dX10_hide_19 hl (k := 0) rfl (by first | exact nI_add n8 1 | rfl) (by decide) rfl (fun ls hl => ?_)
  have LP22 : ∀ (nn22 : Nat) (c : Nat) (m1 : Nat) (w' : Nat → BitVec 8), (1 ≤ c ∧ c + n8 % 8 ≤ 8) → (m1 = n8 + c) → (qL w' m1 = qL gwk n8 ++ 0x80#8 :: List.replicate (c - 1) 0#8) → (8 - c < nn22) → ∀ (H : Heap) (locs : List Loc), va_P D vwCl [(a 0, aK ta 64 tIP), (a 1, aK ta 48 tSPR), (a 2, aK ta 32 tMIX), (a 3, aK ta 56 tCH), (a 4, aK ta 48 tSEC), (a 5, aK ta 512 tSBX), (a 10, aB ta 64 bi), (a 11, aB ta 64 tu), (a 12, aB ta 56 cd), (a 13, aB ta 768 sk), (a 14, aB ta 32 hf), (a 15, aB ta 48 wd), (a 53, aS ta 16 gbl), (a 41, aS ta 256 gke), (a 54, aS ta 300 w'), (h0, oM a ar mn tp osz lsz ns ct), (a 36, aK ta 2 ru)] H → va_D A [(a 0, aK ta 64 tIP), (a 1, aK ta 48 tSPR), (a 2, aK ta 32 tMIX), (a 3, aK ta 56 tCH), (a 4, aK ta 48 tSEC), (a 5, aK ta 512 tSBX), (a 10, aB ta 64 bi), (a 11, aB ta 64 tu), (a 12, aB ta 56 cd), (a 13, aB ta 768 sk), (a 14, aB ta 32 hf), (a 15, aB ta 48 wd), (a 53, aS ta 16 gbl), (a 41, aS ta 256 gke), (a 54, aS ta 300 w'), (h0, oM a ar mn tp osz lsz ns ct), (a 36, aK ta 2 ru)] → va_S A ss.heap H locs → ∀ ls : Array Slot, lv_has ls 8 [(5, .int (nI m1)), (4, .int (nI 8)), (0, .ref h0), (1, .int (nI sd)), (2, .int (nI n8)), (3, .int (nI 0))] → W pp ll ee ({ frames := 5, cells := 0, slots := 0, locals := 122 } : Room) ss mm (([.ref h0, .int (nI sd), .int (nI n8), .int (nI 0)] : List Value).toArray) below meth kc H locs 0 0 Q (F0 mm 22 ls []) := by
    intro nn22
    induction nn22 with
    | zero => intro c m1 w' hcc hm hLL hmu; exact absurd hmu (Nat.not_lt_zero _)
    | succ nn22 ih22 =>
      intro c m1 w' hcc hm hLL hmu22 H locs hP hD hS ls hl
      refine lv_iload (pc := 22) hx hb dX10_hide_22 (lv_at hl 0 rfl) ?_
      refine lv_iload (pc := 24) hx hb dX10_hide_24 (lv_at hl 1 rfl) ?_
      refine lv_irem (pc := 26) hx hb dX10_hide_26 (q_ne0 (by omega) (by omega)) ?_
      refine q_top (y := nI (m1 % 8)) (pk_rem (by omega) (by omega) (by omega)) ?_
      refine lv_if_eq (pc := 27) (tgt := 44) hx hb dX10_hide_27 (by decide) (fun c_1 => ?_) (fun c_1 => ?_)
      · skip
        rw [q_eq0 (by omega)] at c_1
        have hend : c + n8 % 8 = 8 := by omega
        have hP9 : qL w' m1 = qpad 8 (qL gwk n8) := by rw [hLL, qpad, qL_len, show 8 - 1 - n8 % 8 = c - 1 by omega]
        refine lv_aload_n (pc := 44) hx hb dX10_hide_44 rfl (lv_at hl 2 rfl) ?_
        refine lv_iload_n (pc := 45) hx hb dX10_hide_45 rfl (lv_at hl 3 rfl) ?_
        refine lv_iload_n (pc := 46) hx hb dX10_hide_46 rfl (lv_at hl 5 rfl) ?_
        refine cs_V (pc := 47) (idx := 371) (n := 2) (wr := [(a 0, aK ta 64 tIP), (a 1, aK ta 48 tSPR), (a 2, aK ta 32 tMIX), (a 3, aK ta 56 tCH), (a 4, aK ta 48 tSEC), (a 5, aK ta 512 tSBX), (a 10, aB ta 64 bi), (a 11, aB ta 64 tu), (a 12, aB ta 56 cd), (a 13, aB ta 768 sk), (a 14, aB ta 32 hf), (a 15, aB ta 48 wd), (a 41, aS ta 256 gke), (a 54, aS ta 300 w')]) (As := [.int (nI sd), .int (nI 0)]) (rest := []) (ci := 8) hx hb hml hown hts hGok hK hA hG hl.1 hP hD hS (ct_X10_first_2 ll D ta hGok h0 a ar mn tp osz lsz ns ct gbl ru sd (by first | assumption | omega | rfl | decide) (by first | assumption | omega | rfl | decide) H.size) tw_1396 tw_1393 tw_1395 tw_55 tw_75 hdX10_first rfl ⟨rfl, rfl, Nat.le_of_ble_eq_true rfl, Nat.le_of_ble_eq_true rfl, Nat.le_of_ble_eq_true rfl, Nat.le_of_ble_eq_true rfl⟩ rfl rfl (q0 := 15) rfl [15, 12, 16] [0, 1, 2, 3, 4, 5, 6, 7, 8, 9, 10, 11, 13, 14] rfl rfl (by decide) rfl (Nat.le_of_ble_eq_true rfl) dX10_hide_47 (fun u H locs hq hP hD hS => ?_)
        generalize u = gbl1_47 at hq hP hD ⊢
        have hq : (qL gbl1_47 16 = zeroL 16) := hq
        have hs_47 := hq
        refine W.eq (g2 := F0 mm 50 ls []) rfl ?_
        have hP : va_P D vwCl [(a 0, aK ta 64 tIP), (a 1, aK ta 48 tSPR), (a 2, aK ta 32 tMIX), (a 3, aK ta 56 tCH), (a 4, aK ta 48 tSEC), (a 5, aK ta 512 tSBX), (a 10, aB ta 64 bi), (a 11, aB ta 64 tu), (a 12, aB ta 56 cd), (a 13, aB ta 768 sk), (a 14, aB ta 32 hf), (a 15, aB ta 48 wd), (a 41, aS ta 256 gke), (a 54, aS ta 300 w'), (h0, oM a ar mn tp osz lsz ns ct), (a 53, aS ta 16 gbl1_47), (a 36, aK ta 2 ru)] H := hP
        have hD : va_D A [(a 0, aK ta 64 tIP), (a 1, aK ta 48 tSPR), (a 2, aK ta 32 tMIX), (a 3, aK ta 56 tCH), (a 4, aK ta 48 tSEC), (a 5, aK ta 512 tSBX), (a 10, aB ta 64 bi), (a 11, aB ta 64 tu), (a 12, aB ta 56 cd), (a 13, aB ta 768 sk), (a 14, aB ta 32 hf), (a 15, aB ta 48 wd), (a 41, aS ta 256 gke), (a 54, aS ta 300 w'), (h0, oM a ar mn tp osz lsz ns ct), (a 53, aS ta 16 gbl1_47), (a 36, aK ta 2 ru)] := hD
        refine lv_iconst (pc := 50) (v := nI 0) hx hb dX10_hide_50 (by decide +kernel) ?_
        refine lv_istore (pc := 51) (lv' := [(6, .int (nI 0)), (5, .int (nI m1)), (4, .int (nI 8)), (0, .ref h0), (1, .int (nI sd)), (2, .int (nI n8)), (3, .int (nI 0))]) hx hb dX10_hide_51 hl (by decide) rfl (fun ls hl => ?_)
        have LP53 : ∀ (nn53 : Nat) (i : Nat) (x' : Nat → BitVec 8) (b' : Nat → BitVec 8) (zb : Nat → Bool) (zt : Nat → Bool) (zc : Nat → Bool) (zs : Nat → Bool) (zh : Nat → Bool) (zw : Nat → Bool), (8 * i ≤ m1) → (qSeg x' w' 0 (8 * i) (encF (tdesL (seg gke (128 * sd) 16) false) 8 (zeroL 8) (qL w' m1))) → (qL b' 8 = cbcM (tdesL (seg gke (128 * sd) 16) false) 8 (zeroL 8) (qL w' m1) i) → (m1 - 8 * i < nn53) → ∀ (H : Heap) (locs : List Loc), va_P D vwCl [(a 0, aK ta 64 tIP), (a 1, aK ta 48 tSPR), (a 2, aK ta 32 tMIX), (a 3, aK ta 56 tCH), (a 4, aK ta 48 tSEC), (a 5, aK ta 512 tSBX), (a 10, aB ta 64 zb), (a 11, aB ta 64 zt), (a 12, aB ta 56 zc), (a 13, aB ta 768 zs), (a 14, aB ta 32 zh), (a 15, aB ta 48 zw), (a 41, aS ta 256 gke), (a 54, aS ta 300 x'), (h0, oM a ar mn tp osz lsz ns ct), (a 53, aS ta 16 b'), (a 36, aK ta 2 ru)] H → va_D A [(a 0, aK ta 64 tIP), (a 1, aK ta 48 tSPR), (a 2, aK ta 32 tMIX), (a 3, aK ta 56 tCH), (a 4, aK ta 48 tSEC), (a 5, aK ta 512 tSBX), (a 10, aB ta 64 zb), (a 11, aB ta 64 zt), (a 12, aB ta 56 zc), (a 13, aB ta 768 zs), (a 14, aB ta 32 zh), (a 15, aB ta 48 zw), (a 41, aS ta 256 gke), (a 54, aS ta 300 x'), (h0, oM a ar mn tp osz lsz ns ct), (a 53, aS ta 16 b'), (a 36, aK ta 2 ru)] → va_S A ss.heap H locs → ∀ ls : Array Slot, lv_has ls 8 [(6, .int (nI (8 * i))), (5, .int (nI m1)), (4, .int (nI 8)), (0, .ref h0), (1, .int (nI sd)), (2, .int (nI n8)), (3, .int (nI 0))] → W pp ll ee ({ frames := 5, cells := 0, slots := 0, locals := 122 } : Room) ss mm (([.ref h0, .int (nI sd), .int (nI n8), .int (nI 0)] : List Value).toArray) below meth kc H locs 0 0 Q (F0 mm 53 ls []) := by
          intro nn53
          induction nn53 with
          | zero => intro i x' b' zb zt zc zs zh zw hii hr hb1 hmu; exact absurd hmu (Nat.not_lt_zero _)
          | succ nn53 ih53 =>
            intro i x' b' zb zt zc zs zh zw hii hr hb1 hmu53 H locs hP hD hS ls hl
            refine lv_iload (pc := 53) hx hb dX10_hide_53 (lv_at hl 0 rfl) ?_
            refine lv_iload (pc := 55) hx hb dX10_hide_55 (lv_at hl 1 rfl) ?_
            refine lv_icmp_ge (pc := 57) (tgt := 152) hx hb dX10_hide_57 (by decide) (fun c_2 => ?_) (fun c_2 => ?_)
            · skip
              rw [nI_leI (by omega) (by omega)] at c_2
              refine lv_iload (pc := 152) hx hb dX10_hide_152 (lv_at hl 1 rfl) ?_
              have hq_3 : (m1 = (n8 / 8 + 1) * 8) ∧ (qL x' m1 = hide2 (seg gke (128 * sd) 16) (qL gwk n8)) := by
                refine ⟨by omega, ?_⟩
                rw [hide2, encL, ← hP9, qL_len, ← seg_0, qSeg_segk hr (by omega)]
              exact hret (⟨(zb), (zt), (zc), (zs), (zh), (zw), (b'), (x'), (m1)⟩ : (Nat → Bool) × (Nat → Bool) × (Nat → Bool) × (Nat → Bool) × (Nat → Bool) × (Nat → Bool) × (Nat → BitVec 8) × (Nat → BitVec 8) × Nat) _ _ _ _ dX10_hide_154 hq_3 (hP.sub [14, 0, 1, 2, 3, 4, 5, 6, 7, 8, 9, 10, 11, 15, 12, 16, 13] rfl) (hD.sub [14, 0, 1, 2, 3, 4, 5, 6, 7, 8, 9, 10, 11, 15, 12, 16, 13] (by decide) rfl) hS
            · skip
              rw [nI_leI (by omega) (by omega)] at c_2
              refine lv_iconst (pc := 60) (v := nI 0) hx hb dX10_hide_60 (by decide +kernel) ?_
              refine lv_istore (pc := 61) (lv' := [(7, .int (nI 0)), (6, .int (nI (8 * i))), (5, .int (nI m1)), (4, .int (nI 8)), (0, .ref h0), (1, .int (nI sd)), (2, .int (nI n8)), (3, .int (nI 0))]) hx hb dX10_hide_61 hl (by decide) rfl (fun ls hl => ?_)
              have LP63 : ∀ (nn63 : Nat) (d : Nat) (y' : Nat → BitVec 8), (d ≤ 8) → (qSeg y' x' (8 * i) d (fun j => x' (8 * i + j) ^^^ b' j)) → (8 - d < nn63) → ∀ (H : Heap) (locs : List Loc), va_P D vwCl [(a 0, aK ta 64 tIP), (a 1, aK ta 48 tSPR), (a 2, aK ta 32 tMIX), (a 3, aK ta 56 tCH), (a 4, aK ta 48 tSEC), (a 5, aK ta 512 tSBX), (a 10, aB ta 64 zb), (a 11, aB ta 64 zt), (a 12, aB ta 56 zc), (a 13, aB ta 768 zs), (a 14, aB ta 32 zh), (a 15, aB ta 48 zw), (a 41, aS ta 256 gke), (a 54, aS ta 300 y'), (h0, oM a ar mn tp osz lsz ns ct), (a 53, aS ta 16 b'), (a 36, aK ta 2 ru)] H → va_D A [(a 0, aK ta 64 tIP), (a 1, aK ta 48 tSPR), (a 2, aK ta 32 tMIX), (a 3, aK ta 56 tCH), (a 4, aK ta 48 tSEC), (a 5, aK ta 512 tSBX), (a 10, aB ta 64 zb), (a 11, aB ta 64 zt), (a 12, aB ta 56 zc), (a 13, aB ta 768 zs), (a 14, aB ta 32 zh), (a 15, aB ta 48 zw), (a 41, aS ta 256 gke), (a 54, aS ta 300 y'), (h0, oM a ar mn tp osz lsz ns ct), (a 53, aS ta 16 b'), (a 36, aK ta 2 ru)] → va_S A ss.heap H locs → ∀ ls : Array Slot, lv_has ls 8 [(7, .int (nI d)), (6, .int (nI (8 * i))), (5, .int (nI m1)), (4, .int (nI 8)), (0, .ref h0), (1, .int (nI sd)), (2, .int (nI n8)), (3, .int (nI 0))] → W pp ll ee ({ frames := 5, cells := 0, slots := 0, locals := 122 } : Room) ss mm (([.ref h0, .int (nI sd), .int (nI n8), .int (nI 0)] : List Value).toArray) below meth kc H locs 0 0 Q (F0 mm 63 ls []) := by
                intro nn63
                induction nn63 with
                | zero => intro d y' hdd hd hmu; exact absurd hmu (Nat.not_lt_zero _)
                | succ nn63 ih63 =>
                  intro d y' hdd hd hmu63 H locs hP hD hS ls hl
                  refine lv_iload (pc := 63) hx hb dX10_hide_63 (lv_at hl 0 rfl) ?_
                  refine lv_iload (pc := 65) hx hb dX10_hide_65 (lv_at hl 3 rfl) ?_
                  refine lv_icmp_ge (pc := 67) (tgt := 97) hx hb dX10_hide_67 (by decide) (fun c_4 => ?_) (fun c_4 => ?_)
                  · skip
                    rw [nI_leI (by omega) (by omega)] at c_4
                    refine lv_aload_n (pc := 97) hx hb dX10_hide_97 rfl (lv_at hl 4 rfl) ?_
                    refine lv_iload_n (pc := 98) hx hb dX10_hide_98 rfl (lv_at hl 5 rfl) ?_
                    refine lv_aload_n (pc := 99) hx hb dX10_hide_99 rfl (lv_at hl 4 rfl) ?_
                    refine va_get (pc := 100) (D := D) (ci := 8) (v := .ref (a 54)) (C := RX10) (T := TX10) (N := 57) hx hb hts iu10 hown hK hP 14 rfl rfl 54 (by decide) (hts _ tw_1099) (fun _ h9 => h9) rfl dX10_hide_100 ?_
                    refine lv_iload (pc := 103) hx hb dX10_hide_103 (lv_at hl 1 rfl) ?_
                    refine lv_iconst (pc := 105) (v := nI 0) hx hb dX10_hide_105 (by decide +kernel) ?_
                    refine cs_V (pc := 106) (idx := 373) (n := 4) (wr := [(a 53, aS ta 16 b')]) (As := [.int (nI sd), .ref (a 54), .int (nI (8 * i)), .int (nI 0)]) (rest := []) (ci := 8) hx hb hml hown hts hGok hK hA hG hl.1 hP hD hS (ct_X10_one_20 ll D ta hGok h0 a ar mn tp osz lsz ns ct zb zt zc zs zh zw gke ru sd (a 54) (8 * i) 300 y' (by first | assumption | omega | rfl | decide) (by first | assumption | omega | rfl | decide) (by first | assumption | omega | rfl | decide) (by first | assumption | omega | rfl | decide) H.size) tw_1400 tw_1397 tw_1399 tw_56 tw_75 hdX10_one rfl ⟨rfl, rfl, Nat.le_of_ble_eq_true rfl, Nat.le_of_ble_eq_true rfl, Nat.le_of_ble_eq_true rfl, Nat.le_of_ble_eq_true rfl⟩ rfl rfl (q0 := 14) rfl [14, 0, 1, 2, 3, 4, 5, 6, 7, 8, 9, 10, 11, 12, 16, 13] [15] rfl rfl (by decide) rfl (Nat.le_of_ble_eq_true rfl) dX10_hide_106 (fun u H locs hq hP hD hS => ?_)
                    obtain ⟨bi1_106, tu1_106, cd1_106, sk1_106, hf1_106, wd1_106, gb1_106⟩ := u
                    have hq : (seg gb1_106 (8 * i) 8 = tdesL (seg gke (128 * sd) 16) false (seg y' (8 * i) 8)) ∧ (∀ jz, (jz < (8 * i) ∨ (8 * i) + 8 ≤ jz) → gb1_106 jz = y' jz) := hq
                    obtain ⟨hs_106, hfr_106⟩ := hq
                    refine W.eq (g2 := F0 mm 109 ls []) rfl ?_
                    have hP : va_P D vwCl [(a 53, aS ta 16 b'), (h0, oM a ar mn tp osz lsz ns ct), (a 0, aK ta 64 tIP), (a 1, aK ta 48 tSPR), (a 2, aK ta 32 tMIX), (a 3, aK ta 56 tCH), (a 4, aK ta 48 tSEC), (a 5, aK ta 512 tSBX), (a 10, aB ta 64 bi1_106), (a 11, aB ta 64 tu1_106), (a 12, aB ta 56 cd1_106), (a 13, aB ta 768 sk1_106), (a 14, aB ta 32 hf1_106), (a 15, aB ta 48 wd1_106), (a 41, aS ta 256 gke), (a 36, aK ta 2 ru), (a 54, aS ta 300 gb1_106)] H := hP
                    have hD : va_D A [(a 53, aS ta 16 b'), (h0, oM a ar mn tp osz lsz ns ct), (a 0, aK ta 64 tIP), (a 1, aK ta 48 tSPR), (a 2, aK ta 32 tMIX), (a 3, aK ta 56 tCH), (a 4, aK ta 48 tSEC), (a 5, aK ta 512 tSBX), (a 10, aB ta 64 bi1_106), (a 11, aB ta 64 tu1_106), (a 12, aB ta 56 cd1_106), (a 13, aB ta 768 sk1_106), (a 14, aB ta 32 hf1_106), (a 15, aB ta 48 wd1_106), (a 41, aS ta 256 gke), (a 36, aK ta 2 ru), (a 54, aS ta 300 gb1_106)] := hD
                    refine lv_iconst (pc := 109) (v := nI 0) hx hb dX10_hide_109 (by decide +kernel) ?_
                    refine lv_istore (pc := 110) (lv' := [(7, .int (nI 0)), (6, .int (nI (8 * i))), (5, .int (nI m1)), (4, .int (nI 8)), (0, .ref h0), (1, .int (nI sd)), (2, .int (nI n8)), (3, .int (nI 0))]) hx hb dX10_hide_110 hl (by decide) rfl (fun ls hl => ?_)
                    have LP112 : ∀ (nn112 : Nat) (e : Nat) (q' : Nat → BitVec 8), (e ≤ 8) → (qSeg q' b' 0 e (fun j => gb1_106 (8 * i + j))) → (8 - e < nn112) → ∀ (H : Heap) (locs : List Loc), va_P D vwCl [(a 53, aS ta 16 q'), (h0, oM a ar mn tp osz lsz ns ct), (a 0, aK ta 64 tIP), (a 1, aK ta 48 tSPR), (a 2, aK ta 32 tMIX), (a 3, aK ta 56 tCH), (a 4, aK ta 48 tSEC), (a 5, aK ta 512 tSBX), (a 10, aB ta 64 bi1_106), (a 11, aB ta 64 tu1_106), (a 12, aB ta 56 cd1_106), (a 13, aB ta 768 sk1_106), (a 14, aB ta 32 hf1_106), (a 15, aB ta 48 wd1_106), (a 41, aS ta 256 gke), (a 36, aK ta 2 ru), (a 54, aS ta 300 gb1_106)] H → va_D A [(a 53, aS ta 16 q'), (h0, oM a ar mn tp osz lsz ns ct), (a 0, aK ta 64 tIP), (a 1, aK ta 48 tSPR), (a 2, aK ta 32 tMIX), (a 3, aK ta 56 tCH), (a 4, aK ta 48 tSEC), (a 5, aK ta 512 tSBX), (a 10, aB ta 64 bi1_106), (a 11, aB ta 64 tu1_106), (a 12, aB ta 56 cd1_106), (a 13, aB ta 768 sk1_106), (a 14, aB ta 32 hf1_106), (a 15, aB ta 48 wd1_106), (a 41, aS ta 256 gke), (a 36, aK ta 2 ru), (a 54, aS ta 300 gb1_106)] → va_S A ss.heap H locs → ∀ ls : Array Slot, lv_has ls 8 [(7, .int (nI e)), (6, .int (nI (8 * i))), (5, .int (nI m1)), (4, .int (nI 8)), (0, .ref h0), (1, .int (nI sd)), (2, .int (nI n8)), (3, .int (nI 0))] → W pp ll ee ({ frames := 5, cells := 0, slots := 0, locals := 122 } : Room) ss mm (([.ref h0, .int (nI sd), .int (nI n8), .int (nI 0)] : List Value).toArray) below meth kc H locs 0 0 Q (F0 mm 112 ls []) := by
                      intro nn112
                      induction nn112 with
                      | zero => intro e q' hee he hmu; exact absurd hmu (Nat.not_lt_zero _)
                      | succ nn112 ih112 =>
                        intro e q' hee he hmu112 H locs hP hD hS ls hl
                        refine lv_iload (pc := 112) hx hb dX10_hide_112 (lv_at hl 0 rfl) ?_
                        refine lv_iload (pc := 114) hx hb dX10_hide_114 (lv_at hl 3 rfl) ?_
                        refine lv_icmp_ge (pc := 116) (tgt := 142) hx hb dX10_hide_116 (by decide) (fun c_5 => ?_) (fun c_5 => ?_)
                        · skip
                          rw [nI_leI (by omega) (by omega)] at c_5
                          refine lv_iload (pc := 142) hx hb dX10_hide_142 (lv_at hl 1 rfl) ?_
                          refine lv_iload (pc := 144) hx hb dX10_hide_144 (lv_at hl 3 rfl) ?_
                          refine lv_iadd (pc := 146) hx hb dX10_hide_146 ?_
                          refine q_top (y := nI (8 * i + 8)) (nI_add (8 * i) 8) ?_
                          refine lv_istore (pc := 147) (lv' := [(6, .int (nI (8 * i + 8))), (7, .int (nI e)), (5, .int (nI m1)), (4, .int (nI 8)), (0, .ref h0), (1, .int (nI sd)), (2, .int (nI n8)), (3, .int (nI 0))]) hx hb dX10_hide_147 hl (by decide) rfl (fun ls hl => ?_)
                          refine lv_goto (pc := 149) (tgt := 53) hx hb dX10_hide_149 (by decide) ?_
                          exact ih53 (i + 1) gb1_106 q' bi1_106 tu1_106 cd1_106 sk1_106 hf1_106 wd1_106 (by omega) ((enc_stepR (by decide) (n := m1) (m := m1 / 8) (by omega) (by omega) hr hb1 (by omega) hd hs_106 hfr_106 (by omega) he tdes_Elen).1) ((enc_stepR (by decide) (n := m1) (m := m1 / 8) (by omega) (by omega) hr hb1 (by omega) hd hs_106 hfr_106 (by omega) he tdes_Elen).2) (by omega) _ _ (hP.sub [2, 3, 4, 5, 6, 7, 8, 9, 10, 11, 12, 13, 14, 16, 1, 0, 15] rfl) (hD.sub [2, 3, 4, 5, 6, 7, 8, 9, 10, 11, 12, 13, 14, 16, 1, 0, 15] (by decide) rfl) hS ls (lv_sub hl [0, 2, 3, 4, 5, 6, 7] rfl)
                        · skip
                          rw [nI_leI (by omega) (by omega)] at c_5
                          refine lv_aload_n (pc := 119) hx hb dX10_hide_119 rfl (lv_at hl 4 rfl) ?_
                          refine va_get (pc := 120) (D := D) (ci := 8) (v := .ref (a 53)) (C := RX10) (T := TX10) (N := 57) hx hb hts iu10 hown hK hP 1 rfl rfl 53 (by decide) (hts _ tw_1098) (fun _ h9 => h9) rfl dX10_hide_120 ?_
                          refine lv_iload (pc := 123) hx hb dX10_hide_123 (lv_at hl 0 rfl) ?_
                          refine lv_aload_n (pc := 125) hx hb dX10_hide_125 rfl (lv_at hl 4 rfl) ?_
                          refine va_get (pc := 126) (D := D) (ci := 8) (v := .ref (a 54)) (C := RX10) (T := TX10) (N := 57) hx hb hts iu10 hown hK hP 1 rfl rfl 54 (by decide) (hts _ tw_1099) (fun _ h9 => h9) rfl dX10_hide_126 ?_
                          refine lv_iload (pc := 129) hx hb dX10_hide_129 (lv_at hl 1 rfl) ?_
                          refine lv_iload (pc := 131) hx hb dX10_hide_131 (lv_at hl 0 rfl) ?_
                          refine lv_iadd (pc := 133) hx hb dX10_hide_133 ?_
                          refine q_top (y := nI (8 * i + e)) (nI_add (8 * i) e) ?_
                          refine q_bald (pc := 134) hx hb hK hP 16 2 rfl rfl (k := 8 * i + e) (v := qs (gb1_106 (8 * i + e))) rfl (by omega) (by omega) rfl dX10_hide_134 ?_
                          refine q_bastS (pc := 135) hx hb hK hP hD hS 0 2 rfl rfl (k := e) rfl (by omega) (by omega) (b := gb1_106 (8 * i + e)) (qlo_qs _) dX10_hide_135 (fun H locs hP hD hS => ?_)
                          have hP : va_P D vwCl [(a 53, aS ta 16 (qU q' e (gb1_106 (8 * i + e)))), (h0, oM a ar mn tp osz lsz ns ct), (a 0, aK ta 64 tIP), (a 1, aK ta 48 tSPR), (a 2, aK ta 32 tMIX), (a 3, aK ta 56 tCH), (a 4, aK ta 48 tSEC), (a 5, aK ta 512 tSBX), (a 10, aB ta 64 bi1_106), (a 11, aB ta 64 tu1_106), (a 12, aB ta 56 cd1_106), (a 13, aB ta 768 sk1_106), (a 14, aB ta 32 hf1_106), (a 15, aB ta 48 wd1_106), (a 41, aS ta 256 gke), (a 36, aK ta 2 ru), (a 54, aS ta 300 gb1_106)] H := hP
                          have hD : va_D A [(a 53, aS ta 16 (qU q' e (gb1_106 (8 * i + e)))), (h0, oM a ar mn tp osz lsz ns ct), (a 0, aK ta 64 tIP), (a 1, aK ta 48 tSPR), (a 2, aK ta 32 tMIX), (a 3, aK ta 56 tCH), (a 4, aK ta 48 tSEC), (a 5, aK ta 512 tSBX), (a 10, aB ta 64 bi1_106), (a 11, aB ta 64 tu1_106), (a 12, aB ta 56 cd1_106), (a 13, aB ta 768 sk1_106), (a 14, aB ta 32 hf1_106), (a 15, aB ta 48 wd1_106), (a 41, aS ta 256 gke), (a 36, aK ta 2 ru), (a 54, aS ta 300 gb1_106)] := hD
                          refine lv_iinc (pc := 136) (v := nI (e + 1)) (lv' := [(7, .int (nI (e + 1))), (6, .int (nI (8 * i))), (5, .int (nI m1)), (4, .int (nI 8)), (0, .ref h0), (1, .int (nI sd)), (2, .int (nI n8)), (3, .int (nI 0))]) hx hb dX10_hide_136 hl (k := 0) rfl (by first | exact nI_add e 1 | rfl) (by decide) rfl (fun ls hl => ?_)
                          refine lv_goto (pc := 139) (tgt := 112) hx hb dX10_hide_139 (by decide) ?_
                          exact ih112 (e + 1) (qU q' e (gb1_106 (8 * i + e))) (by omega) (qSeg_s he (by omega) rfl) (by omega) _ _ (hP.sub [0, 1, 2, 3, 4, 5, 6, 7, 8, 9, 10, 11, 12, 13, 14, 15, 16] rfl) (hD.sub [0, 1, 2, 3, 4, 5, 6, 7, 8, 9, 10, 11, 12, 13, 14, 15, 16] (by decide) rfl) hS ls (lv_sub hl [0, 1, 2, 3, 4, 5, 6, 7] rfl)
                    exact LP112 _ 0 b' (by omega) (qSeg_0) (Nat.lt_succ_self _) _ _ (hP.sub [0, 1, 2, 3, 4, 5, 6, 7, 8, 9, 10, 11, 12, 13, 14, 15, 16] rfl) (hD.sub [0, 1, 2, 3, 4, 5, 6, 7, 8, 9, 10, 11, 12, 13, 14, 15, 16] (by decide) rfl) hS ls (lv_sub hl [0, 1, 2, 3, 4, 5, 6, 7] rfl)
                  · skip
                    rw [nI_leI (by omega) (by omega)] at c_4
                    refine lv_aload_n (pc := 70) hx hb dX10_hide_70 rfl (lv_at hl 4 rfl) ?_
                    refine va_get (pc := 71) (D := D) (ci := 8) (v := .ref (a 54)) (C := RX10) (T := TX10) (N := 57) hx hb hts iu10 hown hK hP 14 rfl rfl 54 (by decide) (hts _ tw_1099) (fun _ h9 => h9) rfl dX10_hide_71 ?_
                    refine lv_iload (pc := 74) hx hb dX10_hide_74 (lv_at hl 1 rfl) ?_
                    refine lv_iload (pc := 76) hx hb dX10_hide_76 (lv_at hl 0 rfl) ?_
                    refine lv_iadd (pc := 78) hx hb dX10_hide_78 ?_
                    refine q_top (y := nI (8 * i + d)) (nI_add (8 * i) d) ?_
                    refine lv_dup2_11 (pc := 79) hx hb dX10_hide_79 rfl rfl ?_
                    refine q_bald (pc := 80) hx hb hK hP 13 2 rfl rfl (k := 8 * i + d) (v := qs (y' (8 * i + d))) rfl (by omega) (by omega) rfl dX10_hide_80 ?_
                    refine lv_aload_n (pc := 81) hx hb dX10_hide_81 rfl (lv_at hl 4 rfl) ?_
                    refine va_get (pc := 82) (D := D) (ci := 8) (v := .ref (a 53)) (C := RX10) (T := TX10) (N := 57) hx hb hts iu10 hown hK hP 14 rfl rfl 53 (by decide) (hts _ tw_1098) (fun _ h9 => h9) rfl dX10_hide_82 ?_
                    refine lv_iload (pc := 85) hx hb dX10_hide_85 (lv_at hl 0 rfl) ?_
                    refine q_bald (pc := 87) hx hb hK hP 15 2 rfl rfl (k := d) (v := qs (b' d)) rfl (by omega) (by omega) rfl dX10_hide_87 ?_
                    refine lv_ixor (pc := 88) hx hb dX10_hide_88 ?_
                    refine q_top (y := qs ((y' (8 * i + d)) ^^^ (b' d))) (q_xor_s _ _) ?_
                    refine lv_i2b (pc := 89) (v := qs ((y' (8 * i + d)) ^^^ (b' d))) hx hb dX10_hide_89 (q_i2b_s _) ?_
                    refine q_bastS (pc := 90) hx hb hK hP hD hS 13 2 rfl rfl (k := 8 * i + d) rfl (by omega) (by omega) (b := (y' (8 * i + d)) ^^^ (b' d)) (qlo_qs _) dX10_hide_90 (fun H locs hP hD hS => ?_)
                    have hP : va_P D vwCl [(a 0, aK ta 64 tIP), (a 1, aK ta 48 tSPR), (a 2, aK ta 32 tMIX), (a 3, aK ta 56 tCH), (a 4, aK ta 48 tSEC), (a 5, aK ta 512 tSBX), (a 10, aB ta 64 zb), (a 11, aB ta 64 zt), (a 12, aB ta 56 zc), (a 13, aB ta 768 zs), (a 14, aB ta 32 zh), (a 15, aB ta 48 zw), (a 41, aS ta 256 gke), (a 54, aS ta 300 (qU y' (8 * i + d) ((y' (8 * i + d)) ^^^ (b' d)))), (h0, oM a ar mn tp osz lsz ns ct), (a 53, aS ta 16 b'), (a 36, aK ta 2 ru)] H := hP
                    have hD : va_D A [(a 0, aK ta 64 tIP), (a 1, aK ta 48 tSPR), (a 2, aK ta 32 tMIX), (a 3, aK ta 56 tCH), (a 4, aK ta 48 tSEC), (a 5, aK ta 512 tSBX), (a 10, aB ta 64 zb), (a 11, aB ta 64 zt), (a 12, aB ta 56 zc), (a 13, aB ta 768 zs), (a 14, aB ta 32 zh), (a 15, aB ta 48 zw), (a 41, aS ta 256 gke), (a 54, aS ta 300 (qU y' (8 * i + d) ((y' (8 * i + d)) ^^^ (b' d)))), (h0, oM a ar mn tp osz lsz ns ct), (a 53, aS ta 16 b'), (a 36, aK ta 2 ru)] := hD
                    refine lv_iinc (pc := 91) (v := nI (d + 1)) (lv' := [(7, .int (nI (d + 1))), (6, .int (nI (8 * i))), (5, .int (nI m1)), (4, .int (nI 8)), (0, .ref h0), (1, .int (nI sd)), (2, .int (nI n8)), (3, .int (nI 0))]) hx hb dX10_hide_91 hl (k := 0) rfl (by first | exact nI_add d 1 | rfl) (by decide) rfl (fun ls hl => ?_)
                    refine lv_goto (pc := 94) (tgt := 63) hx hb dX10_hide_94 (by decide) ?_
                    exact ih63 (d + 1) (qU y' (8 * i + d) ((y' (8 * i + d)) ^^^ (b' d))) (by omega) (qSeg_s hd rfl (by rw [hd.2 _ (by omega)])) (by omega) _ _ (hP.sub [0, 1, 2, 3, 4, 5, 6, 7, 8, 9, 10, 11, 12, 13, 14, 15, 16] rfl) (hD.sub [0, 1, 2, 3, 4, 5, 6, 7, 8, 9, 10, 11, 12, 13, 14, 15, 16] (by decide) rfl) hS ls (lv_sub hl [0, 1, 2, 3, 4, 5, 6, 7] rfl)
              exact LP63 _ 0 x' (by omega) (qSeg_0) (Nat.lt_succ_self _) _ _ (hP.sub [0, 1, 2, 3, 4, 5, 6, 7, 8, 9, 10, 11, 12, 13, 14, 15, 16] rfl) (hD.sub [0, 1, 2, 3, 4, 5, 6, 7, 8, 9, 10, 11, 12, 13, 14, 15, 16] (by decide) rfl) hS ls (lv_sub hl [0, 1, 2, 3, 4, 5, 6, 7] rfl)
        exact LP53 _ 0 w' gbl1_47 bi tu cd sk hf wd (by omega) (qSeg_0) (by rw [qL_zero hs_47 (by decide)]; rfl) (Nat.lt_succ_self _) _ _ (hP.sub [0, 1, 2, 3, 4, 5, 6, 7, 8, 9, 10, 11, 12, 13, 14, 15, 16] rfl) (hD.sub [0, 1, 2, 3, 4, 5, 6, 7, 8, 9, 10, 11, 12, 13, 14, 15, 16] (by decide) rfl) hS ls (lv_sub hl [0, 1, 2, 3, 4, 5, 6] rfl)
      · skip
        rw [q_eq0 (by omega)] at c_1
        refine lv_aload_n (pc := 30) hx hb dX10_hide_30 rfl (lv_at hl 2 rfl) ?_
        refine va_get (pc := 31) (D := D) (ci := 8) (v := .ref (a 54)) (C := RX10) (T := TX10) (N := 57) hx hb hts iu10 hown hK hP 15 rfl rfl 54 (by decide) (hts _ tw_1099) (fun _ h9 => h9) rfl dX10_hide_31 ?_
        refine lv_iload (pc := 34) hx hb dX10_hide_34 (lv_at hl 0 rfl) ?_
        refine lv_iconst (pc := 36) (v := nI 0) hx hb dX10_hide_36 (by decide +kernel) ?_
        refine q_bastS (pc := 37) hx hb hK hP hD hS 14 2 rfl rfl (k := m1) rfl (by omega) (by omega) (b := BitVec.ofNat 8 0) (qlo_nI _) dX10_hide_37 (fun H locs hP hD hS => ?_)
        have hP : va_P D vwCl [(a 0, aK ta 64 tIP), (a 1, aK ta 48 tSPR), (a 2, aK ta 32 tMIX), (a 3, aK ta 56 tCH), (a 4, aK ta 48 tSEC), (a 5, aK ta 512 tSBX), (a 10, aB ta 64 bi), (a 11, aB ta 64 tu), (a 12, aB ta 56 cd), (a 13, aB ta 768 sk), (a 14, aB ta 32 hf), (a 15, aB ta 48 wd), (a 53, aS ta 16 gbl), (a 41, aS ta 256 gke), (a 54, aS ta 300 (qU w' m1 (BitVec.ofNat 8 0))), (h0, oM a ar mn tp osz lsz ns ct), (a 36, aK ta 2 ru)] H := hP
        have hD : va_D A [(a 0, aK ta 64 tIP), (a 1, aK ta 48 tSPR), (a 2, aK ta 32 tMIX), (a 3, aK ta 56 tCH), (a 4, aK ta 48 tSEC), (a 5, aK ta 512 tSBX), (a 10, aB ta 64 bi), (a 11, aB ta 64 tu), (a 12, aB ta 56 cd), (a 13, aB ta 768 sk), (a 14, aB ta 32 hf), (a 15, aB ta 48 wd), (a 53, aS ta 16 gbl), (a 41, aS ta 256 gke), (a 54, aS ta 300 (qU w' m1 (BitVec.ofNat 8 0))), (h0, oM a ar mn tp osz lsz ns ct), (a 36, aK ta 2 ru)] := hD
        refine lv_iinc (pc := 38) (v := nI (m1 + 1)) (lv' := [(5, .int (nI (m1 + 1))), (4, .int (nI 8)), (0, .ref h0), (1, .int (nI sd)), (2, .int (nI n8)), (3, .int (nI 0))]) hx hb dX10_hide_38 hl (k := 0) rfl (by first | exact nI_add m1 1 | rfl) (by decide) rfl (fun ls hl => ?_)
        refine lv_goto (pc := 41) (tgt := 22) hx hb dX10_hide_41 (by decide) ?_
        exact ih22 (c + 1) (m1 + 1) (qU w' m1 (BitVec.ofNat 8 0)) (by omega) (by omega) (by rw [qL_snoc, hLL, List.append_assoc, List.cons_append, show c + 1 - 1 = (c - 1) + 1 by omega, List.replicate_succ']) (by omega) _ _ (hP.sub [0, 1, 2, 3, 4, 5, 6, 7, 8, 9, 10, 11, 12, 13, 14, 15, 16] rfl) (hD.sub [0, 1, 2, 3, 4, 5, 6, 7, 8, 9, 10, 11, 12, 13, 14, 15, 16] (by decide) rfl) hS ls (lv_sub hl [0, 1, 2, 3, 4, 5] rfl)
  exact LP22 _ 1 (n8 + 1) (qU gwk n8 (qlo (-128))) (by omega) (by omega) (by rw [qL_snoc, qlo_80]; rfl) (Nat.lt_succ_self _) _ _ (hP.sub [0, 1, 2, 3, 4, 5, 6, 7, 8, 9, 10, 11, 12, 13, 14, 15, 16] rfl) (hD.sub [0, 1, 2, 3, 4, 5, 6, 7, 8, 9, 10, 11, 12, 13, 14, 15, 16] (by decide) rfl) hS ls (lv_sub hl [0, 1, 2, 3, 4, 5] rfl)
set_option maxHeartbeats 4000000 in
set_option maxRecDepth 100000 in
theorem ct_X10_hide_30 (ll : Launch) (D : va_G) (ta : Nat → ClassId) {G : (Nat → Prop) → State → Heap → Prop} (hGok : GOK G) (h0 : Nat) (a : Nat → Nat) (ar : Nat) (mn : Nat) (tp : Nat) (osz : Nat) (lsz : Nat) (ns : Nat) (ct : Nat) (rk : Nat → BitVec 8) (ce : Nat → BitVec 8) (gbl : Nat → BitVec 8) (gke : Nat → BitVec 8) (gwk : Nat → BitVec 8) (ru : Nat → Nat) (le : Nat → Nat) (cn : Nat → Nat) (sd : Nat) (n8 : Nat) (hsd : sd ≤ 1) (hru : ru sd = 3) (hn8 : n8 ≤ 280) (hle : le sd = 16 ∨ le sd = 24 ∨ le sd = 32) (hcn : cn sd < 2147483648) (sz : Nat) : CT ll yX10_hide cX10_hide 8 (some .int) ({ frames := 5, cells := 0, slots := 0, locals := 122 } : Room) D ta G [.ref h0, .int (nI sd), .int (nI n8), .int (nI 0)] [(h0, oM a ar mn tp osz lsz ns ct), (a 8, aZ ta 256 BOX), (a 9, aZ ta 256 UBOX), (a 16, aS ta 240 rk), (a 18, aS ta 16 ce), (a 53, aS ta 16 gbl), (a 41, aS ta 256 gke), (a 36, aK ta 2 ru), (a 54, aS ta 300 gwk), (a 37, aK ta 2 le), (a 47, aK ta 2 cn)] sz (S := (Nat → BitVec 8) × (Nat → BitVec 8) × (Nat → BitVec 8) × (Nat → BitVec 8) × Nat) (fun u => some (.int (nI u.2.2.2.2))) (fun u => (u.2.2.2.2 = (n8 / 16 + 1) * 16) ∧ (qL u.2.2.2.1 u.2.2.2.2 = hide3 (seg gke (128 * sd) (le sd)) (cn sd) 0#8 (qL gwk n8))) (fun u => [(h0, oM a (le sd / 4 + 6) mn tp osz lsz ns ct), (a 8, aZ ta 256 BOX), (a 9, aZ ta 256 UBOX), (a 16, aS ta 240 u.1), (a 18, aS ta 16 u.2.1), (a 53, aS ta 16 u.2.2.1), (a 41, aS ta 256 gke), (a 36, aK ta 2 ru), (a 54, aS ta 300 u.2.2.2.1), (a 37, aK ta 2 le), (a 47, aK ta 2 cn)]) 0 0 := by
  refine CT.of_i (r := fun u => nI u.2.2.2.2) rfl (by decide) (Nat.le_of_ble_eq_true rfl) ?_
  intro pp ee ss mm below meth kc A Q hx hb hml hown hin hts hK hA hsz hG hret H locs hP hD hS ls hl
  have hl : lv_has ls 8 [(0, .ref h0), (1, .int (nI sd)), (2, .int (nI n8)), (3, .int (nI 0))] := hl
  refine lv_aload_n (pc := 0) hx hb dX10_hide_0 rfl (lv_at hl 0 rfl) ?_
  refine lv_iload_n (pc := 1) hx hb dX10_hide_1 rfl (lv_at hl 1 rfl) ?_
  refine cs_V (pc := 2) (idx := 368) (n := 1) (wr := [(a 8, aZ ta 256 BOX), (a 9, aZ ta 256 UBOX), (a 16, aS ta 240 rk), (a 18, aS ta 16 ce), (a 53, aS ta 16 gbl), (a 41, aS ta 256 gke), (a 54, aS ta 300 gwk), (a 37, aK ta 2 le), (a 47, aK ta 2 cn)]) (As := [.int (nI sd)]) (rest := []) (ci := 8) hx hb hml hown hts hGok hK hA hG hl.1 hP hD hS (ct_X10_blockOf_3 ll D ta hGok h0 a ar mn tp osz lsz ns ct ru sd (by first | assumption | omega | rfl | decide) (by first | assumption | omega | rfl | decide) H.size) tw_1392 tw_1389 tw_1391 tw_54 tw_75 hdX10_blockOf rfl ⟨rfl, rfl, Nat.le_of_ble_eq_true rfl, Nat.le_of_ble_eq_true rfl, Nat.le_of_ble_eq_true rfl, Nat.le_of_ble_eq_true rfl⟩ rfl rfl (q0 := 0) rfl [0, 7] [1, 2, 3, 4, 5, 6, 8, 9, 10] rfl rfl (by decide) rfl (Nat.le_of_ble_eq_true rfl) dX10_hide_2 (fun u H locs hq hP hD hS => ?_)
  refine W.eq (g2 := F0 mm 5 ls [.int (nI 16)]) rfl ?_
  have hP : va_P D vwCl [(a 8, aZ ta 256 BOX), (a 9, aZ ta 256 UBOX), (a 16, aS ta 240 rk), (a 18, aS ta 16 ce), (a 53, aS ta 16 gbl), (a 41, aS ta 256 gke), (a 54, aS ta 300 gwk), (a 37, aK ta 2 le), (a 47, aK ta 2 cn), (h0, oM a ar mn tp osz lsz ns ct), (a 36, aK ta 2 ru)] H := hP
  have hD : va_D A [(a 8, aZ ta 256 BOX), (a 9, aZ ta 256 UBOX), (a 16, aS ta 240 rk), (a 18, aS ta 16 ce), (a 53, aS ta 16 gbl), (a 41, aS ta 256 gke), (a 54, aS ta 300 gwk), (a 37, aK ta 2 le), (a 47, aK ta 2 cn), (h0, oM a ar mn tp osz lsz ns ct), (a 36, aK ta 2 ru)] := hD
  refine lv_istore (pc := 5) (lv' := [(4, .int (nI 16)), (0, .ref h0), (1, .int (nI sd)), (2, .int (nI n8)), (3, .int (nI 0))]) hx hb dX10_hide_5 hl (by decide) rfl (fun ls hl => ?_)
  refine lv_iload_n (pc := 7) hx hb dX10_hide_7 rfl (lv_at hl 3 rfl) ?_
  refine lv_istore (pc := 8) (lv' := [(5, .int (nI n8)), (4, .int (nI 16)), (0, .ref h0), (1, .int (nI sd)), (2, .int (nI n8)), (3, .int (nI 0))]) hx hb dX10_hide_8 hl (by decide) rfl (fun ls hl => ?_)
  refine lv_aload_n (pc := 10) hx hb dX10_hide_10 rfl (lv_at hl 2 rfl) ?_
  refine va_get (pc := 11) (D := D) (ci := 8) (v := .ref (a 54)) (C := RX10) (T := TX10) (N := 57) hx hb hts iu10 hown hK hP 9 rfl rfl 54 (by decide) (hts _ tw_1099) (fun _ h9 => h9) rfl dX10_hide_11 ?_
  refine lv_iload (pc := 14) hx hb dX10_hide_14 (lv_at hl 0 rfl) ?_
  refine lv_bipush (pc := 16) (v := (-128)) hx hb dX10_hide_16 (by decide +kernel) ?_
  refine q_bastS (pc := 18) hx hb hK hP hD hS 6 2 rfl rfl (k := n8) rfl (by omega) (by omega) (b := qlo (-128)) rfl dX10_hide_18 (fun H locs hP hD hS => ?_)
  have hP : va_P D vwCl [(a 8, aZ ta 256 BOX), (a 9, aZ ta 256 UBOX), (a 16, aS ta 240 rk), (a 18, aS ta 16 ce), (a 53, aS ta 16 gbl), (a 41, aS ta 256 gke), (a 54, aS ta 300 (qU gwk n8 (qlo (-128)))), (a 37, aK ta 2 le), (a 47, aK ta 2 cn), (h0, oM a ar mn tp osz lsz ns ct), (a 36, aK ta 2 ru)] H := hP
  have hD : va_D A [(a 8, aZ ta 256 BOX), (a 9, aZ ta 256 UBOX), (a 16, aS ta 240 rk), (a 18, aS ta 16 ce), (a 53, aS ta 16 gbl), (a 41, aS ta 256 gke), (a 54, aS ta 300 (qU gwk n8 (qlo (-128)))), (a 37, aK ta 2 le), (a 47, aK ta 2 cn), (h0, oM a ar mn tp osz lsz ns ct), (a 36, aK ta 2 ru)] := hD
  refine lv_iinc (pc := 19) (v := nI (n8 + 1)) (lv' := [(5, .int (nI (n8 + 1))), (4, .int (nI 16)), (0, .ref h0), (1, .int (nI sd)), (2, .int (nI n8)), (3, .int (nI 0))]) hx hb dX10_hide_19 hl (k := 0) rfl (by first | exact nI_add n8 1 | rfl) (by decide) rfl (fun ls hl => ?_)
  have LP22 : ∀ (nn22 : Nat) (c : Nat) (m1 : Nat) (w' : Nat → BitVec 8), (1 ≤ c ∧ c + n8 % 16 ≤ 16) → (m1 = n8 + c) → (qL w' m1 = qL gwk n8 ++ 0x80#8 :: List.replicate (c - 1) 0#8) → (16 - c < nn22) → ∀ (H : Heap) (locs : List Loc), va_P D vwCl [(a 8, aZ ta 256 BOX), (a 9, aZ ta 256 UBOX), (a 16, aS ta 240 rk), (a 18, aS ta 16 ce), (a 53, aS ta 16 gbl), (a 41, aS ta 256 gke), (a 54, aS ta 300 w'), (a 37, aK ta 2 le), (a 47, aK ta 2 cn), (h0, oM a ar mn tp osz lsz ns ct), (a 36, aK ta 2 ru)] H → va_D A [(a 8, aZ ta 256 BOX), (a 9, aZ ta 256 UBOX), (a 16, aS ta 240 rk), (a 18, aS ta 16 ce), (a 53, aS ta 16 gbl), (a 41, aS ta 256 gke), (a 54, aS ta 300 w'), (a 37, aK ta 2 le), (a 47, aK ta 2 cn), (h0, oM a ar mn tp osz lsz ns ct), (a 36, aK ta 2 ru)] → va_S A ss.heap H locs → ∀ ls : Array Slot, lv_has ls 8 [(5, .int (nI m1)), (4, .int (nI 16)), (0, .ref h0), (1, .int (nI sd)), (2, .int (nI n8)), (3, .int (nI 0))] → W pp ll ee ({ frames := 5, cells := 0, slots := 0, locals := 122 } : Room) ss mm (([.ref h0, .int (nI sd), .int (nI n8), .int (nI 0)] : List Value).toArray) below meth kc H locs 0 0 Q (F0 mm 22 ls []) := by
    intro nn22
    induction nn22 with
    | zero => intro c m1 w' hcc hm hLL hmu; exact absurd hmu (Nat.not_lt_zero _)
    | succ nn22 ih22 =>
      intro c m1 w' hcc hm hLL hmu22 H locs hP hD hS ls hl
      refine lv_iload (pc := 22) hx hb dX10_hide_22 (lv_at hl 0 rfl) ?_
      refine lv_iload (pc := 24) hx hb dX10_hide_24 (lv_at hl 1 rfl) ?_
      refine lv_irem (pc := 26) hx hb dX10_hide_26 (q_ne0 (by omega) (by omega)) ?_
      refine q_top (y := nI (m1 % 16)) (pk_rem (by omega) (by omega) (by omega)) ?_
      refine lv_if_eq (pc := 27) (tgt := 44) hx hb dX10_hide_27 (by decide) (fun c_1 => ?_) (fun c_1 => ?_)
      · skip
        rw [q_eq0 (by omega)] at c_1
        have hend : c + n8 % 16 = 16 := by omega
        have hP9 : qL w' m1 = qpad 16 (qL gwk n8) := by rw [hLL, qpad, qL_len, show 16 - 1 - n8 % 16 = c - 1 by omega]
        refine lv_aload_n (pc := 44) hx hb dX10_hide_44 rfl (lv_at hl 2 rfl) ?_
        refine lv_iload_n (pc := 45) hx hb dX10_hide_45 rfl (lv_at hl 3 rfl) ?_
        refine lv_iload_n (pc := 46) hx hb dX10_hide_46 rfl (lv_at hl 5 rfl) ?_
        refine cs_V (pc := 47) (idx := 371) (n := 2) (wr := [(a 54, aS ta 300 w')]) (As := [.int (nI sd), .int (nI 0)]) (rest := []) (ci := 8) hx hb hml hown hts hGok hK hA hG hl.1 hP hD hS (ct_X10_first_30 ll D ta hGok h0 a ar mn tp osz lsz ns ct rk ce gbl gke ru le cn sd (by first | assumption | omega | rfl | decide) (by first | assumption | omega | rfl | decide) (by first | assumption | omega | rfl | decide) (by first | assumption | omega | rfl | decide) H.size) tw_1396 tw_1393 tw_1395 tw_55 tw_75 hdX10_first rfl ⟨rfl, rfl, Nat.le_of_ble_eq_true rfl, Nat.le_of_ble_eq_true rfl, Nat.le_of_ble_eq_true rfl, Nat.le_of_ble_eq_true rfl⟩ rfl rfl (q0 := 9) rfl [9, 0, 1, 2, 3, 4, 5, 10, 7, 8] [6] rfl rfl (by decide) rfl (Nat.le_of_ble_eq_true rfl) dX10_hide_47 (fun u H locs hq hP hD hS => ?_)
        obtain ⟨rk1_47, ce1_47, gbl1_47⟩ := u
        have hq : (qL gbl1_47 16 = firstL (seg gke (128 * sd) (le sd)) (cn sd) 0#8) ∧ (rkOK rk1_47 (seg gke (128 * sd) (le sd))) := hq
        obtain ⟨hs_47, hrk_47⟩ := hq
        refine W.eq (g2 := F0 mm 50 ls []) rfl ?_
        have hP : va_P D vwCl [(a 54, aS ta 300 w'), (h0, oM a (le sd / 4 + 6) mn tp osz lsz ns ct), (a 8, aZ ta 256 BOX), (a 9, aZ ta 256 UBOX), (a 16, aS ta 240 rk1_47), (a 18, aS ta 16 ce1_47), (a 53, aS ta 16 gbl1_47), (a 41, aS ta 256 gke), (a 36, aK ta 2 ru), (a 37, aK ta 2 le), (a 47, aK ta 2 cn)] H := hP
        have hD : va_D A [(a 54, aS ta 300 w'), (h0, oM a (le sd / 4 + 6) mn tp osz lsz ns ct), (a 8, aZ ta 256 BOX), (a 9, aZ ta 256 UBOX), (a 16, aS ta 240 rk1_47), (a 18, aS ta 16 ce1_47), (a 53, aS ta 16 gbl1_47), (a 41, aS ta 256 gke), (a 36, aK ta 2 ru), (a 37, aK ta 2 le), (a 47, aK ta 2 cn)] := hD
        refine lv_iconst (pc := 50) (v := nI 0) hx hb dX10_hide_50 (by decide +kernel) ?_
        refine lv_istore (pc := 51) (lv' := [(6, .int (nI 0)), (5, .int (nI m1)), (4, .int (nI 16)), (0, .ref h0), (1, .int (nI sd)), (2, .int (nI n8)), (3, .int (nI 0))]) hx hb dX10_hide_51 hl (by decide) rfl (fun ls hl => ?_)
        have LP53 : ∀ (nn53 : Nat) (i : Nat) (x' : Nat → BitVec 8) (b' : Nat → BitVec 8) (e' : Nat → BitVec 8), (16 * i ≤ m1) → (qSeg x' w' 0 (16 * i) (encF (aesE (seg gke (128 * sd) (le sd))) 16 (firstL (seg gke (128 * sd) (le sd)) (cn sd) 0#8) (qL w' m1))) → (qL b' 16 = cbcM (aesE (seg gke (128 * sd) (le sd))) 16 (firstL (seg gke (128 * sd) (le sd)) (cn sd) 0#8) (qL w' m1) i) → (m1 - 16 * i < nn53) → ∀ (H : Heap) (locs : List Loc), va_P D vwCl [(a 54, aS ta 300 x'), (h0, oM a (le sd / 4 + 6) mn tp osz lsz ns ct), (a 8, aZ ta 256 BOX), (a 9, aZ ta 256 UBOX), (a 16, aS ta 240 rk1_47), (a 18, aS ta 16 e'), (a 53, aS ta 16 b'), (a 41, aS ta 256 gke), (a 36, aK ta 2 ru), (a 37, aK ta 2 le), (a 47, aK ta 2 cn)] H → va_D A [(a 54, aS ta 300 x'), (h0, oM a (le sd / 4 + 6) mn tp osz lsz ns ct), (a 8, aZ ta 256 BOX), (a 9, aZ ta 256 UBOX), (a 16, aS ta 240 rk1_47), (a 18, aS ta 16 e'), (a 53, aS ta 16 b'), (a 41, aS ta 256 gke), (a 36, aK ta 2 ru), (a 37, aK ta 2 le), (a 47, aK ta 2 cn)] → va_S A ss.heap H locs → ∀ ls : Array Slot, lv_has ls 8 [(6, .int (nI (16 * i))), (5, .int (nI m1)), (4, .int (nI 16)), (0, .ref h0), (1, .int (nI sd)), (2, .int (nI n8)), (3, .int (nI 0))] → W pp ll ee ({ frames := 5, cells := 0, slots := 0, locals := 122 } : Room) ss mm (([.ref h0, .int (nI sd), .int (nI n8), .int (nI 0)] : List Value).toArray) below meth kc H locs 0 0 Q (F0 mm 53 ls []) := by
          intro nn53
          induction nn53 with
          | zero => intro i x' b' e' hii hr hb1 hmu; exact absurd hmu (Nat.not_lt_zero _)
          | succ nn53 ih53 =>
            intro i x' b' e' hii hr hb1 hmu53 H locs hP hD hS ls hl
            refine lv_iload (pc := 53) hx hb dX10_hide_53 (lv_at hl 0 rfl) ?_
            refine lv_iload (pc := 55) hx hb dX10_hide_55 (lv_at hl 1 rfl) ?_
            refine lv_icmp_ge (pc := 57) (tgt := 152) hx hb dX10_hide_57 (by decide) (fun c_2 => ?_) (fun c_2 => ?_)
            · skip
              rw [nI_leI (by omega) (by omega)] at c_2
              refine lv_iload (pc := 152) hx hb dX10_hide_152 (lv_at hl 1 rfl) ?_
              have hq_3 : (m1 = (n8 / 16 + 1) * 16) ∧ (qL x' m1 = hide3 (seg gke (128 * sd) (le sd)) (cn sd) 0#8 (qL gwk n8)) := by
                refine ⟨by omega, ?_⟩
                rw [hide3, encL, ← hP9, qL_len, ← seg_0, qSeg_segk hr (by omega)]
              exact hret (⟨(rk1_47), (e'), (b'), (x'), (m1)⟩ : (Nat → BitVec 8) × (Nat → BitVec 8) × (Nat → BitVec 8) × (Nat → BitVec 8) × Nat) _ _ _ _ dX10_hide_154 hq_3 (hP.sub [1, 2, 3, 4, 5, 6, 7, 8, 0, 9, 10] rfl) (hD.sub [1, 2, 3, 4, 5, 6, 7, 8, 0, 9, 10] (by decide) rfl) hS
            · skip
              rw [nI_leI (by omega) (by omega)] at c_2
              refine lv_iconst (pc := 60) (v := nI 0) hx hb dX10_hide_60 (by decide +kernel) ?_
              refine lv_istore (pc := 61) (lv' := [(7, .int (nI 0)), (6, .int (nI (16 * i))), (5, .int (nI m1)), (4, .int (nI 16)), (0, .ref h0), (1, .int (nI sd)), (2, .int (nI n8)), (3, .int (nI 0))]) hx hb dX10_hide_61 hl (by decide) rfl (fun ls hl => ?_)
              have LP63 : ∀ (nn63 : Nat) (d : Nat) (y' : Nat → BitVec 8), (d ≤ 16) → (qSeg y' x' (16 * i) d (fun j => x' (16 * i + j) ^^^ b' j)) → (16 - d < nn63) → ∀ (H : Heap) (locs : List Loc), va_P D vwCl [(a 54, aS ta 300 y'), (h0, oM a (le sd / 4 + 6) mn tp osz lsz ns ct), (a 8, aZ ta 256 BOX), (a 9, aZ ta 256 UBOX), (a 16, aS ta 240 rk1_47), (a 18, aS ta 16 e'), (a 53, aS ta 16 b'), (a 41, aS ta 256 gke), (a 36, aK ta 2 ru), (a 37, aK ta 2 le), (a 47, aK ta 2 cn)] H → va_D A [(a 54, aS ta 300 y'), (h0, oM a (le sd / 4 + 6) mn tp osz lsz ns ct), (a 8, aZ ta 256 BOX), (a 9, aZ ta 256 UBOX), (a 16, aS ta 240 rk1_47), (a 18, aS ta 16 e'), (a 53, aS ta 16 b'), (a 41, aS ta 256 gke), (a 36, aK ta 2 ru), (a 37, aK ta 2 le), (a 47, aK ta 2 cn)] → va_S A ss.heap H locs → ∀ ls : Array Slot, lv_has ls 8 [(7, .int (nI d)), (6, .int (nI (16 * i))), (5, .int (nI m1)), (4, .int (nI 16)), (0, .ref h0), (1, .int (nI sd)), (2, .int (nI n8)), (3, .int (nI 0))] → W pp ll ee ({ frames := 5, cells := 0, slots := 0, locals := 122 } : Room) ss mm (([.ref h0, .int (nI sd), .int (nI n8), .int (nI 0)] : List Value).toArray) below meth kc H locs 0 0 Q (F0 mm 63 ls []) := by
                intro nn63
                induction nn63 with
                | zero => intro d y' hdd hd hmu; exact absurd hmu (Nat.not_lt_zero _)
                | succ nn63 ih63 =>
                  intro d y' hdd hd hmu63 H locs hP hD hS ls hl
                  refine lv_iload (pc := 63) hx hb dX10_hide_63 (lv_at hl 0 rfl) ?_
                  refine lv_iload (pc := 65) hx hb dX10_hide_65 (lv_at hl 3 rfl) ?_
                  refine lv_icmp_ge (pc := 67) (tgt := 97) hx hb dX10_hide_67 (by decide) (fun c_4 => ?_) (fun c_4 => ?_)
                  · skip
                    rw [nI_leI (by omega) (by omega)] at c_4
                    refine lv_aload_n (pc := 97) hx hb dX10_hide_97 rfl (lv_at hl 4 rfl) ?_
                    refine lv_iload_n (pc := 98) hx hb dX10_hide_98 rfl (lv_at hl 5 rfl) ?_
                    refine lv_aload_n (pc := 99) hx hb dX10_hide_99 rfl (lv_at hl 4 rfl) ?_
                    refine va_get (pc := 100) (D := D) (ci := 8) (v := .ref (a 54)) (C := RX10) (T := TX10) (N := 57) hx hb hts iu10 hown hK hP 1 rfl rfl 54 (by decide) (hts _ tw_1099) (fun _ h9 => h9) rfl dX10_hide_100 ?_
                    refine lv_iload (pc := 103) hx hb dX10_hide_103 (lv_at hl 1 rfl) ?_
                    refine lv_iconst (pc := 105) (v := nI 0) hx hb dX10_hide_105 (by decide +kernel) ?_
                    refine cs_V (pc := 106) (idx := 373) (n := 4) (wr := [(a 53, aS ta 16 b'), (a 41, aS ta 256 gke), (a 37, aK ta 2 le), (a 47, aK ta 2 cn)]) (As := [.int (nI sd), .ref (a 54), .int (nI (16 * i)), .int (nI 0)]) (rest := []) (ci := 8) hx hb hml hown hts hGok hK hA hG hl.1 hP hD hS (ct_X10_one_30 ll D ta hGok h0 a mn tp osz lsz ns ct rk1_47 e' ru sd (a 54) (16 * i) 300 y' (le sd) ((seg gke (128 * sd) (le sd))) (by first | assumption | omega | rfl | decide) (by first | assumption | omega | rfl | decide) (by first | assumption | omega | rfl | decide) (by first | assumption | omega | rfl | decide) (hle) (seg_len) (hrk_47) H.size) tw_1400 tw_1397 tw_1399 tw_56 tw_75 hdX10_one rfl ⟨rfl, rfl, Nat.le_of_ble_eq_true rfl, Nat.le_of_ble_eq_true rfl, Nat.le_of_ble_eq_true rfl, Nat.le_of_ble_eq_true rfl⟩ rfl rfl (q0 := 1) rfl [1, 2, 3, 4, 5, 8, 0] [6, 7, 9, 10] rfl rfl (by decide) rfl (Nat.le_of_ble_eq_true rfl) dX10_hide_106 (fun u H locs hq hP hD hS => ?_)
                    obtain ⟨ce1_106, gb1_106⟩ := u
                    have hq : (seg gb1_106 (16 * i) 16 = aesE ((seg gke (128 * sd) (le sd))) (seg y' (16 * i) 16)) ∧ (∀ jz, (jz < (16 * i) ∨ (16 * i) + 16 ≤ jz) → gb1_106 jz = y' jz) := hq
                    obtain ⟨hs_106, hfr_106⟩ := hq
                    refine W.eq (g2 := F0 mm 109 ls []) rfl ?_
                    have hP : va_P D vwCl [(a 53, aS ta 16 b'), (a 41, aS ta 256 gke), (a 37, aK ta 2 le), (a 47, aK ta 2 cn), (h0, oM a ((le sd) / 4 + 6) mn tp osz lsz ns ct), (a 8, aZ ta 256 BOX), (a 9, aZ ta 256 UBOX), (a 16, aS ta 240 rk1_47), (a 18, aS ta 16 ce1_106), (a 36, aK ta 2 ru), (a 54, aS ta 300 gb1_106)] H := hP
                    have hD : va_D A [(a 53, aS ta 16 b'), (a 41, aS ta 256 gke), (a 37, aK ta 2 le), (a 47, aK ta 2 cn), (h0, oM a ((le sd) / 4 + 6) mn tp osz lsz ns ct), (a 8, aZ ta 256 BOX), (a 9, aZ ta 256 UBOX), (a 16, aS ta 240 rk1_47), (a 18, aS ta 16 ce1_106), (a 36, aK ta 2 ru), (a 54, aS ta 300 gb1_106)] := hD
                    refine lv_iconst (pc := 109) (v := nI 0) hx hb dX10_hide_109 (by decide +kernel) ?_
                    refine lv_istore (pc := 110) (lv' := [(7, .int (nI 0)), (6, .int (nI (16 * i))), (5, .int (nI m1)), (4, .int (nI 16)), (0, .ref h0), (1, .int (nI sd)), (2, .int (nI n8)), (3, .int (nI 0))]) hx hb dX10_hide_110 hl (by decide) rfl (fun ls hl => ?_)
                    have LP112 : ∀ (nn112 : Nat) (e : Nat) (q' : Nat → BitVec 8), (e ≤ 16) → (qSeg q' b' 0 e (fun j => gb1_106 (16 * i + j))) → (16 - e < nn112) → ∀ (H : Heap) (locs : List Loc), va_P D vwCl [(a 53, aS ta 16 q'), (a 41, aS ta 256 gke), (a 37, aK ta 2 le), (a 47, aK ta 2 cn), (h0, oM a ((le sd) / 4 + 6) mn tp osz lsz ns ct), (a 8, aZ ta 256 BOX), (a 9, aZ ta 256 UBOX), (a 16, aS ta 240 rk1_47), (a 18, aS ta 16 ce1_106), (a 36, aK ta 2 ru), (a 54, aS ta 300 gb1_106)] H → va_D A [(a 53, aS ta 16 q'), (a 41, aS ta 256 gke), (a 37, aK ta 2 le), (a 47, aK ta 2 cn), (h0, oM a ((le sd) / 4 + 6) mn tp osz lsz ns ct), (a 8, aZ ta 256 BOX), (a 9, aZ ta 256 UBOX), (a 16, aS ta 240 rk1_47), (a 18, aS ta 16 ce1_106), (a 36, aK ta 2 ru), (a 54, aS ta 300 gb1_106)] → va_S A ss.heap H locs → ∀ ls : Array Slot, lv_has ls 8 [(7, .int (nI e)), (6, .int (nI (16 * i))), (5, .int (nI m1)), (4, .int (nI 16)), (0, .ref h0), (1, .int (nI sd)), (2, .int (nI n8)), (3, .int (nI 0))] → W pp ll ee ({ frames := 5, cells := 0, slots := 0, locals := 122 } : Room) ss mm (([.ref h0, .int (nI sd), .int (nI n8), .int (nI 0)] : List Value).toArray) below meth kc H locs 0 0 Q (F0 mm 112 ls []) := by
                      intro nn112
                      induction nn112 with
                      | zero => intro e q' hee he hmu; exact absurd hmu (Nat.not_lt_zero _)
                      | succ nn112 ih112 =>
                        intro e q' hee he hmu112 H locs hP hD hS ls hl
                        refine lv_iload (pc := 112) hx hb dX10_hide_112 (lv_at hl 0 rfl) ?_
                        refine lv_iload (pc := 114) hx hb dX10_hide_114 (lv_at hl 3 rfl) ?_
                        refine lv_icmp_ge (pc := 116) (tgt := 142) hx hb dX10_hide_116 (by decide) (fun c_5 => ?_) (fun c_5 => ?_)
                        · skip
                          rw [nI_leI (by omega) (by omega)] at c_5
                          refine lv_iload (pc := 142) hx hb dX10_hide_142 (lv_at hl 1 rfl) ?_
                          refine lv_iload (pc := 144) hx hb dX10_hide_144 (lv_at hl 3 rfl) ?_
                          refine lv_iadd (pc := 146) hx hb dX10_hide_146 ?_
                          refine q_top (y := nI (16 * i + 16)) (nI_add (16 * i) 16) ?_
                          refine lv_istore (pc := 147) (lv' := [(6, .int (nI (16 * i + 16))), (7, .int (nI e)), (5, .int (nI m1)), (4, .int (nI 16)), (0, .ref h0), (1, .int (nI sd)), (2, .int (nI n8)), (3, .int (nI 0))]) hx hb dX10_hide_147 hl (by decide) rfl (fun ls hl => ?_)
                          refine lv_goto (pc := 149) (tgt := 53) hx hb dX10_hide_149 (by decide) ?_
                          exact ih53 (i + 1) gb1_106 q' ce1_106 (by omega) ((enc_stepR (by decide) (n := m1) (m := m1 / 16) (by omega) (by omega) hr hb1 (by omega) hd hs_106 hfr_106 (by omega) he aes_Elen).1) ((enc_stepR (by decide) (n := m1) (m := m1 / 16) (by omega) (by omega) hr hb1 (by omega) hd hs_106 hfr_106 (by omega) he aes_Elen).2) (by omega) _ _ (hP.sub [10, 4, 5, 6, 7, 8, 0, 1, 9, 2, 3] rfl) (hD.sub [10, 4, 5, 6, 7, 8, 0, 1, 9, 2, 3] (by decide) rfl) hS ls (lv_sub hl [0, 2, 3, 4, 5, 6, 7] rfl)
                        · skip
                          rw [nI_leI (by omega) (by omega)] at c_5
                          refine lv_aload_n (pc := 119) hx hb dX10_hide_119 rfl (lv_at hl 4 rfl) ?_
                          refine va_get (pc := 120) (D := D) (ci := 8) (v := .ref (a 53)) (C := RX10) (T := TX10) (N := 57) hx hb hts iu10 hown hK hP 4 rfl rfl 53 (by decide) (hts _ tw_1098) (fun _ h9 => h9) rfl dX10_hide_120 ?_
                          refine lv_iload (pc := 123) hx hb dX10_hide_123 (lv_at hl 0 rfl) ?_
                          refine lv_aload_n (pc := 125) hx hb dX10_hide_125 rfl (lv_at hl 4 rfl) ?_
                          refine va_get (pc := 126) (D := D) (ci := 8) (v := .ref (a 54)) (C := RX10) (T := TX10) (N := 57) hx hb hts iu10 hown hK hP 4 rfl rfl 54 (by decide) (hts _ tw_1099) (fun _ h9 => h9) rfl dX10_hide_126 ?_
                          refine lv_iload (pc := 129) hx hb dX10_hide_129 (lv_at hl 1 rfl) ?_
                          refine lv_iload (pc := 131) hx hb dX10_hide_131 (lv_at hl 0 rfl) ?_
                          refine lv_iadd (pc := 133) hx hb dX10_hide_133 ?_
                          refine q_top (y := nI (16 * i + e)) (nI_add (16 * i) e) ?_
                          refine q_bald (pc := 134) hx hb hK hP 10 2 rfl rfl (k := 16 * i + e) (v := qs (gb1_106 (16 * i + e))) rfl (by omega) (by omega) rfl dX10_hide_134 ?_
                          refine q_bastS (pc := 135) hx hb hK hP hD hS 0 2 rfl rfl (k := e) rfl (by omega) (by omega) (b := gb1_106 (16 * i + e)) (qlo_qs _) dX10_hide_135 (fun H locs hP hD hS => ?_)
                          have hP : va_P D vwCl [(a 53, aS ta 16 (qU q' e (gb1_106 (16 * i + e)))), (a 41, aS ta 256 gke), (a 37, aK ta 2 le), (a 47, aK ta 2 cn), (h0, oM a ((le sd) / 4 + 6) mn tp osz lsz ns ct), (a 8, aZ ta 256 BOX), (a 9, aZ ta 256 UBOX), (a 16, aS ta 240 rk1_47), (a 18, aS ta 16 ce1_106), (a 36, aK ta 2 ru), (a 54, aS ta 300 gb1_106)] H := hP
                          have hD : va_D A [(a 53, aS ta 16 (qU q' e (gb1_106 (16 * i + e)))), (a 41, aS ta 256 gke), (a 37, aK ta 2 le), (a 47, aK ta 2 cn), (h0, oM a ((le sd) / 4 + 6) mn tp osz lsz ns ct), (a 8, aZ ta 256 BOX), (a 9, aZ ta 256 UBOX), (a 16, aS ta 240 rk1_47), (a 18, aS ta 16 ce1_106), (a 36, aK ta 2 ru), (a 54, aS ta 300 gb1_106)] := hD
                          refine lv_iinc (pc := 136) (v := nI (e + 1)) (lv' := [(7, .int (nI (e + 1))), (6, .int (nI (16 * i))), (5, .int (nI m1)), (4, .int (nI 16)), (0, .ref h0), (1, .int (nI sd)), (2, .int (nI n8)), (3, .int (nI 0))]) hx hb dX10_hide_136 hl (k := 0) rfl (by first | exact nI_add e 1 | rfl) (by decide) rfl (fun ls hl => ?_)
                          refine lv_goto (pc := 139) (tgt := 112) hx hb dX10_hide_139 (by decide) ?_
                          exact ih112 (e + 1) (qU q' e (gb1_106 (16 * i + e))) (by omega) (qSeg_s he (by omega) rfl) (by omega) _ _ (hP.sub [0, 1, 2, 3, 4, 5, 6, 7, 8, 9, 10] rfl) (hD.sub [0, 1, 2, 3, 4, 5, 6, 7, 8, 9, 10] (by decide) rfl) hS ls (lv_sub hl [0, 1, 2, 3, 4, 5, 6, 7] rfl)
                    exact LP112 _ 0 b' (by omega) (qSeg_0) (Nat.lt_succ_self _) _ _ (hP.sub [0, 1, 2, 3, 4, 5, 6, 7, 8, 9, 10] rfl) (hD.sub [0, 1, 2, 3, 4, 5, 6, 7, 8, 9, 10] (by decide) rfl) hS ls (lv_sub hl [0, 1, 2, 3, 4, 5, 6, 7] rfl)
                  · skip
                    rw [nI_leI (by omega) (by omega)] at c_4
                    refine lv_aload_n (pc := 70) hx hb dX10_hide_70 rfl (lv_at hl 4 rfl) ?_
                    refine va_get (pc := 71) (D := D) (ci := 8) (v := .ref (a 54)) (C := RX10) (T := TX10) (N := 57) hx hb hts iu10 hown hK hP 1 rfl rfl 54 (by decide) (hts _ tw_1099) (fun _ h9 => h9) rfl dX10_hide_71 ?_
                    refine lv_iload (pc := 74) hx hb dX10_hide_74 (lv_at hl 1 rfl) ?_
                    refine lv_iload (pc := 76) hx hb dX10_hide_76 (lv_at hl 0 rfl) ?_
                    refine lv_iadd (pc := 78) hx hb dX10_hide_78 ?_
                    refine q_top (y := nI (16 * i + d)) (nI_add (16 * i) d) ?_
                    refine lv_dup2_11 (pc := 79) hx hb dX10_hide_79 rfl rfl ?_
                    refine q_bald (pc := 80) hx hb hK hP 0 2 rfl rfl (k := 16 * i + d) (v := qs (y' (16 * i + d))) rfl (by omega) (by omega) rfl dX10_hide_80 ?_
                    refine lv_aload_n (pc := 81) hx hb dX10_hide_81 rfl (lv_at hl 4 rfl) ?_
                    refine va_get (pc := 82) (D := D) (ci := 8) (v := .ref (a 53)) (C := RX10) (T := TX10) (N := 57) hx hb hts iu10 hown hK hP 1 rfl rfl 53 (by decide) (hts _ tw_1098) (fun _ h9 => h9) rfl dX10_hide_82 ?_
                    refine lv_iload (pc := 85) hx hb dX10_hide_85 (lv_at hl 0 rfl) ?_
                    refine q_bald (pc := 87) hx hb hK hP 6 2 rfl rfl (k := d) (v := qs (b' d)) rfl (by omega) (by omega) rfl dX10_hide_87 ?_
                    refine lv_ixor (pc := 88) hx hb dX10_hide_88 ?_
                    refine q_top (y := qs ((y' (16 * i + d)) ^^^ (b' d))) (q_xor_s _ _) ?_
                    refine lv_i2b (pc := 89) (v := qs ((y' (16 * i + d)) ^^^ (b' d))) hx hb dX10_hide_89 (q_i2b_s _) ?_
                    refine q_bastS (pc := 90) hx hb hK hP hD hS 0 2 rfl rfl (k := 16 * i + d) rfl (by omega) (by omega) (b := (y' (16 * i + d)) ^^^ (b' d)) (qlo_qs _) dX10_hide_90 (fun H locs hP hD hS => ?_)
                    have hP : va_P D vwCl [(a 54, aS ta 300 (qU y' (16 * i + d) ((y' (16 * i + d)) ^^^ (b' d)))), (h0, oM a (le sd / 4 + 6) mn tp osz lsz ns ct), (a 8, aZ ta 256 BOX), (a 9, aZ ta 256 UBOX), (a 16, aS ta 240 rk1_47), (a 18, aS ta 16 e'), (a 53, aS ta 16 b'), (a 41, aS ta 256 gke), (a 36, aK ta 2 ru), (a 37, aK ta 2 le), (a 47, aK ta 2 cn)] H := hP
                    have hD : va_D A [(a 54, aS ta 300 (qU y' (16 * i + d) ((y' (16 * i + d)) ^^^ (b' d)))), (h0, oM a (le sd / 4 + 6) mn tp osz lsz ns ct), (a 8, aZ ta 256 BOX), (a 9, aZ ta 256 UBOX), (a 16, aS ta 240 rk1_47), (a 18, aS ta 16 e'), (a 53, aS ta 16 b'), (a 41, aS ta 256 gke), (a 36, aK ta 2 ru), (a 37, aK ta 2 le), (a 47, aK ta 2 cn)] := hD
                    refine lv_iinc (pc := 91) (v := nI (d + 1)) (lv' := [(7, .int (nI (d + 1))), (6, .int (nI (16 * i))), (5, .int (nI m1)), (4, .int (nI 16)), (0, .ref h0), (1, .int (nI sd)), (2, .int (nI n8)), (3, .int (nI 0))]) hx hb dX10_hide_91 hl (k := 0) rfl (by first | exact nI_add d 1 | rfl) (by decide) rfl (fun ls hl => ?_)
                    refine lv_goto (pc := 94) (tgt := 63) hx hb dX10_hide_94 (by decide) ?_
                    exact ih63 (d + 1) (qU y' (16 * i + d) ((y' (16 * i + d)) ^^^ (b' d))) (by omega) (qSeg_s hd rfl (by rw [hd.2 _ (by omega)])) (by omega) _ _ (hP.sub [0, 1, 2, 3, 4, 5, 6, 7, 8, 9, 10] rfl) (hD.sub [0, 1, 2, 3, 4, 5, 6, 7, 8, 9, 10] (by decide) rfl) hS ls (lv_sub hl [0, 1, 2, 3, 4, 5, 6, 7] rfl)
              exact LP63 _ 0 x' (by omega) (qSeg_0) (Nat.lt_succ_self _) _ _ (hP.sub [0, 1, 2, 3, 4, 5, 6, 7, 8, 9, 10] rfl) (hD.sub [0, 1, 2, 3, 4, 5, 6, 7, 8, 9, 10] (by decide) rfl) hS ls (lv_sub hl [0, 1, 2, 3, 4, 5, 6, 7] rfl)
        exact LP53 _ 0 w' gbl1_47 ce1_47 (by omega) (qSeg_0) (by rw [hs_47]; rfl) (Nat.lt_succ_self _) _ _ (hP.sub [0, 1, 2, 3, 4, 5, 6, 7, 8, 9, 10] rfl) (hD.sub [0, 1, 2, 3, 4, 5, 6, 7, 8, 9, 10] (by decide) rfl) hS ls (lv_sub hl [0, 1, 2, 3, 4, 5, 6] rfl)
      · skip
        rw [q_eq0 (by omega)] at c_1
        refine lv_aload_n (pc := 30) hx hb dX10_hide_30 rfl (lv_at hl 2 rfl) ?_
        refine va_get (pc := 31) (D := D) (ci := 8) (v := .ref (a 54)) (C := RX10) (T := TX10) (N := 57) hx hb hts iu10 hown hK hP 9 rfl rfl 54 (by decide) (hts _ tw_1099) (fun _ h9 => h9) rfl dX10_hide_31 ?_
        refine lv_iload (pc := 34) hx hb dX10_hide_34 (lv_at hl 0 rfl) ?_
        refine lv_iconst (pc := 36) (v := nI 0) hx hb dX10_hide_36 (by decide +kernel) ?_
        refine q_bastS (pc := 37) hx hb hK hP hD hS 6 2 rfl rfl (k := m1) rfl (by omega) (by omega) (b := BitVec.ofNat 8 0) (qlo_nI _) dX10_hide_37 (fun H locs hP hD hS => ?_)
        have hP : va_P D vwCl [(a 8, aZ ta 256 BOX), (a 9, aZ ta 256 UBOX), (a 16, aS ta 240 rk), (a 18, aS ta 16 ce), (a 53, aS ta 16 gbl), (a 41, aS ta 256 gke), (a 54, aS ta 300 (qU w' m1 (BitVec.ofNat 8 0))), (a 37, aK ta 2 le), (a 47, aK ta 2 cn), (h0, oM a ar mn tp osz lsz ns ct), (a 36, aK ta 2 ru)] H := hP
        have hD : va_D A [(a 8, aZ ta 256 BOX), (a 9, aZ ta 256 UBOX), (a 16, aS ta 240 rk), (a 18, aS ta 16 ce), (a 53, aS ta 16 gbl), (a 41, aS ta 256 gke), (a 54, aS ta 300 (qU w' m1 (BitVec.ofNat 8 0))), (a 37, aK ta 2 le), (a 47, aK ta 2 cn), (h0, oM a ar mn tp osz lsz ns ct), (a 36, aK ta 2 ru)] := hD
        refine lv_iinc (pc := 38) (v := nI (m1 + 1)) (lv' := [(5, .int (nI (m1 + 1))), (4, .int (nI 16)), (0, .ref h0), (1, .int (nI sd)), (2, .int (nI n8)), (3, .int (nI 0))]) hx hb dX10_hide_38 hl (k := 0) rfl (by first | exact nI_add m1 1 | rfl) (by decide) rfl (fun ls hl => ?_)
        refine lv_goto (pc := 41) (tgt := 22) hx hb dX10_hide_41 (by decide) ?_
        exact ih22 (c + 1) (m1 + 1) (qU w' m1 (BitVec.ofNat 8 0)) (by omega) (by omega) (by rw [qL_snoc, hLL, List.append_assoc, List.cons_append, show c + 1 - 1 = (c - 1) + 1 by omega, List.replicate_succ']) (by omega) _ _ (hP.sub [0, 1, 2, 3, 4, 5, 6, 7, 8, 9, 10] rfl) (hD.sub [0, 1, 2, 3, 4, 5, 6, 7, 8, 9, 10] (by decide) rfl) hS ls (lv_sub hl [0, 1, 2, 3, 4, 5] rfl)
  exact LP22 _ 1 (n8 + 1) (qU gwk n8 (qlo (-128))) (by omega) (by omega) (by rw [qL_snoc, qlo_80]; rfl) (Nat.lt_succ_self _) _ _ (hP.sub [0, 1, 2, 3, 4, 5, 6, 7, 8, 9, 10] rfl) (hD.sub [0, 1, 2, 3, 4, 5, 6, 7, 8, 9, 10] (by decide) rfl) hS ls (lv_sub hl [0, 1, 2, 3, 4, 5] rfl)
set_option maxHeartbeats 4000000 in
set_option maxRecDepth 100000 in
theorem ct_X10_hide_31 (ll : Launch) (D : va_G) (ta : Nat → ClassId) {G : (Nat → Prop) → State → Heap → Prop} (hGok : GOK G) (h0 : Nat) (a : Nat → Nat) (ar : Nat) (mn : Nat) (tp : Nat) (osz : Nat) (lsz : Nat) (ns : Nat) (ct : Nat) (rk : Nat → BitVec 8) (ce : Nat → BitVec 8) (gbl : Nat → BitVec 8) (gke : Nat → BitVec 8) (gwk : Nat → BitVec 8) (ru : Nat → Nat) (le : Nat → Nat) (cn : Nat → Nat) (sd : Nat) (n8 : Nat) (hsd : sd ≤ 1) (hru : ru sd = 3) (hn8 : n8 ≤ 280) (hle : le sd = 16 ∨ le sd = 24 ∨ le sd = 32) (hcn : cn sd < 2147483648) (sz : Nat) : CT ll yX10_hide cX10_hide 8 (some .int) ({ frames := 5, cells := 0, slots := 0, locals := 122 } : Room) D ta G [.ref h0, .int (nI sd), .int (nI n8), .int (nI 1)] [(h0, oM a ar mn tp osz lsz ns ct), (a 8, aZ ta 256 BOX), (a 9, aZ ta 256 UBOX), (a 16, aS ta 240 rk), (a 18, aS ta 16 ce), (a 53, aS ta 16 gbl), (a 41, aS ta 256 gke), (a 36, aK ta 2 ru), (a 54, aS ta 300 gwk), (a 37, aK ta 2 le), (a 47, aK ta 2 cn)] sz (S := (Nat → BitVec 8) × (Nat → BitVec 8) × (Nat → BitVec 8) × (Nat → BitVec 8) × Nat) (fun u => some (.int (nI u.2.2.2.2))) (fun u => (u.2.2.2.2 = (n8 / 16 + 1) * 16) ∧ (qL u.2.2.2.1 u.2.2.2.2 = hide3 (seg gke (128 * sd) (le sd)) (cn sd) 0x80#8 (qL gwk n8))) (fun u => [(h0, oM a (le sd / 4 + 6) mn tp osz lsz ns ct), (a 8, aZ ta 256 BOX), (a 9, aZ ta 256 UBOX), (a 16, aS ta 240 u.1), (a 18, aS ta 16 u.2.1), (a 53, aS ta 16 u.2.2.1), (a 41, aS ta 256 gke), (a 36, aK ta 2 ru), (a 54, aS ta 300 u.2.2.2.1), (a 37, aK ta 2 le), (a 47, aK ta 2 cn)]) 0 0 := by
  refine CT.of_i (r := fun u => nI u.2.2.2.2) rfl (by decide) (Nat.le_of_ble_eq_true rfl) ?_
  intro pp ee ss mm below meth kc A Q hx hb hml hown hin hts hK hA hsz hG hret H locs hP hD hS ls hl
  have hl : lv_has ls 8 [(0, .ref h0), (1, .int (nI sd)), (2, .int (nI n8)), (3, .int (nI 1))] := hl
  refine lv_aload_n (pc := 0) hx hb dX10_hide_0 rfl (lv_at hl 0 rfl) ?_
  refine lv_iload_n (pc := 1) hx hb dX10_hide_1 rfl (lv_at hl 1 rfl) ?_
  refine cs_V (pc := 2) (idx := 368) (n := 1) (wr := [(a 8, aZ ta 256 BOX), (a 9, aZ ta 256 UBOX), (a 16, aS ta 240 rk), (a 18, aS ta 16 ce), (a 53, aS ta 16 gbl), (a 41, aS ta 256 gke), (a 54, aS ta 300 gwk), (a 37, aK ta 2 le), (a 47, aK ta 2 cn)]) (As := [.int (nI sd)]) (rest := []) (ci := 8) hx hb hml hown hts hGok hK hA hG hl.1 hP hD hS (ct_X10_blockOf_3 ll D ta hGok h0 a ar mn tp osz lsz ns ct ru sd (by first | assumption | omega | rfl | decide) (by first | assumption | omega | rfl | decide) H.size) tw_1392 tw_1389 tw_1391 tw_54 tw_75 hdX10_blockOf rfl ⟨rfl, rfl, Nat.le_of_ble_eq_true rfl, Nat.le_of_ble_eq_true rfl, Nat.le_of_ble_eq_true rfl, Nat.le_of_ble_eq_true rfl⟩ rfl rfl (q0 := 0) rfl [0, 7] [1, 2, 3, 4, 5, 6, 8, 9, 10] rfl rfl (by decide) rfl (Nat.le_of_ble_eq_true rfl) dX10_hide_2 (fun u H locs hq hP hD hS => ?_)
  refine W.eq (g2 := F0 mm 5 ls [.int (nI 16)]) rfl ?_
  have hP : va_P D vwCl [(a 8, aZ ta 256 BOX), (a 9, aZ ta 256 UBOX), (a 16, aS ta 240 rk), (a 18, aS ta 16 ce), (a 53, aS ta 16 gbl), (a 41, aS ta 256 gke), (a 54, aS ta 300 gwk), (a 37, aK ta 2 le), (a 47, aK ta 2 cn), (h0, oM a ar mn tp osz lsz ns ct), (a 36, aK ta 2 ru)] H := hP
  have hD : va_D A [(a 8, aZ ta 256 BOX), (a 9, aZ ta 256 UBOX), (a 16, aS ta 240 rk), (a 18, aS ta 16 ce), (a 53, aS ta 16 gbl), (a 41, aS ta 256 gke), (a 54, aS ta 300 gwk), (a 37, aK ta 2 le), (a 47, aK ta 2 cn), (h0, oM a ar mn tp osz lsz ns ct), (a 36, aK ta 2 ru)] := hD
  refine lv_istore (pc := 5) (lv' := [(4, .int (nI 16)), (0, .ref h0), (1, .int (nI sd)), (2, .int (nI n8)), (3, .int (nI 1))]) hx hb dX10_hide_5 hl (by decide) rfl (fun ls hl => ?_)
  refine lv_iload_n (pc := 7) hx hb dX10_hide_7 rfl (lv_at hl 3 rfl) ?_
  refine lv_istore (pc := 8) (lv' := [(5, .int (nI n8)), (4, .int (nI 16)), (0, .ref h0), (1, .int (nI sd)), (2, .int (nI n8)), (3, .int (nI 1))]) hx hb dX10_hide_8 hl (by decide) rfl (fun ls hl => ?_)
  refine lv_aload_n (pc := 10) hx hb dX10_hide_10 rfl (lv_at hl 2 rfl) ?_
  refine va_get (pc := 11) (D := D) (ci := 8) (v := .ref (a 54)) (C := RX10) (T := TX10) (N := 57) hx hb hts iu10 hown hK hP 9 rfl rfl 54 (by decide) (hts _ tw_1099) (fun _ h9 => h9) rfl dX10_hide_11 ?_
  refine lv_iload (pc := 14) hx hb dX10_hide_14 (lv_at hl 0 rfl) ?_
  refine lv_bipush (pc := 16) (v := (-128)) hx hb dX10_hide_16 (by decide +kernel) ?_
  refine q_bastS (pc := 18) hx hb hK hP hD hS 6 2 rfl rfl (k := n8) rfl (by omega) (by omega) (b := qlo (-128)) rfl dX10_hide_18 (fun H locs hP hD hS => ?_)
  have hP : va_P D vwCl [(a 8, aZ ta 256 BOX), (a 9, aZ ta 256 UBOX), (a 16, aS ta 240 rk), (a 18, aS ta 16 ce), (a 53, aS ta 16 gbl), (a 41, aS ta 256 gke), (a 54, aS ta 300 (qU gwk n8 (qlo (-128)))), (a 37, aK ta 2 le), (a 47, aK ta 2 cn), (h0, oM a ar mn tp osz lsz ns ct), (a 36, aK ta 2 ru)] H := hP
  have hD : va_D A [(a 8, aZ ta 256 BOX), (a 9, aZ ta 256 UBOX), (a 16, aS ta 240 rk), (a 18, aS ta 16 ce), (a 53, aS ta 16 gbl), (a 41, aS ta 256 gke), (a 54, aS ta 300 (qU gwk n8 (qlo (-128)))), (a 37, aK ta 2 le), (a 47, aK ta 2 cn), (h0, oM a ar mn tp osz lsz ns ct), (a 36, aK ta 2 ru)] := hD
  refine lv_iinc (pc := 19) (v := nI (n8 + 1)) (lv' := [(5, .int (nI (n8 + 1))), (4, .int (nI 16)), (0, .ref h0), (1, .int (nI sd)), (2, .int (nI n8)), (3, .int (nI 1))]) hx hb dX10_hide_19 hl (k := 0) rfl (by first | exact nI_add n8 1 | rfl) (by decide) rfl (fun ls hl => ?_)
  have LP22 : ∀ (nn22 : Nat) (c : Nat) (m1 : Nat) (w' : Nat → BitVec 8), (1 ≤ c ∧ c + n8 % 16 ≤ 16) → (m1 = n8 + c) → (qL w' m1 = qL gwk n8 ++ 0x80#8 :: List.replicate (c - 1) 0#8) → (16 - c < nn22) → ∀ (H : Heap) (locs : List Loc), va_P D vwCl [(a 8, aZ ta 256 BOX), (a 9, aZ ta 256 UBOX), (a 16, aS ta 240 rk), (a 18, aS ta 16 ce), (a 53, aS ta 16 gbl), (a 41, aS ta 256 gke), (a 54, aS ta 300 w'), (a 37, aK ta 2 le), (a 47, aK ta 2 cn), (h0, oM a ar mn tp osz lsz ns ct), (a 36, aK ta 2 ru)] H → va_D A [(a 8, aZ ta 256 BOX), (a 9, aZ ta 256 UBOX), (a 16, aS ta 240 rk), (a 18, aS ta 16 ce), (a 53, aS ta 16 gbl), (a 41, aS ta 256 gke), (a 54, aS ta 300 w'), (a 37, aK ta 2 le), (a 47, aK ta 2 cn), (h0, oM a ar mn tp osz lsz ns ct), (a 36, aK ta 2 ru)] → va_S A ss.heap H locs → ∀ ls : Array Slot, lv_has ls 8 [(5, .int (nI m1)), (4, .int (nI 16)), (0, .ref h0), (1, .int (nI sd)), (2, .int (nI n8)), (3, .int (nI 1))] → W pp ll ee ({ frames := 5, cells := 0, slots := 0, locals := 122 } : Room) ss mm (([.ref h0, .int (nI sd), .int (nI n8), .int (nI 1)] : List Value).toArray) below meth kc H locs 0 0 Q (F0 mm 22 ls []) := by
    intro nn22
    induction nn22 with
    | zero => intro c m1 w' hcc hm hLL hmu; exact absurd hmu (Nat.not_lt_zero _)
    | succ nn22 ih22 =>
      intro c m1 w' hcc hm hLL hmu22 H locs hP hD hS ls hl
      refine lv_iload (pc := 22) hx hb dX10_hide_22 (lv_at hl 0 rfl) ?_
      refine lv_iload (pc := 24) hx hb dX10_hide_24 (lv_at hl 1 rfl) ?_
      refine lv_irem (pc := 26) hx hb dX10_hide_26 (q_ne0 (by omega) (by omega)) ?_
      refine q_top (y := nI (m1 % 16)) (pk_rem (by omega) (by omega) (by omega)) ?_
      refine lv_if_eq (pc := 27) (tgt := 44) hx hb dX10_hide_27 (by decide) (fun c_1 => ?_) (fun c_1 => ?_)
      · skip
        rw [q_eq0 (by omega)] at c_1
        have hend : c + n8 % 16 = 16 := by omega
        have hP9 : qL w' m1 = qpad 16 (qL gwk n8) := by rw [hLL, qpad, qL_len, show 16 - 1 - n8 % 16 = c - 1 by omega]
        refine lv_aload_n (pc := 44) hx hb dX10_hide_44 rfl (lv_at hl 2 rfl) ?_
        refine lv_iload_n (pc := 45) hx hb dX10_hide_45 rfl (lv_at hl 3 rfl) ?_
        refine lv_iload_n (pc := 46) hx hb dX10_hide_46 rfl (lv_at hl 5 rfl) ?_
        refine cs_V (pc := 47) (idx := 371) (n := 2) (wr := [(a 54, aS ta 300 w')]) (As := [.int (nI sd), .int (nI 1)]) (rest := []) (ci := 8) hx hb hml hown hts hGok hK hA hG hl.1 hP hD hS (ct_X10_first_31 ll D ta hGok h0 a ar mn tp osz lsz ns ct rk ce gbl gke ru le cn sd (by first | assumption | omega | rfl | decide) (by first | assumption | omega | rfl | decide) (by first | assumption | omega | rfl | decide) (by first | assumption | omega | rfl | decide) H.size) tw_1396 tw_1393 tw_1395 tw_55 tw_75 hdX10_first rfl ⟨rfl, rfl, Nat.le_of_ble_eq_true rfl, Nat.le_of_ble_eq_true rfl, Nat.le_of_ble_eq_true rfl, Nat.le_of_ble_eq_true rfl⟩ rfl rfl (q0 := 9) rfl [9, 0, 1, 2, 3, 4, 5, 10, 7, 8] [6] rfl rfl (by decide) rfl (Nat.le_of_ble_eq_true rfl) dX10_hide_47 (fun u H locs hq hP hD hS => ?_)
        obtain ⟨rk1_47, ce1_47, gbl1_47⟩ := u
        have hq : (qL gbl1_47 16 = firstL (seg gke (128 * sd) (le sd)) (cn sd) 0x80#8) ∧ (rkOK rk1_47 (seg gke (128 * sd) (le sd))) := hq
        obtain ⟨hs_47, hrk_47⟩ := hq
        refine W.eq (g2 := F0 mm 50 ls []) rfl ?_
        have hP : va_P D vwCl [(a 54, aS ta 300 w'), (h0, oM a (le sd / 4 + 6) mn tp osz lsz ns ct), (a 8, aZ ta 256 BOX), (a 9, aZ ta 256 UBOX), (a 16, aS ta 240 rk1_47), (a 18, aS ta 16 ce1_47), (a 53, aS ta 16 gbl1_47), (a 41, aS ta 256 gke), (a 36, aK ta 2 ru), (a 37, aK ta 2 le), (a 47, aK ta 2 cn)] H := hP
        have hD : va_D A [(a 54, aS ta 300 w'), (h0, oM a (le sd / 4 + 6) mn tp osz lsz ns ct), (a 8, aZ ta 256 BOX), (a 9, aZ ta 256 UBOX), (a 16, aS ta 240 rk1_47), (a 18, aS ta 16 ce1_47), (a 53, aS ta 16 gbl1_47), (a 41, aS ta 256 gke), (a 36, aK ta 2 ru), (a 37, aK ta 2 le), (a 47, aK ta 2 cn)] := hD
        refine lv_iconst (pc := 50) (v := nI 0) hx hb dX10_hide_50 (by decide +kernel) ?_
        refine lv_istore (pc := 51) (lv' := [(6, .int (nI 0)), (5, .int (nI m1)), (4, .int (nI 16)), (0, .ref h0), (1, .int (nI sd)), (2, .int (nI n8)), (3, .int (nI 1))]) hx hb dX10_hide_51 hl (by decide) rfl (fun ls hl => ?_)
        have LP53 : ∀ (nn53 : Nat) (i : Nat) (x' : Nat → BitVec 8) (b' : Nat → BitVec 8) (e' : Nat → BitVec 8), (16 * i ≤ m1) → (qSeg x' w' 0 (16 * i) (encF (aesE (seg gke (128 * sd) (le sd))) 16 (firstL (seg gke (128 * sd) (le sd)) (cn sd) 0x80#8) (qL w' m1))) → (qL b' 16 = cbcM (aesE (seg gke (128 * sd) (le sd))) 16 (firstL (seg gke (128 * sd) (le sd)) (cn sd) 0x80#8) (qL w' m1) i) → (m1 - 16 * i < nn53) → ∀ (H : Heap) (locs : List Loc), va_P D vwCl [(a 54, aS ta 300 x'), (h0, oM a (le sd / 4 + 6) mn tp osz lsz ns ct), (a 8, aZ ta 256 BOX), (a 9, aZ ta 256 UBOX), (a 16, aS ta 240 rk1_47), (a 18, aS ta 16 e'), (a 53, aS ta 16 b'), (a 41, aS ta 256 gke), (a 36, aK ta 2 ru), (a 37, aK ta 2 le), (a 47, aK ta 2 cn)] H → va_D A [(a 54, aS ta 300 x'), (h0, oM a (le sd / 4 + 6) mn tp osz lsz ns ct), (a 8, aZ ta 256 BOX), (a 9, aZ ta 256 UBOX), (a 16, aS ta 240 rk1_47), (a 18, aS ta 16 e'), (a 53, aS ta 16 b'), (a 41, aS ta 256 gke), (a 36, aK ta 2 ru), (a 37, aK ta 2 le), (a 47, aK ta 2 cn)] → va_S A ss.heap H locs → ∀ ls : Array Slot, lv_has ls 8 [(6, .int (nI (16 * i))), (5, .int (nI m1)), (4, .int (nI 16)), (0, .ref h0), (1, .int (nI sd)), (2, .int (nI n8)), (3, .int (nI 1))] → W pp ll ee ({ frames := 5, cells := 0, slots := 0, locals := 122 } : Room) ss mm (([.ref h0, .int (nI sd), .int (nI n8), .int (nI 1)] : List Value).toArray) below meth kc H locs 0 0 Q (F0 mm 53 ls []) := by
          intro nn53
          induction nn53 with
          | zero => intro i x' b' e' hii hr hb1 hmu; exact absurd hmu (Nat.not_lt_zero _)
          | succ nn53 ih53 =>
            intro i x' b' e' hii hr hb1 hmu53 H locs hP hD hS ls hl
            refine lv_iload (pc := 53) hx hb dX10_hide_53 (lv_at hl 0 rfl) ?_
            refine lv_iload (pc := 55) hx hb dX10_hide_55 (lv_at hl 1 rfl) ?_
            refine lv_icmp_ge (pc := 57) (tgt := 152) hx hb dX10_hide_57 (by decide) (fun c_2 => ?_) (fun c_2 => ?_)
            · skip
              rw [nI_leI (by omega) (by omega)] at c_2
              refine lv_iload (pc := 152) hx hb dX10_hide_152 (lv_at hl 1 rfl) ?_
              have hq_3 : (m1 = (n8 / 16 + 1) * 16) ∧ (qL x' m1 = hide3 (seg gke (128 * sd) (le sd)) (cn sd) 0x80#8 (qL gwk n8)) := by
                refine ⟨by omega, ?_⟩
                rw [hide3, encL, ← hP9, qL_len, ← seg_0, qSeg_segk hr (by omega)]
              exact hret (⟨(rk1_47), (e'), (b'), (x'), (m1)⟩ : (Nat → BitVec 8) × (Nat → BitVec 8) × (Nat → BitVec 8) × (Nat → BitVec 8) × Nat) _ _ _ _ dX10_hide_154 hq_3 (hP.sub [1, 2, 3, 4, 5, 6, 7, 8, 0, 9, 10] rfl) (hD.sub [1, 2, 3, 4, 5, 6, 7, 8, 0, 9, 10] (by decide) rfl) hS
            · skip
              rw [nI_leI (by omega) (by omega)] at c_2
              refine lv_iconst (pc := 60) (v := nI 0) hx hb dX10_hide_60 (by decide +kernel) ?_
              refine lv_istore (pc := 61) (lv' := [(7, .int (nI 0)), (6, .int (nI (16 * i))), (5, .int (nI m1)), (4, .int (nI 16)), (0, .ref h0), (1, .int (nI sd)), (2, .int (nI n8)), (3, .int (nI 1))]) hx hb dX10_hide_61 hl (by decide) rfl (fun ls hl => ?_)
              have LP63 : ∀ (nn63 : Nat) (d : Nat) (y' : Nat → BitVec 8), (d ≤ 16) → (qSeg y' x' (16 * i) d (fun j => x' (16 * i + j) ^^^ b' j)) → (16 - d < nn63) → ∀ (H : Heap) (locs : List Loc), va_P D vwCl [(a 54, aS ta 300 y'), (h0, oM a (le sd / 4 + 6) mn tp osz lsz ns ct), (a 8, aZ ta 256 BOX), (a 9, aZ ta 256 UBOX), (a 16, aS ta 240 rk1_47), (a 18, aS ta 16 e'), (a 53, aS ta 16 b'), (a 41, aS ta 256 gke), (a 36, aK ta 2 ru), (a 37, aK ta 2 le), (a 47, aK ta 2 cn)] H → va_D A [(a 54, aS ta 300 y'), (h0, oM a (le sd / 4 + 6) mn tp osz lsz ns ct), (a 8, aZ ta 256 BOX), (a 9, aZ ta 256 UBOX), (a 16, aS ta 240 rk1_47), (a 18, aS ta 16 e'), (a 53, aS ta 16 b'), (a 41, aS ta 256 gke), (a 36, aK ta 2 ru), (a 37, aK ta 2 le), (a 47, aK ta 2 cn)] → va_S A ss.heap H locs → ∀ ls : Array Slot, lv_has ls 8 [(7, .int (nI d)), (6, .int (nI (16 * i))), (5, .int (nI m1)), (4, .int (nI 16)), (0, .ref h0), (1, .int (nI sd)), (2, .int (nI n8)), (3, .int (nI 1))] → W pp ll ee ({ frames := 5, cells := 0, slots := 0, locals := 122 } : Room) ss mm (([.ref h0, .int (nI sd), .int (nI n8), .int (nI 1)] : List Value).toArray) below meth kc H locs 0 0 Q (F0 mm 63 ls []) := by
                intro nn63
                induction nn63 with
                | zero => intro d y' hdd hd hmu; exact absurd hmu (Nat.not_lt_zero _)
                | succ nn63 ih63 =>
                  intro d y' hdd hd hmu63 H locs hP hD hS ls hl
                  refine lv_iload (pc := 63) hx hb dX10_hide_63 (lv_at hl 0 rfl) ?_
                  refine lv_iload (pc := 65) hx hb dX10_hide_65 (lv_at hl 3 rfl) ?_
                  refine lv_icmp_ge (pc := 67) (tgt := 97) hx hb dX10_hide_67 (by decide) (fun c_4 => ?_) (fun c_4 => ?_)
                  · skip
                    rw [nI_leI (by omega) (by omega)] at c_4
                    refine lv_aload_n (pc := 97) hx hb dX10_hide_97 rfl (lv_at hl 4 rfl) ?_
                    refine lv_iload_n (pc := 98) hx hb dX10_hide_98 rfl (lv_at hl 5 rfl) ?_
                    refine lv_aload_n (pc := 99) hx hb dX10_hide_99 rfl (lv_at hl 4 rfl) ?_
                    refine va_get (pc := 100) (D := D) (ci := 8) (v := .ref (a 54)) (C := RX10) (T := TX10) (N := 57) hx hb hts iu10 hown hK hP 1 rfl rfl 54 (by decide) (hts _ tw_1099) (fun _ h9 => h9) rfl dX10_hide_100 ?_
                    refine lv_iload (pc := 103) hx hb dX10_hide_103 (lv_at hl 1 rfl) ?_
                    refine lv_iconst (pc := 105) (v := nI 0) hx hb dX10_hide_105 (by decide +kernel) ?_
                    refine cs_V (pc := 106) (idx := 373) (n := 4) (wr := [(a 53, aS ta 16 b'), (a 41, aS ta 256 gke), (a 37, aK ta 2 le), (a 47, aK ta 2 cn)]) (As := [.int (nI sd), .ref (a 54), .int (nI (16 * i)), .int (nI 0)]) (rest := []) (ci := 8) hx hb hml hown hts hGok hK hA hG hl.1 hP hD hS (ct_X10_one_30 ll D ta hGok h0 a mn tp osz lsz ns ct rk1_47 e' ru sd (a 54) (16 * i) 300 y' (le sd) ((seg gke (128 * sd) (le sd))) (by first | assumption | omega | rfl | decide) (by first | assumption | omega | rfl | decide) (by first | assumption | omega | rfl | decide) (by first | assumption | omega | rfl | decide) (hle) (seg_len) (hrk_47) H.size) tw_1400 tw_1397 tw_1399 tw_56 tw_75 hdX10_one rfl ⟨rfl, rfl, Nat.le_of_ble_eq_true rfl, Nat.le_of_ble_eq_true rfl, Nat.le_of_ble_eq_true rfl, Nat.le_of_ble_eq_true rfl⟩ rfl rfl (q0 := 1) rfl [1, 2, 3, 4, 5, 8, 0] [6, 7, 9, 10] rfl rfl (by decide) rfl (Nat.le_of_ble_eq_true rfl) dX10_hide_106 (fun u H locs hq hP hD hS => ?_)
                    obtain ⟨ce1_106, gb1_106⟩ := u
                    have hq : (seg gb1_106 (16 * i) 16 = aesE ((seg gke (128 * sd) (le sd))) (seg y' (16 * i) 16)) ∧ (∀ jz, (jz < (16 * i) ∨ (16 * i) + 16 ≤ jz) → gb1_106 jz = y' jz) := hq
                    obtain ⟨hs_106, hfr_106⟩ := hq
                    refine W.eq (g2 := F0 mm 109 ls []) rfl ?_
                    have hP : va_P D vwCl [(a 53, aS ta 16 b'), (a 41, aS ta 256 gke), (a 37, aK ta 2 le), (a 47, aK ta 2 cn), (h0, oM a ((le sd) / 4 + 6) mn tp osz lsz ns ct), (a 8, aZ ta 256 BOX), (a 9, aZ ta 256 UBOX), (a 16, aS ta 240 rk1_47), (a 18, aS ta 16 ce1_106), (a 36, aK ta 2 ru), (a 54, aS ta 300 gb1_106)] H := hP
                    have hD : va_D A [(a 53, aS ta 16 b'), (a 41, aS ta 256 gke), (a 37, aK ta 2 le), (a 47, aK ta 2 cn), (h0, oM a ((le sd) / 4 + 6) mn tp osz lsz ns ct), (a 8, aZ ta 256 BOX), (a 9, aZ ta 256 UBOX), (a 16, aS ta 240 rk1_47), (a 18, aS ta 16 ce1_106), (a 36, aK ta 2 ru), (a 54, aS ta 300 gb1_106)] := hD
                    refine lv_iconst (pc := 109) (v := nI 0) hx hb dX10_hide_109 (by decide +kernel) ?_
                    refine lv_istore (pc := 110) (lv' := [(7, .int (nI 0)), (6, .int (nI (16 * i))), (5, .int (nI m1)), (4, .int (nI 16)), (0, .ref h0), (1, .int (nI sd)), (2, .int (nI n8)), (3, .int (nI 1))]) hx hb dX10_hide_110 hl (by decide) rfl (fun ls hl => ?_)
                    have LP112 : ∀ (nn112 : Nat) (e : Nat) (q' : Nat → BitVec 8), (e ≤ 16) → (qSeg q' b' 0 e (fun j => gb1_106 (16 * i + j))) → (16 - e < nn112) → ∀ (H : Heap) (locs : List Loc), va_P D vwCl [(a 53, aS ta 16 q'), (a 41, aS ta 256 gke), (a 37, aK ta 2 le), (a 47, aK ta 2 cn), (h0, oM a ((le sd) / 4 + 6) mn tp osz lsz ns ct), (a 8, aZ ta 256 BOX), (a 9, aZ ta 256 UBOX), (a 16, aS ta 240 rk1_47), (a 18, aS ta 16 ce1_106), (a 36, aK ta 2 ru), (a 54, aS ta 300 gb1_106)] H → va_D A [(a 53, aS ta 16 q'), (a 41, aS ta 256 gke), (a 37, aK ta 2 le), (a 47, aK ta 2 cn), (h0, oM a ((le sd) / 4 + 6) mn tp osz lsz ns ct), (a 8, aZ ta 256 BOX), (a 9, aZ ta 256 UBOX), (a 16, aS ta 240 rk1_47), (a 18, aS ta 16 ce1_106), (a 36, aK ta 2 ru), (a 54, aS ta 300 gb1_106)] → va_S A ss.heap H locs → ∀ ls : Array Slot, lv_has ls 8 [(7, .int (nI e)), (6, .int (nI (16 * i))), (5, .int (nI m1)), (4, .int (nI 16)), (0, .ref h0), (1, .int (nI sd)), (2, .int (nI n8)), (3, .int (nI 1))] → W pp ll ee ({ frames := 5, cells := 0, slots := 0, locals := 122 } : Room) ss mm (([.ref h0, .int (nI sd), .int (nI n8), .int (nI 1)] : List Value).toArray) below meth kc H locs 0 0 Q (F0 mm 112 ls []) := by
                      intro nn112
                      induction nn112 with
                      | zero => intro e q' hee he hmu; exact absurd hmu (Nat.not_lt_zero _)
                      | succ nn112 ih112 =>
                        intro e q' hee he hmu112 H locs hP hD hS ls hl
                        refine lv_iload (pc := 112) hx hb dX10_hide_112 (lv_at hl 0 rfl) ?_
                        refine lv_iload (pc := 114) hx hb dX10_hide_114 (lv_at hl 3 rfl) ?_
                        refine lv_icmp_ge (pc := 116) (tgt := 142) hx hb dX10_hide_116 (by decide) (fun c_5 => ?_) (fun c_5 => ?_)
                        · skip
                          rw [nI_leI (by omega) (by omega)] at c_5
                          refine lv_iload (pc := 142) hx hb dX10_hide_142 (lv_at hl 1 rfl) ?_
                          refine lv_iload (pc := 144) hx hb dX10_hide_144 (lv_at hl 3 rfl) ?_
                          refine lv_iadd (pc := 146) hx hb dX10_hide_146 ?_
                          refine q_top (y := nI (16 * i + 16)) (nI_add (16 * i) 16) ?_
                          refine lv_istore (pc := 147) (lv' := [(6, .int (nI (16 * i + 16))), (7, .int (nI e)), (5, .int (nI m1)), (4, .int (nI 16)), (0, .ref h0), (1, .int (nI sd)), (2, .int (nI n8)), (3, .int (nI 1))]) hx hb dX10_hide_147 hl (by decide) rfl (fun ls hl => ?_)
                          refine lv_goto (pc := 149) (tgt := 53) hx hb dX10_hide_149 (by decide) ?_
                          exact ih53 (i + 1) gb1_106 q' ce1_106 (by omega) ((enc_stepR (by decide) (n := m1) (m := m1 / 16) (by omega) (by omega) hr hb1 (by omega) hd hs_106 hfr_106 (by omega) he aes_Elen).1) ((enc_stepR (by decide) (n := m1) (m := m1 / 16) (by omega) (by omega) hr hb1 (by omega) hd hs_106 hfr_106 (by omega) he aes_Elen).2) (by omega) _ _ (hP.sub [10, 4, 5, 6, 7, 8, 0, 1, 9, 2, 3] rfl) (hD.sub [10, 4, 5, 6, 7, 8, 0, 1, 9, 2, 3] (by decide) rfl) hS ls (lv_sub hl [0, 2, 3, 4, 5, 6, 7] rfl)
                        · skip
                          rw [nI_leI (by omega) (by omega)] at c_5
                          refine lv_aload_n (pc := 119) hx hb dX10_hide_119 rfl (lv_at hl 4 rfl) ?_
                          refine va_get (pc := 120) (D := D) (ci := 8) (v := .ref (a 53)) (C := RX10) (T := TX10) (N := 57) hx hb hts iu10 hown hK hP 4 rfl rfl 53 (by decide) (hts _ tw_1098) (fun _ h9 => h9) rfl dX10_hide_120 ?_
                          refine lv_iload (pc := 123) hx hb dX10_hide_123 (lv_at hl 0 rfl) ?_
                          refine lv_aload_n (pc := 125) hx hb dX10_hide_125 rfl (lv_at hl 4 rfl) ?_
                          refine va_get (pc := 126) (D := D) (ci := 8) (v := .ref (a 54)) (C := RX10) (T := TX10) (N := 57) hx hb hts iu10 hown hK hP 4 rfl rfl 54 (by decide) (hts _ tw_1099) (fun _ h9 => h9) rfl dX10_hide_126 ?_
                          refine lv_iload (pc := 129) hx hb dX10_hide_129 (lv_at hl 1 rfl) ?_
                          refine lv_iload (pc := 131) hx hb dX10_hide_131 (lv_at hl 0 rfl) ?_
                          refine lv_iadd (pc := 133) hx hb dX10_hide_133 ?_
                          refine q_top (y := nI (16 * i + e)) (nI_add (16 * i) e) ?_
                          refine q_bald (pc := 134) hx hb hK hP 10 2 rfl rfl (k := 16 * i + e) (v := qs (gb1_106 (16 * i + e))) rfl (by omega) (by omega) rfl dX10_hide_134 ?_
                          refine q_bastS (pc := 135) hx hb hK hP hD hS 0 2 rfl rfl (k := e) rfl (by omega) (by omega) (b := gb1_106 (16 * i + e)) (qlo_qs _) dX10_hide_135 (fun H locs hP hD hS => ?_)
                          have hP : va_P D vwCl [(a 53, aS ta 16 (qU q' e (gb1_106 (16 * i + e)))), (a 41, aS ta 256 gke), (a 37, aK ta 2 le), (a 47, aK ta 2 cn), (h0, oM a ((le sd) / 4 + 6) mn tp osz lsz ns ct), (a 8, aZ ta 256 BOX), (a 9, aZ ta 256 UBOX), (a 16, aS ta 240 rk1_47), (a 18, aS ta 16 ce1_106), (a 36, aK ta 2 ru), (a 54, aS ta 300 gb1_106)] H := hP
                          have hD : va_D A [(a 53, aS ta 16 (qU q' e (gb1_106 (16 * i + e)))), (a 41, aS ta 256 gke), (a 37, aK ta 2 le), (a 47, aK ta 2 cn), (h0, oM a ((le sd) / 4 + 6) mn tp osz lsz ns ct), (a 8, aZ ta 256 BOX), (a 9, aZ ta 256 UBOX), (a 16, aS ta 240 rk1_47), (a 18, aS ta 16 ce1_106), (a 36, aK ta 2 ru), (a 54, aS ta 300 gb1_106)] := hD
                          refine lv_iinc (pc := 136) (v := nI (e + 1)) (lv' := [(7, .int (nI (e + 1))), (6, .int (nI (16 * i))), (5, .int (nI m1)), (4, .int (nI 16)), (0, .ref h0), (1, .int (nI sd)), (2, .int (nI n8)), (3, .int (nI 1))]) hx hb dX10_hide_136 hl (k := 0) rfl (by first | exact nI_add e 1 | rfl) (by decide) rfl (fun ls hl => ?_)
                          refine lv_goto (pc := 139) (tgt := 112) hx hb dX10_hide_139 (by decide) ?_
                          exact ih112 (e + 1) (qU q' e (gb1_106 (16 * i + e))) (by omega) (qSeg_s he (by omega) rfl) (by omega) _ _ (hP.sub [0, 1, 2, 3, 4, 5, 6, 7, 8, 9, 10] rfl) (hD.sub [0, 1, 2, 3, 4, 5, 6, 7, 8, 9, 10] (by decide) rfl) hS ls (lv_sub hl [0, 1, 2, 3, 4, 5, 6, 7] rfl)
                    exact LP112 _ 0 b' (by omega) (qSeg_0) (Nat.lt_succ_self _) _ _ (hP.sub [0, 1, 2, 3, 4, 5, 6, 7, 8, 9, 10] rfl) (hD.sub [0, 1, 2, 3, 4, 5, 6, 7, 8, 9, 10] (by decide) rfl) hS ls (lv_sub hl [0, 1, 2, 3, 4, 5, 6, 7] rfl)
                  · skip
                    rw [nI_leI (by omega) (by omega)] at c_4
                    refine lv_aload_n (pc := 70) hx hb dX10_hide_70 rfl (lv_at hl 4 rfl) ?_
                    refine va_get (pc := 71) (D := D) (ci := 8) (v := .ref (a 54)) (C := RX10) (T := TX10) (N := 57) hx hb hts iu10 hown hK hP 1 rfl rfl 54 (by decide) (hts _ tw_1099) (fun _ h9 => h9) rfl dX10_hide_71 ?_
                    refine lv_iload (pc := 74) hx hb dX10_hide_74 (lv_at hl 1 rfl) ?_
                    refine lv_iload (pc := 76) hx hb dX10_hide_76 (lv_at hl 0 rfl) ?_
                    refine lv_iadd (pc := 78) hx hb dX10_hide_78 ?_
                    refine q_top (y := nI (16 * i + d)) (nI_add (16 * i) d) ?_
                    refine lv_dup2_11 (pc := 79) hx hb dX10_hide_79 rfl rfl ?_
                    refine q_bald (pc := 80) hx hb hK hP 0 2 rfl rfl (k := 16 * i + d) (v := qs (y' (16 * i + d))) rfl (by omega) (by omega) rfl dX10_hide_80 ?_
                    refine lv_aload_n (pc := 81) hx hb dX10_hide_81 rfl (lv_at hl 4 rfl) ?_
                    refine va_get (pc := 82) (D := D) (ci := 8) (v := .ref (a 53)) (C := RX10) (T := TX10) (N := 57) hx hb hts iu10 hown hK hP 1 rfl rfl 53 (by decide) (hts _ tw_1098) (fun _ h9 => h9) rfl dX10_hide_82 ?_
                    refine lv_iload (pc := 85) hx hb dX10_hide_85 (lv_at hl 0 rfl) ?_
                    refine q_bald (pc := 87) hx hb hK hP 6 2 rfl rfl (k := d) (v := qs (b' d)) rfl (by omega) (by omega) rfl dX10_hide_87 ?_
                    refine lv_ixor (pc := 88) hx hb dX10_hide_88 ?_
                    refine q_top (y := qs ((y' (16 * i + d)) ^^^ (b' d))) (q_xor_s _ _) ?_
                    refine lv_i2b (pc := 89) (v := qs ((y' (16 * i + d)) ^^^ (b' d))) hx hb dX10_hide_89 (q_i2b_s _) ?_
                    refine q_bastS (pc := 90) hx hb hK hP hD hS 0 2 rfl rfl (k := 16 * i + d) rfl (by omega) (by omega) (b := (y' (16 * i + d)) ^^^ (b' d)) (qlo_qs _) dX10_hide_90 (fun H locs hP hD hS => ?_)
                    have hP : va_P D vwCl [(a 54, aS ta 300 (qU y' (16 * i + d) ((y' (16 * i + d)) ^^^ (b' d)))), (h0, oM a (le sd / 4 + 6) mn tp osz lsz ns ct), (a 8, aZ ta 256 BOX), (a 9, aZ ta 256 UBOX), (a 16, aS ta 240 rk1_47), (a 18, aS ta 16 e'), (a 53, aS ta 16 b'), (a 41, aS ta 256 gke), (a 36, aK ta 2 ru), (a 37, aK ta 2 le), (a 47, aK ta 2 cn)] H := hP
                    have hD : va_D A [(a 54, aS ta 300 (qU y' (16 * i + d) ((y' (16 * i + d)) ^^^ (b' d)))), (h0, oM a (le sd / 4 + 6) mn tp osz lsz ns ct), (a 8, aZ ta 256 BOX), (a 9, aZ ta 256 UBOX), (a 16, aS ta 240 rk1_47), (a 18, aS ta 16 e'), (a 53, aS ta 16 b'), (a 41, aS ta 256 gke), (a 36, aK ta 2 ru), (a 37, aK ta 2 le), (a 47, aK ta 2 cn)] := hD
                    refine lv_iinc (pc := 91) (v := nI (d + 1)) (lv' := [(7, .int (nI (d + 1))), (6, .int (nI (16 * i))), (5, .int (nI m1)), (4, .int (nI 16)), (0, .ref h0), (1, .int (nI sd)), (2, .int (nI n8)), (3, .int (nI 1))]) hx hb dX10_hide_91 hl (k := 0) rfl (by first | exact nI_add d 1 | rfl) (by decide) rfl (fun ls hl => ?_)
                    refine lv_goto (pc := 94) (tgt := 63) hx hb dX10_hide_94 (by decide) ?_
                    exact ih63 (d + 1) (qU y' (16 * i + d) ((y' (16 * i + d)) ^^^ (b' d))) (by omega) (qSeg_s hd rfl (by rw [hd.2 _ (by omega)])) (by omega) _ _ (hP.sub [0, 1, 2, 3, 4, 5, 6, 7, 8, 9, 10] rfl) (hD.sub [0, 1, 2, 3, 4, 5, 6, 7, 8, 9, 10] (by decide) rfl) hS ls (lv_sub hl [0, 1, 2, 3, 4, 5, 6, 7] rfl)
              exact LP63 _ 0 x' (by omega) (qSeg_0) (Nat.lt_succ_self _) _ _ (hP.sub [0, 1, 2, 3, 4, 5, 6, 7, 8, 9, 10] rfl) (hD.sub [0, 1, 2, 3, 4, 5, 6, 7, 8, 9, 10] (by decide) rfl) hS ls (lv_sub hl [0, 1, 2, 3, 4, 5, 6, 7] rfl)
        exact LP53 _ 0 w' gbl1_47 ce1_47 (by omega) (qSeg_0) (by rw [hs_47]; rfl) (Nat.lt_succ_self _) _ _ (hP.sub [0, 1, 2, 3, 4, 5, 6, 7, 8, 9, 10] rfl) (hD.sub [0, 1, 2, 3, 4, 5, 6, 7, 8, 9, 10] (by decide) rfl) hS ls (lv_sub hl [0, 1, 2, 3, 4, 5, 6] rfl)
      · skip
        rw [q_eq0 (by omega)] at c_1
        refine lv_aload_n (pc := 30) hx hb dX10_hide_30 rfl (lv_at hl 2 rfl) ?_
        refine va_get (pc := 31) (D := D) (ci := 8) (v := .ref (a 54)) (C := RX10) (T := TX10) (N := 57) hx hb hts iu10 hown hK hP 9 rfl rfl 54 (by decide) (hts _ tw_1099) (fun _ h9 => h9) rfl dX10_hide_31 ?_
        refine lv_iload (pc := 34) hx hb dX10_hide_34 (lv_at hl 0 rfl) ?_
        refine lv_iconst (pc := 36) (v := nI 0) hx hb dX10_hide_36 (by decide +kernel) ?_
        refine q_bastS (pc := 37) hx hb hK hP hD hS 6 2 rfl rfl (k := m1) rfl (by omega) (by omega) (b := BitVec.ofNat 8 0) (qlo_nI _) dX10_hide_37 (fun H locs hP hD hS => ?_)
        have hP : va_P D vwCl [(a 8, aZ ta 256 BOX), (a 9, aZ ta 256 UBOX), (a 16, aS ta 240 rk), (a 18, aS ta 16 ce), (a 53, aS ta 16 gbl), (a 41, aS ta 256 gke), (a 54, aS ta 300 (qU w' m1 (BitVec.ofNat 8 0))), (a 37, aK ta 2 le), (a 47, aK ta 2 cn), (h0, oM a ar mn tp osz lsz ns ct), (a 36, aK ta 2 ru)] H := hP
        have hD : va_D A [(a 8, aZ ta 256 BOX), (a 9, aZ ta 256 UBOX), (a 16, aS ta 240 rk), (a 18, aS ta 16 ce), (a 53, aS ta 16 gbl), (a 41, aS ta 256 gke), (a 54, aS ta 300 (qU w' m1 (BitVec.ofNat 8 0))), (a 37, aK ta 2 le), (a 47, aK ta 2 cn), (h0, oM a ar mn tp osz lsz ns ct), (a 36, aK ta 2 ru)] := hD
        refine lv_iinc (pc := 38) (v := nI (m1 + 1)) (lv' := [(5, .int (nI (m1 + 1))), (4, .int (nI 16)), (0, .ref h0), (1, .int (nI sd)), (2, .int (nI n8)), (3, .int (nI 1))]) hx hb dX10_hide_38 hl (k := 0) rfl (by first | exact nI_add m1 1 | rfl) (by decide) rfl (fun ls hl => ?_)
        refine lv_goto (pc := 41) (tgt := 22) hx hb dX10_hide_41 (by decide) ?_
        exact ih22 (c + 1) (m1 + 1) (qU w' m1 (BitVec.ofNat 8 0)) (by omega) (by omega) (by rw [qL_snoc, hLL, List.append_assoc, List.cons_append, show c + 1 - 1 = (c - 1) + 1 by omega, List.replicate_succ']) (by omega) _ _ (hP.sub [0, 1, 2, 3, 4, 5, 6, 7, 8, 9, 10] rfl) (hD.sub [0, 1, 2, 3, 4, 5, 6, 7, 8, 9, 10] (by decide) rfl) hS ls (lv_sub hl [0, 1, 2, 3, 4, 5] rfl)
  exact LP22 _ 1 (n8 + 1) (qU gwk n8 (qlo (-128))) (by omega) (by omega) (by rw [qL_snoc, qlo_80]; rfl) (Nat.lt_succ_self _) _ _ (hP.sub [0, 1, 2, 3, 4, 5, 6, 7, 8, 9, 10] rfl) (hD.sub [0, 1, 2, 3, 4, 5, 6, 7, 8, 9, 10] (by decide) rfl) hS ls (lv_sub hl [0, 1, 2, 3, 4, 5] rfl)
theorem hdX10_plain : yX10_plain.cls ≠ "java/lang/invoke/MethodHandle" ∧ yX10_plain.cls ≠ "java/lang/invoke/VarHandle" ∧ (parseMethodDescriptor yX10_plain.desc).map (fun d => d.parameters.length) = some 3 := ⟨by decide +kernel, by decide +kernel, by decide +kernel⟩
theorem dX10_plain_0 : decode cX10_plain 0 = .ok (.aload_n 0, 1) := by decide +kernel
theorem dX10_plain_1 : decode cX10_plain 1 = .ok (.iload_n 1, 1) := by decide +kernel
theorem dX10_plain_2 : decode cX10_plain 2 = .ok (.invokevirtual 368, 3) := by decide +kernel
theorem dX10_plain_5 : decode cX10_plain 5 = .ok (.istore 4, 2) := by decide +kernel
theorem dX10_plain_7 : decode cX10_plain 7 = .ok (.iload_n 2, 1) := by decide +kernel
theorem dX10_plain_8 : decode cX10_plain 8 = .ok (.iload 4, 2) := by decide +kernel
theorem dX10_plain_10 : decode cX10_plain 10 = .ok (.irem, 1) := by decide +kernel
theorem dX10_plain_11 : decode cX10_plain 11 = .ok (.ifCond .eq 5, 3) := by decide +kernel
theorem dX10_plain_14 : decode cX10_plain 14 = .ok (.iconst (-1), 1) := by decide +kernel
theorem dX10_plain_15 : decode cX10_plain 15 = .ok (.ireturn, 1) := by decide +kernel
theorem dX10_plain_16 : decode cX10_plain 16 = .ok (.aload_n 0, 1) := by decide +kernel
theorem dX10_plain_17 : decode cX10_plain 17 = .ok (.iload_n 1, 1) := by decide +kernel
theorem dX10_plain_18 : decode cX10_plain 18 = .ok (.iload_n 3, 1) := by decide +kernel
theorem dX10_plain_19 : decode cX10_plain 19 = .ok (.invokevirtual 371, 3) := by decide +kernel
theorem dX10_plain_22 : decode cX10_plain 22 = .ok (.iconst 0, 1) := by decide +kernel
theorem dX10_plain_23 : decode cX10_plain 23 = .ok (.istore 5, 2) := by decide +kernel
theorem dX10_plain_25 : decode cX10_plain 25 = .ok (.iload 5, 2) := by decide +kernel
theorem dX10_plain_27 : decode cX10_plain 27 = .ok (.iload_n 2, 1) := by decide +kernel
theorem dX10_plain_28 : decode cX10_plain 28 = .ok (.if_icmp .ge 109, 3) := by decide +kernel
theorem dX10_plain_31 : decode cX10_plain 31 = .ok (.iconst 0, 1) := by decide +kernel
theorem dX10_plain_32 : decode cX10_plain 32 = .ok (.istore 6, 2) := by decide +kernel
theorem dX10_plain_34 : decode cX10_plain 34 = .ok (.iload 6, 2) := by decide +kernel
theorem dX10_plain_36 : decode cX10_plain 36 = .ok (.iload 4, 2) := by decide +kernel
theorem dX10_plain_38 : decode cX10_plain 38 = .ok (.if_icmp .ge 26, 3) := by decide +kernel
theorem dX10_plain_41 : decode cX10_plain 41 = .ok (.aload_n 0, 1) := by decide +kernel
theorem dX10_plain_42 : decode cX10_plain 42 = .ok (.getfield 292, 3) := by decide +kernel
theorem dX10_plain_45 : decode cX10_plain 45 = .ok (.iload 6, 2) := by decide +kernel
theorem dX10_plain_47 : decode cX10_plain 47 = .ok (.aload_n 0, 1) := by decide +kernel
theorem dX10_plain_48 : decode cX10_plain 48 = .ok (.getfield 286, 3) := by decide +kernel
theorem dX10_plain_51 : decode cX10_plain 51 = .ok (.iload 5, 2) := by decide +kernel
theorem dX10_plain_53 : decode cX10_plain 53 = .ok (.iload 6, 2) := by decide +kernel
theorem dX10_plain_55 : decode cX10_plain 55 = .ok (.iadd, 1) := by decide +kernel
theorem dX10_plain_56 : decode cX10_plain 56 = .ok (.baload, 1) := by decide +kernel
theorem dX10_plain_57 : decode cX10_plain 57 = .ok (.bastore, 1) := by decide +kernel
theorem dX10_plain_58 : decode cX10_plain 58 = .ok (.iinc 6 1, 3) := by decide +kernel
theorem dX10_plain_61 : decode cX10_plain 61 = .ok (.goto (-27), 3) := by decide +kernel
theorem dX10_plain_64 : decode cX10_plain 64 = .ok (.aload_n 0, 1) := by decide +kernel
theorem dX10_plain_65 : decode cX10_plain 65 = .ok (.iload_n 1, 1) := by decide +kernel
theorem dX10_plain_66 : decode cX10_plain 66 = .ok (.aload_n 0, 1) := by decide +kernel
theorem dX10_plain_67 : decode cX10_plain 67 = .ok (.getfield 286, 3) := by decide +kernel
theorem dX10_plain_70 : decode cX10_plain 70 = .ok (.iload 5, 2) := by decide +kernel
theorem dX10_plain_72 : decode cX10_plain 72 = .ok (.iconst 1, 1) := by decide +kernel
theorem dX10_plain_73 : decode cX10_plain 73 = .ok (.invokevirtual 373, 3) := by decide +kernel
theorem dX10_plain_76 : decode cX10_plain 76 = .ok (.iconst 0, 1) := by decide +kernel
theorem dX10_plain_77 : decode cX10_plain 77 = .ok (.istore 6, 2) := by decide +kernel
theorem dX10_plain_79 : decode cX10_plain 79 = .ok (.iload 6, 2) := by decide +kernel
theorem dX10_plain_81 : decode cX10_plain 81 = .ok (.iload 4, 2) := by decide +kernel
theorem dX10_plain_83 : decode cX10_plain 83 = .ok (.if_icmp .ge 44, 3) := by decide +kernel
theorem dX10_plain_86 : decode cX10_plain 86 = .ok (.aload_n 0, 1) := by decide +kernel
theorem dX10_plain_87 : decode cX10_plain 87 = .ok (.getfield 286, 3) := by decide +kernel
theorem dX10_plain_90 : decode cX10_plain 90 = .ok (.iload 5, 2) := by decide +kernel
theorem dX10_plain_92 : decode cX10_plain 92 = .ok (.iload 6, 2) := by decide +kernel
theorem dX10_plain_94 : decode cX10_plain 94 = .ok (.iadd, 1) := by decide +kernel
theorem dX10_plain_95 : decode cX10_plain 95 = .ok (.dup2, 1) := by decide +kernel
theorem dX10_plain_96 : decode cX10_plain 96 = .ok (.baload, 1) := by decide +kernel
theorem dX10_plain_97 : decode cX10_plain 97 = .ok (.aload_n 0, 1) := by decide +kernel
theorem dX10_plain_98 : decode cX10_plain 98 = .ok (.getfield 283, 3) := by decide +kernel
theorem dX10_plain_101 : decode cX10_plain 101 = .ok (.iload 6, 2) := by decide +kernel
theorem dX10_plain_103 : decode cX10_plain 103 = .ok (.baload, 1) := by decide +kernel
theorem dX10_plain_104 : decode cX10_plain 104 = .ok (.ixor, 1) := by decide +kernel
theorem dX10_plain_105 : decode cX10_plain 105 = .ok (.i2b, 1) := by decide +kernel
theorem dX10_plain_106 : decode cX10_plain 106 = .ok (.bastore, 1) := by decide +kernel
theorem dX10_plain_107 : decode cX10_plain 107 = .ok (.aload_n 0, 1) := by decide +kernel
theorem dX10_plain_108 : decode cX10_plain 108 = .ok (.getfield 283, 3) := by decide +kernel
theorem dX10_plain_111 : decode cX10_plain 111 = .ok (.iload 6, 2) := by decide +kernel
theorem dX10_plain_113 : decode cX10_plain 113 = .ok (.aload_n 0, 1) := by decide +kernel
theorem dX10_plain_114 : decode cX10_plain 114 = .ok (.getfield 292, 3) := by decide +kernel
theorem dX10_plain_117 : decode cX10_plain 117 = .ok (.iload 6, 2) := by decide +kernel
theorem dX10_plain_119 : decode cX10_plain 119 = .ok (.baload, 1) := by decide +kernel
theorem dX10_plain_120 : decode cX10_plain 120 = .ok (.bastore, 1) := by decide +kernel
theorem dX10_plain_121 : decode cX10_plain 121 = .ok (.iinc 6 1, 3) := by decide +kernel
theorem dX10_plain_124 : decode cX10_plain 124 = .ok (.goto (-45), 3) := by decide +kernel
theorem dX10_plain_127 : decode cX10_plain 127 = .ok (.iload 5, 2) := by decide +kernel
theorem dX10_plain_129 : decode cX10_plain 129 = .ok (.iload 4, 2) := by decide +kernel
theorem dX10_plain_131 : decode cX10_plain 131 = .ok (.iadd, 1) := by decide +kernel
theorem dX10_plain_132 : decode cX10_plain 132 = .ok (.istore 5, 2) := by decide +kernel
theorem dX10_plain_134 : decode cX10_plain 134 = .ok (.goto (-109), 3) := by decide +kernel
theorem dX10_plain_137 : decode cX10_plain 137 = .ok (.iload_n 2, 1) := by decide +kernel
theorem dX10_plain_138 : decode cX10_plain 138 = .ok (.iconst 1, 1) := by decide +kernel
theorem dX10_plain_139 : decode cX10_plain 139 = .ok (.isub, 1) := by decide +kernel
theorem dX10_plain_140 : decode cX10_plain 140 = .ok (.istore 5, 2) := by decide +kernel
theorem dX10_plain_142 : decode cX10_plain 142 = .ok (.iload 5, 2) := by decide +kernel
theorem dX10_plain_144 : decode cX10_plain 144 = .ok (.ifCond .lt 19, 3) := by decide +kernel
theorem dX10_plain_147 : decode cX10_plain 147 = .ok (.aload_n 0, 1) := by decide +kernel
theorem dX10_plain_148 : decode cX10_plain 148 = .ok (.getfield 286, 3) := by decide +kernel
theorem dX10_plain_151 : decode cX10_plain 151 = .ok (.iload 5, 2) := by decide +kernel
theorem dX10_plain_153 : decode cX10_plain 153 = .ok (.baload, 1) := by decide +kernel
theorem dX10_plain_154 : decode cX10_plain 154 = .ok (.ifCond .ne 9, 3) := by decide +kernel
theorem dX10_plain_157 : decode cX10_plain 157 = .ok (.iinc 5 (-1), 3) := by decide +kernel
theorem dX10_plain_160 : decode cX10_plain 160 = .ok (.goto (-18), 3) := by decide +kernel
theorem dX10_plain_163 : decode cX10_plain 163 = .ok (.iload 5, 2) := by decide +kernel
theorem dX10_plain_165 : decode cX10_plain 165 = .ok (.iconst 1, 1) := by decide +kernel
theorem dX10_plain_166 : decode cX10_plain 166 = .ok (.if_icmp .lt 15, 3) := by decide +kernel
theorem dX10_plain_169 : decode cX10_plain 169 = .ok (.aload_n 0, 1) := by decide +kernel
theorem dX10_plain_170 : decode cX10_plain 170 = .ok (.getfield 286, 3) := by decide +kernel
theorem dX10_plain_173 : decode cX10_plain 173 = .ok (.iload 5, 2) := by decide +kernel
theorem dX10_plain_175 : decode cX10_plain 175 = .ok (.baload, 1) := by decide +kernel
theorem dX10_plain_176 : decode cX10_plain 176 = .ok (.bipush (-128), 2) := by decide +kernel
theorem dX10_plain_178 : decode cX10_plain 178 = .ok (.if_icmp .eq 7, 3) := by decide +kernel
theorem dX10_plain_181 : decode cX10_plain 181 = .ok (.iconst (-1), 1) := by decide +kernel
theorem dX10_plain_182 : decode cX10_plain 182 = .ok (.goto 5, 3) := by decide +kernel
theorem dX10_plain_185 : decode cX10_plain 185 = .ok (.iload 5, 2) := by decide +kernel
theorem dX10_plain_187 : decode cX10_plain 187 = .ok (.ireturn, 1) := by decide +kernel
set_option maxHeartbeats 4000000 in
set_option maxRecDepth 100000 in
theorem ct_X10_plain_20 (ll : Launch) (D : va_G) (ta : Nat → ClassId) {G : (Nat → Prop) → State → Heap → Prop} (hGok : GOK G) (h0 : Nat) (a : Nat → Nat) (ar : Nat) (mn : Nat) (tp : Nat) (osz : Nat) (lsz : Nat) (ns : Nat) (ct : Nat) (bi : Nat → Bool) (tu : Nat → Bool) (cd : Nat → Bool) (sk : Nat → Bool) (hf : Nat → Bool) (wd : Nat → Bool) (gbl : Nat → BitVec 8) (gke : Nat → BitVec 8) (gwk : Nat → BitVec 8) (gah : Nat → BitVec 8) (ru : Nat → Nat) (sd : Nat) (n8 : Nat) (hsd : sd ≤ 1) (hru : ru sd = 2) (hn8 : 0 < n8 ∧ n8 ≤ 300) (sz : Nat) : CT ll yX10_plain cX10_plain 7 (some .int) ({ frames := 5, cells := 0, slots := 0, locals := 122 } : Room) D ta G [.ref h0, .int (nI sd), .int (nI n8), .int (nI 0)] [(h0, oM a ar mn tp osz lsz ns ct), (a 0, aK ta 64 tIP), (a 1, aK ta 48 tSPR), (a 2, aK ta 32 tMIX), (a 3, aK ta 56 tCH), (a 4, aK ta 48 tSEC), (a 5, aK ta 512 tSBX), (a 10, aB ta 64 bi), (a 11, aB ta 64 tu), (a 12, aB ta 56 cd), (a 13, aB ta 768 sk), (a 14, aB ta 32 hf), (a 15, aB ta 48 wd), (a 53, aS ta 16 gbl), (a 41, aS ta 256 gke), (a 36, aK ta 2 ru), (a 54, aS ta 300 gwk), (a 56, aS ta 16 gah)] sz (S := Int32 × Bool × (Nat → Bool) × (Nat → Bool) × (Nat → Bool) × (Nat → Bool) × (Nat → Bool) × (Nat → Bool) × (Nat → BitVec 8) × (Nat → BitVec 8) × (Nat → BitVec 8) × Nat) (fun u => some (.int u.1)) (fun u => (show2 (seg gke (128 * sd) 16) (qL gwk n8) = if u.2.1 then some (qL u.2.2.2.2.2.2.2.2.2.1 u.2.2.2.2.2.2.2.2.2.2.2) else none) ∧ ((u.1 : Int32) = if u.2.1 then nI u.2.2.2.2.2.2.2.2.2.2.2 else -1) ∧ (u.2.2.2.2.2.2.2.2.2.2.2 ≤ n8)) (fun u => [(h0, oM a ar mn tp osz lsz ns ct), (a 0, aK ta 64 tIP), (a 1, aK ta 48 tSPR), (a 2, aK ta 32 tMIX), (a 3, aK ta 56 tCH), (a 4, aK ta 48 tSEC), (a 5, aK ta 512 tSBX), (a 10, aB ta 64 u.2.2.1), (a 11, aB ta 64 u.2.2.2.1), (a 12, aB ta 56 u.2.2.2.2.1), (a 13, aB ta 768 u.2.2.2.2.2.1), (a 14, aB ta 32 u.2.2.2.2.2.2.1), (a 15, aB ta 48 u.2.2.2.2.2.2.2.1), (a 53, aS ta 16 u.2.2.2.2.2.2.2.2.1), (a 41, aS ta 256 gke), (a 36, aK ta 2 ru), (a 54, aS ta 300 u.2.2.2.2.2.2.2.2.2.1), (a 56, aS ta 16 u.2.2.2.2.2.2.2.2.2.2.1)]) 0 0 := by
  refine CT.of_i (r := fun u => u.1) rfl (by decide) (Nat.le_of_ble_eq_true rfl) ?_
  intro pp ee ss mm below meth kc A Q hx hb hml hown hin hts hK hA hsz hG hret H locs hP hD hS ls hl
  have hl : lv_has ls 7 [(0, .ref h0), (1, .int (nI sd)), (2, .int (nI n8)), (3, .int (nI 0))] := hl
  refine lv_aload_n (pc := 0) hx hb dX10_plain_0 rfl (lv_at hl 0 rfl) ?_
  refine lv_iload_n (pc := 1) hx hb dX10_plain_1 rfl (lv_at hl 1 rfl) ?_
  refine cs_V (pc := 2) (idx := 368) (n := 1) (wr := [(a 0, aK ta 64 tIP), (a 1, aK ta 48 tSPR), (a 2, aK ta 32 tMIX), (a 3, aK ta 56 tCH), (a 4, aK ta 48 tSEC), (a 5, aK ta 512 tSBX), (a 10, aB ta 64 bi), (a 11, aB ta 64 tu), (a 12, aB ta 56 cd), (a 13, aB ta 768 sk), (a 14, aB ta 32 hf), (a 15, aB ta 48 wd), (a 53, aS ta 16 gbl), (a 41, aS ta 256 gke), (a 54, aS ta 300 gwk), (a 56, aS ta 16 gah)]) (As := [.int (nI sd)]) (rest := []) (ci := 8) hx hb hml hown hts hGok hK hA hG hl.1 hP hD hS (ct_X10_blockOf_2 ll D ta hGok h0 a ar mn tp osz lsz ns ct ru sd (by first | assumption | omega | rfl | decide) (by first | assumption | omega | rfl | decide) H.size) tw_1392 tw_1389 tw_1391 tw_54 tw_75 hdX10_blockOf rfl ⟨rfl, rfl, Nat.le_of_ble_eq_true rfl, Nat.le_of_ble_eq_true rfl, Nat.le_of_ble_eq_true rfl, Nat.le_of_ble_eq_true rfl⟩ rfl rfl (q0 := 0) rfl [0, 15] [1, 2, 3, 4, 5, 6, 7, 8, 9, 10, 11, 12, 13, 14, 16, 17] rfl rfl (by decide) rfl (Nat.le_of_ble_eq_true rfl) dX10_plain_2 (fun u H locs hq hP hD hS => ?_)
  refine W.eq (g2 := F0 mm 5 ls [.int (nI 8)]) rfl ?_
  have hP : va_P D vwCl [(a 0, aK ta 64 tIP), (a 1, aK ta 48 tSPR), (a 2, aK ta 32 tMIX), (a 3, aK ta 56 tCH), (a 4, aK ta 48 tSEC), (a 5, aK ta 512 tSBX), (a 10, aB ta 64 bi), (a 11, aB ta 64 tu), (a 12, aB ta 56 cd), (a 13, aB ta 768 sk), (a 14, aB ta 32 hf), (a 15, aB ta 48 wd), (a 53, aS ta 16 gbl), (a 41, aS ta 256 gke), (a 54, aS ta 300 gwk), (a 56, aS ta 16 gah), (h0, oM a ar mn tp osz lsz ns ct), (a 36, aK ta 2 ru)] H := hP
  have hD : va_D A [(a 0, aK ta 64 tIP), (a 1, aK ta 48 tSPR), (a 2, aK ta 32 tMIX), (a 3, aK ta 56 tCH), (a 4, aK ta 48 tSEC), (a 5, aK ta 512 tSBX), (a 10, aB ta 64 bi), (a 11, aB ta 64 tu), (a 12, aB ta 56 cd), (a 13, aB ta 768 sk), (a 14, aB ta 32 hf), (a 15, aB ta 48 wd), (a 53, aS ta 16 gbl), (a 41, aS ta 256 gke), (a 54, aS ta 300 gwk), (a 56, aS ta 16 gah), (h0, oM a ar mn tp osz lsz ns ct), (a 36, aK ta 2 ru)] := hD
  refine lv_istore (pc := 5) (lv' := [(4, .int (nI 8)), (0, .ref h0), (1, .int (nI sd)), (2, .int (nI n8)), (3, .int (nI 0))]) hx hb dX10_plain_5 hl (by decide) rfl (fun ls hl => ?_)
  refine lv_iload_n (pc := 7) hx hb dX10_plain_7 rfl (lv_at hl 3 rfl) ?_
  refine lv_iload (pc := 8) hx hb dX10_plain_8 (lv_at hl 0 rfl) ?_
  refine lv_irem (pc := 10) hx hb dX10_plain_10 (q_ne0 (by omega) (by omega)) ?_
  refine q_top (y := nI (n8 % 8)) (pk_rem (by omega) (by omega) (by omega)) ?_
  refine lv_if_eq (pc := 11) (tgt := 16) hx hb dX10_plain_11 (by decide) (fun c_1 => ?_) (fun c_1 => ?_)
  · skip
    rw [q_eq0 (by omega)] at c_1
    have h16 : n8 % 8 = 0 := by omega
    refine lv_aload_n (pc := 16) hx hb dX10_plain_16 rfl (lv_at hl 1 rfl) ?_
    refine lv_iload_n (pc := 17) hx hb dX10_plain_17 rfl (lv_at hl 2 rfl) ?_
    refine lv_iload_n (pc := 18) hx hb dX10_plain_18 rfl (lv_at hl 4 rfl) ?_
    refine cs_V (pc := 19) (idx := 371) (n := 2) (wr := [(a 0, aK ta 64 tIP), (a 1, aK ta 48 tSPR), (a 2, aK ta 32 tMIX), (a 3, aK ta 56 tCH), (a 4, aK ta 48 tSEC), (a 5, aK ta 512 tSBX), (a 10, aB ta 64 bi), (a 11, aB ta 64 tu), (a 12, aB ta 56 cd), (a 13, aB ta 768 sk), (a 14, aB ta 32 hf), (a 15, aB ta 48 wd), (a 41, aS ta 256 gke), (a 54, aS ta 300 gwk), (a 56, aS ta 16 gah)]) (As := [.int (nI sd), .int (nI 0)]) (rest := []) (ci := 8) hx hb hml hown hts hGok hK hA hG hl.1 hP hD hS (ct_X10_first_2 ll D ta hGok h0 a ar mn tp osz lsz ns ct gbl ru sd (by first | assumption | omega | rfl | decide) (by first | assumption | omega | rfl | decide) H.size) tw_1396 tw_1393 tw_1395 tw_55 tw_75 hdX10_first rfl ⟨rfl, rfl, Nat.le_of_ble_eq_true rfl, Nat.le_of_ble_eq_true rfl, Nat.le_of_ble_eq_true rfl, Nat.le_of_ble_eq_true rfl⟩ rfl rfl (q0 := 16) rfl [16, 12, 17] [0, 1, 2, 3, 4, 5, 6, 7, 8, 9, 10, 11, 13, 14, 15] rfl rfl (by decide) rfl (Nat.le_of_ble_eq_true rfl) dX10_plain_19 (fun u H locs hq hP hD hS => ?_)
    generalize u = gbl1_19 at hq hP hD ⊢
    have hq : (qL gbl1_19 16 = zeroL 16) := hq
    have hs_19 := hq
    refine W.eq (g2 := F0 mm 22 ls []) rfl ?_
    have hP : va_P D vwCl [(a 0, aK ta 64 tIP), (a 1, aK ta 48 tSPR), (a 2, aK ta 32 tMIX), (a 3, aK ta 56 tCH), (a 4, aK ta 48 tSEC), (a 5, aK ta 512 tSBX), (a 10, aB ta 64 bi), (a 11, aB ta 64 tu), (a 12, aB ta 56 cd), (a 13, aB ta 768 sk), (a 14, aB ta 32 hf), (a 15, aB ta 48 wd), (a 41, aS ta 256 gke), (a 54, aS ta 300 gwk), (a 56, aS ta 16 gah), (h0, oM a ar mn tp osz lsz ns ct), (a 53, aS ta 16 gbl1_19), (a 36, aK ta 2 ru)] H := hP
    have hD : va_D A [(a 0, aK ta 64 tIP), (a 1, aK ta 48 tSPR), (a 2, aK ta 32 tMIX), (a 3, aK ta 56 tCH), (a 4, aK ta 48 tSEC), (a 5, aK ta 512 tSBX), (a 10, aB ta 64 bi), (a 11, aB ta 64 tu), (a 12, aB ta 56 cd), (a 13, aB ta 768 sk), (a 14, aB ta 32 hf), (a 15, aB ta 48 wd), (a 41, aS ta 256 gke), (a 54, aS ta 300 gwk), (a 56, aS ta 16 gah), (h0, oM a ar mn tp osz lsz ns ct), (a 53, aS ta 16 gbl1_19), (a 36, aK ta 2 ru)] := hD
    refine lv_iconst (pc := 22) (v := nI 0) hx hb dX10_plain_22 (by decide +kernel) ?_
    refine lv_istore (pc := 23) (lv' := [(5, .int (nI 0)), (4, .int (nI 8)), (0, .ref h0), (1, .int (nI sd)), (2, .int (nI n8)), (3, .int (nI 0))]) hx hb dX10_plain_23 hl (by decide) rfl (fun ls hl => ?_)
    have LP25 : ∀ (nn25 : Nat) (i : Nat) (x' : Nat → BitVec 8) (b' : Nat → BitVec 8) (a' : Nat → BitVec 8) (zb : Nat → Bool) (zt : Nat → Bool) (zc : Nat → Bool) (zs : Nat → Bool) (zh : Nat → Bool) (zw : Nat → Bool), (8 * i ≤ n8) → (qSeg x' gwk 0 (8 * i) (decF (tdesL (seg gke (128 * sd) 16) true) 8 (zeroL 8) (qL gwk n8))) → (qL b' 8 = if i = 0 then (zeroL 8) else seg gwk (8 * (i - 1)) 8) → (n8 - 8 * i < nn25) → ∀ (H : Heap) (locs : List Loc), va_P D vwCl [(a 0, aK ta 64 tIP), (a 1, aK ta 48 tSPR), (a 2, aK ta 32 tMIX), (a 3, aK ta 56 tCH), (a 4, aK ta 48 tSEC), (a 5, aK ta 512 tSBX), (a 10, aB ta 64 zb), (a 11, aB ta 64 zt), (a 12, aB ta 56 zc), (a 13, aB ta 768 zs), (a 14, aB ta 32 zh), (a 15, aB ta 48 zw), (a 41, aS ta 256 gke), (a 54, aS ta 300 x'), (a 56, aS ta 16 a'), (h0, oM a ar mn tp osz lsz ns ct), (a 53, aS ta 16 b'), (a 36, aK ta 2 ru)] H → va_D A [(a 0, aK ta 64 tIP), (a 1, aK ta 48 tSPR), (a 2, aK ta 32 tMIX), (a 3, aK ta 56 tCH), (a 4, aK ta 48 tSEC), (a 5, aK ta 512 tSBX), (a 10, aB ta 64 zb), (a 11, aB ta 64 zt), (a 12, aB ta 56 zc), (a 13, aB ta 768 zs), (a 14, aB ta 32 zh), (a 15, aB ta 48 zw), (a 41, aS ta 256 gke), (a 54, aS ta 300 x'), (a 56, aS ta 16 a'), (h0, oM a ar mn tp osz lsz ns ct), (a 53, aS ta 16 b'), (a 36, aK ta 2 ru)] → va_S A ss.heap H locs → ∀ ls : Array Slot, lv_has ls 7 [(5, .int (nI (8 * i))), (4, .int (nI 8)), (0, .ref h0), (1, .int (nI sd)), (2, .int (nI n8)), (3, .int (nI 0))] → W pp ll ee ({ frames := 5, cells := 0, slots := 0, locals := 122 } : Room) ss mm (([.ref h0, .int (nI sd), .int (nI n8), .int (nI 0)] : List Value).toArray) below meth kc H locs 0 0 Q (F0 mm 25 ls []) := by
      intro nn25
      induction nn25 with
      | zero => intro i x' b' a' zb zt zc zs zh zw hii hr hb1 hmu; exact absurd hmu (Nat.not_lt_zero _)
      | succ nn25 ih25 =>
        intro i x' b' a' zb zt zc zs zh zw hii hr hb1 hmu25 H locs hP hD hS ls hl
        refine lv_iload (pc := 25) hx hb dX10_plain_25 (lv_at hl 0 rfl) ?_
        refine lv_iload_n (pc := 27) hx hb dX10_plain_27 rfl (lv_at hl 4 rfl) ?_
        refine lv_icmp_ge (pc := 28) (tgt := 137) hx hb dX10_plain_28 (by decide) (fun c_2 => ?_) (fun c_2 => ?_)
        · skip
          rw [nI_leI (by omega) (by omega)] at c_2
          have hDD9 : decL (tdesL (seg gke (128 * sd) 16) true) 8 (zeroL 8) (qL gwk n8) = qL x' n8 := by rw [decL, qL_len, ← seg_0 (g := x'), qSeg_segk hr (by omega)]
          refine lv_iload_n (pc := 137) hx hb dX10_plain_137 rfl (lv_at hl 4 rfl) ?_
          refine lv_iconst (pc := 138) (v := nI 1) hx hb dX10_plain_138 (by decide +kernel) ?_
          refine lv_isub (pc := 139) hx hb dX10_plain_139 ?_
          refine q_top (y := qI n8) (qI_of n8) ?_
          refine lv_istore (pc := 140) (lv' := [(5, .int (qI n8)), (4, .int (nI 8)), (0, .ref h0), (1, .int (nI sd)), (2, .int (nI n8)), (3, .int (nI 0))]) hx hb dX10_plain_140 hl (by decide) rfl (fun ls hl => ?_)
          have LP142 : ∀ (nn142 : Nat) (c : Nat), (c ≤ n8) → (∀ j, c ≤ j → j < n8 → x' j = 0#8) → (c < nn142) → ∀ (H : Heap) (locs : List Loc), va_P D vwCl [(a 0, aK ta 64 tIP), (a 1, aK ta 48 tSPR), (a 2, aK ta 32 tMIX), (a 3, aK ta 56 tCH), (a 4, aK ta 48 tSEC), (a 5, aK ta 512 tSBX), (a 10, aB ta 64 zb), (a 11, aB ta 64 zt), (a 12, aB ta 56 zc), (a 13, aB ta 768 zs), (a 14, aB ta 32 zh), (a 15, aB ta 48 zw), (a 41, aS ta 256 gke), (a 54, aS ta 300 x'), (a 56, aS ta 16 a'), (h0, oM a ar mn tp osz lsz ns ct), (a 53, aS ta 16 b'), (a 36, aK ta 2 ru)] H → va_D A [(a 0, aK ta 64 tIP), (a 1, aK ta 48 tSPR), (a 2, aK ta 32 tMIX), (a 3, aK ta 56 tCH), (a 4, aK ta 48 tSEC), (a 5, aK ta 512 tSBX), (a 10, aB ta 64 zb), (a 11, aB ta 64 zt), (a 12, aB ta 56 zc), (a 13, aB ta 768 zs), (a 14, aB ta 32 zh), (a 15, aB ta 48 zw), (a 41, aS ta 256 gke), (a 54, aS ta 300 x'), (a 56, aS ta 16 a'), (h0, oM a ar mn tp osz lsz ns ct), (a 53, aS ta 16 b'), (a 36, aK ta 2 ru)] → va_S A ss.heap H locs → ∀ ls : Array Slot, lv_has ls 7 [(5, .int (qI c)), (4, .int (nI 8)), (0, .ref h0), (1, .int (nI sd)), (2, .int (nI n8)), (3, .int (nI 0))] → W pp ll ee ({ frames := 5, cells := 0, slots := 0, locals := 122 } : Room) ss mm (([.ref h0, .int (nI sd), .int (nI n8), .int (nI 0)] : List Value).toArray) below meth kc H locs 0 0 Q (F0 mm 142 ls []) := by
            intro nn142
            induction nn142 with
            | zero => intro c hcc hz0 hmu; exact absurd hmu (Nat.not_lt_zero _)
            | succ nn142 ih142 =>
              intro c hcc hz0 hmu142 H locs hP hD hS ls hl
              refine lv_iload (pc := 142) hx hb dX10_plain_142 (lv_at hl 0 rfl) ?_
              refine lv_if_lt (pc := 144) (tgt := 163) hx hb dX10_plain_144 (by decide) (fun c_3 => ?_) (fun c_3 => ?_)
              · skip
                rw [qI_neg (by omega)] at c_3
                have en_4 : 0 = c := by omega
                subst en_4
                refine lv_iload (pc := 163) hx hb dX10_plain_163 (lv_at hl 0 rfl) ?_
                refine lv_iconst (pc := 165) (v := nI 1) hx hb dX10_plain_165 (by decide +kernel) ?_
                refine lv_icmp_lt (pc := 166) (tgt := 181) hx hb dX10_plain_166 (by decide) (fun c_5 => ?_) (fun c_5 => ?_)
                · skip
                  refine lv_iconst (pc := 181) (v := (-1)) hx hb dX10_plain_181 (by decide +kernel) ?_
                  refine lv_goto (pc := 182) (tgt := 187) hx hb dX10_plain_182 (by decide) ?_
                  refine q_top (y := (-1)) (by first | rfl | decide +kernel | (simp; done)) ?_
                  have hq_6 : (show2 (seg gke (128 * sd) 16) (qL gwk n8) = if false then some (qL x' 0) else none) ∧ (((-1) : Int32) = if false then nI 0 else -1) ∧ (0 ≤ n8) := by
                    refine ⟨?_, rfl, by omega⟩
                    rw [show2, qL_len, if_pos h16, hDD9]
                    first | (rw [qunp_none0 (by omega) (fun j hj => hz0 j (by omega) hj)]; rfl) | (rw [qunp_some (c := k9) (by omega) (fun j h1 h2 => hz0 j h1 h2) (by assumption) ⟨by omega, by assumption⟩]; rfl) | (rw [qunp_none (c := k9) (by omega) (fun j h1 h2 => hz0 j h1 h2) (by assumption) (fun q => by first | omega | (obtain ⟨q1, q2⟩ := q; contradiction))]; rfl)
                  exact hret (⟨(-1), (false), (zb), (zt), (zc), (zs), (zh), (zw), (b'), (x'), (a'), (0)⟩ : Int32 × Bool × (Nat → Bool) × (Nat → Bool) × (Nat → Bool) × (Nat → Bool) × (Nat → Bool) × (Nat → Bool) × (Nat → BitVec 8) × (Nat → BitVec 8) × (Nat → BitVec 8) × Nat) _ _ _ _ dX10_plain_187 hq_6 (hP.sub [15, 0, 1, 2, 3, 4, 5, 6, 7, 8, 9, 10, 11, 16, 12, 17, 13, 14] rfl) (hD.sub [15, 0, 1, 2, 3, 4, 5, 6, 7, 8, 9, 10, 11, 16, 12, 17, 13, 14] (by decide) rfl) hS
                · skip
                  exact absurd (by decide) c_5
              · skip
                rw [qI_neg (by omega)] at c_3
                obtain ⟨k9, rfl⟩ : ∃ k, c = k + 1 := ⟨c - 1, by omega⟩
                rw [qI_s] at hl
                refine lv_aload_n (pc := 147) hx hb dX10_plain_147 rfl (lv_at hl 2 rfl) ?_
                refine va_get (pc := 148) (D := D) (ci := 8) (v := .ref (a 54)) (C := RX10) (T := TX10) (N := 57) hx hb hts iu10 hown hK hP 15 rfl rfl 54 (by decide) (hts _ tw_1099) (fun _ h9 => h9) rfl dX10_plain_148 ?_
                refine lv_iload (pc := 151) hx hb dX10_plain_151 (lv_at hl 0 rfl) ?_
                refine q_bald (pc := 153) hx hb hK hP 13 2 rfl rfl (k := k9) (v := qs (x' k9)) rfl (by omega) (by omega) rfl dX10_plain_153 ?_
                refine lv_if_ne (pc := 154) (tgt := 163) hx hb dX10_plain_154 (by decide) (fun c_7 => ?_) (fun c_7 => ?_)
                · skip
                  rw [qs_0] at c_7
                  refine lv_iload (pc := 163) hx hb dX10_plain_163 (lv_at hl 0 rfl) ?_
                  refine lv_iconst (pc := 165) (v := nI 1) hx hb dX10_plain_165 (by decide +kernel) ?_
                  refine lv_icmp_lt (pc := 166) (tgt := 181) hx hb dX10_plain_166 (by decide) (fun c_8 => ?_) (fun c_8 => ?_)
                  · skip
                    rw [nI_ltI (by omega) (by omega)] at c_8
                    refine lv_iconst (pc := 181) (v := (-1)) hx hb dX10_plain_181 (by decide +kernel) ?_
                    refine lv_goto (pc := 182) (tgt := 187) hx hb dX10_plain_182 (by decide) ?_
                    refine q_top (y := (-1)) (by first | rfl | decide +kernel | (simp; done)) ?_
                    have hq_9 : (show2 (seg gke (128 * sd) 16) (qL gwk n8) = if false then some (qL x' 0) else none) ∧ (((-1) : Int32) = if false then nI 0 else -1) ∧ (0 ≤ n8) := by
                      refine ⟨?_, rfl, by omega⟩
                      rw [show2, qL_len, if_pos h16, hDD9]
                      first | (rw [qunp_none0 (by omega) (fun j hj => hz0 j (by omega) hj)]; rfl) | (rw [qunp_some (c := k9) (by omega) (fun j h1 h2 => hz0 j h1 h2) (by assumption) ⟨by omega, by assumption⟩]; rfl) | (rw [qunp_none (c := k9) (by omega) (fun j h1 h2 => hz0 j h1 h2) (by assumption) (fun q => by first | omega | (obtain ⟨q1, q2⟩ := q; contradiction))]; rfl)
                    exact hret (⟨(-1), (false), (zb), (zt), (zc), (zs), (zh), (zw), (b'), (x'), (a'), (0)⟩ : Int32 × Bool × (Nat → Bool) × (Nat → Bool) × (Nat → Bool) × (Nat → Bool) × (Nat → Bool) × (Nat → Bool) × (Nat → BitVec 8) × (Nat → BitVec 8) × (Nat → BitVec 8) × Nat) _ _ _ _ dX10_plain_187 hq_9 (hP.sub [15, 0, 1, 2, 3, 4, 5, 6, 7, 8, 9, 10, 11, 16, 12, 17, 13, 14] rfl) (hD.sub [15, 0, 1, 2, 3, 4, 5, 6, 7, 8, 9, 10, 11, 16, 12, 17, 13, 14] (by decide) rfl) hS
                  · skip
                    rw [nI_ltI (by omega) (by omega)] at c_8
                    refine lv_aload_n (pc := 169) hx hb dX10_plain_169 rfl (lv_at hl 2 rfl) ?_
                    refine va_get (pc := 170) (D := D) (ci := 8) (v := .ref (a 54)) (C := RX10) (T := TX10) (N := 57) hx hb hts iu10 hown hK hP 15 rfl rfl 54 (by decide) (hts _ tw_1099) (fun _ h9 => h9) rfl dX10_plain_170 ?_
                    refine lv_iload (pc := 173) hx hb dX10_plain_173 (lv_at hl 0 rfl) ?_
                    refine q_bald (pc := 175) hx hb hK hP 13 2 rfl rfl (k := k9) (v := qs (x' k9)) rfl (by omega) (by omega) rfl dX10_plain_175 ?_
                    refine lv_bipush (pc := 176) (v := (-128)) hx hb dX10_plain_176 (by decide +kernel) ?_
                    refine lv_icmp_eq (pc := 178) (tgt := 185) hx hb dX10_plain_178 (by decide) (fun c_10 => ?_) (fun c_10 => ?_)
                    · skip
                      rw [qs_80] at c_10
                      refine lv_iload (pc := 185) hx hb dX10_plain_185 (lv_at hl 0 rfl) ?_
                      refine q_top (y := (nI k9)) (by first | rfl | decide +kernel | (simp; done)) ?_
                      have hq_11 : (show2 (seg gke (128 * sd) 16) (qL gwk n8) = if true then some (qL x' k9) else none) ∧ (((nI k9) : Int32) = if true then nI k9 else -1) ∧ (k9 ≤ n8) := by
                        refine ⟨?_, rfl, by omega⟩
                        rw [show2, qL_len, if_pos h16, hDD9]
                        first | (rw [qunp_none0 (by omega) (fun j hj => hz0 j (by omega) hj)]; rfl) | (rw [qunp_some (c := k9) (by omega) (fun j h1 h2 => hz0 j h1 h2) (by assumption) ⟨by omega, by assumption⟩]; rfl) | (rw [qunp_none (c := k9) (by omega) (fun j h1 h2 => hz0 j h1 h2) (by assumption) (fun q => by first | omega | (obtain ⟨q1, q2⟩ := q; contradiction))]; rfl)
                      exact hret (⟨(nI k9), (true), (zb), (zt), (zc), (zs), (zh), (zw), (b'), (x'), (a'), (k9)⟩ : Int32 × Bool × (Nat → Bool) × (Nat → Bool) × (Nat → Bool) × (Nat → Bool) × (Nat → Bool) × (Nat → Bool) × (Nat → BitVec 8) × (Nat → BitVec 8) × (Nat → BitVec 8) × Nat) _ _ _ _ dX10_plain_187 hq_11 (hP.sub [15, 0, 1, 2, 3, 4, 5, 6, 7, 8, 9, 10, 11, 16, 12, 17, 13, 14] rfl) (hD.sub [15, 0, 1, 2, 3, 4, 5, 6, 7, 8, 9, 10, 11, 16, 12, 17, 13, 14] (by decide) rfl) hS
                    · skip
                      rw [qs_80] at c_10
                      refine lv_iconst (pc := 181) (v := (-1)) hx hb dX10_plain_181 (by decide +kernel) ?_
                      refine lv_goto (pc := 182) (tgt := 187) hx hb dX10_plain_182 (by decide) ?_
                      refine q_top (y := (-1)) (by first | rfl | decide +kernel | (simp; done)) ?_
                      have hq_12 : (show2 (seg gke (128 * sd) 16) (qL gwk n8) = if false then some (qL x' 0) else none) ∧ (((-1) : Int32) = if false then nI 0 else -1) ∧ (0 ≤ n8) := by
                        refine ⟨?_, rfl, by omega⟩
                        rw [show2, qL_len, if_pos h16, hDD9]
                        first | (rw [qunp_none0 (by omega) (fun j hj => hz0 j (by omega) hj)]; rfl) | (rw [qunp_some (c := k9) (by omega) (fun j h1 h2 => hz0 j h1 h2) (by assumption) ⟨by omega, by assumption⟩]; rfl) | (rw [qunp_none (c := k9) (by omega) (fun j h1 h2 => hz0 j h1 h2) (by assumption) (fun q => by first | omega | (obtain ⟨q1, q2⟩ := q; contradiction))]; rfl)
                      exact hret (⟨(-1), (false), (zb), (zt), (zc), (zs), (zh), (zw), (b'), (x'), (a'), (0)⟩ : Int32 × Bool × (Nat → Bool) × (Nat → Bool) × (Nat → Bool) × (Nat → Bool) × (Nat → Bool) × (Nat → Bool) × (Nat → BitVec 8) × (Nat → BitVec 8) × (Nat → BitVec 8) × Nat) _ _ _ _ dX10_plain_187 hq_12 (hP.sub [15, 0, 1, 2, 3, 4, 5, 6, 7, 8, 9, 10, 11, 16, 12, 17, 13, 14] rfl) (hD.sub [15, 0, 1, 2, 3, 4, 5, 6, 7, 8, 9, 10, 11, 16, 12, 17, 13, 14] (by decide) rfl) hS
                · skip
                  rw [qs_0] at c_7
                  refine lv_iinc (pc := 157) (v := qI k9) (lv' := [(5, .int (qI k9)), (4, .int (nI 8)), (0, .ref h0), (1, .int (nI sd)), (2, .int (nI n8)), (3, .int (nI 0))]) hx hb dX10_plain_157 hl (k := 0) rfl rfl (by decide) rfl (fun ls hl => ?_)
                  refine lv_goto (pc := 160) (tgt := 142) hx hb dX10_plain_160 (by decide) ?_
                  exact ih142 k9 (by omega) (by
                        intro j h1 h2
                        by_cases q : j = k9
                        · subst q; assumption
                        · exact hz0 j (by omega) h2) (by omega) _ _ (hP.sub [0, 1, 2, 3, 4, 5, 6, 7, 8, 9, 10, 11, 12, 13, 14, 15, 16, 17] rfl) (hD.sub [0, 1, 2, 3, 4, 5, 6, 7, 8, 9, 10, 11, 12, 13, 14, 15, 16, 17] (by decide) rfl) hS ls (lv_sub hl [0, 1, 2, 3, 4, 5] rfl)
          exact LP142 _ n8 (by omega) (fun j h1 h2 => absurd h1 (by omega)) (Nat.lt_succ_self _) _ _ (hP.sub [0, 1, 2, 3, 4, 5, 6, 7, 8, 9, 10, 11, 12, 13, 14, 15, 16, 17] rfl) (hD.sub [0, 1, 2, 3, 4, 5, 6, 7, 8, 9, 10, 11, 12, 13, 14, 15, 16, 17] (by decide) rfl) hS ls (lv_sub hl [0, 1, 2, 3, 4, 5] rfl)
        · skip
          rw [nI_leI (by omega) (by omega)] at c_2
          refine lv_iconst (pc := 31) (v := nI 0) hx hb dX10_plain_31 (by decide +kernel) ?_
          refine lv_istore (pc := 32) (lv' := [(6, .int (nI 0)), (5, .int (nI (8 * i))), (4, .int (nI 8)), (0, .ref h0), (1, .int (nI sd)), (2, .int (nI n8)), (3, .int (nI 0))]) hx hb dX10_plain_32 hl (by decide) rfl (fun ls hl => ?_)
          have LP34 : ∀ (nn34 : Nat) (d : Nat) (d' : Nat → BitVec 8), (d ≤ 8) → (qSeg d' a' 0 d (fun j => x' (8 * i + j))) → (8 - d < nn34) → ∀ (H : Heap) (locs : List Loc), va_P D vwCl [(a 0, aK ta 64 tIP), (a 1, aK ta 48 tSPR), (a 2, aK ta 32 tMIX), (a 3, aK ta 56 tCH), (a 4, aK ta 48 tSEC), (a 5, aK ta 512 tSBX), (a 10, aB ta 64 zb), (a 11, aB ta 64 zt), (a 12, aB ta 56 zc), (a 13, aB ta 768 zs), (a 14, aB ta 32 zh), (a 15, aB ta 48 zw), (a 41, aS ta 256 gke), (a 54, aS ta 300 x'), (a 56, aS ta 16 d'), (h0, oM a ar mn tp osz lsz ns ct), (a 53, aS ta 16 b'), (a 36, aK ta 2 ru)] H → va_D A [(a 0, aK ta 64 tIP), (a 1, aK ta 48 tSPR), (a 2, aK ta 32 tMIX), (a 3, aK ta 56 tCH), (a 4, aK ta 48 tSEC), (a 5, aK ta 512 tSBX), (a 10, aB ta 64 zb), (a 11, aB ta 64 zt), (a 12, aB ta 56 zc), (a 13, aB ta 768 zs), (a 14, aB ta 32 zh), (a 15, aB ta 48 zw), (a 41, aS ta 256 gke), (a 54, aS ta 300 x'), (a 56, aS ta 16 d'), (h0, oM a ar mn tp osz lsz ns ct), (a 53, aS ta 16 b'), (a 36, aK ta 2 ru)] → va_S A ss.heap H locs → ∀ ls : Array Slot, lv_has ls 7 [(6, .int (nI d)), (5, .int (nI (8 * i))), (4, .int (nI 8)), (0, .ref h0), (1, .int (nI sd)), (2, .int (nI n8)), (3, .int (nI 0))] → W pp ll ee ({ frames := 5, cells := 0, slots := 0, locals := 122 } : Room) ss mm (([.ref h0, .int (nI sd), .int (nI n8), .int (nI 0)] : List Value).toArray) below meth kc H locs 0 0 Q (F0 mm 34 ls []) := by
            intro nn34
            induction nn34 with
            | zero => intro d d' hdd ha9 hmu; exact absurd hmu (Nat.not_lt_zero _)
            | succ nn34 ih34 =>
              intro d d' hdd ha9 hmu34 H locs hP hD hS ls hl
              refine lv_iload (pc := 34) hx hb dX10_plain_34 (lv_at hl 0 rfl) ?_
              refine lv_iload (pc := 36) hx hb dX10_plain_36 (lv_at hl 2 rfl) ?_
              refine lv_icmp_ge (pc := 38) (tgt := 64) hx hb dX10_plain_38 (by decide) (fun c_13 => ?_) (fun c_13 => ?_)
              · skip
                rw [nI_leI (by omega) (by omega)] at c_13
                refine lv_aload_n (pc := 64) hx hb dX10_plain_64 rfl (lv_at hl 3 rfl) ?_
                refine lv_iload_n (pc := 65) hx hb dX10_plain_65 rfl (lv_at hl 4 rfl) ?_
                refine lv_aload_n (pc := 66) hx hb dX10_plain_66 rfl (lv_at hl 3 rfl) ?_
                refine va_get (pc := 67) (D := D) (ci := 8) (v := .ref (a 54)) (C := RX10) (T := TX10) (N := 57) hx hb hts iu10 hown hK hP 15 rfl rfl 54 (by decide) (hts _ tw_1099) (fun _ h9 => h9) rfl dX10_plain_67 ?_
                refine lv_iload (pc := 70) hx hb dX10_plain_70 (lv_at hl 1 rfl) ?_
                refine lv_iconst (pc := 72) (v := nI 1) hx hb dX10_plain_72 (by decide +kernel) ?_
                refine cs_V (pc := 73) (idx := 373) (n := 4) (wr := [(a 56, aS ta 16 d'), (a 53, aS ta 16 b')]) (As := [.int (nI sd), .ref (a 54), .int (nI (8 * i)), .int (nI 1)]) (rest := []) (ci := 8) hx hb hml hown hts hGok hK hA hG hl.1 hP hD hS (ct_X10_one_21 ll D ta hGok h0 a ar mn tp osz lsz ns ct zb zt zc zs zh zw gke ru sd (a 54) (8 * i) 300 x' (by first | assumption | omega | rfl | decide) (by first | assumption | omega | rfl | decide) (by first | assumption | omega | rfl | decide) (by first | assumption | omega | rfl | decide) H.size) tw_1400 tw_1397 tw_1399 tw_56 tw_75 hdX10_one rfl ⟨rfl, rfl, Nat.le_of_ble_eq_true rfl, Nat.le_of_ble_eq_true rfl, Nat.le_of_ble_eq_true rfl, Nat.le_of_ble_eq_true rfl⟩ rfl rfl (q0 := 15) rfl [15, 0, 1, 2, 3, 4, 5, 6, 7, 8, 9, 10, 11, 12, 17, 13] [14, 16] rfl rfl (by decide) rfl (Nat.le_of_ble_eq_true rfl) dX10_plain_73 (fun u H locs hq hP hD hS => ?_)
                obtain ⟨bi1_73, tu1_73, cd1_73, sk1_73, hf1_73, wd1_73, gb1_73⟩ := u
                have hq : (seg gb1_73 (8 * i) 8 = tdesL (seg gke (128 * sd) 16) true (seg x' (8 * i) 8)) ∧ (∀ jz, (jz < (8 * i) ∨ (8 * i) + 8 ≤ jz) → gb1_73 jz = x' jz) := hq
                obtain ⟨hs_73, hfr_73⟩ := hq
                refine W.eq (g2 := F0 mm 76 ls []) rfl ?_
                have hP : va_P D vwCl [(a 56, aS ta 16 d'), (a 53, aS ta 16 b'), (h0, oM a ar mn tp osz lsz ns ct), (a 0, aK ta 64 tIP), (a 1, aK ta 48 tSPR), (a 2, aK ta 32 tMIX), (a 3, aK ta 56 tCH), (a 4, aK ta 48 tSEC), (a 5, aK ta 512 tSBX), (a 10, aB ta 64 bi1_73), (a 11, aB ta 64 tu1_73), (a 12, aB ta 56 cd1_73), (a 13, aB ta 768 sk1_73), (a 14, aB ta 32 hf1_73), (a 15, aB ta 48 wd1_73), (a 41, aS ta 256 gke), (a 36, aK ta 2 ru), (a 54, aS ta 300 gb1_73)] H := hP
                have hD : va_D A [(a 56, aS ta 16 d'), (a 53, aS ta 16 b'), (h0, oM a ar mn tp osz lsz ns ct), (a 0, aK ta 64 tIP), (a 1, aK ta 48 tSPR), (a 2, aK ta 32 tMIX), (a 3, aK ta 56 tCH), (a 4, aK ta 48 tSEC), (a 5, aK ta 512 tSBX), (a 10, aB ta 64 bi1_73), (a 11, aB ta 64 tu1_73), (a 12, aB ta 56 cd1_73), (a 13, aB ta 768 sk1_73), (a 14, aB ta 32 hf1_73), (a 15, aB ta 48 wd1_73), (a 41, aS ta 256 gke), (a 36, aK ta 2 ru), (a 54, aS ta 300 gb1_73)] := hD
                refine lv_iconst (pc := 76) (v := nI 0) hx hb dX10_plain_76 (by decide +kernel) ?_
                refine lv_istore (pc := 77) (lv' := [(6, .int (nI 0)), (5, .int (nI (8 * i))), (4, .int (nI 8)), (0, .ref h0), (1, .int (nI sd)), (2, .int (nI n8)), (3, .int (nI 0))]) hx hb dX10_plain_77 hl (by decide) rfl (fun ls hl => ?_)
                have LP79 : ∀ (nn79 : Nat) (e : Nat) (y' : Nat → BitVec 8) (c' : Nat → BitVec 8), (e ≤ 8) → (qSeg y' gb1_73 (8 * i) e (fun j => gb1_73 (8 * i + j) ^^^ b' j)) → (qSeg c' b' 0 e d') → (8 - e < nn79) → ∀ (H : Heap) (locs : List Loc), va_P D vwCl [(a 56, aS ta 16 d'), (a 53, aS ta 16 c'), (h0, oM a ar mn tp osz lsz ns ct), (a 0, aK ta 64 tIP), (a 1, aK ta 48 tSPR), (a 2, aK ta 32 tMIX), (a 3, aK ta 56 tCH), (a 4, aK ta 48 tSEC), (a 5, aK ta 512 tSBX), (a 10, aB ta 64 bi1_73), (a 11, aB ta 64 tu1_73), (a 12, aB ta 56 cd1_73), (a 13, aB ta 768 sk1_73), (a 14, aB ta 32 hf1_73), (a 15, aB ta 48 wd1_73), (a 41, aS ta 256 gke), (a 36, aK ta 2 ru), (a 54, aS ta 300 y')] H → va_D A [(a 56, aS ta 16 d'), (a 53, aS ta 16 c'), (h0, oM a ar mn tp osz lsz ns ct), (a 0, aK ta 64 tIP), (a 1, aK ta 48 tSPR), (a 2, aK ta 32 tMIX), (a 3, aK ta 56 tCH), (a 4, aK ta 48 tSEC), (a 5, aK ta 512 tSBX), (a 10, aB ta 64 bi1_73), (a 11, aB ta 64 tu1_73), (a 12, aB ta 56 cd1_73), (a 13, aB ta 768 sk1_73), (a 14, aB ta 32 hf1_73), (a 15, aB ta 48 wd1_73), (a 41, aS ta 256 gke), (a 36, aK ta 2 ru), (a 54, aS ta 300 y')] → va_S A ss.heap H locs → ∀ ls : Array Slot, lv_has ls 7 [(6, .int (nI e)), (5, .int (nI (8 * i))), (4, .int (nI 8)), (0, .ref h0), (1, .int (nI sd)), (2, .int (nI n8)), (3, .int (nI 0))] → W pp ll ee ({ frames := 5, cells := 0, slots := 0, locals := 122 } : Room) ss mm (([.ref h0, .int (nI sd), .int (nI n8), .int (nI 0)] : List Value).toArray) below meth kc H locs 0 0 Q (F0 mm 79 ls []) := by
                  intro nn79
                  induction nn79 with
                  | zero => intro e y' c' hee hy hc9 hmu; exact absurd hmu (Nat.not_lt_zero _)
                  | succ nn79 ih79 =>
                    intro e y' c' hee hy hc9 hmu79 H locs hP hD hS ls hl
                    refine lv_iload (pc := 79) hx hb dX10_plain_79 (lv_at hl 0 rfl) ?_
                    refine lv_iload (pc := 81) hx hb dX10_plain_81 (lv_at hl 2 rfl) ?_
                    refine lv_icmp_ge (pc := 83) (tgt := 127) hx hb dX10_plain_83 (by decide) (fun c_14 => ?_) (fun c_14 => ?_)
                    · skip
                      rw [nI_leI (by omega) (by omega)] at c_14
                      refine lv_iload (pc := 127) hx hb dX10_plain_127 (lv_at hl 1 rfl) ?_
                      refine lv_iload (pc := 129) hx hb dX10_plain_129 (lv_at hl 2 rfl) ?_
                      refine lv_iadd (pc := 131) hx hb dX10_plain_131 ?_
                      refine q_top (y := nI (8 * i + 8)) (nI_add (8 * i) 8) ?_
                      refine lv_istore (pc := 132) (lv' := [(5, .int (nI (8 * i + 8))), (6, .int (nI e)), (4, .int (nI 8)), (0, .ref h0), (1, .int (nI sd)), (2, .int (nI n8)), (3, .int (nI 0))]) hx hb dX10_plain_132 hl (by decide) rfl (fun ls hl => ?_)
                      refine lv_goto (pc := 134) (tgt := 25) hx hb dX10_plain_134 (by decide) ?_
                      exact ih25 (i + 1) y' c' d' bi1_73 tu1_73 cd1_73 sk1_73 hf1_73 wd1_73 (by omega) ((dec_stepR (by decide) (n := n8) (m := n8 / 8) (by omega) (by omega) hr hb1 (by omega) ha9 hs_73 hfr_73 (by omega) hy hc9 tdes_Elen).1) ((dec_stepR (by decide) (n := n8) (m := n8 / 8) (by omega) (by omega) hr hb1 (by omega) ha9 hs_73 hfr_73 (by omega) hy hc9 tdes_Elen).2) (by omega) _ _ (hP.sub [3, 4, 5, 6, 7, 8, 9, 10, 11, 12, 13, 14, 15, 17, 0, 2, 1, 16] rfl) (hD.sub [3, 4, 5, 6, 7, 8, 9, 10, 11, 12, 13, 14, 15, 17, 0, 2, 1, 16] (by decide) rfl) hS ls (lv_sub hl [0, 2, 3, 4, 5, 6] rfl)
                    · skip
                      rw [nI_leI (by omega) (by omega)] at c_14
                      refine lv_aload_n (pc := 86) hx hb dX10_plain_86 rfl (lv_at hl 3 rfl) ?_
                      refine va_get (pc := 87) (D := D) (ci := 8) (v := .ref (a 54)) (C := RX10) (T := TX10) (N := 57) hx hb hts iu10 hown hK hP 2 rfl rfl 54 (by decide) (hts _ tw_1099) (fun _ h9 => h9) rfl dX10_plain_87 ?_
                      refine lv_iload (pc := 90) hx hb dX10_plain_90 (lv_at hl 1 rfl) ?_
                      refine lv_iload (pc := 92) hx hb dX10_plain_92 (lv_at hl 0 rfl) ?_
                      refine lv_iadd (pc := 94) hx hb dX10_plain_94 ?_
                      refine q_top (y := nI (8 * i + e)) (nI_add (8 * i) e) ?_
                      refine lv_dup2_11 (pc := 95) hx hb dX10_plain_95 rfl rfl ?_
                      refine q_bald (pc := 96) hx hb hK hP 17 2 rfl rfl (k := 8 * i + e) (v := qs (y' (8 * i + e))) rfl (by omega) (by omega) rfl dX10_plain_96 ?_
                      refine lv_aload_n (pc := 97) hx hb dX10_plain_97 rfl (lv_at hl 3 rfl) ?_
                      refine va_get (pc := 98) (D := D) (ci := 8) (v := .ref (a 53)) (C := RX10) (T := TX10) (N := 57) hx hb hts iu10 hown hK hP 2 rfl rfl 53 (by decide) (hts _ tw_1098) (fun _ h9 => h9) rfl dX10_plain_98 ?_
                      refine lv_iload (pc := 101) hx hb dX10_plain_101 (lv_at hl 0 rfl) ?_
                      refine q_bald (pc := 103) hx hb hK hP 1 2 rfl rfl (k := e) (v := qs (c' e)) rfl (by omega) (by omega) rfl dX10_plain_103 ?_
                      refine lv_ixor (pc := 104) hx hb dX10_plain_104 ?_
                      refine q_top (y := qs ((y' (8 * i + e)) ^^^ (c' e))) (q_xor_s _ _) ?_
                      refine lv_i2b (pc := 105) (v := qs ((y' (8 * i + e)) ^^^ (c' e))) hx hb dX10_plain_105 (q_i2b_s _) ?_
                      refine q_bastS (pc := 106) hx hb hK hP hD hS 17 2 rfl rfl (k := 8 * i + e) rfl (by omega) (by omega) (b := (y' (8 * i + e)) ^^^ (c' e)) (qlo_qs _) dX10_plain_106 (fun H locs hP hD hS => ?_)
                      have hP : va_P D vwCl [(a 56, aS ta 16 d'), (a 53, aS ta 16 c'), (h0, oM a ar mn tp osz lsz ns ct), (a 0, aK ta 64 tIP), (a 1, aK ta 48 tSPR), (a 2, aK ta 32 tMIX), (a 3, aK ta 56 tCH), (a 4, aK ta 48 tSEC), (a 5, aK ta 512 tSBX), (a 10, aB ta 64 bi1_73), (a 11, aB ta 64 tu1_73), (a 12, aB ta 56 cd1_73), (a 13, aB ta 768 sk1_73), (a 14, aB ta 32 hf1_73), (a 15, aB ta 48 wd1_73), (a 41, aS ta 256 gke), (a 36, aK ta 2 ru), (a 54, aS ta 300 (qU y' (8 * i + e) ((y' (8 * i + e)) ^^^ (c' e))))] H := hP
                      have hD : va_D A [(a 56, aS ta 16 d'), (a 53, aS ta 16 c'), (h0, oM a ar mn tp osz lsz ns ct), (a 0, aK ta 64 tIP), (a 1, aK ta 48 tSPR), (a 2, aK ta 32 tMIX), (a 3, aK ta 56 tCH), (a 4, aK ta 48 tSEC), (a 5, aK ta 512 tSBX), (a 10, aB ta 64 bi1_73), (a 11, aB ta 64 tu1_73), (a 12, aB ta 56 cd1_73), (a 13, aB ta 768 sk1_73), (a 14, aB ta 32 hf1_73), (a 15, aB ta 48 wd1_73), (a 41, aS ta 256 gke), (a 36, aK ta 2 ru), (a 54, aS ta 300 (qU y' (8 * i + e) ((y' (8 * i + e)) ^^^ (c' e))))] := hD
                      refine lv_aload_n (pc := 107) hx hb dX10_plain_107 rfl (lv_at hl 3 rfl) ?_
                      refine va_get (pc := 108) (D := D) (ci := 8) (v := .ref (a 53)) (C := RX10) (T := TX10) (N := 57) hx hb hts iu10 hown hK hP 2 rfl rfl 53 (by decide) (hts _ tw_1098) (fun _ h9 => h9) rfl dX10_plain_108 ?_
                      refine lv_iload (pc := 111) hx hb dX10_plain_111 (lv_at hl 0 rfl) ?_
                      refine lv_aload_n (pc := 113) hx hb dX10_plain_113 rfl (lv_at hl 3 rfl) ?_
                      refine va_get (pc := 114) (D := D) (ci := 8) (v := .ref (a 56)) (C := RX10) (T := TX10) (N := 57) hx hb hts iu10 hown hK hP 2 rfl rfl 56 (by decide) (hts _ tw_1101) (fun _ h9 => h9) rfl dX10_plain_114 ?_
                      refine lv_iload (pc := 117) hx hb dX10_plain_117 (lv_at hl 0 rfl) ?_
                      refine q_bald (pc := 119) hx hb hK hP 0 2 rfl rfl (k := e) (v := qs (d' e)) rfl (by omega) (by omega) rfl dX10_plain_119 ?_
                      refine q_bastS (pc := 120) hx hb hK hP hD hS 1 2 rfl rfl (k := e) rfl (by omega) (by omega) (b := d' e) (qlo_qs _) dX10_plain_120 (fun H locs hP hD hS => ?_)
                      have hP : va_P D vwCl [(a 56, aS ta 16 d'), (a 53, aS ta 16 (qU c' e (d' e))), (h0, oM a ar mn tp osz lsz ns ct), (a 0, aK ta 64 tIP), (a 1, aK ta 48 tSPR), (a 2, aK ta 32 tMIX), (a 3, aK ta 56 tCH), (a 4, aK ta 48 tSEC), (a 5, aK ta 512 tSBX), (a 10, aB ta 64 bi1_73), (a 11, aB ta 64 tu1_73), (a 12, aB ta 56 cd1_73), (a 13, aB ta 768 sk1_73), (a 14, aB ta 32 hf1_73), (a 15, aB ta 48 wd1_73), (a 41, aS ta 256 gke), (a 36, aK ta 2 ru), (a 54, aS ta 300 (qU y' (8 * i + e) ((y' (8 * i + e)) ^^^ (c' e))))] H := hP
                      have hD : va_D A [(a 56, aS ta 16 d'), (a 53, aS ta 16 (qU c' e (d' e))), (h0, oM a ar mn tp osz lsz ns ct), (a 0, aK ta 64 tIP), (a 1, aK ta 48 tSPR), (a 2, aK ta 32 tMIX), (a 3, aK ta 56 tCH), (a 4, aK ta 48 tSEC), (a 5, aK ta 512 tSBX), (a 10, aB ta 64 bi1_73), (a 11, aB ta 64 tu1_73), (a 12, aB ta 56 cd1_73), (a 13, aB ta 768 sk1_73), (a 14, aB ta 32 hf1_73), (a 15, aB ta 48 wd1_73), (a 41, aS ta 256 gke), (a 36, aK ta 2 ru), (a 54, aS ta 300 (qU y' (8 * i + e) ((y' (8 * i + e)) ^^^ (c' e))))] := hD
                      refine lv_iinc (pc := 121) (v := nI (e + 1)) (lv' := [(6, .int (nI (e + 1))), (5, .int (nI (8 * i))), (4, .int (nI 8)), (0, .ref h0), (1, .int (nI sd)), (2, .int (nI n8)), (3, .int (nI 0))]) hx hb dX10_plain_121 hl (k := 0) rfl (by first | exact nI_add e 1 | rfl) (by decide) rfl (fun ls hl => ?_)
                      refine lv_goto (pc := 124) (tgt := 79) hx hb dX10_plain_124 (by decide) ?_
                      exact ih79 (e + 1) (qU y' (8 * i + e) ((y' (8 * i + e)) ^^^ (c' e))) (qU c' e (d' e)) (by omega) (qSeg_s hy rfl (by rw [hy.2 _ (by omega), hc9.2 _ (by omega)])) (qSeg_s hc9 (by omega) rfl) (by omega) _ _ (hP.sub [0, 1, 2, 3, 4, 5, 6, 7, 8, 9, 10, 11, 12, 13, 14, 15, 16, 17] rfl) (hD.sub [0, 1, 2, 3, 4, 5, 6, 7, 8, 9, 10, 11, 12, 13, 14, 15, 16, 17] (by decide) rfl) hS ls (lv_sub hl [0, 1, 2, 3, 4, 5, 6] rfl)
                exact LP79 _ 0 gb1_73 b' (by omega) (qSeg_0) (qSeg_0) (Nat.lt_succ_self _) _ _ (hP.sub [0, 1, 2, 3, 4, 5, 6, 7, 8, 9, 10, 11, 12, 13, 14, 15, 16, 17] rfl) (hD.sub [0, 1, 2, 3, 4, 5, 6, 7, 8, 9, 10, 11, 12, 13, 14, 15, 16, 17] (by decide) rfl) hS ls (lv_sub hl [0, 1, 2, 3, 4, 5, 6] rfl)
              · skip
                rw [nI_leI (by omega) (by omega)] at c_13
                refine lv_aload_n (pc := 41) hx hb dX10_plain_41 rfl (lv_at hl 3 rfl) ?_
                refine va_get (pc := 42) (D := D) (ci := 8) (v := .ref (a 56)) (C := RX10) (T := TX10) (N := 57) hx hb hts iu10 hown hK hP 15 rfl rfl 56 (by decide) (hts _ tw_1101) (fun _ h9 => h9) rfl dX10_plain_42 ?_
                refine lv_iload (pc := 45) hx hb dX10_plain_45 (lv_at hl 0 rfl) ?_
                refine lv_aload_n (pc := 47) hx hb dX10_plain_47 rfl (lv_at hl 3 rfl) ?_
                refine va_get (pc := 48) (D := D) (ci := 8) (v := .ref (a 54)) (C := RX10) (T := TX10) (N := 57) hx hb hts iu10 hown hK hP 15 rfl rfl 54 (by decide) (hts _ tw_1099) (fun _ h9 => h9) rfl dX10_plain_48 ?_
                refine lv_iload (pc := 51) hx hb dX10_plain_51 (lv_at hl 1 rfl) ?_
                refine lv_iload (pc := 53) hx hb dX10_plain_53 (lv_at hl 0 rfl) ?_
                refine lv_iadd (pc := 55) hx hb dX10_plain_55 ?_
                refine q_top (y := nI (8 * i + d)) (nI_add (8 * i) d) ?_
                refine q_bald (pc := 56) hx hb hK hP 13 2 rfl rfl (k := 8 * i + d) (v := qs (x' (8 * i + d))) rfl (by omega) (by omega) rfl dX10_plain_56 ?_
                refine q_bastS (pc := 57) hx hb hK hP hD hS 14 2 rfl rfl (k := d) rfl (by omega) (by omega) (b := x' (8 * i + d)) (qlo_qs _) dX10_plain_57 (fun H locs hP hD hS => ?_)
                have hP : va_P D vwCl [(a 0, aK ta 64 tIP), (a 1, aK ta 48 tSPR), (a 2, aK ta 32 tMIX), (a 3, aK ta 56 tCH), (a 4, aK ta 48 tSEC), (a 5, aK ta 512 tSBX), (a 10, aB ta 64 zb), (a 11, aB ta 64 zt), (a 12, aB ta 56 zc), (a 13, aB ta 768 zs), (a 14, aB ta 32 zh), (a 15, aB ta 48 zw), (a 41, aS ta 256 gke), (a 54, aS ta 300 x'), (a 56, aS ta 16 (qU d' d (x' (8 * i + d)))), (h0, oM a ar mn tp osz lsz ns ct), (a 53, aS ta 16 b'), (a 36, aK ta 2 ru)] H := hP
                have hD : va_D A [(a 0, aK ta 64 tIP), (a 1, aK ta 48 tSPR), (a 2, aK ta 32 tMIX), (a 3, aK ta 56 tCH), (a 4, aK ta 48 tSEC), (a 5, aK ta 512 tSBX), (a 10, aB ta 64 zb), (a 11, aB ta 64 zt), (a 12, aB ta 56 zc), (a 13, aB ta 768 zs), (a 14, aB ta 32 zh), (a 15, aB ta 48 zw), (a 41, aS ta 256 gke), (a 54, aS ta 300 x'), (a 56, aS ta 16 (qU d' d (x' (8 * i + d)))), (h0, oM a ar mn tp osz lsz ns ct), (a 53, aS ta 16 b'), (a 36, aK ta 2 ru)] := hD
                refine lv_iinc (pc := 58) (v := nI (d + 1)) (lv' := [(6, .int (nI (d + 1))), (5, .int (nI (8 * i))), (4, .int (nI 8)), (0, .ref h0), (1, .int (nI sd)), (2, .int (nI n8)), (3, .int (nI 0))]) hx hb dX10_plain_58 hl (k := 0) rfl (by first | exact nI_add d 1 | rfl) (by decide) rfl (fun ls hl => ?_)
                refine lv_goto (pc := 61) (tgt := 34) hx hb dX10_plain_61 (by decide) ?_
                exact ih34 (d + 1) (qU d' d (x' (8 * i + d))) (by omega) (qSeg_s ha9 (by omega) rfl) (by omega) _ _ (hP.sub [0, 1, 2, 3, 4, 5, 6, 7, 8, 9, 10, 11, 12, 13, 14, 15, 16, 17] rfl) (hD.sub [0, 1, 2, 3, 4, 5, 6, 7, 8, 9, 10, 11, 12, 13, 14, 15, 16, 17] (by decide) rfl) hS ls (lv_sub hl [0, 1, 2, 3, 4, 5, 6] rfl)
          exact LP34 _ 0 a' (by omega) (qSeg_0) (Nat.lt_succ_self _) _ _ (hP.sub [0, 1, 2, 3, 4, 5, 6, 7, 8, 9, 10, 11, 12, 13, 14, 15, 16, 17] rfl) (hD.sub [0, 1, 2, 3, 4, 5, 6, 7, 8, 9, 10, 11, 12, 13, 14, 15, 16, 17] (by decide) rfl) hS ls (lv_sub hl [0, 1, 2, 3, 4, 5, 6] rfl)
    exact LP25 _ 0 gwk gbl1_19 gah bi tu cd sk hf wd (by omega) (qSeg_0) (by rw [if_pos rfl, qL_zero hs_19 (by decide)]) (Nat.lt_succ_self _) _ _ (hP.sub [0, 1, 2, 3, 4, 5, 6, 7, 8, 9, 10, 11, 12, 13, 14, 15, 16, 17] rfl) (hD.sub [0, 1, 2, 3, 4, 5, 6, 7, 8, 9, 10, 11, 12, 13, 14, 15, 16, 17] (by decide) rfl) hS ls (lv_sub hl [0, 1, 2, 3, 4, 5] rfl)
  · skip
    rw [q_eq0 (by omega)] at c_1
    have h16 : ¬ n8 % 8 = 0 := by omega
    refine lv_iconst (pc := 14) (v := (-1)) hx hb dX10_plain_14 (by decide +kernel) ?_
    refine q_top (y := (-1)) (by first | rfl | decide +kernel | (simp; done)) ?_
    have hq_15 : (show2 (seg gke (128 * sd) 16) (qL gwk n8) = if false then some (qL gwk 0) else none) ∧ (((-1) : Int32) = if false then nI 0 else -1) ∧ (0 ≤ n8) := by
      exact ⟨by rw [show2, qL_len, if_neg h16]; rfl, rfl, by omega⟩
    exact hret (⟨(-1), (false), (bi), (tu), (cd), (sk), (hf), (wd), (gbl), (gwk), (gah), (0)⟩ : Int32 × Bool × (Nat → Bool) × (Nat → Bool) × (Nat → Bool) × (Nat → Bool) × (Nat → Bool) × (Nat → Bool) × (Nat → BitVec 8) × (Nat → BitVec 8) × (Nat → BitVec 8) × Nat) _ _ _ _ dX10_plain_15 hq_15 (hP.sub [16, 0, 1, 2, 3, 4, 5, 6, 7, 8, 9, 10, 11, 12, 13, 17, 14, 15] rfl) (hD.sub [16, 0, 1, 2, 3, 4, 5, 6, 7, 8, 9, 10, 11, 12, 13, 17, 14, 15] (by decide) rfl) hS
set_option maxHeartbeats 4000000 in
set_option maxRecDepth 100000 in
theorem ct_X10_plain_30 (ll : Launch) (D : va_G) (ta : Nat → ClassId) {G : (Nat → Prop) → State → Heap → Prop} (hGok : GOK G) (h0 : Nat) (a : Nat → Nat) (ar : Nat) (mn : Nat) (tp : Nat) (osz : Nat) (lsz : Nat) (ns : Nat) (ct : Nat) (rk : Nat → BitVec 8) (ce : Nat → BitVec 8) (gbl : Nat → BitVec 8) (gke : Nat → BitVec 8) (gwk : Nat → BitVec 8) (gah : Nat → BitVec 8) (ru : Nat → Nat) (le : Nat → Nat) (cn : Nat → Nat) (sd : Nat) (n8 : Nat) (hsd : sd ≤ 1) (hru : ru sd = 3) (hn8 : 0 < n8 ∧ n8 ≤ 300) (hle : le sd = 16 ∨ le sd = 24 ∨ le sd = 32) (hcn : cn sd < 2147483648) (sz : Nat) : CT ll yX10_plain cX10_plain 7 (some .int) ({ frames := 5, cells := 0, slots := 0, locals := 122 } : Room) D ta G [.ref h0, .int (nI sd), .int (nI n8), .int (nI 0)] [(h0, oM a ar mn tp osz lsz ns ct), (a 8, aZ ta 256 BOX), (a 9, aZ ta 256 UBOX), (a 16, aS ta 240 rk), (a 18, aS ta 16 ce), (a 53, aS ta 16 gbl), (a 41, aS ta 256 gke), (a 36, aK ta 2 ru), (a 54, aS ta 300 gwk), (a 56, aS ta 16 gah), (a 37, aK ta 2 le), (a 47, aK ta 2 cn)] sz (S := Int32 × Bool × (Nat → BitVec 8) × (Nat → BitVec 8) × (Nat → BitVec 8) × (Nat → BitVec 8) × (Nat → BitVec 8) × Nat × Nat) (fun u => some (.int u.1)) (fun u => (show3 (seg gke (128 * sd) (le sd)) (cn sd) 0#8 (qL gwk n8) = if u.2.1 then some (qL u.2.2.2.2.2.1 u.2.2.2.2.2.2.2.1) else none) ∧ ((u.1 : Int32) = if u.2.1 then nI u.2.2.2.2.2.2.2.1 else -1) ∧ (u.2.2.2.2.2.2.2.1 ≤ n8)) (fun u => [(h0, oM a u.2.2.2.2.2.2.2.2 mn tp osz lsz ns ct), (a 8, aZ ta 256 BOX), (a 9, aZ ta 256 UBOX), (a 16, aS ta 240 u.2.2.1), (a 18, aS ta 16 u.2.2.2.1), (a 53, aS ta 16 u.2.2.2.2.1), (a 41, aS ta 256 gke), (a 36, aK ta 2 ru), (a 54, aS ta 300 u.2.2.2.2.2.1), (a 56, aS ta 16 u.2.2.2.2.2.2.1), (a 37, aK ta 2 le), (a 47, aK ta 2 cn)]) 0 0 := by
  refine CT.of_i (r := fun u => u.1) rfl (by decide) (Nat.le_of_ble_eq_true rfl) ?_
  intro pp ee ss mm below meth kc A Q hx hb hml hown hin hts hK hA hsz hG hret H locs hP hD hS ls hl
  have hl : lv_has ls 7 [(0, .ref h0), (1, .int (nI sd)), (2, .int (nI n8)), (3, .int (nI 0))] := hl
  refine lv_aload_n (pc := 0) hx hb dX10_plain_0 rfl (lv_at hl 0 rfl) ?_
  refine lv_iload_n (pc := 1) hx hb dX10_plain_1 rfl (lv_at hl 1 rfl) ?_
  refine cs_V (pc := 2) (idx := 368) (n := 1) (wr := [(a 8, aZ ta 256 BOX), (a 9, aZ ta 256 UBOX), (a 16, aS ta 240 rk), (a 18, aS ta 16 ce), (a 53, aS ta 16 gbl), (a 41, aS ta 256 gke), (a 54, aS ta 300 gwk), (a 56, aS ta 16 gah), (a 37, aK ta 2 le), (a 47, aK ta 2 cn)]) (As := [.int (nI sd)]) (rest := []) (ci := 8) hx hb hml hown hts hGok hK hA hG hl.1 hP hD hS (ct_X10_blockOf_3 ll D ta hGok h0 a ar mn tp osz lsz ns ct ru sd (by first | assumption | omega | rfl | decide) (by first | assumption | omega | rfl | decide) H.size) tw_1392 tw_1389 tw_1391 tw_54 tw_75 hdX10_blockOf rfl ⟨rfl, rfl, Nat.le_of_ble_eq_true rfl, Nat.le_of_ble_eq_true rfl, Nat.le_of_ble_eq_true rfl, Nat.le_of_ble_eq_true rfl⟩ rfl rfl (q0 := 0) rfl [0, 7] [1, 2, 3, 4, 5, 6, 8, 9, 10, 11] rfl rfl (by decide) rfl (Nat.le_of_ble_eq_true rfl) dX10_plain_2 (fun u H locs hq hP hD hS => ?_)
  refine W.eq (g2 := F0 mm 5 ls [.int (nI 16)]) rfl ?_
  have hP : va_P D vwCl [(a 8, aZ ta 256 BOX), (a 9, aZ ta 256 UBOX), (a 16, aS ta 240 rk), (a 18, aS ta 16 ce), (a 53, aS ta 16 gbl), (a 41, aS ta 256 gke), (a 54, aS ta 300 gwk), (a 56, aS ta 16 gah), (a 37, aK ta 2 le), (a 47, aK ta 2 cn), (h0, oM a ar mn tp osz lsz ns ct), (a 36, aK ta 2 ru)] H := hP
  have hD : va_D A [(a 8, aZ ta 256 BOX), (a 9, aZ ta 256 UBOX), (a 16, aS ta 240 rk), (a 18, aS ta 16 ce), (a 53, aS ta 16 gbl), (a 41, aS ta 256 gke), (a 54, aS ta 300 gwk), (a 56, aS ta 16 gah), (a 37, aK ta 2 le), (a 47, aK ta 2 cn), (h0, oM a ar mn tp osz lsz ns ct), (a 36, aK ta 2 ru)] := hD
  refine lv_istore (pc := 5) (lv' := [(4, .int (nI 16)), (0, .ref h0), (1, .int (nI sd)), (2, .int (nI n8)), (3, .int (nI 0))]) hx hb dX10_plain_5 hl (by decide) rfl (fun ls hl => ?_)
  refine lv_iload_n (pc := 7) hx hb dX10_plain_7 rfl (lv_at hl 3 rfl) ?_
  refine lv_iload (pc := 8) hx hb dX10_plain_8 (lv_at hl 0 rfl) ?_
  refine lv_irem (pc := 10) hx hb dX10_plain_10 (q_ne0 (by omega) (by omega)) ?_
  refine q_top (y := nI (n8 % 16)) (pk_rem (by omega) (by omega) (by omega)) ?_
  refine lv_if_eq (pc := 11) (tgt := 16) hx hb dX10_plain_11 (by decide) (fun c_1 => ?_) (fun c_1 => ?_)
  · skip
    rw [q_eq0 (by omega)] at c_1
    have h16 : n8 % 16 = 0 := by omega
    refine lv_aload_n (pc := 16) hx hb dX10_plain_16 rfl (lv_at hl 1 rfl) ?_
    refine lv_iload_n (pc := 17) hx hb dX10_plain_17 rfl (lv_at hl 2 rfl) ?_
    refine lv_iload_n (pc := 18) hx hb dX10_plain_18 rfl (lv_at hl 4 rfl) ?_
    refine cs_V (pc := 19) (idx := 371) (n := 2) (wr := [(a 54, aS ta 300 gwk), (a 56, aS ta 16 gah)]) (As := [.int (nI sd), .int (nI 0)]) (rest := []) (ci := 8) hx hb hml hown hts hGok hK hA hG hl.1 hP hD hS (ct_X10_first_30 ll D ta hGok h0 a ar mn tp osz lsz ns ct rk ce gbl gke ru le cn sd (by first | assumption | omega | rfl | decide) (by first | assumption | omega | rfl | decide) (by first | assumption | omega | rfl | decide) (by first | assumption | omega | rfl | decide) H.size) tw_1396 tw_1393 tw_1395 tw_55 tw_75 hdX10_first rfl ⟨rfl, rfl, Nat.le_of_ble_eq_true rfl, Nat.le_of_ble_eq_true rfl, Nat.le_of_ble_eq_true rfl, Nat.le_of_ble_eq_true rfl⟩ rfl rfl (q0 := 10) rfl [10, 0, 1, 2, 3, 4, 5, 11, 8, 9] [6, 7] rfl rfl (by decide) rfl (Nat.le_of_ble_eq_true rfl) dX10_plain_19 (fun u H locs hq hP hD hS => ?_)
    obtain ⟨rk1_19, ce1_19, gbl1_19⟩ := u
    have hq : (qL gbl1_19 16 = firstL (seg gke (128 * sd) (le sd)) (cn sd) 0#8) ∧ (rkOK rk1_19 (seg gke (128 * sd) (le sd))) := hq
    obtain ⟨hs_19, hrk_19⟩ := hq
    refine W.eq (g2 := F0 mm 22 ls []) rfl ?_
    have hP : va_P D vwCl [(a 54, aS ta 300 gwk), (a 56, aS ta 16 gah), (h0, oM a (le sd / 4 + 6) mn tp osz lsz ns ct), (a 8, aZ ta 256 BOX), (a 9, aZ ta 256 UBOX), (a 16, aS ta 240 rk1_19), (a 18, aS ta 16 ce1_19), (a 53, aS ta 16 gbl1_19), (a 41, aS ta 256 gke), (a 36, aK ta 2 ru), (a 37, aK ta 2 le), (a 47, aK ta 2 cn)] H := hP
    have hD : va_D A [(a 54, aS ta 300 gwk), (a 56, aS ta 16 gah), (h0, oM a (le sd / 4 + 6) mn tp osz lsz ns ct), (a 8, aZ ta 256 BOX), (a 9, aZ ta 256 UBOX), (a 16, aS ta 240 rk1_19), (a 18, aS ta 16 ce1_19), (a 53, aS ta 16 gbl1_19), (a 41, aS ta 256 gke), (a 36, aK ta 2 ru), (a 37, aK ta 2 le), (a 47, aK ta 2 cn)] := hD
    refine lv_iconst (pc := 22) (v := nI 0) hx hb dX10_plain_22 (by decide +kernel) ?_
    refine lv_istore (pc := 23) (lv' := [(5, .int (nI 0)), (4, .int (nI 16)), (0, .ref h0), (1, .int (nI sd)), (2, .int (nI n8)), (3, .int (nI 0))]) hx hb dX10_plain_23 hl (by decide) rfl (fun ls hl => ?_)
    have LP25 : ∀ (nn25 : Nat) (i : Nat) (x' : Nat → BitVec 8) (b' : Nat → BitVec 8) (a' : Nat → BitVec 8) (e' : Nat → BitVec 8), (16 * i ≤ n8) → (qSeg x' gwk 0 (16 * i) (decF (aesD (seg gke (128 * sd) (le sd))) 16 (firstL (seg gke (128 * sd) (le sd)) (cn sd) 0#8) (qL gwk n8))) → (qL b' 16 = if i = 0 then (firstL (seg gke (128 * sd) (le sd)) (cn sd) 0#8) else seg gwk (16 * (i - 1)) 16) → (n8 - 16 * i < nn25) → ∀ (H : Heap) (locs : List Loc), va_P D vwCl [(a 54, aS ta 300 x'), (a 56, aS ta 16 a'), (h0, oM a (le sd / 4 + 6) mn tp osz lsz ns ct), (a 8, aZ ta 256 BOX), (a 9, aZ ta 256 UBOX), (a 16, aS ta 240 rk1_19), (a 18, aS ta 16 e'), (a 53, aS ta 16 b'), (a 41, aS ta 256 gke), (a 36, aK ta 2 ru), (a 37, aK ta 2 le), (a 47, aK ta 2 cn)] H → va_D A [(a 54, aS ta 300 x'), (a 56, aS ta 16 a'), (h0, oM a (le sd / 4 + 6) mn tp osz lsz ns ct), (a 8, aZ ta 256 BOX), (a 9, aZ ta 256 UBOX), (a 16, aS ta 240 rk1_19), (a 18, aS ta 16 e'), (a 53, aS ta 16 b'), (a 41, aS ta 256 gke), (a 36, aK ta 2 ru), (a 37, aK ta 2 le), (a 47, aK ta 2 cn)] → va_S A ss.heap H locs → ∀ ls : Array Slot, lv_has ls 7 [(5, .int (nI (16 * i))), (4, .int (nI 16)), (0, .ref h0), (1, .int (nI sd)), (2, .int (nI n8)), (3, .int (nI 0))] → W pp ll ee ({ frames := 5, cells := 0, slots := 0, locals := 122 } : Room) ss mm (([.ref h0, .int (nI sd), .int (nI n8), .int (nI 0)] : List Value).toArray) below meth kc H locs 0 0 Q (F0 mm 25 ls []) := by
      intro nn25
      induction nn25 with
      | zero => intro i x' b' a' e' hii hr hb1 hmu; exact absurd hmu (Nat.not_lt_zero _)
      | succ nn25 ih25 =>
        intro i x' b' a' e' hii hr hb1 hmu25 H locs hP hD hS ls hl
        refine lv_iload (pc := 25) hx hb dX10_plain_25 (lv_at hl 0 rfl) ?_
        refine lv_iload_n (pc := 27) hx hb dX10_plain_27 rfl (lv_at hl 4 rfl) ?_
        refine lv_icmp_ge (pc := 28) (tgt := 137) hx hb dX10_plain_28 (by decide) (fun c_2 => ?_) (fun c_2 => ?_)
        · skip
          rw [nI_leI (by omega) (by omega)] at c_2
          have hDD9 : decL (aesD (seg gke (128 * sd) (le sd))) 16 (firstL (seg gke (128 * sd) (le sd)) (cn sd) 0#8) (qL gwk n8) = qL x' n8 := by rw [decL, qL_len, ← seg_0 (g := x'), qSeg_segk hr (by omega)]
          refine lv_iload_n (pc := 137) hx hb dX10_plain_137 rfl (lv_at hl 4 rfl) ?_
          refine lv_iconst (pc := 138) (v := nI 1) hx hb dX10_plain_138 (by decide +kernel) ?_
          refine lv_isub (pc := 139) hx hb dX10_plain_139 ?_
          refine q_top (y := qI n8) (qI_of n8) ?_
          refine lv_istore (pc := 140) (lv' := [(5, .int (qI n8)), (4, .int (nI 16)), (0, .ref h0), (1, .int (nI sd)), (2, .int (nI n8)), (3, .int (nI 0))]) hx hb dX10_plain_140 hl (by decide) rfl (fun ls hl => ?_)
          have LP142 : ∀ (nn142 : Nat) (c : Nat), (c ≤ n8) → (∀ j, c ≤ j → j < n8 → x' j = 0#8) → (c < nn142) → ∀ (H : Heap) (locs : List Loc), va_P D vwCl [(a 54, aS ta 300 x'), (a 56, aS ta 16 a'), (h0, oM a (le sd / 4 + 6) mn tp osz lsz ns ct), (a 8, aZ ta 256 BOX), (a 9, aZ ta 256 UBOX), (a 16, aS ta 240 rk1_19), (a 18, aS ta 16 e'), (a 53, aS ta 16 b'), (a 41, aS ta 256 gke), (a 36, aK ta 2 ru), (a 37, aK ta 2 le), (a 47, aK ta 2 cn)] H → va_D A [(a 54, aS ta 300 x'), (a 56, aS ta 16 a'), (h0, oM a (le sd / 4 + 6) mn tp osz lsz ns ct), (a 8, aZ ta 256 BOX), (a 9, aZ ta 256 UBOX), (a 16, aS ta 240 rk1_19), (a 18, aS ta 16 e'), (a 53, aS ta 16 b'), (a 41, aS ta 256 gke), (a 36, aK ta 2 ru), (a 37, aK ta 2 le), (a 47, aK ta 2 cn)] → va_S A ss.heap H locs → ∀ ls : Array Slot, lv_has ls 7 [(5, .int (qI c)), (4, .int (nI 16)), (0, .ref h0), (1, .int (nI sd)), (2, .int (nI n8)), (3, .int (nI 0))] → W pp ll ee ({ frames := 5, cells := 0, slots := 0, locals := 122 } : Room) ss mm (([.ref h0, .int (nI sd), .int (nI n8), .int (nI 0)] : List Value).toArray) below meth kc H locs 0 0 Q (F0 mm 142 ls []) := by
            intro nn142
            induction nn142 with
            | zero => intro c hcc hz0 hmu; exact absurd hmu (Nat.not_lt_zero _)
            | succ nn142 ih142 =>
              intro c hcc hz0 hmu142 H locs hP hD hS ls hl
              refine lv_iload (pc := 142) hx hb dX10_plain_142 (lv_at hl 0 rfl) ?_
              refine lv_if_lt (pc := 144) (tgt := 163) hx hb dX10_plain_144 (by decide) (fun c_3 => ?_) (fun c_3 => ?_)
              · skip
                rw [qI_neg (by omega)] at c_3
                have en_4 : 0 = c := by omega
                subst en_4
                refine lv_iload (pc := 163) hx hb dX10_plain_163 (lv_at hl 0 rfl) ?_
                refine lv_iconst (pc := 165) (v := nI 1) hx hb dX10_plain_165 (by decide +kernel) ?_
                refine lv_icmp_lt (pc := 166) (tgt := 181) hx hb dX10_plain_166 (by decide) (fun c_5 => ?_) (fun c_5 => ?_)
                · skip
                  refine lv_iconst (pc := 181) (v := (-1)) hx hb dX10_plain_181 (by decide +kernel) ?_
                  refine lv_goto (pc := 182) (tgt := 187) hx hb dX10_plain_182 (by decide) ?_
                  refine q_top (y := (-1)) (by first | rfl | decide +kernel | (simp; done)) ?_
                  have hq_6 : (show3 (seg gke (128 * sd) (le sd)) (cn sd) 0#8 (qL gwk n8) = if false then some (qL x' 0) else none) ∧ (((-1) : Int32) = if false then nI 0 else -1) ∧ (0 ≤ n8) := by
                    refine ⟨?_, rfl, by omega⟩
                    rw [show3, qL_len, if_pos h16, hDD9]
                    first | (rw [qunp_none0 (by omega) (fun j hj => hz0 j (by omega) hj)]; rfl) | (rw [qunp_some (c := k9) (by omega) (fun j h1 h2 => hz0 j h1 h2) (by assumption) ⟨by omega, by assumption⟩]; rfl) | (rw [qunp_none (c := k9) (by omega) (fun j h1 h2 => hz0 j h1 h2) (by assumption) (fun q => by first | omega | (obtain ⟨q1, q2⟩ := q; contradiction))]; rfl)
                  exact hret (⟨(-1), (false), (rk1_19), (e'), (b'), (x'), (a'), (0), (le sd / 4 + 6)⟩ : Int32 × Bool × (Nat → BitVec 8) × (Nat → BitVec 8) × (Nat → BitVec 8) × (Nat → BitVec 8) × (Nat → BitVec 8) × Nat × Nat) _ _ _ _ dX10_plain_187 hq_6 (hP.sub [2, 3, 4, 5, 6, 7, 8, 9, 0, 1, 10, 11] rfl) (hD.sub [2, 3, 4, 5, 6, 7, 8, 9, 0, 1, 10, 11] (by decide) rfl) hS
                · skip
                  exact absurd (by decide) c_5
              · skip
                rw [qI_neg (by omega)] at c_3
                obtain ⟨k9, rfl⟩ : ∃ k, c = k + 1 := ⟨c - 1, by omega⟩
                rw [qI_s] at hl
                refine lv_aload_n (pc := 147) hx hb dX10_plain_147 rfl (lv_at hl 2 rfl) ?_
                refine va_get (pc := 148) (D := D) (ci := 8) (v := .ref (a 54)) (C := RX10) (T := TX10) (N := 57) hx hb hts iu10 hown hK hP 2 rfl rfl 54 (by decide) (hts _ tw_1099) (fun _ h9 => h9) rfl dX10_plain_148 ?_
                refine lv_iload (pc := 151) hx hb dX10_plain_151 (lv_at hl 0 rfl) ?_
                refine q_bald (pc := 153) hx hb hK hP 0 2 rfl rfl (k := k9) (v := qs (x' k9)) rfl (by omega) (by omega) rfl dX10_plain_153 ?_
                refine lv_if_ne (pc := 154) (tgt := 163) hx hb dX10_plain_154 (by decide) (fun c_7 => ?_) (fun c_7 => ?_)
                · skip
                  rw [qs_0] at c_7
                  refine lv_iload (pc := 163) hx hb dX10_plain_163 (lv_at hl 0 rfl) ?_
                  refine lv_iconst (pc := 165) (v := nI 1) hx hb dX10_plain_165 (by decide +kernel) ?_
                  refine lv_icmp_lt (pc := 166) (tgt := 181) hx hb dX10_plain_166 (by decide) (fun c_8 => ?_) (fun c_8 => ?_)
                  · skip
                    rw [nI_ltI (by omega) (by omega)] at c_8
                    refine lv_iconst (pc := 181) (v := (-1)) hx hb dX10_plain_181 (by decide +kernel) ?_
                    refine lv_goto (pc := 182) (tgt := 187) hx hb dX10_plain_182 (by decide) ?_
                    refine q_top (y := (-1)) (by first | rfl | decide +kernel | (simp; done)) ?_
                    have hq_9 : (show3 (seg gke (128 * sd) (le sd)) (cn sd) 0#8 (qL gwk n8) = if false then some (qL x' 0) else none) ∧ (((-1) : Int32) = if false then nI 0 else -1) ∧ (0 ≤ n8) := by
                      refine ⟨?_, rfl, by omega⟩
                      rw [show3, qL_len, if_pos h16, hDD9]
                      first | (rw [qunp_none0 (by omega) (fun j hj => hz0 j (by omega) hj)]; rfl) | (rw [qunp_some (c := k9) (by omega) (fun j h1 h2 => hz0 j h1 h2) (by assumption) ⟨by omega, by assumption⟩]; rfl) | (rw [qunp_none (c := k9) (by omega) (fun j h1 h2 => hz0 j h1 h2) (by assumption) (fun q => by first | omega | (obtain ⟨q1, q2⟩ := q; contradiction))]; rfl)
                    exact hret (⟨(-1), (false), (rk1_19), (e'), (b'), (x'), (a'), (0), (le sd / 4 + 6)⟩ : Int32 × Bool × (Nat → BitVec 8) × (Nat → BitVec 8) × (Nat → BitVec 8) × (Nat → BitVec 8) × (Nat → BitVec 8) × Nat × Nat) _ _ _ _ dX10_plain_187 hq_9 (hP.sub [2, 3, 4, 5, 6, 7, 8, 9, 0, 1, 10, 11] rfl) (hD.sub [2, 3, 4, 5, 6, 7, 8, 9, 0, 1, 10, 11] (by decide) rfl) hS
                  · skip
                    rw [nI_ltI (by omega) (by omega)] at c_8
                    refine lv_aload_n (pc := 169) hx hb dX10_plain_169 rfl (lv_at hl 2 rfl) ?_
                    refine va_get (pc := 170) (D := D) (ci := 8) (v := .ref (a 54)) (C := RX10) (T := TX10) (N := 57) hx hb hts iu10 hown hK hP 2 rfl rfl 54 (by decide) (hts _ tw_1099) (fun _ h9 => h9) rfl dX10_plain_170 ?_
                    refine lv_iload (pc := 173) hx hb dX10_plain_173 (lv_at hl 0 rfl) ?_
                    refine q_bald (pc := 175) hx hb hK hP 0 2 rfl rfl (k := k9) (v := qs (x' k9)) rfl (by omega) (by omega) rfl dX10_plain_175 ?_
                    refine lv_bipush (pc := 176) (v := (-128)) hx hb dX10_plain_176 (by decide +kernel) ?_
                    refine lv_icmp_eq (pc := 178) (tgt := 185) hx hb dX10_plain_178 (by decide) (fun c_10 => ?_) (fun c_10 => ?_)
                    · skip
                      rw [qs_80] at c_10
                      refine lv_iload (pc := 185) hx hb dX10_plain_185 (lv_at hl 0 rfl) ?_
                      refine q_top (y := (nI k9)) (by first | rfl | decide +kernel | (simp; done)) ?_
                      have hq_11 : (show3 (seg gke (128 * sd) (le sd)) (cn sd) 0#8 (qL gwk n8) = if true then some (qL x' k9) else none) ∧ (((nI k9) : Int32) = if true then nI k9 else -1) ∧ (k9 ≤ n8) := by
                        refine ⟨?_, rfl, by omega⟩
                        rw [show3, qL_len, if_pos h16, hDD9]
                        first | (rw [qunp_none0 (by omega) (fun j hj => hz0 j (by omega) hj)]; rfl) | (rw [qunp_some (c := k9) (by omega) (fun j h1 h2 => hz0 j h1 h2) (by assumption) ⟨by omega, by assumption⟩]; rfl) | (rw [qunp_none (c := k9) (by omega) (fun j h1 h2 => hz0 j h1 h2) (by assumption) (fun q => by first | omega | (obtain ⟨q1, q2⟩ := q; contradiction))]; rfl)
                      exact hret (⟨(nI k9), (true), (rk1_19), (e'), (b'), (x'), (a'), (k9), (le sd / 4 + 6)⟩ : Int32 × Bool × (Nat → BitVec 8) × (Nat → BitVec 8) × (Nat → BitVec 8) × (Nat → BitVec 8) × (Nat → BitVec 8) × Nat × Nat) _ _ _ _ dX10_plain_187 hq_11 (hP.sub [2, 3, 4, 5, 6, 7, 8, 9, 0, 1, 10, 11] rfl) (hD.sub [2, 3, 4, 5, 6, 7, 8, 9, 0, 1, 10, 11] (by decide) rfl) hS
                    · skip
                      rw [qs_80] at c_10
                      refine lv_iconst (pc := 181) (v := (-1)) hx hb dX10_plain_181 (by decide +kernel) ?_
                      refine lv_goto (pc := 182) (tgt := 187) hx hb dX10_plain_182 (by decide) ?_
                      refine q_top (y := (-1)) (by first | rfl | decide +kernel | (simp; done)) ?_
                      have hq_12 : (show3 (seg gke (128 * sd) (le sd)) (cn sd) 0#8 (qL gwk n8) = if false then some (qL x' 0) else none) ∧ (((-1) : Int32) = if false then nI 0 else -1) ∧ (0 ≤ n8) := by
                        refine ⟨?_, rfl, by omega⟩
                        rw [show3, qL_len, if_pos h16, hDD9]
                        first | (rw [qunp_none0 (by omega) (fun j hj => hz0 j (by omega) hj)]; rfl) | (rw [qunp_some (c := k9) (by omega) (fun j h1 h2 => hz0 j h1 h2) (by assumption) ⟨by omega, by assumption⟩]; rfl) | (rw [qunp_none (c := k9) (by omega) (fun j h1 h2 => hz0 j h1 h2) (by assumption) (fun q => by first | omega | (obtain ⟨q1, q2⟩ := q; contradiction))]; rfl)
                      exact hret (⟨(-1), (false), (rk1_19), (e'), (b'), (x'), (a'), (0), (le sd / 4 + 6)⟩ : Int32 × Bool × (Nat → BitVec 8) × (Nat → BitVec 8) × (Nat → BitVec 8) × (Nat → BitVec 8) × (Nat → BitVec 8) × Nat × Nat) _ _ _ _ dX10_plain_187 hq_12 (hP.sub [2, 3, 4, 5, 6, 7, 8, 9, 0, 1, 10, 11] rfl) (hD.sub [2, 3, 4, 5, 6, 7, 8, 9, 0, 1, 10, 11] (by decide) rfl) hS
                · skip
                  rw [qs_0] at c_7
                  refine lv_iinc (pc := 157) (v := qI k9) (lv' := [(5, .int (qI k9)), (4, .int (nI 16)), (0, .ref h0), (1, .int (nI sd)), (2, .int (nI n8)), (3, .int (nI 0))]) hx hb dX10_plain_157 hl (k := 0) rfl rfl (by decide) rfl (fun ls hl => ?_)
                  refine lv_goto (pc := 160) (tgt := 142) hx hb dX10_plain_160 (by decide) ?_
                  exact ih142 k9 (by omega) (by
                        intro j h1 h2
                        by_cases q : j = k9
                        · subst q; assumption
                        · exact hz0 j (by omega) h2) (by omega) _ _ (hP.sub [0, 1, 2, 3, 4, 5, 6, 7, 8, 9, 10, 11] rfl) (hD.sub [0, 1, 2, 3, 4, 5, 6, 7, 8, 9, 10, 11] (by decide) rfl) hS ls (lv_sub hl [0, 1, 2, 3, 4, 5] rfl)
          exact LP142 _ n8 (by omega) (fun j h1 h2 => absurd h1 (by omega)) (Nat.lt_succ_self _) _ _ (hP.sub [0, 1, 2, 3, 4, 5, 6, 7, 8, 9, 10, 11] rfl) (hD.sub [0, 1, 2, 3, 4, 5, 6, 7, 8, 9, 10, 11] (by decide) rfl) hS ls (lv_sub hl [0, 1, 2, 3, 4, 5] rfl)
        · skip
          rw [nI_leI (by omega) (by omega)] at c_2
          refine lv_iconst (pc := 31) (v := nI 0) hx hb dX10_plain_31 (by decide +kernel) ?_
          refine lv_istore (pc := 32) (lv' := [(6, .int (nI 0)), (5, .int (nI (16 * i))), (4, .int (nI 16)), (0, .ref h0), (1, .int (nI sd)), (2, .int (nI n8)), (3, .int (nI 0))]) hx hb dX10_plain_32 hl (by decide) rfl (fun ls hl => ?_)
          have LP34 : ∀ (nn34 : Nat) (d : Nat) (d' : Nat → BitVec 8), (d ≤ 16) → (qSeg d' a' 0 d (fun j => x' (16 * i + j))) → (16 - d < nn34) → ∀ (H : Heap) (locs : List Loc), va_P D vwCl [(a 54, aS ta 300 x'), (a 56, aS ta 16 d'), (h0, oM a (le sd / 4 + 6) mn tp osz lsz ns ct), (a 8, aZ ta 256 BOX), (a 9, aZ ta 256 UBOX), (a 16, aS ta 240 rk1_19), (a 18, aS ta 16 e'), (a 53, aS ta 16 b'), (a 41, aS ta 256 gke), (a 36, aK ta 2 ru), (a 37, aK ta 2 le), (a 47, aK ta 2 cn)] H → va_D A [(a 54, aS ta 300 x'), (a 56, aS ta 16 d'), (h0, oM a (le sd / 4 + 6) mn tp osz lsz ns ct), (a 8, aZ ta 256 BOX), (a 9, aZ ta 256 UBOX), (a 16, aS ta 240 rk1_19), (a 18, aS ta 16 e'), (a 53, aS ta 16 b'), (a 41, aS ta 256 gke), (a 36, aK ta 2 ru), (a 37, aK ta 2 le), (a 47, aK ta 2 cn)] → va_S A ss.heap H locs → ∀ ls : Array Slot, lv_has ls 7 [(6, .int (nI d)), (5, .int (nI (16 * i))), (4, .int (nI 16)), (0, .ref h0), (1, .int (nI sd)), (2, .int (nI n8)), (3, .int (nI 0))] → W pp ll ee ({ frames := 5, cells := 0, slots := 0, locals := 122 } : Room) ss mm (([.ref h0, .int (nI sd), .int (nI n8), .int (nI 0)] : List Value).toArray) below meth kc H locs 0 0 Q (F0 mm 34 ls []) := by
            intro nn34
            induction nn34 with
            | zero => intro d d' hdd ha9 hmu; exact absurd hmu (Nat.not_lt_zero _)
            | succ nn34 ih34 =>
              intro d d' hdd ha9 hmu34 H locs hP hD hS ls hl
              refine lv_iload (pc := 34) hx hb dX10_plain_34 (lv_at hl 0 rfl) ?_
              refine lv_iload (pc := 36) hx hb dX10_plain_36 (lv_at hl 2 rfl) ?_
              refine lv_icmp_ge (pc := 38) (tgt := 64) hx hb dX10_plain_38 (by decide) (fun c_13 => ?_) (fun c_13 => ?_)
              · skip
                rw [nI_leI (by omega) (by omega)] at c_13
                refine lv_aload_n (pc := 64) hx hb dX10_plain_64 rfl (lv_at hl 3 rfl) ?_
                refine lv_iload_n (pc := 65) hx hb dX10_plain_65 rfl (lv_at hl 4 rfl) ?_
                refine lv_aload_n (pc := 66) hx hb dX10_plain_66 rfl (lv_at hl 3 rfl) ?_
                refine va_get (pc := 67) (D := D) (ci := 8) (v := .ref (a 54)) (C := RX10) (T := TX10) (N := 57) hx hb hts iu10 hown hK hP 2 rfl rfl 54 (by decide) (hts _ tw_1099) (fun _ h9 => h9) rfl dX10_plain_67 ?_
                refine lv_iload (pc := 70) hx hb dX10_plain_70 (lv_at hl 1 rfl) ?_
                refine lv_iconst (pc := 72) (v := nI 1) hx hb dX10_plain_72 (by decide +kernel) ?_
                refine cs_V (pc := 73) (idx := 373) (n := 4) (wr := [(a 56, aS ta 16 d'), (a 53, aS ta 16 b'), (a 41, aS ta 256 gke), (a 37, aK ta 2 le), (a 47, aK ta 2 cn)]) (As := [.int (nI sd), .ref (a 54), .int (nI (16 * i)), .int (nI 1)]) (rest := []) (ci := 8) hx hb hml hown hts hGok hK hA hG hl.1 hP hD hS (ct_X10_one_31 ll D ta hGok h0 a mn tp osz lsz ns ct rk1_19 e' ru sd (a 54) (16 * i) 300 x' (le sd) ((seg gke (128 * sd) (le sd))) (by first | assumption | omega | rfl | decide) (by first | assumption | omega | rfl | decide) (by first | assumption | omega | rfl | decide) (by first | assumption | omega | rfl | decide) (hle) (seg_len) (hrk_19) H.size) tw_1400 tw_1397 tw_1399 tw_56 tw_75 hdX10_one rfl ⟨rfl, rfl, Nat.le_of_ble_eq_true rfl, Nat.le_of_ble_eq_true rfl, Nat.le_of_ble_eq_true rfl, Nat.le_of_ble_eq_true rfl⟩ rfl rfl (q0 := 2) rfl [2, 3, 4, 5, 6, 9, 0] [1, 7, 8, 10, 11] rfl rfl (by decide) rfl (Nat.le_of_ble_eq_true rfl) dX10_plain_73 (fun u H locs hq hP hD hS => ?_)
                obtain ⟨ce1_73, gb1_73⟩ := u
                have hq : (seg gb1_73 (16 * i) 16 = aesD ((seg gke (128 * sd) (le sd))) (seg x' (16 * i) 16)) ∧ (∀ jz, (jz < (16 * i) ∨ (16 * i) + 16 ≤ jz) → gb1_73 jz = x' jz) := hq
                obtain ⟨hs_73, hfr_73⟩ := hq
                refine W.eq (g2 := F0 mm 76 ls []) rfl ?_
                have hP : va_P D vwCl [(a 56, aS ta 16 d'), (a 53, aS ta 16 b'), (a 41, aS ta 256 gke), (a 37, aK ta 2 le), (a 47, aK ta 2 cn), (h0, oM a ((le sd) / 4 + 6) mn tp osz lsz ns ct), (a 8, aZ ta 256 BOX), (a 9, aZ ta 256 UBOX), (a 16, aS ta 240 rk1_19), (a 18, aS ta 16 ce1_73), (a 36, aK ta 2 ru), (a 54, aS ta 300 gb1_73)] H := hP
                have hD : va_D A [(a 56, aS ta 16 d'), (a 53, aS ta 16 b'), (a 41, aS ta 256 gke), (a 37, aK ta 2 le), (a 47, aK ta 2 cn), (h0, oM a ((le sd) / 4 + 6) mn tp osz lsz ns ct), (a 8, aZ ta 256 BOX), (a 9, aZ ta 256 UBOX), (a 16, aS ta 240 rk1_19), (a 18, aS ta 16 ce1_73), (a 36, aK ta 2 ru), (a 54, aS ta 300 gb1_73)] := hD
                refine lv_iconst (pc := 76) (v := nI 0) hx hb dX10_plain_76 (by decide +kernel) ?_
                refine lv_istore (pc := 77) (lv' := [(6, .int (nI 0)), (5, .int (nI (16 * i))), (4, .int (nI 16)), (0, .ref h0), (1, .int (nI sd)), (2, .int (nI n8)), (3, .int (nI 0))]) hx hb dX10_plain_77 hl (by decide) rfl (fun ls hl => ?_)
                have LP79 : ∀ (nn79 : Nat) (e : Nat) (y' : Nat → BitVec 8) (c' : Nat → BitVec 8), (e ≤ 16) → (qSeg y' gb1_73 (16 * i) e (fun j => gb1_73 (16 * i + j) ^^^ b' j)) → (qSeg c' b' 0 e d') → (16 - e < nn79) → ∀ (H : Heap) (locs : List Loc), va_P D vwCl [(a 56, aS ta 16 d'), (a 53, aS ta 16 c'), (a 41, aS ta 256 gke), (a 37, aK ta 2 le), (a 47, aK ta 2 cn), (h0, oM a ((le sd) / 4 + 6) mn tp osz lsz ns ct), (a 8, aZ ta 256 BOX), (a 9, aZ ta 256 UBOX), (a 16, aS ta 240 rk1_19), (a 18, aS ta 16 ce1_73), (a 36, aK ta 2 ru), (a 54, aS ta 300 y')] H → va_D A [(a 56, aS ta 16 d'), (a 53, aS ta 16 c'), (a 41, aS ta 256 gke), (a 37, aK ta 2 le), (a 47, aK ta 2 cn), (h0, oM a ((le sd) / 4 + 6) mn tp osz lsz ns ct), (a 8, aZ ta 256 BOX), (a 9, aZ ta 256 UBOX), (a 16, aS ta 240 rk1_19), (a 18, aS ta 16 ce1_73), (a 36, aK ta 2 ru), (a 54, aS ta 300 y')] → va_S A ss.heap H locs → ∀ ls : Array Slot, lv_has ls 7 [(6, .int (nI e)), (5, .int (nI (16 * i))), (4, .int (nI 16)), (0, .ref h0), (1, .int (nI sd)), (2, .int (nI n8)), (3, .int (nI 0))] → W pp ll ee ({ frames := 5, cells := 0, slots := 0, locals := 122 } : Room) ss mm (([.ref h0, .int (nI sd), .int (nI n8), .int (nI 0)] : List Value).toArray) below meth kc H locs 0 0 Q (F0 mm 79 ls []) := by
                  intro nn79
                  induction nn79 with
                  | zero => intro e y' c' hee hy hc9 hmu; exact absurd hmu (Nat.not_lt_zero _)
                  | succ nn79 ih79 =>
                    intro e y' c' hee hy hc9 hmu79 H locs hP hD hS ls hl
                    refine lv_iload (pc := 79) hx hb dX10_plain_79 (lv_at hl 0 rfl) ?_
                    refine lv_iload (pc := 81) hx hb dX10_plain_81 (lv_at hl 2 rfl) ?_
                    refine lv_icmp_ge (pc := 83) (tgt := 127) hx hb dX10_plain_83 (by decide) (fun c_14 => ?_) (fun c_14 => ?_)
                    · skip
                      rw [nI_leI (by omega) (by omega)] at c_14
                      refine lv_iload (pc := 127) hx hb dX10_plain_127 (lv_at hl 1 rfl) ?_
                      refine lv_iload (pc := 129) hx hb dX10_plain_129 (lv_at hl 2 rfl) ?_
                      refine lv_iadd (pc := 131) hx hb dX10_plain_131 ?_
                      refine q_top (y := nI (16 * i + 16)) (nI_add (16 * i) 16) ?_
                      refine lv_istore (pc := 132) (lv' := [(5, .int (nI (16 * i + 16))), (6, .int (nI e)), (4, .int (nI 16)), (0, .ref h0), (1, .int (nI sd)), (2, .int (nI n8)), (3, .int (nI 0))]) hx hb dX10_plain_132 hl (by decide) rfl (fun ls hl => ?_)
                      refine lv_goto (pc := 134) (tgt := 25) hx hb dX10_plain_134 (by decide) ?_
                      exact ih25 (i + 1) y' c' d' ce1_73 (by omega) ((dec_stepR (by decide) (n := n8) (m := n8 / 16) (by omega) (by omega) hr hb1 (by omega) ha9 hs_73 hfr_73 (by omega) hy hc9 aesD_Elen).1) ((dec_stepR (by decide) (n := n8) (m := n8 / 16) (by omega) (by omega) hr hb1 (by omega) ha9 hs_73 hfr_73 (by omega) hy hc9 aesD_Elen).2) (by omega) _ _ (hP.sub [11, 0, 5, 6, 7, 8, 9, 1, 2, 10, 3, 4] rfl) (hD.sub [11, 0, 5, 6, 7, 8, 9, 1, 2, 10, 3, 4] (by decide) rfl) hS ls (lv_sub hl [0, 2, 3, 4, 5, 6] rfl)
                    · skip
                      rw [nI_leI (by omega) (by omega)] at c_14
                      refine lv_aload_n (pc := 86) hx hb dX10_plain_86 rfl (lv_at hl 3 rfl) ?_
                      refine va_get (pc := 87) (D := D) (ci := 8) (v := .ref (a 54)) (C := RX10) (T := TX10) (N := 57) hx hb hts iu10 hown hK hP 5 rfl rfl 54 (by decide) (hts _ tw_1099) (fun _ h9 => h9) rfl dX10_plain_87 ?_
                      refine lv_iload (pc := 90) hx hb dX10_plain_90 (lv_at hl 1 rfl) ?_
                      refine lv_iload (pc := 92) hx hb dX10_plain_92 (lv_at hl 0 rfl) ?_
                      refine lv_iadd (pc := 94) hx hb dX10_plain_94 ?_
                      refine q_top (y := nI (16 * i + e)) (nI_add (16 * i) e) ?_
                      refine lv_dup2_11 (pc := 95) hx hb dX10_plain_95 rfl rfl ?_
                      refine q_bald (pc := 96) hx hb hK hP 11 2 rfl rfl (k := 16 * i + e) (v := qs (y' (16 * i + e))) rfl (by omega) (by omega) rfl dX10_plain_96 ?_
                      refine lv_aload_n (pc := 97) hx hb dX10_plain_97 rfl (lv_at hl 3 rfl) ?_
                      refine va_get (pc := 98) (D := D) (ci := 8) (v := .ref (a 53)) (C := RX10) (T := TX10) (N := 57) hx hb hts iu10 hown hK hP 5 rfl rfl 53 (by decide) (hts _ tw_1098) (fun _ h9 => h9) rfl dX10_plain_98 ?_
                      refine lv_iload (pc := 101) hx hb dX10_plain_101 (lv_at hl 0 rfl) ?_
                      refine q_bald (pc := 103) hx hb hK hP 1 2 rfl rfl (k := e) (v := qs (c' e)) rfl (by omega) (by omega) rfl dX10_plain_103 ?_
                      refine lv_ixor (pc := 104) hx hb dX10_plain_104 ?_
                      refine q_top (y := qs ((y' (16 * i + e)) ^^^ (c' e))) (q_xor_s _ _) ?_
                      refine lv_i2b (pc := 105) (v := qs ((y' (16 * i + e)) ^^^ (c' e))) hx hb dX10_plain_105 (q_i2b_s _) ?_
                      refine q_bastS (pc := 106) hx hb hK hP hD hS 11 2 rfl rfl (k := 16 * i + e) rfl (by omega) (by omega) (b := (y' (16 * i + e)) ^^^ (c' e)) (qlo_qs _) dX10_plain_106 (fun H locs hP hD hS => ?_)
                      have hP : va_P D vwCl [(a 56, aS ta 16 d'), (a 53, aS ta 16 c'), (a 41, aS ta 256 gke), (a 37, aK ta 2 le), (a 47, aK ta 2 cn), (h0, oM a ((le sd) / 4 + 6) mn tp osz lsz ns ct), (a 8, aZ ta 256 BOX), (a 9, aZ ta 256 UBOX), (a 16, aS ta 240 rk1_19), (a 18, aS ta 16 ce1_73), (a 36, aK ta 2 ru), (a 54, aS ta 300 (qU y' (16 * i + e) ((y' (16 * i + e)) ^^^ (c' e))))] H := hP
                      have hD : va_D A [(a 56, aS ta 16 d'), (a 53, aS ta 16 c'), (a 41, aS ta 256 gke), (a 37, aK ta 2 le), (a 47, aK ta 2 cn), (h0, oM a ((le sd) / 4 + 6) mn tp osz lsz ns ct), (a 8, aZ ta 256 BOX), (a 9, aZ ta 256 UBOX), (a 16, aS ta 240 rk1_19), (a 18, aS ta 16 ce1_73), (a 36, aK ta 2 ru), (a 54, aS ta 300 (qU y' (16 * i + e) ((y' (16 * i + e)) ^^^ (c' e))))] := hD
                      refine lv_aload_n (pc := 107) hx hb dX10_plain_107 rfl (lv_at hl 3 rfl) ?_
                      refine va_get (pc := 108) (D := D) (ci := 8) (v := .ref (a 53)) (C := RX10) (T := TX10) (N := 57) hx hb hts iu10 hown hK hP 5 rfl rfl 53 (by decide) (hts _ tw_1098) (fun _ h9 => h9) rfl dX10_plain_108 ?_
                      refine lv_iload (pc := 111) hx hb dX10_plain_111 (lv_at hl 0 rfl) ?_
                      refine lv_aload_n (pc := 113) hx hb dX10_plain_113 rfl (lv_at hl 3 rfl) ?_
                      refine va_get (pc := 114) (D := D) (ci := 8) (v := .ref (a 56)) (C := RX10) (T := TX10) (N := 57) hx hb hts iu10 hown hK hP 5 rfl rfl 56 (by decide) (hts _ tw_1101) (fun _ h9 => h9) rfl dX10_plain_114 ?_
                      refine lv_iload (pc := 117) hx hb dX10_plain_117 (lv_at hl 0 rfl) ?_
                      refine q_bald (pc := 119) hx hb hK hP 0 2 rfl rfl (k := e) (v := qs (d' e)) rfl (by omega) (by omega) rfl dX10_plain_119 ?_
                      refine q_bastS (pc := 120) hx hb hK hP hD hS 1 2 rfl rfl (k := e) rfl (by omega) (by omega) (b := d' e) (qlo_qs _) dX10_plain_120 (fun H locs hP hD hS => ?_)
                      have hP : va_P D vwCl [(a 56, aS ta 16 d'), (a 53, aS ta 16 (qU c' e (d' e))), (a 41, aS ta 256 gke), (a 37, aK ta 2 le), (a 47, aK ta 2 cn), (h0, oM a ((le sd) / 4 + 6) mn tp osz lsz ns ct), (a 8, aZ ta 256 BOX), (a 9, aZ ta 256 UBOX), (a 16, aS ta 240 rk1_19), (a 18, aS ta 16 ce1_73), (a 36, aK ta 2 ru), (a 54, aS ta 300 (qU y' (16 * i + e) ((y' (16 * i + e)) ^^^ (c' e))))] H := hP
                      have hD : va_D A [(a 56, aS ta 16 d'), (a 53, aS ta 16 (qU c' e (d' e))), (a 41, aS ta 256 gke), (a 37, aK ta 2 le), (a 47, aK ta 2 cn), (h0, oM a ((le sd) / 4 + 6) mn tp osz lsz ns ct), (a 8, aZ ta 256 BOX), (a 9, aZ ta 256 UBOX), (a 16, aS ta 240 rk1_19), (a 18, aS ta 16 ce1_73), (a 36, aK ta 2 ru), (a 54, aS ta 300 (qU y' (16 * i + e) ((y' (16 * i + e)) ^^^ (c' e))))] := hD
                      refine lv_iinc (pc := 121) (v := nI (e + 1)) (lv' := [(6, .int (nI (e + 1))), (5, .int (nI (16 * i))), (4, .int (nI 16)), (0, .ref h0), (1, .int (nI sd)), (2, .int (nI n8)), (3, .int (nI 0))]) hx hb dX10_plain_121 hl (k := 0) rfl (by first | exact nI_add e 1 | rfl) (by decide) rfl (fun ls hl => ?_)
                      refine lv_goto (pc := 124) (tgt := 79) hx hb dX10_plain_124 (by decide) ?_
                      exact ih79 (e + 1) (qU y' (16 * i + e) ((y' (16 * i + e)) ^^^ (c' e))) (qU c' e (d' e)) (by omega) (qSeg_s hy rfl (by rw [hy.2 _ (by omega), hc9.2 _ (by omega)])) (qSeg_s hc9 (by omega) rfl) (by omega) _ _ (hP.sub [0, 1, 2, 3, 4, 5, 6, 7, 8, 9, 10, 11] rfl) (hD.sub [0, 1, 2, 3, 4, 5, 6, 7, 8, 9, 10, 11] (by decide) rfl) hS ls (lv_sub hl [0, 1, 2, 3, 4, 5, 6] rfl)
                exact LP79 _ 0 gb1_73 b' (by omega) (qSeg_0) (qSeg_0) (Nat.lt_succ_self _) _ _ (hP.sub [0, 1, 2, 3, 4, 5, 6, 7, 8, 9, 10, 11] rfl) (hD.sub [0, 1, 2, 3, 4, 5, 6, 7, 8, 9, 10, 11] (by decide) rfl) hS ls (lv_sub hl [0, 1, 2, 3, 4, 5, 6] rfl)
              · skip
                rw [nI_leI (by omega) (by omega)] at c_13
                refine lv_aload_n (pc := 41) hx hb dX10_plain_41 rfl (lv_at hl 3 rfl) ?_
                refine va_get (pc := 42) (D := D) (ci := 8) (v := .ref (a 56)) (C := RX10) (T := TX10) (N := 57) hx hb hts iu10 hown hK hP 2 rfl rfl 56 (by decide) (hts _ tw_1101) (fun _ h9 => h9) rfl dX10_plain_42 ?_
                refine lv_iload (pc := 45) hx hb dX10_plain_45 (lv_at hl 0 rfl) ?_
                refine lv_aload_n (pc := 47) hx hb dX10_plain_47 rfl (lv_at hl 3 rfl) ?_
                refine va_get (pc := 48) (D := D) (ci := 8) (v := .ref (a 54)) (C := RX10) (T := TX10) (N := 57) hx hb hts iu10 hown hK hP 2 rfl rfl 54 (by decide) (hts _ tw_1099) (fun _ h9 => h9) rfl dX10_plain_48 ?_
                refine lv_iload (pc := 51) hx hb dX10_plain_51 (lv_at hl 1 rfl) ?_
                refine lv_iload (pc := 53) hx hb dX10_plain_53 (lv_at hl 0 rfl) ?_
                refine lv_iadd (pc := 55) hx hb dX10_plain_55 ?_
                refine q_top (y := nI (16 * i + d)) (nI_add (16 * i) d) ?_
                refine q_bald (pc := 56) hx hb hK hP 0 2 rfl rfl (k := 16 * i + d) (v := qs (x' (16 * i + d))) rfl (by omega) (by omega) rfl dX10_plain_56 ?_
                refine q_bastS (pc := 57) hx hb hK hP hD hS 1 2 rfl rfl (k := d) rfl (by omega) (by omega) (b := x' (16 * i + d)) (qlo_qs _) dX10_plain_57 (fun H locs hP hD hS => ?_)
                have hP : va_P D vwCl [(a 54, aS ta 300 x'), (a 56, aS ta 16 (qU d' d (x' (16 * i + d)))), (h0, oM a (le sd / 4 + 6) mn tp osz lsz ns ct), (a 8, aZ ta 256 BOX), (a 9, aZ ta 256 UBOX), (a 16, aS ta 240 rk1_19), (a 18, aS ta 16 e'), (a 53, aS ta 16 b'), (a 41, aS ta 256 gke), (a 36, aK ta 2 ru), (a 37, aK ta 2 le), (a 47, aK ta 2 cn)] H := hP
                have hD : va_D A [(a 54, aS ta 300 x'), (a 56, aS ta 16 (qU d' d (x' (16 * i + d)))), (h0, oM a (le sd / 4 + 6) mn tp osz lsz ns ct), (a 8, aZ ta 256 BOX), (a 9, aZ ta 256 UBOX), (a 16, aS ta 240 rk1_19), (a 18, aS ta 16 e'), (a 53, aS ta 16 b'), (a 41, aS ta 256 gke), (a 36, aK ta 2 ru), (a 37, aK ta 2 le), (a 47, aK ta 2 cn)] := hD
                refine lv_iinc (pc := 58) (v := nI (d + 1)) (lv' := [(6, .int (nI (d + 1))), (5, .int (nI (16 * i))), (4, .int (nI 16)), (0, .ref h0), (1, .int (nI sd)), (2, .int (nI n8)), (3, .int (nI 0))]) hx hb dX10_plain_58 hl (k := 0) rfl (by first | exact nI_add d 1 | rfl) (by decide) rfl (fun ls hl => ?_)
                refine lv_goto (pc := 61) (tgt := 34) hx hb dX10_plain_61 (by decide) ?_
                exact ih34 (d + 1) (qU d' d (x' (16 * i + d))) (by omega) (qSeg_s ha9 (by omega) rfl) (by omega) _ _ (hP.sub [0, 1, 2, 3, 4, 5, 6, 7, 8, 9, 10, 11] rfl) (hD.sub [0, 1, 2, 3, 4, 5, 6, 7, 8, 9, 10, 11] (by decide) rfl) hS ls (lv_sub hl [0, 1, 2, 3, 4, 5, 6] rfl)
          exact LP34 _ 0 a' (by omega) (qSeg_0) (Nat.lt_succ_self _) _ _ (hP.sub [0, 1, 2, 3, 4, 5, 6, 7, 8, 9, 10, 11] rfl) (hD.sub [0, 1, 2, 3, 4, 5, 6, 7, 8, 9, 10, 11] (by decide) rfl) hS ls (lv_sub hl [0, 1, 2, 3, 4, 5, 6] rfl)
    exact LP25 _ 0 gwk gbl1_19 gah ce1_19 (by omega) (qSeg_0) (by rw [if_pos rfl, hs_19]) (Nat.lt_succ_self _) _ _ (hP.sub [0, 1, 2, 3, 4, 5, 6, 7, 8, 9, 10, 11] rfl) (hD.sub [0, 1, 2, 3, 4, 5, 6, 7, 8, 9, 10, 11] (by decide) rfl) hS ls (lv_sub hl [0, 1, 2, 3, 4, 5] rfl)
  · skip
    rw [q_eq0 (by omega)] at c_1
    have h16 : ¬ n8 % 16 = 0 := by omega
    refine lv_iconst (pc := 14) (v := (-1)) hx hb dX10_plain_14 (by decide +kernel) ?_
    refine q_top (y := (-1)) (by first | rfl | decide +kernel | (simp; done)) ?_
    have hq_15 : (show3 (seg gke (128 * sd) (le sd)) (cn sd) 0#8 (qL gwk n8) = if false then some (qL gwk 0) else none) ∧ (((-1) : Int32) = if false then nI 0 else -1) ∧ (0 ≤ n8) := by
      exact ⟨by rw [show3, qL_len, if_neg h16]; rfl, rfl, by omega⟩
    exact hret (⟨(-1), (false), (rk), (ce), (gbl), (gwk), (gah), (0), (ar)⟩ : Int32 × Bool × (Nat → BitVec 8) × (Nat → BitVec 8) × (Nat → BitVec 8) × (Nat → BitVec 8) × (Nat → BitVec 8) × Nat × Nat) _ _ _ _ dX10_plain_15 hq_15 (hP.sub [10, 0, 1, 2, 3, 4, 5, 11, 6, 7, 8, 9] rfl) (hD.sub [10, 0, 1, 2, 3, 4, 5, 11, 6, 7, 8, 9] (by decide) rfl) hS
set_option maxHeartbeats 4000000 in
set_option maxRecDepth 100000 in
theorem ct_X10_plain_31 (ll : Launch) (D : va_G) (ta : Nat → ClassId) {G : (Nat → Prop) → State → Heap → Prop} (hGok : GOK G) (h0 : Nat) (a : Nat → Nat) (ar : Nat) (mn : Nat) (tp : Nat) (osz : Nat) (lsz : Nat) (ns : Nat) (ct : Nat) (rk : Nat → BitVec 8) (ce : Nat → BitVec 8) (gbl : Nat → BitVec 8) (gke : Nat → BitVec 8) (gwk : Nat → BitVec 8) (gah : Nat → BitVec 8) (ru : Nat → Nat) (le : Nat → Nat) (cn : Nat → Nat) (sd : Nat) (n8 : Nat) (hsd : sd ≤ 1) (hru : ru sd = 3) (hn8 : 0 < n8 ∧ n8 ≤ 300) (hle : le sd = 16 ∨ le sd = 24 ∨ le sd = 32) (hcn : cn sd < 2147483648) (sz : Nat) : CT ll yX10_plain cX10_plain 7 (some .int) ({ frames := 5, cells := 0, slots := 0, locals := 122 } : Room) D ta G [.ref h0, .int (nI sd), .int (nI n8), .int (nI 1)] [(h0, oM a ar mn tp osz lsz ns ct), (a 8, aZ ta 256 BOX), (a 9, aZ ta 256 UBOX), (a 16, aS ta 240 rk), (a 18, aS ta 16 ce), (a 53, aS ta 16 gbl), (a 41, aS ta 256 gke), (a 36, aK ta 2 ru), (a 54, aS ta 300 gwk), (a 56, aS ta 16 gah), (a 37, aK ta 2 le), (a 47, aK ta 2 cn)] sz (S := Int32 × Bool × (Nat → BitVec 8) × (Nat → BitVec 8) × (Nat → BitVec 8) × (Nat → BitVec 8) × (Nat → BitVec 8) × Nat × Nat) (fun u => some (.int u.1)) (fun u => (show3 (seg gke (128 * sd) (le sd)) (cn sd) 0x80#8 (qL gwk n8) = if u.2.1 then some (qL u.2.2.2.2.2.1 u.2.2.2.2.2.2.2.1) else none) ∧ ((u.1 : Int32) = if u.2.1 then nI u.2.2.2.2.2.2.2.1 else -1) ∧ (u.2.2.2.2.2.2.2.1 ≤ n8)) (fun u => [(h0, oM a u.2.2.2.2.2.2.2.2 mn tp osz lsz ns ct), (a 8, aZ ta 256 BOX), (a 9, aZ ta 256 UBOX), (a 16, aS ta 240 u.2.2.1), (a 18, aS ta 16 u.2.2.2.1), (a 53, aS ta 16 u.2.2.2.2.1), (a 41, aS ta 256 gke), (a 36, aK ta 2 ru), (a 54, aS ta 300 u.2.2.2.2.2.1), (a 56, aS ta 16 u.2.2.2.2.2.2.1), (a 37, aK ta 2 le), (a 47, aK ta 2 cn)]) 0 0 := by
  refine CT.of_i (r := fun u => u.1) rfl (by decide) (Nat.le_of_ble_eq_true rfl) ?_
  intro pp ee ss mm below meth kc A Q hx hb hml hown hin hts hK hA hsz hG hret H locs hP hD hS ls hl
  have hl : lv_has ls 7 [(0, .ref h0), (1, .int (nI sd)), (2, .int (nI n8)), (3, .int (nI 1))] := hl
  refine lv_aload_n (pc := 0) hx hb dX10_plain_0 rfl (lv_at hl 0 rfl) ?_
  refine lv_iload_n (pc := 1) hx hb dX10_plain_1 rfl (lv_at hl 1 rfl) ?_
  refine cs_V (pc := 2) (idx := 368) (n := 1) (wr := [(a 8, aZ ta 256 BOX), (a 9, aZ ta 256 UBOX), (a 16, aS ta 240 rk), (a 18, aS ta 16 ce), (a 53, aS ta 16 gbl), (a 41, aS ta 256 gke), (a 54, aS ta 300 gwk), (a 56, aS ta 16 gah), (a 37, aK ta 2 le), (a 47, aK ta 2 cn)]) (As := [.int (nI sd)]) (rest := []) (ci := 8) hx hb hml hown hts hGok hK hA hG hl.1 hP hD hS (ct_X10_blockOf_3 ll D ta hGok h0 a ar mn tp osz lsz ns ct ru sd (by first | assumption | omega | rfl | decide) (by first | assumption | omega | rfl | decide) H.size) tw_1392 tw_1389 tw_1391 tw_54 tw_75 hdX10_blockOf rfl ⟨rfl, rfl, Nat.le_of_ble_eq_true rfl, Nat.le_of_ble_eq_true rfl, Nat.le_of_ble_eq_true rfl, Nat.le_of_ble_eq_true rfl⟩ rfl rfl (q0 := 0) rfl [0, 7] [1, 2, 3, 4, 5, 6, 8, 9, 10, 11] rfl rfl (by decide) rfl (Nat.le_of_ble_eq_true rfl) dX10_plain_2 (fun u H locs hq hP hD hS => ?_)
  refine W.eq (g2 := F0 mm 5 ls [.int (nI 16)]) rfl ?_
  have hP : va_P D vwCl [(a 8, aZ ta 256 BOX), (a 9, aZ ta 256 UBOX), (a 16, aS ta 240 rk), (a 18, aS ta 16 ce), (a 53, aS ta 16 gbl), (a 41, aS ta 256 gke), (a 54, aS ta 300 gwk), (a 56, aS ta 16 gah), (a 37, aK ta 2 le), (a 47, aK ta 2 cn), (h0, oM a ar mn tp osz lsz ns ct), (a 36, aK ta 2 ru)] H := hP
  have hD : va_D A [(a 8, aZ ta 256 BOX), (a 9, aZ ta 256 UBOX), (a 16, aS ta 240 rk), (a 18, aS ta 16 ce), (a 53, aS ta 16 gbl), (a 41, aS ta 256 gke), (a 54, aS ta 300 gwk), (a 56, aS ta 16 gah), (a 37, aK ta 2 le), (a 47, aK ta 2 cn), (h0, oM a ar mn tp osz lsz ns ct), (a 36, aK ta 2 ru)] := hD
  refine lv_istore (pc := 5) (lv' := [(4, .int (nI 16)), (0, .ref h0), (1, .int (nI sd)), (2, .int (nI n8)), (3, .int (nI 1))]) hx hb dX10_plain_5 hl (by decide) rfl (fun ls hl => ?_)
  refine lv_iload_n (pc := 7) hx hb dX10_plain_7 rfl (lv_at hl 3 rfl) ?_
  refine lv_iload (pc := 8) hx hb dX10_plain_8 (lv_at hl 0 rfl) ?_
  refine lv_irem (pc := 10) hx hb dX10_plain_10 (q_ne0 (by omega) (by omega)) ?_
  refine q_top (y := nI (n8 % 16)) (pk_rem (by omega) (by omega) (by omega)) ?_
  refine lv_if_eq (pc := 11) (tgt := 16) hx hb dX10_plain_11 (by decide) (fun c_1 => ?_) (fun c_1 => ?_)
  · skip
    rw [q_eq0 (by omega)] at c_1
    have h16 : n8 % 16 = 0 := by omega
    refine lv_aload_n (pc := 16) hx hb dX10_plain_16 rfl (lv_at hl 1 rfl) ?_
    refine lv_iload_n (pc := 17) hx hb dX10_plain_17 rfl (lv_at hl 2 rfl) ?_
    refine lv_iload_n (pc := 18) hx hb dX10_plain_18 rfl (lv_at hl 4 rfl) ?_
    refine cs_V (pc := 19) (idx := 371) (n := 2) (wr := [(a 54, aS ta 300 gwk), (a 56, aS ta 16 gah)]) (As := [.int (nI sd), .int (nI 1)]) (rest := []) (ci := 8) hx hb hml hown hts hGok hK hA hG hl.1 hP hD hS (ct_X10_first_31 ll D ta hGok h0 a ar mn tp osz lsz ns ct rk ce gbl gke ru le cn sd (by first | assumption | omega | rfl | decide) (by first | assumption | omega | rfl | decide) (by first | assumption | omega | rfl | decide) (by first | assumption | omega | rfl | decide) H.size) tw_1396 tw_1393 tw_1395 tw_55 tw_75 hdX10_first rfl ⟨rfl, rfl, Nat.le_of_ble_eq_true rfl, Nat.le_of_ble_eq_true rfl, Nat.le_of_ble_eq_true rfl, Nat.le_of_ble_eq_true rfl⟩ rfl rfl (q0 := 10) rfl [10, 0, 1, 2, 3, 4, 5, 11, 8, 9] [6, 7] rfl rfl (by decide) rfl (Nat.le_of_ble_eq_true rfl) dX10_plain_19 (fun u H locs hq hP hD hS => ?_)
    obtain ⟨rk1_19, ce1_19, gbl1_19⟩ := u
    have hq : (qL gbl1_19 16 = firstL (seg gke (128 * sd) (le sd)) (cn sd) 0x80#8) ∧ (rkOK rk1_19 (seg gke (128 * sd) (le sd))) := hq
    obtain ⟨hs_19, hrk_19⟩ := hq
    refine W.eq (g2 := F0 mm 22 ls []) rfl ?_
    have hP : va_P D vwCl [(a 54, aS ta 300 gwk), (a 56, aS ta 16 gah), (h0, oM a (le sd / 4 + 6) mn tp osz lsz ns ct), (a 8, aZ ta 256 BOX), (a 9, aZ ta 256 UBOX), (a 16, aS ta 240 rk1_19), (a 18, aS ta 16 ce1_19), (a 53, aS ta 16 gbl1_19), (a 41, aS ta 256 gke), (a 36, aK ta 2 ru), (a 37, aK ta 2 le), (a 47, aK ta 2 cn)] H := hP
    have hD : va_D A [(a 54, aS ta 300 gwk), (a 56, aS ta 16 gah), (h0, oM a (le sd / 4 + 6) mn tp osz lsz ns ct), (a 8, aZ ta 256 BOX), (a 9, aZ ta 256 UBOX), (a 16, aS ta 240 rk1_19), (a 18, aS ta 16 ce1_19), (a 53, aS ta 16 gbl1_19), (a 41, aS ta 256 gke), (a 36, aK ta 2 ru), (a 37, aK ta 2 le), (a 47, aK ta 2 cn)] := hD
    refine lv_iconst (pc := 22) (v := nI 0) hx hb dX10_plain_22 (by decide +kernel) ?_
    refine lv_istore (pc := 23) (lv' := [(5, .int (nI 0)), (4, .int (nI 16)), (0, .ref h0), (1, .int (nI sd)), (2, .int (nI n8)), (3, .int (nI 1))]) hx hb dX10_plain_23 hl (by decide) rfl (fun ls hl => ?_)
    have LP25 : ∀ (nn25 : Nat) (i : Nat) (x' : Nat → BitVec 8) (b' : Nat → BitVec 8) (a' : Nat → BitVec 8) (e' : Nat → BitVec 8), (16 * i ≤ n8) → (qSeg x' gwk 0 (16 * i) (decF (aesD (seg gke (128 * sd) (le sd))) 16 (firstL (seg gke (128 * sd) (le sd)) (cn sd) 0x80#8) (qL gwk n8))) → (qL b' 16 = if i = 0 then (firstL (seg gke (128 * sd) (le sd)) (cn sd) 0x80#8) else seg gwk (16 * (i - 1)) 16) → (n8 - 16 * i < nn25) → ∀ (H : Heap) (locs : List Loc), va_P D vwCl [(a 54, aS ta 300 x'), (a 56, aS ta 16 a'), (h0, oM a (le sd / 4 + 6) mn tp osz lsz ns ct), (a 8, aZ ta 256 BOX), (a 9, aZ ta 256 UBOX), (a 16, aS ta 240 rk1_19), (a 18, aS ta 16 e'), (a 53, aS ta 16 b'), (a 41, aS ta 256 gke), (a 36, aK ta 2 ru), (a 37, aK ta 2 le), (a 47, aK ta 2 cn)] H → va_D A [(a 54, aS ta 300 x'), (a 56, aS ta 16 a'), (h0, oM a (le sd / 4 + 6) mn tp osz lsz ns ct), (a 8, aZ ta 256 BOX), (a 9, aZ ta 256 UBOX), (a 16, aS ta 240 rk1_19), (a 18, aS ta 16 e'), (a 53, aS ta 16 b'), (a 41, aS ta 256 gke), (a 36, aK ta 2 ru), (a 37, aK ta 2 le), (a 47, aK ta 2 cn)] → va_S A ss.heap H locs → ∀ ls : Array Slot, lv_has ls 7 [(5, .int (nI (16 * i))), (4, .int (nI 16)), (0, .ref h0), (1, .int (nI sd)), (2, .int (nI n8)), (3, .int (nI 1))] → W pp ll ee ({ frames := 5, cells := 0, slots := 0, locals := 122 } : Room) ss mm (([.ref h0, .int (nI sd), .int (nI n8), .int (nI 1)] : List Value).toArray) below meth kc H locs 0 0 Q (F0 mm 25 ls []) := by
      intro nn25
      induction nn25 with
      | zero => intro i x' b' a' e' hii hr hb1 hmu; exact absurd hmu (Nat.not_lt_zero _)
      | succ nn25 ih25 =>
        intro i x' b' a' e' hii hr hb1 hmu25 H locs hP hD hS ls hl
        refine lv_iload (pc := 25) hx hb dX10_plain_25 (lv_at hl 0 rfl) ?_
        refine lv_iload_n (pc := 27) hx hb dX10_plain_27 rfl (lv_at hl 4 rfl) ?_
        refine lv_icmp_ge (pc := 28) (tgt := 137) hx hb dX10_plain_28 (by decide) (fun c_2 => ?_) (fun c_2 => ?_)
        · skip
          rw [nI_leI (by omega) (by omega)] at c_2
          have hDD9 : decL (aesD (seg gke (128 * sd) (le sd))) 16 (firstL (seg gke (128 * sd) (le sd)) (cn sd) 0x80#8) (qL gwk n8) = qL x' n8 := by rw [decL, qL_len, ← seg_0 (g := x'), qSeg_segk hr (by omega)]
          refine lv_iload_n (pc := 137) hx hb dX10_plain_137 rfl (lv_at hl 4 rfl) ?_
          refine lv_iconst (pc := 138) (v := nI 1) hx hb dX10_plain_138 (by decide +kernel) ?_
          refine lv_isub (pc := 139) hx hb dX10_plain_139 ?_
          refine q_top (y := qI n8) (qI_of n8) ?_
          refine lv_istore (pc := 140) (lv' := [(5, .int (qI n8)), (4, .int (nI 16)), (0, .ref h0), (1, .int (nI sd)), (2, .int (nI n8)), (3, .int (nI 1))]) hx hb dX10_plain_140 hl (by decide) rfl (fun ls hl => ?_)
          have LP142 : ∀ (nn142 : Nat) (c : Nat), (c ≤ n8) → (∀ j, c ≤ j → j < n8 → x' j = 0#8) → (c < nn142) → ∀ (H : Heap) (locs : List Loc), va_P D vwCl [(a 54, aS ta 300 x'), (a 56, aS ta 16 a'), (h0, oM a (le sd / 4 + 6) mn tp osz lsz ns ct), (a 8, aZ ta 256 BOX), (a 9, aZ ta 256 UBOX), (a 16, aS ta 240 rk1_19), (a 18, aS ta 16 e'), (a 53, aS ta 16 b'), (a 41, aS ta 256 gke), (a 36, aK ta 2 ru), (a 37, aK ta 2 le), (a 47, aK ta 2 cn)] H → va_D A [(a 54, aS ta 300 x'), (a 56, aS ta 16 a'), (h0, oM a (le sd / 4 + 6) mn tp osz lsz ns ct), (a 8, aZ ta 256 BOX), (a 9, aZ ta 256 UBOX), (a 16, aS ta 240 rk1_19), (a 18, aS ta 16 e'), (a 53, aS ta 16 b'), (a 41, aS ta 256 gke), (a 36, aK ta 2 ru), (a 37, aK ta 2 le), (a 47, aK ta 2 cn)] → va_S A ss.heap H locs → ∀ ls : Array Slot, lv_has ls 7 [(5, .int (qI c)), (4, .int (nI 16)), (0, .ref h0), (1, .int (nI sd)), (2, .int (nI n8)), (3, .int (nI 1))] → W pp ll ee ({ frames := 5, cells := 0, slots := 0, locals := 122 } : Room) ss mm (([.ref h0, .int (nI sd), .int (nI n8), .int (nI 1)] : List Value).toArray) below meth kc H locs 0 0 Q (F0 mm 142 ls []) := by
            intro nn142
            induction nn142 with
            | zero => intro c hcc hz0 hmu; exact absurd hmu (Nat.not_lt_zero _)
            | succ nn142 ih142 =>
              intro c hcc hz0 hmu142 H locs hP hD hS ls hl
              refine lv_iload (pc := 142) hx hb dX10_plain_142 (lv_at hl 0 rfl) ?_
              refine lv_if_lt (pc := 144) (tgt := 163) hx hb dX10_plain_144 (by decide) (fun c_3 => ?_) (fun c_3 => ?_)
              · skip
                rw [qI_neg (by omega)] at c_3
                have en_4 : 0 = c := by omega
                subst en_4
                refine lv_iload (pc := 163) hx hb dX10_plain_163 (lv_at hl 0 rfl) ?_
                refine lv_iconst (pc := 165) (v := nI 1) hx hb dX10_plain_165 (by decide +kernel) ?_
                refine lv_icmp_lt (pc := 166) (tgt := 181) hx hb dX10_plain_166 (by decide) (fun c_5 => ?_) (fun c_5 => ?_)
                · skip
                  refine lv_iconst (pc := 181) (v := (-1)) hx hb dX10_plain_181 (by decide +kernel) ?_
                  refine lv_goto (pc := 182) (tgt := 187) hx hb dX10_plain_182 (by decide) ?_
                  refine q_top (y := (-1)) (by first | rfl | decide +kernel | (simp; done)) ?_
                  have hq_6 : (show3 (seg gke (128 * sd) (le sd)) (cn sd) 0x80#8 (qL gwk n8) = if false then some (qL x' 0) else none) ∧ (((-1) : Int32) = if false then nI 0 else -1) ∧ (0 ≤ n8) := by
                    refine ⟨?_, rfl, by omega⟩
                    rw [show3, qL_len, if_pos h16, hDD9]
                    first | (rw [qunp_none0 (by omega) (fun j hj => hz0 j (by omega) hj)]; rfl) | (rw [qunp_some (c := k9) (by omega) (fun j h1 h2 => hz0 j h1 h2) (by assumption) ⟨by omega, by assumption⟩]; rfl) | (rw [qunp_none (c := k9) (by omega) (fun j h1 h2 => hz0 j h1 h2) (by assumption) (fun q => by first | omega | (obtain ⟨q1, q2⟩ := q; contradiction))]; rfl)
                  exact hret (⟨(-1), (false), (rk1_19), (e'), (b'), (x'), (a'), (0), (le sd / 4 + 6)⟩ : Int32 × Bool × (Nat → BitVec 8) × (Nat → BitVec 8) × (Nat → BitVec 8) × (Nat → BitVec 8) × (Nat → BitVec 8) × Nat × Nat) _ _ _ _ dX10_plain_187 hq_6 (hP.sub [2, 3, 4, 5, 6, 7, 8, 9, 0, 1, 10, 11] rfl) (hD.sub [2, 3, 4, 5, 6, 7, 8, 9, 0, 1, 10, 11] (by decide) rfl) hS
                · skip
                  exact absurd (by decide) c_5
              · skip
                rw [qI_neg (by omega)] at c_3
                obtain ⟨k9, rfl⟩ : ∃ k, c = k + 1 := ⟨c - 1, by omega⟩
                rw [qI_s] at hl
                refine lv_aload_n (pc := 147) hx hb dX10_plain_147 rfl (lv_at hl 2 rfl) ?_
                refine va_get (pc := 148) (D := D) (ci := 8) (v := .ref (a 54)) (C := RX10) (T := TX10) (N := 57) hx hb hts iu10 hown hK hP 2 rfl rfl 54 (by decide) (hts _ tw_1099) (fun _ h9 => h9) rfl dX10_plain_148 ?_
                refine lv_iload (pc := 151) hx hb dX10_plain_151 (lv_at hl 0 rfl) ?_
                refine q_bald (pc := 153) hx hb hK hP 0 2 rfl rfl (k := k9) (v := qs (x' k9)) rfl (by omega) (by omega) rfl dX10_plain_153 ?_
                refine lv_if_ne (pc := 154) (tgt := 163) hx hb dX10_plain_154 (by decide) (fun c_7 => ?_) (fun c_7 => ?_)
                · skip
                  rw [qs_0] at c_7
                  refine lv_iload (pc := 163) hx hb dX10_plain_163 (lv_at hl 0 rfl) ?_
                  refine lv_iconst (pc := 165) (v := nI 1) hx hb dX10_plain_165 (by decide +kernel) ?_
                  refine lv_icmp_lt (pc := 166) (tgt := 181) hx hb dX10_plain_166 (by decide) (fun c_8 => ?_) (fun c_8 => ?_)
                  · skip
                    rw [nI_ltI (by omega) (by omega)] at c_8
                    refine lv_iconst (pc := 181) (v := (-1)) hx hb dX10_plain_181 (by decide +kernel) ?_
                    refine lv_goto (pc := 182) (tgt := 187) hx hb dX10_plain_182 (by decide) ?_
                    refine q_top (y := (-1)) (by first | rfl | decide +kernel | (simp; done)) ?_
                    have hq_9 : (show3 (seg gke (128 * sd) (le sd)) (cn sd) 0x80#8 (qL gwk n8) = if false then some (qL x' 0) else none) ∧ (((-1) : Int32) = if false then nI 0 else -1) ∧ (0 ≤ n8) := by
                      refine ⟨?_, rfl, by omega⟩
                      rw [show3, qL_len, if_pos h16, hDD9]
                      first | (rw [qunp_none0 (by omega) (fun j hj => hz0 j (by omega) hj)]; rfl) | (rw [qunp_some (c := k9) (by omega) (fun j h1 h2 => hz0 j h1 h2) (by assumption) ⟨by omega, by assumption⟩]; rfl) | (rw [qunp_none (c := k9) (by omega) (fun j h1 h2 => hz0 j h1 h2) (by assumption) (fun q => by first | omega | (obtain ⟨q1, q2⟩ := q; contradiction))]; rfl)
                    exact hret (⟨(-1), (false), (rk1_19), (e'), (b'), (x'), (a'), (0), (le sd / 4 + 6)⟩ : Int32 × Bool × (Nat → BitVec 8) × (Nat → BitVec 8) × (Nat → BitVec 8) × (Nat → BitVec 8) × (Nat → BitVec 8) × Nat × Nat) _ _ _ _ dX10_plain_187 hq_9 (hP.sub [2, 3, 4, 5, 6, 7, 8, 9, 0, 1, 10, 11] rfl) (hD.sub [2, 3, 4, 5, 6, 7, 8, 9, 0, 1, 10, 11] (by decide) rfl) hS
                  · skip
                    rw [nI_ltI (by omega) (by omega)] at c_8
                    refine lv_aload_n (pc := 169) hx hb dX10_plain_169 rfl (lv_at hl 2 rfl) ?_
                    refine va_get (pc := 170) (D := D) (ci := 8) (v := .ref (a 54)) (C := RX10) (T := TX10) (N := 57) hx hb hts iu10 hown hK hP 2 rfl rfl 54 (by decide) (hts _ tw_1099) (fun _ h9 => h9) rfl dX10_plain_170 ?_
                    refine lv_iload (pc := 173) hx hb dX10_plain_173 (lv_at hl 0 rfl) ?_
                    refine q_bald (pc := 175) hx hb hK hP 0 2 rfl rfl (k := k9) (v := qs (x' k9)) rfl (by omega) (by omega) rfl dX10_plain_175 ?_
                    refine lv_bipush (pc := 176) (v := (-128)) hx hb dX10_plain_176 (by decide +kernel) ?_
                    refine lv_icmp_eq (pc := 178) (tgt := 185) hx hb dX10_plain_178 (by decide) (fun c_10 => ?_) (fun c_10 => ?_)
                    · skip
                      rw [qs_80] at c_10
                      refine lv_iload (pc := 185) hx hb dX10_plain_185 (lv_at hl 0 rfl) ?_
                      refine q_top (y := (nI k9)) (by first | rfl | decide +kernel | (simp; done)) ?_
                      have hq_11 : (show3 (seg gke (128 * sd) (le sd)) (cn sd) 0x80#8 (qL gwk n8) = if true then some (qL x' k9) else none) ∧ (((nI k9) : Int32) = if true then nI k9 else -1) ∧ (k9 ≤ n8) := by
                        refine ⟨?_, rfl, by omega⟩
                        rw [show3, qL_len, if_pos h16, hDD9]
                        first | (rw [qunp_none0 (by omega) (fun j hj => hz0 j (by omega) hj)]; rfl) | (rw [qunp_some (c := k9) (by omega) (fun j h1 h2 => hz0 j h1 h2) (by assumption) ⟨by omega, by assumption⟩]; rfl) | (rw [qunp_none (c := k9) (by omega) (fun j h1 h2 => hz0 j h1 h2) (by assumption) (fun q => by first | omega | (obtain ⟨q1, q2⟩ := q; contradiction))]; rfl)
                      exact hret (⟨(nI k9), (true), (rk1_19), (e'), (b'), (x'), (a'), (k9), (le sd / 4 + 6)⟩ : Int32 × Bool × (Nat → BitVec 8) × (Nat → BitVec 8) × (Nat → BitVec 8) × (Nat → BitVec 8) × (Nat → BitVec 8) × Nat × Nat) _ _ _ _ dX10_plain_187 hq_11 (hP.sub [2, 3, 4, 5, 6, 7, 8, 9, 0, 1, 10, 11] rfl) (hD.sub [2, 3, 4, 5, 6, 7, 8, 9, 0, 1, 10, 11] (by decide) rfl) hS
                    · skip
                      rw [qs_80] at c_10
                      refine lv_iconst (pc := 181) (v := (-1)) hx hb dX10_plain_181 (by decide +kernel) ?_
                      refine lv_goto (pc := 182) (tgt := 187) hx hb dX10_plain_182 (by decide) ?_
                      refine q_top (y := (-1)) (by first | rfl | decide +kernel | (simp; done)) ?_
                      have hq_12 : (show3 (seg gke (128 * sd) (le sd)) (cn sd) 0x80#8 (qL gwk n8) = if false then some (qL x' 0) else none) ∧ (((-1) : Int32) = if false then nI 0 else -1) ∧ (0 ≤ n8) := by
                        refine ⟨?_, rfl, by omega⟩
                        rw [show3, qL_len, if_pos h16, hDD9]
                        first | (rw [qunp_none0 (by omega) (fun j hj => hz0 j (by omega) hj)]; rfl) | (rw [qunp_some (c := k9) (by omega) (fun j h1 h2 => hz0 j h1 h2) (by assumption) ⟨by omega, by assumption⟩]; rfl) | (rw [qunp_none (c := k9) (by omega) (fun j h1 h2 => hz0 j h1 h2) (by assumption) (fun q => by first | omega | (obtain ⟨q1, q2⟩ := q; contradiction))]; rfl)
                      exact hret (⟨(-1), (false), (rk1_19), (e'), (b'), (x'), (a'), (0), (le sd / 4 + 6)⟩ : Int32 × Bool × (Nat → BitVec 8) × (Nat → BitVec 8) × (Nat → BitVec 8) × (Nat → BitVec 8) × (Nat → BitVec 8) × Nat × Nat) _ _ _ _ dX10_plain_187 hq_12 (hP.sub [2, 3, 4, 5, 6, 7, 8, 9, 0, 1, 10, 11] rfl) (hD.sub [2, 3, 4, 5, 6, 7, 8, 9, 0, 1, 10, 11] (by decide) rfl) hS
                · skip
                  rw [qs_0] at c_7
                  refine lv_iinc (pc := 157) (v := qI k9) (lv' := [(5, .int (qI k9)), (4, .int (nI 16)), (0, .ref h0), (1, .int (nI sd)), (2, .int (nI n8)), (3, .int (nI 1))]) hx hb dX10_plain_157 hl (k := 0) rfl rfl (by decide) rfl (fun ls hl => ?_)
                  refine lv_goto (pc := 160) (tgt := 142) hx hb dX10_plain_160 (by decide) ?_
                  exact ih142 k9 (by omega) (by
                        intro j h1 h2
                        by_cases q : j = k9
                        · subst q; assumption
                        · exact hz0 j (by omega) h2) (by omega) _ _ (hP.sub [0, 1, 2, 3, 4, 5, 6, 7, 8, 9, 10, 11] rfl) (hD.sub [0, 1, 2, 3, 4, 5, 6, 7, 8, 9, 10, 11] (by decide) rfl) hS ls (lv_sub hl [0, 1, 2, 3, 4, 5] rfl)
          exact LP142 _ n8 (by omega) (fun j h1 h2 => absurd h1 (by omega)) (Nat.lt_succ_self _) _ _ (hP.sub [0, 1, 2, 3, 4, 5, 6, 7, 8, 9, 10, 11] rfl) (hD.sub [0, 1, 2, 3, 4, 5, 6, 7, 8, 9, 10, 11] (by decide) rfl) hS ls (lv_sub hl [0, 1, 2, 3, 4, 5] rfl)
        · skip
          rw [nI_leI (by omega) (by omega)] at c_2
          refine lv_iconst (pc := 31) (v := nI 0) hx hb dX10_plain_31 (by decide +kernel) ?_
          refine lv_istore (pc := 32) (lv' := [(6, .int (nI 0)), (5, .int (nI (16 * i))), (4, .int (nI 16)), (0, .ref h0), (1, .int (nI sd)), (2, .int (nI n8)), (3, .int (nI 1))]) hx hb dX10_plain_32 hl (by decide) rfl (fun ls hl => ?_)
          have LP34 : ∀ (nn34 : Nat) (d : Nat) (d' : Nat → BitVec 8), (d ≤ 16) → (qSeg d' a' 0 d (fun j => x' (16 * i + j))) → (16 - d < nn34) → ∀ (H : Heap) (locs : List Loc), va_P D vwCl [(a 54, aS ta 300 x'), (a 56, aS ta 16 d'), (h0, oM a (le sd / 4 + 6) mn tp osz lsz ns ct), (a 8, aZ ta 256 BOX), (a 9, aZ ta 256 UBOX), (a 16, aS ta 240 rk1_19), (a 18, aS ta 16 e'), (a 53, aS ta 16 b'), (a 41, aS ta 256 gke), (a 36, aK ta 2 ru), (a 37, aK ta 2 le), (a 47, aK ta 2 cn)] H → va_D A [(a 54, aS ta 300 x'), (a 56, aS ta 16 d'), (h0, oM a (le sd / 4 + 6) mn tp osz lsz ns ct), (a 8, aZ ta 256 BOX), (a 9, aZ ta 256 UBOX), (a 16, aS ta 240 rk1_19), (a 18, aS ta 16 e'), (a 53, aS ta 16 b'), (a 41, aS ta 256 gke), (a 36, aK ta 2 ru), (a 37, aK ta 2 le), (a 47, aK ta 2 cn)] → va_S A ss.heap H locs → ∀ ls : Array Slot, lv_has ls 7 [(6, .int (nI d)), (5, .int (nI (16 * i))), (4, .int (nI 16)), (0, .ref h0), (1, .int (nI sd)), (2, .int (nI n8)), (3, .int (nI 1))] → W pp ll ee ({ frames := 5, cells := 0, slots := 0, locals := 122 } : Room) ss mm (([.ref h0, .int (nI sd), .int (nI n8), .int (nI 1)] : List Value).toArray) below meth kc H locs 0 0 Q (F0 mm 34 ls []) := by
            intro nn34
            induction nn34 with
            | zero => intro d d' hdd ha9 hmu; exact absurd hmu (Nat.not_lt_zero _)
            | succ nn34 ih34 =>
              intro d d' hdd ha9 hmu34 H locs hP hD hS ls hl
              refine lv_iload (pc := 34) hx hb dX10_plain_34 (lv_at hl 0 rfl) ?_
              refine lv_iload (pc := 36) hx hb dX10_plain_36 (lv_at hl 2 rfl) ?_
              refine lv_icmp_ge (pc := 38) (tgt := 64) hx hb dX10_plain_38 (by decide) (fun c_13 => ?_) (fun c_13 => ?_)
              · skip
                rw [nI_leI (by omega) (by omega)] at c_13
                refine lv_aload_n (pc := 64) hx hb dX10_plain_64 rfl (lv_at hl 3 rfl) ?_
                refine lv_iload_n (pc := 65) hx hb dX10_plain_65 rfl (lv_at hl 4 rfl) ?_
                refine lv_aload_n (pc := 66) hx hb dX10_plain_66 rfl (lv_at hl 3 rfl) ?_
                refine va_get (pc := 67) (D := D) (ci := 8) (v := .ref (a 54)) (C := RX10) (T := TX10) (N := 57) hx hb hts iu10 hown hK hP 2 rfl rfl 54 (by decide) (hts _ tw_1099) (fun _ h9 => h9) rfl dX10_plain_67 ?_
                refine lv_iload (pc := 70) hx hb dX10_plain_70 (lv_at hl 1 rfl) ?_
                refine lv_iconst (pc := 72) (v := nI 1) hx hb dX10_plain_72 (by decide +kernel) ?_
                refine cs_V (pc := 73) (idx := 373) (n := 4) (wr := [(a 56, aS ta 16 d'), (a 53, aS ta 16 b'), (a 41, aS ta 256 gke), (a 37, aK ta 2 le), (a 47, aK ta 2 cn)]) (As := [.int (nI sd), .ref (a 54), .int (nI (16 * i)), .int (nI 1)]) (rest := []) (ci := 8) hx hb hml hown hts hGok hK hA hG hl.1 hP hD hS (ct_X10_one_31 ll D ta hGok h0 a mn tp osz lsz ns ct rk1_19 e' ru sd (a 54) (16 * i) 300 x' (le sd) ((seg gke (128 * sd) (le sd))) (by first | assumption | omega | rfl | decide) (by first | assumption | omega | rfl | decide) (by first | assumption | omega | rfl | decide) (by first | assumption | omega | rfl | decide) (hle) (seg_len) (hrk_19) H.size) tw_1400 tw_1397 tw_1399 tw_56 tw_75 hdX10_one rfl ⟨rfl, rfl, Nat.le_of_ble_eq_true rfl, Nat.le_of_ble_eq_true rfl, Nat.le_of_ble_eq_true rfl, Nat.le_of_ble_eq_true rfl⟩ rfl rfl (q0 := 2) rfl [2, 3, 4, 5, 6, 9, 0] [1, 7, 8, 10, 11] rfl rfl (by decide) rfl (Nat.le_of_ble_eq_true rfl) dX10_plain_73 (fun u H locs hq hP hD hS => ?_)
                obtain ⟨ce1_73, gb1_73⟩ := u
                have hq : (seg gb1_73 (16 * i) 16 = aesD ((seg gke (128 * sd) (le sd))) (seg x' (16 * i) 16)) ∧ (∀ jz, (jz < (16 * i) ∨ (16 * i) + 16 ≤ jz) → gb1_73 jz = x' jz) := hq
                obtain ⟨hs_73, hfr_73⟩ := hq
                refine W.eq (g2 := F0 mm 76 ls []) rfl ?_
                have hP : va_P D vwCl [(a 56, aS ta 16 d'), (a 53, aS ta 16 b'), (a 41, aS ta 256 gke), (a 37, aK ta 2 le), (a 47, aK ta 2 cn), (h0, oM a ((le sd) / 4 + 6) mn tp osz lsz ns ct), (a 8, aZ ta 256 BOX), (a 9, aZ ta 256 UBOX), (a 16, aS ta 240 rk1_19), (a 18, aS ta 16 ce1_73), (a 36, aK ta 2 ru), (a 54, aS ta 300 gb1_73)] H := hP
                have hD : va_D A [(a 56, aS ta 16 d'), (a 53, aS ta 16 b'), (a 41, aS ta 256 gke), (a 37, aK ta 2 le), (a 47, aK ta 2 cn), (h0, oM a ((le sd) / 4 + 6) mn tp osz lsz ns ct), (a 8, aZ ta 256 BOX), (a 9, aZ ta 256 UBOX), (a 16, aS ta 240 rk1_19), (a 18, aS ta 16 ce1_73), (a 36, aK ta 2 ru), (a 54, aS ta 300 gb1_73)] := hD
                refine lv_iconst (pc := 76) (v := nI 0) hx hb dX10_plain_76 (by decide +kernel) ?_
                refine lv_istore (pc := 77) (lv' := [(6, .int (nI 0)), (5, .int (nI (16 * i))), (4, .int (nI 16)), (0, .ref h0), (1, .int (nI sd)), (2, .int (nI n8)), (3, .int (nI 1))]) hx hb dX10_plain_77 hl (by decide) rfl (fun ls hl => ?_)
                have LP79 : ∀ (nn79 : Nat) (e : Nat) (y' : Nat → BitVec 8) (c' : Nat → BitVec 8), (e ≤ 16) → (qSeg y' gb1_73 (16 * i) e (fun j => gb1_73 (16 * i + j) ^^^ b' j)) → (qSeg c' b' 0 e d') → (16 - e < nn79) → ∀ (H : Heap) (locs : List Loc), va_P D vwCl [(a 56, aS ta 16 d'), (a 53, aS ta 16 c'), (a 41, aS ta 256 gke), (a 37, aK ta 2 le), (a 47, aK ta 2 cn), (h0, oM a ((le sd) / 4 + 6) mn tp osz lsz ns ct), (a 8, aZ ta 256 BOX), (a 9, aZ ta 256 UBOX), (a 16, aS ta 240 rk1_19), (a 18, aS ta 16 ce1_73), (a 36, aK ta 2 ru), (a 54, aS ta 300 y')] H → va_D A [(a 56, aS ta 16 d'), (a 53, aS ta 16 c'), (a 41, aS ta 256 gke), (a 37, aK ta 2 le), (a 47, aK ta 2 cn), (h0, oM a ((le sd) / 4 + 6) mn tp osz lsz ns ct), (a 8, aZ ta 256 BOX), (a 9, aZ ta 256 UBOX), (a 16, aS ta 240 rk1_19), (a 18, aS ta 16 ce1_73), (a 36, aK ta 2 ru), (a 54, aS ta 300 y')] → va_S A ss.heap H locs → ∀ ls : Array Slot, lv_has ls 7 [(6, .int (nI e)), (5, .int (nI (16 * i))), (4, .int (nI 16)), (0, .ref h0), (1, .int (nI sd)), (2, .int (nI n8)), (3, .int (nI 1))] → W pp ll ee ({ frames := 5, cells := 0, slots := 0, locals := 122 } : Room) ss mm (([.ref h0, .int (nI sd), .int (nI n8), .int (nI 1)] : List Value).toArray) below meth kc H locs 0 0 Q (F0 mm 79 ls []) := by
                  intro nn79
                  induction nn79 with
                  | zero => intro e y' c' hee hy hc9 hmu; exact absurd hmu (Nat.not_lt_zero _)
                  | succ nn79 ih79 =>
                    intro e y' c' hee hy hc9 hmu79 H locs hP hD hS ls hl
                    refine lv_iload (pc := 79) hx hb dX10_plain_79 (lv_at hl 0 rfl) ?_
                    refine lv_iload (pc := 81) hx hb dX10_plain_81 (lv_at hl 2 rfl) ?_
                    refine lv_icmp_ge (pc := 83) (tgt := 127) hx hb dX10_plain_83 (by decide) (fun c_14 => ?_) (fun c_14 => ?_)
                    · skip
                      rw [nI_leI (by omega) (by omega)] at c_14
                      refine lv_iload (pc := 127) hx hb dX10_plain_127 (lv_at hl 1 rfl) ?_
                      refine lv_iload (pc := 129) hx hb dX10_plain_129 (lv_at hl 2 rfl) ?_
                      refine lv_iadd (pc := 131) hx hb dX10_plain_131 ?_
                      refine q_top (y := nI (16 * i + 16)) (nI_add (16 * i) 16) ?_
                      refine lv_istore (pc := 132) (lv' := [(5, .int (nI (16 * i + 16))), (6, .int (nI e)), (4, .int (nI 16)), (0, .ref h0), (1, .int (nI sd)), (2, .int (nI n8)), (3, .int (nI 1))]) hx hb dX10_plain_132 hl (by decide) rfl (fun ls hl => ?_)
                      refine lv_goto (pc := 134) (tgt := 25) hx hb dX10_plain_134 (by decide) ?_
                      exact ih25 (i + 1) y' c' d' ce1_73 (by omega) ((dec_stepR (by decide) (n := n8) (m := n8 / 16) (by omega) (by omega) hr hb1 (by omega) ha9 hs_73 hfr_73 (by omega) hy hc9 aesD_Elen).1) ((dec_stepR (by decide) (n := n8) (m := n8 / 16) (by omega) (by omega) hr hb1 (by omega) ha9 hs_73 hfr_73 (by omega) hy hc9 aesD_Elen).2) (by omega) _ _ (hP.sub [11, 0, 5, 6, 7, 8, 9, 1, 2, 10, 3, 4] rfl) (hD.sub [11, 0, 5, 6, 7, 8, 9, 1, 2, 10, 3, 4] (by decide) rfl) hS ls (lv_sub hl [0, 2, 3, 4, 5, 6] rfl)
                    · skip
                      rw [nI_leI (by omega) (by omega)] at c_14
                      refine lv_aload_n (pc := 86) hx hb dX10_plain_86 rfl (lv_at hl 3 rfl) ?_
                      refine va_get (pc := 87) (D := D) (ci := 8) (v := .ref (a 54)) (C := RX10) (T := TX10) (N := 57) hx hb hts iu10 hown hK hP 5 rfl rfl 54 (by decide) (hts _ tw_1099) (fun _ h9 => h9) rfl dX10_plain_87 ?_
                      refine lv_iload (pc := 90) hx hb dX10_plain_90 (lv_at hl 1 rfl) ?_
                      refine lv_iload (pc := 92) hx hb dX10_plain_92 (lv_at hl 0 rfl) ?_
                      refine lv_iadd (pc := 94) hx hb dX10_plain_94 ?_
                      refine q_top (y := nI (16 * i + e)) (nI_add (16 * i) e) ?_
                      refine lv_dup2_11 (pc := 95) hx hb dX10_plain_95 rfl rfl ?_
                      refine q_bald (pc := 96) hx hb hK hP 11 2 rfl rfl (k := 16 * i + e) (v := qs (y' (16 * i + e))) rfl (by omega) (by omega) rfl dX10_plain_96 ?_
                      refine lv_aload_n (pc := 97) hx hb dX10_plain_97 rfl (lv_at hl 3 rfl) ?_
                      refine va_get (pc := 98) (D := D) (ci := 8) (v := .ref (a 53)) (C := RX10) (T := TX10) (N := 57) hx hb hts iu10 hown hK hP 5 rfl rfl 53 (by decide) (hts _ tw_1098) (fun _ h9 => h9) rfl dX10_plain_98 ?_
                      refine lv_iload (pc := 101) hx hb dX10_plain_101 (lv_at hl 0 rfl) ?_
                      refine q_bald (pc := 103) hx hb hK hP 1 2 rfl rfl (k := e) (v := qs (c' e)) rfl (by omega) (by omega) rfl dX10_plain_103 ?_
                      refine lv_ixor (pc := 104) hx hb dX10_plain_104 ?_
                      refine q_top (y := qs ((y' (16 * i + e)) ^^^ (c' e))) (q_xor_s _ _) ?_
                      refine lv_i2b (pc := 105) (v := qs ((y' (16 * i + e)) ^^^ (c' e))) hx hb dX10_plain_105 (q_i2b_s _) ?_
                      refine q_bastS (pc := 106) hx hb hK hP hD hS 11 2 rfl rfl (k := 16 * i + e) rfl (by omega) (by omega) (b := (y' (16 * i + e)) ^^^ (c' e)) (qlo_qs _) dX10_plain_106 (fun H locs hP hD hS => ?_)
                      have hP : va_P D vwCl [(a 56, aS ta 16 d'), (a 53, aS ta 16 c'), (a 41, aS ta 256 gke), (a 37, aK ta 2 le), (a 47, aK ta 2 cn), (h0, oM a ((le sd) / 4 + 6) mn tp osz lsz ns ct), (a 8, aZ ta 256 BOX), (a 9, aZ ta 256 UBOX), (a 16, aS ta 240 rk1_19), (a 18, aS ta 16 ce1_73), (a 36, aK ta 2 ru), (a 54, aS ta 300 (qU y' (16 * i + e) ((y' (16 * i + e)) ^^^ (c' e))))] H := hP
                      have hD : va_D A [(a 56, aS ta 16 d'), (a 53, aS ta 16 c'), (a 41, aS ta 256 gke), (a 37, aK ta 2 le), (a 47, aK ta 2 cn), (h0, oM a ((le sd) / 4 + 6) mn tp osz lsz ns ct), (a 8, aZ ta 256 BOX), (a 9, aZ ta 256 UBOX), (a 16, aS ta 240 rk1_19), (a 18, aS ta 16 ce1_73), (a 36, aK ta 2 ru), (a 54, aS ta 300 (qU y' (16 * i + e) ((y' (16 * i + e)) ^^^ (c' e))))] := hD
                      refine lv_aload_n (pc := 107) hx hb dX10_plain_107 rfl (lv_at hl 3 rfl) ?_
                      refine va_get (pc := 108) (D := D) (ci := 8) (v := .ref (a 53)) (C := RX10) (T := TX10) (N := 57) hx hb hts iu10 hown hK hP 5 rfl rfl 53 (by decide) (hts _ tw_1098) (fun _ h9 => h9) rfl dX10_plain_108 ?_
                      refine lv_iload (pc := 111) hx hb dX10_plain_111 (lv_at hl 0 rfl) ?_
                      refine lv_aload_n (pc := 113) hx hb dX10_plain_113 rfl (lv_at hl 3 rfl) ?_
                      refine va_get (pc := 114) (D := D) (ci := 8) (v := .ref (a 56)) (C := RX10) (T := TX10) (N := 57) hx hb hts iu10 hown hK hP 5 rfl rfl 56 (by decide) (hts _ tw_1101) (fun _ h9 => h9) rfl dX10_plain_114 ?_
                      refine lv_iload (pc := 117) hx hb dX10_plain_117 (lv_at hl 0 rfl) ?_
                      refine q_bald (pc := 119) hx hb hK hP 0 2 rfl rfl (k := e) (v := qs (d' e)) rfl (by omega) (by omega) rfl dX10_plain_119 ?_
                      refine q_bastS (pc := 120) hx hb hK hP hD hS 1 2 rfl rfl (k := e) rfl (by omega) (by omega) (b := d' e) (qlo_qs _) dX10_plain_120 (fun H locs hP hD hS => ?_)
                      have hP : va_P D vwCl [(a 56, aS ta 16 d'), (a 53, aS ta 16 (qU c' e (d' e))), (a 41, aS ta 256 gke), (a 37, aK ta 2 le), (a 47, aK ta 2 cn), (h0, oM a ((le sd) / 4 + 6) mn tp osz lsz ns ct), (a 8, aZ ta 256 BOX), (a 9, aZ ta 256 UBOX), (a 16, aS ta 240 rk1_19), (a 18, aS ta 16 ce1_73), (a 36, aK ta 2 ru), (a 54, aS ta 300 (qU y' (16 * i + e) ((y' (16 * i + e)) ^^^ (c' e))))] H := hP
                      have hD : va_D A [(a 56, aS ta 16 d'), (a 53, aS ta 16 (qU c' e (d' e))), (a 41, aS ta 256 gke), (a 37, aK ta 2 le), (a 47, aK ta 2 cn), (h0, oM a ((le sd) / 4 + 6) mn tp osz lsz ns ct), (a 8, aZ ta 256 BOX), (a 9, aZ ta 256 UBOX), (a 16, aS ta 240 rk1_19), (a 18, aS ta 16 ce1_73), (a 36, aK ta 2 ru), (a 54, aS ta 300 (qU y' (16 * i + e) ((y' (16 * i + e)) ^^^ (c' e))))] := hD
                      refine lv_iinc (pc := 121) (v := nI (e + 1)) (lv' := [(6, .int (nI (e + 1))), (5, .int (nI (16 * i))), (4, .int (nI 16)), (0, .ref h0), (1, .int (nI sd)), (2, .int (nI n8)), (3, .int (nI 1))]) hx hb dX10_plain_121 hl (k := 0) rfl (by first | exact nI_add e 1 | rfl) (by decide) rfl (fun ls hl => ?_)
                      refine lv_goto (pc := 124) (tgt := 79) hx hb dX10_plain_124 (by decide) ?_
                      exact ih79 (e + 1) (qU y' (16 * i + e) ((y' (16 * i + e)) ^^^ (c' e))) (qU c' e (d' e)) (by omega) (qSeg_s hy rfl (by rw [hy.2 _ (by omega), hc9.2 _ (by omega)])) (qSeg_s hc9 (by omega) rfl) (by omega) _ _ (hP.sub [0, 1, 2, 3, 4, 5, 6, 7, 8, 9, 10, 11] rfl) (hD.sub [0, 1, 2, 3, 4, 5, 6, 7, 8, 9, 10, 11] (by decide) rfl) hS ls (lv_sub hl [0, 1, 2, 3, 4, 5, 6] rfl)
                exact LP79 _ 0 gb1_73 b' (by omega) (qSeg_0) (qSeg_0) (Nat.lt_succ_self _) _ _ (hP.sub [0, 1, 2, 3, 4, 5, 6, 7, 8, 9, 10, 11] rfl) (hD.sub [0, 1, 2, 3, 4, 5, 6, 7, 8, 9, 10, 11] (by decide) rfl) hS ls (lv_sub hl [0, 1, 2, 3, 4, 5, 6] rfl)
              · skip
                rw [nI_leI (by omega) (by omega)] at c_13
                refine lv_aload_n (pc := 41) hx hb dX10_plain_41 rfl (lv_at hl 3 rfl) ?_
                refine va_get (pc := 42) (D := D) (ci := 8) (v := .ref (a 56)) (C := RX10) (T := TX10) (N := 57) hx hb hts iu10 hown hK hP 2 rfl rfl 56 (by decide) (hts _ tw_1101) (fun _ h9 => h9) rfl dX10_plain_42 ?_
                refine lv_iload (pc := 45) hx hb dX10_plain_45 (lv_at hl 0 rfl) ?_
                refine lv_aload_n (pc := 47) hx hb dX10_plain_47 rfl (lv_at hl 3 rfl) ?_
                refine va_get (pc := 48) (D := D) (ci := 8) (v := .ref (a 54)) (C := RX10) (T := TX10) (N := 57) hx hb hts iu10 hown hK hP 2 rfl rfl 54 (by decide) (hts _ tw_1099) (fun _ h9 => h9) rfl dX10_plain_48 ?_
                refine lv_iload (pc := 51) hx hb dX10_plain_51 (lv_at hl 1 rfl) ?_
                refine lv_iload (pc := 53) hx hb dX10_plain_53 (lv_at hl 0 rfl) ?_
                refine lv_iadd (pc := 55) hx hb dX10_plain_55 ?_
                refine q_top (y := nI (16 * i + d)) (nI_add (16 * i) d) ?_
                refine q_bald (pc := 56) hx hb hK hP 0 2 rfl rfl (k := 16 * i + d) (v := qs (x' (16 * i + d))) rfl (by omega) (by omega) rfl dX10_plain_56 ?_
                refine q_bastS (pc := 57) hx hb hK hP hD hS 1 2 rfl rfl (k := d) rfl (by omega) (by omega) (b := x' (16 * i + d)) (qlo_qs _) dX10_plain_57 (fun H locs hP hD hS => ?_)
                have hP : va_P D vwCl [(a 54, aS ta 300 x'), (a 56, aS ta 16 (qU d' d (x' (16 * i + d)))), (h0, oM a (le sd / 4 + 6) mn tp osz lsz ns ct), (a 8, aZ ta 256 BOX), (a 9, aZ ta 256 UBOX), (a 16, aS ta 240 rk1_19), (a 18, aS ta 16 e'), (a 53, aS ta 16 b'), (a 41, aS ta 256 gke), (a 36, aK ta 2 ru), (a 37, aK ta 2 le), (a 47, aK ta 2 cn)] H := hP
                have hD : va_D A [(a 54, aS ta 300 x'), (a 56, aS ta 16 (qU d' d (x' (16 * i + d)))), (h0, oM a (le sd / 4 + 6) mn tp osz lsz ns ct), (a 8, aZ ta 256 BOX), (a 9, aZ ta 256 UBOX), (a 16, aS ta 240 rk1_19), (a 18, aS ta 16 e'), (a 53, aS ta 16 b'), (a 41, aS ta 256 gke), (a 36, aK ta 2 ru), (a 37, aK ta 2 le), (a 47, aK ta 2 cn)] := hD
                refine lv_iinc (pc := 58) (v := nI (d + 1)) (lv' := [(6, .int (nI (d + 1))), (5, .int (nI (16 * i))), (4, .int (nI 16)), (0, .ref h0), (1, .int (nI sd)), (2, .int (nI n8)), (3, .int (nI 1))]) hx hb dX10_plain_58 hl (k := 0) rfl (by first | exact nI_add d 1 | rfl) (by decide) rfl (fun ls hl => ?_)
                refine lv_goto (pc := 61) (tgt := 34) hx hb dX10_plain_61 (by decide) ?_
                exact ih34 (d + 1) (qU d' d (x' (16 * i + d))) (by omega) (qSeg_s ha9 (by omega) rfl) (by omega) _ _ (hP.sub [0, 1, 2, 3, 4, 5, 6, 7, 8, 9, 10, 11] rfl) (hD.sub [0, 1, 2, 3, 4, 5, 6, 7, 8, 9, 10, 11] (by decide) rfl) hS ls (lv_sub hl [0, 1, 2, 3, 4, 5, 6] rfl)
          exact LP34 _ 0 a' (by omega) (qSeg_0) (Nat.lt_succ_self _) _ _ (hP.sub [0, 1, 2, 3, 4, 5, 6, 7, 8, 9, 10, 11] rfl) (hD.sub [0, 1, 2, 3, 4, 5, 6, 7, 8, 9, 10, 11] (by decide) rfl) hS ls (lv_sub hl [0, 1, 2, 3, 4, 5, 6] rfl)
    exact LP25 _ 0 gwk gbl1_19 gah ce1_19 (by omega) (qSeg_0) (by rw [if_pos rfl, hs_19]) (Nat.lt_succ_self _) _ _ (hP.sub [0, 1, 2, 3, 4, 5, 6, 7, 8, 9, 10, 11] rfl) (hD.sub [0, 1, 2, 3, 4, 5, 6, 7, 8, 9, 10, 11] (by decide) rfl) hS ls (lv_sub hl [0, 1, 2, 3, 4, 5] rfl)
  · skip
    rw [q_eq0 (by omega)] at c_1
    have h16 : ¬ n8 % 16 = 0 := by omega
    refine lv_iconst (pc := 14) (v := (-1)) hx hb dX10_plain_14 (by decide +kernel) ?_
    refine q_top (y := (-1)) (by first | rfl | decide +kernel | (simp; done)) ?_
    have hq_15 : (show3 (seg gke (128 * sd) (le sd)) (cn sd) 0x80#8 (qL gwk n8) = if false then some (qL gwk 0) else none) ∧ (((-1) : Int32) = if false then nI 0 else -1) ∧ (0 ≤ n8) := by
      exact ⟨by rw [show3, qL_len, if_neg h16]; rfl, rfl, by omega⟩
    exact hret (⟨(-1), (false), (rk), (ce), (gbl), (gwk), (gah), (0), (ar)⟩ : Int32 × Bool × (Nat → BitVec 8) × (Nat → BitVec 8) × (Nat → BitVec 8) × (Nat → BitVec 8) × (Nat → BitVec 8) × Nat × Nat) _ _ _ _ dX10_plain_15 hq_15 (hP.sub [10, 0, 1, 2, 3, 4, 5, 11, 6, 7, 8, 9] rfl) (hD.sub [10, 0, 1, 2, 3, 4, 5, 11, 6, 7, 8, 9] (by decide) rfl) hS
theorem hdX10_isCode : yX10_isCode.cls ≠ "java/lang/invoke/MethodHandle" ∧ yX10_isCode.cls ≠ "java/lang/invoke/VarHandle" ∧ (parseMethodDescriptor yX10_isCode.desc).map (fun d => d.parameters.length) = some 1 := ⟨by decide +kernel, by decide +kernel, by decide +kernel⟩
theorem dX10_isCode_0 : decode cX10_isCode 0 = .ok (.iconst 1, 1) := by decide +kernel
theorem dX10_isCode_1 : decode cX10_isCode 1 = .ok (.istore_n 2, 1) := by decide +kernel
theorem dX10_isCode_2 : decode cX10_isCode 2 = .ok (.iconst 0, 1) := by decide +kernel
theorem dX10_isCode_3 : decode cX10_isCode 3 = .ok (.istore_n 3, 1) := by decide +kernel
theorem dX10_isCode_4 : decode cX10_isCode 4 = .ok (.iload_n 3, 1) := by decide +kernel
theorem dX10_isCode_5 : decode cX10_isCode 5 = .ok (.bipush 8, 2) := by decide +kernel
theorem dX10_isCode_7 : decode cX10_isCode 7 = .ok (.if_icmp .ge 36, 3) := by decide +kernel
theorem dX10_isCode_10 : decode cX10_isCode 10 = .ok (.iload_n 2, 1) := by decide +kernel
theorem dX10_isCode_11 : decode cX10_isCode 11 = .ok (.ifCond .eq 24, 3) := by decide +kernel
theorem dX10_isCode_14 : decode cX10_isCode 14 = .ok (.aload_n 0, 1) := by decide +kernel
theorem dX10_isCode_15 : decode cX10_isCode 15 = .ok (.getfield 225, 3) := by decide +kernel
theorem dX10_isCode_18 : decode cX10_isCode 18 = .ok (.iload_n 1, 1) := by decide +kernel
theorem dX10_isCode_19 : decode cX10_isCode 19 = .ok (.iload_n 3, 1) := by decide +kernel
theorem dX10_isCode_20 : decode cX10_isCode 20 = .ok (.iadd, 1) := by decide +kernel
theorem dX10_isCode_21 : decode cX10_isCode 21 = .ok (.baload, 1) := by decide +kernel
theorem dX10_isCode_22 : decode cX10_isCode 22 = .ok (.aload_n 0, 1) := by decide +kernel
theorem dX10_isCode_23 : decode cX10_isCode 23 = .ok (.getfield 289, 3) := by decide +kernel
theorem dX10_isCode_26 : decode cX10_isCode 26 = .ok (.iload_n 3, 1) := by decide +kernel
theorem dX10_isCode_27 : decode cX10_isCode 27 = .ok (.baload, 1) := by decide +kernel
theorem dX10_isCode_28 : decode cX10_isCode 28 = .ok (.if_icmp .ne 7, 3) := by decide +kernel
theorem dX10_isCode_31 : decode cX10_isCode 31 = .ok (.iconst 1, 1) := by decide +kernel
theorem dX10_isCode_32 : decode cX10_isCode 32 = .ok (.goto 4, 3) := by decide +kernel
theorem dX10_isCode_35 : decode cX10_isCode 35 = .ok (.iconst 0, 1) := by decide +kernel
theorem dX10_isCode_36 : decode cX10_isCode 36 = .ok (.istore_n 2, 1) := by decide +kernel
theorem dX10_isCode_37 : decode cX10_isCode 37 = .ok (.iinc 3 1, 3) := by decide +kernel
theorem dX10_isCode_40 : decode cX10_isCode 40 = .ok (.goto (-36), 3) := by decide +kernel
theorem dX10_isCode_43 : decode cX10_isCode 43 = .ok (.iload_n 2, 1) := by decide +kernel
theorem dX10_isCode_44 : decode cX10_isCode 44 = .ok (.ireturn, 1) := by decide +kernel
set_option maxHeartbeats 4000000 in
set_option maxRecDepth 100000 in
theorem ct_X10_isCode (ll : Launch) (D : va_G) (ta : Nat → ClassId) {G : (Nat → Prop) → State → Heap → Prop} (hGok : GOK G) (h0 : Nat) (a : Nat → Nat) (ar : Nat) (mn : Nat) (tp : Nat) (osz : Nat) (lsz : Nat) (ns : Nat) (ct : Nat) (gli : Nat → BitVec 8) (gco : Nat → BitVec 8) (at0 : Nat) (hat : at0 + 8 ≤ 300) (sz : Nat) : CT ll yX10_isCode cX10_isCode 4 (some .boolean) ({ frames := 0, cells := 0, slots := 0, locals := 0 } : Room) D ta G [.ref h0, .int (nI at0)] [(h0, oM a ar mn tp osz lsz ns ct), (a 31, aS ta 300 gli), (a 55, aS ta 16 gco)] sz (S := Bool) (fun u => some (.int (qb u))) (fun u => (u = decide (seg gli at0 8 = seg gco 0 8))) (fun u => [(h0, oM a ar mn tp osz lsz ns ct), (a 31, aS ta 300 gli), (a 55, aS ta 16 gco)]) 0 0 := by
  refine CT.of_z (r := fun u => u) rfl (by decide) (Nat.le_of_ble_eq_true rfl) ?_
  intro pp ee ss mm below meth kc A Q hx hb hml hown hin hts hK hA hsz hG hret H locs hP hD hS ls hl
  have hl : lv_has ls 4 [(0, .ref h0), (1, .int (nI at0))] := hl
  refine lv_iconst (pc := 0) (v := nI 1) hx hb dX10_isCode_0 (by decide +kernel) ?_
  refine q_top (y := qb true) rfl ?_
  refine lv_istore_n (pc := 1) (lv' := [(2, .int (qb true)), (0, .ref h0), (1, .int (nI at0))]) hx hb dX10_isCode_1 rfl hl (by decide) rfl (fun ls hl => ?_)
  refine lv_iconst (pc := 2) (v := nI 0) hx hb dX10_isCode_2 (by decide +kernel) ?_
  refine lv_istore_n (pc := 3) (lv' := [(3, .int (nI 0)), (2, .int (qb true)), (0, .ref h0), (1, .int (nI at0))]) hx hb dX10_isCode_3 rfl hl (by decide) rfl (fun ls hl => ?_)
  have LP4 : ∀ (nn4 : Nat) (k4 : Nat) (rt : Bool), (k4 ≤ 8) → (rt = decide (∀ j, j < k4 → gli (at0 + j) = gco j)) → (8 - k4 < nn4) → ∀ (H : Heap) (locs : List Loc), va_P D vwCl [(h0, oM a ar mn tp osz lsz ns ct), (a 31, aS ta 300 gli), (a 55, aS ta 16 gco)] H → va_D A [(h0, oM a ar mn tp osz lsz ns ct), (a 31, aS ta 300 gli), (a 55, aS ta 16 gco)] → va_S A ss.heap H locs → ∀ ls : Array Slot, lv_has ls 4 [(3, .int (nI k4)), (2, .int (qb rt)), (0, .ref h0), (1, .int (nI at0))] → W pp ll ee ({ frames := 0, cells := 0, slots := 0, locals := 0 } : Room) ss mm (([.ref h0, .int (nI at0)] : List Value).toArray) below meth kc H locs 0 0 Q (F0 mm 4 ls []) := by
    intro nn4
    induction nn4 with
    | zero => intro k4 rt hk4 hrt hmu; exact absurd hmu (Nat.not_lt_zero _)
    | succ nn4 ih4 =>
      intro k4 rt hk4 hrt hmu4 H locs hP hD hS ls hl
      refine lv_iload_n (pc := 4) hx hb dX10_isCode_4 rfl (lv_at hl 0 rfl) ?_
      refine lv_bipush (pc := 5) (v := nI 8) hx hb dX10_isCode_5 (by decide +kernel) ?_
      refine lv_icmp_ge (pc := 7) (tgt := 43) hx hb dX10_isCode_7 (by decide) (fun c_1 => ?_) (fun c_1 => ?_)
      · skip
        rw [nI_leI (by omega) (by omega)] at c_1
        refine lv_iload_n (pc := 43) hx hb dX10_isCode_43 rfl (lv_at hl 1 rfl) ?_
        have hq_2 : (rt = decide (seg gli at0 8 = seg gco 0 8)) := by
          rw [hrt, show k4 = 8 by omega]
          congr 1
          rw [eq_iff_iff, seg_ext]
          simp only [Nat.zero_add]
        exact hret (rt) _ _ _ _ dX10_isCode_44 hq_2 (hP.sub [0, 1, 2] rfl) (hD.sub [0, 1, 2] (by decide) rfl) hS
      · skip
        rw [nI_leI (by omega) (by omega)] at c_1
        refine lv_iload_n (pc := 10) hx hb dX10_isCode_10 rfl (lv_at hl 1 rfl) ?_
        refine lv_if_eq (pc := 11) (tgt := 35) hx hb dX10_isCode_11 (by decide) (fun c_3 => ?_) (fun c_3 => ?_)
        · skip
          rw [q_beq] at c_3
          try rw [Bool.not_eq_false] at c_3
          have hrt9 := c_3
          refine lv_iconst (pc := 35) (v := nI 0) hx hb dX10_isCode_35 (by decide +kernel) ?_
          refine q_top (y := qb false) rfl ?_
          refine lv_istore_n (pc := 36) (lv' := [(2, .int (qb false)), (3, .int (nI k4)), (0, .ref h0), (1, .int (nI at0))]) hx hb dX10_isCode_36 rfl hl (by decide) rfl (fun ls hl => ?_)
          refine lv_iinc (pc := 37) (v := nI (k4 + 1)) (lv' := [(3, .int (nI (k4 + 1))), (2, .int (qb false)), (0, .ref h0), (1, .int (nI at0))]) hx hb dX10_isCode_37 hl (k := 1) rfl (by first | exact nI_add k4 1 | rfl) (by decide) rfl (fun ls hl => ?_)
          refine lv_goto (pc := 40) (tgt := 4) hx hb dX10_isCode_40 (by decide) ?_
          exact ih4 (k4 + 1) false (by omega) (by
                symm
                first | (refine decide_eq_true (fun j hj => ?_); have h8 : ∀ j, j < k4 → gli (at0 + j) = gco j := (by rw [hrt9] at hrt; exact of_decide_eq_true hrt.symm); by_cases q : j = k4; (subst q; exact hq9); exact h8 j (by omega)) | (refine decide_eq_false (fun q => ?_); exact hq9 (q k4 (by omega))) | (refine decide_eq_false (fun q => ?_); have h8 : ¬ ∀ j, j < k4 → gli (at0 + j) = gco j := (by rw [hrt9] at hrt; exact of_decide_eq_false hrt.symm); exact h8 (fun j hj => q j (by omega)))) (by omega) _ _ (hP.sub [0, 1, 2] rfl) (hD.sub [0, 1, 2] (by decide) rfl) hS ls (lv_sub hl [0, 1, 2, 3] rfl)
        · skip
          rw [q_beq] at c_3
          try rw [Bool.not_eq_false] at c_3
          have hrt9 := c_3
          refine lv_aload_n (pc := 14) hx hb dX10_isCode_14 rfl (lv_at hl 2 rfl) ?_
          refine va_get (pc := 15) (D := D) (ci := 8) (v := .ref (a 31)) (C := RX10) (T := TX10) (N := 57) hx hb hts iu10 hown hK hP 0 rfl rfl 31 (by decide) (hts _ tw_1076) (fun _ h9 => h9) rfl dX10_isCode_15 ?_
          refine lv_iload_n (pc := 18) hx hb dX10_isCode_18 rfl (lv_at hl 3 rfl) ?_
          refine lv_iload_n (pc := 19) hx hb dX10_isCode_19 rfl (lv_at hl 0 rfl) ?_
          refine lv_iadd (pc := 20) hx hb dX10_isCode_20 ?_
          refine q_top (y := nI (at0 + k4)) (nI_add at0 k4) ?_
          refine q_bald (pc := 21) hx hb hK hP 1 2 rfl rfl (k := at0 + k4) (v := qs (gli (at0 + k4))) rfl (by omega) (by omega) rfl dX10_isCode_21 ?_
          refine lv_aload_n (pc := 22) hx hb dX10_isCode_22 rfl (lv_at hl 2 rfl) ?_
          refine va_get (pc := 23) (D := D) (ci := 8) (v := .ref (a 55)) (C := RX10) (T := TX10) (N := 57) hx hb hts iu10 hown hK hP 0 rfl rfl 55 (by decide) (hts _ tw_1100) (fun _ h9 => h9) rfl dX10_isCode_23 ?_
          refine lv_iload_n (pc := 26) hx hb dX10_isCode_26 rfl (lv_at hl 0 rfl) ?_
          refine q_bald (pc := 27) hx hb hK hP 2 2 rfl rfl (k := k4) (v := qs (gco k4)) rfl (by omega) (by omega) rfl dX10_isCode_27 ?_
          refine lv_icmp_ne (pc := 28) (tgt := 35) hx hb dX10_isCode_28 (by decide) (fun c_4 => ?_) (fun c_4 => ?_)
          · skip
            rw [qs_eq] at c_4
            have hq9 := c_4
            refine lv_iconst (pc := 35) (v := nI 0) hx hb dX10_isCode_35 (by decide +kernel) ?_
            refine q_top (y := qb false) rfl ?_
            refine lv_istore_n (pc := 36) (lv' := [(2, .int (qb false)), (3, .int (nI k4)), (0, .ref h0), (1, .int (nI at0))]) hx hb dX10_isCode_36 rfl hl (by decide) rfl (fun ls hl => ?_)
            refine lv_iinc (pc := 37) (v := nI (k4 + 1)) (lv' := [(3, .int (nI (k4 + 1))), (2, .int (qb false)), (0, .ref h0), (1, .int (nI at0))]) hx hb dX10_isCode_37 hl (k := 1) rfl (by first | exact nI_add k4 1 | rfl) (by decide) rfl (fun ls hl => ?_)
            refine lv_goto (pc := 40) (tgt := 4) hx hb dX10_isCode_40 (by decide) ?_
            exact ih4 (k4 + 1) false (by omega) (by
                  symm
                  first | (refine decide_eq_true (fun j hj => ?_); have h8 : ∀ j, j < k4 → gli (at0 + j) = gco j := (by rw [hrt9] at hrt; exact of_decide_eq_true hrt.symm); by_cases q : j = k4; (subst q; exact hq9); exact h8 j (by omega)) | (refine decide_eq_false (fun q => ?_); exact hq9 (q k4 (by omega))) | (refine decide_eq_false (fun q => ?_); have h8 : ¬ ∀ j, j < k4 → gli (at0 + j) = gco j := (by rw [hrt9] at hrt; exact of_decide_eq_false hrt.symm); exact h8 (fun j hj => q j (by omega)))) (by omega) _ _ (hP.sub [0, 1, 2] rfl) (hD.sub [0, 1, 2] (by decide) rfl) hS ls (lv_sub hl [0, 1, 2, 3] rfl)
          · skip
            rw [qs_eq] at c_4
            have hq9 := c_4
            refine lv_iconst (pc := 31) (v := nI 1) hx hb dX10_isCode_31 (by decide +kernel) ?_
            refine lv_goto (pc := 32) (tgt := 36) hx hb dX10_isCode_32 (by decide) ?_
            refine q_top (y := qb true) rfl ?_
            refine lv_istore_n (pc := 36) (lv' := [(2, .int (qb true)), (3, .int (nI k4)), (0, .ref h0), (1, .int (nI at0))]) hx hb dX10_isCode_36 rfl hl (by decide) rfl (fun ls hl => ?_)
            refine lv_iinc (pc := 37) (v := nI (k4 + 1)) (lv' := [(3, .int (nI (k4 + 1))), (2, .int (qb true)), (0, .ref h0), (1, .int (nI at0))]) hx hb dX10_isCode_37 hl (k := 1) rfl (by first | exact nI_add k4 1 | rfl) (by decide) rfl (fun ls hl => ?_)
            refine lv_goto (pc := 40) (tgt := 4) hx hb dX10_isCode_40 (by decide) ?_
            exact ih4 (k4 + 1) true (by omega) (by
                  symm
                  first | (refine decide_eq_true (fun j hj => ?_); have h8 : ∀ j, j < k4 → gli (at0 + j) = gco j := (by rw [hrt9] at hrt; exact of_decide_eq_true hrt.symm); by_cases q : j = k4; (subst q; exact hq9); exact h8 j (by omega)) | (refine decide_eq_false (fun q => ?_); exact hq9 (q k4 (by omega))) | (refine decide_eq_false (fun q => ?_); have h8 : ¬ ∀ j, j < k4 → gli (at0 + j) = gco j := (by rw [hrt9] at hrt; exact of_decide_eq_false hrt.symm); exact h8 (fun j hj => q j (by omega)))) (by omega) _ _ (hP.sub [0, 1, 2] rfl) (hD.sub [0, 1, 2] (by decide) rfl) hS ls (lv_sub hl [0, 1, 2, 3] rfl)
  exact LP4 _ 0 true (by omega) ((decide_eq_true (fun j hj => absurd hj (Nat.not_lt_zero _))).symm) (Nat.lt_succ_self _) _ _ (hP.sub [0, 1, 2] rfl) (hD.sub [0, 1, 2] (by decide) rfl) hS ls (lv_sub hl [0, 1, 2, 3] rfl)
theorem hdX10_send : yX10_send.cls ≠ "java/lang/invoke/MethodHandle" ∧ yX10_send.cls ≠ "java/lang/invoke/VarHandle" ∧ (parseMethodDescriptor yX10_send.desc).map (fun d => d.parameters.length) = some 0 := ⟨by decide +kernel, by decide +kernel, by decide +kernel⟩
theorem dX10_send_0 : decode cX10_send 0 = .ok (.aload_n 0, 1) := by decide +kernel
theorem dX10_send_1 : decode cX10_send 1 = .ok (.invokevirtual 310, 3) := by decide +kernel
theorem dX10_send_4 : decode cX10_send 4 = .ok (.istore_n 1, 1) := by decide +kernel
theorem dX10_send_5 : decode cX10_send 5 = .ok (.aload_n 0, 1) := by decide +kernel
theorem dX10_send_6 : decode cX10_send 6 = .ok (.getfield 240, 3) := by decide +kernel
theorem dX10_send_9 : decode cX10_send 9 = .ok (.iconst 0, 1) := by decide +kernel
theorem dX10_send_10 : decode cX10_send 10 = .ok (.iaload, 1) := by decide +kernel
theorem dX10_send_11 : decode cX10_send 11 = .ok (.iconst 2, 1) := by decide +kernel
theorem dX10_send_12 : decode cX10_send 12 = .ok (.if_icmp .ne 26, 3) := by decide +kernel
theorem dX10_send_15 : decode cX10_send 15 = .ok (.aload_n 0, 1) := by decide +kernel
theorem dX10_send_16 : decode cX10_send 16 = .ok (.getfield 243, 3) := by decide +kernel
theorem dX10_send_19 : decode cX10_send 19 = .ok (.iconst 0, 1) := by decide +kernel
theorem dX10_send_20 : decode cX10_send 20 = .ok (.iaload, 1) := by decide +kernel
theorem dX10_send_21 : decode cX10_send 21 = .ok (.iconst 1, 1) := by decide +kernel
theorem dX10_send_22 : decode cX10_send 22 = .ok (.iand, 1) := by decide +kernel
theorem dX10_send_23 : decode cX10_send 23 = .ok (.ifCond .eq 15, 3) := by decide +kernel
theorem dX10_send_26 : decode cX10_send 26 = .ok (.iload_n 1, 1) := by decide +kernel
theorem dX10_send_27 : decode cX10_send 27 = .ok (.iconst 4, 1) := by decide +kernel
theorem dX10_send_28 : decode cX10_send 28 = .ok (.if_icmp .lt 10, 3) := by decide +kernel
theorem dX10_send_31 : decode cX10_send 31 = .ok (.iload_n 1, 1) := by decide +kernel
theorem dX10_send_32 : decode cX10_send 32 = .ok (.sipush 204, 3) := by decide +kernel
theorem dX10_send_35 : decode cX10_send 35 = .ok (.if_icmp .le 5, 3) := by decide +kernel
theorem dX10_send_38 : decode cX10_send 38 = .ok (.iconst (-1), 1) := by decide +kernel
theorem dX10_send_39 : decode cX10_send 39 = .ok (.ireturn, 1) := by decide +kernel
theorem dX10_send_40 : decode cX10_send 40 = .ok (.aload_n 0, 1) := by decide +kernel
theorem dX10_send_41 : decode cX10_send 41 = .ok (.iconst 0, 1) := by decide +kernel
theorem dX10_send_42 : decode cX10_send 42 = .ok (.aload_n 0, 1) := by decide +kernel
theorem dX10_send_43 : decode cX10_send 43 = .ok (.getfield 219, 3) := by decide +kernel
theorem dX10_send_46 : decode cX10_send 46 = .ok (.iload_n 1, 1) := by decide +kernel
theorem dX10_send_47 : decode cX10_send 47 = .ok (.invokevirtual 377, 3) := by decide +kernel
theorem dX10_send_50 : decode cX10_send 50 = .ok (.aload_n 0, 1) := by decide +kernel
theorem dX10_send_51 : decode cX10_send 51 = .ok (.getfield 264, 3) := by decide +kernel
theorem dX10_send_54 : decode cX10_send 54 = .ok (.iconst 0, 1) := by decide +kernel
theorem dX10_send_55 : decode cX10_send 55 = .ok (.dup2, 1) := by decide +kernel
theorem dX10_send_56 : decode cX10_send 56 = .ok (.iaload, 1) := by decide +kernel
theorem dX10_send_57 : decode cX10_send 57 = .ok (.iconst 1, 1) := by decide +kernel
theorem dX10_send_58 : decode cX10_send 58 = .ok (.iadd, 1) := by decide +kernel
theorem dX10_send_59 : decode cX10_send 59 = .ok (.iastore, 1) := by decide +kernel
theorem dX10_send_60 : decode cX10_send 60 = .ok (.iload_n 1, 1) := by decide +kernel
theorem dX10_send_61 : decode cX10_send 61 = .ok (.iconst 4, 1) := by decide +kernel
theorem dX10_send_62 : decode cX10_send 62 = .ok (.isub, 1) := by decide +kernel
theorem dX10_send_63 : decode cX10_send 63 = .ok (.istore_n 2, 1) := by decide +kernel
theorem dX10_send_64 : decode cX10_send 64 = .ok (.iconst 0, 1) := by decide +kernel
theorem dX10_send_65 : decode cX10_send 65 = .ok (.istore_n 3, 1) := by decide +kernel
theorem dX10_send_66 : decode cX10_send 66 = .ok (.iload_n 3, 1) := by decide +kernel
theorem dX10_send_67 : decode cX10_send 67 = .ok (.iload_n 2, 1) := by decide +kernel
theorem dX10_send_68 : decode cX10_send 68 = .ok (.if_icmp .ge 23, 3) := by decide +kernel
theorem dX10_send_71 : decode cX10_send 71 = .ok (.aload_n 0, 1) := by decide +kernel
theorem dX10_send_72 : decode cX10_send 72 = .ok (.getfield 286, 3) := by decide +kernel
theorem dX10_send_75 : decode cX10_send 75 = .ok (.iload_n 3, 1) := by decide +kernel
theorem dX10_send_76 : decode cX10_send 76 = .ok (.aload_n 0, 1) := by decide +kernel
theorem dX10_send_77 : decode cX10_send 77 = .ok (.getfield 219, 3) := by decide +kernel
theorem dX10_send_80 : decode cX10_send 80 = .ok (.iconst 4, 1) := by decide +kernel
theorem dX10_send_81 : decode cX10_send 81 = .ok (.iload_n 3, 1) := by decide +kernel
theorem dX10_send_82 : decode cX10_send 82 = .ok (.iadd, 1) := by decide +kernel
theorem dX10_send_83 : decode cX10_send 83 = .ok (.baload, 1) := by decide +kernel
theorem dX10_send_84 : decode cX10_send 84 = .ok (.bastore, 1) := by decide +kernel
theorem dX10_send_85 : decode cX10_send 85 = .ok (.iinc 3 1, 3) := by decide +kernel
theorem dX10_send_88 : decode cX10_send 88 = .ok (.goto (-22), 3) := by decide +kernel
theorem dX10_send_91 : decode cX10_send 91 = .ok (.aload_n 0, 1) := by decide +kernel
theorem dX10_send_92 : decode cX10_send 92 = .ok (.getfield 243, 3) := by decide +kernel
theorem dX10_send_95 : decode cX10_send 95 = .ok (.iconst 0, 1) := by decide +kernel
theorem dX10_send_96 : decode cX10_send 96 = .ok (.iaload, 1) := by decide +kernel
theorem dX10_send_97 : decode cX10_send 97 = .ok (.iconst 2, 1) := by decide +kernel
theorem dX10_send_98 : decode cX10_send 98 = .ok (.iand, 1) := by decide +kernel
theorem dX10_send_99 : decode cX10_send 99 = .ok (.ifCond .le 11, 3) := by decide +kernel
theorem dX10_send_102 : decode cX10_send 102 = .ok (.iload_n 2, 1) := by decide +kernel
theorem dX10_send_103 : decode cX10_send 103 = .ok (.ifCond .le 7, 3) := by decide +kernel
theorem dX10_send_106 : decode cX10_send 106 = .ok (.iconst 1, 1) := by decide +kernel
theorem dX10_send_107 : decode cX10_send 107 = .ok (.goto 4, 3) := by decide +kernel
theorem dX10_send_110 : decode cX10_send 110 = .ok (.iconst 0, 1) := by decide +kernel
theorem dX10_send_111 : decode cX10_send 111 = .ok (.istore_n 3, 1) := by decide +kernel
theorem dX10_send_112 : decode cX10_send 112 = .ok (.aload_n 0, 1) := by decide +kernel
theorem dX10_send_113 : decode cX10_send 113 = .ok (.getfield 231, 3) := by decide +kernel
theorem dX10_send_116 : decode cX10_send 116 = .ok (.iconst 0, 1) := by decide +kernel
theorem dX10_send_117 : decode cX10_send 117 = .ok (.iaload, 1) := by decide +kernel
theorem dX10_send_118 : decode cX10_send 118 = .ok (.iconst 2, 1) := by decide +kernel
theorem dX10_send_119 : decode cX10_send 119 = .ok (.if_icmp .ne 20, 3) := by decide +kernel
theorem dX10_send_122 : decode cX10_send 122 = .ok (.aload_n 0, 1) := by decide +kernel
theorem dX10_send_123 : decode cX10_send 123 = .ok (.iconst 0, 1) := by decide +kernel
theorem dX10_send_124 : decode cX10_send 124 = .ok (.aload_n 0, 1) := by decide +kernel
theorem dX10_send_125 : decode cX10_send 125 = .ok (.getfield 219, 3) := by decide +kernel
theorem dX10_send_128 : decode cX10_send 128 = .ok (.iconst 0, 1) := by decide +kernel
theorem dX10_send_129 : decode cX10_send 129 = .ok (.aload_n 0, 1) := by decide +kernel
theorem dX10_send_130 : decode cX10_send 130 = .ok (.getfield 219, 3) := by decide +kernel
theorem dX10_send_133 : decode cX10_send 133 = .ok (.iconst 4, 1) := by decide +kernel
theorem dX10_send_134 : decode cX10_send 134 = .ok (.iload_n 2, 1) := by decide +kernel
theorem dX10_send_135 : decode cX10_send 135 = .ok (.iconst 0, 1) := by decide +kernel
theorem dX10_send_136 : decode cX10_send 136 = .ok (.invokevirtual 360, 3) := by decide +kernel
theorem dX10_send_139 : decode cX10_send 139 = .ok (.iload_n 3, 1) := by decide +kernel
theorem dX10_send_140 : decode cX10_send 140 = .ok (.ifCond .eq 11, 3) := by decide +kernel
theorem dX10_send_143 : decode cX10_send 143 = .ok (.aload_n 0, 1) := by decide +kernel
theorem dX10_send_144 : decode cX10_send 144 = .ok (.iconst 0, 1) := by decide +kernel
theorem dX10_send_145 : decode cX10_send 145 = .ok (.iload_n 2, 1) := by decide +kernel
theorem dX10_send_146 : decode cX10_send 146 = .ok (.iconst 0, 1) := by decide +kernel
theorem dX10_send_147 : decode cX10_send 147 = .ok (.invokevirtual 381, 3) := by decide +kernel
theorem dX10_send_150 : decode cX10_send 150 = .ok (.istore_n 2, 1) := by decide +kernel
theorem dX10_send_151 : decode cX10_send 151 = .ok (.aload_n 0, 1) := by decide +kernel
theorem dX10_send_152 : decode cX10_send 152 = .ok (.getfield 231, 3) := by decide +kernel
theorem dX10_send_155 : decode cX10_send 155 = .ok (.iconst 0, 1) := by decide +kernel
theorem dX10_send_156 : decode cX10_send 156 = .ok (.iaload, 1) := by decide +kernel
theorem dX10_send_157 : decode cX10_send 157 = .ok (.iconst 3, 1) := by decide +kernel
theorem dX10_send_158 : decode cX10_send 158 = .ok (.if_icmp .ne 20, 3) := by decide +kernel
theorem dX10_send_161 : decode cX10_send 161 = .ok (.aload_n 0, 1) := by decide +kernel
theorem dX10_send_162 : decode cX10_send 162 = .ok (.iconst 0, 1) := by decide +kernel
theorem dX10_send_163 : decode cX10_send 163 = .ok (.aload_n 0, 1) := by decide +kernel
theorem dX10_send_164 : decode cX10_send 164 = .ok (.getfield 219, 3) := by decide +kernel
theorem dX10_send_167 : decode cX10_send 167 = .ok (.iconst 0, 1) := by decide +kernel
theorem dX10_send_168 : decode cX10_send 168 = .ok (.aload_n 0, 1) := by decide +kernel
theorem dX10_send_169 : decode cX10_send 169 = .ok (.getfield 286, 3) := by decide +kernel
theorem dX10_send_172 : decode cX10_send 172 = .ok (.iconst 0, 1) := by decide +kernel
theorem dX10_send_173 : decode cX10_send 173 = .ok (.iload_n 2, 1) := by decide +kernel
theorem dX10_send_174 : decode cX10_send 174 = .ok (.iconst 0, 1) := by decide +kernel
theorem dX10_send_175 : decode cX10_send 175 = .ok (.invokevirtual 360, 3) := by decide +kernel
theorem dX10_send_178 : decode cX10_send 178 = .ok (.aload_n 0, 1) := by decide +kernel
theorem dX10_send_179 : decode cX10_send 179 = .ok (.getfield 225, 3) := by decide +kernel
theorem dX10_send_182 : decode cX10_send 182 = .ok (.iconst 0, 1) := by decide +kernel
theorem dX10_send_183 : decode cX10_send 183 = .ok (.aload_n 0, 1) := by decide +kernel
theorem dX10_send_184 : decode cX10_send 184 = .ok (.getfield 219, 3) := by decide +kernel
theorem dX10_send_187 : decode cX10_send 187 = .ok (.iconst 0, 1) := by decide +kernel
theorem dX10_send_188 : decode cX10_send 188 = .ok (.baload, 1) := by decide +kernel
theorem dX10_send_189 : decode cX10_send 189 = .ok (.iconst 4, 1) := by decide +kernel
theorem dX10_send_190 : decode cX10_send 190 = .ok (.ior, 1) := by decide +kernel
theorem dX10_send_191 : decode cX10_send 191 = .ok (.i2b, 1) := by decide +kernel
theorem dX10_send_192 : decode cX10_send 192 = .ok (.bastore, 1) := by decide +kernel
theorem dX10_send_193 : decode cX10_send 193 = .ok (.iconst 1, 1) := by decide +kernel
theorem dX10_send_194 : decode cX10_send 194 = .ok (.istore 4, 2) := by decide +kernel
theorem dX10_send_196 : decode cX10_send 196 = .ok (.iload 4, 2) := by decide +kernel
theorem dX10_send_198 : decode cX10_send 198 = .ok (.iconst 4, 1) := by decide +kernel
theorem dX10_send_199 : decode cX10_send 199 = .ok (.if_icmp .ge 23, 3) := by decide +kernel
theorem dX10_send_202 : decode cX10_send 202 = .ok (.aload_n 0, 1) := by decide +kernel
theorem dX10_send_203 : decode cX10_send 203 = .ok (.getfield 225, 3) := by decide +kernel
theorem dX10_send_206 : decode cX10_send 206 = .ok (.iload 4, 2) := by decide +kernel
theorem dX10_send_208 : decode cX10_send 208 = .ok (.aload_n 0, 1) := by decide +kernel
theorem dX10_send_209 : decode cX10_send 209 = .ok (.getfield 219, 3) := by decide +kernel
theorem dX10_send_212 : decode cX10_send 212 = .ok (.iload 4, 2) := by decide +kernel
theorem dX10_send_214 : decode cX10_send 214 = .ok (.baload, 1) := by decide +kernel
theorem dX10_send_215 : decode cX10_send 215 = .ok (.bastore, 1) := by decide +kernel
theorem dX10_send_216 : decode cX10_send 216 = .ok (.iinc 4 1, 3) := by decide +kernel
theorem dX10_send_219 : decode cX10_send 219 = .ok (.goto (-23), 3) := by decide +kernel
theorem dX10_send_222 : decode cX10_send 222 = .ok (.iconst 0, 1) := by decide +kernel
theorem dX10_send_223 : decode cX10_send 223 = .ok (.istore 4, 2) := by decide +kernel
theorem dX10_send_225 : decode cX10_send 225 = .ok (.iload 4, 2) := by decide +kernel
theorem dX10_send_227 : decode cX10_send 227 = .ok (.iload_n 2, 1) := by decide +kernel
theorem dX10_send_228 : decode cX10_send 228 = .ok (.if_icmp .ge 25, 3) := by decide +kernel
theorem dX10_send_231 : decode cX10_send 231 = .ok (.aload_n 0, 1) := by decide +kernel
theorem dX10_send_232 : decode cX10_send 232 = .ok (.getfield 225, 3) := by decide +kernel
theorem dX10_send_235 : decode cX10_send 235 = .ok (.iconst 4, 1) := by decide +kernel
theorem dX10_send_236 : decode cX10_send 236 = .ok (.iload 4, 2) := by decide +kernel
theorem dX10_send_238 : decode cX10_send 238 = .ok (.iadd, 1) := by decide +kernel
theorem dX10_send_239 : decode cX10_send 239 = .ok (.aload_n 0, 1) := by decide +kernel
theorem dX10_send_240 : decode cX10_send 240 = .ok (.getfield 286, 3) := by decide +kernel
theorem dX10_send_243 : decode cX10_send 243 = .ok (.iload 4, 2) := by decide +kernel
theorem dX10_send_245 : decode cX10_send 245 = .ok (.baload, 1) := by decide +kernel
theorem dX10_send_246 : decode cX10_send 246 = .ok (.bastore, 1) := by decide +kernel
theorem dX10_send_247 : decode cX10_send 247 = .ok (.iinc 4 1, 3) := by decide +kernel
theorem dX10_send_250 : decode cX10_send 250 = .ok (.goto (-25), 3) := by decide +kernel
theorem dX10_send_253 : decode cX10_send 253 = .ok (.iconst 0, 1) := by decide +kernel
theorem dX10_send_254 : decode cX10_send 254 = .ok (.istore 4, 2) := by decide +kernel
theorem dX10_send_256 : decode cX10_send 256 = .ok (.iload 4, 2) := by decide +kernel
theorem dX10_send_258 : decode cX10_send 258 = .ok (.bipush 8, 2) := by decide +kernel
theorem dX10_send_260 : decode cX10_send 260 = .ok (.if_icmp .ge 27, 3) := by decide +kernel
theorem dX10_send_263 : decode cX10_send 263 = .ok (.aload_n 0, 1) := by decide +kernel
theorem dX10_send_264 : decode cX10_send 264 = .ok (.getfield 225, 3) := by decide +kernel
theorem dX10_send_267 : decode cX10_send 267 = .ok (.iconst 4, 1) := by decide +kernel
theorem dX10_send_268 : decode cX10_send 268 = .ok (.iload_n 2, 1) := by decide +kernel
theorem dX10_send_269 : decode cX10_send 269 = .ok (.iadd, 1) := by decide +kernel
theorem dX10_send_270 : decode cX10_send 270 = .ok (.iload 4, 2) := by decide +kernel
theorem dX10_send_272 : decode cX10_send 272 = .ok (.iadd, 1) := by decide +kernel
theorem dX10_send_273 : decode cX10_send 273 = .ok (.aload_n 0, 1) := by decide +kernel
theorem dX10_send_274 : decode cX10_send 274 = .ok (.getfield 289, 3) := by decide +kernel
theorem dX10_send_277 : decode cX10_send 277 = .ok (.iload 4, 2) := by decide +kernel
theorem dX10_send_279 : decode cX10_send 279 = .ok (.baload, 1) := by decide +kernel
theorem dX10_send_280 : decode cX10_send 280 = .ok (.bastore, 1) := by decide +kernel
theorem dX10_send_281 : decode cX10_send 281 = .ok (.iinc 4 1, 3) := by decide +kernel
theorem dX10_send_284 : decode cX10_send 284 = .ok (.goto (-28), 3) := by decide +kernel
theorem dX10_send_287 : decode cX10_send 287 = .ok (.aload_n 0, 1) := by decide +kernel
theorem dX10_send_288 : decode cX10_send 288 = .ok (.iconst 4, 1) := by decide +kernel
theorem dX10_send_289 : decode cX10_send 289 = .ok (.iload_n 2, 1) := by decide +kernel
theorem dX10_send_290 : decode cX10_send 290 = .ok (.iadd, 1) := by decide +kernel
theorem dX10_send_291 : decode cX10_send 291 = .ok (.bipush 8, 2) := by decide +kernel
theorem dX10_send_293 : decode cX10_send 293 = .ok (.iadd, 1) := by decide +kernel
theorem dX10_send_294 : decode cX10_send 294 = .ok (.putfield 307, 3) := by decide +kernel
theorem dX10_send_297 : decode cX10_send 297 = .ok (.aload_n 0, 1) := by decide +kernel
theorem dX10_send_298 : decode cX10_send 298 = .ok (.getfield 307, 3) := by decide +kernel
theorem dX10_send_301 : decode cX10_send 301 = .ok (.ireturn, 1) := by decide +kernel
set_option maxHeartbeats 4000000 in
set_option maxRecDepth 100000 in
theorem ct_X10_send_no (ll : Launch) (D : va_G) (ta : Nat → ClassId) {G : (Nat → Prop) → State → Heap → Prop} (hGok : GOK G) (h0 : Nat) (a : Nat → Nat) (ar : Nat) (mn : Nat) (tp : Nat) (osz : Nat) (lsz : Nat) (ns : Nat) (ct : Nat) (se : Nat → Nat) (lv : Nat → Nat) (htp : tp ≤ 400) (hse : se 0 ≤ 2) (hlv : lv 0 < 256) (hno : ¬ ((se 0 = 2 ∧ lv 0 &&& 1 ≠ 0) ∧ 4 ≤ tp ∧ tp ≤ 204)) (sz : Nat) : CT ll yX10_send cX10_send 5 (some .int) ({ frames := 6, cells := 0, slots := 0, locals := 154 } : Room) D ta G [.ref h0] [(h0, oM a ar mn tp osz lsz ns ct), (a 39, aK ta 2 se), (a 40, aK ta 2 lv)] sz (S := Int32) (fun u => some (.int u)) (fun u => ((u : Int32) = -1)) (fun u => [(h0, oM a ar mn 0 osz lsz ns ct), (a 39, aK ta 2 se), (a 40, aK ta 2 lv)]) 0 0 := by
  refine CT.of_i (r := fun u => u) rfl (by decide) (Nat.le_of_ble_eq_true rfl) ?_
  intro pp ee ss mm below meth kc A Q hx hb hml hown hin hts hK hA hsz hG hret H locs hP hD hS ls hl
  have hl : lv_has ls 5 [(0, .ref h0)] := hl
  refine lv_aload_n (pc := 0) hx hb dX10_send_0 rfl (lv_at hl 0 rfl) ?_
  refine cs_V (pc := 1) (idx := 310) (n := 0) (wr := [(a 39, aK ta 2 se), (a 40, aK ta 2 lv)]) (As := []) (rest := []) (ci := 8) hx hb hml hown hts hGok hK hA hG hl.1 hP hD hS (ct_X10_use ll D ta hGok h0 a ar mn tp osz lsz ns ct  H.size) tw_1254 tw_1251 tw_1253 tw_28 tw_75 hdX10_use rfl ⟨rfl, rfl, Nat.le_of_ble_eq_true rfl, Nat.le_of_ble_eq_true rfl, Nat.le_of_ble_eq_true rfl, Nat.le_of_ble_eq_true rfl⟩ rfl rfl (q0 := 0) rfl [0] [1, 2] rfl rfl (by decide) rfl (Nat.le_of_ble_eq_true rfl) dX10_send_1 (fun u H locs hq hP hD hS => ?_)
  refine W.eq (g2 := F0 mm 4 ls [.int (nI tp)]) rfl ?_
  have hP : va_P D vwCl [(a 39, aK ta 2 se), (a 40, aK ta 2 lv), (h0, oM a ar mn 0 osz lsz ns ct)] H := hP
  have hD : va_D A [(a 39, aK ta 2 se), (a 40, aK ta 2 lv), (h0, oM a ar mn 0 osz lsz ns ct)] := hD
  refine lv_istore_n (pc := 4) (lv' := [(1, .int (nI tp)), (0, .ref h0)]) hx hb dX10_send_4 rfl hl (by decide) rfl (fun ls hl => ?_)
  have hlm1 : lv 0 &&& 1 ≤ 1 := Nat.and_le_right
  have hlm2 : lv 0 &&& 2 ≤ 2 := Nat.and_le_right
  refine lv_aload_n (pc := 5) hx hb dX10_send_5 rfl (lv_at hl 1 rfl) ?_
  refine va_get (pc := 6) (D := D) (ci := 8) (v := .ref (a 39)) (C := RX10) (T := TX10) (N := 57) hx hb hts iu10 hown hK hP 2 rfl rfl 39 (by decide) (hts _ tw_1084) (fun _ h9 => h9) rfl dX10_send_6 ?_
  refine lv_iconst (pc := 9) (v := nI 0) hx hb dX10_send_9 (by decide +kernel) ?_
  refine q_iald (pc := 10) hx hb hK hP 0 0 rfl rfl (k := 0) (v := nI (se 0)) rfl (by omega) (by omega) rfl dX10_send_10 ?_
  refine lv_iconst (pc := 11) (v := nI 2) hx hb dX10_send_11 (by decide +kernel) ?_
  refine lv_icmp_ne (pc := 12) (tgt := 38) hx hb dX10_send_12 (by decide) (fun c_1 => ?_) (fun c_1 => ?_)
  · skip
    rw [nI_eq (by omega) (by omega)] at c_1
    refine lv_iconst (pc := 38) (v := (-1)) hx hb dX10_send_38 (by decide +kernel) ?_
    refine q_top (y := (-1)) (by first | rfl | decide +kernel | (simp; done)) ?_
    have hq_2 : (((-1) : Int32) = -1) := by
      first | rfl | trivial | (refine ⟨?_, ?_⟩ <;> rfl) | (simp; done) | omega
    exact hret (-1) _ _ _ _ dX10_send_39 hq_2 (hP.sub [2, 0, 1] rfl) (hD.sub [2, 0, 1] (by decide) rfl) hS
  · skip
    rw [nI_eq (by omega) (by omega)] at c_1
    refine lv_aload_n (pc := 15) hx hb dX10_send_15 rfl (lv_at hl 1 rfl) ?_
    refine va_get (pc := 16) (D := D) (ci := 8) (v := .ref (a 40)) (C := RX10) (T := TX10) (N := 57) hx hb hts iu10 hown hK hP 2 rfl rfl 40 (by decide) (hts _ tw_1085) (fun _ h9 => h9) rfl dX10_send_16 ?_
    refine lv_iconst (pc := 19) (v := nI 0) hx hb dX10_send_19 (by decide +kernel) ?_
    refine q_iald (pc := 20) hx hb hK hP 1 0 rfl rfl (k := 0) (v := nI (lv 0)) rfl (by omega) (by omega) rfl dX10_send_20 ?_
    refine lv_iconst (pc := 21) (v := nI 1) hx hb dX10_send_21 (by decide +kernel) ?_
    refine lv_iand (pc := 22) hx hb dX10_send_22 ?_
    refine q_top (y := nI (lv 0 &&& 1)) (nI_and (by omega) (by omega)) ?_
    refine lv_if_eq (pc := 23) (tgt := 38) hx hb dX10_send_23 (by decide) (fun c_3 => ?_) (fun c_3 => ?_)
    · skip
      rw [q_eq0 (by omega)] at c_3
      refine lv_iconst (pc := 38) (v := (-1)) hx hb dX10_send_38 (by decide +kernel) ?_
      refine q_top (y := (-1)) (by first | rfl | decide +kernel | (simp; done)) ?_
      have hq_4 : (((-1) : Int32) = -1) := by
        first | rfl | trivial | (refine ⟨?_, ?_⟩ <;> rfl) | (simp; done) | omega
      exact hret (-1) _ _ _ _ dX10_send_39 hq_4 (hP.sub [2, 0, 1] rfl) (hD.sub [2, 0, 1] (by decide) rfl) hS
    · skip
      rw [q_eq0 (by omega)] at c_3
      refine lv_iload_n (pc := 26) hx hb dX10_send_26 rfl (lv_at hl 0 rfl) ?_
      refine lv_iconst (pc := 27) (v := nI 4) hx hb dX10_send_27 (by decide +kernel) ?_
      refine lv_icmp_lt (pc := 28) (tgt := 38) hx hb dX10_send_28 (by decide) (fun c_5 => ?_) (fun c_5 => ?_)
      · skip
        rw [nI_ltI (by omega) (by omega)] at c_5
        refine lv_iconst (pc := 38) (v := (-1)) hx hb dX10_send_38 (by decide +kernel) ?_
        refine q_top (y := (-1)) (by first | rfl | decide +kernel | (simp; done)) ?_
        have hq_6 : (((-1) : Int32) = -1) := by
          first | rfl | trivial | (refine ⟨?_, ?_⟩ <;> rfl) | (simp; done) | omega
        exact hret (-1) _ _ _ _ dX10_send_39 hq_6 (hP.sub [2, 0, 1] rfl) (hD.sub [2, 0, 1] (by decide) rfl) hS
      · skip
        rw [nI_ltI (by omega) (by omega)] at c_5
        refine lv_iload_n (pc := 31) hx hb dX10_send_31 rfl (lv_at hl 0 rfl) ?_
        refine lv_sipush (pc := 32) (v := nI 204) hx hb dX10_send_32 (by decide +kernel) ?_
        refine lv_icmp_le (pc := 35) (tgt := 40) hx hb dX10_send_35 (by decide) (fun c_7 => ?_) (fun c_7 => ?_)
        · skip
          rw [nI_leI (by omega) (by omega)] at c_7
          exact absurd ⟨⟨by omega, by omega⟩, by omega, by omega⟩ hno
        · skip
          rw [nI_leI (by omega) (by omega)] at c_7
          refine lv_iconst (pc := 38) (v := (-1)) hx hb dX10_send_38 (by decide +kernel) ?_
          refine q_top (y := (-1)) (by first | rfl | decide +kernel | (simp; done)) ?_
          have hq_8 : (((-1) : Int32) = -1) := by
            first | rfl | trivial | (refine ⟨?_, ?_⟩ <;> rfl) | (simp; done) | omega
          exact hret (-1) _ _ _ _ dX10_send_39 hq_8 (hP.sub [2, 0, 1] rfl) (hD.sub [2, 0, 1] (by decide) rfl) hS
set_option maxHeartbeats 4000000 in
set_option maxRecDepth 100000 in
theorem ct_X10_send_2 (ll : Launch) (D : va_G) (ta : Nat → ClassId) {G : (Nat → Prop) → State → Heap → Prop} (hGok : GOK G) (h0 : Nat) (a : Nat → Nat) (ar : Nat) (mn : Nat) (tp : Nat) (osz : Nat) (lsz : Nat) (ns : Nat) (ct : Nat) (bi : Nat → Bool) (tu : Nat → Bool) (cd : Nat → Bool) (sk : Nat → Bool) (hf : Nat → Bool) (wd : Nat → Bool) (gm : Nat → BitVec 8) (mac : Nat → BitVec 8) (gbl : Nat → BitVec 8) (gco : Nat → BitVec 8) (gch : Nat → BitVec 8) (gke : Nat → BitVec 8) (gli : Nat → BitVec 8) (gcm : Nat → BitVec 8) (gwk : Nat → BitVec 8) (gtp : Nat → BitVec 8) (ru : Nat → Nat) (le : Nat → Nat) (se : Nat → Nat) (lv : Nat → Nat) (cn : Nat → Nat) (ha : Nat → Bool) (cs : Nat → Nat) (htp : 4 ≤ tp ∧ tp ≤ 204) (hse : se 0 = 2) (hlv : lv 0 < 256) (hl1 : lv 0 &&& 1 ≠ 0) (hru : ru 0 = 2) (hcn9 : cn 0 + 1 < 2147483648) (sz : Nat) : CT ll yX10_send cX10_send 5 (some .int) ({ frames := 6, cells := 0, slots := 0, locals := 154 } : Room) D ta G [.ref h0] [(h0, oM a ar mn tp osz lsz ns ct), (a 0, aK ta 64 tIP), (a 1, aK ta 48 tSPR), (a 2, aK ta 32 tMIX), (a 3, aK ta 56 tCH), (a 4, aK ta 48 tSEC), (a 5, aK ta 512 tSBX), (a 10, aB ta 64 bi), (a 11, aB ta 64 tu), (a 12, aB ta 56 cd), (a 13, aB ta 768 sk), (a 14, aB ta 32 hf), (a 15, aB ta 48 wd), (a 22, aS ta 700 gm), (a 24, aS ta 16 mac), (a 53, aS ta 16 gbl), (a 55, aS ta 16 gco), (a 45, aS ta 32 gch), (a 41, aS ta 256 gke), (a 36, aK ta 2 ru), (a 37, aK ta 2 le), (a 31, aS ta 300 gli), (a 39, aK ta 2 se), (a 40, aK ta 2 lv), (a 47, aK ta 2 cn), (a 48, aT ta 2 ha), (a 50, aK ta 2 cs), (a 49, aS ta 408 gcm), (a 54, aS ta 300 gwk), (a 27, aS ta 400 gtp)] sz (S := (Nat → Bool) × (Nat → Bool) × (Nat → Bool) × (Nat → Bool) × (Nat → Bool) × (Nat → Bool) × (Nat → BitVec 8) × (Nat → BitVec 8) × (Nat → BitVec 8) × (Nat → BitVec 8) × (Nat → BitVec 8) × (Nat → BitVec 8) × (Nat → BitVec 8) × (Nat → BitVec 8) × (Nat → Nat) × (Nat → Bool) × (Nat → Nat) × Nat × Nat) (fun u => some (.int (nI u.2.2.2.2.2.2.2.2.2.2.2.2.2.2.2.2.2.2))) (fun u => (seg u.2.2.2.2.2.2.2.2.2.1 0 8 = chain2 (seg gke 32 16) (cn 0 + 1) (seg gch 0 8) (qL gtp tp)) ∧ (qL u.2.2.2.2.2.2.2.2.2.2.2.1 u.2.2.2.2.2.2.2.2.2.2.2.2.2.2.2.2.2.2 = putC (qL gtp tp) (secD2 (seg gke 0 16) (lv 0) (qL gtp tp)) (seg u.2.2.2.2.2.2.2.2.2.1 0 8)) ∧ (u.2.2.2.2.2.2.2.2.2.2.2.2.2.2.2.2.2.2 = (secD2 (seg gke 0 16) (lv 0) (qL gtp tp)).length + 12 ∧ u.2.2.2.2.2.2.2.2.2.2.2.2.2.2.2.2.2.2 ≤ 220) ∧ (seg u.2.2.2.2.2.2.2.2.2.2.1 0 16 = seg u.2.2.2.2.2.2.2.2.2.1 0 16) ∧ (∀ j, 16 ≤ j → u.2.2.2.2.2.2.2.2.2.2.1 j = gch j) ∧ (u.2.2.2.2.2.2.2.2.2.2.2.2.2.2.1 = qU cn 0 (cn 0 + 1)) ∧ (u.2.2.2.2.2.2.2.2.2.2.2.2.2.2.2.1 = qU ha 0 true) ∧ (u.2.2.2.2.2.2.2.2.2.2.2.2.2.2.2.2.1 = qU cs 0 tp) ∧ (seg u.2.2.2.2.2.2.2.2.2.2.2.2.1 0 tp = (qL gtp tp)) ∧ (∀ j, 204 ≤ j → u.2.2.2.2.2.2.2.2.2.2.2.2.1 j = gcm j)) (fun u => [(h0, oM a ar u.2.2.2.2.2.2.2.2.2.2.2.2.2.2.2.2.2.1 0 osz u.2.2.2.2.2.2.2.2.2.2.2.2.2.2.2.2.2.2 ns ct), (a 0, aK ta 64 tIP), (a 1, aK ta 48 tSPR), (a 2, aK ta 32 tMIX), (a 3, aK ta 56 tCH), (a 4, aK ta 48 tSEC), (a 5, aK ta 512 tSBX), (a 10, aB ta 64 u.1), (a 11, aB ta 64 u.2.1), (a 12, aB ta 56 u.2.2.1), (a 13, aB ta 768 u.2.2.2.1), (a 14, aB ta 32 u.2.2.2.2.1), (a 15, aB ta 48 u.2.2.2.2.2.1), (a 22, aS ta 700 u.2.2.2.2.2.2.1), (a 24, aS ta 16 u.2.2.2.2.2.2.2.1), (a 53, aS ta 16 u.2.2.2.2.2.2.2.2.1), (a 55, aS ta 16 u.2.2.2.2.2.2.2.2.2.1), (a 45, aS ta 32 u.2.2.2.2.2.2.2.2.2.2.1), (a 41, aS ta 256 gke), (a 36, aK ta 2 ru), (a 37, aK ta 2 le), (a 31, aS ta 300 u.2.2.2.2.2.2.2.2.2.2.2.1), (a 39, aK ta 2 se), (a 40, aK ta 2 lv), (a 47, aK ta 2 u.2.2.2.2.2.2.2.2.2.2.2.2.2.2.1), (a 48, aT ta 2 u.2.2.2.2.2.2.2.2.2.2.2.2.2.2.2.1), (a 50, aK ta 2 u.2.2.2.2.2.2.2.2.2.2.2.2.2.2.2.2.1), (a 49, aS ta 408 u.2.2.2.2.2.2.2.2.2.2.2.2.1), (a 54, aS ta 300 u.2.2.2.2.2.2.2.2.2.2.2.2.2.1), (a 27, aS ta 400 gtp)]) 0 0 := by
  refine CT.of_i (r := fun u => nI u.2.2.2.2.2.2.2.2.2.2.2.2.2.2.2.2.2.2) rfl (by decide) (Nat.le_of_ble_eq_true rfl) ?_
  intro pp ee ss mm below meth kc A Q hx hb hml hown hin hts hK hA hsz hG hret H locs hP hD hS ls hl
  have hl : lv_has ls 5 [(0, .ref h0)] := hl
  refine lv_aload_n (pc := 0) hx hb dX10_send_0 rfl (lv_at hl 0 rfl) ?_
  refine cs_V (pc := 1) (idx := 310) (n := 0) (wr := [(a 0, aK ta 64 tIP), (a 1, aK ta 48 tSPR), (a 2, aK ta 32 tMIX), (a 3, aK ta 56 tCH), (a 4, aK ta 48 tSEC), (a 5, aK ta 512 tSBX), (a 10, aB ta 64 bi), (a 11, aB ta 64 tu), (a 12, aB ta 56 cd), (a 13, aB ta 768 sk), (a 14, aB ta 32 hf), (a 15, aB ta 48 wd), (a 22, aS ta 700 gm), (a 24, aS ta 16 mac), (a 53, aS ta 16 gbl), (a 55, aS ta 16 gco), (a 45, aS ta 32 gch), (a 41, aS ta 256 gke), (a 36, aK ta 2 ru), (a 37, aK ta 2 le), (a 31, aS ta 300 gli), (a 39, aK ta 2 se), (a 40, aK ta 2 lv), (a 47, aK ta 2 cn), (a 48, aT ta 2 ha), (a 50, aK ta 2 cs), (a 49, aS ta 408 gcm), (a 54, aS ta 300 gwk), (a 27, aS ta 400 gtp)]) (As := []) (rest := []) (ci := 8) hx hb hml hown hts hGok hK hA hG hl.1 hP hD hS (ct_X10_use ll D ta hGok h0 a ar mn tp osz lsz ns ct  H.size) tw_1254 tw_1251 tw_1253 tw_28 tw_75 hdX10_use rfl ⟨rfl, rfl, Nat.le_of_ble_eq_true rfl, Nat.le_of_ble_eq_true rfl, Nat.le_of_ble_eq_true rfl, Nat.le_of_ble_eq_true rfl⟩ rfl rfl (q0 := 0) rfl [0] [1, 2, 3, 4, 5, 6, 7, 8, 9, 10, 11, 12, 13, 14, 15, 16, 17, 18, 19, 20, 21, 22, 23, 24, 25, 26, 27, 28, 29] rfl rfl (by decide) rfl (Nat.le_of_ble_eq_true rfl) dX10_send_1 (fun u H locs hq hP hD hS => ?_)
  refine W.eq (g2 := F0 mm 4 ls [.int (nI tp)]) rfl ?_
  have hP : va_P D vwCl [(a 0, aK ta 64 tIP), (a 1, aK ta 48 tSPR), (a 2, aK ta 32 tMIX), (a 3, aK ta 56 tCH), (a 4, aK ta 48 tSEC), (a 5, aK ta 512 tSBX), (a 10, aB ta 64 bi), (a 11, aB ta 64 tu), (a 12, aB ta 56 cd), (a 13, aB ta 768 sk), (a 14, aB ta 32 hf), (a 15, aB ta 48 wd), (a 22, aS ta 700 gm), (a 24, aS ta 16 mac), (a 53, aS ta 16 gbl), (a 55, aS ta 16 gco), (a 45, aS ta 32 gch), (a 41, aS ta 256 gke), (a 36, aK ta 2 ru), (a 37, aK ta 2 le), (a 31, aS ta 300 gli), (a 39, aK ta 2 se), (a 40, aK ta 2 lv), (a 47, aK ta 2 cn), (a 48, aT ta 2 ha), (a 50, aK ta 2 cs), (a 49, aS ta 408 gcm), (a 54, aS ta 300 gwk), (a 27, aS ta 400 gtp), (h0, oM a ar mn 0 osz lsz ns ct)] H := hP
  have hD : va_D A [(a 0, aK ta 64 tIP), (a 1, aK ta 48 tSPR), (a 2, aK ta 32 tMIX), (a 3, aK ta 56 tCH), (a 4, aK ta 48 tSEC), (a 5, aK ta 512 tSBX), (a 10, aB ta 64 bi), (a 11, aB ta 64 tu), (a 12, aB ta 56 cd), (a 13, aB ta 768 sk), (a 14, aB ta 32 hf), (a 15, aB ta 48 wd), (a 22, aS ta 700 gm), (a 24, aS ta 16 mac), (a 53, aS ta 16 gbl), (a 55, aS ta 16 gco), (a 45, aS ta 32 gch), (a 41, aS ta 256 gke), (a 36, aK ta 2 ru), (a 37, aK ta 2 le), (a 31, aS ta 300 gli), (a 39, aK ta 2 se), (a 40, aK ta 2 lv), (a 47, aK ta 2 cn), (a 48, aT ta 2 ha), (a 50, aK ta 2 cs), (a 49, aS ta 408 gcm), (a 54, aS ta 300 gwk), (a 27, aS ta 400 gtp), (h0, oM a ar mn 0 osz lsz ns ct)] := hD
  refine lv_istore_n (pc := 4) (lv' := [(1, .int (nI tp)), (0, .ref h0)]) hx hb dX10_send_4 rfl hl (by decide) rfl (fun ls hl => ?_)
  have hlm1 : lv 0 &&& 1 ≤ 1 := Nat.and_le_right
  have hlm2 : lv 0 &&& 2 ≤ 2 := Nat.and_le_right
  refine lv_aload_n (pc := 5) hx hb dX10_send_5 rfl (lv_at hl 1 rfl) ?_
  refine va_get (pc := 6) (D := D) (ci := 8) (v := .ref (a 39)) (C := RX10) (T := TX10) (N := 57) hx hb hts iu10 hown hK hP 29 rfl rfl 39 (by decide) (hts _ tw_1084) (fun _ h9 => h9) rfl dX10_send_6 ?_
  refine lv_iconst (pc := 9) (v := nI 0) hx hb dX10_send_9 (by decide +kernel) ?_
  refine q_iald (pc := 10) hx hb hK hP 21 0 rfl rfl (k := 0) (v := nI (se 0)) rfl (by omega) (by omega) rfl dX10_send_10 ?_
  refine lv_iconst (pc := 11) (v := nI 2) hx hb dX10_send_11 (by decide +kernel) ?_
  refine lv_icmp_ne (pc := 12) (tgt := 38) hx hb dX10_send_12 (by decide) (fun c_1 => ?_) (fun c_1 => ?_)
  · skip
    rw [nI_eq (by omega) (by omega)] at c_1
    exfalso; omega
  · skip
    rw [nI_eq (by omega) (by omega)] at c_1
    refine lv_aload_n (pc := 15) hx hb dX10_send_15 rfl (lv_at hl 1 rfl) ?_
    refine va_get (pc := 16) (D := D) (ci := 8) (v := .ref (a 40)) (C := RX10) (T := TX10) (N := 57) hx hb hts iu10 hown hK hP 29 rfl rfl 40 (by decide) (hts _ tw_1085) (fun _ h9 => h9) rfl dX10_send_16 ?_
    refine lv_iconst (pc := 19) (v := nI 0) hx hb dX10_send_19 (by decide +kernel) ?_
    refine q_iald (pc := 20) hx hb hK hP 22 0 rfl rfl (k := 0) (v := nI (lv 0)) rfl (by omega) (by omega) rfl dX10_send_20 ?_
    refine lv_iconst (pc := 21) (v := nI 1) hx hb dX10_send_21 (by decide +kernel) ?_
    refine lv_iand (pc := 22) hx hb dX10_send_22 ?_
    refine q_top (y := nI (lv 0 &&& 1)) (nI_and (by omega) (by omega)) ?_
    refine lv_if_eq (pc := 23) (tgt := 38) hx hb dX10_send_23 (by decide) (fun c_2 => ?_) (fun c_2 => ?_)
    · skip
      rw [q_eq0 (by omega)] at c_2
      exfalso; omega
    · skip
      rw [q_eq0 (by omega)] at c_2
      refine lv_iload_n (pc := 26) hx hb dX10_send_26 rfl (lv_at hl 0 rfl) ?_
      refine lv_iconst (pc := 27) (v := nI 4) hx hb dX10_send_27 (by decide +kernel) ?_
      refine lv_icmp_lt (pc := 28) (tgt := 38) hx hb dX10_send_28 (by decide) (fun c_3 => ?_) (fun c_3 => ?_)
      · skip
        rw [nI_ltI (by omega) (by omega)] at c_3
        exfalso; omega
      · skip
        rw [nI_ltI (by omega) (by omega)] at c_3
        refine lv_iload_n (pc := 31) hx hb dX10_send_31 rfl (lv_at hl 0 rfl) ?_
        refine lv_sipush (pc := 32) (v := nI 204) hx hb dX10_send_32 (by decide +kernel) ?_
        refine lv_icmp_le (pc := 35) (tgt := 40) hx hb dX10_send_35 (by decide) (fun c_4 => ?_) (fun c_4 => ?_)
        · skip
          rw [nI_leI (by omega) (by omega)] at c_4
          refine lv_aload_n (pc := 40) hx hb dX10_send_40 rfl (lv_at hl 1 rfl) ?_
          refine lv_iconst (pc := 41) (v := nI 0) hx hb dX10_send_41 (by decide +kernel) ?_
          refine lv_aload_n (pc := 42) hx hb dX10_send_42 rfl (lv_at hl 1 rfl) ?_
          refine va_get (pc := 43) (D := D) (ci := 8) (v := .ref (a 27)) (C := RX10) (T := TX10) (N := 57) hx hb hts iu10 hown hK hP 29 rfl rfl 27 (by decide) (hts _ tw_1072) (fun _ h9 => h9) rfl dX10_send_43 ?_
          refine lv_iload_n (pc := 46) hx hb dX10_send_46 rfl (lv_at hl 0 rfl) ?_
          refine cs_V (pc := 47) (idx := 377) (n := 3) (wr := [(a 0, aK ta 64 tIP), (a 1, aK ta 48 tSPR), (a 2, aK ta 32 tMIX), (a 3, aK ta 56 tCH), (a 4, aK ta 48 tSEC), (a 5, aK ta 512 tSBX), (a 10, aB ta 64 bi), (a 11, aB ta 64 tu), (a 12, aB ta 56 cd), (a 13, aB ta 768 sk), (a 14, aB ta 32 hf), (a 15, aB ta 48 wd), (a 22, aS ta 700 gm), (a 24, aS ta 16 mac), (a 53, aS ta 16 gbl), (a 55, aS ta 16 gco), (a 45, aS ta 32 gch), (a 41, aS ta 256 gke), (a 36, aK ta 2 ru), (a 37, aK ta 2 le), (a 31, aS ta 300 gli), (a 39, aK ta 2 se), (a 40, aK ta 2 lv), (a 47, aK ta 2 cn), (a 54, aS ta 300 gwk)]) (As := [.int (nI 0), .ref (a 27), .int (nI tp)]) (rest := []) (ci := 8) hx hb hml hown hts hGok hK hA hG hl.1 hP hD hS (ct_X10_keepCommand ll D ta hGok h0 a ar mn 0 osz lsz ns ct ha cs gcm 0 (a 27) 400 gtp tp (by first | assumption | omega | rfl | decide) (by first | assumption | omega | rfl | decide) H.size) tw_1384 tw_1381 tw_1383 tw_52 tw_75 hdX10_keepCommand rfl ⟨rfl, rfl, Nat.le_of_ble_eq_true rfl, Nat.le_of_ble_eq_true rfl, Nat.le_of_ble_eq_true rfl, Nat.le_of_ble_eq_true rfl⟩ rfl rfl (q0 := 29) rfl [29, 24, 25, 26, 28] [0, 1, 2, 3, 4, 5, 6, 7, 8, 9, 10, 11, 12, 13, 14, 15, 16, 17, 18, 19, 20, 21, 22, 23, 27] rfl rfl (by decide) rfl (Nat.le_of_ble_eq_true rfl) dX10_send_47 (fun u H locs hq hP hD hS => ?_)
          obtain ⟨ha1_47, cs1_47, gcm1_47⟩ := u
          have hq : (ha1_47 = qU ha 0 true) ∧ (cs1_47 = qU cs 0 tp) ∧ (seg gcm1_47 (204 * 0) tp = qL gtp tp) ∧ (∀ jz, (jz < 204 * 0 ∨ 204 * 0 + 204 ≤ jz) → gcm1_47 jz = gcm jz) := hq
          obtain ⟨hha_47, hcs_47, hs_47, hfr_47⟩ := hq
          refine W.eq (g2 := F0 mm 50 ls []) rfl ?_
          have hP : va_P D vwCl [(a 0, aK ta 64 tIP), (a 1, aK ta 48 tSPR), (a 2, aK ta 32 tMIX), (a 3, aK ta 56 tCH), (a 4, aK ta 48 tSEC), (a 5, aK ta 512 tSBX), (a 10, aB ta 64 bi), (a 11, aB ta 64 tu), (a 12, aB ta 56 cd), (a 13, aB ta 768 sk), (a 14, aB ta 32 hf), (a 15, aB ta 48 wd), (a 22, aS ta 700 gm), (a 24, aS ta 16 mac), (a 53, aS ta 16 gbl), (a 55, aS ta 16 gco), (a 45, aS ta 32 gch), (a 41, aS ta 256 gke), (a 36, aK ta 2 ru), (a 37, aK ta 2 le), (a 31, aS ta 300 gli), (a 39, aK ta 2 se), (a 40, aK ta 2 lv), (a 47, aK ta 2 cn), (a 54, aS ta 300 gwk), (h0, oM a ar mn 0 osz lsz ns ct), (a 48, aT ta 2 ha1_47), (a 50, aK ta 2 cs1_47), (a 49, aS ta 408 gcm1_47), (a 27, aS ta 400 gtp)] H := hP
          have hD : va_D A [(a 0, aK ta 64 tIP), (a 1, aK ta 48 tSPR), (a 2, aK ta 32 tMIX), (a 3, aK ta 56 tCH), (a 4, aK ta 48 tSEC), (a 5, aK ta 512 tSBX), (a 10, aB ta 64 bi), (a 11, aB ta 64 tu), (a 12, aB ta 56 cd), (a 13, aB ta 768 sk), (a 14, aB ta 32 hf), (a 15, aB ta 48 wd), (a 22, aS ta 700 gm), (a 24, aS ta 16 mac), (a 53, aS ta 16 gbl), (a 55, aS ta 16 gco), (a 45, aS ta 32 gch), (a 41, aS ta 256 gke), (a 36, aK ta 2 ru), (a 37, aK ta 2 le), (a 31, aS ta 300 gli), (a 39, aK ta 2 se), (a 40, aK ta 2 lv), (a 47, aK ta 2 cn), (a 54, aS ta 300 gwk), (h0, oM a ar mn 0 osz lsz ns ct), (a 48, aT ta 2 ha1_47), (a 50, aK ta 2 cs1_47), (a 49, aS ta 408 gcm1_47), (a 27, aS ta 400 gtp)] := hD
          refine lv_aload_n (pc := 50) hx hb dX10_send_50 rfl (lv_at hl 1 rfl) ?_
          refine va_get (pc := 51) (D := D) (ci := 8) (v := .ref (a 47)) (C := RX10) (T := TX10) (N := 57) hx hb hts iu10 hown hK hP 25 rfl rfl 47 (by decide) (hts _ tw_1092) (fun _ h9 => h9) rfl dX10_send_51 ?_
          refine lv_iconst (pc := 54) (v := nI 0) hx hb dX10_send_54 (by decide +kernel) ?_
          refine lv_dup2_11 (pc := 55) hx hb dX10_send_55 rfl rfl ?_
          refine q_iald (pc := 56) hx hb hK hP 23 0 rfl rfl (k := 0) (v := nI (cn 0)) rfl (by omega) (by omega) rfl dX10_send_56 ?_
          refine lv_iconst (pc := 57) (v := nI 1) hx hb dX10_send_57 (by decide +kernel) ?_
          refine lv_iadd (pc := 58) hx hb dX10_send_58 ?_
          refine q_top (y := nI (cn 0 + 1)) (nI_add (cn 0) 1) ?_
          refine q_iastK (pc := 59) hx hb hK hP hD hS 23 0 rfl rfl (k := 0) rfl (by omega) (by omega) (b := cn 0 + 1) rfl dX10_send_59 (fun H locs hP hD hS => ?_)
          have hP : va_P D vwCl [(a 0, aK ta 64 tIP), (a 1, aK ta 48 tSPR), (a 2, aK ta 32 tMIX), (a 3, aK ta 56 tCH), (a 4, aK ta 48 tSEC), (a 5, aK ta 512 tSBX), (a 10, aB ta 64 bi), (a 11, aB ta 64 tu), (a 12, aB ta 56 cd), (a 13, aB ta 768 sk), (a 14, aB ta 32 hf), (a 15, aB ta 48 wd), (a 22, aS ta 700 gm), (a 24, aS ta 16 mac), (a 53, aS ta 16 gbl), (a 55, aS ta 16 gco), (a 45, aS ta 32 gch), (a 41, aS ta 256 gke), (a 36, aK ta 2 ru), (a 37, aK ta 2 le), (a 31, aS ta 300 gli), (a 39, aK ta 2 se), (a 40, aK ta 2 lv), (a 47, aK ta 2 (qU cn 0 (cn 0 + 1))), (a 54, aS ta 300 gwk), (h0, oM a ar mn 0 osz lsz ns ct), (a 48, aT ta 2 ha1_47), (a 50, aK ta 2 cs1_47), (a 49, aS ta 408 gcm1_47), (a 27, aS ta 400 gtp)] H := hP
          have hD : va_D A [(a 0, aK ta 64 tIP), (a 1, aK ta 48 tSPR), (a 2, aK ta 32 tMIX), (a 3, aK ta 56 tCH), (a 4, aK ta 48 tSEC), (a 5, aK ta 512 tSBX), (a 10, aB ta 64 bi), (a 11, aB ta 64 tu), (a 12, aB ta 56 cd), (a 13, aB ta 768 sk), (a 14, aB ta 32 hf), (a 15, aB ta 48 wd), (a 22, aS ta 700 gm), (a 24, aS ta 16 mac), (a 53, aS ta 16 gbl), (a 55, aS ta 16 gco), (a 45, aS ta 32 gch), (a 41, aS ta 256 gke), (a 36, aK ta 2 ru), (a 37, aK ta 2 le), (a 31, aS ta 300 gli), (a 39, aK ta 2 se), (a 40, aK ta 2 lv), (a 47, aK ta 2 (qU cn 0 (cn 0 + 1))), (a 54, aS ta 300 gwk), (h0, oM a ar mn 0 osz lsz ns ct), (a 48, aT ta 2 ha1_47), (a 50, aK ta 2 cs1_47), (a 49, aS ta 408 gcm1_47), (a 27, aS ta 400 gtp)] := hD
          refine lv_iload_n (pc := 60) hx hb dX10_send_60 rfl (lv_at hl 0 rfl) ?_
          refine lv_iconst (pc := 61) (v := nI 4) hx hb dX10_send_61 (by decide +kernel) ?_
          refine lv_isub (pc := 62) hx hb dX10_send_62 ?_
          refine q_top (y := nI (tp - 4)) (pk_sub (a := tp) (b := 4) (by omega)) ?_
          refine lv_istore_n (pc := 63) (lv' := [(2, .int (nI (tp - 4))), (1, .int (nI tp)), (0, .ref h0)]) hx hb dX10_send_63 rfl hl (by decide) rfl (fun ls hl => ?_)
          refine lv_iconst (pc := 64) (v := nI 0) hx hb dX10_send_64 (by decide +kernel) ?_
          refine lv_istore_n (pc := 65) (lv' := [(3, .int (nI 0)), (2, .int (nI (tp - 4))), (1, .int (nI tp)), (0, .ref h0)]) hx hb dX10_send_65 rfl hl (by decide) rfl (fun ls hl => ?_)
          have LP66 : ∀ (nn66 : Nat) (k1x : Nat) (k' : Nat → BitVec 8), (k1x ≤ tp - 4) → (qSeg k' gwk 0 k1x ((fun j => gtp (4 + j)))) → (tp - 4 - k1x < nn66) → ∀ (H : Heap) (locs : List Loc), va_P D vwCl [(a 0, aK ta 64 tIP), (a 1, aK ta 48 tSPR), (a 2, aK ta 32 tMIX), (a 3, aK ta 56 tCH), (a 4, aK ta 48 tSEC), (a 5, aK ta 512 tSBX), (a 10, aB ta 64 bi), (a 11, aB ta 64 tu), (a 12, aB ta 56 cd), (a 13, aB ta 768 sk), (a 14, aB ta 32 hf), (a 15, aB ta 48 wd), (a 22, aS ta 700 gm), (a 24, aS ta 16 mac), (a 53, aS ta 16 gbl), (a 55, aS ta 16 gco), (a 45, aS ta 32 gch), (a 41, aS ta 256 gke), (a 36, aK ta 2 ru), (a 37, aK ta 2 le), (a 31, aS ta 300 gli), (a 39, aK ta 2 se), (a 40, aK ta 2 lv), (a 47, aK ta 2 (qU cn 0 (cn 0 + 1))), (a 54, aS ta 300 k'), (h0, oM a ar mn 0 osz lsz ns ct), (a 48, aT ta 2 ha1_47), (a 50, aK ta 2 cs1_47), (a 49, aS ta 408 gcm1_47), (a 27, aS ta 400 gtp)] H → va_D A [(a 0, aK ta 64 tIP), (a 1, aK ta 48 tSPR), (a 2, aK ta 32 tMIX), (a 3, aK ta 56 tCH), (a 4, aK ta 48 tSEC), (a 5, aK ta 512 tSBX), (a 10, aB ta 64 bi), (a 11, aB ta 64 tu), (a 12, aB ta 56 cd), (a 13, aB ta 768 sk), (a 14, aB ta 32 hf), (a 15, aB ta 48 wd), (a 22, aS ta 700 gm), (a 24, aS ta 16 mac), (a 53, aS ta 16 gbl), (a 55, aS ta 16 gco), (a 45, aS ta 32 gch), (a 41, aS ta 256 gke), (a 36, aK ta 2 ru), (a 37, aK ta 2 le), (a 31, aS ta 300 gli), (a 39, aK ta 2 se), (a 40, aK ta 2 lv), (a 47, aK ta 2 (qU cn 0 (cn 0 + 1))), (a 54, aS ta 300 k'), (h0, oM a ar mn 0 osz lsz ns ct), (a 48, aT ta 2 ha1_47), (a 50, aK ta 2 cs1_47), (a 49, aS ta 408 gcm1_47), (a 27, aS ta 400 gtp)] → va_S A ss.heap H locs → ∀ ls : Array Slot, lv_has ls 5 [(3, .int (nI k1x)), (2, .int (nI (tp - 4))), (1, .int (nI tp)), (0, .ref h0)] → W pp ll ee ({ frames := 6, cells := 0, slots := 0, locals := 154 } : Room) ss mm (([.ref h0] : List Value).toArray) below meth kc H locs 0 0 Q (F0 mm 66 ls []) := by
            intro nn66
            induction nn66 with
            | zero => intro k1x k' hkk1 hs1 hmu; exact absurd hmu (Nat.not_lt_zero _)
            | succ nn66 ih66 =>
              intro k1x k' hkk1 hs1 hmu66 H locs hP hD hS ls hl
              refine lv_iload_n (pc := 66) hx hb dX10_send_66 rfl (lv_at hl 0 rfl) ?_
              refine lv_iload_n (pc := 67) hx hb dX10_send_67 rfl (lv_at hl 1 rfl) ?_
              refine lv_icmp_ge (pc := 68) (tgt := 91) hx hb dX10_send_68 (by decide) (fun c_5 => ?_) (fun c_5 => ?_)
              · skip
                rw [nI_leI (by omega) (by omega)] at c_5
                have hwk : qL k' (tp - 4) = (qL gtp tp).drop 4 := by rw [← seg_0, seg_copy hs1 (by omega), drop4_seg]
                refine lv_aload_n (pc := 91) hx hb dX10_send_91 rfl (lv_at hl 3 rfl) ?_
                have JN111 : ∀ (hd9 : Nat), ((hd9 = 1 ∧ 0 < lv 0 &&& 2 ∧ 0 < tp - 4) ∨ (hd9 = 0 ∧ ¬ (0 < lv 0 &&& 2 ∧ 0 < tp - 4))) → ∀ (H : Heap) (locs : List Loc), va_P D vwCl [(a 0, aK ta 64 tIP), (a 1, aK ta 48 tSPR), (a 2, aK ta 32 tMIX), (a 3, aK ta 56 tCH), (a 4, aK ta 48 tSEC), (a 5, aK ta 512 tSBX), (a 10, aB ta 64 bi), (a 11, aB ta 64 tu), (a 12, aB ta 56 cd), (a 13, aB ta 768 sk), (a 14, aB ta 32 hf), (a 15, aB ta 48 wd), (a 22, aS ta 700 gm), (a 24, aS ta 16 mac), (a 53, aS ta 16 gbl), (a 55, aS ta 16 gco), (a 45, aS ta 32 gch), (a 41, aS ta 256 gke), (a 36, aK ta 2 ru), (a 37, aK ta 2 le), (a 31, aS ta 300 gli), (a 39, aK ta 2 se), (a 40, aK ta 2 lv), (a 47, aK ta 2 (qU cn 0 (cn 0 + 1))), (a 54, aS ta 300 k'), (h0, oM a ar mn 0 osz lsz ns ct), (a 48, aT ta 2 ha1_47), (a 50, aK ta 2 cs1_47), (a 49, aS ta 408 gcm1_47), (a 27, aS ta 400 gtp)] H → va_D A [(a 0, aK ta 64 tIP), (a 1, aK ta 48 tSPR), (a 2, aK ta 32 tMIX), (a 3, aK ta 56 tCH), (a 4, aK ta 48 tSEC), (a 5, aK ta 512 tSBX), (a 10, aB ta 64 bi), (a 11, aB ta 64 tu), (a 12, aB ta 56 cd), (a 13, aB ta 768 sk), (a 14, aB ta 32 hf), (a 15, aB ta 48 wd), (a 22, aS ta 700 gm), (a 24, aS ta 16 mac), (a 53, aS ta 16 gbl), (a 55, aS ta 16 gco), (a 45, aS ta 32 gch), (a 41, aS ta 256 gke), (a 36, aK ta 2 ru), (a 37, aK ta 2 le), (a 31, aS ta 300 gli), (a 39, aK ta 2 se), (a 40, aK ta 2 lv), (a 47, aK ta 2 (qU cn 0 (cn 0 + 1))), (a 54, aS ta 300 k'), (h0, oM a ar mn 0 osz lsz ns ct), (a 48, aT ta 2 ha1_47), (a 50, aK ta 2 cs1_47), (a 49, aS ta 408 gcm1_47), (a 27, aS ta 400 gtp)] → va_S A ss.heap H locs → ∀ ls : Array Slot, lv_has ls 5 [(3, .int (nI k1x)), (2, .int (nI (tp - 4))), (1, .int (nI tp)), (0, .ref h0)] → W pp ll ee ({ frames := 6, cells := 0, slots := 0, locals := 154 } : Room) ss mm (([.ref h0] : List Value).toArray) below meth kc H locs 0 0 Q (F0 mm 111 ls [.int (nI hd9)]) := by
                  intro hd9 hhd H locs hP hD hS ls hl
                  refine lv_istore_n (pc := 111) (lv' := [(3, .int (nI hd9)), (2, .int (nI (tp - 4))), (1, .int (nI tp)), (0, .ref h0)]) hx hb dX10_send_111 rfl hl (by decide) rfl (fun ls hl => ?_)
                  refine lv_aload_n (pc := 112) hx hb dX10_send_112 rfl (lv_at hl 3 rfl) ?_
                  refine va_get (pc := 113) (D := D) (ci := 8) (v := .ref (a 36)) (C := RX10) (T := TX10) (N := 57) hx hb hts iu10 hown hK hP 25 rfl rfl 36 (by decide) (hts _ tw_1081) (fun _ h9 => h9) rfl dX10_send_113 ?_
                  refine lv_iconst (pc := 116) (v := nI 0) hx hb dX10_send_116 (by decide +kernel) ?_
                  refine q_iald (pc := 117) hx hb hK hP 18 0 rfl rfl (k := 0) (v := nI (ru 0)) rfl (by omega) (by omega) rfl dX10_send_117 ?_
                  refine lv_iconst (pc := 118) (v := nI 2) hx hb dX10_send_118 (by decide +kernel) ?_
                  refine lv_icmp_ne (pc := 119) (tgt := 139) hx hb dX10_send_119 (by decide) (fun c_6 => ?_) (fun c_6 => ?_)
                  · skip
                    rw [nI_eq (by omega) (by omega)] at c_6
                    exfalso; omega
                  · skip
                    rw [nI_eq (by omega) (by omega)] at c_6
                    refine lv_aload_n (pc := 122) hx hb dX10_send_122 rfl (lv_at hl 3 rfl) ?_
                    refine lv_iconst (pc := 123) (v := nI 0) hx hb dX10_send_123 (by decide +kernel) ?_
                    refine lv_aload_n (pc := 124) hx hb dX10_send_124 rfl (lv_at hl 3 rfl) ?_
                    refine va_get (pc := 125) (D := D) (ci := 8) (v := .ref (a 27)) (C := RX10) (T := TX10) (N := 57) hx hb hts iu10 hown hK hP 25 rfl rfl 27 (by decide) (hts _ tw_1072) (fun _ h9 => h9) rfl dX10_send_125 ?_
                    refine lv_iconst (pc := 128) (v := nI 0) hx hb dX10_send_128 (by decide +kernel) ?_
                    refine lv_aload_n (pc := 129) hx hb dX10_send_129 rfl (lv_at hl 3 rfl) ?_
                    refine va_get (pc := 130) (D := D) (ci := 8) (v := .ref (a 27)) (C := RX10) (T := TX10) (N := 57) hx hb hts iu10 hown hK hP 25 rfl rfl 27 (by decide) (hts _ tw_1072) (fun _ h9 => h9) rfl dX10_send_130 ?_
                    refine lv_iconst (pc := 133) (v := nI 4) hx hb dX10_send_133 (by decide +kernel) ?_
                    refine lv_iload_n (pc := 134) hx hb dX10_send_134 rfl (lv_at hl 1 rfl) ?_
                    refine lv_iconst (pc := 135) (v := nI 0) hx hb dX10_send_135 (by decide +kernel) ?_
                    refine cs_V (pc := 136) (idx := 360) (n := 7) (wr := [(a 31, aS ta 300 gli), (a 39, aK ta 2 se), (a 40, aK ta 2 lv), (a 47, aK ta 2 (qU cn 0 (cn 0 + 1))), (a 54, aS ta 300 k'), (a 48, aT ta 2 ha1_47), (a 50, aK ta 2 cs1_47), (a 49, aS ta 408 gcm1_47)]) (As := [.int (nI 0), .ref (a 27), .int (nI 0), .ref (a 27), .int (nI 4), .int (nI (tp - 4)), .int (nI 0)]) (rest := []) (ci := 8) hx hb hml hown hts hGok hK hA hG hl.1 hP hD hS (ct_X10_commandMac_201 ll D ta hGok h0 a ar mn 0 osz lsz ns ct bi tu cd sk hf wd gm mac gbl gco gch gke ru le 0 (a 27) 400 gtp 4 (tp - 4) (by first | assumption | omega | rfl | decide) (by first | assumption | omega | rfl | decide) (by first | assumption | omega | rfl | decide) (by first | assumption | omega | rfl | decide) (by first | assumption | omega | rfl | decide) H.size) tw_1368 tw_1365 tw_1367 tw_49 tw_75 hdX10_commandMac rfl ⟨rfl, rfl, Nat.le_of_ble_eq_true rfl, Nat.le_of_ble_eq_true rfl, Nat.le_of_ble_eq_true rfl, Nat.le_of_ble_eq_true rfl⟩ rfl rfl (q0 := 25) rfl [25, 0, 1, 2, 3, 4, 5, 6, 7, 8, 9, 10, 11, 12, 13, 14, 15, 16, 17, 18, 19, 29] [20, 21, 22, 23, 24, 26, 27, 28] rfl rfl (by decide) rfl (Nat.le_of_ble_eq_true rfl) dX10_send_136 (fun u H locs hq hP hD hS => ?_)
                    obtain ⟨bi1_136, tu1_136, cd1_136, sk1_136, hf1_136, wd1_136, gm1_136, mac1_136, gbl1_136, gco1_136, gch1_136, mn1_136⟩ := u
                    have hq : (seg gco1_136 0 8 = retailL (seg gke (128 * 0 + 32) 16) (desL (seg gke (128 * 0 + 32) 8) false (seg gch (16 * 0) 8)) (headL (seg gtp 0 4) (tp - 4) ++ seg gtp 4 (tp - 4))) ∧ (seg gch1_136 (16 * 0) 16 = seg gco1_136 0 16) ∧ (∀ jz, (jz < 16 * 0 ∨ 16 * 0 + 16 ≤ jz) → gch1_136 jz = gch jz) := hq
                    obtain ⟨hs_136, hc_136, hfc_136⟩ := hq
                    refine W.eq (g2 := F0 mm 139 ls []) rfl ?_
                    have hP : va_P D vwCl [(a 31, aS ta 300 gli), (a 39, aK ta 2 se), (a 40, aK ta 2 lv), (a 47, aK ta 2 (qU cn 0 (cn 0 + 1))), (a 54, aS ta 300 k'), (a 48, aT ta 2 ha1_47), (a 50, aK ta 2 cs1_47), (a 49, aS ta 408 gcm1_47), (h0, oM a ar mn1_136 0 osz lsz ns ct), (a 0, aK ta 64 tIP), (a 1, aK ta 48 tSPR), (a 2, aK ta 32 tMIX), (a 3, aK ta 56 tCH), (a 4, aK ta 48 tSEC), (a 5, aK ta 512 tSBX), (a 10, aB ta 64 bi1_136), (a 11, aB ta 64 tu1_136), (a 12, aB ta 56 cd1_136), (a 13, aB ta 768 sk1_136), (a 14, aB ta 32 hf1_136), (a 15, aB ta 48 wd1_136), (a 22, aS ta 700 gm1_136), (a 24, aS ta 16 mac1_136), (a 53, aS ta 16 gbl1_136), (a 55, aS ta 16 gco1_136), (a 45, aS ta 32 gch1_136), (a 41, aS ta 256 gke), (a 36, aK ta 2 ru), (a 37, aK ta 2 le), (a 27, aS ta 400 gtp)] H := hP
                    have hD : va_D A [(a 31, aS ta 300 gli), (a 39, aK ta 2 se), (a 40, aK ta 2 lv), (a 47, aK ta 2 (qU cn 0 (cn 0 + 1))), (a 54, aS ta 300 k'), (a 48, aT ta 2 ha1_47), (a 50, aK ta 2 cs1_47), (a 49, aS ta 408 gcm1_47), (h0, oM a ar mn1_136 0 osz lsz ns ct), (a 0, aK ta 64 tIP), (a 1, aK ta 48 tSPR), (a 2, aK ta 32 tMIX), (a 3, aK ta 56 tCH), (a 4, aK ta 48 tSEC), (a 5, aK ta 512 tSBX), (a 10, aB ta 64 bi1_136), (a 11, aB ta 64 tu1_136), (a 12, aB ta 56 cd1_136), (a 13, aB ta 768 sk1_136), (a 14, aB ta 32 hf1_136), (a 15, aB ta 48 wd1_136), (a 22, aS ta 700 gm1_136), (a 24, aS ta 16 mac1_136), (a 53, aS ta 16 gbl1_136), (a 55, aS ta 16 gco1_136), (a 45, aS ta 32 gch1_136), (a 41, aS ta 256 gke), (a 36, aK ta 2 ru), (a 37, aK ta 2 le), (a 27, aS ta 400 gtp)] := hD
                    have hch9 : seg gco1_136 0 8 = chain2 (seg gke 32 16) (cn 0 + 1) (seg gch 0 8) (qL gtp tp) := by
                      rw [hs_136, chain2_ref (by omega), seg_take (by decide), seg_take (by decide), head_qL (n := tp) (by omega), qL_len, drop4_seg]
                    have JN151 : ∀ (m9 : Nat) (w9 : Nat → BitVec 8) (b9 : Nat → BitVec 8) (zb : Nat → Bool) (zt : Nat → Bool) (zc : Nat → Bool) (zs : Nat → Bool) (zh : Nat → Bool) (zw : Nat → Bool), ((secD2 (seg gke 0 16) (lv 0) (qL gtp tp)) = qL w9 m9) → (m9 ≤ 208) → ∀ (H : Heap) (locs : List Loc), va_P D vwCl [(a 31, aS ta 300 gli), (a 39, aK ta 2 se), (a 40, aK ta 2 lv), (a 47, aK ta 2 (qU cn 0 (cn 0 + 1))), (a 54, aS ta 300 w9), (a 48, aT ta 2 ha1_47), (a 50, aK ta 2 cs1_47), (a 49, aS ta 408 gcm1_47), (h0, oM a ar mn1_136 0 osz lsz ns ct), (a 0, aK ta 64 tIP), (a 1, aK ta 48 tSPR), (a 2, aK ta 32 tMIX), (a 3, aK ta 56 tCH), (a 4, aK ta 48 tSEC), (a 5, aK ta 512 tSBX), (a 10, aB ta 64 zb), (a 11, aB ta 64 zt), (a 12, aB ta 56 zc), (a 13, aB ta 768 zs), (a 14, aB ta 32 zh), (a 15, aB ta 48 zw), (a 22, aS ta 700 gm1_136), (a 24, aS ta 16 mac1_136), (a 53, aS ta 16 b9), (a 55, aS ta 16 gco1_136), (a 45, aS ta 32 gch1_136), (a 41, aS ta 256 gke), (a 36, aK ta 2 ru), (a 37, aK ta 2 le), (a 27, aS ta 400 gtp)] H → va_D A [(a 31, aS ta 300 gli), (a 39, aK ta 2 se), (a 40, aK ta 2 lv), (a 47, aK ta 2 (qU cn 0 (cn 0 + 1))), (a 54, aS ta 300 w9), (a 48, aT ta 2 ha1_47), (a 50, aK ta 2 cs1_47), (a 49, aS ta 408 gcm1_47), (h0, oM a ar mn1_136 0 osz lsz ns ct), (a 0, aK ta 64 tIP), (a 1, aK ta 48 tSPR), (a 2, aK ta 32 tMIX), (a 3, aK ta 56 tCH), (a 4, aK ta 48 tSEC), (a 5, aK ta 512 tSBX), (a 10, aB ta 64 zb), (a 11, aB ta 64 zt), (a 12, aB ta 56 zc), (a 13, aB ta 768 zs), (a 14, aB ta 32 zh), (a 15, aB ta 48 zw), (a 22, aS ta 700 gm1_136), (a 24, aS ta 16 mac1_136), (a 53, aS ta 16 b9), (a 55, aS ta 16 gco1_136), (a 45, aS ta 32 gch1_136), (a 41, aS ta 256 gke), (a 36, aK ta 2 ru), (a 37, aK ta 2 le), (a 27, aS ta 400 gtp)] → va_S A ss.heap H locs → ∀ ls : Array Slot, lv_has ls 5 [(3, .int (nI hd9)), (2, .int (nI m9)), (1, .int (nI tp)), (0, .ref h0)] → W pp ll ee ({ frames := 6, cells := 0, slots := 0, locals := 154 } : Room) ss mm (([.ref h0] : List Value).toArray) below meth kc H locs 0 0 Q (F0 mm 151 ls []) := by
                      intro m9 w9 b9 zb zt zc zs zh zw hD9 hm9 H locs hP hD hS ls hl
                      refine lv_aload_n (pc := 151) hx hb dX10_send_151 rfl (lv_at hl 3 rfl) ?_
                      refine va_get (pc := 152) (D := D) (ci := 8) (v := .ref (a 36)) (C := RX10) (T := TX10) (N := 57) hx hb hts iu10 hown hK hP 8 rfl rfl 36 (by decide) (hts _ tw_1081) (fun _ h9 => h9) rfl dX10_send_152 ?_
                      refine lv_iconst (pc := 155) (v := nI 0) hx hb dX10_send_155 (by decide +kernel) ?_
                      refine q_iald (pc := 156) hx hb hK hP 27 0 rfl rfl (k := 0) (v := nI (ru 0)) rfl (by omega) (by omega) rfl dX10_send_156 ?_
                      refine lv_iconst (pc := 157) (v := nI 3) hx hb dX10_send_157 (by decide +kernel) ?_
                      refine lv_icmp_ne (pc := 158) (tgt := 178) hx hb dX10_send_158 (by decide) (fun c_7 => ?_) (fun c_7 => ?_)
                      · skip
                        rw [nI_eq (by omega) (by omega)] at c_7
                        refine lv_aload_n (pc := 178) hx hb dX10_send_178 rfl (lv_at hl 3 rfl) ?_
                        refine va_get (pc := 179) (D := D) (ci := 8) (v := .ref (a 31)) (C := RX10) (T := TX10) (N := 57) hx hb hts iu10 hown hK hP 8 rfl rfl 31 (by decide) (hts _ tw_1076) (fun _ h9 => h9) rfl dX10_send_179 ?_
                        refine lv_iconst (pc := 182) (v := nI 0) hx hb dX10_send_182 (by decide +kernel) ?_
                        refine lv_aload_n (pc := 183) hx hb dX10_send_183 rfl (lv_at hl 3 rfl) ?_
                        refine va_get (pc := 184) (D := D) (ci := 8) (v := .ref (a 27)) (C := RX10) (T := TX10) (N := 57) hx hb hts iu10 hown hK hP 8 rfl rfl 27 (by decide) (hts _ tw_1072) (fun _ h9 => h9) rfl dX10_send_184 ?_
                        refine lv_iconst (pc := 187) (v := nI 0) hx hb dX10_send_187 (by decide +kernel) ?_
                        refine q_bald (pc := 188) hx hb hK hP 29 2 rfl rfl (k := 0) (v := qs (gtp 0)) rfl (by omega) (by omega) rfl dX10_send_188 ?_
                        refine lv_iconst (pc := 189) (v := nI 4) hx hb dX10_send_189 (by decide +kernel) ?_
                        refine lv_ior (pc := 190) hx hb dX10_send_190 ?_
                        refine lv_i2b (pc := 191) (v := qs (qlo ((qs (gtp 0)) ||| (nI 4)))) hx hb dX10_send_191 (q_i2b _) ?_
                        refine q_bastS (pc := 192) hx hb hK hP hD hS 0 2 rfl rfl (k := 0) rfl (by omega) (by omega) (b := qlo ((qs (gtp 0)) ||| (nI 4))) (qlo_qs _) dX10_send_192 (fun H locs hP hD hS => ?_)
                        have hP : va_P D vwCl [(a 31, aS ta 300 (qU gli 0 (qlo ((qs (gtp 0)) ||| (nI 4))))), (a 39, aK ta 2 se), (a 40, aK ta 2 lv), (a 47, aK ta 2 (qU cn 0 (cn 0 + 1))), (a 54, aS ta 300 w9), (a 48, aT ta 2 ha1_47), (a 50, aK ta 2 cs1_47), (a 49, aS ta 408 gcm1_47), (h0, oM a ar mn1_136 0 osz lsz ns ct), (a 0, aK ta 64 tIP), (a 1, aK ta 48 tSPR), (a 2, aK ta 32 tMIX), (a 3, aK ta 56 tCH), (a 4, aK ta 48 tSEC), (a 5, aK ta 512 tSBX), (a 10, aB ta 64 zb), (a 11, aB ta 64 zt), (a 12, aB ta 56 zc), (a 13, aB ta 768 zs), (a 14, aB ta 32 zh), (a 15, aB ta 48 zw), (a 22, aS ta 700 gm1_136), (a 24, aS ta 16 mac1_136), (a 53, aS ta 16 b9), (a 55, aS ta 16 gco1_136), (a 45, aS ta 32 gch1_136), (a 41, aS ta 256 gke), (a 36, aK ta 2 ru), (a 37, aK ta 2 le), (a 27, aS ta 400 gtp)] H := hP
                        have hD : va_D A [(a 31, aS ta 300 (qU gli 0 (qlo ((qs (gtp 0)) ||| (nI 4))))), (a 39, aK ta 2 se), (a 40, aK ta 2 lv), (a 47, aK ta 2 (qU cn 0 (cn 0 + 1))), (a 54, aS ta 300 w9), (a 48, aT ta 2 ha1_47), (a 50, aK ta 2 cs1_47), (a 49, aS ta 408 gcm1_47), (h0, oM a ar mn1_136 0 osz lsz ns ct), (a 0, aK ta 64 tIP), (a 1, aK ta 48 tSPR), (a 2, aK ta 32 tMIX), (a 3, aK ta 56 tCH), (a 4, aK ta 48 tSEC), (a 5, aK ta 512 tSBX), (a 10, aB ta 64 zb), (a 11, aB ta 64 zt), (a 12, aB ta 56 zc), (a 13, aB ta 768 zs), (a 14, aB ta 32 zh), (a 15, aB ta 48 zw), (a 22, aS ta 700 gm1_136), (a 24, aS ta 16 mac1_136), (a 53, aS ta 16 b9), (a 55, aS ta 16 gco1_136), (a 45, aS ta 32 gch1_136), (a 41, aS ta 256 gke), (a 36, aK ta 2 ru), (a 37, aK ta 2 le), (a 27, aS ta 400 gtp)] := hD
                        refine lv_iconst (pc := 193) (v := nI 1) hx hb dX10_send_193 (by decide +kernel) ?_
                        refine lv_istore (pc := 194) (lv' := [(4, .int (nI 1)), (3, .int (nI hd9)), (2, .int (nI m9)), (1, .int (nI tp)), (0, .ref h0)]) hx hb dX10_send_194 hl (by decide) rfl (fun ls hl => ?_)
                        have LP196 : ∀ (nn196 : Nat) (k2x : Nat) (p' : Nat → BitVec 8), (1 ≤ k2x ∧ k2x ≤ 4) → ((∀ j, 1 ≤ j → j < k2x → p' j = gtp j) ∧ p' 0 = qlo (qs (gtp 0) ||| nI 4)) → (4 - k2x < nn196) → ∀ (H : Heap) (locs : List Loc), va_P D vwCl [(a 31, aS ta 300 p'), (a 39, aK ta 2 se), (a 40, aK ta 2 lv), (a 47, aK ta 2 (qU cn 0 (cn 0 + 1))), (a 54, aS ta 300 w9), (a 48, aT ta 2 ha1_47), (a 50, aK ta 2 cs1_47), (a 49, aS ta 408 gcm1_47), (h0, oM a ar mn1_136 0 osz lsz ns ct), (a 0, aK ta 64 tIP), (a 1, aK ta 48 tSPR), (a 2, aK ta 32 tMIX), (a 3, aK ta 56 tCH), (a 4, aK ta 48 tSEC), (a 5, aK ta 512 tSBX), (a 10, aB ta 64 zb), (a 11, aB ta 64 zt), (a 12, aB ta 56 zc), (a 13, aB ta 768 zs), (a 14, aB ta 32 zh), (a 15, aB ta 48 zw), (a 22, aS ta 700 gm1_136), (a 24, aS ta 16 mac1_136), (a 53, aS ta 16 b9), (a 55, aS ta 16 gco1_136), (a 45, aS ta 32 gch1_136), (a 41, aS ta 256 gke), (a 36, aK ta 2 ru), (a 37, aK ta 2 le), (a 27, aS ta 400 gtp)] H → va_D A [(a 31, aS ta 300 p'), (a 39, aK ta 2 se), (a 40, aK ta 2 lv), (a 47, aK ta 2 (qU cn 0 (cn 0 + 1))), (a 54, aS ta 300 w9), (a 48, aT ta 2 ha1_47), (a 50, aK ta 2 cs1_47), (a 49, aS ta 408 gcm1_47), (h0, oM a ar mn1_136 0 osz lsz ns ct), (a 0, aK ta 64 tIP), (a 1, aK ta 48 tSPR), (a 2, aK ta 32 tMIX), (a 3, aK ta 56 tCH), (a 4, aK ta 48 tSEC), (a 5, aK ta 512 tSBX), (a 10, aB ta 64 zb), (a 11, aB ta 64 zt), (a 12, aB ta 56 zc), (a 13, aB ta 768 zs), (a 14, aB ta 32 zh), (a 15, aB ta 48 zw), (a 22, aS ta 700 gm1_136), (a 24, aS ta 16 mac1_136), (a 53, aS ta 16 b9), (a 55, aS ta 16 gco1_136), (a 45, aS ta 32 gch1_136), (a 41, aS ta 256 gke), (a 36, aK ta 2 ru), (a 37, aK ta 2 le), (a 27, aS ta 400 gtp)] → va_S A ss.heap H locs → ∀ ls : Array Slot, lv_has ls 5 [(4, .int (nI k2x)), (3, .int (nI hd9)), (2, .int (nI m9)), (1, .int (nI tp)), (0, .ref h0)] → W pp ll ee ({ frames := 6, cells := 0, slots := 0, locals := 154 } : Room) ss mm (([.ref h0] : List Value).toArray) below meth kc H locs 0 0 Q (F0 mm 196 ls []) := by
                          intro nn196
                          induction nn196 with
                          | zero => intro k2x p' hk2 hp2 hmu; exact absurd hmu (Nat.not_lt_zero _)
                          | succ nn196 ih196 =>
                            intro k2x p' hk2 hp2 hmu196 H locs hP hD hS ls hl
                            refine lv_iload (pc := 196) hx hb dX10_send_196 (lv_at hl 0 rfl) ?_
                            refine lv_iconst (pc := 198) (v := nI 4) hx hb dX10_send_198 (by decide +kernel) ?_
                            refine lv_icmp_ge (pc := 199) (tgt := 222) hx hb dX10_send_199 (by decide) (fun c_8 => ?_) (fun c_8 => ?_)
                            · skip
                              rw [nI_leI (by omega) (by omega)] at c_8
                              refine lv_iconst (pc := 222) (v := nI 0) hx hb dX10_send_222 (by decide +kernel) ?_
                              refine lv_istore (pc := 223) (lv' := [(4, .int (nI 0)), (3, .int (nI hd9)), (2, .int (nI m9)), (1, .int (nI tp)), (0, .ref h0)]) hx hb dX10_send_223 hl (by decide) rfl (fun ls hl => ?_)
                              have LP225 : ∀ (nn225 : Nat) (k3x : Nat) (q' : Nat → BitVec 8), (k3x ≤ m9) → (qSeg q' p' 4 k3x w9) → (m9 - k3x < nn225) → ∀ (H : Heap) (locs : List Loc), va_P D vwCl [(a 31, aS ta 300 q'), (a 39, aK ta 2 se), (a 40, aK ta 2 lv), (a 47, aK ta 2 (qU cn 0 (cn 0 + 1))), (a 54, aS ta 300 w9), (a 48, aT ta 2 ha1_47), (a 50, aK ta 2 cs1_47), (a 49, aS ta 408 gcm1_47), (h0, oM a ar mn1_136 0 osz lsz ns ct), (a 0, aK ta 64 tIP), (a 1, aK ta 48 tSPR), (a 2, aK ta 32 tMIX), (a 3, aK ta 56 tCH), (a 4, aK ta 48 tSEC), (a 5, aK ta 512 tSBX), (a 10, aB ta 64 zb), (a 11, aB ta 64 zt), (a 12, aB ta 56 zc), (a 13, aB ta 768 zs), (a 14, aB ta 32 zh), (a 15, aB ta 48 zw), (a 22, aS ta 700 gm1_136), (a 24, aS ta 16 mac1_136), (a 53, aS ta 16 b9), (a 55, aS ta 16 gco1_136), (a 45, aS ta 32 gch1_136), (a 41, aS ta 256 gke), (a 36, aK ta 2 ru), (a 37, aK ta 2 le), (a 27, aS ta 400 gtp)] H → va_D A [(a 31, aS ta 300 q'), (a 39, aK ta 2 se), (a 40, aK ta 2 lv), (a 47, aK ta 2 (qU cn 0 (cn 0 + 1))), (a 54, aS ta 300 w9), (a 48, aT ta 2 ha1_47), (a 50, aK ta 2 cs1_47), (a 49, aS ta 408 gcm1_47), (h0, oM a ar mn1_136 0 osz lsz ns ct), (a 0, aK ta 64 tIP), (a 1, aK ta 48 tSPR), (a 2, aK ta 32 tMIX), (a 3, aK ta 56 tCH), (a 4, aK ta 48 tSEC), (a 5, aK ta 512 tSBX), (a 10, aB ta 64 zb), (a 11, aB ta 64 zt), (a 12, aB ta 56 zc), (a 13, aB ta 768 zs), (a 14, aB ta 32 zh), (a 15, aB ta 48 zw), (a 22, aS ta 700 gm1_136), (a 24, aS ta 16 mac1_136), (a 53, aS ta 16 b9), (a 55, aS ta 16 gco1_136), (a 45, aS ta 32 gch1_136), (a 41, aS ta 256 gke), (a 36, aK ta 2 ru), (a 37, aK ta 2 le), (a 27, aS ta 400 gtp)] → va_S A ss.heap H locs → ∀ ls : Array Slot, lv_has ls 5 [(4, .int (nI k3x)), (3, .int (nI hd9)), (2, .int (nI m9)), (1, .int (nI tp)), (0, .ref h0)] → W pp ll ee ({ frames := 6, cells := 0, slots := 0, locals := 154 } : Room) ss mm (([.ref h0] : List Value).toArray) below meth kc H locs 0 0 Q (F0 mm 225 ls []) := by
                                intro nn225
                                induction nn225 with
                                | zero => intro k3x q' hk3 hs3 hmu; exact absurd hmu (Nat.not_lt_zero _)
                                | succ nn225 ih225 =>
                                  intro k3x q' hk3 hs3 hmu225 H locs hP hD hS ls hl
                                  refine lv_iload (pc := 225) hx hb dX10_send_225 (lv_at hl 0 rfl) ?_
                                  refine lv_iload_n (pc := 227) hx hb dX10_send_227 rfl (lv_at hl 2 rfl) ?_
                                  refine lv_icmp_ge (pc := 228) (tgt := 253) hx hb dX10_send_228 (by decide) (fun c_9 => ?_) (fun c_9 => ?_)
                                  · skip
                                    rw [nI_leI (by omega) (by omega)] at c_9
                                    refine lv_iconst (pc := 253) (v := nI 0) hx hb dX10_send_253 (by decide +kernel) ?_
                                    refine lv_istore (pc := 254) (lv' := [(4, .int (nI 0)), (3, .int (nI hd9)), (2, .int (nI m9)), (1, .int (nI tp)), (0, .ref h0)]) hx hb dX10_send_254 hl (by decide) rfl (fun ls hl => ?_)
                                    have LP256 : ∀ (nn256 : Nat) (k4x : Nat) (r' : Nat → BitVec 8), (k4x ≤ 8) → (qSeg r' q' (4 + m9) k4x gco1_136) → (8 - k4x < nn256) → ∀ (H : Heap) (locs : List Loc), va_P D vwCl [(a 31, aS ta 300 r'), (a 39, aK ta 2 se), (a 40, aK ta 2 lv), (a 47, aK ta 2 (qU cn 0 (cn 0 + 1))), (a 54, aS ta 300 w9), (a 48, aT ta 2 ha1_47), (a 50, aK ta 2 cs1_47), (a 49, aS ta 408 gcm1_47), (h0, oM a ar mn1_136 0 osz lsz ns ct), (a 0, aK ta 64 tIP), (a 1, aK ta 48 tSPR), (a 2, aK ta 32 tMIX), (a 3, aK ta 56 tCH), (a 4, aK ta 48 tSEC), (a 5, aK ta 512 tSBX), (a 10, aB ta 64 zb), (a 11, aB ta 64 zt), (a 12, aB ta 56 zc), (a 13, aB ta 768 zs), (a 14, aB ta 32 zh), (a 15, aB ta 48 zw), (a 22, aS ta 700 gm1_136), (a 24, aS ta 16 mac1_136), (a 53, aS ta 16 b9), (a 55, aS ta 16 gco1_136), (a 45, aS ta 32 gch1_136), (a 41, aS ta 256 gke), (a 36, aK ta 2 ru), (a 37, aK ta 2 le), (a 27, aS ta 400 gtp)] H → va_D A [(a 31, aS ta 300 r'), (a 39, aK ta 2 se), (a 40, aK ta 2 lv), (a 47, aK ta 2 (qU cn 0 (cn 0 + 1))), (a 54, aS ta 300 w9), (a 48, aT ta 2 ha1_47), (a 50, aK ta 2 cs1_47), (a 49, aS ta 408 gcm1_47), (h0, oM a ar mn1_136 0 osz lsz ns ct), (a 0, aK ta 64 tIP), (a 1, aK ta 48 tSPR), (a 2, aK ta 32 tMIX), (a 3, aK ta 56 tCH), (a 4, aK ta 48 tSEC), (a 5, aK ta 512 tSBX), (a 10, aB ta 64 zb), (a 11, aB ta 64 zt), (a 12, aB ta 56 zc), (a 13, aB ta 768 zs), (a 14, aB ta 32 zh), (a 15, aB ta 48 zw), (a 22, aS ta 700 gm1_136), (a 24, aS ta 16 mac1_136), (a 53, aS ta 16 b9), (a 55, aS ta 16 gco1_136), (a 45, aS ta 32 gch1_136), (a 41, aS ta 256 gke), (a 36, aK ta 2 ru), (a 37, aK ta 2 le), (a 27, aS ta 400 gtp)] → va_S A ss.heap H locs → ∀ ls : Array Slot, lv_has ls 5 [(4, .int (nI k4x)), (3, .int (nI hd9)), (2, .int (nI m9)), (1, .int (nI tp)), (0, .ref h0)] → W pp ll ee ({ frames := 6, cells := 0, slots := 0, locals := 154 } : Room) ss mm (([.ref h0] : List Value).toArray) below meth kc H locs 0 0 Q (F0 mm 256 ls []) := by
                                      intro nn256
                                      induction nn256 with
                                      | zero => intro k4x r' hk4 hs4 hmu; exact absurd hmu (Nat.not_lt_zero _)
                                      | succ nn256 ih256 =>
                                        intro k4x r' hk4 hs4 hmu256 H locs hP hD hS ls hl
                                        refine lv_iload (pc := 256) hx hb dX10_send_256 (lv_at hl 0 rfl) ?_
                                        refine lv_bipush (pc := 258) (v := nI 8) hx hb dX10_send_258 (by decide +kernel) ?_
                                        refine lv_icmp_ge (pc := 260) (tgt := 287) hx hb dX10_send_260 (by decide) (fun c_10 => ?_) (fun c_10 => ?_)
                                        · skip
                                          rw [nI_leI (by omega) (by omega)] at c_10
                                          refine lv_aload_n (pc := 287) hx hb dX10_send_287 rfl (lv_at hl 4 rfl) ?_
                                          refine lv_iconst (pc := 288) (v := nI 4) hx hb dX10_send_288 (by decide +kernel) ?_
                                          refine lv_iload_n (pc := 289) hx hb dX10_send_289 rfl (lv_at hl 2 rfl) ?_
                                          refine lv_iadd (pc := 290) hx hb dX10_send_290 ?_
                                          refine q_top (y := nI (4 + m9)) (nI_add 4 m9) ?_
                                          refine lv_bipush (pc := 291) (v := nI 8) hx hb dX10_send_291 (by decide +kernel) ?_
                                          refine lv_iadd (pc := 293) hx hb dX10_send_293 ?_
                                          refine q_top (y := nI (4 + m9 + 8)) (nI_add (4 + m9) 8) ?_
                                          refine va_put (pc := 294) (D := D) (ci := 8) (v := .int (nI (4 + m9 + 8))) (ty := .int) (C := RX10) (T := TX10) (N := 57) hx hb hts iu10 tyX10 tyX10_ok nmX10 hown hK hP hD hS 8 rfl rfl 32 (by decide) (hts _ tw_1077) (fun _ h9 => h9) rfl (by decide +kernel) rfl rfl (Nat.le_of_ble_eq_true rfl) dX10_send_294 (fun H locs hP hD hS => ?_)
                                          have hP : va_P D vwCl [(a 31, aS ta 300 r'), (a 39, aK ta 2 se), (a 40, aK ta 2 lv), (a 47, aK ta 2 (qU cn 0 (cn 0 + 1))), (a 54, aS ta 300 w9), (a 48, aT ta 2 ha1_47), (a 50, aK ta 2 cs1_47), (a 49, aS ta 408 gcm1_47), (h0, oM a ar mn1_136 0 osz (4 + m9 + 8) ns ct), (a 0, aK ta 64 tIP), (a 1, aK ta 48 tSPR), (a 2, aK ta 32 tMIX), (a 3, aK ta 56 tCH), (a 4, aK ta 48 tSEC), (a 5, aK ta 512 tSBX), (a 10, aB ta 64 zb), (a 11, aB ta 64 zt), (a 12, aB ta 56 zc), (a 13, aB ta 768 zs), (a 14, aB ta 32 zh), (a 15, aB ta 48 zw), (a 22, aS ta 700 gm1_136), (a 24, aS ta 16 mac1_136), (a 53, aS ta 16 b9), (a 55, aS ta 16 gco1_136), (a 45, aS ta 32 gch1_136), (a 41, aS ta 256 gke), (a 36, aK ta 2 ru), (a 37, aK ta 2 le), (a 27, aS ta 400 gtp)] H := hP
                                          have hD : va_D A [(a 31, aS ta 300 r'), (a 39, aK ta 2 se), (a 40, aK ta 2 lv), (a 47, aK ta 2 (qU cn 0 (cn 0 + 1))), (a 54, aS ta 300 w9), (a 48, aT ta 2 ha1_47), (a 50, aK ta 2 cs1_47), (a 49, aS ta 408 gcm1_47), (h0, oM a ar mn1_136 0 osz (4 + m9 + 8) ns ct), (a 0, aK ta 64 tIP), (a 1, aK ta 48 tSPR), (a 2, aK ta 32 tMIX), (a 3, aK ta 56 tCH), (a 4, aK ta 48 tSEC), (a 5, aK ta 512 tSBX), (a 10, aB ta 64 zb), (a 11, aB ta 64 zt), (a 12, aB ta 56 zc), (a 13, aB ta 768 zs), (a 14, aB ta 32 zh), (a 15, aB ta 48 zw), (a 22, aS ta 700 gm1_136), (a 24, aS ta 16 mac1_136), (a 53, aS ta 16 b9), (a 55, aS ta 16 gco1_136), (a 45, aS ta 32 gch1_136), (a 41, aS ta 256 gke), (a 36, aK ta 2 ru), (a 37, aK ta 2 le), (a 27, aS ta 400 gtp)] := hD
                                          refine lv_aload_n (pc := 297) hx hb dX10_send_297 rfl (lv_at hl 4 rfl) ?_
                                          refine va_get (pc := 298) (D := D) (ci := 8) (v := .int (nI (4 + m9 + 8))) (C := RX10) (T := TX10) (N := 57) hx hb hts iu10 hown hK hP 8 rfl rfl 32 (by decide) (hts _ tw_1077) (fun _ h9 => h9) rfl dX10_send_298 ?_
                                          have hq_11 : (seg gco1_136 0 8 = chain2 (seg gke 32 16) (cn 0 + 1) (seg gch 0 8) (qL gtp tp)) ∧ (qL r' (4 + m9 + 8) = putC (qL gtp tp) (secD2 (seg gke 0 16) (lv 0) (qL gtp tp)) (seg gco1_136 0 8)) ∧ ((4 + m9 + 8) = (secD2 (seg gke 0 16) (lv 0) (qL gtp tp)).length + 12 ∧ (4 + m9 + 8) ≤ 220) ∧ (seg gch1_136 0 16 = seg gco1_136 0 16) ∧ (∀ j, 16 ≤ j → gch1_136 j = gch j) ∧ ((qU cn 0 (cn 0 + 1)) = qU cn 0 (cn 0 + 1)) ∧ (ha1_47 = qU ha 0 true) ∧ (cs1_47 = qU cs 0 tp) ∧ (seg gcm1_47 0 tp = (qL gtp tp)) ∧ (∀ j, 204 ≤ j → gcm1_47 j = gcm j) := by
                                            have hL4 : seg p' 0 4 = [qlo (qs (gtp 0) ||| nI 4)] ++ seg gtp 1 3 := seg_123 (g := gtp) gtp hp2.1 hp2.2 (by omega)
                                            have hall : qL r' (4 + m9 + 8) = [qlo (qs (gtp 0) ||| nI 4)] ++ seg gtp 1 3 ++ qL w9 m9 ++ seg gco1_136 0 8 := by
                                              rw [← seg_0, seg_app, Nat.zero_add, seg_copy0 hs4 (by omega), seg_keep (g' := r') (g := q') (o := 0) (n := 4 + m9) (fun j hj => hs4.2 _ (by omega)), seg_app, Nat.zero_add, seg_copy0 hs3 (by omega), seg_keep (g' := q') (g := p') (o := 0) (n := 4) (fun j hj => hs3.2 _ (by omega)), hL4, seg_0]
                                            refine ⟨hch9, (put_ref (g := gtp) (n := tp) rfl (by omega) hall seg_len).trans (by rw [hD9]), ⟨by rw [hD9, qL_len]; omega, by omega⟩, hc_136, fun j hj => hfc_136 j (by omega), rfl, hha_47, hcs_47, hs_47, fun j hj => hfr_47 j (by omega)⟩
                                          exact hret (⟨(zb), (zt), (zc), (zs), (zh), (zw), (gm1_136), (mac1_136), (b9), (gco1_136), (gch1_136), (r'), (gcm1_47), (w9), (qU cn 0 (cn 0 + 1)), (ha1_47), (cs1_47), (mn1_136), (4 + m9 + 8)⟩ : (Nat → Bool) × (Nat → Bool) × (Nat → Bool) × (Nat → Bool) × (Nat → Bool) × (Nat → Bool) × (Nat → BitVec 8) × (Nat → BitVec 8) × (Nat → BitVec 8) × (Nat → BitVec 8) × (Nat → BitVec 8) × (Nat → BitVec 8) × (Nat → BitVec 8) × (Nat → BitVec 8) × (Nat → Nat) × (Nat → Bool) × (Nat → Nat) × Nat × Nat) _ _ _ _ dX10_send_301 hq_11 (hP.sub [8, 9, 10, 11, 12, 13, 14, 15, 16, 17, 18, 19, 20, 21, 22, 23, 24, 25, 26, 27, 28, 0, 1, 2, 3, 5, 6, 7, 4, 29] rfl) (hD.sub [8, 9, 10, 11, 12, 13, 14, 15, 16, 17, 18, 19, 20, 21, 22, 23, 24, 25, 26, 27, 28, 0, 1, 2, 3, 5, 6, 7, 4, 29] (by decide) rfl) hS
                                        · skip
                                          rw [nI_leI (by omega) (by omega)] at c_10
                                          refine lv_aload_n (pc := 263) hx hb dX10_send_263 rfl (lv_at hl 4 rfl) ?_
                                          refine va_get (pc := 264) (D := D) (ci := 8) (v := .ref (a 31)) (C := RX10) (T := TX10) (N := 57) hx hb hts iu10 hown hK hP 8 rfl rfl 31 (by decide) (hts _ tw_1076) (fun _ h9 => h9) rfl dX10_send_264 ?_
                                          refine lv_iconst (pc := 267) (v := nI 4) hx hb dX10_send_267 (by decide +kernel) ?_
                                          refine lv_iload_n (pc := 268) hx hb dX10_send_268 rfl (lv_at hl 2 rfl) ?_
                                          refine lv_iadd (pc := 269) hx hb dX10_send_269 ?_
                                          refine q_top (y := nI (4 + m9)) (nI_add 4 m9) ?_
                                          refine lv_iload (pc := 270) hx hb dX10_send_270 (lv_at hl 0 rfl) ?_
                                          refine lv_iadd (pc := 272) hx hb dX10_send_272 ?_
                                          refine q_top (y := nI (4 + m9 + k4x)) (nI_add (4 + m9) k4x) ?_
                                          refine lv_aload_n (pc := 273) hx hb dX10_send_273 rfl (lv_at hl 4 rfl) ?_
                                          refine va_get (pc := 274) (D := D) (ci := 8) (v := .ref (a 55)) (C := RX10) (T := TX10) (N := 57) hx hb hts iu10 hown hK hP 8 rfl rfl 55 (by decide) (hts _ tw_1100) (fun _ h9 => h9) rfl dX10_send_274 ?_
                                          refine lv_iload (pc := 277) hx hb dX10_send_277 (lv_at hl 0 rfl) ?_
                                          refine q_bald (pc := 279) hx hb hK hP 24 2 rfl rfl (k := k4x) (v := qs (gco1_136 k4x)) rfl (by omega) (by omega) rfl dX10_send_279 ?_
                                          refine q_bastS (pc := 280) hx hb hK hP hD hS 0 2 rfl rfl (k := 4 + m9 + k4x) rfl (by omega) (by omega) (b := gco1_136 k4x) (qlo_qs _) dX10_send_280 (fun H locs hP hD hS => ?_)
                                          have hP : va_P D vwCl [(a 31, aS ta 300 (qU r' (4 + m9 + k4x) (gco1_136 k4x))), (a 39, aK ta 2 se), (a 40, aK ta 2 lv), (a 47, aK ta 2 (qU cn 0 (cn 0 + 1))), (a 54, aS ta 300 w9), (a 48, aT ta 2 ha1_47), (a 50, aK ta 2 cs1_47), (a 49, aS ta 408 gcm1_47), (h0, oM a ar mn1_136 0 osz lsz ns ct), (a 0, aK ta 64 tIP), (a 1, aK ta 48 tSPR), (a 2, aK ta 32 tMIX), (a 3, aK ta 56 tCH), (a 4, aK ta 48 tSEC), (a 5, aK ta 512 tSBX), (a 10, aB ta 64 zb), (a 11, aB ta 64 zt), (a 12, aB ta 56 zc), (a 13, aB ta 768 zs), (a 14, aB ta 32 zh), (a 15, aB ta 48 zw), (a 22, aS ta 700 gm1_136), (a 24, aS ta 16 mac1_136), (a 53, aS ta 16 b9), (a 55, aS ta 16 gco1_136), (a 45, aS ta 32 gch1_136), (a 41, aS ta 256 gke), (a 36, aK ta 2 ru), (a 37, aK ta 2 le), (a 27, aS ta 400 gtp)] H := hP
                                          have hD : va_D A [(a 31, aS ta 300 (qU r' (4 + m9 + k4x) (gco1_136 k4x))), (a 39, aK ta 2 se), (a 40, aK ta 2 lv), (a 47, aK ta 2 (qU cn 0 (cn 0 + 1))), (a 54, aS ta 300 w9), (a 48, aT ta 2 ha1_47), (a 50, aK ta 2 cs1_47), (a 49, aS ta 408 gcm1_47), (h0, oM a ar mn1_136 0 osz lsz ns ct), (a 0, aK ta 64 tIP), (a 1, aK ta 48 tSPR), (a 2, aK ta 32 tMIX), (a 3, aK ta 56 tCH), (a 4, aK ta 48 tSEC), (a 5, aK ta 512 tSBX), (a 10, aB ta 64 zb), (a 11, aB ta 64 zt), (a 12, aB ta 56 zc), (a 13, aB ta 768 zs), (a 14, aB ta 32 zh), (a 15, aB ta 48 zw), (a 22, aS ta 700 gm1_136), (a 24, aS ta 16 mac1_136), (a 53, aS ta 16 b9), (a 55, aS ta 16 gco1_136), (a 45, aS ta 32 gch1_136), (a 41, aS ta 256 gke), (a 36, aK ta 2 ru), (a 37, aK ta 2 le), (a 27, aS ta 400 gtp)] := hD
                                          refine lv_iinc (pc := 281) (v := nI (k4x + 1)) (lv' := [(4, .int (nI (k4x + 1))), (3, .int (nI hd9)), (2, .int (nI m9)), (1, .int (nI tp)), (0, .ref h0)]) hx hb dX10_send_281 hl (k := 0) rfl (by first | exact nI_add k4x 1 | rfl) (by decide) rfl (fun ls hl => ?_)
                                          refine lv_goto (pc := 284) (tgt := 256) hx hb dX10_send_284 (by decide) ?_
                                          exact ih256 (k4x + 1) (qU r' (4 + m9 + k4x) (gco1_136 k4x)) (by omega) (qSeg_s hs4 (by omega) rfl) (by omega) _ _ (hP.sub [0, 1, 2, 3, 4, 5, 6, 7, 8, 9, 10, 11, 12, 13, 14, 15, 16, 17, 18, 19, 20, 21, 22, 23, 24, 25, 26, 27, 28, 29] rfl) (hD.sub [0, 1, 2, 3, 4, 5, 6, 7, 8, 9, 10, 11, 12, 13, 14, 15, 16, 17, 18, 19, 20, 21, 22, 23, 24, 25, 26, 27, 28, 29] (by decide) rfl) hS ls (lv_sub hl [0, 1, 2, 3, 4] rfl)
                                    exact LP256 _ 0 q' (by omega) (qSeg_0) (Nat.lt_succ_self _) _ _ (hP.sub [0, 1, 2, 3, 4, 5, 6, 7, 8, 9, 10, 11, 12, 13, 14, 15, 16, 17, 18, 19, 20, 21, 22, 23, 24, 25, 26, 27, 28, 29] rfl) (hD.sub [0, 1, 2, 3, 4, 5, 6, 7, 8, 9, 10, 11, 12, 13, 14, 15, 16, 17, 18, 19, 20, 21, 22, 23, 24, 25, 26, 27, 28, 29] (by decide) rfl) hS ls (lv_sub hl [0, 1, 2, 3, 4] rfl)
                                  · skip
                                    rw [nI_leI (by omega) (by omega)] at c_9
                                    refine lv_aload_n (pc := 231) hx hb dX10_send_231 rfl (lv_at hl 4 rfl) ?_
                                    refine va_get (pc := 232) (D := D) (ci := 8) (v := .ref (a 31)) (C := RX10) (T := TX10) (N := 57) hx hb hts iu10 hown hK hP 8 rfl rfl 31 (by decide) (hts _ tw_1076) (fun _ h9 => h9) rfl dX10_send_232 ?_
                                    refine lv_iconst (pc := 235) (v := nI 4) hx hb dX10_send_235 (by decide +kernel) ?_
                                    refine lv_iload (pc := 236) hx hb dX10_send_236 (lv_at hl 0 rfl) ?_
                                    refine lv_iadd (pc := 238) hx hb dX10_send_238 ?_
                                    refine q_top (y := nI (4 + k3x)) (nI_add 4 k3x) ?_
                                    refine lv_aload_n (pc := 239) hx hb dX10_send_239 rfl (lv_at hl 4 rfl) ?_
                                    refine va_get (pc := 240) (D := D) (ci := 8) (v := .ref (a 54)) (C := RX10) (T := TX10) (N := 57) hx hb hts iu10 hown hK hP 8 rfl rfl 54 (by decide) (hts _ tw_1099) (fun _ h9 => h9) rfl dX10_send_240 ?_
                                    refine lv_iload (pc := 243) hx hb dX10_send_243 (lv_at hl 0 rfl) ?_
                                    refine q_bald (pc := 245) hx hb hK hP 4 2 rfl rfl (k := k3x) (v := qs (w9 k3x)) rfl (by omega) (by omega) rfl dX10_send_245 ?_
                                    refine q_bastS (pc := 246) hx hb hK hP hD hS 0 2 rfl rfl (k := 4 + k3x) rfl (by omega) (by omega) (b := w9 k3x) (qlo_qs _) dX10_send_246 (fun H locs hP hD hS => ?_)
                                    have hP : va_P D vwCl [(a 31, aS ta 300 (qU q' (4 + k3x) (w9 k3x))), (a 39, aK ta 2 se), (a 40, aK ta 2 lv), (a 47, aK ta 2 (qU cn 0 (cn 0 + 1))), (a 54, aS ta 300 w9), (a 48, aT ta 2 ha1_47), (a 50, aK ta 2 cs1_47), (a 49, aS ta 408 gcm1_47), (h0, oM a ar mn1_136 0 osz lsz ns ct), (a 0, aK ta 64 tIP), (a 1, aK ta 48 tSPR), (a 2, aK ta 32 tMIX), (a 3, aK ta 56 tCH), (a 4, aK ta 48 tSEC), (a 5, aK ta 512 tSBX), (a 10, aB ta 64 zb), (a 11, aB ta 64 zt), (a 12, aB ta 56 zc), (a 13, aB ta 768 zs), (a 14, aB ta 32 zh), (a 15, aB ta 48 zw), (a 22, aS ta 700 gm1_136), (a 24, aS ta 16 mac1_136), (a 53, aS ta 16 b9), (a 55, aS ta 16 gco1_136), (a 45, aS ta 32 gch1_136), (a 41, aS ta 256 gke), (a 36, aK ta 2 ru), (a 37, aK ta 2 le), (a 27, aS ta 400 gtp)] H := hP
                                    have hD : va_D A [(a 31, aS ta 300 (qU q' (4 + k3x) (w9 k3x))), (a 39, aK ta 2 se), (a 40, aK ta 2 lv), (a 47, aK ta 2 (qU cn 0 (cn 0 + 1))), (a 54, aS ta 300 w9), (a 48, aT ta 2 ha1_47), (a 50, aK ta 2 cs1_47), (a 49, aS ta 408 gcm1_47), (h0, oM a ar mn1_136 0 osz lsz ns ct), (a 0, aK ta 64 tIP), (a 1, aK ta 48 tSPR), (a 2, aK ta 32 tMIX), (a 3, aK ta 56 tCH), (a 4, aK ta 48 tSEC), (a 5, aK ta 512 tSBX), (a 10, aB ta 64 zb), (a 11, aB ta 64 zt), (a 12, aB ta 56 zc), (a 13, aB ta 768 zs), (a 14, aB ta 32 zh), (a 15, aB ta 48 zw), (a 22, aS ta 700 gm1_136), (a 24, aS ta 16 mac1_136), (a 53, aS ta 16 b9), (a 55, aS ta 16 gco1_136), (a 45, aS ta 32 gch1_136), (a 41, aS ta 256 gke), (a 36, aK ta 2 ru), (a 37, aK ta 2 le), (a 27, aS ta 400 gtp)] := hD
                                    refine lv_iinc (pc := 247) (v := nI (k3x + 1)) (lv' := [(4, .int (nI (k3x + 1))), (3, .int (nI hd9)), (2, .int (nI m9)), (1, .int (nI tp)), (0, .ref h0)]) hx hb dX10_send_247 hl (k := 0) rfl (by first | exact nI_add k3x 1 | rfl) (by decide) rfl (fun ls hl => ?_)
                                    refine lv_goto (pc := 250) (tgt := 225) hx hb dX10_send_250 (by decide) ?_
                                    exact ih225 (k3x + 1) (qU q' (4 + k3x) (w9 k3x)) (by omega) (qSeg_s hs3 (by omega) rfl) (by omega) _ _ (hP.sub [0, 1, 2, 3, 4, 5, 6, 7, 8, 9, 10, 11, 12, 13, 14, 15, 16, 17, 18, 19, 20, 21, 22, 23, 24, 25, 26, 27, 28, 29] rfl) (hD.sub [0, 1, 2, 3, 4, 5, 6, 7, 8, 9, 10, 11, 12, 13, 14, 15, 16, 17, 18, 19, 20, 21, 22, 23, 24, 25, 26, 27, 28, 29] (by decide) rfl) hS ls (lv_sub hl [0, 1, 2, 3, 4] rfl)
                              exact LP225 _ 0 p' (by omega) (qSeg_0) (Nat.lt_succ_self _) _ _ (hP.sub [0, 1, 2, 3, 4, 5, 6, 7, 8, 9, 10, 11, 12, 13, 14, 15, 16, 17, 18, 19, 20, 21, 22, 23, 24, 25, 26, 27, 28, 29] rfl) (hD.sub [0, 1, 2, 3, 4, 5, 6, 7, 8, 9, 10, 11, 12, 13, 14, 15, 16, 17, 18, 19, 20, 21, 22, 23, 24, 25, 26, 27, 28, 29] (by decide) rfl) hS ls (lv_sub hl [0, 1, 2, 3, 4] rfl)
                            · skip
                              rw [nI_leI (by omega) (by omega)] at c_8
                              refine lv_aload_n (pc := 202) hx hb dX10_send_202 rfl (lv_at hl 4 rfl) ?_
                              refine va_get (pc := 203) (D := D) (ci := 8) (v := .ref (a 31)) (C := RX10) (T := TX10) (N := 57) hx hb hts iu10 hown hK hP 8 rfl rfl 31 (by decide) (hts _ tw_1076) (fun _ h9 => h9) rfl dX10_send_203 ?_
                              refine lv_iload (pc := 206) hx hb dX10_send_206 (lv_at hl 0 rfl) ?_
                              refine lv_aload_n (pc := 208) hx hb dX10_send_208 rfl (lv_at hl 4 rfl) ?_
                              refine va_get (pc := 209) (D := D) (ci := 8) (v := .ref (a 27)) (C := RX10) (T := TX10) (N := 57) hx hb hts iu10 hown hK hP 8 rfl rfl 27 (by decide) (hts _ tw_1072) (fun _ h9 => h9) rfl dX10_send_209 ?_
                              refine lv_iload (pc := 212) hx hb dX10_send_212 (lv_at hl 0 rfl) ?_
                              refine q_bald (pc := 214) hx hb hK hP 29 2 rfl rfl (k := k2x) (v := qs (gtp k2x)) rfl (by omega) (by omega) rfl dX10_send_214 ?_
                              refine q_bastS (pc := 215) hx hb hK hP hD hS 0 2 rfl rfl (k := k2x) rfl (by omega) (by omega) (b := gtp k2x) (qlo_qs _) dX10_send_215 (fun H locs hP hD hS => ?_)
                              have hP : va_P D vwCl [(a 31, aS ta 300 (qU p' k2x (gtp k2x))), (a 39, aK ta 2 se), (a 40, aK ta 2 lv), (a 47, aK ta 2 (qU cn 0 (cn 0 + 1))), (a 54, aS ta 300 w9), (a 48, aT ta 2 ha1_47), (a 50, aK ta 2 cs1_47), (a 49, aS ta 408 gcm1_47), (h0, oM a ar mn1_136 0 osz lsz ns ct), (a 0, aK ta 64 tIP), (a 1, aK ta 48 tSPR), (a 2, aK ta 32 tMIX), (a 3, aK ta 56 tCH), (a 4, aK ta 48 tSEC), (a 5, aK ta 512 tSBX), (a 10, aB ta 64 zb), (a 11, aB ta 64 zt), (a 12, aB ta 56 zc), (a 13, aB ta 768 zs), (a 14, aB ta 32 zh), (a 15, aB ta 48 zw), (a 22, aS ta 700 gm1_136), (a 24, aS ta 16 mac1_136), (a 53, aS ta 16 b9), (a 55, aS ta 16 gco1_136), (a 45, aS ta 32 gch1_136), (a 41, aS ta 256 gke), (a 36, aK ta 2 ru), (a 37, aK ta 2 le), (a 27, aS ta 400 gtp)] H := hP
                              have hD : va_D A [(a 31, aS ta 300 (qU p' k2x (gtp k2x))), (a 39, aK ta 2 se), (a 40, aK ta 2 lv), (a 47, aK ta 2 (qU cn 0 (cn 0 + 1))), (a 54, aS ta 300 w9), (a 48, aT ta 2 ha1_47), (a 50, aK ta 2 cs1_47), (a 49, aS ta 408 gcm1_47), (h0, oM a ar mn1_136 0 osz lsz ns ct), (a 0, aK ta 64 tIP), (a 1, aK ta 48 tSPR), (a 2, aK ta 32 tMIX), (a 3, aK ta 56 tCH), (a 4, aK ta 48 tSEC), (a 5, aK ta 512 tSBX), (a 10, aB ta 64 zb), (a 11, aB ta 64 zt), (a 12, aB ta 56 zc), (a 13, aB ta 768 zs), (a 14, aB ta 32 zh), (a 15, aB ta 48 zw), (a 22, aS ta 700 gm1_136), (a 24, aS ta 16 mac1_136), (a 53, aS ta 16 b9), (a 55, aS ta 16 gco1_136), (a 45, aS ta 32 gch1_136), (a 41, aS ta 256 gke), (a 36, aK ta 2 ru), (a 37, aK ta 2 le), (a 27, aS ta 400 gtp)] := hD
                              refine lv_iinc (pc := 216) (v := nI (k2x + 1)) (lv' := [(4, .int (nI (k2x + 1))), (3, .int (nI hd9)), (2, .int (nI m9)), (1, .int (nI tp)), (0, .ref h0)]) hx hb dX10_send_216 hl (k := 0) rfl (by first | exact nI_add k2x 1 | rfl) (by decide) rfl (fun ls hl => ?_)
                              refine lv_goto (pc := 219) (tgt := 196) hx hb dX10_send_219 (by decide) ?_
                              exact ih196 (k2x + 1) (qU p' k2x (gtp k2x)) (by omega) (⟨by
                                    intro j h1 h2
                                    by_cases q : j = k2x
                                    · subst q; exact qU_same
                                    · rw [qU_ne q]; exact hp2.1 j h1 (by omega), by rw [qU_ne (by omega)]; exact hp2.2⟩) (by omega) _ _ (hP.sub [0, 1, 2, 3, 4, 5, 6, 7, 8, 9, 10, 11, 12, 13, 14, 15, 16, 17, 18, 19, 20, 21, 22, 23, 24, 25, 26, 27, 28, 29] rfl) (hD.sub [0, 1, 2, 3, 4, 5, 6, 7, 8, 9, 10, 11, 12, 13, 14, 15, 16, 17, 18, 19, 20, 21, 22, 23, 24, 25, 26, 27, 28, 29] (by decide) rfl) hS ls (lv_sub hl [0, 1, 2, 3, 4] rfl)
                        exact LP196 _ 1 (qU gli 0 (qlo (qs (gtp 0) ||| nI 4))) (by omega) (⟨fun j h1 h2 => by omega, qU_same⟩) (Nat.lt_succ_self _) _ _ (hP.sub [0, 1, 2, 3, 4, 5, 6, 7, 8, 9, 10, 11, 12, 13, 14, 15, 16, 17, 18, 19, 20, 21, 22, 23, 24, 25, 26, 27, 28, 29] rfl) (hD.sub [0, 1, 2, 3, 4, 5, 6, 7, 8, 9, 10, 11, 12, 13, 14, 15, 16, 17, 18, 19, 20, 21, 22, 23, 24, 25, 26, 27, 28, 29] (by decide) rfl) hS ls (lv_sub hl [0, 1, 2, 3, 4] rfl)
                      · skip
                        rw [nI_eq (by omega) (by omega)] at c_7
                        exfalso; omega
                    refine lv_iload_n (pc := 139) hx hb dX10_send_139 rfl (lv_at hl 0 rfl) ?_
                    refine lv_if_eq (pc := 140) (tgt := 151) hx hb dX10_send_140 (by decide) (fun c_12 => ?_) (fun c_12 => ?_)
                    · skip
                      rw [q_eq0 (by omega)] at c_12
                      exact JN151 (tp - 4) k' gbl1_136 bi1_136 tu1_136 cd1_136 sk1_136 hf1_136 wd1_136 (by first | (rw [secD2, hidB_f (by rw [drop4_seg, seg_len]; omega), hwk]; rfl) | (rw [secD2, hidB_t (by omega) (by rw [drop4_seg, seg_len]; omega), if_pos rfl, hL_147, hwk] <;> rw [qU_same] <;> rfl)) (by omega) _ _ (hP.sub [0, 1, 2, 3, 4, 5, 6, 7, 8, 9, 10, 11, 12, 13, 14, 15, 16, 17, 18, 19, 20, 21, 22, 23, 24, 25, 26, 27, 28, 29] rfl) (hD.sub [0, 1, 2, 3, 4, 5, 6, 7, 8, 9, 10, 11, 12, 13, 14, 15, 16, 17, 18, 19, 20, 21, 22, 23, 24, 25, 26, 27, 28, 29] (by decide) rfl) hS ls (lv_sub hl [0, 1, 2, 3] rfl)
                    · skip
                      rw [q_eq0 (by omega)] at c_12
                      refine lv_aload_n (pc := 143) hx hb dX10_send_143 rfl (lv_at hl 3 rfl) ?_
                      refine lv_iconst (pc := 144) (v := nI 0) hx hb dX10_send_144 (by decide +kernel) ?_
                      refine lv_iload_n (pc := 145) hx hb dX10_send_145 rfl (lv_at hl 1 rfl) ?_
                      refine lv_iconst (pc := 146) (v := nI 0) hx hb dX10_send_146 (by decide +kernel) ?_
                      refine cs_V (pc := 147) (idx := 381) (n := 3) (wr := [(a 31, aS ta 300 gli), (a 39, aK ta 2 se), (a 40, aK ta 2 lv), (a 47, aK ta 2 (qU cn 0 (cn 0 + 1))), (a 48, aT ta 2 ha1_47), (a 50, aK ta 2 cs1_47), (a 49, aS ta 408 gcm1_47), (a 22, aS ta 700 gm1_136), (a 24, aS ta 16 mac1_136), (a 55, aS ta 16 gco1_136), (a 45, aS ta 32 gch1_136), (a 37, aK ta 2 le), (a 27, aS ta 400 gtp)]) (As := [.int (nI 0), .int (nI (tp - 4)), .int (nI 0)]) (rest := []) (ci := 8) hx hb hml hown hts hGok hK hA hG hl.1 hP hD hS (ct_X10_hide_20 ll D ta hGok h0 a ar mn1_136 0 osz lsz ns ct bi1_136 tu1_136 cd1_136 sk1_136 hf1_136 wd1_136 gbl1_136 gke k' ru 0 (tp - 4) (by first | assumption | omega | rfl | decide) (by first | assumption | omega | rfl | decide) (by omega) H.size) tw_1388 tw_1385 tw_1387 tw_53 tw_75 hdX10_hide rfl ⟨rfl, rfl, Nat.le_of_ble_eq_true rfl, Nat.le_of_ble_eq_true rfl, Nat.le_of_ble_eq_true rfl, Nat.le_of_ble_eq_true rfl⟩ rfl rfl (q0 := 8) rfl [8, 9, 10, 11, 12, 13, 14, 15, 16, 17, 18, 19, 20, 23, 26, 27, 4] [0, 1, 2, 3, 5, 6, 7, 21, 22, 24, 25, 28, 29] rfl rfl (by decide) rfl (Nat.le_of_ble_eq_true rfl) dX10_send_147 (fun u H locs hq hP hD hS => ?_)
                      obtain ⟨bi1_147, tu1_147, cd1_147, sk1_147, hf1_147, wd1_147, gbl1_147, gwk1_147, n1_147⟩ := u
                      have hq : (n1_147 = ((tp - 4) / 8 + 1) * 8) ∧ (qL gwk1_147 n1_147 = hide2 (seg gke (128 * 0) 16) (qL k' (tp - 4))) := hq
                      obtain ⟨hn_147, hL_147⟩ := hq
                      refine W.eq (g2 := F0 mm 150 ls [.int (nI n1_147)]) rfl ?_
                      have hP : va_P D vwCl [(a 31, aS ta 300 gli), (a 39, aK ta 2 se), (a 40, aK ta 2 lv), (a 47, aK ta 2 (qU cn 0 (cn 0 + 1))), (a 48, aT ta 2 ha1_47), (a 50, aK ta 2 cs1_47), (a 49, aS ta 408 gcm1_47), (a 22, aS ta 700 gm1_136), (a 24, aS ta 16 mac1_136), (a 55, aS ta 16 gco1_136), (a 45, aS ta 32 gch1_136), (a 37, aK ta 2 le), (a 27, aS ta 400 gtp), (h0, oM a ar mn1_136 0 osz lsz ns ct), (a 0, aK ta 64 tIP), (a 1, aK ta 48 tSPR), (a 2, aK ta 32 tMIX), (a 3, aK ta 56 tCH), (a 4, aK ta 48 tSEC), (a 5, aK ta 512 tSBX), (a 10, aB ta 64 bi1_147), (a 11, aB ta 64 tu1_147), (a 12, aB ta 56 cd1_147), (a 13, aB ta 768 sk1_147), (a 14, aB ta 32 hf1_147), (a 15, aB ta 48 wd1_147), (a 53, aS ta 16 gbl1_147), (a 41, aS ta 256 gke), (a 36, aK ta 2 ru), (a 54, aS ta 300 gwk1_147)] H := hP
                      have hD : va_D A [(a 31, aS ta 300 gli), (a 39, aK ta 2 se), (a 40, aK ta 2 lv), (a 47, aK ta 2 (qU cn 0 (cn 0 + 1))), (a 48, aT ta 2 ha1_47), (a 50, aK ta 2 cs1_47), (a 49, aS ta 408 gcm1_47), (a 22, aS ta 700 gm1_136), (a 24, aS ta 16 mac1_136), (a 55, aS ta 16 gco1_136), (a 45, aS ta 32 gch1_136), (a 37, aK ta 2 le), (a 27, aS ta 400 gtp), (h0, oM a ar mn1_136 0 osz lsz ns ct), (a 0, aK ta 64 tIP), (a 1, aK ta 48 tSPR), (a 2, aK ta 32 tMIX), (a 3, aK ta 56 tCH), (a 4, aK ta 48 tSEC), (a 5, aK ta 512 tSBX), (a 10, aB ta 64 bi1_147), (a 11, aB ta 64 tu1_147), (a 12, aB ta 56 cd1_147), (a 13, aB ta 768 sk1_147), (a 14, aB ta 32 hf1_147), (a 15, aB ta 48 wd1_147), (a 53, aS ta 16 gbl1_147), (a 41, aS ta 256 gke), (a 36, aK ta 2 ru), (a 54, aS ta 300 gwk1_147)] := hD
                      refine lv_istore_n (pc := 150) (lv' := [(2, .int (nI n1_147)), (3, .int (nI hd9)), (1, .int (nI tp)), (0, .ref h0)]) hx hb dX10_send_150 rfl hl (by decide) rfl (fun ls hl => ?_)
                      exact JN151 n1_147 gwk1_147 gbl1_147 bi1_147 tu1_147 cd1_147 sk1_147 hf1_147 wd1_147 (by first | (rw [secD2, hidB_f (by rw [drop4_seg, seg_len]; omega), hwk]; rfl) | (rw [secD2, hidB_t (by omega) (by rw [drop4_seg, seg_len]; omega), if_pos rfl, hL_147, hwk] <;> rw [qU_same] <;> rfl)) (by omega) _ _ (hP.sub [0, 1, 2, 3, 29, 4, 5, 6, 13, 14, 15, 16, 17, 18, 19, 20, 21, 22, 23, 24, 25, 7, 8, 26, 9, 10, 27, 28, 11, 12] rfl) (hD.sub [0, 1, 2, 3, 29, 4, 5, 6, 13, 14, 15, 16, 17, 18, 19, 20, 21, 22, 23, 24, 25, 7, 8, 26, 9, 10, 27, 28, 11, 12] (by decide) rfl) hS ls (lv_sub hl [1, 0, 2, 3] rfl)
                refine va_get (pc := 92) (D := D) (ci := 8) (v := .ref (a 40)) (C := RX10) (T := TX10) (N := 57) hx hb hts iu10 hown hK hP 25 rfl rfl 40 (by decide) (hts _ tw_1085) (fun _ h9 => h9) rfl dX10_send_92 ?_
                refine lv_iconst (pc := 95) (v := nI 0) hx hb dX10_send_95 (by decide +kernel) ?_
                refine q_iald (pc := 96) hx hb hK hP 22 0 rfl rfl (k := 0) (v := nI (lv 0)) rfl (by omega) (by omega) rfl dX10_send_96 ?_
                refine lv_iconst (pc := 97) (v := nI 2) hx hb dX10_send_97 (by decide +kernel) ?_
                refine lv_iand (pc := 98) hx hb dX10_send_98 ?_
                refine q_top (y := nI (lv 0 &&& 2)) (nI_and (by omega) (by omega)) ?_
                refine lv_if_le (pc := 99) (tgt := 110) hx hb dX10_send_99 (by decide) (fun c_13 => ?_) (fun c_13 => ?_)
                · skip
                  rw [q_le0 (by omega)] at c_13
                  refine lv_iconst (pc := 110) (v := nI 0) hx hb dX10_send_110 (by decide +kernel) ?_
                  exact JN111 0 (by omega) _ _ (hP.sub [0, 1, 2, 3, 4, 5, 6, 7, 8, 9, 10, 11, 12, 13, 14, 15, 16, 17, 18, 19, 20, 21, 22, 23, 24, 25, 26, 27, 28, 29] rfl) (hD.sub [0, 1, 2, 3, 4, 5, 6, 7, 8, 9, 10, 11, 12, 13, 14, 15, 16, 17, 18, 19, 20, 21, 22, 23, 24, 25, 26, 27, 28, 29] (by decide) rfl) hS ls (lv_sub hl [0, 1, 2, 3] rfl)
                · skip
                  rw [q_le0 (by omega)] at c_13
                  refine lv_iload_n (pc := 102) hx hb dX10_send_102 rfl (lv_at hl 1 rfl) ?_
                  refine lv_if_le (pc := 103) (tgt := 110) hx hb dX10_send_103 (by decide) (fun c_14 => ?_) (fun c_14 => ?_)
                  · skip
                    rw [q_le0 (by omega)] at c_14
                    refine lv_iconst (pc := 110) (v := nI 0) hx hb dX10_send_110 (by decide +kernel) ?_
                    exact JN111 0 (by omega) _ _ (hP.sub [0, 1, 2, 3, 4, 5, 6, 7, 8, 9, 10, 11, 12, 13, 14, 15, 16, 17, 18, 19, 20, 21, 22, 23, 24, 25, 26, 27, 28, 29] rfl) (hD.sub [0, 1, 2, 3, 4, 5, 6, 7, 8, 9, 10, 11, 12, 13, 14, 15, 16, 17, 18, 19, 20, 21, 22, 23, 24, 25, 26, 27, 28, 29] (by decide) rfl) hS ls (lv_sub hl [0, 1, 2, 3] rfl)
                  · skip
                    rw [q_le0 (by omega)] at c_14
                    refine lv_iconst (pc := 106) (v := nI 1) hx hb dX10_send_106 (by decide +kernel) ?_
                    refine lv_goto (pc := 107) (tgt := 111) hx hb dX10_send_107 (by decide) ?_
                    exact JN111 1 (by omega) _ _ (hP.sub [0, 1, 2, 3, 4, 5, 6, 7, 8, 9, 10, 11, 12, 13, 14, 15, 16, 17, 18, 19, 20, 21, 22, 23, 24, 25, 26, 27, 28, 29] rfl) (hD.sub [0, 1, 2, 3, 4, 5, 6, 7, 8, 9, 10, 11, 12, 13, 14, 15, 16, 17, 18, 19, 20, 21, 22, 23, 24, 25, 26, 27, 28, 29] (by decide) rfl) hS ls (lv_sub hl [0, 1, 2, 3] rfl)
              · skip
                rw [nI_leI (by omega) (by omega)] at c_5
                refine lv_aload_n (pc := 71) hx hb dX10_send_71 rfl (lv_at hl 3 rfl) ?_
                refine va_get (pc := 72) (D := D) (ci := 8) (v := .ref (a 54)) (C := RX10) (T := TX10) (N := 57) hx hb hts iu10 hown hK hP 25 rfl rfl 54 (by decide) (hts _ tw_1099) (fun _ h9 => h9) rfl dX10_send_72 ?_
                refine lv_iload_n (pc := 75) hx hb dX10_send_75 rfl (lv_at hl 0 rfl) ?_
                refine lv_aload_n (pc := 76) hx hb dX10_send_76 rfl (lv_at hl 3 rfl) ?_
                refine va_get (pc := 77) (D := D) (ci := 8) (v := .ref (a 27)) (C := RX10) (T := TX10) (N := 57) hx hb hts iu10 hown hK hP 25 rfl rfl 27 (by decide) (hts _ tw_1072) (fun _ h9 => h9) rfl dX10_send_77 ?_
                refine lv_iconst (pc := 80) (v := nI 4) hx hb dX10_send_80 (by decide +kernel) ?_
                refine lv_iload_n (pc := 81) hx hb dX10_send_81 rfl (lv_at hl 0 rfl) ?_
                refine lv_iadd (pc := 82) hx hb dX10_send_82 ?_
                refine q_top (y := nI (4 + k1x)) (nI_add 4 k1x) ?_
                refine q_bald (pc := 83) hx hb hK hP 29 2 rfl rfl (k := 4 + k1x) (v := qs (gtp (4 + k1x))) rfl (by omega) (by omega) rfl dX10_send_83 ?_
                refine q_bastS (pc := 84) hx hb hK hP hD hS 24 2 rfl rfl (k := k1x) rfl (by omega) (by omega) (b := gtp (4 + k1x)) (qlo_qs _) dX10_send_84 (fun H locs hP hD hS => ?_)
                have hP : va_P D vwCl [(a 0, aK ta 64 tIP), (a 1, aK ta 48 tSPR), (a 2, aK ta 32 tMIX), (a 3, aK ta 56 tCH), (a 4, aK ta 48 tSEC), (a 5, aK ta 512 tSBX), (a 10, aB ta 64 bi), (a 11, aB ta 64 tu), (a 12, aB ta 56 cd), (a 13, aB ta 768 sk), (a 14, aB ta 32 hf), (a 15, aB ta 48 wd), (a 22, aS ta 700 gm), (a 24, aS ta 16 mac), (a 53, aS ta 16 gbl), (a 55, aS ta 16 gco), (a 45, aS ta 32 gch), (a 41, aS ta 256 gke), (a 36, aK ta 2 ru), (a 37, aK ta 2 le), (a 31, aS ta 300 gli), (a 39, aK ta 2 se), (a 40, aK ta 2 lv), (a 47, aK ta 2 (qU cn 0 (cn 0 + 1))), (a 54, aS ta 300 (qU k' k1x (gtp (4 + k1x)))), (h0, oM a ar mn 0 osz lsz ns ct), (a 48, aT ta 2 ha1_47), (a 50, aK ta 2 cs1_47), (a 49, aS ta 408 gcm1_47), (a 27, aS ta 400 gtp)] H := hP
                have hD : va_D A [(a 0, aK ta 64 tIP), (a 1, aK ta 48 tSPR), (a 2, aK ta 32 tMIX), (a 3, aK ta 56 tCH), (a 4, aK ta 48 tSEC), (a 5, aK ta 512 tSBX), (a 10, aB ta 64 bi), (a 11, aB ta 64 tu), (a 12, aB ta 56 cd), (a 13, aB ta 768 sk), (a 14, aB ta 32 hf), (a 15, aB ta 48 wd), (a 22, aS ta 700 gm), (a 24, aS ta 16 mac), (a 53, aS ta 16 gbl), (a 55, aS ta 16 gco), (a 45, aS ta 32 gch), (a 41, aS ta 256 gke), (a 36, aK ta 2 ru), (a 37, aK ta 2 le), (a 31, aS ta 300 gli), (a 39, aK ta 2 se), (a 40, aK ta 2 lv), (a 47, aK ta 2 (qU cn 0 (cn 0 + 1))), (a 54, aS ta 300 (qU k' k1x (gtp (4 + k1x)))), (h0, oM a ar mn 0 osz lsz ns ct), (a 48, aT ta 2 ha1_47), (a 50, aK ta 2 cs1_47), (a 49, aS ta 408 gcm1_47), (a 27, aS ta 400 gtp)] := hD
                refine lv_iinc (pc := 85) (v := nI (k1x + 1)) (lv' := [(3, .int (nI (k1x + 1))), (2, .int (nI (tp - 4))), (1, .int (nI tp)), (0, .ref h0)]) hx hb dX10_send_85 hl (k := 0) rfl (by first | exact nI_add k1x 1 | rfl) (by decide) rfl (fun ls hl => ?_)
                refine lv_goto (pc := 88) (tgt := 66) hx hb dX10_send_88 (by decide) ?_
                exact ih66 (k1x + 1) (qU k' k1x (gtp (4 + k1x))) (by omega) (qSeg_s hs1 (by omega) (by first | rfl | (simp; done))) (by omega) _ _ (hP.sub [0, 1, 2, 3, 4, 5, 6, 7, 8, 9, 10, 11, 12, 13, 14, 15, 16, 17, 18, 19, 20, 21, 22, 23, 24, 25, 26, 27, 28, 29] rfl) (hD.sub [0, 1, 2, 3, 4, 5, 6, 7, 8, 9, 10, 11, 12, 13, 14, 15, 16, 17, 18, 19, 20, 21, 22, 23, 24, 25, 26, 27, 28, 29] (by decide) rfl) hS ls (lv_sub hl [0, 1, 2, 3] rfl)
          exact LP66 _ 0 gwk (by omega) (qSeg_0) (Nat.lt_succ_self _) _ _ (hP.sub [0, 1, 2, 3, 4, 5, 6, 7, 8, 9, 10, 11, 12, 13, 14, 15, 16, 17, 18, 19, 20, 21, 22, 23, 24, 25, 26, 27, 28, 29] rfl) (hD.sub [0, 1, 2, 3, 4, 5, 6, 7, 8, 9, 10, 11, 12, 13, 14, 15, 16, 17, 18, 19, 20, 21, 22, 23, 24, 25, 26, 27, 28, 29] (by decide) rfl) hS ls (lv_sub hl [0, 1, 2, 3] rfl)
        · skip
          rw [nI_leI (by omega) (by omega)] at c_4
          exfalso; omega
set_option maxHeartbeats 4000000 in
set_option maxRecDepth 100000 in
theorem ct_X10_send_3 (ll : Launch) (D : va_G) (ta : Nat → ClassId) {G : (Nat → Prop) → State → Heap → Prop} (hGok : GOK G) (h0 : Nat) (a : Nat → Nat) (ar : Nat) (mn : Nat) (tp : Nat) (osz : Nat) (lsz : Nat) (ns : Nat) (ct : Nat) (rk : Nat → BitVec 8) (ce : Nat → BitVec 8) (gm : Nat → BitVec 8) (mac : Nat → BitVec 8) (k1 : Nat → BitVec 8) (gbl : Nat → BitVec 8) (gco : Nat → BitVec 8) (gch : Nat → BitVec 8) (gke : Nat → BitVec 8) (gli : Nat → BitVec 8) (gcm : Nat → BitVec 8) (gwk : Nat → BitVec 8) (gtp : Nat → BitVec 8) (ru : Nat → Nat) (le : Nat → Nat) (se : Nat → Nat) (lv : Nat → Nat) (cn : Nat → Nat) (ha : Nat → Bool) (cs : Nat → Nat) (htp : 4 ≤ tp ∧ tp ≤ 204) (hse : se 0 = 2) (hlv : lv 0 < 256) (hl1 : lv 0 &&& 1 ≠ 0) (hru : ru 0 = 3) (hcn9 : cn 0 + 1 < 2147483648) (hle : le 0 = 16 ∨ le 0 = 24 ∨ le 0 = 32) (sz : Nat) : CT ll yX10_send cX10_send 5 (some .int) ({ frames := 6, cells := 0, slots := 0, locals := 154 } : Room) D ta G [.ref h0] [(h0, oM a ar mn tp osz lsz ns ct), (a 8, aZ ta 256 BOX), (a 9, aZ ta 256 UBOX), (a 16, aS ta 240 rk), (a 18, aS ta 16 ce), (a 22, aS ta 700 gm), (a 24, aS ta 16 mac), (a 25, aS ta 16 k1), (a 53, aS ta 16 gbl), (a 55, aS ta 16 gco), (a 45, aS ta 32 gch), (a 41, aS ta 256 gke), (a 36, aK ta 2 ru), (a 37, aK ta 2 le), (a 31, aS ta 300 gli), (a 39, aK ta 2 se), (a 40, aK ta 2 lv), (a 47, aK ta 2 cn), (a 48, aT ta 2 ha), (a 50, aK ta 2 cs), (a 49, aS ta 408 gcm), (a 54, aS ta 300 gwk), (a 27, aS ta 400 gtp)] sz (S := (Nat → BitVec 8) × (Nat → BitVec 8) × (Nat → BitVec 8) × (Nat → BitVec 8) × (Nat → BitVec 8) × (Nat → BitVec 8) × (Nat → BitVec 8) × (Nat → BitVec 8) × (Nat → BitVec 8) × (Nat → BitVec 8) × (Nat → BitVec 8) × (Nat → Nat) × (Nat → Bool) × (Nat → Nat) × Nat × Nat × Nat) (fun u => some (.int (nI u.2.2.2.2.2.2.2.2.2.2.2.2.2.2.2.1))) (fun u => (seg u.2.2.2.2.2.2.1 0 16 = chain3 (seg gke 32 (le 0)) (seg gch 0 16) (qL gtp tp) (secD3 (seg gke 0 (le 0)) (cn 0 + 1) (lv 0) (qL gtp tp))) ∧ (qL u.2.2.2.2.2.2.2.2.1 u.2.2.2.2.2.2.2.2.2.2.2.2.2.2.2.1 = putC (qL gtp tp) (secD3 (seg gke 0 (le 0)) (cn 0 + 1) (lv 0) (qL gtp tp)) (seg u.2.2.2.2.2.2.1 0 8)) ∧ (u.2.2.2.2.2.2.2.2.2.2.2.2.2.2.2.1 = (secD3 (seg gke 0 (le 0)) (cn 0 + 1) (lv 0) (qL gtp tp)).length + 12 ∧ u.2.2.2.2.2.2.2.2.2.2.2.2.2.2.2.1 ≤ 220) ∧ (seg u.2.2.2.2.2.2.2.1 0 16 = seg u.2.2.2.2.2.2.1 0 16) ∧ (∀ j, 16 ≤ j → u.2.2.2.2.2.2.2.1 j = gch j) ∧ (u.2.2.2.2.2.2.2.2.2.2.2.1 = qU cn 0 (cn 0 + 1)) ∧ (u.2.2.2.2.2.2.2.2.2.2.2.2.1 = qU ha 0 true) ∧ (u.2.2.2.2.2.2.2.2.2.2.2.2.2.1 = qU cs 0 tp) ∧ (seg u.2.2.2.2.2.2.2.2.2.1 0 tp = (qL gtp tp)) ∧ (∀ j, 204 ≤ j → u.2.2.2.2.2.2.2.2.2.1 j = gcm j)) (fun u => [(h0, oM a u.2.2.2.2.2.2.2.2.2.2.2.2.2.2.2.2 u.2.2.2.2.2.2.2.2.2.2.2.2.2.2.1 0 osz u.2.2.2.2.2.2.2.2.2.2.2.2.2.2.2.1 ns ct), (a 8, aZ ta 256 BOX), (a 9, aZ ta 256 UBOX), (a 16, aS ta 240 u.1), (a 18, aS ta 16 u.2.1), (a 22, aS ta 700 u.2.2.1), (a 24, aS ta 16 u.2.2.2.1), (a 25, aS ta 16 u.2.2.2.2.1), (a 53, aS ta 16 u.2.2.2.2.2.1), (a 55, aS ta 16 u.2.2.2.2.2.2.1), (a 45, aS ta 32 u.2.2.2.2.2.2.2.1), (a 41, aS ta 256 gke), (a 36, aK ta 2 ru), (a 37, aK ta 2 le), (a 31, aS ta 300 u.2.2.2.2.2.2.2.2.1), (a 39, aK ta 2 se), (a 40, aK ta 2 lv), (a 47, aK ta 2 u.2.2.2.2.2.2.2.2.2.2.2.1), (a 48, aT ta 2 u.2.2.2.2.2.2.2.2.2.2.2.2.1), (a 50, aK ta 2 u.2.2.2.2.2.2.2.2.2.2.2.2.2.1), (a 49, aS ta 408 u.2.2.2.2.2.2.2.2.2.1), (a 54, aS ta 300 u.2.2.2.2.2.2.2.2.2.2.1), (a 27, aS ta 400 gtp)]) 0 0 := by
  refine CT.of_i (r := fun u => nI u.2.2.2.2.2.2.2.2.2.2.2.2.2.2.2.1) rfl (by decide) (Nat.le_of_ble_eq_true rfl) ?_
  intro pp ee ss mm below meth kc A Q hx hb hml hown hin hts hK hA hsz hG hret H locs hP hD hS ls hl
  have hl : lv_has ls 5 [(0, .ref h0)] := hl
  refine lv_aload_n (pc := 0) hx hb dX10_send_0 rfl (lv_at hl 0 rfl) ?_
  refine cs_V (pc := 1) (idx := 310) (n := 0) (wr := [(a 8, aZ ta 256 BOX), (a 9, aZ ta 256 UBOX), (a 16, aS ta 240 rk), (a 18, aS ta 16 ce), (a 22, aS ta 700 gm), (a 24, aS ta 16 mac), (a 25, aS ta 16 k1), (a 53, aS ta 16 gbl), (a 55, aS ta 16 gco), (a 45, aS ta 32 gch), (a 41, aS ta 256 gke), (a 36, aK ta 2 ru), (a 37, aK ta 2 le), (a 31, aS ta 300 gli), (a 39, aK ta 2 se), (a 40, aK ta 2 lv), (a 47, aK ta 2 cn), (a 48, aT ta 2 ha), (a 50, aK ta 2 cs), (a 49, aS ta 408 gcm), (a 54, aS ta 300 gwk), (a 27, aS ta 400 gtp)]) (As := []) (rest := []) (ci := 8) hx hb hml hown hts hGok hK hA hG hl.1 hP hD hS (ct_X10_use ll D ta hGok h0 a ar mn tp osz lsz ns ct  H.size) tw_1254 tw_1251 tw_1253 tw_28 tw_75 hdX10_use rfl ⟨rfl, rfl, Nat.le_of_ble_eq_true rfl, Nat.le_of_ble_eq_true rfl, Nat.le_of_ble_eq_true rfl, Nat.le_of_ble_eq_true rfl⟩ rfl rfl (q0 := 0) rfl [0] [1, 2, 3, 4, 5, 6, 7, 8, 9, 10, 11, 12, 13, 14, 15, 16, 17, 18, 19, 20, 21, 22] rfl rfl (by decide) rfl (Nat.le_of_ble_eq_true rfl) dX10_send_1 (fun u H locs hq hP hD hS => ?_)
  refine W.eq (g2 := F0 mm 4 ls [.int (nI tp)]) rfl ?_
  have hP : va_P D vwCl [(a 8, aZ ta 256 BOX), (a 9, aZ ta 256 UBOX), (a 16, aS ta 240 rk), (a 18, aS ta 16 ce), (a 22, aS ta 700 gm), (a 24, aS ta 16 mac), (a 25, aS ta 16 k1), (a 53, aS ta 16 gbl), (a 55, aS ta 16 gco), (a 45, aS ta 32 gch), (a 41, aS ta 256 gke), (a 36, aK ta 2 ru), (a 37, aK ta 2 le), (a 31, aS ta 300 gli), (a 39, aK ta 2 se), (a 40, aK ta 2 lv), (a 47, aK ta 2 cn), (a 48, aT ta 2 ha), (a 50, aK ta 2 cs), (a 49, aS ta 408 gcm), (a 54, aS ta 300 gwk), (a 27, aS ta 400 gtp), (h0, oM a ar mn 0 osz lsz ns ct)] H := hP
  have hD : va_D A [(a 8, aZ ta 256 BOX), (a 9, aZ ta 256 UBOX), (a 16, aS ta 240 rk), (a 18, aS ta 16 ce), (a 22, aS ta 700 gm), (a 24, aS ta 16 mac), (a 25, aS ta 16 k1), (a 53, aS ta 16 gbl), (a 55, aS ta 16 gco), (a 45, aS ta 32 gch), (a 41, aS ta 256 gke), (a 36, aK ta 2 ru), (a 37, aK ta 2 le), (a 31, aS ta 300 gli), (a 39, aK ta 2 se), (a 40, aK ta 2 lv), (a 47, aK ta 2 cn), (a 48, aT ta 2 ha), (a 50, aK ta 2 cs), (a 49, aS ta 408 gcm), (a 54, aS ta 300 gwk), (a 27, aS ta 400 gtp), (h0, oM a ar mn 0 osz lsz ns ct)] := hD
  refine lv_istore_n (pc := 4) (lv' := [(1, .int (nI tp)), (0, .ref h0)]) hx hb dX10_send_4 rfl hl (by decide) rfl (fun ls hl => ?_)
  have hlm1 : lv 0 &&& 1 ≤ 1 := Nat.and_le_right
  have hlm2 : lv 0 &&& 2 ≤ 2 := Nat.and_le_right
  refine lv_aload_n (pc := 5) hx hb dX10_send_5 rfl (lv_at hl 1 rfl) ?_
  refine va_get (pc := 6) (D := D) (ci := 8) (v := .ref (a 39)) (C := RX10) (T := TX10) (N := 57) hx hb hts iu10 hown hK hP 22 rfl rfl 39 (by decide) (hts _ tw_1084) (fun _ h9 => h9) rfl dX10_send_6 ?_
  refine lv_iconst (pc := 9) (v := nI 0) hx hb dX10_send_9 (by decide +kernel) ?_
  refine q_iald (pc := 10) hx hb hK hP 14 0 rfl rfl (k := 0) (v := nI (se 0)) rfl (by omega) (by omega) rfl dX10_send_10 ?_
  refine lv_iconst (pc := 11) (v := nI 2) hx hb dX10_send_11 (by decide +kernel) ?_
  refine lv_icmp_ne (pc := 12) (tgt := 38) hx hb dX10_send_12 (by decide) (fun c_1 => ?_) (fun c_1 => ?_)
  · skip
    rw [nI_eq (by omega) (by omega)] at c_1
    exfalso; omega
  · skip
    rw [nI_eq (by omega) (by omega)] at c_1
    refine lv_aload_n (pc := 15) hx hb dX10_send_15 rfl (lv_at hl 1 rfl) ?_
    refine va_get (pc := 16) (D := D) (ci := 8) (v := .ref (a 40)) (C := RX10) (T := TX10) (N := 57) hx hb hts iu10 hown hK hP 22 rfl rfl 40 (by decide) (hts _ tw_1085) (fun _ h9 => h9) rfl dX10_send_16 ?_
    refine lv_iconst (pc := 19) (v := nI 0) hx hb dX10_send_19 (by decide +kernel) ?_
    refine q_iald (pc := 20) hx hb hK hP 15 0 rfl rfl (k := 0) (v := nI (lv 0)) rfl (by omega) (by omega) rfl dX10_send_20 ?_
    refine lv_iconst (pc := 21) (v := nI 1) hx hb dX10_send_21 (by decide +kernel) ?_
    refine lv_iand (pc := 22) hx hb dX10_send_22 ?_
    refine q_top (y := nI (lv 0 &&& 1)) (nI_and (by omega) (by omega)) ?_
    refine lv_if_eq (pc := 23) (tgt := 38) hx hb dX10_send_23 (by decide) (fun c_2 => ?_) (fun c_2 => ?_)
    · skip
      rw [q_eq0 (by omega)] at c_2
      exfalso; omega
    · skip
      rw [q_eq0 (by omega)] at c_2
      refine lv_iload_n (pc := 26) hx hb dX10_send_26 rfl (lv_at hl 0 rfl) ?_
      refine lv_iconst (pc := 27) (v := nI 4) hx hb dX10_send_27 (by decide +kernel) ?_
      refine lv_icmp_lt (pc := 28) (tgt := 38) hx hb dX10_send_28 (by decide) (fun c_3 => ?_) (fun c_3 => ?_)
      · skip
        rw [nI_ltI (by omega) (by omega)] at c_3
        exfalso; omega
      · skip
        rw [nI_ltI (by omega) (by omega)] at c_3
        refine lv_iload_n (pc := 31) hx hb dX10_send_31 rfl (lv_at hl 0 rfl) ?_
        refine lv_sipush (pc := 32) (v := nI 204) hx hb dX10_send_32 (by decide +kernel) ?_
        refine lv_icmp_le (pc := 35) (tgt := 40) hx hb dX10_send_35 (by decide) (fun c_4 => ?_) (fun c_4 => ?_)
        · skip
          rw [nI_leI (by omega) (by omega)] at c_4
          refine lv_aload_n (pc := 40) hx hb dX10_send_40 rfl (lv_at hl 1 rfl) ?_
          refine lv_iconst (pc := 41) (v := nI 0) hx hb dX10_send_41 (by decide +kernel) ?_
          refine lv_aload_n (pc := 42) hx hb dX10_send_42 rfl (lv_at hl 1 rfl) ?_
          refine va_get (pc := 43) (D := D) (ci := 8) (v := .ref (a 27)) (C := RX10) (T := TX10) (N := 57) hx hb hts iu10 hown hK hP 22 rfl rfl 27 (by decide) (hts _ tw_1072) (fun _ h9 => h9) rfl dX10_send_43 ?_
          refine lv_iload_n (pc := 46) hx hb dX10_send_46 rfl (lv_at hl 0 rfl) ?_
          refine cs_V (pc := 47) (idx := 377) (n := 3) (wr := [(a 8, aZ ta 256 BOX), (a 9, aZ ta 256 UBOX), (a 16, aS ta 240 rk), (a 18, aS ta 16 ce), (a 22, aS ta 700 gm), (a 24, aS ta 16 mac), (a 25, aS ta 16 k1), (a 53, aS ta 16 gbl), (a 55, aS ta 16 gco), (a 45, aS ta 32 gch), (a 41, aS ta 256 gke), (a 36, aK ta 2 ru), (a 37, aK ta 2 le), (a 31, aS ta 300 gli), (a 39, aK ta 2 se), (a 40, aK ta 2 lv), (a 47, aK ta 2 cn), (a 54, aS ta 300 gwk)]) (As := [.int (nI 0), .ref (a 27), .int (nI tp)]) (rest := []) (ci := 8) hx hb hml hown hts hGok hK hA hG hl.1 hP hD hS (ct_X10_keepCommand ll D ta hGok h0 a ar mn 0 osz lsz ns ct ha cs gcm 0 (a 27) 400 gtp tp (by first | assumption | omega | rfl | decide) (by first | assumption | omega | rfl | decide) H.size) tw_1384 tw_1381 tw_1383 tw_52 tw_75 hdX10_keepCommand rfl ⟨rfl, rfl, Nat.le_of_ble_eq_true rfl, Nat.le_of_ble_eq_true rfl, Nat.le_of_ble_eq_true rfl, Nat.le_of_ble_eq_true rfl⟩ rfl rfl (q0 := 22) rfl [22, 17, 18, 19, 21] [0, 1, 2, 3, 4, 5, 6, 7, 8, 9, 10, 11, 12, 13, 14, 15, 16, 20] rfl rfl (by decide) rfl (Nat.le_of_ble_eq_true rfl) dX10_send_47 (fun u H locs hq hP hD hS => ?_)
          obtain ⟨ha1_47, cs1_47, gcm1_47⟩ := u
          have hq : (ha1_47 = qU ha 0 true) ∧ (cs1_47 = qU cs 0 tp) ∧ (seg gcm1_47 (204 * 0) tp = qL gtp tp) ∧ (∀ jz, (jz < 204 * 0 ∨ 204 * 0 + 204 ≤ jz) → gcm1_47 jz = gcm jz) := hq
          obtain ⟨hha_47, hcs_47, hs_47, hfr_47⟩ := hq
          refine W.eq (g2 := F0 mm 50 ls []) rfl ?_
          have hP : va_P D vwCl [(a 8, aZ ta 256 BOX), (a 9, aZ ta 256 UBOX), (a 16, aS ta 240 rk), (a 18, aS ta 16 ce), (a 22, aS ta 700 gm), (a 24, aS ta 16 mac), (a 25, aS ta 16 k1), (a 53, aS ta 16 gbl), (a 55, aS ta 16 gco), (a 45, aS ta 32 gch), (a 41, aS ta 256 gke), (a 36, aK ta 2 ru), (a 37, aK ta 2 le), (a 31, aS ta 300 gli), (a 39, aK ta 2 se), (a 40, aK ta 2 lv), (a 47, aK ta 2 cn), (a 54, aS ta 300 gwk), (h0, oM a ar mn 0 osz lsz ns ct), (a 48, aT ta 2 ha1_47), (a 50, aK ta 2 cs1_47), (a 49, aS ta 408 gcm1_47), (a 27, aS ta 400 gtp)] H := hP
          have hD : va_D A [(a 8, aZ ta 256 BOX), (a 9, aZ ta 256 UBOX), (a 16, aS ta 240 rk), (a 18, aS ta 16 ce), (a 22, aS ta 700 gm), (a 24, aS ta 16 mac), (a 25, aS ta 16 k1), (a 53, aS ta 16 gbl), (a 55, aS ta 16 gco), (a 45, aS ta 32 gch), (a 41, aS ta 256 gke), (a 36, aK ta 2 ru), (a 37, aK ta 2 le), (a 31, aS ta 300 gli), (a 39, aK ta 2 se), (a 40, aK ta 2 lv), (a 47, aK ta 2 cn), (a 54, aS ta 300 gwk), (h0, oM a ar mn 0 osz lsz ns ct), (a 48, aT ta 2 ha1_47), (a 50, aK ta 2 cs1_47), (a 49, aS ta 408 gcm1_47), (a 27, aS ta 400 gtp)] := hD
          refine lv_aload_n (pc := 50) hx hb dX10_send_50 rfl (lv_at hl 1 rfl) ?_
          refine va_get (pc := 51) (D := D) (ci := 8) (v := .ref (a 47)) (C := RX10) (T := TX10) (N := 57) hx hb hts iu10 hown hK hP 18 rfl rfl 47 (by decide) (hts _ tw_1092) (fun _ h9 => h9) rfl dX10_send_51 ?_
          refine lv_iconst (pc := 54) (v := nI 0) hx hb dX10_send_54 (by decide +kernel) ?_
          refine lv_dup2_11 (pc := 55) hx hb dX10_send_55 rfl rfl ?_
          refine q_iald (pc := 56) hx hb hK hP 16 0 rfl rfl (k := 0) (v := nI (cn 0)) rfl (by omega) (by omega) rfl dX10_send_56 ?_
          refine lv_iconst (pc := 57) (v := nI 1) hx hb dX10_send_57 (by decide +kernel) ?_
          refine lv_iadd (pc := 58) hx hb dX10_send_58 ?_
          refine q_top (y := nI (cn 0 + 1)) (nI_add (cn 0) 1) ?_
          refine q_iastK (pc := 59) hx hb hK hP hD hS 16 0 rfl rfl (k := 0) rfl (by omega) (by omega) (b := cn 0 + 1) rfl dX10_send_59 (fun H locs hP hD hS => ?_)
          have hP : va_P D vwCl [(a 8, aZ ta 256 BOX), (a 9, aZ ta 256 UBOX), (a 16, aS ta 240 rk), (a 18, aS ta 16 ce), (a 22, aS ta 700 gm), (a 24, aS ta 16 mac), (a 25, aS ta 16 k1), (a 53, aS ta 16 gbl), (a 55, aS ta 16 gco), (a 45, aS ta 32 gch), (a 41, aS ta 256 gke), (a 36, aK ta 2 ru), (a 37, aK ta 2 le), (a 31, aS ta 300 gli), (a 39, aK ta 2 se), (a 40, aK ta 2 lv), (a 47, aK ta 2 (qU cn 0 (cn 0 + 1))), (a 54, aS ta 300 gwk), (h0, oM a ar mn 0 osz lsz ns ct), (a 48, aT ta 2 ha1_47), (a 50, aK ta 2 cs1_47), (a 49, aS ta 408 gcm1_47), (a 27, aS ta 400 gtp)] H := hP
          have hD : va_D A [(a 8, aZ ta 256 BOX), (a 9, aZ ta 256 UBOX), (a 16, aS ta 240 rk), (a 18, aS ta 16 ce), (a 22, aS ta 700 gm), (a 24, aS ta 16 mac), (a 25, aS ta 16 k1), (a 53, aS ta 16 gbl), (a 55, aS ta 16 gco), (a 45, aS ta 32 gch), (a 41, aS ta 256 gke), (a 36, aK ta 2 ru), (a 37, aK ta 2 le), (a 31, aS ta 300 gli), (a 39, aK ta 2 se), (a 40, aK ta 2 lv), (a 47, aK ta 2 (qU cn 0 (cn 0 + 1))), (a 54, aS ta 300 gwk), (h0, oM a ar mn 0 osz lsz ns ct), (a 48, aT ta 2 ha1_47), (a 50, aK ta 2 cs1_47), (a 49, aS ta 408 gcm1_47), (a 27, aS ta 400 gtp)] := hD
          refine lv_iload_n (pc := 60) hx hb dX10_send_60 rfl (lv_at hl 0 rfl) ?_
          refine lv_iconst (pc := 61) (v := nI 4) hx hb dX10_send_61 (by decide +kernel) ?_
          refine lv_isub (pc := 62) hx hb dX10_send_62 ?_
          refine q_top (y := nI (tp - 4)) (pk_sub (a := tp) (b := 4) (by omega)) ?_
          refine lv_istore_n (pc := 63) (lv' := [(2, .int (nI (tp - 4))), (1, .int (nI tp)), (0, .ref h0)]) hx hb dX10_send_63 rfl hl (by decide) rfl (fun ls hl => ?_)
          refine lv_iconst (pc := 64) (v := nI 0) hx hb dX10_send_64 (by decide +kernel) ?_
          refine lv_istore_n (pc := 65) (lv' := [(3, .int (nI 0)), (2, .int (nI (tp - 4))), (1, .int (nI tp)), (0, .ref h0)]) hx hb dX10_send_65 rfl hl (by decide) rfl (fun ls hl => ?_)
          have LP66 : ∀ (nn66 : Nat) (k1x : Nat) (k' : Nat → BitVec 8), (k1x ≤ tp - 4) → (qSeg k' gwk 0 k1x ((fun j => gtp (4 + j)))) → (tp - 4 - k1x < nn66) → ∀ (H : Heap) (locs : List Loc), va_P D vwCl [(a 8, aZ ta 256 BOX), (a 9, aZ ta 256 UBOX), (a 16, aS ta 240 rk), (a 18, aS ta 16 ce), (a 22, aS ta 700 gm), (a 24, aS ta 16 mac), (a 25, aS ta 16 k1), (a 53, aS ta 16 gbl), (a 55, aS ta 16 gco), (a 45, aS ta 32 gch), (a 41, aS ta 256 gke), (a 36, aK ta 2 ru), (a 37, aK ta 2 le), (a 31, aS ta 300 gli), (a 39, aK ta 2 se), (a 40, aK ta 2 lv), (a 47, aK ta 2 (qU cn 0 (cn 0 + 1))), (a 54, aS ta 300 k'), (h0, oM a ar mn 0 osz lsz ns ct), (a 48, aT ta 2 ha1_47), (a 50, aK ta 2 cs1_47), (a 49, aS ta 408 gcm1_47), (a 27, aS ta 400 gtp)] H → va_D A [(a 8, aZ ta 256 BOX), (a 9, aZ ta 256 UBOX), (a 16, aS ta 240 rk), (a 18, aS ta 16 ce), (a 22, aS ta 700 gm), (a 24, aS ta 16 mac), (a 25, aS ta 16 k1), (a 53, aS ta 16 gbl), (a 55, aS ta 16 gco), (a 45, aS ta 32 gch), (a 41, aS ta 256 gke), (a 36, aK ta 2 ru), (a 37, aK ta 2 le), (a 31, aS ta 300 gli), (a 39, aK ta 2 se), (a 40, aK ta 2 lv), (a 47, aK ta 2 (qU cn 0 (cn 0 + 1))), (a 54, aS ta 300 k'), (h0, oM a ar mn 0 osz lsz ns ct), (a 48, aT ta 2 ha1_47), (a 50, aK ta 2 cs1_47), (a 49, aS ta 408 gcm1_47), (a 27, aS ta 400 gtp)] → va_S A ss.heap H locs → ∀ ls : Array Slot, lv_has ls 5 [(3, .int (nI k1x)), (2, .int (nI (tp - 4))), (1, .int (nI tp)), (0, .ref h0)] → W pp ll ee ({ frames := 6, cells := 0, slots := 0, locals := 154 } : Room) ss mm (([.ref h0] : List Value).toArray) below meth kc H locs 0 0 Q (F0 mm 66 ls []) := by
            intro nn66
            induction nn66 with
            | zero => intro k1x k' hkk1 hs1 hmu; exact absurd hmu (Nat.not_lt_zero _)
            | succ nn66 ih66 =>
              intro k1x k' hkk1 hs1 hmu66 H locs hP hD hS ls hl
              refine lv_iload_n (pc := 66) hx hb dX10_send_66 rfl (lv_at hl 0 rfl) ?_
              refine lv_iload_n (pc := 67) hx hb dX10_send_67 rfl (lv_at hl 1 rfl) ?_
              refine lv_icmp_ge (pc := 68) (tgt := 91) hx hb dX10_send_68 (by decide) (fun c_5 => ?_) (fun c_5 => ?_)
              · skip
                rw [nI_leI (by omega) (by omega)] at c_5
                have hwk : qL k' (tp - 4) = (qL gtp tp).drop 4 := by rw [← seg_0, seg_copy hs1 (by omega), drop4_seg]
                refine lv_aload_n (pc := 91) hx hb dX10_send_91 rfl (lv_at hl 3 rfl) ?_
                have JN111 : ∀ (hd9 : Nat), ((hd9 = 1 ∧ 0 < lv 0 &&& 2 ∧ 0 < tp - 4) ∨ (hd9 = 0 ∧ ¬ (0 < lv 0 &&& 2 ∧ 0 < tp - 4))) → ∀ (H : Heap) (locs : List Loc), va_P D vwCl [(a 8, aZ ta 256 BOX), (a 9, aZ ta 256 UBOX), (a 16, aS ta 240 rk), (a 18, aS ta 16 ce), (a 22, aS ta 700 gm), (a 24, aS ta 16 mac), (a 25, aS ta 16 k1), (a 53, aS ta 16 gbl), (a 55, aS ta 16 gco), (a 45, aS ta 32 gch), (a 41, aS ta 256 gke), (a 36, aK ta 2 ru), (a 37, aK ta 2 le), (a 31, aS ta 300 gli), (a 39, aK ta 2 se), (a 40, aK ta 2 lv), (a 47, aK ta 2 (qU cn 0 (cn 0 + 1))), (a 54, aS ta 300 k'), (h0, oM a ar mn 0 osz lsz ns ct), (a 48, aT ta 2 ha1_47), (a 50, aK ta 2 cs1_47), (a 49, aS ta 408 gcm1_47), (a 27, aS ta 400 gtp)] H → va_D A [(a 8, aZ ta 256 BOX), (a 9, aZ ta 256 UBOX), (a 16, aS ta 240 rk), (a 18, aS ta 16 ce), (a 22, aS ta 700 gm), (a 24, aS ta 16 mac), (a 25, aS ta 16 k1), (a 53, aS ta 16 gbl), (a 55, aS ta 16 gco), (a 45, aS ta 32 gch), (a 41, aS ta 256 gke), (a 36, aK ta 2 ru), (a 37, aK ta 2 le), (a 31, aS ta 300 gli), (a 39, aK ta 2 se), (a 40, aK ta 2 lv), (a 47, aK ta 2 (qU cn 0 (cn 0 + 1))), (a 54, aS ta 300 k'), (h0, oM a ar mn 0 osz lsz ns ct), (a 48, aT ta 2 ha1_47), (a 50, aK ta 2 cs1_47), (a 49, aS ta 408 gcm1_47), (a 27, aS ta 400 gtp)] → va_S A ss.heap H locs → ∀ ls : Array Slot, lv_has ls 5 [(3, .int (nI k1x)), (2, .int (nI (tp - 4))), (1, .int (nI tp)), (0, .ref h0)] → W pp ll ee ({ frames := 6, cells := 0, slots := 0, locals := 154 } : Room) ss mm (([.ref h0] : List Value).toArray) below meth kc H locs 0 0 Q (F0 mm 111 ls [.int (nI hd9)]) := by
                  intro hd9 hhd H locs hP hD hS ls hl
                  refine lv_istore_n (pc := 111) (lv' := [(3, .int (nI hd9)), (2, .int (nI (tp - 4))), (1, .int (nI tp)), (0, .ref h0)]) hx hb dX10_send_111 rfl hl (by decide) rfl (fun ls hl => ?_)
                  refine lv_aload_n (pc := 112) hx hb dX10_send_112 rfl (lv_at hl 3 rfl) ?_
                  refine va_get (pc := 113) (D := D) (ci := 8) (v := .ref (a 36)) (C := RX10) (T := TX10) (N := 57) hx hb hts iu10 hown hK hP 18 rfl rfl 36 (by decide) (hts _ tw_1081) (fun _ h9 => h9) rfl dX10_send_113 ?_
                  refine lv_iconst (pc := 116) (v := nI 0) hx hb dX10_send_116 (by decide +kernel) ?_
                  refine q_iald (pc := 117) hx hb hK hP 11 0 rfl rfl (k := 0) (v := nI (ru 0)) rfl (by omega) (by omega) rfl dX10_send_117 ?_
                  refine lv_iconst (pc := 118) (v := nI 2) hx hb dX10_send_118 (by decide +kernel) ?_
                  refine lv_icmp_ne (pc := 119) (tgt := 139) hx hb dX10_send_119 (by decide) (fun c_6 => ?_) (fun c_6 => ?_)
                  · skip
                    rw [nI_eq (by omega) (by omega)] at c_6
                    have JN151 : ∀ (m9 : Nat) (w9 : Nat → BitVec 8) (b9 : Nat → BitVec 8) (rk9 : Nat → BitVec 8) (ce9 : Nat → BitVec 8) (ar9 : Nat), ((secD3 (seg gke 0 (le 0)) (cn 0 + 1) (lv 0) (qL gtp tp)) = qL w9 m9) → (m9 ≤ 208) → ∀ (H : Heap) (locs : List Loc), va_P D vwCl [(a 8, aZ ta 256 BOX), (a 9, aZ ta 256 UBOX), (a 16, aS ta 240 rk9), (a 18, aS ta 16 ce9), (a 22, aS ta 700 gm), (a 24, aS ta 16 mac), (a 25, aS ta 16 k1), (a 53, aS ta 16 b9), (a 55, aS ta 16 gco), (a 45, aS ta 32 gch), (a 41, aS ta 256 gke), (a 36, aK ta 2 ru), (a 37, aK ta 2 le), (a 31, aS ta 300 gli), (a 39, aK ta 2 se), (a 40, aK ta 2 lv), (a 47, aK ta 2 (qU cn 0 (cn 0 + 1))), (a 54, aS ta 300 w9), (h0, oM a ar9 mn 0 osz lsz ns ct), (a 48, aT ta 2 ha1_47), (a 50, aK ta 2 cs1_47), (a 49, aS ta 408 gcm1_47), (a 27, aS ta 400 gtp)] H → va_D A [(a 8, aZ ta 256 BOX), (a 9, aZ ta 256 UBOX), (a 16, aS ta 240 rk9), (a 18, aS ta 16 ce9), (a 22, aS ta 700 gm), (a 24, aS ta 16 mac), (a 25, aS ta 16 k1), (a 53, aS ta 16 b9), (a 55, aS ta 16 gco), (a 45, aS ta 32 gch), (a 41, aS ta 256 gke), (a 36, aK ta 2 ru), (a 37, aK ta 2 le), (a 31, aS ta 300 gli), (a 39, aK ta 2 se), (a 40, aK ta 2 lv), (a 47, aK ta 2 (qU cn 0 (cn 0 + 1))), (a 54, aS ta 300 w9), (h0, oM a ar9 mn 0 osz lsz ns ct), (a 48, aT ta 2 ha1_47), (a 50, aK ta 2 cs1_47), (a 49, aS ta 408 gcm1_47), (a 27, aS ta 400 gtp)] → va_S A ss.heap H locs → ∀ ls : Array Slot, lv_has ls 5 [(3, .int (nI hd9)), (2, .int (nI m9)), (1, .int (nI tp)), (0, .ref h0)] → W pp ll ee ({ frames := 6, cells := 0, slots := 0, locals := 154 } : Room) ss mm (([.ref h0] : List Value).toArray) below meth kc H locs 0 0 Q (F0 mm 151 ls []) := by
                      intro m9 w9 b9 rk9 ce9 ar9 hD9 hm9 H locs hP hD hS ls hl
                      refine lv_aload_n (pc := 151) hx hb dX10_send_151 rfl (lv_at hl 3 rfl) ?_
                      refine va_get (pc := 152) (D := D) (ci := 8) (v := .ref (a 36)) (C := RX10) (T := TX10) (N := 57) hx hb hts iu10 hown hK hP 18 rfl rfl 36 (by decide) (hts _ tw_1081) (fun _ h9 => h9) rfl dX10_send_152 ?_
                      refine lv_iconst (pc := 155) (v := nI 0) hx hb dX10_send_155 (by decide +kernel) ?_
                      refine q_iald (pc := 156) hx hb hK hP 11 0 rfl rfl (k := 0) (v := nI (ru 0)) rfl (by omega) (by omega) rfl dX10_send_156 ?_
                      refine lv_iconst (pc := 157) (v := nI 3) hx hb dX10_send_157 (by decide +kernel) ?_
                      refine lv_icmp_ne (pc := 158) (tgt := 178) hx hb dX10_send_158 (by decide) (fun c_7 => ?_) (fun c_7 => ?_)
                      · skip
                        rw [nI_eq (by omega) (by omega)] at c_7
                        exfalso; omega
                      · skip
                        rw [nI_eq (by omega) (by omega)] at c_7
                        refine lv_aload_n (pc := 161) hx hb dX10_send_161 rfl (lv_at hl 3 rfl) ?_
                        refine lv_iconst (pc := 162) (v := nI 0) hx hb dX10_send_162 (by decide +kernel) ?_
                        refine lv_aload_n (pc := 163) hx hb dX10_send_163 rfl (lv_at hl 3 rfl) ?_
                        refine va_get (pc := 164) (D := D) (ci := 8) (v := .ref (a 27)) (C := RX10) (T := TX10) (N := 57) hx hb hts iu10 hown hK hP 18 rfl rfl 27 (by decide) (hts _ tw_1072) (fun _ h9 => h9) rfl dX10_send_164 ?_
                        refine lv_iconst (pc := 167) (v := nI 0) hx hb dX10_send_167 (by decide +kernel) ?_
                        refine lv_aload_n (pc := 168) hx hb dX10_send_168 rfl (lv_at hl 3 rfl) ?_
                        refine va_get (pc := 169) (D := D) (ci := 8) (v := .ref (a 54)) (C := RX10) (T := TX10) (N := 57) hx hb hts iu10 hown hK hP 18 rfl rfl 54 (by decide) (hts _ tw_1099) (fun _ h9 => h9) rfl dX10_send_169 ?_
                        refine lv_iconst (pc := 172) (v := nI 0) hx hb dX10_send_172 (by decide +kernel) ?_
                        refine lv_iload_n (pc := 173) hx hb dX10_send_173 rfl (lv_at hl 1 rfl) ?_
                        refine lv_iconst (pc := 174) (v := nI 0) hx hb dX10_send_174 (by decide +kernel) ?_
                        refine cs_V (pc := 175) (idx := 360) (n := 7) (wr := [(a 31, aS ta 300 gli), (a 39, aK ta 2 se), (a 40, aK ta 2 lv), (a 47, aK ta 2 (qU cn 0 (cn 0 + 1))), (a 48, aT ta 2 ha1_47), (a 50, aK ta 2 cs1_47), (a 49, aS ta 408 gcm1_47)]) (As := [.int (nI 0), .ref (a 27), .int (nI 0), .ref (a 54), .int (nI 0), .int (nI m9), .int (nI 0)]) (rest := []) (ci := 8) hx hb hml hown hts hGok hK hA hG hl.1 hP hD hS (ct_X10_commandMac_300 ll D ta hGok h0 a ar9 mn 0 osz lsz ns ct rk9 ce9 gm mac k1 b9 gco gch gke ru le 0 (a 27) 400 gtp (a 54) 300 w9 0 m9 (by first | assumption | omega | rfl | decide) (by first | assumption | omega | rfl | decide) (by first | assumption | omega | rfl | decide) (by first | assumption | omega | rfl | decide) (by first | assumption | omega | rfl | decide) (by first | assumption | omega | rfl | decide) (by first | assumption | omega | rfl | decide) H.size) tw_1368 tw_1365 tw_1367 tw_49 tw_75 hdX10_commandMac rfl ⟨rfl, rfl, Nat.le_of_ble_eq_true rfl, Nat.le_of_ble_eq_true rfl, Nat.le_of_ble_eq_true rfl, Nat.le_of_ble_eq_true rfl⟩ rfl rfl (q0 := 18) rfl [18, 0, 1, 2, 3, 4, 5, 6, 7, 8, 9, 10, 11, 12, 22, 17] [13, 14, 15, 16, 19, 20, 21] rfl rfl (by decide) rfl (Nat.le_of_ble_eq_true rfl) dX10_send_175 (fun u H locs hq hP hD hS => ?_)
                        obtain ⟨rk1_175, ce1_175, gm1_175, mac1_175, k11_175, gbl1_175, gco1_175, gch1_175, mn1_175, ar1_175⟩ := u
                        have hq : (seg gco1_175 0 16 = cmacL (seg gke (128 * 0 + 32) (le 0)) ((seg gch (16 * 0) 16) ++ (headL (seg gtp 0 4) m9 ++ seg w9 0 m9))) ∧ (seg gch1_175 (16 * 0) 16 = seg gco1_175 0 16) ∧ (∀ jz, (jz < 16 * 0 ∨ 16 * 0 + 16 ≤ jz) → gch1_175 jz = gch jz) := hq
                        obtain ⟨hs_175, hc_175, hfc_175⟩ := hq
                        refine W.eq (g2 := F0 mm 178 ls []) rfl ?_
                        have hP : va_P D vwCl [(a 31, aS ta 300 gli), (a 39, aK ta 2 se), (a 40, aK ta 2 lv), (a 47, aK ta 2 (qU cn 0 (cn 0 + 1))), (a 48, aT ta 2 ha1_47), (a 50, aK ta 2 cs1_47), (a 49, aS ta 408 gcm1_47), (h0, oM a ar1_175 mn1_175 0 osz lsz ns ct), (a 8, aZ ta 256 BOX), (a 9, aZ ta 256 UBOX), (a 16, aS ta 240 rk1_175), (a 18, aS ta 16 ce1_175), (a 22, aS ta 700 gm1_175), (a 24, aS ta 16 mac1_175), (a 25, aS ta 16 k11_175), (a 53, aS ta 16 gbl1_175), (a 55, aS ta 16 gco1_175), (a 45, aS ta 32 gch1_175), (a 41, aS ta 256 gke), (a 36, aK ta 2 ru), (a 37, aK ta 2 le), (a 27, aS ta 400 gtp), (a 54, aS ta 300 w9)] H := hP
                        have hD : va_D A [(a 31, aS ta 300 gli), (a 39, aK ta 2 se), (a 40, aK ta 2 lv), (a 47, aK ta 2 (qU cn 0 (cn 0 + 1))), (a 48, aT ta 2 ha1_47), (a 50, aK ta 2 cs1_47), (a 49, aS ta 408 gcm1_47), (h0, oM a ar1_175 mn1_175 0 osz lsz ns ct), (a 8, aZ ta 256 BOX), (a 9, aZ ta 256 UBOX), (a 16, aS ta 240 rk1_175), (a 18, aS ta 16 ce1_175), (a 22, aS ta 700 gm1_175), (a 24, aS ta 16 mac1_175), (a 25, aS ta 16 k11_175), (a 53, aS ta 16 gbl1_175), (a 55, aS ta 16 gco1_175), (a 45, aS ta 32 gch1_175), (a 41, aS ta 256 gke), (a 36, aK ta 2 ru), (a 37, aK ta 2 le), (a 27, aS ta 400 gtp), (a 54, aS ta 300 w9)] := hD
                        have hch9 : seg gco1_175 0 16 = chain3 (seg gke 32 (le 0)) (seg gch 0 16) (qL gtp tp) (secD3 (seg gke 0 (le 0)) (cn 0 + 1) (lv 0) (qL gtp tp)) := by
                          rw [hs_175, chain3, hD9, head_qL (n := tp) (by omega), qL_len, seg_0 (g := w9), List.append_assoc] <;> rfl
                        refine lv_aload_n (pc := 178) hx hb dX10_send_178 rfl (lv_at hl 3 rfl) ?_
                        refine va_get (pc := 179) (D := D) (ci := 8) (v := .ref (a 31)) (C := RX10) (T := TX10) (N := 57) hx hb hts iu10 hown hK hP 7 rfl rfl 31 (by decide) (hts _ tw_1076) (fun _ h9 => h9) rfl dX10_send_179 ?_
                        refine lv_iconst (pc := 182) (v := nI 0) hx hb dX10_send_182 (by decide +kernel) ?_
                        refine lv_aload_n (pc := 183) hx hb dX10_send_183 rfl (lv_at hl 3 rfl) ?_
                        refine va_get (pc := 184) (D := D) (ci := 8) (v := .ref (a 27)) (C := RX10) (T := TX10) (N := 57) hx hb hts iu10 hown hK hP 7 rfl rfl 27 (by decide) (hts _ tw_1072) (fun _ h9 => h9) rfl dX10_send_184 ?_
                        refine lv_iconst (pc := 187) (v := nI 0) hx hb dX10_send_187 (by decide +kernel) ?_
                        refine q_bald (pc := 188) hx hb hK hP 21 2 rfl rfl (k := 0) (v := qs (gtp 0)) rfl (by omega) (by omega) rfl dX10_send_188 ?_
                        refine lv_iconst (pc := 189) (v := nI 4) hx hb dX10_send_189 (by decide +kernel) ?_
                        refine lv_ior (pc := 190) hx hb dX10_send_190 ?_
                        refine lv_i2b (pc := 191) (v := qs (qlo ((qs (gtp 0)) ||| (nI 4)))) hx hb dX10_send_191 (q_i2b _) ?_
                        refine q_bastS (pc := 192) hx hb hK hP hD hS 0 2 rfl rfl (k := 0) rfl (by omega) (by omega) (b := qlo ((qs (gtp 0)) ||| (nI 4))) (qlo_qs _) dX10_send_192 (fun H locs hP hD hS => ?_)
                        have hP : va_P D vwCl [(a 31, aS ta 300 (qU gli 0 (qlo ((qs (gtp 0)) ||| (nI 4))))), (a 39, aK ta 2 se), (a 40, aK ta 2 lv), (a 47, aK ta 2 (qU cn 0 (cn 0 + 1))), (a 48, aT ta 2 ha1_47), (a 50, aK ta 2 cs1_47), (a 49, aS ta 408 gcm1_47), (h0, oM a ar1_175 mn1_175 0 osz lsz ns ct), (a 8, aZ ta 256 BOX), (a 9, aZ ta 256 UBOX), (a 16, aS ta 240 rk1_175), (a 18, aS ta 16 ce1_175), (a 22, aS ta 700 gm1_175), (a 24, aS ta 16 mac1_175), (a 25, aS ta 16 k11_175), (a 53, aS ta 16 gbl1_175), (a 55, aS ta 16 gco1_175), (a 45, aS ta 32 gch1_175), (a 41, aS ta 256 gke), (a 36, aK ta 2 ru), (a 37, aK ta 2 le), (a 27, aS ta 400 gtp), (a 54, aS ta 300 w9)] H := hP
                        have hD : va_D A [(a 31, aS ta 300 (qU gli 0 (qlo ((qs (gtp 0)) ||| (nI 4))))), (a 39, aK ta 2 se), (a 40, aK ta 2 lv), (a 47, aK ta 2 (qU cn 0 (cn 0 + 1))), (a 48, aT ta 2 ha1_47), (a 50, aK ta 2 cs1_47), (a 49, aS ta 408 gcm1_47), (h0, oM a ar1_175 mn1_175 0 osz lsz ns ct), (a 8, aZ ta 256 BOX), (a 9, aZ ta 256 UBOX), (a 16, aS ta 240 rk1_175), (a 18, aS ta 16 ce1_175), (a 22, aS ta 700 gm1_175), (a 24, aS ta 16 mac1_175), (a 25, aS ta 16 k11_175), (a 53, aS ta 16 gbl1_175), (a 55, aS ta 16 gco1_175), (a 45, aS ta 32 gch1_175), (a 41, aS ta 256 gke), (a 36, aK ta 2 ru), (a 37, aK ta 2 le), (a 27, aS ta 400 gtp), (a 54, aS ta 300 w9)] := hD
                        refine lv_iconst (pc := 193) (v := nI 1) hx hb dX10_send_193 (by decide +kernel) ?_
                        refine lv_istore (pc := 194) (lv' := [(4, .int (nI 1)), (3, .int (nI hd9)), (2, .int (nI m9)), (1, .int (nI tp)), (0, .ref h0)]) hx hb dX10_send_194 hl (by decide) rfl (fun ls hl => ?_)
                        have LP196 : ∀ (nn196 : Nat) (k2x : Nat) (p' : Nat → BitVec 8), (1 ≤ k2x ∧ k2x ≤ 4) → ((∀ j, 1 ≤ j → j < k2x → p' j = gtp j) ∧ p' 0 = qlo (qs (gtp 0) ||| nI 4)) → (4 - k2x < nn196) → ∀ (H : Heap) (locs : List Loc), va_P D vwCl [(a 31, aS ta 300 p'), (a 39, aK ta 2 se), (a 40, aK ta 2 lv), (a 47, aK ta 2 (qU cn 0 (cn 0 + 1))), (a 48, aT ta 2 ha1_47), (a 50, aK ta 2 cs1_47), (a 49, aS ta 408 gcm1_47), (h0, oM a ar1_175 mn1_175 0 osz lsz ns ct), (a 8, aZ ta 256 BOX), (a 9, aZ ta 256 UBOX), (a 16, aS ta 240 rk1_175), (a 18, aS ta 16 ce1_175), (a 22, aS ta 700 gm1_175), (a 24, aS ta 16 mac1_175), (a 25, aS ta 16 k11_175), (a 53, aS ta 16 gbl1_175), (a 55, aS ta 16 gco1_175), (a 45, aS ta 32 gch1_175), (a 41, aS ta 256 gke), (a 36, aK ta 2 ru), (a 37, aK ta 2 le), (a 27, aS ta 400 gtp), (a 54, aS ta 300 w9)] H → va_D A [(a 31, aS ta 300 p'), (a 39, aK ta 2 se), (a 40, aK ta 2 lv), (a 47, aK ta 2 (qU cn 0 (cn 0 + 1))), (a 48, aT ta 2 ha1_47), (a 50, aK ta 2 cs1_47), (a 49, aS ta 408 gcm1_47), (h0, oM a ar1_175 mn1_175 0 osz lsz ns ct), (a 8, aZ ta 256 BOX), (a 9, aZ ta 256 UBOX), (a 16, aS ta 240 rk1_175), (a 18, aS ta 16 ce1_175), (a 22, aS ta 700 gm1_175), (a 24, aS ta 16 mac1_175), (a 25, aS ta 16 k11_175), (a 53, aS ta 16 gbl1_175), (a 55, aS ta 16 gco1_175), (a 45, aS ta 32 gch1_175), (a 41, aS ta 256 gke), (a 36, aK ta 2 ru), (a 37, aK ta 2 le), (a 27, aS ta 400 gtp), (a 54, aS ta 300 w9)] → va_S A ss.heap H locs → ∀ ls : Array Slot, lv_has ls 5 [(4, .int (nI k2x)), (3, .int (nI hd9)), (2, .int (nI m9)), (1, .int (nI tp)), (0, .ref h0)] → W pp ll ee ({ frames := 6, cells := 0, slots := 0, locals := 154 } : Room) ss mm (([.ref h0] : List Value).toArray) below meth kc H locs 0 0 Q (F0 mm 196 ls []) := by
                          intro nn196
                          induction nn196 with
                          | zero => intro k2x p' hk2 hp2 hmu; exact absurd hmu (Nat.not_lt_zero _)
                          | succ nn196 ih196 =>
                            intro k2x p' hk2 hp2 hmu196 H locs hP hD hS ls hl
                            refine lv_iload (pc := 196) hx hb dX10_send_196 (lv_at hl 0 rfl) ?_
                            refine lv_iconst (pc := 198) (v := nI 4) hx hb dX10_send_198 (by decide +kernel) ?_
                            refine lv_icmp_ge (pc := 199) (tgt := 222) hx hb dX10_send_199 (by decide) (fun c_8 => ?_) (fun c_8 => ?_)
                            · skip
                              rw [nI_leI (by omega) (by omega)] at c_8
                              refine lv_iconst (pc := 222) (v := nI 0) hx hb dX10_send_222 (by decide +kernel) ?_
                              refine lv_istore (pc := 223) (lv' := [(4, .int (nI 0)), (3, .int (nI hd9)), (2, .int (nI m9)), (1, .int (nI tp)), (0, .ref h0)]) hx hb dX10_send_223 hl (by decide) rfl (fun ls hl => ?_)
                              have LP225 : ∀ (nn225 : Nat) (k3x : Nat) (q' : Nat → BitVec 8), (k3x ≤ m9) → (qSeg q' p' 4 k3x w9) → (m9 - k3x < nn225) → ∀ (H : Heap) (locs : List Loc), va_P D vwCl [(a 31, aS ta 300 q'), (a 39, aK ta 2 se), (a 40, aK ta 2 lv), (a 47, aK ta 2 (qU cn 0 (cn 0 + 1))), (a 48, aT ta 2 ha1_47), (a 50, aK ta 2 cs1_47), (a 49, aS ta 408 gcm1_47), (h0, oM a ar1_175 mn1_175 0 osz lsz ns ct), (a 8, aZ ta 256 BOX), (a 9, aZ ta 256 UBOX), (a 16, aS ta 240 rk1_175), (a 18, aS ta 16 ce1_175), (a 22, aS ta 700 gm1_175), (a 24, aS ta 16 mac1_175), (a 25, aS ta 16 k11_175), (a 53, aS ta 16 gbl1_175), (a 55, aS ta 16 gco1_175), (a 45, aS ta 32 gch1_175), (a 41, aS ta 256 gke), (a 36, aK ta 2 ru), (a 37, aK ta 2 le), (a 27, aS ta 400 gtp), (a 54, aS ta 300 w9)] H → va_D A [(a 31, aS ta 300 q'), (a 39, aK ta 2 se), (a 40, aK ta 2 lv), (a 47, aK ta 2 (qU cn 0 (cn 0 + 1))), (a 48, aT ta 2 ha1_47), (a 50, aK ta 2 cs1_47), (a 49, aS ta 408 gcm1_47), (h0, oM a ar1_175 mn1_175 0 osz lsz ns ct), (a 8, aZ ta 256 BOX), (a 9, aZ ta 256 UBOX), (a 16, aS ta 240 rk1_175), (a 18, aS ta 16 ce1_175), (a 22, aS ta 700 gm1_175), (a 24, aS ta 16 mac1_175), (a 25, aS ta 16 k11_175), (a 53, aS ta 16 gbl1_175), (a 55, aS ta 16 gco1_175), (a 45, aS ta 32 gch1_175), (a 41, aS ta 256 gke), (a 36, aK ta 2 ru), (a 37, aK ta 2 le), (a 27, aS ta 400 gtp), (a 54, aS ta 300 w9)] → va_S A ss.heap H locs → ∀ ls : Array Slot, lv_has ls 5 [(4, .int (nI k3x)), (3, .int (nI hd9)), (2, .int (nI m9)), (1, .int (nI tp)), (0, .ref h0)] → W pp ll ee ({ frames := 6, cells := 0, slots := 0, locals := 154 } : Room) ss mm (([.ref h0] : List Value).toArray) below meth kc H locs 0 0 Q (F0 mm 225 ls []) := by
                                intro nn225
                                induction nn225 with
                                | zero => intro k3x q' hk3 hs3 hmu; exact absurd hmu (Nat.not_lt_zero _)
                                | succ nn225 ih225 =>
                                  intro k3x q' hk3 hs3 hmu225 H locs hP hD hS ls hl
                                  refine lv_iload (pc := 225) hx hb dX10_send_225 (lv_at hl 0 rfl) ?_
                                  refine lv_iload_n (pc := 227) hx hb dX10_send_227 rfl (lv_at hl 2 rfl) ?_
                                  refine lv_icmp_ge (pc := 228) (tgt := 253) hx hb dX10_send_228 (by decide) (fun c_9 => ?_) (fun c_9 => ?_)
                                  · skip
                                    rw [nI_leI (by omega) (by omega)] at c_9
                                    refine lv_iconst (pc := 253) (v := nI 0) hx hb dX10_send_253 (by decide +kernel) ?_
                                    refine lv_istore (pc := 254) (lv' := [(4, .int (nI 0)), (3, .int (nI hd9)), (2, .int (nI m9)), (1, .int (nI tp)), (0, .ref h0)]) hx hb dX10_send_254 hl (by decide) rfl (fun ls hl => ?_)
                                    have LP256 : ∀ (nn256 : Nat) (k4x : Nat) (r' : Nat → BitVec 8), (k4x ≤ 8) → (qSeg r' q' (4 + m9) k4x gco1_175) → (8 - k4x < nn256) → ∀ (H : Heap) (locs : List Loc), va_P D vwCl [(a 31, aS ta 300 r'), (a 39, aK ta 2 se), (a 40, aK ta 2 lv), (a 47, aK ta 2 (qU cn 0 (cn 0 + 1))), (a 48, aT ta 2 ha1_47), (a 50, aK ta 2 cs1_47), (a 49, aS ta 408 gcm1_47), (h0, oM a ar1_175 mn1_175 0 osz lsz ns ct), (a 8, aZ ta 256 BOX), (a 9, aZ ta 256 UBOX), (a 16, aS ta 240 rk1_175), (a 18, aS ta 16 ce1_175), (a 22, aS ta 700 gm1_175), (a 24, aS ta 16 mac1_175), (a 25, aS ta 16 k11_175), (a 53, aS ta 16 gbl1_175), (a 55, aS ta 16 gco1_175), (a 45, aS ta 32 gch1_175), (a 41, aS ta 256 gke), (a 36, aK ta 2 ru), (a 37, aK ta 2 le), (a 27, aS ta 400 gtp), (a 54, aS ta 300 w9)] H → va_D A [(a 31, aS ta 300 r'), (a 39, aK ta 2 se), (a 40, aK ta 2 lv), (a 47, aK ta 2 (qU cn 0 (cn 0 + 1))), (a 48, aT ta 2 ha1_47), (a 50, aK ta 2 cs1_47), (a 49, aS ta 408 gcm1_47), (h0, oM a ar1_175 mn1_175 0 osz lsz ns ct), (a 8, aZ ta 256 BOX), (a 9, aZ ta 256 UBOX), (a 16, aS ta 240 rk1_175), (a 18, aS ta 16 ce1_175), (a 22, aS ta 700 gm1_175), (a 24, aS ta 16 mac1_175), (a 25, aS ta 16 k11_175), (a 53, aS ta 16 gbl1_175), (a 55, aS ta 16 gco1_175), (a 45, aS ta 32 gch1_175), (a 41, aS ta 256 gke), (a 36, aK ta 2 ru), (a 37, aK ta 2 le), (a 27, aS ta 400 gtp), (a 54, aS ta 300 w9)] → va_S A ss.heap H locs → ∀ ls : Array Slot, lv_has ls 5 [(4, .int (nI k4x)), (3, .int (nI hd9)), (2, .int (nI m9)), (1, .int (nI tp)), (0, .ref h0)] → W pp ll ee ({ frames := 6, cells := 0, slots := 0, locals := 154 } : Room) ss mm (([.ref h0] : List Value).toArray) below meth kc H locs 0 0 Q (F0 mm 256 ls []) := by
                                      intro nn256
                                      induction nn256 with
                                      | zero => intro k4x r' hk4 hs4 hmu; exact absurd hmu (Nat.not_lt_zero _)
                                      | succ nn256 ih256 =>
                                        intro k4x r' hk4 hs4 hmu256 H locs hP hD hS ls hl
                                        refine lv_iload (pc := 256) hx hb dX10_send_256 (lv_at hl 0 rfl) ?_
                                        refine lv_bipush (pc := 258) (v := nI 8) hx hb dX10_send_258 (by decide +kernel) ?_
                                        refine lv_icmp_ge (pc := 260) (tgt := 287) hx hb dX10_send_260 (by decide) (fun c_10 => ?_) (fun c_10 => ?_)
                                        · skip
                                          rw [nI_leI (by omega) (by omega)] at c_10
                                          refine lv_aload_n (pc := 287) hx hb dX10_send_287 rfl (lv_at hl 4 rfl) ?_
                                          refine lv_iconst (pc := 288) (v := nI 4) hx hb dX10_send_288 (by decide +kernel) ?_
                                          refine lv_iload_n (pc := 289) hx hb dX10_send_289 rfl (lv_at hl 2 rfl) ?_
                                          refine lv_iadd (pc := 290) hx hb dX10_send_290 ?_
                                          refine q_top (y := nI (4 + m9)) (nI_add 4 m9) ?_
                                          refine lv_bipush (pc := 291) (v := nI 8) hx hb dX10_send_291 (by decide +kernel) ?_
                                          refine lv_iadd (pc := 293) hx hb dX10_send_293 ?_
                                          refine q_top (y := nI (4 + m9 + 8)) (nI_add (4 + m9) 8) ?_
                                          refine va_put (pc := 294) (D := D) (ci := 8) (v := .int (nI (4 + m9 + 8))) (ty := .int) (C := RX10) (T := TX10) (N := 57) hx hb hts iu10 tyX10 tyX10_ok nmX10 hown hK hP hD hS 7 rfl rfl 32 (by decide) (hts _ tw_1077) (fun _ h9 => h9) rfl (by decide +kernel) rfl rfl (Nat.le_of_ble_eq_true rfl) dX10_send_294 (fun H locs hP hD hS => ?_)
                                          have hP : va_P D vwCl [(a 31, aS ta 300 r'), (a 39, aK ta 2 se), (a 40, aK ta 2 lv), (a 47, aK ta 2 (qU cn 0 (cn 0 + 1))), (a 48, aT ta 2 ha1_47), (a 50, aK ta 2 cs1_47), (a 49, aS ta 408 gcm1_47), (h0, oM a ar1_175 mn1_175 0 osz (4 + m9 + 8) ns ct), (a 8, aZ ta 256 BOX), (a 9, aZ ta 256 UBOX), (a 16, aS ta 240 rk1_175), (a 18, aS ta 16 ce1_175), (a 22, aS ta 700 gm1_175), (a 24, aS ta 16 mac1_175), (a 25, aS ta 16 k11_175), (a 53, aS ta 16 gbl1_175), (a 55, aS ta 16 gco1_175), (a 45, aS ta 32 gch1_175), (a 41, aS ta 256 gke), (a 36, aK ta 2 ru), (a 37, aK ta 2 le), (a 27, aS ta 400 gtp), (a 54, aS ta 300 w9)] H := hP
                                          have hD : va_D A [(a 31, aS ta 300 r'), (a 39, aK ta 2 se), (a 40, aK ta 2 lv), (a 47, aK ta 2 (qU cn 0 (cn 0 + 1))), (a 48, aT ta 2 ha1_47), (a 50, aK ta 2 cs1_47), (a 49, aS ta 408 gcm1_47), (h0, oM a ar1_175 mn1_175 0 osz (4 + m9 + 8) ns ct), (a 8, aZ ta 256 BOX), (a 9, aZ ta 256 UBOX), (a 16, aS ta 240 rk1_175), (a 18, aS ta 16 ce1_175), (a 22, aS ta 700 gm1_175), (a 24, aS ta 16 mac1_175), (a 25, aS ta 16 k11_175), (a 53, aS ta 16 gbl1_175), (a 55, aS ta 16 gco1_175), (a 45, aS ta 32 gch1_175), (a 41, aS ta 256 gke), (a 36, aK ta 2 ru), (a 37, aK ta 2 le), (a 27, aS ta 400 gtp), (a 54, aS ta 300 w9)] := hD
                                          refine lv_aload_n (pc := 297) hx hb dX10_send_297 rfl (lv_at hl 4 rfl) ?_
                                          refine va_get (pc := 298) (D := D) (ci := 8) (v := .int (nI (4 + m9 + 8))) (C := RX10) (T := TX10) (N := 57) hx hb hts iu10 hown hK hP 7 rfl rfl 32 (by decide) (hts _ tw_1077) (fun _ h9 => h9) rfl dX10_send_298 ?_
                                          have hq_11 : (seg gco1_175 0 16 = chain3 (seg gke 32 (le 0)) (seg gch 0 16) (qL gtp tp) (secD3 (seg gke 0 (le 0)) (cn 0 + 1) (lv 0) (qL gtp tp))) ∧ (qL r' (4 + m9 + 8) = putC (qL gtp tp) (secD3 (seg gke 0 (le 0)) (cn 0 + 1) (lv 0) (qL gtp tp)) (seg gco1_175 0 8)) ∧ ((4 + m9 + 8) = (secD3 (seg gke 0 (le 0)) (cn 0 + 1) (lv 0) (qL gtp tp)).length + 12 ∧ (4 + m9 + 8) ≤ 220) ∧ (seg gch1_175 0 16 = seg gco1_175 0 16) ∧ (∀ j, 16 ≤ j → gch1_175 j = gch j) ∧ ((qU cn 0 (cn 0 + 1)) = qU cn 0 (cn 0 + 1)) ∧ (ha1_47 = qU ha 0 true) ∧ (cs1_47 = qU cs 0 tp) ∧ (seg gcm1_47 0 tp = (qL gtp tp)) ∧ (∀ j, 204 ≤ j → gcm1_47 j = gcm j) := by
                                            have hL4 : seg p' 0 4 = [qlo (qs (gtp 0) ||| nI 4)] ++ seg gtp 1 3 := seg_123 (g := gtp) gtp hp2.1 hp2.2 (by omega)
                                            have hall : qL r' (4 + m9 + 8) = [qlo (qs (gtp 0) ||| nI 4)] ++ seg gtp 1 3 ++ qL w9 m9 ++ seg gco1_175 0 8 := by
                                              rw [← seg_0, seg_app, Nat.zero_add, seg_copy0 hs4 (by omega), seg_keep (g' := r') (g := q') (o := 0) (n := 4 + m9) (fun j hj => hs4.2 _ (by omega)), seg_app, Nat.zero_add, seg_copy0 hs3 (by omega), seg_keep (g' := q') (g := p') (o := 0) (n := 4) (fun j hj => hs3.2 _ (by omega)), hL4, seg_0]
                                            refine ⟨hch9, (put_ref (g := gtp) (n := tp) rfl (by omega) hall seg_len).trans (by rw [hD9]), ⟨by rw [hD9, qL_len]; omega, by omega⟩, hc_175, fun j hj => hfc_175 j (by omega), rfl, hha_47, hcs_47, hs_47, fun j hj => hfr_47 j (by omega)⟩
                                          exact hret (⟨(rk1_175), (ce1_175), (gm1_175), (mac1_175), (k11_175), (gbl1_175), (gco1_175), (gch1_175), (r'), (gcm1_47), (w9), (qU cn 0 (cn 0 + 1)), (ha1_47), (cs1_47), (mn1_175), (4 + m9 + 8), (ar1_175)⟩ : (Nat → BitVec 8) × (Nat → BitVec 8) × (Nat → BitVec 8) × (Nat → BitVec 8) × (Nat → BitVec 8) × (Nat → BitVec 8) × (Nat → BitVec 8) × (Nat → BitVec 8) × (Nat → BitVec 8) × (Nat → BitVec 8) × (Nat → BitVec 8) × (Nat → Nat) × (Nat → Bool) × (Nat → Nat) × Nat × Nat × Nat) _ _ _ _ dX10_send_301 hq_11 (hP.sub [7, 8, 9, 10, 11, 12, 13, 14, 15, 16, 17, 18, 19, 20, 0, 1, 2, 3, 4, 5, 6, 22, 21] rfl) (hD.sub [7, 8, 9, 10, 11, 12, 13, 14, 15, 16, 17, 18, 19, 20, 0, 1, 2, 3, 4, 5, 6, 22, 21] (by decide) rfl) hS
                                        · skip
                                          rw [nI_leI (by omega) (by omega)] at c_10
                                          refine lv_aload_n (pc := 263) hx hb dX10_send_263 rfl (lv_at hl 4 rfl) ?_
                                          refine va_get (pc := 264) (D := D) (ci := 8) (v := .ref (a 31)) (C := RX10) (T := TX10) (N := 57) hx hb hts iu10 hown hK hP 7 rfl rfl 31 (by decide) (hts _ tw_1076) (fun _ h9 => h9) rfl dX10_send_264 ?_
                                          refine lv_iconst (pc := 267) (v := nI 4) hx hb dX10_send_267 (by decide +kernel) ?_
                                          refine lv_iload_n (pc := 268) hx hb dX10_send_268 rfl (lv_at hl 2 rfl) ?_
                                          refine lv_iadd (pc := 269) hx hb dX10_send_269 ?_
                                          refine q_top (y := nI (4 + m9)) (nI_add 4 m9) ?_
                                          refine lv_iload (pc := 270) hx hb dX10_send_270 (lv_at hl 0 rfl) ?_
                                          refine lv_iadd (pc := 272) hx hb dX10_send_272 ?_
                                          refine q_top (y := nI (4 + m9 + k4x)) (nI_add (4 + m9) k4x) ?_
                                          refine lv_aload_n (pc := 273) hx hb dX10_send_273 rfl (lv_at hl 4 rfl) ?_
                                          refine va_get (pc := 274) (D := D) (ci := 8) (v := .ref (a 55)) (C := RX10) (T := TX10) (N := 57) hx hb hts iu10 hown hK hP 7 rfl rfl 55 (by decide) (hts _ tw_1100) (fun _ h9 => h9) rfl dX10_send_274 ?_
                                          refine lv_iload (pc := 277) hx hb dX10_send_277 (lv_at hl 0 rfl) ?_
                                          refine q_bald (pc := 279) hx hb hK hP 16 2 rfl rfl (k := k4x) (v := qs (gco1_175 k4x)) rfl (by omega) (by omega) rfl dX10_send_279 ?_
                                          refine q_bastS (pc := 280) hx hb hK hP hD hS 0 2 rfl rfl (k := 4 + m9 + k4x) rfl (by omega) (by omega) (b := gco1_175 k4x) (qlo_qs _) dX10_send_280 (fun H locs hP hD hS => ?_)
                                          have hP : va_P D vwCl [(a 31, aS ta 300 (qU r' (4 + m9 + k4x) (gco1_175 k4x))), (a 39, aK ta 2 se), (a 40, aK ta 2 lv), (a 47, aK ta 2 (qU cn 0 (cn 0 + 1))), (a 48, aT ta 2 ha1_47), (a 50, aK ta 2 cs1_47), (a 49, aS ta 408 gcm1_47), (h0, oM a ar1_175 mn1_175 0 osz lsz ns ct), (a 8, aZ ta 256 BOX), (a 9, aZ ta 256 UBOX), (a 16, aS ta 240 rk1_175), (a 18, aS ta 16 ce1_175), (a 22, aS ta 700 gm1_175), (a 24, aS ta 16 mac1_175), (a 25, aS ta 16 k11_175), (a 53, aS ta 16 gbl1_175), (a 55, aS ta 16 gco1_175), (a 45, aS ta 32 gch1_175), (a 41, aS ta 256 gke), (a 36, aK ta 2 ru), (a 37, aK ta 2 le), (a 27, aS ta 400 gtp), (a 54, aS ta 300 w9)] H := hP
                                          have hD : va_D A [(a 31, aS ta 300 (qU r' (4 + m9 + k4x) (gco1_175 k4x))), (a 39, aK ta 2 se), (a 40, aK ta 2 lv), (a 47, aK ta 2 (qU cn 0 (cn 0 + 1))), (a 48, aT ta 2 ha1_47), (a 50, aK ta 2 cs1_47), (a 49, aS ta 408 gcm1_47), (h0, oM a ar1_175 mn1_175 0 osz lsz ns ct), (a 8, aZ ta 256 BOX), (a 9, aZ ta 256 UBOX), (a 16, aS ta 240 rk1_175), (a 18, aS ta 16 ce1_175), (a 22, aS ta 700 gm1_175), (a 24, aS ta 16 mac1_175), (a 25, aS ta 16 k11_175), (a 53, aS ta 16 gbl1_175), (a 55, aS ta 16 gco1_175), (a 45, aS ta 32 gch1_175), (a 41, aS ta 256 gke), (a 36, aK ta 2 ru), (a 37, aK ta 2 le), (a 27, aS ta 400 gtp), (a 54, aS ta 300 w9)] := hD
                                          refine lv_iinc (pc := 281) (v := nI (k4x + 1)) (lv' := [(4, .int (nI (k4x + 1))), (3, .int (nI hd9)), (2, .int (nI m9)), (1, .int (nI tp)), (0, .ref h0)]) hx hb dX10_send_281 hl (k := 0) rfl (by first | exact nI_add k4x 1 | rfl) (by decide) rfl (fun ls hl => ?_)
                                          refine lv_goto (pc := 284) (tgt := 256) hx hb dX10_send_284 (by decide) ?_
                                          exact ih256 (k4x + 1) (qU r' (4 + m9 + k4x) (gco1_175 k4x)) (by omega) (qSeg_s hs4 (by omega) rfl) (by omega) _ _ (hP.sub [0, 1, 2, 3, 4, 5, 6, 7, 8, 9, 10, 11, 12, 13, 14, 15, 16, 17, 18, 19, 20, 21, 22] rfl) (hD.sub [0, 1, 2, 3, 4, 5, 6, 7, 8, 9, 10, 11, 12, 13, 14, 15, 16, 17, 18, 19, 20, 21, 22] (by decide) rfl) hS ls (lv_sub hl [0, 1, 2, 3, 4] rfl)
                                    exact LP256 _ 0 q' (by omega) (qSeg_0) (Nat.lt_succ_self _) _ _ (hP.sub [0, 1, 2, 3, 4, 5, 6, 7, 8, 9, 10, 11, 12, 13, 14, 15, 16, 17, 18, 19, 20, 21, 22] rfl) (hD.sub [0, 1, 2, 3, 4, 5, 6, 7, 8, 9, 10, 11, 12, 13, 14, 15, 16, 17, 18, 19, 20, 21, 22] (by decide) rfl) hS ls (lv_sub hl [0, 1, 2, 3, 4] rfl)
                                  · skip
                                    rw [nI_leI (by omega) (by omega)] at c_9
                                    refine lv_aload_n (pc := 231) hx hb dX10_send_231 rfl (lv_at hl 4 rfl) ?_
                                    refine va_get (pc := 232) (D := D) (ci := 8) (v := .ref (a 31)) (C := RX10) (T := TX10) (N := 57) hx hb hts iu10 hown hK hP 7 rfl rfl 31 (by decide) (hts _ tw_1076) (fun _ h9 => h9) rfl dX10_send_232 ?_
                                    refine lv_iconst (pc := 235) (v := nI 4) hx hb dX10_send_235 (by decide +kernel) ?_
                                    refine lv_iload (pc := 236) hx hb dX10_send_236 (lv_at hl 0 rfl) ?_
                                    refine lv_iadd (pc := 238) hx hb dX10_send_238 ?_
                                    refine q_top (y := nI (4 + k3x)) (nI_add 4 k3x) ?_
                                    refine lv_aload_n (pc := 239) hx hb dX10_send_239 rfl (lv_at hl 4 rfl) ?_
                                    refine va_get (pc := 240) (D := D) (ci := 8) (v := .ref (a 54)) (C := RX10) (T := TX10) (N := 57) hx hb hts iu10 hown hK hP 7 rfl rfl 54 (by decide) (hts _ tw_1099) (fun _ h9 => h9) rfl dX10_send_240 ?_
                                    refine lv_iload (pc := 243) hx hb dX10_send_243 (lv_at hl 0 rfl) ?_
                                    refine q_bald (pc := 245) hx hb hK hP 22 2 rfl rfl (k := k3x) (v := qs (w9 k3x)) rfl (by omega) (by omega) rfl dX10_send_245 ?_
                                    refine q_bastS (pc := 246) hx hb hK hP hD hS 0 2 rfl rfl (k := 4 + k3x) rfl (by omega) (by omega) (b := w9 k3x) (qlo_qs _) dX10_send_246 (fun H locs hP hD hS => ?_)
                                    have hP : va_P D vwCl [(a 31, aS ta 300 (qU q' (4 + k3x) (w9 k3x))), (a 39, aK ta 2 se), (a 40, aK ta 2 lv), (a 47, aK ta 2 (qU cn 0 (cn 0 + 1))), (a 48, aT ta 2 ha1_47), (a 50, aK ta 2 cs1_47), (a 49, aS ta 408 gcm1_47), (h0, oM a ar1_175 mn1_175 0 osz lsz ns ct), (a 8, aZ ta 256 BOX), (a 9, aZ ta 256 UBOX), (a 16, aS ta 240 rk1_175), (a 18, aS ta 16 ce1_175), (a 22, aS ta 700 gm1_175), (a 24, aS ta 16 mac1_175), (a 25, aS ta 16 k11_175), (a 53, aS ta 16 gbl1_175), (a 55, aS ta 16 gco1_175), (a 45, aS ta 32 gch1_175), (a 41, aS ta 256 gke), (a 36, aK ta 2 ru), (a 37, aK ta 2 le), (a 27, aS ta 400 gtp), (a 54, aS ta 300 w9)] H := hP
                                    have hD : va_D A [(a 31, aS ta 300 (qU q' (4 + k3x) (w9 k3x))), (a 39, aK ta 2 se), (a 40, aK ta 2 lv), (a 47, aK ta 2 (qU cn 0 (cn 0 + 1))), (a 48, aT ta 2 ha1_47), (a 50, aK ta 2 cs1_47), (a 49, aS ta 408 gcm1_47), (h0, oM a ar1_175 mn1_175 0 osz lsz ns ct), (a 8, aZ ta 256 BOX), (a 9, aZ ta 256 UBOX), (a 16, aS ta 240 rk1_175), (a 18, aS ta 16 ce1_175), (a 22, aS ta 700 gm1_175), (a 24, aS ta 16 mac1_175), (a 25, aS ta 16 k11_175), (a 53, aS ta 16 gbl1_175), (a 55, aS ta 16 gco1_175), (a 45, aS ta 32 gch1_175), (a 41, aS ta 256 gke), (a 36, aK ta 2 ru), (a 37, aK ta 2 le), (a 27, aS ta 400 gtp), (a 54, aS ta 300 w9)] := hD
                                    refine lv_iinc (pc := 247) (v := nI (k3x + 1)) (lv' := [(4, .int (nI (k3x + 1))), (3, .int (nI hd9)), (2, .int (nI m9)), (1, .int (nI tp)), (0, .ref h0)]) hx hb dX10_send_247 hl (k := 0) rfl (by first | exact nI_add k3x 1 | rfl) (by decide) rfl (fun ls hl => ?_)
                                    refine lv_goto (pc := 250) (tgt := 225) hx hb dX10_send_250 (by decide) ?_
                                    exact ih225 (k3x + 1) (qU q' (4 + k3x) (w9 k3x)) (by omega) (qSeg_s hs3 (by omega) rfl) (by omega) _ _ (hP.sub [0, 1, 2, 3, 4, 5, 6, 7, 8, 9, 10, 11, 12, 13, 14, 15, 16, 17, 18, 19, 20, 21, 22] rfl) (hD.sub [0, 1, 2, 3, 4, 5, 6, 7, 8, 9, 10, 11, 12, 13, 14, 15, 16, 17, 18, 19, 20, 21, 22] (by decide) rfl) hS ls (lv_sub hl [0, 1, 2, 3, 4] rfl)
                              exact LP225 _ 0 p' (by omega) (qSeg_0) (Nat.lt_succ_self _) _ _ (hP.sub [0, 1, 2, 3, 4, 5, 6, 7, 8, 9, 10, 11, 12, 13, 14, 15, 16, 17, 18, 19, 20, 21, 22] rfl) (hD.sub [0, 1, 2, 3, 4, 5, 6, 7, 8, 9, 10, 11, 12, 13, 14, 15, 16, 17, 18, 19, 20, 21, 22] (by decide) rfl) hS ls (lv_sub hl [0, 1, 2, 3, 4] rfl)
                            · skip
                              rw [nI_leI (by omega) (by omega)] at c_8
                              refine lv_aload_n (pc := 202) hx hb dX10_send_202 rfl (lv_at hl 4 rfl) ?_
                              refine va_get (pc := 203) (D := D) (ci := 8) (v := .ref (a 31)) (C := RX10) (T := TX10) (N := 57) hx hb hts iu10 hown hK hP 7 rfl rfl 31 (by decide) (hts _ tw_1076) (fun _ h9 => h9) rfl dX10_send_203 ?_
                              refine lv_iload (pc := 206) hx hb dX10_send_206 (lv_at hl 0 rfl) ?_
                              refine lv_aload_n (pc := 208) hx hb dX10_send_208 rfl (lv_at hl 4 rfl) ?_
                              refine va_get (pc := 209) (D := D) (ci := 8) (v := .ref (a 27)) (C := RX10) (T := TX10) (N := 57) hx hb hts iu10 hown hK hP 7 rfl rfl 27 (by decide) (hts _ tw_1072) (fun _ h9 => h9) rfl dX10_send_209 ?_
                              refine lv_iload (pc := 212) hx hb dX10_send_212 (lv_at hl 0 rfl) ?_
                              refine q_bald (pc := 214) hx hb hK hP 21 2 rfl rfl (k := k2x) (v := qs (gtp k2x)) rfl (by omega) (by omega) rfl dX10_send_214 ?_
                              refine q_bastS (pc := 215) hx hb hK hP hD hS 0 2 rfl rfl (k := k2x) rfl (by omega) (by omega) (b := gtp k2x) (qlo_qs _) dX10_send_215 (fun H locs hP hD hS => ?_)
                              have hP : va_P D vwCl [(a 31, aS ta 300 (qU p' k2x (gtp k2x))), (a 39, aK ta 2 se), (a 40, aK ta 2 lv), (a 47, aK ta 2 (qU cn 0 (cn 0 + 1))), (a 48, aT ta 2 ha1_47), (a 50, aK ta 2 cs1_47), (a 49, aS ta 408 gcm1_47), (h0, oM a ar1_175 mn1_175 0 osz lsz ns ct), (a 8, aZ ta 256 BOX), (a 9, aZ ta 256 UBOX), (a 16, aS ta 240 rk1_175), (a 18, aS ta 16 ce1_175), (a 22, aS ta 700 gm1_175), (a 24, aS ta 16 mac1_175), (a 25, aS ta 16 k11_175), (a 53, aS ta 16 gbl1_175), (a 55, aS ta 16 gco1_175), (a 45, aS ta 32 gch1_175), (a 41, aS ta 256 gke), (a 36, aK ta 2 ru), (a 37, aK ta 2 le), (a 27, aS ta 400 gtp), (a 54, aS ta 300 w9)] H := hP
                              have hD : va_D A [(a 31, aS ta 300 (qU p' k2x (gtp k2x))), (a 39, aK ta 2 se), (a 40, aK ta 2 lv), (a 47, aK ta 2 (qU cn 0 (cn 0 + 1))), (a 48, aT ta 2 ha1_47), (a 50, aK ta 2 cs1_47), (a 49, aS ta 408 gcm1_47), (h0, oM a ar1_175 mn1_175 0 osz lsz ns ct), (a 8, aZ ta 256 BOX), (a 9, aZ ta 256 UBOX), (a 16, aS ta 240 rk1_175), (a 18, aS ta 16 ce1_175), (a 22, aS ta 700 gm1_175), (a 24, aS ta 16 mac1_175), (a 25, aS ta 16 k11_175), (a 53, aS ta 16 gbl1_175), (a 55, aS ta 16 gco1_175), (a 45, aS ta 32 gch1_175), (a 41, aS ta 256 gke), (a 36, aK ta 2 ru), (a 37, aK ta 2 le), (a 27, aS ta 400 gtp), (a 54, aS ta 300 w9)] := hD
                              refine lv_iinc (pc := 216) (v := nI (k2x + 1)) (lv' := [(4, .int (nI (k2x + 1))), (3, .int (nI hd9)), (2, .int (nI m9)), (1, .int (nI tp)), (0, .ref h0)]) hx hb dX10_send_216 hl (k := 0) rfl (by first | exact nI_add k2x 1 | rfl) (by decide) rfl (fun ls hl => ?_)
                              refine lv_goto (pc := 219) (tgt := 196) hx hb dX10_send_219 (by decide) ?_
                              exact ih196 (k2x + 1) (qU p' k2x (gtp k2x)) (by omega) (⟨by
                                    intro j h1 h2
                                    by_cases q : j = k2x
                                    · subst q; exact qU_same
                                    · rw [qU_ne q]; exact hp2.1 j h1 (by omega), by rw [qU_ne (by omega)]; exact hp2.2⟩) (by omega) _ _ (hP.sub [0, 1, 2, 3, 4, 5, 6, 7, 8, 9, 10, 11, 12, 13, 14, 15, 16, 17, 18, 19, 20, 21, 22] rfl) (hD.sub [0, 1, 2, 3, 4, 5, 6, 7, 8, 9, 10, 11, 12, 13, 14, 15, 16, 17, 18, 19, 20, 21, 22] (by decide) rfl) hS ls (lv_sub hl [0, 1, 2, 3, 4] rfl)
                        exact LP196 _ 1 (qU gli 0 (qlo (qs (gtp 0) ||| nI 4))) (by omega) (⟨fun j h1 h2 => by omega, qU_same⟩) (Nat.lt_succ_self _) _ _ (hP.sub [0, 1, 2, 3, 4, 5, 6, 7, 8, 9, 10, 11, 12, 13, 14, 15, 16, 17, 18, 19, 20, 21, 22] rfl) (hD.sub [0, 1, 2, 3, 4, 5, 6, 7, 8, 9, 10, 11, 12, 13, 14, 15, 16, 17, 18, 19, 20, 21, 22] (by decide) rfl) hS ls (lv_sub hl [0, 1, 2, 3, 4] rfl)
                    refine lv_iload_n (pc := 139) hx hb dX10_send_139 rfl (lv_at hl 0 rfl) ?_
                    refine lv_if_eq (pc := 140) (tgt := 151) hx hb dX10_send_140 (by decide) (fun c_12 => ?_) (fun c_12 => ?_)
                    · skip
                      rw [q_eq0 (by omega)] at c_12
                      exact JN151 (tp - 4) k' gbl rk ce ar (by first | (rw [secD3, hidB_f (by rw [drop4_seg, seg_len]; omega), hwk]; rfl) | (rw [secD3, hidB_t (by omega) (by rw [drop4_seg, seg_len]; omega), if_pos rfl, hL_147, hwk] <;> rw [qU_same] <;> rfl)) (by omega) _ _ (hP.sub [0, 1, 2, 3, 4, 5, 6, 7, 8, 9, 10, 11, 12, 13, 14, 15, 16, 17, 18, 19, 20, 21, 22] rfl) (hD.sub [0, 1, 2, 3, 4, 5, 6, 7, 8, 9, 10, 11, 12, 13, 14, 15, 16, 17, 18, 19, 20, 21, 22] (by decide) rfl) hS ls (lv_sub hl [0, 1, 2, 3] rfl)
                    · skip
                      rw [q_eq0 (by omega)] at c_12
                      refine lv_aload_n (pc := 143) hx hb dX10_send_143 rfl (lv_at hl 3 rfl) ?_
                      refine lv_iconst (pc := 144) (v := nI 0) hx hb dX10_send_144 (by decide +kernel) ?_
                      refine lv_iload_n (pc := 145) hx hb dX10_send_145 rfl (lv_at hl 1 rfl) ?_
                      refine lv_iconst (pc := 146) (v := nI 0) hx hb dX10_send_146 (by decide +kernel) ?_
                      refine cs_V (pc := 147) (idx := 381) (n := 3) (wr := [(a 22, aS ta 700 gm), (a 24, aS ta 16 mac), (a 25, aS ta 16 k1), (a 55, aS ta 16 gco), (a 45, aS ta 32 gch), (a 31, aS ta 300 gli), (a 39, aK ta 2 se), (a 40, aK ta 2 lv), (a 48, aT ta 2 ha1_47), (a 50, aK ta 2 cs1_47), (a 49, aS ta 408 gcm1_47), (a 27, aS ta 400 gtp)]) (As := [.int (nI 0), .int (nI (tp - 4)), .int (nI 0)]) (rest := []) (ci := 8) hx hb hml hown hts hGok hK hA hG hl.1 hP hD hS (ct_X10_hide_30 ll D ta hGok h0 a ar mn 0 osz lsz ns ct rk ce gbl gke k' ru le (qU cn 0 (cn 0 + 1)) 0 (tp - 4) (by first | assumption | omega | rfl | decide) (by first | assumption | omega | rfl | decide) (by omega) (by first | assumption | omega | rfl | decide) (by rw [qU_same]; omega) H.size) tw_1388 tw_1385 tw_1387 tw_53 tw_75 hdX10_hide rfl ⟨rfl, rfl, Nat.le_of_ble_eq_true rfl, Nat.le_of_ble_eq_true rfl, Nat.le_of_ble_eq_true rfl, Nat.le_of_ble_eq_true rfl⟩ rfl rfl (q0 := 18) rfl [18, 0, 1, 2, 3, 7, 10, 11, 17, 12, 16] [4, 5, 6, 8, 9, 13, 14, 15, 19, 20, 21, 22] rfl rfl (by decide) rfl (Nat.le_of_ble_eq_true rfl) dX10_send_147 (fun u H locs hq hP hD hS => ?_)
                      obtain ⟨rk1_147, ce1_147, gbl1_147, gwk1_147, n1_147⟩ := u
                      have hq : (n1_147 = ((tp - 4) / 16 + 1) * 16) ∧ (qL gwk1_147 n1_147 = hide3 (seg gke (128 * 0) (le 0)) ((qU cn 0 (cn 0 + 1)) 0) 0#8 (qL k' (tp - 4))) := hq
                      obtain ⟨hn_147, hL_147⟩ := hq
                      refine W.eq (g2 := F0 mm 150 ls [.int (nI n1_147)]) rfl ?_
                      have hP : va_P D vwCl [(a 22, aS ta 700 gm), (a 24, aS ta 16 mac), (a 25, aS ta 16 k1), (a 55, aS ta 16 gco), (a 45, aS ta 32 gch), (a 31, aS ta 300 gli), (a 39, aK ta 2 se), (a 40, aK ta 2 lv), (a 48, aT ta 2 ha1_47), (a 50, aK ta 2 cs1_47), (a 49, aS ta 408 gcm1_47), (a 27, aS ta 400 gtp), (h0, oM a (le 0 / 4 + 6) mn 0 osz lsz ns ct), (a 8, aZ ta 256 BOX), (a 9, aZ ta 256 UBOX), (a 16, aS ta 240 rk1_147), (a 18, aS ta 16 ce1_147), (a 53, aS ta 16 gbl1_147), (a 41, aS ta 256 gke), (a 36, aK ta 2 ru), (a 54, aS ta 300 gwk1_147), (a 37, aK ta 2 le), (a 47, aK ta 2 (qU cn 0 (cn 0 + 1)))] H := hP
                      have hD : va_D A [(a 22, aS ta 700 gm), (a 24, aS ta 16 mac), (a 25, aS ta 16 k1), (a 55, aS ta 16 gco), (a 45, aS ta 32 gch), (a 31, aS ta 300 gli), (a 39, aK ta 2 se), (a 40, aK ta 2 lv), (a 48, aT ta 2 ha1_47), (a 50, aK ta 2 cs1_47), (a 49, aS ta 408 gcm1_47), (a 27, aS ta 400 gtp), (h0, oM a (le 0 / 4 + 6) mn 0 osz lsz ns ct), (a 8, aZ ta 256 BOX), (a 9, aZ ta 256 UBOX), (a 16, aS ta 240 rk1_147), (a 18, aS ta 16 ce1_147), (a 53, aS ta 16 gbl1_147), (a 41, aS ta 256 gke), (a 36, aK ta 2 ru), (a 54, aS ta 300 gwk1_147), (a 37, aK ta 2 le), (a 47, aK ta 2 (qU cn 0 (cn 0 + 1)))] := hD
                      refine lv_istore_n (pc := 150) (lv' := [(2, .int (nI n1_147)), (3, .int (nI hd9)), (1, .int (nI tp)), (0, .ref h0)]) hx hb dX10_send_150 rfl hl (by decide) rfl (fun ls hl => ?_)
                      exact JN151 n1_147 gwk1_147 gbl1_147 rk1_147 ce1_147 (le 0 / 4 + 6) (by first | (rw [secD3, hidB_f (by rw [drop4_seg, seg_len]; omega), hwk]; rfl) | (rw [secD3, hidB_t (by omega) (by rw [drop4_seg, seg_len]; omega), if_pos rfl, hL_147, hwk] <;> rw [qU_same] <;> rfl)) (by omega) _ _ (hP.sub [13, 14, 15, 16, 0, 1, 2, 17, 3, 4, 18, 19, 21, 5, 6, 7, 22, 20, 12, 8, 9, 10, 11] rfl) (hD.sub [13, 14, 15, 16, 0, 1, 2, 17, 3, 4, 18, 19, 21, 5, 6, 7, 22, 20, 12, 8, 9, 10, 11] (by decide) rfl) hS ls (lv_sub hl [1, 0, 2, 3] rfl)
                  · skip
                    rw [nI_eq (by omega) (by omega)] at c_6
                    exfalso; omega
                refine va_get (pc := 92) (D := D) (ci := 8) (v := .ref (a 40)) (C := RX10) (T := TX10) (N := 57) hx hb hts iu10 hown hK hP 18 rfl rfl 40 (by decide) (hts _ tw_1085) (fun _ h9 => h9) rfl dX10_send_92 ?_
                refine lv_iconst (pc := 95) (v := nI 0) hx hb dX10_send_95 (by decide +kernel) ?_
                refine q_iald (pc := 96) hx hb hK hP 15 0 rfl rfl (k := 0) (v := nI (lv 0)) rfl (by omega) (by omega) rfl dX10_send_96 ?_
                refine lv_iconst (pc := 97) (v := nI 2) hx hb dX10_send_97 (by decide +kernel) ?_
                refine lv_iand (pc := 98) hx hb dX10_send_98 ?_
                refine q_top (y := nI (lv 0 &&& 2)) (nI_and (by omega) (by omega)) ?_
                refine lv_if_le (pc := 99) (tgt := 110) hx hb dX10_send_99 (by decide) (fun c_13 => ?_) (fun c_13 => ?_)
                · skip
                  rw [q_le0 (by omega)] at c_13
                  refine lv_iconst (pc := 110) (v := nI 0) hx hb dX10_send_110 (by decide +kernel) ?_
                  exact JN111 0 (by omega) _ _ (hP.sub [0, 1, 2, 3, 4, 5, 6, 7, 8, 9, 10, 11, 12, 13, 14, 15, 16, 17, 18, 19, 20, 21, 22] rfl) (hD.sub [0, 1, 2, 3, 4, 5, 6, 7, 8, 9, 10, 11, 12, 13, 14, 15, 16, 17, 18, 19, 20, 21, 22] (by decide) rfl) hS ls (lv_sub hl [0, 1, 2, 3] rfl)
                · skip
                  rw [q_le0 (by omega)] at c_13
                  refine lv_iload_n (pc := 102) hx hb dX10_send_102 rfl (lv_at hl 1 rfl) ?_
                  refine lv_if_le (pc := 103) (tgt := 110) hx hb dX10_send_103 (by decide) (fun c_14 => ?_) (fun c_14 => ?_)
                  · skip
                    rw [q_le0 (by omega)] at c_14
                    refine lv_iconst (pc := 110) (v := nI 0) hx hb dX10_send_110 (by decide +kernel) ?_
                    exact JN111 0 (by omega) _ _ (hP.sub [0, 1, 2, 3, 4, 5, 6, 7, 8, 9, 10, 11, 12, 13, 14, 15, 16, 17, 18, 19, 20, 21, 22] rfl) (hD.sub [0, 1, 2, 3, 4, 5, 6, 7, 8, 9, 10, 11, 12, 13, 14, 15, 16, 17, 18, 19, 20, 21, 22] (by decide) rfl) hS ls (lv_sub hl [0, 1, 2, 3] rfl)
                  · skip
                    rw [q_le0 (by omega)] at c_14
                    refine lv_iconst (pc := 106) (v := nI 1) hx hb dX10_send_106 (by decide +kernel) ?_
                    refine lv_goto (pc := 107) (tgt := 111) hx hb dX10_send_107 (by decide) ?_
                    exact JN111 1 (by omega) _ _ (hP.sub [0, 1, 2, 3, 4, 5, 6, 7, 8, 9, 10, 11, 12, 13, 14, 15, 16, 17, 18, 19, 20, 21, 22] rfl) (hD.sub [0, 1, 2, 3, 4, 5, 6, 7, 8, 9, 10, 11, 12, 13, 14, 15, 16, 17, 18, 19, 20, 21, 22] (by decide) rfl) hS ls (lv_sub hl [0, 1, 2, 3] rfl)
              · skip
                rw [nI_leI (by omega) (by omega)] at c_5
                refine lv_aload_n (pc := 71) hx hb dX10_send_71 rfl (lv_at hl 3 rfl) ?_
                refine va_get (pc := 72) (D := D) (ci := 8) (v := .ref (a 54)) (C := RX10) (T := TX10) (N := 57) hx hb hts iu10 hown hK hP 18 rfl rfl 54 (by decide) (hts _ tw_1099) (fun _ h9 => h9) rfl dX10_send_72 ?_
                refine lv_iload_n (pc := 75) hx hb dX10_send_75 rfl (lv_at hl 0 rfl) ?_
                refine lv_aload_n (pc := 76) hx hb dX10_send_76 rfl (lv_at hl 3 rfl) ?_
                refine va_get (pc := 77) (D := D) (ci := 8) (v := .ref (a 27)) (C := RX10) (T := TX10) (N := 57) hx hb hts iu10 hown hK hP 18 rfl rfl 27 (by decide) (hts _ tw_1072) (fun _ h9 => h9) rfl dX10_send_77 ?_
                refine lv_iconst (pc := 80) (v := nI 4) hx hb dX10_send_80 (by decide +kernel) ?_
                refine lv_iload_n (pc := 81) hx hb dX10_send_81 rfl (lv_at hl 0 rfl) ?_
                refine lv_iadd (pc := 82) hx hb dX10_send_82 ?_
                refine q_top (y := nI (4 + k1x)) (nI_add 4 k1x) ?_
                refine q_bald (pc := 83) hx hb hK hP 22 2 rfl rfl (k := 4 + k1x) (v := qs (gtp (4 + k1x))) rfl (by omega) (by omega) rfl dX10_send_83 ?_
                refine q_bastS (pc := 84) hx hb hK hP hD hS 17 2 rfl rfl (k := k1x) rfl (by omega) (by omega) (b := gtp (4 + k1x)) (qlo_qs _) dX10_send_84 (fun H locs hP hD hS => ?_)
                have hP : va_P D vwCl [(a 8, aZ ta 256 BOX), (a 9, aZ ta 256 UBOX), (a 16, aS ta 240 rk), (a 18, aS ta 16 ce), (a 22, aS ta 700 gm), (a 24, aS ta 16 mac), (a 25, aS ta 16 k1), (a 53, aS ta 16 gbl), (a 55, aS ta 16 gco), (a 45, aS ta 32 gch), (a 41, aS ta 256 gke), (a 36, aK ta 2 ru), (a 37, aK ta 2 le), (a 31, aS ta 300 gli), (a 39, aK ta 2 se), (a 40, aK ta 2 lv), (a 47, aK ta 2 (qU cn 0 (cn 0 + 1))), (a 54, aS ta 300 (qU k' k1x (gtp (4 + k1x)))), (h0, oM a ar mn 0 osz lsz ns ct), (a 48, aT ta 2 ha1_47), (a 50, aK ta 2 cs1_47), (a 49, aS ta 408 gcm1_47), (a 27, aS ta 400 gtp)] H := hP
                have hD : va_D A [(a 8, aZ ta 256 BOX), (a 9, aZ ta 256 UBOX), (a 16, aS ta 240 rk), (a 18, aS ta 16 ce), (a 22, aS ta 700 gm), (a 24, aS ta 16 mac), (a 25, aS ta 16 k1), (a 53, aS ta 16 gbl), (a 55, aS ta 16 gco), (a 45, aS ta 32 gch), (a 41, aS ta 256 gke), (a 36, aK ta 2 ru), (a 37, aK ta 2 le), (a 31, aS ta 300 gli), (a 39, aK ta 2 se), (a 40, aK ta 2 lv), (a 47, aK ta 2 (qU cn 0 (cn 0 + 1))), (a 54, aS ta 300 (qU k' k1x (gtp (4 + k1x)))), (h0, oM a ar mn 0 osz lsz ns ct), (a 48, aT ta 2 ha1_47), (a 50, aK ta 2 cs1_47), (a 49, aS ta 408 gcm1_47), (a 27, aS ta 400 gtp)] := hD
                refine lv_iinc (pc := 85) (v := nI (k1x + 1)) (lv' := [(3, .int (nI (k1x + 1))), (2, .int (nI (tp - 4))), (1, .int (nI tp)), (0, .ref h0)]) hx hb dX10_send_85 hl (k := 0) rfl (by first | exact nI_add k1x 1 | rfl) (by decide) rfl (fun ls hl => ?_)
                refine lv_goto (pc := 88) (tgt := 66) hx hb dX10_send_88 (by decide) ?_
                exact ih66 (k1x + 1) (qU k' k1x (gtp (4 + k1x))) (by omega) (qSeg_s hs1 (by omega) (by first | rfl | (simp; done))) (by omega) _ _ (hP.sub [0, 1, 2, 3, 4, 5, 6, 7, 8, 9, 10, 11, 12, 13, 14, 15, 16, 17, 18, 19, 20, 21, 22] rfl) (hD.sub [0, 1, 2, 3, 4, 5, 6, 7, 8, 9, 10, 11, 12, 13, 14, 15, 16, 17, 18, 19, 20, 21, 22] (by decide) rfl) hS ls (lv_sub hl [0, 1, 2, 3] rfl)
          exact LP66 _ 0 gwk (by omega) (qSeg_0) (Nat.lt_succ_self _) _ _ (hP.sub [0, 1, 2, 3, 4, 5, 6, 7, 8, 9, 10, 11, 12, 13, 14, 15, 16, 17, 18, 19, 20, 21, 22] rfl) (hD.sub [0, 1, 2, 3, 4, 5, 6, 7, 8, 9, 10, 11, 12, 13, 14, 15, 16, 17, 18, 19, 20, 21, 22] (by decide) rfl) hS ls (lv_sub hl [0, 1, 2, 3] rfl)
        · skip
          rw [nI_leI (by omega) (by omega)] at c_4
          exfalso; omega
