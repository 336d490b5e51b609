theorem hdX10_made : yX10_made.cls ≠ "java/lang/invoke/MethodHandle" ∧ yX10_made.cls ≠ "java/lang/invoke/VarHandle" ∧ (parseMethodDescriptor yX10_made.desc).map (fun d => d.parameters.length) = some 4 := ⟨by decide +kernel, by decide +kernel, by decide +kernel⟩
theorem dX10_made_0 : decode cX10_made 0 = .ok (.iconst 0, 1) := by decide +kernel
theorem dX10_made_1 : decode cX10_made 1 = .ok (.istore 5, 2) := by decide +kernel
theorem dX10_made_3 : decode cX10_made 3 = .ok (.iload 5, 2) := by decide +kernel
theorem dX10_made_5 : decode cX10_made 5 = .ok (.bipush 16, 2) := by decide +kernel
theorem dX10_made_7 : decode cX10_made 7 = .ok (.if_icmp .ge 17, 3) := by decide +kernel
theorem dX10_made_10 : decode cX10_made 10 = .ok (.aload_n 0, 1) := by decide +kernel
theorem dX10_made_11 : decode cX10_made 11 = .ok (.getfield 283, 3) := by decide +kernel
theorem dX10_made_14 : decode cX10_made 14 = .ok (.iload 5, 2) := by decide +kernel
theorem dX10_made_16 : decode cX10_made 16 = .ok (.iconst 0, 1) := by decide +kernel
theorem dX10_made_17 : decode cX10_made 17 = .ok (.bastore, 1) := by decide +kernel
theorem dX10_made_18 : decode cX10_made 18 = .ok (.iinc 5 1, 3) := by decide +kernel
theorem dX10_made_21 : decode cX10_made 21 = .ok (.goto (-18), 3) := by decide +kernel
theorem dX10_made_24 : decode cX10_made 24 = .ok (.aload_n 0, 1) := by decide +kernel
theorem dX10_made_25 : decode cX10_made 25 = .ok (.getfield 283, 3) := by decide +kernel
theorem dX10_made_28 : decode cX10_made 28 = .ok (.iconst 0, 1) := by decide +kernel
theorem dX10_made_29 : decode cX10_made 29 = .ok (.iconst 1, 1) := by decide +kernel
theorem dX10_made_30 : decode cX10_made 30 = .ok (.bastore, 1) := by decide +kernel
theorem dX10_made_31 : decode cX10_made 31 = .ok (.aload_n 0, 1) := by decide +kernel
theorem dX10_made_32 : decode cX10_made 32 = .ok (.getfield 283, 3) := by decide +kernel
theorem dX10_made_35 : decode cX10_made 35 = .ok (.iconst 1, 1) := by decide +kernel
theorem dX10_made_36 : decode cX10_made 36 = .ok (.iload_n 3, 1) := by decide +kernel
theorem dX10_made_37 : decode cX10_made 37 = .ok (.i2b, 1) := by decide +kernel
theorem dX10_made_38 : decode cX10_made 38 = .ok (.bastore, 1) := by decide +kernel
theorem dX10_made_39 : decode cX10_made 39 = .ok (.aload_n 0, 1) := by decide +kernel
theorem dX10_made_40 : decode cX10_made 40 = .ok (.getfield 283, 3) := by decide +kernel
theorem dX10_made_43 : decode cX10_made 43 = .ok (.iconst 2, 1) := by decide +kernel
theorem dX10_made_44 : decode cX10_made 44 = .ok (.aload_n 0, 1) := by decide +kernel
theorem dX10_made_45 : decode cX10_made 45 = .ok (.getfield 280, 3) := by decide +kernel
theorem dX10_made_48 : decode cX10_made 48 = .ok (.iconst 0, 1) := by decide +kernel
theorem dX10_made_49 : decode cX10_made 49 = .ok (.baload, 1) := by decide +kernel
theorem dX10_made_50 : decode cX10_made 50 = .ok (.bastore, 1) := by decide +kernel
theorem dX10_made_51 : decode cX10_made 51 = .ok (.aload_n 0, 1) := by decide +kernel
theorem dX10_made_52 : decode cX10_made 52 = .ok (.getfield 283, 3) := by decide +kernel
theorem dX10_made_55 : decode cX10_made 55 = .ok (.iconst 3, 1) := by decide +kernel
theorem dX10_made_56 : decode cX10_made 56 = .ok (.aload_n 0, 1) := by decide +kernel
theorem dX10_made_57 : decode cX10_made 57 = .ok (.getfield 280, 3) := by decide +kernel
theorem dX10_made_60 : decode cX10_made 60 = .ok (.iconst 1, 1) := by decide +kernel
theorem dX10_made_61 : decode cX10_made 61 = .ok (.baload, 1) := by decide +kernel
theorem dX10_made_62 : decode cX10_made 62 = .ok (.bastore, 1) := by decide +kernel
theorem dX10_made_63 : decode cX10_made 63 = .ok (.aload_n 0, 1) := by decide +kernel
theorem dX10_made_64 : decode cX10_made 64 = .ok (.aload_n 0, 1) := by decide +kernel
theorem dX10_made_65 : decode cX10_made 65 = .ok (.getfield 283, 3) := by decide +kernel
theorem dX10_made_68 : decode cX10_made 68 = .ok (.iconst 0, 1) := by decide +kernel
theorem dX10_made_69 : decode cX10_made 69 = .ok (.aload_n 0, 1) := by decide +kernel
theorem dX10_made_70 : decode cX10_made 70 = .ok (.getfield 237, 3) := by decide +kernel
theorem dX10_made_73 : decode cX10_made 73 = .ok (.bipush 96, 2) := by decide +kernel
theorem dX10_made_75 : decode cX10_made 75 = .ok (.iload_n 1, 1) := by decide +kernel
theorem dX10_made_76 : decode cX10_made 76 = .ok (.imul, 1) := by decide +kernel
theorem dX10_made_77 : decode cX10_made 77 = .ok (.bipush 32, 2) := by decide +kernel
theorem dX10_made_79 : decode cX10_made 79 = .ok (.iload_n 2, 1) := by decide +kernel
theorem dX10_made_80 : decode cX10_made 80 = .ok (.imul, 1) := by decide +kernel
theorem dX10_made_81 : decode cX10_made 81 = .ok (.iadd, 1) := by decide +kernel
theorem dX10_made_82 : decode cX10_made 82 = .ok (.iconst 0, 1) := by decide +kernel
theorem dX10_made_83 : decode cX10_made 83 = .ok (.invokevirtual 97, 3) := by decide +kernel
theorem dX10_made_86 : decode cX10_made 86 = .ok (.iconst 0, 1) := by decide +kernel
theorem dX10_made_87 : decode cX10_made 87 = .ok (.istore 5, 2) := by decide +kernel
theorem dX10_made_89 : decode cX10_made 89 = .ok (.iload 5, 2) := by decide +kernel
theorem dX10_made_91 : decode cX10_made 91 = .ok (.bipush 8, 2) := by decide +kernel
theorem dX10_made_93 : decode cX10_made 93 = .ok (.if_icmp .ge 30, 3) := by decide +kernel
theorem dX10_made_96 : decode cX10_made 96 = .ok (.aload_n 0, 1) := by decide +kernel
theorem dX10_made_97 : decode cX10_made 97 = .ok (.getfield 283, 3) := by decide +kernel
theorem dX10_made_100 : decode cX10_made 100 = .ok (.bipush 8, 2) := by decide +kernel
theorem dX10_made_102 : decode cX10_made 102 = .ok (.iload 5, 2) := by decide +kernel
theorem dX10_made_104 : decode cX10_made 104 = .ok (.iadd, 1) := by decide +kernel
theorem dX10_made_105 : decode cX10_made 105 = .ok (.dup2, 1) := by decide +kernel
theorem dX10_made_106 : decode cX10_made 106 = .ok (.baload, 1) := by decide +kernel
theorem dX10_made_107 : decode cX10_made 107 = .ok (.aload_n 0, 1) := by decide +kernel
theorem dX10_made_108 : decode cX10_made 108 = .ok (.getfield 283, 3) := by decide +kernel
theorem dX10_made_111 : decode cX10_made 111 = .ok (.iload 5, 2) := by decide +kernel
theorem dX10_made_113 : decode cX10_made 113 = .ok (.baload, 1) := by decide +kernel
theorem dX10_made_114 : decode cX10_made 114 = .ok (.ixor, 1) := by decide +kernel
theorem dX10_made_115 : decode cX10_made 115 = .ok (.i2b, 1) := by decide +kernel
theorem dX10_made_116 : decode cX10_made 116 = .ok (.bastore, 1) := by decide +kernel
theorem dX10_made_117 : decode cX10_made 117 = .ok (.iinc 5 1, 3) := by decide +kernel
theorem dX10_made_120 : decode cX10_made 120 = .ok (.goto (-31), 3) := by decide +kernel
theorem dX10_made_123 : decode cX10_made 123 = .ok (.aload_n 0, 1) := by decide +kernel
theorem dX10_made_124 : decode cX10_made 124 = .ok (.aload_n 0, 1) := by decide +kernel
theorem dX10_made_125 : decode cX10_made 125 = .ok (.getfield 283, 3) := by decide +kernel
theorem dX10_made_128 : decode cX10_made 128 = .ok (.bipush 8, 2) := by decide +kernel
theorem dX10_made_130 : decode cX10_made 130 = .ok (.aload_n 0, 1) := by decide +kernel
theorem dX10_made_131 : decode cX10_made 131 = .ok (.getfield 237, 3) := by decide +kernel
theorem dX10_made_134 : decode cX10_made 134 = .ok (.bipush 96, 2) := by decide +kernel
theorem dX10_made_136 : decode cX10_made 136 = .ok (.iload_n 1, 1) := by decide +kernel
theorem dX10_made_137 : decode cX10_made 137 = .ok (.imul, 1) := by decide +kernel
theorem dX10_made_138 : decode cX10_made 138 = .ok (.bipush 32, 2) := by decide +kernel
theorem dX10_made_140 : decode cX10_made 140 = .ok (.iload_n 2, 1) := by decide +kernel
theorem dX10_made_141 : decode cX10_made 141 = .ok (.imul, 1) := by decide +kernel
theorem dX10_made_142 : decode cX10_made 142 = .ok (.iadd, 1) := by decide +kernel
theorem dX10_made_143 : decode cX10_made 143 = .ok (.iconst 0, 1) := by decide +kernel
theorem dX10_made_144 : decode cX10_made 144 = .ok (.invokevirtual 97, 3) := by decide +kernel
theorem dX10_made_147 : decode cX10_made 147 = .ok (.iconst 0, 1) := by decide +kernel
theorem dX10_made_148 : decode cX10_made 148 = .ok (.istore 5, 2) := by decide +kernel
theorem dX10_made_150 : decode cX10_made 150 = .ok (.iload 5, 2) := by decide +kernel
theorem dX10_made_152 : decode cX10_made 152 = .ok (.bipush 16, 2) := by decide +kernel
theorem dX10_made_154 : decode cX10_made 154 = .ok (.if_icmp .ge 32, 3) := by decide +kernel
theorem dX10_made_157 : decode cX10_made 157 = .ok (.aload_n 0, 1) := by decide +kernel
theorem dX10_made_158 : decode cX10_made 158 = .ok (.getfield 246, 3) := by decide +kernel
theorem dX10_made_161 : decode cX10_made 161 = .ok (.sipush 128, 3) := by decide +kernel
theorem dX10_made_164 : decode cX10_made 164 = .ok (.iload_n 1, 1) := by decide +kernel
theorem dX10_made_165 : decode cX10_made 165 = .ok (.imul, 1) := by decide +kernel
theorem dX10_made_166 : decode cX10_made 166 = .ok (.iload 4, 2) := by decide +kernel
theorem dX10_made_168 : decode cX10_made 168 = .ok (.iadd, 1) := by decide +kernel
theorem dX10_made_169 : decode cX10_made 169 = .ok (.iload 5, 2) := by decide +kernel
theorem dX10_made_171 : decode cX10_made 171 = .ok (.iadd, 1) := by decide +kernel
theorem dX10_made_172 : decode cX10_made 172 = .ok (.aload_n 0, 1) := by decide +kernel
theorem dX10_made_173 : decode cX10_made 173 = .ok (.getfield 283, 3) := by decide +kernel
theorem dX10_made_176 : decode cX10_made 176 = .ok (.iload 5, 2) := by decide +kernel
theorem dX10_made_178 : decode cX10_made 178 = .ok (.baload, 1) := by decide +kernel
theorem dX10_made_179 : decode cX10_made 179 = .ok (.bastore, 1) := by decide +kernel
theorem dX10_made_180 : decode cX10_made 180 = .ok (.iinc 5 1, 3) := by decide +kernel
theorem dX10_made_183 : decode cX10_made 183 = .ok (.goto (-33), 3) := by decide +kernel
theorem dX10_made_186 : decode cX10_made 186 = .ok (.return_, 1) := by decide +kernel
set_option maxHeartbeats 4000000 in
set_option maxRecDepth 100000 in
theorem ct_X10_made (ll : Launch) (D : va_G) (ta : Nat → ClassId) {G : (Nat → Prop) → State → Heap → Prop} (hGok : GOK G) (h0 : Nat) (a : Nat → Nat) (ar : Nat) (mn : Nat) (tp : Nat) (osz : Nat) (lsz : Nat) (ns : Nat) (ct : Nat) (bi : Nat → Bool) (tu : Nat → Bool) (cd : Nat → Bool) (sk : Nat → Bool) (hf : Nat → Bool) (wd : Nat → Bool) (gbl : Nat → BitVec 8) (gnu : Nat → BitVec 8) (gto : Nat → BitVec 8) (gke : Nat → BitVec 8) (sd : Nat) (kk : Nat) (c : Nat) (q0 : Nat) (hsd : sd ≤ 1) (hkk2 : kk ≤ 2) (hc9 : c < 256) (hq0 : q0 ≤ 112) (hnum : qL gnu 2 = qNum (nI ct).toInt64 2) (sz : Nat) : CT ll yX10_made cX10_made 6 none ({ frames := 3, cells := 0, slots := 0, locals := 85 } : Room) D ta G [.ref h0, .int (nI sd), .int (nI kk), .int (nI c), .int (nI q0)] [(h0, oM a ar mn tp osz lsz ns ct), (a 0, aK ta 64 tIP), (a 1, aK ta 48 tSPR), (a 2, aK ta 32 tMIX), (a 3, aK ta 56 tCH), (a 4, aK ta 48 tSEC), (a 5, aK ta 512 tSBX), (a 10, aB ta 64 bi), (a 11, aB ta 64 tu), (a 12, aB ta 56 cd), (a 13, aB ta 768 sk), (a 14, aB ta 32 hf), (a 15, aB ta 48 wd), (a 53, aS ta 16 gbl), (a 52, aS ta 3 gnu), (a 38, aS ta 192 gto), (a 41, aS ta 256 gke)] sz (S := (Nat → Bool) × (Nat → Bool) × (Nat → Bool) × (Nat → Bool) × (Nat → Bool) × (Nat → Bool) × (Nat → BitVec 8) × (Nat → BitVec 8)) (fun _ => none) (fun u => (seg u.2.2.2.2.2.2.2 (128 * sd + q0) 16 = skeyL (seg gto (96 * sd + 32 * kk) 16) (256 + c) ct) ∧ (∀ j, (j < 128 * sd + q0 ∨ 128 * sd + q0 + 16 ≤ j) → u.2.2.2.2.2.2.2 j = gke j)) (fun u => [(h0, oM a ar mn tp osz lsz ns ct), (a 0, aK ta 64 tIP), (a 1, aK ta 48 tSPR), (a 2, aK ta 32 tMIX), (a 3, aK ta 56 tCH), (a 4, aK ta 48 tSEC), (a 5, aK ta 512 tSBX), (a 10, aB ta 64 u.1), (a 11, aB ta 64 u.2.1), (a 12, aB ta 56 u.2.2.1), (a 13, aB ta 768 u.2.2.2.1), (a 14, aB ta 32 u.2.2.2.2.1), (a 15, aB ta 48 u.2.2.2.2.2.1), (a 53, aS ta 16 u.2.2.2.2.2.2.1), (a 52, aS ta 3 gnu), (a 38, aS ta 192 gto), (a 41, aS ta 256 u.2.2.2.2.2.2.2)]) 0 0 := by
  refine CT.of_v rfl (by decide) (Nat.le_of_ble_eq_true rfl) ?_
  intro pp ee ss mm below meth kc A Q hx hb hml hown hin hts hK hA hsz hG hret H locs hP hD hS ls hl
  have hl : lv_has ls 6 [(0, .ref h0), (1, .int (nI sd)), (2, .int (nI kk)), (3, .int (nI c)), (4, .int (nI q0))] := hl
  refine lv_iconst (pc := 0) (v := nI 0) hx hb dX10_made_0 (by decide +kernel) ?_
  refine lv_istore (pc := 1) (lv' := [(5, .int (nI 0)), (0, .ref h0), (1, .int (nI sd)), (2, .int (nI kk)), (3, .int (nI c)), (4, .int (nI q0))]) hx hb dX10_made_1 hl (by decide) rfl (fun ls hl => ?_)
  have LP3 : ∀ (nn3 : Nat) (k : Nat) (b' : Nat → BitVec 8), (k ≤ 16) → (qSeg b' gbl 0 k ((fun _ => 0#8))) → (16 - k < nn3) → ∀ (H : Heap) (locs : List Loc), va_P D vwCl [(h0, oM a ar mn tp osz lsz ns ct), (a 0, aK ta 64 tIP), (a 1, aK ta 48 tSPR), (a 2, aK ta 32 tMIX), (a 3, aK ta 56 tCH), (a 4, aK ta 48 tSEC), (a 5, aK ta 512 tSBX), (a 10, aB ta 64 bi), (a 11, aB ta 64 tu), (a 12, aB ta 56 cd), (a 13, aB ta 768 sk), (a 14, aB ta 32 hf), (a 15, aB ta 48 wd), (a 53, aS ta 16 b'), (a 52, aS ta 3 gnu), (a 38, aS ta 192 gto), (a 41, aS ta 256 gke)] H → va_D A [(h0, oM a ar mn tp osz lsz ns ct), (a 0, aK ta 64 tIP), (a 1, aK ta 48 tSPR), (a 2, aK ta 32 tMIX), (a 3, aK ta 56 tCH), (a 4, aK ta 48 tSEC), (a 5, aK ta 512 tSBX), (a 10, aB ta 64 bi), (a 11, aB ta 64 tu), (a 12, aB ta 56 cd), (a 13, aB ta 768 sk), (a 14, aB ta 32 hf), (a 15, aB ta 48 wd), (a 53, aS ta 16 b'), (a 52, aS ta 3 gnu), (a 38, aS ta 192 gto), (a 41, aS ta 256 gke)] → va_S A ss.heap H locs → ∀ ls : Array Slot, lv_has ls 6 [(5, .int (nI k)), (0, .ref h0), (1, .int (nI sd)), (2, .int (nI kk)), (3, .int (nI c)), (4, .int (nI q0))] → W pp ll ee ({ frames := 3, cells := 0, slots := 0, locals := 85 } : Room) ss mm (([.ref h0, .int (nI sd), .int (nI kk), .int (nI c), .int (nI q0)] : List Value).toArray) below meth kc H locs 0 0 Q (F0 mm 3 ls []) := by
    intro nn3
    induction nn3 with
    | zero => intro k b' hkk hs hmu; exact absurd hmu (Nat.not_lt_zero _)
    | succ nn3 ih3 =>
      intro k b' hkk hs hmu3 H locs hP hD hS ls hl
      refine lv_iload (pc := 3) hx hb dX10_made_3 (lv_at hl 0 rfl) ?_
      refine lv_bipush (pc := 5) (v := nI 16) hx hb dX10_made_5 (by decide +kernel) ?_
      refine lv_icmp_ge (pc := 7) (tgt := 24) hx hb dX10_made_7 (by decide) (fun c_1 => ?_) (fun c_1 => ?_)
      · skip
        rw [nI_leI (by omega) (by omega)] at c_1
        refine lv_aload_n (pc := 24) hx hb dX10_made_24 rfl (lv_at hl 1 rfl) ?_
        refine va_get (pc := 25) (D := D) (ci := 8) (v := .ref (a 53)) (C := RX10) (T := TX10) (N := 57) hx hb hts iu10 hown hK hP 0 rfl rfl 53 (by decide) (hts _ tw_1098) (fun _ h9 => h9) rfl dX10_made_25 ?_
        refine lv_iconst (pc := 28) (v := nI 0) hx hb dX10_made_28 (by decide +kernel) ?_
        refine lv_iconst (pc := 29) (v := nI 1) hx hb dX10_made_29 (by decide +kernel) ?_
        refine q_bastS (pc := 30) hx hb hK hP hD hS 13 2 rfl rfl (k := 0) rfl (by omega) (by omega) (b := BitVec.ofNat 8 1) (qlo_nI _) dX10_made_30 (fun H locs hP hD hS => ?_)
        have hP : va_P D vwCl [(h0, oM a ar mn tp osz lsz ns ct), (a 0, aK ta 64 tIP), (a 1, aK ta 48 tSPR), (a 2, aK ta 32 tMIX), (a 3, aK ta 56 tCH), (a 4, aK ta 48 tSEC), (a 5, aK ta 512 tSBX), (a 10, aB ta 64 bi), (a 11, aB ta 64 tu), (a 12, aB ta 56 cd), (a 13, aB ta 768 sk), (a 14, aB ta 32 hf), (a 15, aB ta 48 wd), (a 53, aS ta 16 (qU b' 0 (BitVec.ofNat 8 1))), (a 52, aS ta 3 gnu), (a 38, aS ta 192 gto), (a 41, aS ta 256 gke)] H := hP
        have hD : va_D A [(h0, oM a ar mn tp osz lsz ns ct), (a 0, aK ta 64 tIP), (a 1, aK ta 48 tSPR), (a 2, aK ta 32 tMIX), (a 3, aK ta 56 tCH), (a 4, aK ta 48 tSEC), (a 5, aK ta 512 tSBX), (a 10, aB ta 64 bi), (a 11, aB ta 64 tu), (a 12, aB ta 56 cd), (a 13, aB ta 768 sk), (a 14, aB ta 32 hf), (a 15, aB ta 48 wd), (a 53, aS ta 16 (qU b' 0 (BitVec.ofNat 8 1))), (a 52, aS ta 3 gnu), (a 38, aS ta 192 gto), (a 41, aS ta 256 gke)] := hD
        refine lv_aload_n (pc := 31) hx hb dX10_made_31 rfl (lv_at hl 1 rfl) ?_
        refine va_get (pc := 32) (D := D) (ci := 8) (v := .ref (a 53)) (C := RX10) (T := TX10) (N := 57) hx hb hts iu10 hown hK hP 0 rfl rfl 53 (by decide) (hts _ tw_1098) (fun _ h9 => h9) rfl dX10_made_32 ?_
        refine lv_iconst (pc := 35) (v := nI 1) hx hb dX10_made_35 (by decide +kernel) ?_
        refine lv_iload_n (pc := 36) hx hb dX10_made_36 rfl (lv_at hl 4 rfl) ?_
        refine lv_i2b (pc := 37) (v := qs (qlo (nI c))) hx hb dX10_made_37 (q_i2b _) ?_
        refine q_bastS (pc := 38) hx hb hK hP hD hS 13 2 rfl rfl (k := 1) rfl (by omega) (by omega) (b := qlo (nI c)) (qlo_qs _) dX10_made_38 (fun H locs hP hD hS => ?_)
        have hP : va_P D vwCl [(h0, oM a ar mn tp osz lsz ns ct), (a 0, aK ta 64 tIP), (a 1, aK ta 48 tSPR), (a 2, aK ta 32 tMIX), (a 3, aK ta 56 tCH), (a 4, aK ta 48 tSEC), (a 5, aK ta 512 tSBX), (a 10, aB ta 64 bi), (a 11, aB ta 64 tu), (a 12, aB ta 56 cd), (a 13, aB ta 768 sk), (a 14, aB ta 32 hf), (a 15, aB ta 48 wd), (a 53, aS ta 16 (qU (qU b' 0 (BitVec.ofNat 8 1)) 1 (qlo (nI c)))), (a 52, aS ta 3 gnu), (a 38, aS ta 192 gto), (a 41, aS ta 256 gke)] H := hP
        have hD : va_D A [(h0, oM a ar mn tp osz lsz ns ct), (a 0, aK ta 64 tIP), (a 1, aK ta 48 tSPR), (a 2, aK ta 32 tMIX), (a 3, aK ta 56 tCH), (a 4, aK ta 48 tSEC), (a 5, aK ta 512 tSBX), (a 10, aB ta 64 bi), (a 11, aB ta 64 tu), (a 12, aB ta 56 cd), (a 13, aB ta 768 sk), (a 14, aB ta 32 hf), (a 15, aB ta 48 wd), (a 53, aS ta 16 (qU (qU b' 0 (BitVec.ofNat 8 1)) 1 (qlo (nI c)))), (a 52, aS ta 3 gnu), (a 38, aS ta 192 gto), (a 41, aS ta 256 gke)] := hD
        refine lv_aload_n (pc := 39) hx hb dX10_made_39 rfl (lv_at hl 1 rfl) ?_
        refine va_get (pc := 40) (D := D) (ci := 8) (v := .ref (a 53)) (C := RX10) (T := TX10) (N := 57) hx hb hts iu10 hown hK hP 0 rfl rfl 53 (by decide) (hts _ tw_1098) (fun _ h9 => h9) rfl dX10_made_40 ?_
        refine lv_iconst (pc := 43) (v := nI 2) hx hb dX10_made_43 (by decide +kernel) ?_
        refine lv_aload_n (pc := 44) hx hb dX10_made_44 rfl (lv_at hl 1 rfl) ?_
        refine va_get (pc := 45) (D := D) (ci := 8) (v := .ref (a 52)) (C := RX10) (T := TX10) (N := 57) hx hb hts iu10 hown hK hP 0 rfl rfl 52 (by decide) (hts _ tw_1097) (fun _ h9 => h9) rfl dX10_made_45 ?_
        refine lv_iconst (pc := 48) (v := nI 0) hx hb dX10_made_48 (by decide +kernel) ?_
        refine q_bald (pc := 49) hx hb hK hP 14 2 rfl rfl (k := 0) (v := qs (gnu 0)) rfl (by omega) (by omega) rfl dX10_made_49 ?_
        refine q_bastS (pc := 50) hx hb hK hP hD hS 13 2 rfl rfl (k := 2) rfl (by omega) (by omega) (b := gnu 0) (qlo_qs _) dX10_made_50 (fun H locs hP hD hS => ?_)
        have hP : va_P D vwCl [(h0, oM a ar mn tp osz lsz ns ct), (a 0, aK ta 64 tIP), (a 1, aK ta 48 tSPR), (a 2, aK ta 32 tMIX), (a 3, aK ta 56 tCH), (a 4, aK ta 48 tSEC), (a 5, aK ta 512 tSBX), (a 10, aB ta 64 bi), (a 11, aB ta 64 tu), (a 12, aB ta 56 cd), (a 13, aB ta 768 sk), (a 14, aB ta 32 hf), (a 15, aB ta 48 wd), (a 53, aS ta 16 (qU (qU (qU b' 0 (BitVec.ofNat 8 1)) 1 (qlo (nI c))) 2 (gnu 0))), (a 52, aS ta 3 gnu), (a 38, aS ta 192 gto), (a 41, aS ta 256 gke)] H := hP
        have hD : va_D A [(h0, oM a ar mn tp osz lsz ns ct), (a 0, aK ta 64 tIP), (a 1, aK ta 48 tSPR), (a 2, aK ta 32 tMIX), (a 3, aK ta 56 tCH), (a 4, aK ta 48 tSEC), (a 5, aK ta 512 tSBX), (a 10, aB ta 64 bi), (a 11, aB ta 64 tu), (a 12, aB ta 56 cd), (a 13, aB ta 768 sk), (a 14, aB ta 32 hf), (a 15, aB ta 48 wd), (a 53, aS ta 16 (qU (qU (qU b' 0 (BitVec.ofNat 8 1)) 1 (qlo (nI c))) 2 (gnu 0))), (a 52, aS ta 3 gnu), (a 38, aS ta 192 gto), (a 41, aS ta 256 gke)] := hD
        refine lv_aload_n (pc := 51) hx hb dX10_made_51 rfl (lv_at hl 1 rfl) ?_
        refine va_get (pc := 52) (D := D) (ci := 8) (v := .ref (a 53)) (C := RX10) (T := TX10) (N := 57) hx hb hts iu10 hown hK hP 0 rfl rfl 53 (by decide) (hts _ tw_1098) (fun _ h9 => h9) rfl dX10_made_52 ?_
        refine lv_iconst (pc := 55) (v := nI 3) hx hb dX10_made_55 (by decide +kernel) ?_
        refine lv_aload_n (pc := 56) hx hb dX10_made_56 rfl (lv_at hl 1 rfl) ?_
        refine va_get (pc := 57) (D := D) (ci := 8) (v := .ref (a 52)) (C := RX10) (T := TX10) (N := 57) hx hb hts iu10 hown hK hP 0 rfl rfl 52 (by decide) (hts _ tw_1097) (fun _ h9 => h9) rfl dX10_made_57 ?_
        refine lv_iconst (pc := 60) (v := nI 1) hx hb dX10_made_60 (by decide +kernel) ?_
        refine q_bald (pc := 61) hx hb hK hP 14 2 rfl rfl (k := 1) (v := qs (gnu 1)) rfl (by omega) (by omega) rfl dX10_made_61 ?_
        refine q_bastS (pc := 62) hx hb hK hP hD hS 13 2 rfl rfl (k := 3) rfl (by omega) (by omega) (b := gnu 1) (qlo_qs _) dX10_made_62 (fun H locs hP hD hS => ?_)
        have hP : va_P D vwCl [(h0, oM a ar mn tp osz lsz ns ct), (a 0, aK ta 64 tIP), (a 1, aK ta 48 tSPR), (a 2, aK ta 32 tMIX), (a 3, aK ta 56 tCH), (a 4, aK ta 48 tSEC), (a 5, aK ta 512 tSBX), (a 10, aB ta 64 bi), (a 11, aB ta 64 tu), (a 12, aB ta 56 cd), (a 13, aB ta 768 sk), (a 14, aB ta 32 hf), (a 15, aB ta 48 wd), (a 53, aS ta 16 (qU (qU (qU (qU b' 0 (BitVec.ofNat 8 1)) 1 (qlo (nI c))) 2 (gnu 0)) 3 (gnu 1))), (a 52, aS ta 3 gnu), (a 38, aS ta 192 gto), (a 41, aS ta 256 gke)] H := hP
        have hD : va_D A [(h0, oM a ar mn tp osz lsz ns ct), (a 0, aK ta 64 tIP), (a 1, aK ta 48 tSPR), (a 2, aK ta 32 tMIX), (a 3, aK ta 56 tCH), (a 4, aK ta 48 tSEC), (a 5, aK ta 512 tSBX), (a 10, aB ta 64 bi), (a 11, aB ta 64 tu), (a 12, aB ta 56 cd), (a 13, aB ta 768 sk), (a 14, aB ta 32 hf), (a 15, aB ta 48 wd), (a 53, aS ta 16 (qU (qU (qU (qU b' 0 (BitVec.ofNat 8 1)) 1 (qlo (nI c))) 2 (gnu 0)) 3 (gnu 1))), (a 52, aS ta 3 gnu), (a 38, aS ta 192 gto), (a 41, aS ta 256 gke)] := hD
        refine lv_aload_n (pc := 63) hx hb dX10_made_63 rfl (lv_at hl 1 rfl) ?_
        refine lv_aload_n (pc := 64) hx hb dX10_made_64 rfl (lv_at hl 1 rfl) ?_
        refine va_get (pc := 65) (D := D) (ci := 8) (v := .ref (a 53)) (C := RX10) (T := TX10) (N := 57) hx hb hts iu10 hown hK hP 0 rfl rfl 53 (by decide) (hts _ tw_1098) (fun _ h9 => h9) rfl dX10_made_65 ?_
        refine lv_iconst (pc := 68) (v := nI 0) hx hb dX10_made_68 (by decide +kernel) ?_
        refine lv_aload_n (pc := 69) hx hb dX10_made_69 rfl (lv_at hl 1 rfl) ?_
        refine va_get (pc := 70) (D := D) (ci := 8) (v := .ref (a 38)) (C := RX10) (T := TX10) (N := 57) hx hb hts iu10 hown hK hP 0 rfl rfl 38 (by decide) (hts _ tw_1083) (fun _ h9 => h9) rfl dX10_made_70 ?_
        refine lv_bipush (pc := 73) (v := nI 96) hx hb dX10_made_73 (by decide +kernel) ?_
        refine lv_iload_n (pc := 75) hx hb dX10_made_75 rfl (lv_at hl 2 rfl) ?_
        refine lv_imul (pc := 76) hx hb dX10_made_76 ?_
        refine q_top (y := nI (96 * sd)) (pk_mul 96 sd) ?_
        refine lv_bipush (pc := 77) (v := nI 32) hx hb dX10_made_77 (by decide +kernel) ?_
        refine lv_iload_n (pc := 79) hx hb dX10_made_79 rfl (lv_at hl 3 rfl) ?_
        refine lv_imul (pc := 80) hx hb dX10_made_80 ?_
        refine q_top (y := nI (32 * kk)) (pk_mul 32 kk) ?_
        refine lv_iadd (pc := 81) hx hb dX10_made_81 ?_
        refine q_top (y := nI (96 * sd + 32 * kk)) (nI_add (96 * sd) (32 * kk)) ?_
        refine lv_iconst (pc := 82) (v := nI 0) hx hb dX10_made_82 (by decide +kernel) ?_
        refine cs_V (pc := 83) (idx := 97) (n := 5) (wr := [(a 52, aS ta 3 gnu), (a 41, aS ta 256 gke)]) (As := [.ref (a 53), .int (nI 0), .ref (a 38), .int (nI (96 * sd + 32 * kk)), .int (nI 0)]) (rest := []) (ci := 8) hx hb hml hown hts hGok hK hA hG hl.1 hP hD hS (ct_X10_des3_L ll D ta hGok h0 a ar mn tp osz lsz ns ct (a 53) 0 16 (qU (qU (qU (qU b' 0 (BitVec.ofNat 8 1)) 1 (qlo (nI c))) 2 (gnu 0)) 3 (gnu 1)) (a 38) (96 * sd + 32 * kk) 192 gto bi tu cd sk hf wd false (by first | assumption | omega | rfl | decide) (by first | assumption | omega | rfl | decide) (by first | assumption | omega | rfl | decide) (by first | assumption | omega | rfl | decide) H.size) tw_1290 tw_1287 tw_1289 tw_32 tw_75 hdX10_des3 rfl ⟨rfl, rfl, Nat.le_of_ble_eq_true rfl, Nat.le_of_ble_eq_true rfl, Nat.le_of_ble_eq_true rfl, Nat.le_of_ble_eq_true rfl⟩ rfl rfl (q0 := 0) rfl [0, 1, 2, 3, 4, 5, 6, 7, 8, 9, 10, 11, 12, 13, 15] [14, 16] rfl rfl (by decide) rfl (Nat.le_of_ble_eq_true rfl) dX10_made_83 (fun u H locs hq hP hD hS => ?_)
        obtain ⟨gb1_83, bi1_83, tu1_83, cd1_83, sk1_83, hf1_83, wd1_83⟩ := u
        have hq : (seg gb1_83 0 8 = tdesL (seg gto (96 * sd + 32 * kk) 16) false (seg (qU (qU (qU (qU b' 0 (BitVec.ofNat 8 1)) 1 (qlo (nI c))) 2 (gnu 0)) 3 (gnu 1)) 0 8)) ∧ (∀ jz, (jz < 0 ∨ 0 + 8 ≤ jz) → gb1_83 jz = (qU (qU (qU (qU b' 0 (BitVec.ofNat 8 1)) 1 (qlo (nI c))) 2 (gnu 0)) 3 (gnu 1)) jz) := hq
        obtain ⟨hs_83, hfr_83⟩ := hq
        refine W.eq (g2 := F0 mm 86 ls []) rfl ?_
        have hP : va_P D vwCl [(a 52, aS ta 3 gnu), (a 41, aS ta 256 gke), (h0, oM a ar mn tp osz lsz ns ct), (a 0, aK ta 64 tIP), (a 1, aK ta 48 tSPR), (a 2, aK ta 32 tMIX), (a 3, aK ta 56 tCH), (a 4, aK ta 48 tSEC), (a 5, aK ta 512 tSBX), (a 10, aB ta 64 bi1_83), (a 11, aB ta 64 tu1_83), (a 12, aB ta 56 cd1_83), (a 13, aB ta 768 sk1_83), (a 14, aB ta 32 hf1_83), (a 15, aB ta 48 wd1_83), (a 53, aS ta 16 gb1_83), (a 38, aS ta 192 gto)] H := hP
        have hD : va_D A [(a 52, aS ta 3 gnu), (a 41, aS ta 256 gke), (h0, oM a ar mn tp osz lsz ns ct), (a 0, aK ta 64 tIP), (a 1, aK ta 48 tSPR), (a 2, aK ta 32 tMIX), (a 3, aK ta 56 tCH), (a 4, aK ta 48 tSEC), (a 5, aK ta 512 tSBX), (a 10, aB ta 64 bi1_83), (a 11, aB ta 64 tu1_83), (a 12, aB ta 56 cd1_83), (a 13, aB ta 768 sk1_83), (a 14, aB ta 32 hf1_83), (a 15, aB ta 48 wd1_83), (a 53, aS ta 16 gb1_83), (a 38, aS ta 192 gto)] := hD
        refine lv_iconst (pc := 86) (v := nI 0) hx hb dX10_made_86 (by decide +kernel) ?_
        refine lv_istore (pc := 87) (lv' := [(5, .int (nI 0)), (0, .ref h0), (1, .int (nI sd)), (2, .int (nI kk)), (3, .int (nI c)), (4, .int (nI q0))]) hx hb dX10_made_87 hl (by decide) rfl (fun ls hl => ?_)
        have LP89 : ∀ (nn89 : Nat) (k2 : Nat) (d' : Nat → BitVec 8), (k2 ≤ 8) → (qSeg d' gb1_83 8 k2 ((fun j => gb1_83 (8 + j) ^^^ gb1_83 j))) → (8 - k2 < nn89) → ∀ (H : Heap) (locs : List Loc), va_P D vwCl [(a 52, aS ta 3 gnu), (a 41, aS ta 256 gke), (h0, oM a ar mn tp osz lsz ns ct), (a 0, aK ta 64 tIP), (a 1, aK ta 48 tSPR), (a 2, aK ta 32 tMIX), (a 3, aK ta 56 tCH), (a 4, aK ta 48 tSEC), (a 5, aK ta 512 tSBX), (a 10, aB ta 64 bi1_83), (a 11, aB ta 64 tu1_83), (a 12, aB ta 56 cd1_83), (a 13, aB ta 768 sk1_83), (a 14, aB ta 32 hf1_83), (a 15, aB ta 48 wd1_83), (a 53, aS ta 16 d'), (a 38, aS ta 192 gto)] H → va_D A [(a 52, aS ta 3 gnu), (a 41, aS ta 256 gke), (h0, oM a ar mn tp osz lsz ns ct), (a 0, aK ta 64 tIP), (a 1, aK ta 48 tSPR), (a 2, aK ta 32 tMIX), (a 3, aK ta 56 tCH), (a 4, aK ta 48 tSEC), (a 5, aK ta 512 tSBX), (a 10, aB ta 64 bi1_83), (a 11, aB ta 64 tu1_83), (a 12, aB ta 56 cd1_83), (a 13, aB ta 768 sk1_83), (a 14, aB ta 32 hf1_83), (a 15, aB ta 48 wd1_83), (a 53, aS ta 16 d'), (a 38, aS ta 192 gto)] → va_S A ss.heap H locs → ∀ ls : Array Slot, lv_has ls 6 [(5, .int (nI k2)), (0, .ref h0), (1, .int (nI sd)), (2, .int (nI kk)), (3, .int (nI c)), (4, .int (nI q0))] → W pp ll ee ({ frames := 3, cells := 0, slots := 0, locals := 85 } : Room) ss mm (([.ref h0, .int (nI sd), .int (nI kk), .int (nI c), .int (nI q0)] : List Value).toArray) below meth kc H locs 0 0 Q (F0 mm 89 ls []) := by
          intro nn89
          induction nn89 with
          | zero => intro k2 d' hkk2 hs2 hmu; exact absurd hmu (Nat.not_lt_zero _)
          | succ nn89 ih89 =>
            intro k2 d' hkk2 hs2 hmu89 H locs hP hD hS ls hl
            refine lv_iload (pc := 89) hx hb dX10_made_89 (lv_at hl 0 rfl) ?_
            refine lv_bipush (pc := 91) (v := nI 8) hx hb dX10_made_91 (by decide +kernel) ?_
            refine lv_icmp_ge (pc := 93) (tgt := 123) hx hb dX10_made_93 (by decide) (fun c_2 => ?_) (fun c_2 => ?_)
            · skip
              rw [nI_leI (by omega) (by omega)] at c_2
              refine lv_aload_n (pc := 123) hx hb dX10_made_123 rfl (lv_at hl 1 rfl) ?_
              refine lv_aload_n (pc := 124) hx hb dX10_made_124 rfl (lv_at hl 1 rfl) ?_
              refine va_get (pc := 125) (D := D) (ci := 8) (v := .ref (a 53)) (C := RX10) (T := TX10) (N := 57) hx hb hts iu10 hown hK hP 2 rfl rfl 53 (by decide) (hts _ tw_1098) (fun _ h9 => h9) rfl dX10_made_125 ?_
              refine lv_bipush (pc := 128) (v := nI 8) hx hb dX10_made_128 (by decide +kernel) ?_
              refine lv_aload_n (pc := 130) hx hb dX10_made_130 rfl (lv_at hl 1 rfl) ?_
              refine va_get (pc := 131) (D := D) (ci := 8) (v := .ref (a 38)) (C := RX10) (T := TX10) (N := 57) hx hb hts iu10 hown hK hP 2 rfl rfl 38 (by decide) (hts _ tw_1083) (fun _ h9 => h9) rfl dX10_made_131 ?_
              refine lv_bipush (pc := 134) (v := nI 96) hx hb dX10_made_134 (by decide +kernel) ?_
              refine lv_iload_n (pc := 136) hx hb dX10_made_136 rfl (lv_at hl 2 rfl) ?_
              refine lv_imul (pc := 137) hx hb dX10_made_137 ?_
              refine q_top (y := nI (96 * sd)) (pk_mul 96 sd) ?_
              refine lv_bipush (pc := 138) (v := nI 32) hx hb dX10_made_138 (by decide +kernel) ?_
              refine lv_iload_n (pc := 140) hx hb dX10_made_140 rfl (lv_at hl 3 rfl) ?_
              refine lv_imul (pc := 141) hx hb dX10_made_141 ?_
              refine q_top (y := nI (32 * kk)) (pk_mul 32 kk) ?_
              refine lv_iadd (pc := 142) hx hb dX10_made_142 ?_
              refine q_top (y := nI (96 * sd + 32 * kk)) (nI_add (96 * sd) (32 * kk)) ?_
              refine lv_iconst (pc := 143) (v := nI 0) hx hb dX10_made_143 (by decide +kernel) ?_
              refine cs_V (pc := 144) (idx := 97) (n := 5) (wr := [(a 52, aS ta 3 gnu), (a 41, aS ta 256 gke)]) (As := [.ref (a 53), .int (nI 8), .ref (a 38), .int (nI (96 * sd + 32 * kk)), .int (nI 0)]) (rest := []) (ci := 8) hx hb hml hown hts hGok hK hA hG hl.1 hP hD hS (ct_X10_des3_L ll D ta hGok h0 a ar mn tp osz lsz ns ct (a 53) 8 16 d' (a 38) (96 * sd + 32 * kk) 192 gto bi1_83 tu1_83 cd1_83 sk1_83 hf1_83 wd1_83 false (by first | assumption | omega | rfl | decide) (by first | assumption | omega | rfl | decide) (by first | assumption | omega | rfl | decide) (by first | assumption | omega | rfl | decide) H.size) tw_1290 tw_1287 tw_1289 tw_32 tw_75 hdX10_des3 rfl ⟨rfl, rfl, Nat.le_of_ble_eq_true rfl, Nat.le_of_ble_eq_true rfl, Nat.le_of_ble_eq_true rfl, Nat.le_of_ble_eq_true rfl⟩ rfl rfl (q0 := 2) rfl [2, 3, 4, 5, 6, 7, 8, 9, 10, 11, 12, 13, 14, 15, 16] [0, 1] rfl rfl (by decide) rfl (Nat.le_of_ble_eq_true rfl) dX10_made_144 (fun u H locs hq hP hD hS => ?_)
              obtain ⟨gb1_144, bi1_144, tu1_144, cd1_144, sk1_144, hf1_144, wd1_144⟩ := u
              have hq : (seg gb1_144 8 8 = tdesL (seg gto (96 * sd + 32 * kk) 16) false (seg d' 8 8)) ∧ (∀ jz, (jz < 8 ∨ 8 + 8 ≤ jz) → gb1_144 jz = d' jz) := hq
              obtain ⟨hs_144, hfr_144⟩ := hq
              refine W.eq (g2 := F0 mm 147 ls []) rfl ?_
              have hP : va_P D vwCl [(a 52, aS ta 3 gnu), (a 41, aS ta 256 gke), (h0, oM a ar mn tp osz lsz ns ct), (a 0, aK ta 64 tIP), (a 1, aK ta 48 tSPR), (a 2, aK ta 32 tMIX), (a 3, aK ta 56 tCH), (a 4, aK ta 48 tSEC), (a 5, aK ta 512 tSBX), (a 10, aB ta 64 bi1_144), (a 11, aB ta 64 tu1_144), (a 12, aB ta 56 cd1_144), (a 13, aB ta 768 sk1_144), (a 14, aB ta 32 hf1_144), (a 15, aB ta 48 wd1_144), (a 53, aS ta 16 gb1_144), (a 38, aS ta 192 gto)] H := hP
              have hD : va_D A [(a 52, aS ta 3 gnu), (a 41, aS ta 256 gke), (h0, oM a ar mn tp osz lsz ns ct), (a 0, aK ta 64 tIP), (a 1, aK ta 48 tSPR), (a 2, aK ta 32 tMIX), (a 3, aK ta 56 tCH), (a 4, aK ta 48 tSEC), (a 5, aK ta 512 tSBX), (a 10, aB ta 64 bi1_144), (a 11, aB ta 64 tu1_144), (a 12, aB ta 56 cd1_144), (a 13, aB ta 768 sk1_144), (a 14, aB ta 32 hf1_144), (a 15, aB ta 48 wd1_144), (a 53, aS ta 16 gb1_144), (a 38, aS ta 192 gto)] := hD
              refine lv_iconst (pc := 147) (v := nI 0) hx hb dX10_made_147 (by decide +kernel) ?_
              refine lv_istore (pc := 148) (lv' := [(5, .int (nI 0)), (0, .ref h0), (1, .int (nI sd)), (2, .int (nI kk)), (3, .int (nI c)), (4, .int (nI q0))]) hx hb dX10_made_148 hl (by decide) rfl (fun ls hl => ?_)
              have LP150 : ∀ (nn150 : Nat) (k3 : Nat) (e' : Nat → BitVec 8), (k3 ≤ 16) → (qSeg e' gke (128 * sd + q0) k3 gb1_144) → (16 - k3 < nn150) → ∀ (H : Heap) (locs : List Loc), va_P D vwCl [(a 52, aS ta 3 gnu), (a 41, aS ta 256 e'), (h0, oM a ar mn tp osz lsz ns ct), (a 0, aK ta 64 tIP), (a 1, aK ta 48 tSPR), (a 2, aK ta 32 tMIX), (a 3, aK ta 56 tCH), (a 4, aK ta 48 tSEC), (a 5, aK ta 512 tSBX), (a 10, aB ta 64 bi1_144), (a 11, aB ta 64 tu1_144), (a 12, aB ta 56 cd1_144), (a 13, aB ta 768 sk1_144), (a 14, aB ta 32 hf1_144), (a 15, aB ta 48 wd1_144), (a 53, aS ta 16 gb1_144), (a 38, aS ta 192 gto)] H → va_D A [(a 52, aS ta 3 gnu), (a 41, aS ta 256 e'), (h0, oM a ar mn tp osz lsz ns ct), (a 0, aK ta 64 tIP), (a 1, aK ta 48 tSPR), (a 2, aK ta 32 tMIX), (a 3, aK ta 56 tCH), (a 4, aK ta 48 tSEC), (a 5, aK ta 512 tSBX), (a 10, aB ta 64 bi1_144), (a 11, aB ta 64 tu1_144), (a 12, aB ta 56 cd1_144), (a 13, aB ta 768 sk1_144), (a 14, aB ta 32 hf1_144), (a 15, aB ta 48 wd1_144), (a 53, aS ta 16 gb1_144), (a 38, aS ta 192 gto)] → va_S A ss.heap H locs → ∀ ls : Array Slot, lv_has ls 6 [(5, .int (nI k3)), (0, .ref h0), (1, .int (nI sd)), (2, .int (nI kk)), (3, .int (nI c)), (4, .int (nI q0))] → W pp ll ee ({ frames := 3, cells := 0, slots := 0, locals := 85 } : Room) ss mm (([.ref h0, .int (nI sd), .int (nI kk), .int (nI c), .int (nI q0)] : List Value).toArray) below meth kc H locs 0 0 Q (F0 mm 150 ls []) := by
                intro nn150
                induction nn150 with
                | zero => intro k3 e' hkk3 hs3 hmu; exact absurd hmu (Nat.not_lt_zero _)
                | succ nn150 ih150 =>
                  intro k3 e' hkk3 hs3 hmu150 H locs hP hD hS ls hl
                  refine lv_iload (pc := 150) hx hb dX10_made_150 (lv_at hl 0 rfl) ?_
                  refine lv_bipush (pc := 152) (v := nI 16) hx hb dX10_made_152 (by decide +kernel) ?_
                  refine lv_icmp_ge (pc := 154) (tgt := 186) hx hb dX10_made_154 (by decide) (fun c_3 => ?_) (fun c_3 => ?_)
                  · skip
                    rw [nI_leI (by omega) (by omega)] at c_3
                    have hq_4 : (seg e' (128 * sd + q0) 16 = skeyL (seg gto (96 * sd + 32 * kk) 16) (256 + c) ct) ∧ (∀ j, (j < 128 * sd + q0 ∨ 128 * sd + q0 + 16 ≤ j) → e' j = gke j) := by
                      have hm := mk_blk (c := c) (ct := ct) hs (show k = 16 by omega) hc9 hnum
                      refine ⟨?_, fun j hj => hs3.2 j (by omega)⟩
                      rw [skeyL_eq]
                      exact made_of hs_83 hm.1 hm.2 hfr_83 hs2 (by omega) hs_144 hfr_144 hs3 (by omega)
                    exact hret (⟨(bi1_144), (tu1_144), (cd1_144), (sk1_144), (hf1_144), (wd1_144), (gb1_144), (e')⟩ : (Nat → Bool) × (Nat → Bool) × (Nat → Bool) × (Nat → Bool) × (Nat → Bool) × (Nat → Bool) × (Nat → BitVec 8) × (Nat → BitVec 8)) _ _ _ _ dX10_made_186 hq_4 (hP.sub [2, 3, 4, 5, 6, 7, 8, 9, 10, 11, 12, 13, 14, 15, 0, 16, 1] rfl) (hD.sub [2, 3, 4, 5, 6, 7, 8, 9, 10, 11, 12, 13, 14, 15, 0, 16, 1] (by decide) rfl) hS
                  · skip
                    rw [nI_leI (by omega) (by omega)] at c_3
                    refine lv_aload_n (pc := 157) hx hb dX10_made_157 rfl (lv_at hl 1 rfl) ?_
                    refine va_get (pc := 158) (D := D) (ci := 8) (v := .ref (a 41)) (C := RX10) (T := TX10) (N := 57) hx hb hts iu10 hown hK hP 2 rfl rfl 41 (by decide) (hts _ tw_1086) (fun _ h9 => h9) rfl dX10_made_158 ?_
                    refine lv_sipush (pc := 161) (v := nI 128) hx hb dX10_made_161 (by decide +kernel) ?_
                    refine lv_iload_n (pc := 164) hx hb dX10_made_164 rfl (lv_at hl 2 rfl) ?_
                    refine lv_imul (pc := 165) hx hb dX10_made_165 ?_
                    refine q_top (y := nI (128 * sd)) (pk_mul 128 sd) ?_
                    refine lv_iload (pc := 166) hx hb dX10_made_166 (lv_at hl 5 rfl) ?_
                    refine lv_iadd (pc := 168) hx hb dX10_made_168 ?_
                    refine q_top (y := nI (128 * sd + q0)) (nI_add (128 * sd) q0) ?_
                    refine lv_iload (pc := 169) hx hb dX10_made_169 (lv_at hl 0 rfl) ?_
                    refine lv_iadd (pc := 171) hx hb dX10_made_171 ?_
                    refine q_top (y := nI (128 * sd + q0 + k3)) (nI_add (128 * sd + q0) k3) ?_
                    refine lv_aload_n (pc := 172) hx hb dX10_made_172 rfl (lv_at hl 1 rfl) ?_
                    refine va_get (pc := 173) (D := D) (ci := 8) (v := .ref (a 53)) (C := RX10) (T := TX10) (N := 57) hx hb hts iu10 hown hK hP 2 rfl rfl 53 (by decide) (hts _ tw_1098) (fun _ h9 => h9) rfl dX10_made_173 ?_
                    refine lv_iload (pc := 176) hx hb dX10_made_176 (lv_at hl 0 rfl) ?_
                    refine q_bald (pc := 178) hx hb hK hP 15 2 rfl rfl (k := k3) (v := qs (gb1_144 k3)) rfl (by omega) (by omega) rfl dX10_made_178 ?_
                    refine q_bastS (pc := 179) hx hb hK hP hD hS 1 2 rfl rfl (k := 128 * sd + q0 + k3) rfl (by omega) (by omega) (b := gb1_144 k3) (qlo_qs _) dX10_made_179 (fun H locs hP hD hS => ?_)
                    have hP : va_P D vwCl [(a 52, aS ta 3 gnu), (a 41, aS ta 256 (qU e' (128 * sd + q0 + k3) (gb1_144 k3))), (h0, oM a ar mn tp osz lsz ns ct), (a 0, aK ta 64 tIP), (a 1, aK ta 48 tSPR), (a 2, aK ta 32 tMIX), (a 3, aK ta 56 tCH), (a 4, aK ta 48 tSEC), (a 5, aK ta 512 tSBX), (a 10, aB ta 64 bi1_144), (a 11, aB ta 64 tu1_144), (a 12, aB ta 56 cd1_144), (a 13, aB ta 768 sk1_144), (a 14, aB ta 32 hf1_144), (a 15, aB ta 48 wd1_144), (a 53, aS ta 16 gb1_144), (a 38, aS ta 192 gto)] H := hP
                    have hD : va_D A [(a 52, aS ta 3 gnu), (a 41, aS ta 256 (qU e' (128 * sd + q0 + k3) (gb1_144 k3))), (h0, oM a ar mn tp osz lsz ns ct), (a 0, aK ta 64 tIP), (a 1, aK ta 48 tSPR), (a 2, aK ta 32 tMIX), (a 3, aK ta 56 tCH), (a 4, aK ta 48 tSEC), (a 5, aK ta 512 tSBX), (a 10, aB ta 64 bi1_144), (a 11, aB ta 64 tu1_144), (a 12, aB ta 56 cd1_144), (a 13, aB ta 768 sk1_144), (a 14, aB ta 32 hf1_144), (a 15, aB ta 48 wd1_144), (a 53, aS ta 16 gb1_144), (a 38, aS ta 192 gto)] := hD
                    refine lv_iinc (pc := 180) (v := nI (k3 + 1)) (lv' := [(5, .int (nI (k3 + 1))), (0, .ref h0), (1, .int (nI sd)), (2, .int (nI kk)), (3, .int (nI c)), (4, .int (nI q0))]) hx hb dX10_made_180 hl (k := 0) rfl (by first | exact nI_add k3 1 | rfl) (by decide) rfl (fun ls hl => ?_)
                    refine lv_goto (pc := 183) (tgt := 150) hx hb dX10_made_183 (by decide) ?_
                    exact ih150 (k3 + 1) (qU e' (128 * sd + q0 + k3) (gb1_144 k3)) (by omega) (qSeg_s hs3 (by omega) (by first | rfl | (simp; done))) (by omega) _ _ (hP.sub [0, 1, 2, 3, 4, 5, 6, 7, 8, 9, 10, 11, 12, 13, 14, 15, 16] rfl) (hD.sub [0, 1, 2, 3, 4, 5, 6, 7, 8, 9, 10, 11, 12, 13, 14, 15, 16] (by decide) rfl) hS ls (lv_sub hl [0, 1, 2, 3, 4, 5] rfl)
              exact LP150 _ 0 gke (by omega) (qSeg_0) (Nat.lt_succ_self _) _ _ (hP.sub [0, 1, 2, 3, 4, 5, 6, 7, 8, 9, 10, 11, 12, 13, 14, 15, 16] rfl) (hD.sub [0, 1, 2, 3, 4, 5, 6, 7, 8, 9, 10, 11, 12, 13, 14, 15, 16] (by decide) rfl) hS ls (lv_sub hl [0, 1, 2, 3, 4, 5] rfl)
            · skip
              rw [nI_leI (by omega) (by omega)] at c_2
              refine lv_aload_n (pc := 96) hx hb dX10_made_96 rfl (lv_at hl 1 rfl) ?_
              refine va_get (pc := 97) (D := D) (ci := 8) (v := .ref (a 53)) (C := RX10) (T := TX10) (N := 57) hx hb hts iu10 hown hK hP 2 rfl rfl 53 (by decide) (hts _ tw_1098) (fun _ h9 => h9) rfl dX10_made_97 ?_
              refine lv_bipush (pc := 100) (v := nI 8) hx hb dX10_made_100 (by decide +kernel) ?_
              refine lv_iload (pc := 102) hx hb dX10_made_102 (lv_at hl 0 rfl) ?_
              refine lv_iadd (pc := 104) hx hb dX10_made_104 ?_
              refine q_top (y := nI (8 + k2)) (nI_add 8 k2) ?_
              refine lv_dup2_11 (pc := 105) hx hb dX10_made_105 rfl rfl ?_
              refine q_bald (pc := 106) hx hb hK hP 15 2 rfl rfl (k := 8 + k2) (v := qs (d' (8 + k2))) rfl (by omega) (by omega) rfl dX10_made_106 ?_
              refine lv_aload_n (pc := 107) hx hb dX10_made_107 rfl (lv_at hl 1 rfl) ?_
              refine va_get (pc := 108) (D := D) (ci := 8) (v := .ref (a 53)) (C := RX10) (T := TX10) (N := 57) hx hb hts iu10 hown hK hP 2 rfl rfl 53 (by decide) (hts _ tw_1098) (fun _ h9 => h9) rfl dX10_made_108 ?_
              refine lv_iload (pc := 111) hx hb dX10_made_111 (lv_at hl 0 rfl) ?_
              refine q_bald (pc := 113) hx hb hK hP 15 2 rfl rfl (k := k2) (v := qs (d' k2)) rfl (by omega) (by omega) rfl dX10_made_113 ?_
              refine lv_ixor (pc := 114) hx hb dX10_made_114 ?_
              refine q_top (y := qs ((d' (8 + k2)) ^^^ (d' k2))) (q_xor_s _ _) ?_
              refine lv_i2b (pc := 115) (v := qs ((d' (8 + k2)) ^^^ (d' k2))) hx hb dX10_made_115 (q_i2b_s _) ?_
              refine q_bastS (pc := 116) hx hb hK hP hD hS 15 2 rfl rfl (k := 8 + k2) rfl (by omega) (by omega) (b := (d' (8 + k2)) ^^^ (d' k2)) (qlo_qs _) dX10_made_116 (fun H locs hP hD hS => ?_)
              have hP : va_P D vwCl [(a 52, aS ta 3 gnu), (a 41, aS ta 256 gke), (h0, oM a ar mn tp osz lsz ns ct), (a 0, aK ta 64 tIP), (a 1, aK ta 48 tSPR), (a 2, aK ta 32 tMIX), (a 3, aK ta 56 tCH), (a 4, aK ta 48 tSEC), (a 5, aK ta 512 tSBX), (a 10, aB ta 64 bi1_83), (a 11, aB ta 64 tu1_83), (a 12, aB ta 56 cd1_83), (a 13, aB ta 768 sk1_83), (a 14, aB ta 32 hf1_83), (a 15, aB ta 48 wd1_83), (a 53, aS ta 16 (qU d' (8 + k2) ((d' (8 + k2)) ^^^ (d' k2)))), (a 38, aS ta 192 gto)] H := hP
              have hD : va_D A [(a 52, aS ta 3 gnu), (a 41, aS ta 256 gke), (h0, oM a ar mn tp osz lsz ns ct), (a 0, aK ta 64 tIP), (a 1, aK ta 48 tSPR), (a 2, aK ta 32 tMIX), (a 3, aK ta 56 tCH), (a 4, aK ta 48 tSEC), (a 5, aK ta 512 tSBX), (a 10, aB ta 64 bi1_83), (a 11, aB ta 64 tu1_83), (a 12, aB ta 56 cd1_83), (a 13, aB ta 768 sk1_83), (a 14, aB ta 32 hf1_83), (a 15, aB ta 48 wd1_83), (a 53, aS ta 16 (qU d' (8 + k2) ((d' (8 + k2)) ^^^ (d' k2)))), (a 38, aS ta 192 gto)] := hD
              refine lv_iinc (pc := 117) (v := nI (k2 + 1)) (lv' := [(5, .int (nI (k2 + 1))), (0, .ref h0), (1, .int (nI sd)), (2, .int (nI kk)), (3, .int (nI c)), (4, .int (nI q0))]) hx hb dX10_made_117 hl (k := 0) rfl (by first | exact nI_add k2 1 | rfl) (by decide) rfl (fun ls hl => ?_)
              refine lv_goto (pc := 120) (tgt := 89) hx hb dX10_made_120 (by decide) ?_
              exact ih89 (k2 + 1) (qU d' (8 + k2) ((d' (8 + k2)) ^^^ (d' k2))) (by omega) (qSeg_s hs2 (by omega) (by rw [hs2.2 _ (by omega), hs2.2 _ (by omega)])) (by omega) _ _ (hP.sub [0, 1, 2, 3, 4, 5, 6, 7, 8, 9, 10, 11, 12, 13, 14, 15, 16] rfl) (hD.sub [0, 1, 2, 3, 4, 5, 6, 7, 8, 9, 10, 11, 12, 13, 14, 15, 16] (by decide) rfl) hS ls (lv_sub hl [0, 1, 2, 3, 4, 5] rfl)
        exact LP89 _ 0 gb1_83 (by omega) (qSeg_0) (Nat.lt_succ_self _) _ _ (hP.sub [0, 1, 2, 3, 4, 5, 6, 7, 8, 9, 10, 11, 12, 13, 14, 15, 16] rfl) (hD.sub [0, 1, 2, 3, 4, 5, 6, 7, 8, 9, 10, 11, 12, 13, 14, 15, 16] (by decide) rfl) hS ls (lv_sub hl [0, 1, 2, 3, 4, 5] rfl)
      · skip
        rw [nI_leI (by omega) (by omega)] at c_1
        refine lv_aload_n (pc := 10) hx hb dX10_made_10 rfl (lv_at hl 1 rfl) ?_
        refine va_get (pc := 11) (D := D) (ci := 8) (v := .ref (a 53)) (C := RX10) (T := TX10) (N := 57) hx hb hts iu10 hown hK hP 0 rfl rfl 53 (by decide) (hts _ tw_1098) (fun _ h9 => h9) rfl dX10_made_11 ?_
        refine lv_iload (pc := 14) hx hb dX10_made_14 (lv_at hl 0 rfl) ?_
        refine lv_iconst (pc := 16) (v := nI 0) hx hb dX10_made_16 (by decide +kernel) ?_
        refine q_bastS (pc := 17) hx hb hK hP hD hS 13 2 rfl rfl (k := k) rfl (by omega) (by omega) (b := BitVec.ofNat 8 0) (qlo_nI _) dX10_made_17 (fun H locs hP hD hS => ?_)
        have hP : va_P D vwCl [(h0, oM a ar mn tp osz lsz ns ct), (a 0, aK ta 64 tIP), (a 1, aK ta 48 tSPR), (a 2, aK ta 32 tMIX), (a 3, aK ta 56 tCH), (a 4, aK ta 48 tSEC), (a 5, aK ta 512 tSBX), (a 10, aB ta 64 bi), (a 11, aB ta 64 tu), (a 12, aB ta 56 cd), (a 13, aB ta 768 sk), (a 14, aB ta 32 hf), (a 15, aB ta 48 wd), (a 53, aS ta 16 (qU b' k (BitVec.ofNat 8 0))), (a 52, aS ta 3 gnu), (a 38, aS ta 192 gto), (a 41, aS ta 256 gke)] H := hP
        have hD : va_D A [(h0, oM a ar mn tp osz lsz ns ct), (a 0, aK ta 64 tIP), (a 1, aK ta 48 tSPR), (a 2, aK ta 32 tMIX), (a 3, aK ta 56 tCH), (a 4, aK ta 48 tSEC), (a 5, aK ta 512 tSBX), (a 10, aB ta 64 bi), (a 11, aB ta 64 tu), (a 12, aB ta 56 cd), (a 13, aB ta 768 sk), (a 14, aB ta 32 hf), (a 15, aB ta 48 wd), (a 53, aS ta 16 (qU b' k (BitVec.ofNat 8 0))), (a 52, aS ta 3 gnu), (a 38, aS ta 192 gto), (a 41, aS ta 256 gke)] := hD
        refine lv_iinc (pc := 18) (v := nI (k + 1)) (lv' := [(5, .int (nI (k + 1))), (0, .ref h0), (1, .int (nI sd)), (2, .int (nI kk)), (3, .int (nI c)), (4, .int (nI q0))]) hx hb dX10_made_18 hl (k := 0) rfl (by first | exact nI_add k 1 | rfl) (by decide) rfl (fun ls hl => ?_)
        refine lv_goto (pc := 21) (tgt := 3) hx hb dX10_made_21 (by decide) ?_
        exact ih3 (k + 1) (qU b' k (BitVec.ofNat 8 0)) (by omega) (qSeg_s hs (by omega) (by first | rfl | (simp; done))) (by omega) _ _ (hP.sub [0, 1, 2, 3, 4, 5, 6, 7, 8, 9, 10, 11, 12, 13, 14, 15, 16] rfl) (hD.sub [0, 1, 2, 3, 4, 5, 6, 7, 8, 9, 10, 11, 12, 13, 14, 15, 16] (by decide) rfl) hS ls (lv_sub hl [0, 1, 2, 3, 4, 5] rfl)
  exact LP3 _ 0 gbl (by omega) (qSeg_0) (Nat.lt_succ_self _) _ _ (hP.sub [0, 1, 2, 3, 4, 5, 6, 7, 8, 9, 10, 11, 12, 13, 14, 15, 16] rfl) (hD.sub [0, 1, 2, 3, 4, 5, 6, 7, 8, 9, 10, 11, 12, 13, 14, 15, 16] (by decide) rfl) hS ls (lv_sub hl [0, 1, 2, 3, 4, 5] rfl)
theorem hdX10_aboutHost : yX10_aboutHost.cls ≠ "java/lang/invoke/MethodHandle" ∧ yX10_aboutHost.cls ≠ "java/lang/invoke/VarHandle" ∧ (parseMethodDescriptor yX10_aboutHost.desc).map (fun d => d.parameters.length) = some 1 := ⟨by decide +kernel, by decide +kernel, by decide +kernel⟩
theorem dX10_aboutHost_0 : decode cX10_aboutHost 0 = .ok (.iconst 0, 1) := by decide +kernel
theorem dX10_aboutHost_1 : decode cX10_aboutHost 1 = .ok (.istore_n 2, 1) := by decide +kernel
theorem dX10_aboutHost_2 : decode cX10_aboutHost 2 = .ok (.iload_n 2, 1) := by decide +kernel
theorem dX10_aboutHost_3 : decode cX10_aboutHost 3 = .ok (.bipush 8, 2) := by decide +kernel
theorem dX10_aboutHost_5 : decode cX10_aboutHost 5 = .ok (.if_icmp .ge 41, 3) := by decide +kernel
theorem dX10_aboutHost_8 : decode cX10_aboutHost 8 = .ok (.aload_n 0, 1) := by decide +kernel
theorem dX10_aboutHost_9 : decode cX10_aboutHost 9 = .ok (.getfield 118, 3) := by decide +kernel
theorem dX10_aboutHost_12 : decode cX10_aboutHost 12 = .ok (.iload_n 2, 1) := by decide +kernel
theorem dX10_aboutHost_13 : decode cX10_aboutHost 13 = .ok (.aload_n 0, 1) := by decide +kernel
theorem dX10_aboutHost_14 : decode cX10_aboutHost 14 = .ok (.getfield 277, 3) := by decide +kernel
theorem dX10_aboutHost_17 : decode cX10_aboutHost 17 = .ok (.iload_n 2, 1) := by decide +kernel
theorem dX10_aboutHost_18 : decode cX10_aboutHost 18 = .ok (.baload, 1) := by decide +kernel
theorem dX10_aboutHost_19 : decode cX10_aboutHost 19 = .ok (.bastore, 1) := by decide +kernel
theorem dX10_aboutHost_20 : decode cX10_aboutHost 20 = .ok (.aload_n 0, 1) := by decide +kernel
theorem dX10_aboutHost_21 : decode cX10_aboutHost 21 = .ok (.getfield 118, 3) := by decide +kernel
theorem dX10_aboutHost_24 : decode cX10_aboutHost 24 = .ok (.bipush 8, 2) := by decide +kernel
theorem dX10_aboutHost_26 : decode cX10_aboutHost 26 = .ok (.iload_n 2, 1) := by decide +kernel
theorem dX10_aboutHost_27 : decode cX10_aboutHost 27 = .ok (.iadd, 1) := by decide +kernel
theorem dX10_aboutHost_28 : decode cX10_aboutHost 28 = .ok (.aload_n 0, 1) := by decide +kernel
theorem dX10_aboutHost_29 : decode cX10_aboutHost 29 = .ok (.getfield 255, 3) := by decide +kernel
theorem dX10_aboutHost_32 : decode cX10_aboutHost 32 = .ok (.bipush 8, 2) := by decide +kernel
theorem dX10_aboutHost_34 : decode cX10_aboutHost 34 = .ok (.iload_n 1, 1) := by decide +kernel
theorem dX10_aboutHost_35 : decode cX10_aboutHost 35 = .ok (.imul, 1) := by decide +kernel
theorem dX10_aboutHost_36 : decode cX10_aboutHost 36 = .ok (.iload_n 2, 1) := by decide +kernel
theorem dX10_aboutHost_37 : decode cX10_aboutHost 37 = .ok (.iadd, 1) := by decide +kernel
theorem dX10_aboutHost_38 : decode cX10_aboutHost 38 = .ok (.baload, 1) := by decide +kernel
theorem dX10_aboutHost_39 : decode cX10_aboutHost 39 = .ok (.bastore, 1) := by decide +kernel
theorem dX10_aboutHost_40 : decode cX10_aboutHost 40 = .ok (.iinc 2 1, 3) := by decide +kernel
theorem dX10_aboutHost_43 : decode cX10_aboutHost 43 = .ok (.goto (-41), 3) := by decide +kernel
theorem dX10_aboutHost_46 : decode cX10_aboutHost 46 = .ok (.return_, 1) := by decide +kernel
set_option maxHeartbeats 4000000 in
set_option maxRecDepth 100000 in
theorem ct_X10_aboutHost (ll : Launch) (D : va_G) (ta : Nat → ClassId) {G : (Nat → Prop) → State → Heap → Prop} (hGok : GOK G) (h0 : Nat) (a : Nat → Nat) (ar : Nat) (mn : Nat) (tp : Nat) (osz : Nat) (lsz : Nat) (ns : Nat) (ct : Nat) (gov : Nat → BitVec 8) (ghs : Nat → BitVec 8) (gck : Nat → BitVec 8) (sd : Nat) (hsd : sd ≤ 1) (sz : Nat) : CT ll yX10_aboutHost cX10_aboutHost 3 none ({ frames := 0, cells := 0, slots := 0, locals := 0 } : Room) D ta G [.ref h0, .int (nI sd)] [(h0, oM a ar mn tp osz lsz ns ct), (a 26, aS ta 120 gov), (a 51, aS ta 8 ghs), (a 44, aS ta 16 gck)] sz (S := (Nat → BitVec 8)) (fun _ => none) (fun u => (seg u 0 16 = qL ghs 8 ++ seg gck (8 * sd) 8)) (fun u => [(h0, oM a ar mn tp osz lsz ns ct), (a 26, aS ta 120 u), (a 51, aS ta 8 ghs), (a 44, aS ta 16 gck)]) 0 0 := by
  refine CT.of_v rfl (by decide) (Nat.le_of_ble_eq_true rfl) ?_
  intro pp ee ss mm below meth kc A Q hx hb hml hown hin hts hK hA hsz hG hret H locs hP hD hS ls hl
  have hl : lv_has ls 3 [(0, .ref h0), (1, .int (nI sd))] := hl
  refine lv_iconst (pc := 0) (v := nI 0) hx hb dX10_aboutHost_0 (by decide +kernel) ?_
  refine lv_istore_n (pc := 1) (lv' := [(2, .int (nI 0)), (0, .ref h0), (1, .int (nI sd))]) hx hb dX10_aboutHost_1 rfl hl (by decide) rfl (fun ls hl => ?_)
  have LP2 : ∀ (nn2 : Nat) (k : Nat) (o' : Nat → BitVec 8), (k ≤ 8) → (∀ j, j < k → o' j = ghs j ∧ o' (8 + j) = gck (8 * sd + j)) → (8 - k < nn2) → ∀ (H : Heap) (locs : List Loc), va_P D vwCl [(h0, oM a ar mn tp osz lsz ns ct), (a 26, aS ta 120 o'), (a 51, aS ta 8 ghs), (a 44, aS ta 16 gck)] H → va_D A [(h0, oM a ar mn tp osz lsz ns ct), (a 26, aS ta 120 o'), (a 51, aS ta 8 ghs), (a 44, aS ta 16 gck)] → va_S A ss.heap H locs → ∀ ls : Array Slot, lv_has ls 3 [(2, .int (nI k)), (0, .ref h0), (1, .int (nI sd))] → W pp ll ee ({ frames := 0, cells := 0, slots := 0, locals := 0 } : Room) ss mm (([.ref h0, .int (nI sd)] : List Value).toArray) below meth kc H locs 0 0 Q (F0 mm 2 ls []) := by
    intro nn2
    induction nn2 with
    | zero => intro k o' hkk ho hmu; exact absurd hmu (Nat.not_lt_zero _)
    | succ nn2 ih2 =>
      intro k o' hkk ho hmu2 H locs hP hD hS ls hl
      refine lv_iload_n (pc := 2) hx hb dX10_aboutHost_2 rfl (lv_at hl 0 rfl) ?_
      refine lv_bipush (pc := 3) (v := nI 8) hx hb dX10_aboutHost_3 (by decide +kernel) ?_
      refine lv_icmp_ge (pc := 5) (tgt := 46) hx hb dX10_aboutHost_5 (by decide) (fun c_1 => ?_) (fun c_1 => ?_)
      · skip
        rw [nI_leI (by omega) (by omega)] at c_1
        have hq_2 : (seg o' 0 16 = qL ghs 8 ++ seg gck (8 * sd) 8) := by
          rw [show (16 : Nat) = 8 + 8 from rfl, seg_app, Nat.zero_add]
          congr 1
          · rw [seg_0, qL_ext]; exact fun j hj => (ho j (by omega)).1
          · rw [seg_ext]; exact fun j hj => (ho j (by omega)).2
        exact hret (o') _ _ _ _ dX10_aboutHost_46 hq_2 (hP.sub [0, 1, 2, 3] rfl) (hD.sub [0, 1, 2, 3] (by decide) rfl) hS
      · skip
        rw [nI_leI (by omega) (by omega)] at c_1
        refine lv_aload_n (pc := 8) hx hb dX10_aboutHost_8 rfl (lv_at hl 1 rfl) ?_
        refine va_get (pc := 9) (D := D) (ci := 8) (v := .ref (a 26)) (C := RX10) (T := TX10) (N := 57) hx hb hts iu10 hown hK hP 0 rfl rfl 26 (by decide) (hts _ tw_1071) (fun _ h9 => h9) rfl dX10_aboutHost_9 ?_
        refine lv_iload_n (pc := 12) hx hb dX10_aboutHost_12 rfl (lv_at hl 0 rfl) ?_
        refine lv_aload_n (pc := 13) hx hb dX10_aboutHost_13 rfl (lv_at hl 1 rfl) ?_
        refine va_get (pc := 14) (D := D) (ci := 8) (v := .ref (a 51)) (C := RX10) (T := TX10) (N := 57) hx hb hts iu10 hown hK hP 0 rfl rfl 51 (by decide) (hts _ tw_1096) (fun _ h9 => h9) rfl dX10_aboutHost_14 ?_
        refine lv_iload_n (pc := 17) hx hb dX10_aboutHost_17 rfl (lv_at hl 0 rfl) ?_
        refine q_bald (pc := 18) hx hb hK hP 2 2 rfl rfl (k := k) (v := qs (ghs k)) rfl (by omega) (by omega) rfl dX10_aboutHost_18 ?_
        refine q_bastS (pc := 19) hx hb hK hP hD hS 1 2 rfl rfl (k := k) rfl (by omega) (by omega) (b := ghs k) (qlo_qs _) dX10_aboutHost_19 (fun H locs hP hD hS => ?_)
        have hP : va_P D vwCl [(h0, oM a ar mn tp osz lsz ns ct), (a 26, aS ta 120 (qU o' k (ghs k))), (a 51, aS ta 8 ghs), (a 44, aS ta 16 gck)] H := hP
        have hD : va_D A [(h0, oM a ar mn tp osz lsz ns ct), (a 26, aS ta 120 (qU o' k (ghs k))), (a 51, aS ta 8 ghs), (a 44, aS ta 16 gck)] := hD
        refine lv_aload_n (pc := 20) hx hb dX10_aboutHost_20 rfl (lv_at hl 1 rfl) ?_
        refine va_get (pc := 21) (D := D) (ci := 8) (v := .ref (a 26)) (C := RX10) (T := TX10) (N := 57) hx hb hts iu10 hown hK hP 0 rfl rfl 26 (by decide) (hts _ tw_1071) (fun _ h9 => h9) rfl dX10_aboutHost_21 ?_
        refine lv_bipush (pc := 24) (v := nI 8) hx hb dX10_aboutHost_24 (by decide +kernel) ?_
        refine lv_iload_n (pc := 26) hx hb dX10_aboutHost_26 rfl (lv_at hl 0 rfl) ?_
        refine lv_iadd (pc := 27) hx hb dX10_aboutHost_27 ?_
        refine q_top (y := nI (8 + k)) (nI_add 8 k) ?_
        refine lv_aload_n (pc := 28) hx hb dX10_aboutHost_28 rfl (lv_at hl 1 rfl) ?_
        refine va_get (pc := 29) (D := D) (ci := 8) (v := .ref (a 44)) (C := RX10) (T := TX10) (N := 57) hx hb hts iu10 hown hK hP 0 rfl rfl 44 (by decide) (hts _ tw_1089) (fun _ h9 => h9) rfl dX10_aboutHost_29 ?_
        refine lv_bipush (pc := 32) (v := nI 8) hx hb dX10_aboutHost_32 (by decide +kernel) ?_
        refine lv_iload_n (pc := 34) hx hb dX10_aboutHost_34 rfl (lv_at hl 2 rfl) ?_
        refine lv_imul (pc := 35) hx hb dX10_aboutHost_35 ?_
        refine q_top (y := nI (8 * sd)) (pk_mul 8 sd) ?_
        refine lv_iload_n (pc := 36) hx hb dX10_aboutHost_36 rfl (lv_at hl 0 rfl) ?_
        refine lv_iadd (pc := 37) hx hb dX10_aboutHost_37 ?_
        refine q_top (y := nI (8 * sd + k)) (nI_add (8 * sd) k) ?_
        refine q_bald (pc := 38) hx hb hK hP 3 2 rfl rfl (k := 8 * sd + k) (v := qs (gck (8 * sd + k))) rfl (by omega) (by omega) rfl dX10_aboutHost_38 ?_
        refine q_bastS (pc := 39) hx hb hK hP hD hS 1 2 rfl rfl (k := 8 + k) rfl (by omega) (by omega) (b := gck (8 * sd + k)) (qlo_qs _) dX10_aboutHost_39 (fun H locs hP hD hS => ?_)
        have hP : va_P D vwCl [(h0, oM a ar mn tp osz lsz ns ct), (a 26, aS ta 120 (qU (qU o' k (ghs k)) (8 + k) (gck (8 * sd + k)))), (a 51, aS ta 8 ghs), (a 44, aS ta 16 gck)] H := hP
        have hD : va_D A [(h0, oM a ar mn tp osz lsz ns ct), (a 26, aS ta 120 (qU (qU o' k (ghs k)) (8 + k) (gck (8 * sd + k)))), (a 51, aS ta 8 ghs), (a 44, aS ta 16 gck)] := hD
        refine lv_iinc (pc := 40) (v := nI (k + 1)) (lv' := [(2, .int (nI (k + 1))), (0, .ref h0), (1, .int (nI sd))]) hx hb dX10_aboutHost_40 hl (k := 0) rfl (by first | exact nI_add k 1 | rfl) (by decide) rfl (fun ls hl => ?_)
        refine lv_goto (pc := 43) (tgt := 2) hx hb dX10_aboutHost_43 (by decide) ?_
        exact ih2 (k + 1) (qU (qU o' k (ghs k)) (8 + k) (gck (8 * sd + k))) (by omega) (by
              intro j hj
              by_cases q : j = k
              · subst q
                exact ⟨by rw [qU_ne (by omega), qU_same], qU_same⟩
              · have := ho j (by omega)
                exact ⟨by rw [qU_ne (by omega), qU_ne (by omega)]; exact this.1, by rw [qU_ne (by omega), qU_ne (by omega)]; exact this.2⟩) (by omega) _ _ (hP.sub [0, 1, 2, 3] rfl) (hD.sub [0, 1, 2, 3] (by decide) rfl) hS ls (lv_sub hl [0, 1, 2] rfl)
  exact LP2 _ 0 gov (by omega) (fun j hj => absurd hj (Nat.not_lt_zero _)) (Nat.lt_succ_self _) _ _ (hP.sub [0, 1, 2, 3] rfl) (hD.sub [0, 1, 2, 3] (by decide) rfl) hS ls (lv_sub hl [0, 1, 2] rfl)
theorem hdX10_wide : yX10_wide.cls ≠ "java/lang/invoke/MethodHandle" ∧ yX10_wide.cls ≠ "java/lang/invoke/VarHandle" ∧ (parseMethodDescriptor yX10_wide.desc).map (fun d => d.parameters.length) = some 1 := ⟨by decide +kernel, by decide +kernel, by decide +kernel⟩
theorem dX10_wide_0 : decode cX10_wide 0 = .ok (.aload_n 0, 1) := by decide +kernel
theorem dX10_wide_1 : decode cX10_wide 1 = .ok (.getfield 231, 3) := by decide +kernel
theorem dX10_wide_4 : decode cX10_wide 4 = .ok (.iload_n 1, 1) := by decide +kernel
theorem dX10_wide_5 : decode cX10_wide 5 = .ok (.iaload, 1) := by decide +kernel
theorem dX10_wide_6 : decode cX10_wide 6 = .ok (.iconst 2, 1) := by decide +kernel
theorem dX10_wide_7 : decode cX10_wide 7 = .ok (.if_icmp .ne 8, 3) := by decide +kernel
theorem dX10_wide_10 : decode cX10_wide 10 = .ok (.bipush 6, 2) := by decide +kernel
theorem dX10_wide_12 : decode cX10_wide 12 = .ok (.goto 5, 3) := by decide +kernel
theorem dX10_wide_15 : decode cX10_wide 15 = .ok (.bipush 8, 2) := by decide +kernel
theorem dX10_wide_17 : decode cX10_wide 17 = .ok (.ireturn, 1) := by decide +kernel
set_option maxHeartbeats 4000000 in
set_option maxRecDepth 100000 in
theorem ct_X10_wide (ll : Launch) (D : va_G) (ta : Nat → ClassId) {G : (Nat → Prop) → State → Heap → Prop} (hGok : GOK G) (h0 : Nat) (a : Nat → Nat) (ar : Nat) (mn : Nat) (tp : Nat) (osz : Nat) (lsz : Nat) (ns : Nat) (ct : Nat) (ru : Nat → Nat) (sd : Nat) (hsd : sd ≤ 1) (hru : ru sd < 4) (sz : Nat) : CT ll yX10_wide cX10_wide 2 (some .int) ({ frames := 0, cells := 0, slots := 0, locals := 0 } : Room) D ta G [.ref h0, .int (nI sd)] [(h0, oM a ar mn tp osz lsz ns ct), (a 36, aK ta 2 ru)] sz (S := Nat) (fun u => some (.int (nI u))) (fun u => (u = if ru sd = 2 then 6 else 8)) (fun u => [(h0, oM a ar mn tp osz lsz ns ct), (a 36, aK ta 2 ru)]) 0 0 := by
  refine CT.of_i (r := fun u => nI u) rfl (by decide) (Nat.le_of_ble_eq_true rfl) ?_
  intro pp ee ss mm below meth kc A Q hx hb hml hown hin hts hK hA hsz hG hret H locs hP hD hS ls hl
  have hl : lv_has ls 2 [(0, .ref h0), (1, .int (nI sd))] := hl
  refine lv_aload_n (pc := 0) hx hb dX10_wide_0 rfl (lv_at hl 0 rfl) ?_
  refine va_get (pc := 1) (D := D) (ci := 8) (v := .ref (a 36)) (C := RX10) (T := TX10) (N := 57) hx hb hts iu10 hown hK hP 0 rfl rfl 36 (by decide) (hts _ tw_1081) (fun _ h9 => h9) rfl dX10_wide_1 ?_
  refine lv_iload_n (pc := 4) hx hb dX10_wide_4 rfl (lv_at hl 1 rfl) ?_
  refine q_iald (pc := 5) hx hb hK hP 1 0 rfl rfl (k := sd) (v := nI (ru sd)) rfl (by omega) (by omega) rfl dX10_wide_5 ?_
  refine lv_iconst (pc := 6) (v := nI 2) hx hb dX10_wide_6 (by decide +kernel) ?_
  refine lv_icmp_ne (pc := 7) (tgt := 15) hx hb dX10_wide_7 (by decide) (fun c_1 => ?_) (fun c_1 => ?_)
  · skip
    rw [nI_eq (by omega) (by omega)] at c_1
    refine lv_bipush (pc := 15) (v := nI 8) hx hb dX10_wide_15 (by decide +kernel) ?_
    have hq_2 : (8 = if ru sd = 2 then 6 else 8) := by
      simp_all
    exact hret (8) _ _ _ _ dX10_wide_17 hq_2 (hP.sub [0, 1] rfl) (hD.sub [0, 1] (by decide) rfl) hS
  · skip
    rw [nI_eq (by omega) (by omega)] at c_1
    refine lv_bipush (pc := 10) (v := nI 6) hx hb dX10_wide_10 (by decide +kernel) ?_
    refine lv_goto (pc := 12) (tgt := 17) hx hb dX10_wide_12 (by decide) ?_
    have hq_3 : (6 = if ru sd = 2 then 6 else 8) := by
      simp_all
    exact hret (6) _ _ _ _ dX10_wide_17 hq_3 (hP.sub [0, 1] rfl) (hD.sub [0, 1] (by decide) rfl) hS
theorem hdX10_blockOf : yX10_blockOf.cls ≠ "java/lang/invoke/MethodHandle" ∧ yX10_blockOf.cls ≠ "java/lang/invoke/VarHandle" ∧ (parseMethodDescriptor yX10_blockOf.desc).map (fun d => d.parameters.length) = some 1 := ⟨by decide +kernel, by decide +kernel, by decide +kernel⟩
theorem dX10_blockOf_0 : decode cX10_blockOf 0 = .ok (.aload_n 0, 1) := by decide +kernel
theorem dX10_blockOf_1 : decode cX10_blockOf 1 = .ok (.getfield 231, 3) := by decide +kernel
theorem dX10_blockOf_4 : decode cX10_blockOf 4 = .ok (.iload_n 1, 1) := by decide +kernel
theorem dX10_blockOf_5 : decode cX10_blockOf 5 = .ok (.iaload, 1) := by decide +kernel
theorem dX10_blockOf_6 : decode cX10_blockOf 6 = .ok (.iconst 2, 1) := by decide +kernel
theorem dX10_blockOf_7 : decode cX10_blockOf 7 = .ok (.if_icmp .ne 8, 3) := by decide +kernel
theorem dX10_blockOf_10 : decode cX10_blockOf 10 = .ok (.bipush 8, 2) := by decide +kernel
theorem dX10_blockOf_12 : decode cX10_blockOf 12 = .ok (.goto 5, 3) := by decide +kernel
theorem dX10_blockOf_15 : decode cX10_blockOf 15 = .ok (.bipush 16, 2) := by decide +kernel
theorem dX10_blockOf_17 : decode cX10_blockOf 17 = .ok (.ireturn, 1) := by decide +kernel
set_option maxHeartbeats 4000000 in
set_option maxRecDepth 100000 in
theorem ct_X10_blockOf (ll : Launch) (D : va_G) (ta : Nat → ClassId) {G : (Nat → Prop) → State → Heap → Prop} (hGok : GOK G) (h0 : Nat) (a : Nat → Nat) (ar : Nat) (mn : Nat) (tp : Nat) (osz : Nat) (lsz : Nat) (ns : Nat) (ct : Nat) (ru : Nat → Nat) (sd : Nat) (hsd : sd ≤ 1) (hru : ru sd < 4) (sz : Nat) : CT ll yX10_blockOf cX10_blockOf 2 (some .int) ({ frames := 0, cells := 0, slots := 0, locals := 0 } : Room) D ta G [.ref h0, .int (nI sd)] [(h0, oM a ar mn tp osz lsz ns ct), (a 36, aK ta 2 ru)] sz (S := Nat) (fun u => some (.int (nI u))) (fun u => (u = if ru sd = 2 then 8 else 16)) (fun u => [(h0, oM a ar mn tp osz lsz ns ct), (a 36, aK ta 2 ru)]) 0 0 := by
  refine CT.of_i (r := fun u => nI u) rfl (by decide) (Nat.le_of_ble_eq_true rfl) ?_
  intro pp ee ss mm below meth kc A Q hx hb hml hown hin hts hK hA hsz hG hret H locs hP hD hS ls hl
  have hl : lv_has ls 2 [(0, .ref h0), (1, .int (nI sd))] := hl
  refine lv_aload_n (pc := 0) hx hb dX10_blockOf_0 rfl (lv_at hl 0 rfl) ?_
  refine va_get (pc := 1) (D := D) (ci := 8) (v := .ref (a 36)) (C := RX10) (T := TX10) (N := 57) hx hb hts iu10 hown hK hP 0 rfl rfl 36 (by decide) (hts _ tw_1081) (fun _ h9 => h9) rfl dX10_blockOf_1 ?_
  refine lv_iload_n (pc := 4) hx hb dX10_blockOf_4 rfl (lv_at hl 1 rfl) ?_
  refine q_iald (pc := 5) hx hb hK hP 1 0 rfl rfl (k := sd) (v := nI (ru sd)) rfl (by omega) (by omega) rfl dX10_blockOf_5 ?_
  refine lv_iconst (pc := 6) (v := nI 2) hx hb dX10_blockOf_6 (by decide +kernel) ?_
  refine lv_icmp_ne (pc := 7) (tgt := 15) hx hb dX10_blockOf_7 (by decide) (fun c_1 => ?_) (fun c_1 => ?_)
  · skip
    rw [nI_eq (by omega) (by omega)] at c_1
    refine lv_bipush (pc := 15) (v := nI 16) hx hb dX10_blockOf_15 (by decide +kernel) ?_
    have hq_2 : (16 = if ru sd = 2 then 8 else 16) := by
      simp_all
    exact hret (16) _ _ _ _ dX10_blockOf_17 hq_2 (hP.sub [0, 1] rfl) (hD.sub [0, 1] (by decide) rfl) hS
  · skip
    rw [nI_eq (by omega) (by omega)] at c_1
    refine lv_bipush (pc := 10) (v := nI 8) hx hb dX10_blockOf_10 (by decide +kernel) ?_
    refine lv_goto (pc := 12) (tgt := 17) hx hb dX10_blockOf_12 (by decide) ?_
    have hq_3 : (8 = if ru sd = 2 then 8 else 16) := by
      simp_all
    exact hret (8) _ _ _ _ dX10_blockOf_17 hq_3 (hP.sub [0, 1] rfl) (hD.sub [0, 1] (by decide) rfl) hS
set_option maxHeartbeats 4000000 in
set_option maxRecDepth 100000 in
theorem ct_X10_blockOf_2 (ll : Launch) (D : va_G) (ta : Nat → ClassId) {G : (Nat → Prop) → State → Heap → Prop} (hGok : GOK G) (h0 : Nat) (a : Nat → Nat) (ar : Nat) (mn : Nat) (tp : Nat) (osz : Nat) (lsz : Nat) (ns : Nat) (ct : Nat) (ru : Nat → Nat) (sd : Nat) (hsd : sd ≤ 1) (hru2 : ru sd = 2) (sz : Nat) : CT ll yX10_blockOf cX10_blockOf 2 (some .int) ({ frames := 0, cells := 0, slots := 0, locals := 0 } : Room) D ta G [.ref h0, .int (nI sd)] [(h0, oM a ar mn tp osz lsz ns ct), (a 36, aK ta 2 ru)] sz (S := Unit) (fun u => some (.int (nI 8))) (fun u => True) (fun u => [(h0, oM a ar mn tp osz lsz ns ct), (a 36, aK ta 2 ru)]) 0 0 := by
  refine CT.of_i (r := fun u => nI 8) rfl (by decide) (Nat.le_of_ble_eq_true rfl) ?_
  intro pp ee ss mm below meth kc A Q hx hb hml hown hin hts hK hA hsz hG hret H locs hP hD hS ls hl
  have hl : lv_has ls 2 [(0, .ref h0), (1, .int (nI sd))] := hl
  refine lv_aload_n (pc := 0) hx hb dX10_blockOf_0 rfl (lv_at hl 0 rfl) ?_
  refine va_get (pc := 1) (D := D) (ci := 8) (v := .ref (a 36)) (C := RX10) (T := TX10) (N := 57) hx hb hts iu10 hown hK hP 0 rfl rfl 36 (by decide) (hts _ tw_1081) (fun _ h9 => h9) rfl dX10_blockOf_1 ?_
  refine lv_iload_n (pc := 4) hx hb dX10_blockOf_4 rfl (lv_at hl 1 rfl) ?_
  refine q_iald (pc := 5) hx hb hK hP 1 0 rfl rfl (k := sd) (v := nI (ru sd)) rfl (by omega) (by omega) rfl dX10_blockOf_5 ?_
  refine lv_iconst (pc := 6) (v := nI 2) hx hb dX10_blockOf_6 (by decide +kernel) ?_
  refine lv_icmp_ne (pc := 7) (tgt := 15) hx hb dX10_blockOf_7 (by decide) (fun c_1 => ?_) (fun c_1 => ?_)
  · skip
    rw [nI_eq (by omega) (by omega)] at c_1
    exfalso; omega
  · skip
    rw [nI_eq (by omega) (by omega)] at c_1
    refine lv_bipush (pc := 10) (v := nI 8) hx hb dX10_blockOf_10 (by decide +kernel) ?_
    refine lv_goto (pc := 12) (tgt := 17) hx hb dX10_blockOf_12 (by decide) ?_
    have hq_2 : True := trivial
    exact hret () _ _ _ _ dX10_blockOf_17 hq_2 (hP.sub [0, 1] rfl) (hD.sub [0, 1] (by decide) rfl) hS
set_option maxHeartbeats 4000000 in
set_option maxRecDepth 100000 in
theorem ct_X10_blockOf_3 (ll : Launch) (D : va_G) (ta : Nat → ClassId) {G : (Nat → Prop) → State → Heap → Prop} (hGok : GOK G) (h0 : Nat) (a : Nat → Nat) (ar : Nat) (mn : Nat) (tp : Nat) (osz : Nat) (lsz : Nat) (ns : Nat) (ct : Nat) (ru : Nat → Nat) (sd : Nat) (hsd : sd ≤ 1) (hru3 : ru sd = 3) (sz : Nat) : CT ll yX10_blockOf cX10_blockOf 2 (some .int) ({ frames := 0, cells := 0, slots := 0, locals := 0 } : Room) D ta G [.ref h0, .int (nI sd)] [(h0, oM a ar mn tp osz lsz ns ct), (a 36, aK ta 2 ru)] sz (S := Unit) (fun u => some (.int (nI 16))) (fun u => True) (fun u => [(h0, oM a ar mn tp osz lsz ns ct), (a 36, aK ta 2 ru)]) 0 0 := by
  refine CT.of_i (r := fun u => nI 16) rfl (by decide) (Nat.le_of_ble_eq_true rfl) ?_
  intro pp ee ss mm below meth kc A Q hx hb hml hown hin hts hK hA hsz hG hret H locs hP hD hS ls hl
  have hl : lv_has ls 2 [(0, .ref h0), (1, .int (nI sd))] := hl
  refine lv_aload_n (pc := 0) hx hb dX10_blockOf_0 rfl (lv_at hl 0 rfl) ?_
  refine va_get (pc := 1) (D := D) (ci := 8) (v := .ref (a 36)) (C := RX10) (T := TX10) (N := 57) hx hb hts iu10 hown hK hP 0 rfl rfl 36 (by decide) (hts _ tw_1081) (fun _ h9 => h9) rfl dX10_blockOf_1 ?_
  refine lv_iload_n (pc := 4) hx hb dX10_blockOf_4 rfl (lv_at hl 1 rfl) ?_
  refine q_iald (pc := 5) hx hb hK hP 1 0 rfl rfl (k := sd) (v := nI (ru sd)) rfl (by omega) (by omega) rfl dX10_blockOf_5 ?_
  refine lv_iconst (pc := 6) (v := nI 2) hx hb dX10_blockOf_6 (by decide +kernel) ?_
  refine lv_icmp_ne (pc := 7) (tgt := 15) hx hb dX10_blockOf_7 (by decide) (fun c_1 => ?_) (fun c_1 => ?_)
  · skip
    rw [nI_eq (by omega) (by omega)] at c_1
    refine lv_bipush (pc := 15) (v := nI 16) hx hb dX10_blockOf_15 (by decide +kernel) ?_
    have hq_2 : True := trivial
    exact hret () _ _ _ _ dX10_blockOf_17 hq_2 (hP.sub [0, 1] rfl) (hD.sub [0, 1] (by decide) rfl) hS
  · skip
    rw [nI_eq (by omega) (by omega)] at c_1
    exfalso; omega
theorem hdX10_proofOf : yX10_proofOf.cls ≠ "java/lang/invoke/MethodHandle" ∧ yX10_proofOf.cls ≠ "java/lang/invoke/VarHandle" ∧ (parseMethodDescriptor yX10_proofOf.desc).map (fun d => d.parameters.length) = some 2 := ⟨by decide +kernel, by decide +kernel, by decide +kernel⟩
theorem dX10_proofOf_0 : decode cX10_proofOf 0 = .ok (.aload_n 0, 1) := by decide +kernel
theorem dX10_proofOf_1 : decode cX10_proofOf 1 = .ok (.invokevirtual 114, 3) := by decide +kernel
theorem dX10_proofOf_4 : decode cX10_proofOf 4 = .ok (.iload_n 2, 1) := by decide +kernel
theorem dX10_proofOf_5 : decode cX10_proofOf 5 = .ok (.ifCond .eq 14, 3) := by decide +kernel
theorem dX10_proofOf_8 : decode cX10_proofOf 8 = .ok (.aload_n 0, 1) := by decide +kernel
theorem dX10_proofOf_9 : decode cX10_proofOf 9 = .ok (.aload_n 0, 1) := by decide +kernel
theorem dX10_proofOf_10 : decode cX10_proofOf 10 = .ok (.getfield 277, 3) := by decide +kernel
theorem dX10_proofOf_13 : decode cX10_proofOf 13 = .ok (.iconst 0, 1) := by decide +kernel
theorem dX10_proofOf_14 : decode cX10_proofOf 14 = .ok (.bipush 8, 2) := by decide +kernel
theorem dX10_proofOf_16 : decode cX10_proofOf 16 = .ok (.invokevirtual 121, 3) := by decide +kernel
theorem dX10_proofOf_19 : decode cX10_proofOf 19 = .ok (.aload_n 0, 1) := by decide +kernel
theorem dX10_proofOf_20 : decode cX10_proofOf 20 = .ok (.aload_n 0, 1) := by decide +kernel
theorem dX10_proofOf_21 : decode cX10_proofOf 21 = .ok (.getfield 280, 3) := by decide +kernel
theorem dX10_proofOf_24 : decode cX10_proofOf 24 = .ok (.iconst 0, 1) := by decide +kernel
theorem dX10_proofOf_25 : decode cX10_proofOf 25 = .ok (.iconst 2, 1) := by decide +kernel
theorem dX10_proofOf_26 : decode cX10_proofOf 26 = .ok (.invokevirtual 121, 3) := by decide +kernel
theorem dX10_proofOf_29 : decode cX10_proofOf 29 = .ok (.aload_n 0, 1) := by decide +kernel
theorem dX10_proofOf_30 : decode cX10_proofOf 30 = .ok (.aload_n 0, 1) := by decide +kernel
theorem dX10_proofOf_31 : decode cX10_proofOf 31 = .ok (.getfield 255, 3) := by decide +kernel
theorem dX10_proofOf_34 : decode cX10_proofOf 34 = .ok (.bipush 8, 2) := by decide +kernel
theorem dX10_proofOf_36 : decode cX10_proofOf 36 = .ok (.iload_n 1, 1) := by decide +kernel
theorem dX10_proofOf_37 : decode cX10_proofOf 37 = .ok (.imul, 1) := by decide +kernel
theorem dX10_proofOf_38 : decode cX10_proofOf 38 = .ok (.bipush 6, 2) := by decide +kernel
theorem dX10_proofOf_40 : decode cX10_proofOf 40 = .ok (.invokevirtual 121, 3) := by decide +kernel
theorem dX10_proofOf_43 : decode cX10_proofOf 43 = .ok (.iload_n 2, 1) := by decide +kernel
theorem dX10_proofOf_44 : decode cX10_proofOf 44 = .ok (.ifCond .ne 14, 3) := by decide +kernel
theorem dX10_proofOf_47 : decode cX10_proofOf 47 = .ok (.aload_n 0, 1) := by decide +kernel
theorem dX10_proofOf_48 : decode cX10_proofOf 48 = .ok (.aload_n 0, 1) := by decide +kernel
theorem dX10_proofOf_49 : decode cX10_proofOf 49 = .ok (.getfield 277, 3) := by decide +kernel
theorem dX10_proofOf_52 : decode cX10_proofOf 52 = .ok (.iconst 0, 1) := by decide +kernel
theorem dX10_proofOf_53 : decode cX10_proofOf 53 = .ok (.bipush 8, 2) := by decide +kernel
theorem dX10_proofOf_55 : decode cX10_proofOf 55 = .ok (.invokevirtual 121, 3) := by decide +kernel
theorem dX10_proofOf_58 : decode cX10_proofOf 58 = .ok (.aload_n 0, 1) := by decide +kernel
theorem dX10_proofOf_59 : decode cX10_proofOf 59 = .ok (.aload_n 0, 1) := by decide +kernel
theorem dX10_proofOf_60 : decode cX10_proofOf 60 = .ok (.getfield 246, 3) := by decide +kernel
theorem dX10_proofOf_63 : decode cX10_proofOf 63 = .ok (.sipush 128, 3) := by decide +kernel
theorem dX10_proofOf_66 : decode cX10_proofOf 66 = .ok (.iload_n 1, 1) := by decide +kernel
theorem dX10_proofOf_67 : decode cX10_proofOf 67 = .ok (.imul, 1) := by decide +kernel
theorem dX10_proofOf_68 : decode cX10_proofOf 68 = .ok (.iconst 0, 1) := by decide +kernel
theorem dX10_proofOf_69 : decode cX10_proofOf 69 = .ok (.iadd, 1) := by decide +kernel
theorem dX10_proofOf_70 : decode cX10_proofOf 70 = .ok (.invokevirtual 347, 3) := by decide +kernel
theorem dX10_proofOf_73 : decode cX10_proofOf 73 = .ok (.iconst 0, 1) := by decide +kernel
theorem dX10_proofOf_74 : decode cX10_proofOf 74 = .ok (.istore_n 3, 1) := by decide +kernel
theorem dX10_proofOf_75 : decode cX10_proofOf 75 = .ok (.iload_n 3, 1) := by decide +kernel
theorem dX10_proofOf_76 : decode cX10_proofOf 76 = .ok (.bipush 8, 2) := by decide +kernel
theorem dX10_proofOf_78 : decode cX10_proofOf 78 = .ok (.if_icmp .ge 50, 3) := by decide +kernel
theorem dX10_proofOf_81 : decode cX10_proofOf 81 = .ok (.iload_n 2, 1) := by decide +kernel
theorem dX10_proofOf_82 : decode cX10_proofOf 82 = .ok (.ifCond .eq 23, 3) := by decide +kernel
theorem dX10_proofOf_85 : decode cX10_proofOf 85 = .ok (.aload_n 0, 1) := by decide +kernel
theorem dX10_proofOf_86 : decode cX10_proofOf 86 = .ok (.getfield 249, 3) := by decide +kernel
theorem dX10_proofOf_89 : decode cX10_proofOf 89 = .ok (.bipush 8, 2) := by decide +kernel
theorem dX10_proofOf_91 : decode cX10_proofOf 91 = .ok (.iload_n 1, 1) := by decide +kernel
theorem dX10_proofOf_92 : decode cX10_proofOf 92 = .ok (.imul, 1) := by decide +kernel
theorem dX10_proofOf_93 : decode cX10_proofOf 93 = .ok (.iload_n 3, 1) := by decide +kernel
theorem dX10_proofOf_94 : decode cX10_proofOf 94 = .ok (.iadd, 1) := by decide +kernel
theorem dX10_proofOf_95 : decode cX10_proofOf 95 = .ok (.aload_n 0, 1) := by decide +kernel
theorem dX10_proofOf_96 : decode cX10_proofOf 96 = .ok (.getfield 94, 3) := by decide +kernel
theorem dX10_proofOf_99 : decode cX10_proofOf 99 = .ok (.iload_n 3, 1) := by decide +kernel
theorem dX10_proofOf_100 : decode cX10_proofOf 100 = .ok (.baload, 1) := by decide +kernel
theorem dX10_proofOf_101 : decode cX10_proofOf 101 = .ok (.bastore, 1) := by decide +kernel
theorem dX10_proofOf_102 : decode cX10_proofOf 102 = .ok (.goto 20, 3) := by decide +kernel
theorem dX10_proofOf_105 : decode cX10_proofOf 105 = .ok (.aload_n 0, 1) := by decide +kernel
theorem dX10_proofOf_106 : decode cX10_proofOf 106 = .ok (.getfield 252, 3) := by decide +kernel
theorem dX10_proofOf_109 : decode cX10_proofOf 109 = .ok (.bipush 8, 2) := by decide +kernel
theorem dX10_proofOf_111 : decode cX10_proofOf 111 = .ok (.iload_n 1, 1) := by decide +kernel
theorem dX10_proofOf_112 : decode cX10_proofOf 112 = .ok (.imul, 1) := by decide +kernel
theorem dX10_proofOf_113 : decode cX10_proofOf 113 = .ok (.iload_n 3, 1) := by decide +kernel
theorem dX10_proofOf_114 : decode cX10_proofOf 114 = .ok (.iadd, 1) := by decide +kernel
theorem dX10_proofOf_115 : decode cX10_proofOf 115 = .ok (.aload_n 0, 1) := by decide +kernel
theorem dX10_proofOf_116 : decode cX10_proofOf 116 = .ok (.getfield 94, 3) := by decide +kernel
theorem dX10_proofOf_119 : decode cX10_proofOf 119 = .ok (.iload_n 3, 1) := by decide +kernel
theorem dX10_proofOf_120 : decode cX10_proofOf 120 = .ok (.baload, 1) := by decide +kernel
theorem dX10_proofOf_121 : decode cX10_proofOf 121 = .ok (.bastore, 1) := by decide +kernel
theorem dX10_proofOf_122 : decode cX10_proofOf 122 = .ok (.iinc 3 1, 3) := by decide +kernel
theorem dX10_proofOf_125 : decode cX10_proofOf 125 = .ok (.goto (-50), 3) := by decide +kernel
theorem dX10_proofOf_128 : decode cX10_proofOf 128 = .ok (.return_, 1) := by decide +kernel
set_option maxHeartbeats 4000000 in
set_option maxRecDepth 100000 in
theorem ct_X10_proofOf_1 (ll : Launch) (D : va_G) (ta : Nat → ClassId) {G : (Nat → Prop) → State → Heap → Prop} (hGok : GOK G) (h0 : Nat) (a : Nat → Nat) (ar : Nat) (mn : Nat) (tp : Nat) (osz : Nat) (lsz : Nat) (ns : Nat) (ct : Nat) (bi : Nat → Bool) (tu : Nat → Bool) (cd : Nat → Bool) (sk : Nat → Bool) (hf : Nat → Bool) (wd : Nat → Bool) (gm : Nat → BitVec 8) (mac : Nat → BitVec 8) (ghs : Nat → BitVec 8) (gnu : Nat → BitVec 8) (gck : Nat → BitVec 8) (gke : Nat → BitVec 8) (gpr : Nat → BitVec 8) (sd : Nat) (hsd : sd ≤ 1) (sz : Nat) : CT ll yX10_proofOf cX10_proofOf 4 none ({ frames := 4, cells := 0, slots := 0, locals := 109 } : Room) D ta G [.ref h0, .int (nI sd), .int (nI 1)] [(h0, oM a ar mn tp osz lsz ns ct), (a 0, aK ta 64 tIP), (a 1, aK ta 48 tSPR), (a 2, aK ta 32 tMIX), (a 3, aK ta 56 tCH), (a 4, aK ta 48 tSEC), (a 5, aK ta 512 tSBX), (a 10, aB ta 64 bi), (a 11, aB ta 64 tu), (a 12, aB ta 56 cd), (a 13, aB ta 768 sk), (a 14, aB ta 32 hf), (a 15, aB ta 48 wd), (a 22, aS ta 700 gm), (a 24, aS ta 16 mac), (a 51, aS ta 8 ghs), (a 52, aS ta 3 gnu), (a 44, aS ta 16 gck), (a 41, aS ta 256 gke), (a 42, aS ta 16 gpr)] sz (S := (Nat → Bool) × (Nat → Bool) × (Nat → Bool) × (Nat → Bool) × (Nat → Bool) × (Nat → Bool) × (Nat → BitVec 8) × (Nat → BitVec 8) × (Nat → BitVec 8) × Nat) (fun _ => none) (fun u => (seg u.2.2.2.2.2.2.2.2.1 (8 * sd) 8 = mac3L (seg gke (128 * sd) 16) (qL ghs 8 ++ qL gnu 2 ++ seg gck (8 * sd) 6)) ∧ (∀ j, (j < 8 * sd ∨ 8 * sd + 8 ≤ j) → u.2.2.2.2.2.2.2.2.1 j = gpr j)) (fun u => [(h0, oM a ar u.2.2.2.2.2.2.2.2.2 tp osz lsz ns ct), (a 0, aK ta 64 tIP), (a 1, aK ta 48 tSPR), (a 2, aK ta 32 tMIX), (a 3, aK ta 56 tCH), (a 4, aK ta 48 tSEC), (a 5, aK ta 512 tSBX), (a 10, aB ta 64 u.1), (a 11, aB ta 64 u.2.1), (a 12, aB ta 56 u.2.2.1), (a 13, aB ta 768 u.2.2.2.1), (a 14, aB ta 32 u.2.2.2.2.1), (a 15, aB ta 48 u.2.2.2.2.2.1), (a 22, aS ta 700 u.2.2.2.2.2.2.1), (a 24, aS ta 16 u.2.2.2.2.2.2.2.1), (a 51, aS ta 8 ghs), (a 52, aS ta 3 gnu), (a 44, aS ta 16 gck), (a 41, aS ta 256 gke), (a 42, aS ta 16 u.2.2.2.2.2.2.2.2.1)]) 0 0 := by
  refine CT.of_v rfl (by decide) (Nat.le_of_ble_eq_true rfl) ?_
  intro pp ee ss mm below meth kc A Q hx hb hml hown hin hts hK hA hsz hG hret H locs hP hD hS ls hl
  have hl : lv_has ls 4 [(0, .ref h0), (1, .int (nI sd)), (2, .int (nI 1))] := hl
  refine lv_aload_n (pc := 0) hx hb dX10_proofOf_0 rfl (lv_at hl 0 rfl) ?_
  refine cs_V (pc := 1) (idx := 114) (n := 0) (wr := [(a 0, aK ta 64 tIP), (a 1, aK ta 48 tSPR), (a 2, aK ta 32 tMIX), (a 3, aK ta 56 tCH), (a 4, aK ta 48 tSEC), (a 5, aK ta 512 tSBX), (a 10, aB ta 64 bi), (a 11, aB ta 64 tu), (a 12, aB ta 56 cd), (a 13, aB ta 768 sk), (a 14, aB ta 32 hf), (a 15, aB ta 48 wd), (a 22, aS ta 700 gm), (a 24, aS ta 16 mac), (a 51, aS ta 8 ghs), (a 52, aS ta 3 gnu), (a 44, aS ta 16 gck), (a 41, aS ta 256 gke), (a 42, aS ta 16 gpr)]) (As := []) (rest := []) (ci := 8) hx hb hml hown hts hGok hK hA hG hl.1 hP hD hS (ct_X10_fresh ll D ta hGok h0 a ar mn tp osz lsz ns ct  H.size) tw_1302 tw_1299 tw_1301 tw_35 tw_75 hdX10_fresh rfl ⟨rfl, rfl, Nat.le_of_ble_eq_true rfl, Nat.le_of_ble_eq_true rfl, Nat.le_of_ble_eq_true rfl, Nat.le_of_ble_eq_true rfl⟩ rfl rfl (q0 := 0) rfl [0] [1, 2, 3, 4, 5, 6, 7, 8, 9, 10, 11, 12, 13, 14, 15, 16, 17, 18, 19] rfl rfl (by decide) rfl (Nat.le_of_ble_eq_true rfl) dX10_proofOf_1 (fun u H locs hq hP hD hS => ?_)
  refine W.eq (g2 := F0 mm 4 ls []) rfl ?_
  have hP : va_P D vwCl [(a 0, aK ta 64 tIP), (a 1, aK ta 48 tSPR), (a 2, aK ta 32 tMIX), (a 3, aK ta 56 tCH), (a 4, aK ta 48 tSEC), (a 5, aK ta 512 tSBX), (a 10, aB ta 64 bi), (a 11, aB ta 64 tu), (a 12, aB ta 56 cd), (a 13, aB ta 768 sk), (a 14, aB ta 32 hf), (a 15, aB ta 48 wd), (a 22, aS ta 700 gm), (a 24, aS ta 16 mac), (a 51, aS ta 8 ghs), (a 52, aS ta 3 gnu), (a 44, aS ta 16 gck), (a 41, aS ta 256 gke), (a 42, aS ta 16 gpr), (h0, oM a ar 0 tp osz lsz ns ct)] H := hP
  have hD : va_D A [(a 0, aK ta 64 tIP), (a 1, aK ta 48 tSPR), (a 2, aK ta 32 tMIX), (a 3, aK ta 56 tCH), (a 4, aK ta 48 tSEC), (a 5, aK ta 512 tSBX), (a 10, aB ta 64 bi), (a 11, aB ta 64 tu), (a 12, aB ta 56 cd), (a 13, aB ta 768 sk), (a 14, aB ta 32 hf), (a 15, aB ta 48 wd), (a 22, aS ta 700 gm), (a 24, aS ta 16 mac), (a 51, aS ta 8 ghs), (a 52, aS ta 3 gnu), (a 44, aS ta 16 gck), (a 41, aS ta 256 gke), (a 42, aS ta 16 gpr), (h0, oM a ar 0 tp osz lsz ns ct)] := hD
  refine lv_iload_n (pc := 4) hx hb dX10_proofOf_4 rfl (lv_at hl 2 rfl) ?_
  refine lv_if_eq (pc := 5) (tgt := 19) hx hb dX10_proofOf_5 (by decide) (fun c_1 => absurd c_1 (by decide)) (fun _ => ?_)
  refine lv_aload_n (pc := 8) hx hb dX10_proofOf_8 rfl (lv_at hl 0 rfl) ?_
  refine lv_aload_n (pc := 9) hx hb dX10_proofOf_9 rfl (lv_at hl 0 rfl) ?_
  refine va_get (pc := 10) (D := D) (ci := 8) (v := .ref (a 51)) (C := RX10) (T := TX10) (N := 57) hx hb hts iu10 hown hK hP 19 rfl rfl 51 (by decide) (hts _ tw_1096) (fun _ h9 => h9) rfl dX10_proofOf_10 ?_
  refine lv_iconst (pc := 13) (v := nI 0) hx hb dX10_proofOf_13 (by decide +kernel) ?_
  refine lv_bipush (pc := 14) (v := nI 8) hx hb dX10_proofOf_14 (by decide +kernel) ?_
  refine cs_V (pc := 16) (idx := 121) (n := 3) (wr := [(a 0, aK ta 64 tIP), (a 1, aK ta 48 tSPR), (a 2, aK ta 32 tMIX), (a 3, aK ta 56 tCH), (a 4, aK ta 48 tSEC), (a 5, aK ta 512 tSBX), (a 10, aB ta 64 bi), (a 11, aB ta 64 tu), (a 12, aB ta 56 cd), (a 13, aB ta 768 sk), (a 14, aB ta 32 hf), (a 15, aB ta 48 wd), (a 24, aS ta 16 mac), (a 52, aS ta 3 gnu), (a 44, aS ta 16 gck), (a 41, aS ta 256 gke), (a 42, aS ta 16 gpr)]) (As := [.ref (a 51), .int (nI 0), .int (nI 8)]) (rest := []) (ci := 8) hx hb hml hown hts hGok hK hA hG hl.1 hP hD hS (ct_X10_addAll ll D ta hGok h0 a ar 0 tp osz lsz ns ct gm (a 51) 0 8 ghs 8 (by first | assumption | omega | rfl | decide) (by first | assumption | omega | rfl | decide) (by first | assumption | omega | rfl | decide) H.size) tw_1306 tw_1303 tw_1305 tw_36 tw_75 hdX10_addAll rfl ⟨rfl, rfl, Nat.le_of_ble_eq_true rfl, Nat.le_of_ble_eq_true rfl, Nat.le_of_ble_eq_true rfl, Nat.le_of_ble_eq_true rfl⟩ rfl rfl (q0 := 19) rfl [19, 12, 14] [0, 1, 2, 3, 4, 5, 6, 7, 8, 9, 10, 11, 13, 15, 16, 17, 18] rfl rfl (by decide) rfl (Nat.le_of_ble_eq_true rfl) dX10_proofOf_16 (fun u H locs hq hP hD hS => ?_)
  generalize u = gm1_16 at hq hP hD ⊢
  have hq : (qL gm1_16 (0 + 8) = qL gm 0 ++ seg ghs 0 8) := hq
  have hL_16 := hq
  refine W.eq (g2 := F0 mm 19 ls []) rfl ?_
  have hP : va_P D vwCl [(a 0, aK ta 64 tIP), (a 1, aK ta 48 tSPR), (a 2, aK ta 32 tMIX), (a 3, aK ta 56 tCH), (a 4, aK ta 48 tSEC), (a 5, aK ta 512 tSBX), (a 10, aB ta 64 bi), (a 11, aB ta 64 tu), (a 12, aB ta 56 cd), (a 13, aB ta 768 sk), (a 14, aB ta 32 hf), (a 15, aB ta 48 wd), (a 24, aS ta 16 mac), (a 52, aS ta 3 gnu), (a 44, aS ta 16 gck), (a 41, aS ta 256 gke), (a 42, aS ta 16 gpr), (h0, oM a ar (0 + 8) tp osz lsz ns ct), (a 22, aS ta 700 gm1_16), (a 51, aS ta 8 ghs)] H := hP
  have hD : va_D A [(a 0, aK ta 64 tIP), (a 1, aK ta 48 tSPR), (a 2, aK ta 32 tMIX), (a 3, aK ta 56 tCH), (a 4, aK ta 48 tSEC), (a 5, aK ta 512 tSBX), (a 10, aB ta 64 bi), (a 11, aB ta 64 tu), (a 12, aB ta 56 cd), (a 13, aB ta 768 sk), (a 14, aB ta 32 hf), (a 15, aB ta 48 wd), (a 24, aS ta 16 mac), (a 52, aS ta 3 gnu), (a 44, aS ta 16 gck), (a 41, aS ta 256 gke), (a 42, aS ta 16 gpr), (h0, oM a ar (0 + 8) tp osz lsz ns ct), (a 22, aS ta 700 gm1_16), (a 51, aS ta 8 ghs)] := hD
  refine lv_aload_n (pc := 19) hx hb dX10_proofOf_19 rfl (lv_at hl 0 rfl) ?_
  refine lv_aload_n (pc := 20) hx hb dX10_proofOf_20 rfl (lv_at hl 0 rfl) ?_
  refine va_get (pc := 21) (D := D) (ci := 8) (v := .ref (a 52)) (C := RX10) (T := TX10) (N := 57) hx hb hts iu10 hown hK hP 17 rfl rfl 52 (by decide) (hts _ tw_1097) (fun _ h9 => h9) rfl dX10_proofOf_21 ?_
  refine lv_iconst (pc := 24) (v := nI 0) hx hb dX10_proofOf_24 (by decide +kernel) ?_
  refine lv_iconst (pc := 25) (v := nI 2) hx hb dX10_proofOf_25 (by decide +kernel) ?_
  refine cs_V (pc := 26) (idx := 121) (n := 3) (wr := [(a 0, aK ta 64 tIP), (a 1, aK ta 48 tSPR), (a 2, aK ta 32 tMIX), (a 3, aK ta 56 tCH), (a 4, aK ta 48 tSEC), (a 5, aK ta 512 tSBX), (a 10, aB ta 64 bi), (a 11, aB ta 64 tu), (a 12, aB ta 56 cd), (a 13, aB ta 768 sk), (a 14, aB ta 32 hf), (a 15, aB ta 48 wd), (a 24, aS ta 16 mac), (a 44, aS ta 16 gck), (a 41, aS ta 256 gke), (a 42, aS ta 16 gpr), (a 51, aS ta 8 ghs)]) (As := [.ref (a 52), .int (nI 0), .int (nI 2)]) (rest := []) (ci := 8) hx hb hml hown hts hGok hK hA hG hl.1 hP hD hS (ct_X10_addAll ll D ta hGok h0 a ar (0 + 8) tp osz lsz ns ct gm1_16 (a 52) 0 3 gnu 2 (by first | assumption | omega | rfl | decide) (by first | assumption | omega | rfl | decide) (by first | assumption | omega | rfl | decide) H.size) tw_1306 tw_1303 tw_1305 tw_36 tw_75 hdX10_addAll rfl ⟨rfl, rfl, Nat.le_of_ble_eq_true rfl, Nat.le_of_ble_eq_true rfl, Nat.le_of_ble_eq_true rfl, Nat.le_of_ble_eq_true rfl⟩ rfl rfl (q0 := 17) rfl [17, 18, 13] [0, 1, 2, 3, 4, 5, 6, 7, 8, 9, 10, 11, 12, 14, 15, 16, 19] rfl rfl (by decide) rfl (Nat.le_of_ble_eq_true rfl) dX10_proofOf_26 (fun u H locs hq hP hD hS => ?_)
  generalize u = gm1_26 at hq hP hD ⊢
  have hq : (qL gm1_26 ((0 + 8) + 2) = qL gm1_16 (0 + 8) ++ seg gnu 0 2) := hq
  have hL_26 := hq
  refine W.eq (g2 := F0 mm 29 ls []) rfl ?_
  have hP : va_P D vwCl [(a 0, aK ta 64 tIP), (a 1, aK ta 48 tSPR), (a 2, aK ta 32 tMIX), (a 3, aK ta 56 tCH), (a 4, aK ta 48 tSEC), (a 5, aK ta 512 tSBX), (a 10, aB ta 64 bi), (a 11, aB ta 64 tu), (a 12, aB ta 56 cd), (a 13, aB ta 768 sk), (a 14, aB ta 32 hf), (a 15, aB ta 48 wd), (a 24, aS ta 16 mac), (a 44, aS ta 16 gck), (a 41, aS ta 256 gke), (a 42, aS ta 16 gpr), (a 51, aS ta 8 ghs), (h0, oM a ar ((0 + 8) + 2) tp osz lsz ns ct), (a 22, aS ta 700 gm1_26), (a 52, aS ta 3 gnu)] H := hP
  have hD : va_D A [(a 0, aK ta 64 tIP), (a 1, aK ta 48 tSPR), (a 2, aK ta 32 tMIX), (a 3, aK ta 56 tCH), (a 4, aK ta 48 tSEC), (a 5, aK ta 512 tSBX), (a 10, aB ta 64 bi), (a 11, aB ta 64 tu), (a 12, aB ta 56 cd), (a 13, aB ta 768 sk), (a 14, aB ta 32 hf), (a 15, aB ta 48 wd), (a 24, aS ta 16 mac), (a 44, aS ta 16 gck), (a 41, aS ta 256 gke), (a 42, aS ta 16 gpr), (a 51, aS ta 8 ghs), (h0, oM a ar ((0 + 8) + 2) tp osz lsz ns ct), (a 22, aS ta 700 gm1_26), (a 52, aS ta 3 gnu)] := hD
  refine lv_aload_n (pc := 29) hx hb dX10_proofOf_29 rfl (lv_at hl 0 rfl) ?_
  refine lv_aload_n (pc := 30) hx hb dX10_proofOf_30 rfl (lv_at hl 0 rfl) ?_
  refine va_get (pc := 31) (D := D) (ci := 8) (v := .ref (a 44)) (C := RX10) (T := TX10) (N := 57) hx hb hts iu10 hown hK hP 17 rfl rfl 44 (by decide) (hts _ tw_1089) (fun _ h9 => h9) rfl dX10_proofOf_31 ?_
  refine lv_bipush (pc := 34) (v := nI 8) hx hb dX10_proofOf_34 (by decide +kernel) ?_
  refine lv_iload_n (pc := 36) hx hb dX10_proofOf_36 rfl (lv_at hl 1 rfl) ?_
  refine lv_imul (pc := 37) hx hb dX10_proofOf_37 ?_
  refine q_top (y := nI (8 * sd)) (pk_mul 8 sd) ?_
  refine lv_bipush (pc := 38) (v := nI 6) hx hb dX10_proofOf_38 (by decide +kernel) ?_
  refine cs_V (pc := 40) (idx := 121) (n := 3) (wr := [(a 0, aK ta 64 tIP), (a 1, aK ta 48 tSPR), (a 2, aK ta 32 tMIX), (a 3, aK ta 56 tCH), (a 4, aK ta 48 tSEC), (a 5, aK ta 512 tSBX), (a 10, aB ta 64 bi), (a 11, aB ta 64 tu), (a 12, aB ta 56 cd), (a 13, aB ta 768 sk), (a 14, aB ta 32 hf), (a 15, aB ta 48 wd), (a 24, aS ta 16 mac), (a 41, aS ta 256 gke), (a 42, aS ta 16 gpr), (a 51, aS ta 8 ghs), (a 52, aS ta 3 gnu)]) (As := [.ref (a 44), .int (nI (8 * sd)), .int (nI 6)]) (rest := []) (ci := 8) hx hb hml hown hts hGok hK hA hG hl.1 hP hD hS (ct_X10_addAll ll D ta hGok h0 a ar ((0 + 8) + 2) tp osz lsz ns ct gm1_26 (a 44) (8 * sd) 16 gck 6 (by first | assumption | omega | rfl | decide) (by first | assumption | omega | rfl | decide) (by first | assumption | omega | rfl | decide) H.size) tw_1306 tw_1303 tw_1305 tw_36 tw_75 hdX10_addAll rfl ⟨rfl, rfl, Nat.le_of_ble_eq_true rfl, Nat.le_of_ble_eq_true rfl, Nat.le_of_ble_eq_true rfl, Nat.le_of_ble_eq_true rfl⟩ rfl rfl (q0 := 17) rfl [17, 18, 13] [0, 1, 2, 3, 4, 5, 6, 7, 8, 9, 10, 11, 12, 14, 15, 16, 19] rfl rfl (by decide) rfl (Nat.le_of_ble_eq_true rfl) dX10_proofOf_40 (fun u H locs hq hP hD hS => ?_)
  generalize u = gm1_40 at hq hP hD ⊢
  have hq : (qL gm1_40 (((0 + 8) + 2) + 6) = qL gm1_26 ((0 + 8) + 2) ++ seg gck (8 * sd) 6) := hq
  have hL_40 := hq
  refine W.eq (g2 := F0 mm 43 ls []) rfl ?_
  have hP : va_P D vwCl [(a 0, aK ta 64 tIP), (a 1, aK ta 48 tSPR), (a 2, aK ta 32 tMIX), (a 3, aK ta 56 tCH), (a 4, aK ta 48 tSEC), (a 5, aK ta 512 tSBX), (a 10, aB ta 64 bi), (a 11, aB ta 64 tu), (a 12, aB ta 56 cd), (a 13, aB ta 768 sk), (a 14, aB ta 32 hf), (a 15, aB ta 48 wd), (a 24, aS ta 16 mac), (a 41, aS ta 256 gke), (a 42, aS ta 16 gpr), (a 51, aS ta 8 ghs), (a 52, aS ta 3 gnu), (h0, oM a ar (((0 + 8) + 2) + 6) tp osz lsz ns ct), (a 22, aS ta 700 gm1_40), (a 44, aS ta 16 gck)] H := hP
  have hD : va_D A [(a 0, aK ta 64 tIP), (a 1, aK ta 48 tSPR), (a 2, aK ta 32 tMIX), (a 3, aK ta 56 tCH), (a 4, aK ta 48 tSEC), (a 5, aK ta 512 tSBX), (a 10, aB ta 64 bi), (a 11, aB ta 64 tu), (a 12, aB ta 56 cd), (a 13, aB ta 768 sk), (a 14, aB ta 32 hf), (a 15, aB ta 48 wd), (a 24, aS ta 16 mac), (a 41, aS ta 256 gke), (a 42, aS ta 16 gpr), (a 51, aS ta 8 ghs), (a 52, aS ta 3 gnu), (h0, oM a ar (((0 + 8) + 2) + 6) tp osz lsz ns ct), (a 22, aS ta 700 gm1_40), (a 44, aS ta 16 gck)] := hD
  refine lv_iload_n (pc := 43) hx hb dX10_proofOf_43 rfl (lv_at hl 2 rfl) ?_
  refine lv_if_ne (pc := 44) (tgt := 58) hx hb dX10_proofOf_44 (by decide) (fun _ => ?_) (fun c_2 => absurd c_2 (by decide))
  refine lv_aload_n (pc := 58) hx hb dX10_proofOf_58 rfl (lv_at hl 0 rfl) ?_
  refine lv_aload_n (pc := 59) hx hb dX10_proofOf_59 rfl (lv_at hl 0 rfl) ?_
  refine va_get (pc := 60) (D := D) (ci := 8) (v := .ref (a 41)) (C := RX10) (T := TX10) (N := 57) hx hb hts iu10 hown hK hP 17 rfl rfl 41 (by decide) (hts _ tw_1086) (fun _ h9 => h9) rfl dX10_proofOf_60 ?_
  refine lv_sipush (pc := 63) (v := nI 128) hx hb dX10_proofOf_63 (by decide +kernel) ?_
  refine lv_iload_n (pc := 66) hx hb dX10_proofOf_66 rfl (lv_at hl 1 rfl) ?_
  refine lv_imul (pc := 67) hx hb dX10_proofOf_67 ?_
  refine q_top (y := nI (128 * sd)) (pk_mul 128 sd) ?_
  refine lv_iconst (pc := 68) (v := nI 0) hx hb dX10_proofOf_68 (by decide +kernel) ?_
  refine lv_iadd (pc := 69) hx hb dX10_proofOf_69 ?_
  refine q_top (y := nI (128 * sd)) ((nI_add (128 * sd) 0).trans (congrArg nI (by omega))) ?_
  refine cs_V (pc := 70) (idx := 347) (n := 2) (wr := [(a 42, aS ta 16 gpr), (a 51, aS ta 8 ghs), (a 52, aS ta 3 gnu), (a 44, aS ta 16 gck)]) (As := [.ref (a 41), .int (nI (128 * sd))]) (rest := []) (ci := 8) hx hb hml hown hts hGok hK hA hG hl.1 hP hD hS (ct_X10_mac3 ll D ta hGok h0 a ar (((0 + 8) + 2) + 6) tp osz lsz ns ct gm1_40 mac (a 41) (128 * sd) 256 gke bi tu cd sk hf wd (by first | assumption | omega | rfl | decide) (by first | assumption | omega | rfl | decide) (by first | assumption | omega | rfl | decide) H.size) tw_1326 tw_1323 tw_1325 tw_41 tw_75 hdX10_mac3 rfl ⟨rfl, rfl, Nat.le_of_ble_eq_true rfl, Nat.le_of_ble_eq_true rfl, Nat.le_of_ble_eq_true rfl, Nat.le_of_ble_eq_true rfl⟩ rfl rfl (q0 := 17) rfl [17, 18, 12, 0, 1, 2, 3, 4, 5, 6, 7, 8, 9, 10, 11, 13] [14, 15, 16, 19] rfl rfl (by decide) rfl (Nat.le_of_ble_eq_true rfl) dX10_proofOf_70 (fun u H locs hq hP hD hS => ?_)
  obtain ⟨gm1_70, mn1_70, mac1_70, bi1_70, tu1_70, cd1_70, sk1_70, hf1_70, wd1_70⟩ := u
  have hq : (seg mac1_70 0 8 = mac3L (seg gke (128 * sd) 16) (qL gm1_40 (((0 + 8) + 2) + 6))) := hq
  have hL_70 := hq
  refine W.eq (g2 := F0 mm 73 ls []) rfl ?_
  have hP : va_P D vwCl [(a 42, aS ta 16 gpr), (a 51, aS ta 8 ghs), (a 52, aS ta 3 gnu), (a 44, aS ta 16 gck), (h0, oM a ar mn1_70 tp osz lsz ns ct), (a 22, aS ta 700 gm1_70), (a 24, aS ta 16 mac1_70), (a 0, aK ta 64 tIP), (a 1, aK ta 48 tSPR), (a 2, aK ta 32 tMIX), (a 3, aK ta 56 tCH), (a 4, aK ta 48 tSEC), (a 5, aK ta 512 tSBX), (a 10, aB ta 64 bi1_70), (a 11, aB ta 64 tu1_70), (a 12, aB ta 56 cd1_70), (a 13, aB ta 768 sk1_70), (a 14, aB ta 32 hf1_70), (a 15, aB ta 48 wd1_70), (a 41, aS ta 256 gke)] H := hP
  have hD : va_D A [(a 42, aS ta 16 gpr), (a 51, aS ta 8 ghs), (a 52, aS ta 3 gnu), (a 44, aS ta 16 gck), (h0, oM a ar mn1_70 tp osz lsz ns ct), (a 22, aS ta 700 gm1_70), (a 24, aS ta 16 mac1_70), (a 0, aK ta 64 tIP), (a 1, aK ta 48 tSPR), (a 2, aK ta 32 tMIX), (a 3, aK ta 56 tCH), (a 4, aK ta 48 tSEC), (a 5, aK ta 512 tSBX), (a 10, aB ta 64 bi1_70), (a 11, aB ta 64 tu1_70), (a 12, aB ta 56 cd1_70), (a 13, aB ta 768 sk1_70), (a 14, aB ta 32 hf1_70), (a 15, aB ta 48 wd1_70), (a 41, aS ta 256 gke)] := hD
  refine lv_iconst (pc := 73) (v := nI 0) hx hb dX10_proofOf_73 (by decide +kernel) ?_
  refine lv_istore_n (pc := 74) (lv' := [(3, .int (nI 0)), (0, .ref h0), (1, .int (nI sd)), (2, .int (nI 1))]) hx hb dX10_proofOf_74 rfl hl (by decide) rfl (fun ls hl => ?_)
  have LP75 : ∀ (nn75 : Nat) (k : Nat) (e' : Nat → BitVec 8), (k ≤ 8) → (qSeg e' gpr (8 * sd) k mac1_70) → (8 - k < nn75) → ∀ (H : Heap) (locs : List Loc), va_P D vwCl [(a 42, aS ta 16 e'), (a 51, aS ta 8 ghs), (a 52, aS ta 3 gnu), (a 44, aS ta 16 gck), (h0, oM a ar mn1_70 tp osz lsz ns ct), (a 22, aS ta 700 gm1_70), (a 24, aS ta 16 mac1_70), (a 0, aK ta 64 tIP), (a 1, aK ta 48 tSPR), (a 2, aK ta 32 tMIX), (a 3, aK ta 56 tCH), (a 4, aK ta 48 tSEC), (a 5, aK ta 512 tSBX), (a 10, aB ta 64 bi1_70), (a 11, aB ta 64 tu1_70), (a 12, aB ta 56 cd1_70), (a 13, aB ta 768 sk1_70), (a 14, aB ta 32 hf1_70), (a 15, aB ta 48 wd1_70), (a 41, aS ta 256 gke)] H → va_D A [(a 42, aS ta 16 e'), (a 51, aS ta 8 ghs), (a 52, aS ta 3 gnu), (a 44, aS ta 16 gck), (h0, oM a ar mn1_70 tp osz lsz ns ct), (a 22, aS ta 700 gm1_70), (a 24, aS ta 16 mac1_70), (a 0, aK ta 64 tIP), (a 1, aK ta 48 tSPR), (a 2, aK ta 32 tMIX), (a 3, aK ta 56 tCH), (a 4, aK ta 48 tSEC), (a 5, aK ta 512 tSBX), (a 10, aB ta 64 bi1_70), (a 11, aB ta 64 tu1_70), (a 12, aB ta 56 cd1_70), (a 13, aB ta 768 sk1_70), (a 14, aB ta 32 hf1_70), (a 15, aB ta 48 wd1_70), (a 41, aS ta 256 gke)] → va_S A ss.heap H locs → ∀ ls : Array Slot, lv_has ls 4 [(3, .int (nI k)), (0, .ref h0), (1, .int (nI sd)), (2, .int (nI 1))] → W pp ll ee ({ frames := 4, cells := 0, slots := 0, locals := 109 } : Room) ss mm (([.ref h0, .int (nI sd), .int (nI 1)] : List Value).toArray) below meth kc H locs 0 0 Q (F0 mm 75 ls []) := by
    intro nn75
    induction nn75 with
    | zero => intro k e' hkk hs hmu; exact absurd hmu (Nat.not_lt_zero _)
    | succ nn75 ih75 =>
      intro k e' hkk hs hmu75 H locs hP hD hS ls hl
      refine lv_iload_n (pc := 75) hx hb dX10_proofOf_75 rfl (lv_at hl 0 rfl) ?_
      refine lv_bipush (pc := 76) (v := nI 8) hx hb dX10_proofOf_76 (by decide +kernel) ?_
      refine lv_icmp_ge (pc := 78) (tgt := 128) hx hb dX10_proofOf_78 (by decide) (fun c_3 => ?_) (fun c_3 => ?_)
      · skip
        rw [nI_leI (by omega) (by omega)] at c_3
        have hq_4 : (seg e' (8 * sd) 8 = mac3L (seg gke (128 * sd) 16) (qL ghs 8 ++ qL gnu 2 ++ seg gck (8 * sd) 6)) ∧ (∀ j, (j < 8 * sd ∨ 8 * sd + 8 ≤ j) → e' j = gpr j) := by
          have hT : qL gm1_40 (0 + 8 + 2 + 6) = qL ghs 8 ++ qL gnu 2 ++ seg gck (8 * sd) 6 := by
            rw [hL_40, hL_26, hL_16, qL_0, seg_0, seg_0, List.nil_append]
          refine ⟨?_, fun j hj => hs.2 j (by omega)⟩
          rw [seg_copy0 hs (by omega), ← hT, ← hL_70, seg_0]
        exact hret (⟨(bi1_70), (tu1_70), (cd1_70), (sk1_70), (hf1_70), (wd1_70), (gm1_70), (mac1_70), (e'), (mn1_70)⟩ : (Nat → Bool) × (Nat → Bool) × (Nat → Bool) × (Nat → Bool) × (Nat → Bool) × (Nat → Bool) × (Nat → BitVec 8) × (Nat → BitVec 8) × (Nat → BitVec 8) × Nat) _ _ _ _ dX10_proofOf_128 hq_4 (hP.sub [4, 7, 8, 9, 10, 11, 12, 13, 14, 15, 16, 17, 18, 5, 6, 1, 2, 3, 19, 0] rfl) (hD.sub [4, 7, 8, 9, 10, 11, 12, 13, 14, 15, 16, 17, 18, 5, 6, 1, 2, 3, 19, 0] (by decide) rfl) hS
      · skip
        rw [nI_leI (by omega) (by omega)] at c_3
        refine lv_iload_n (pc := 81) hx hb dX10_proofOf_81 rfl (lv_at hl 3 rfl) ?_
        refine lv_if_eq (pc := 82) (tgt := 105) hx hb dX10_proofOf_82 (by decide) (fun c_5 => absurd c_5 (by decide)) (fun _ => ?_)
        refine lv_aload_n (pc := 85) hx hb dX10_proofOf_85 rfl (lv_at hl 1 rfl) ?_
        refine va_get (pc := 86) (D := D) (ci := 8) (v := .ref (a 42)) (C := RX10) (T := TX10) (N := 57) hx hb hts iu10 hown hK hP 4 rfl rfl 42 (by decide) (hts _ tw_1087) (fun _ h9 => h9) rfl dX10_proofOf_86 ?_
        refine lv_bipush (pc := 89) (v := nI 8) hx hb dX10_proofOf_89 (by decide +kernel) ?_
        refine lv_iload_n (pc := 91) hx hb dX10_proofOf_91 rfl (lv_at hl 2 rfl) ?_
        refine lv_imul (pc := 92) hx hb dX10_proofOf_92 ?_
        refine q_top (y := nI (8 * sd)) (pk_mul 8 sd) ?_
        refine lv_iload_n (pc := 93) hx hb dX10_proofOf_93 rfl (lv_at hl 0 rfl) ?_
        refine lv_iadd (pc := 94) hx hb dX10_proofOf_94 ?_
        refine q_top (y := nI (8 * sd + k)) (nI_add (8 * sd) k) ?_
        refine lv_aload_n (pc := 95) hx hb dX10_proofOf_95 rfl (lv_at hl 1 rfl) ?_
        refine va_get (pc := 96) (D := D) (ci := 8) (v := .ref (a 24)) (C := RX10) (T := TX10) (N := 57) hx hb hts iu10 hown hK hP 4 rfl rfl 24 (by decide) (hts _ tw_1069) (fun _ h9 => h9) rfl dX10_proofOf_96 ?_
        refine lv_iload_n (pc := 99) hx hb dX10_proofOf_99 rfl (lv_at hl 0 rfl) ?_
        refine q_bald (pc := 100) hx hb hK hP 6 2 rfl rfl (k := k) (v := qs (mac1_70 k)) rfl (by omega) (by omega) rfl dX10_proofOf_100 ?_
        refine q_bastS (pc := 101) hx hb hK hP hD hS 0 2 rfl rfl (k := 8 * sd + k) rfl (by omega) (by omega) (b := mac1_70 k) (qlo_qs _) dX10_proofOf_101 (fun H locs hP hD hS => ?_)
        have hP : va_P D vwCl [(a 42, aS ta 16 (qU e' (8 * sd + k) (mac1_70 k))), (a 51, aS ta 8 ghs), (a 52, aS ta 3 gnu), (a 44, aS ta 16 gck), (h0, oM a ar mn1_70 tp osz lsz ns ct), (a 22, aS ta 700 gm1_70), (a 24, aS ta 16 mac1_70), (a 0, aK ta 64 tIP), (a 1, aK ta 48 tSPR), (a 2, aK ta 32 tMIX), (a 3, aK ta 56 tCH), (a 4, aK ta 48 tSEC), (a 5, aK ta 512 tSBX), (a 10, aB ta 64 bi1_70), (a 11, aB ta 64 tu1_70), (a 12, aB ta 56 cd1_70), (a 13, aB ta 768 sk1_70), (a 14, aB ta 32 hf1_70), (a 15, aB ta 48 wd1_70), (a 41, aS ta 256 gke)] H := hP
        have hD : va_D A [(a 42, aS ta 16 (qU e' (8 * sd + k) (mac1_70 k))), (a 51, aS ta 8 ghs), (a 52, aS ta 3 gnu), (a 44, aS ta 16 gck), (h0, oM a ar mn1_70 tp osz lsz ns ct), (a 22, aS ta 700 gm1_70), (a 24, aS ta 16 mac1_70), (a 0, aK ta 64 tIP), (a 1, aK ta 48 tSPR), (a 2, aK ta 32 tMIX), (a 3, aK ta 56 tCH), (a 4, aK ta 48 tSEC), (a 5, aK ta 512 tSBX), (a 10, aB ta 64 bi1_70), (a 11, aB ta 64 tu1_70), (a 12, aB ta 56 cd1_70), (a 13, aB ta 768 sk1_70), (a 14, aB ta 32 hf1_70), (a 15, aB ta 48 wd1_70), (a 41, aS ta 256 gke)] := hD
        refine lv_goto (pc := 102) (tgt := 122) hx hb dX10_proofOf_102 (by decide) ?_
        refine lv_iinc (pc := 122) (v := nI (k + 1)) (lv' := [(3, .int (nI (k + 1))), (0, .ref h0), (1, .int (nI sd)), (2, .int (nI 1))]) hx hb dX10_proofOf_122 hl (k := 0) rfl (by first | exact nI_add k 1 | rfl) (by decide) rfl (fun ls hl => ?_)
        refine lv_goto (pc := 125) (tgt := 75) hx hb dX10_proofOf_125 (by decide) ?_
        exact ih75 (k + 1) (qU e' (8 * sd + k) (mac1_70 k)) (by omega) (qSeg_s hs (by omega) (by first | rfl | (simp; done))) (by omega) _ _ (hP.sub [0, 1, 2, 3, 4, 5, 6, 7, 8, 9, 10, 11, 12, 13, 14, 15, 16, 17, 18, 19] rfl) (hD.sub [0, 1, 2, 3, 4, 5, 6, 7, 8, 9, 10, 11, 12, 13, 14, 15, 16, 17, 18, 19] (by decide) rfl) hS ls (lv_sub hl [0, 1, 2, 3] rfl)
  exact LP75 _ 0 gpr (by omega) (qSeg_0) (Nat.lt_succ_self _) _ _ (hP.sub [0, 1, 2, 3, 4, 5, 6, 7, 8, 9, 10, 11, 12, 13, 14, 15, 16, 17, 18, 19] rfl) (hD.sub [0, 1, 2, 3, 4, 5, 6, 7, 8, 9, 10, 11, 12, 13, 14, 15, 16, 17, 18, 19] (by decide) rfl) hS ls (lv_sub hl [0, 1, 2, 3] rfl)
set_option maxHeartbeats 4000000 in
set_option maxRecDepth 100000 in
theorem ct_X10_proofOf_0 (ll : Launch) (D : va_G) (ta : Nat → ClassId) {G : (Nat → Prop) → State → Heap → Prop} (hGok : GOK G) (h0 : Nat) (a : Nat → Nat) (ar : Nat) (mn : Nat) (tp : Nat) (osz : Nat) (lsz : Nat) (ns : Nat) (ct : Nat) (bi : Nat → Bool) (tu : Nat → Bool) (cd : Nat → Bool) (sk : Nat → Bool) (hf : Nat → Bool) (wd : Nat → Bool) (gm : Nat → BitVec 8) (mac : Nat → BitVec 8) (ghs : Nat → BitVec 8) (gnu : Nat → BitVec 8) (gck : Nat → BitVec 8) (gke : Nat → BitVec 8) (gpr : Nat → BitVec 8) (sd : Nat) (hsd : sd ≤ 1) (sz : Nat) : CT ll yX10_proofOf cX10_proofOf 4 none ({ frames := 4, cells := 0, slots := 0, locals := 109 } : Room) D ta G [.ref h0, .int (nI sd), .int (nI 0)] [(h0, oM a ar mn tp osz lsz ns ct), (a 0, aK ta 64 tIP), (a 1, aK ta 48 tSPR), (a 2, aK ta 32 tMIX), (a 3, aK ta 56 tCH), (a 4, aK ta 48 tSEC), (a 5, aK ta 512 tSBX), (a 10, aB ta 64 bi), (a 11, aB ta 64 tu), (a 12, aB ta 56 cd), (a 13, aB ta 768 sk), (a 14, aB ta 32 hf), (a 15, aB ta 48 wd), (a 22, aS ta 700 gm), (a 24, aS ta 16 mac), (a 51, aS ta 8 ghs), (a 52, aS ta 3 gnu), (a 44, aS ta 16 gck), (a 41, aS ta 256 gke), (a 43, aS ta 16 gpr)] sz (S := (Nat → Bool) × (Nat → Bool) × (Nat → Bool) × (Nat → Bool) × (Nat → Bool) × (Nat → Bool) × (Nat → BitVec 8) × (Nat → BitVec 8) × (Nat → BitVec 8) × Nat) (fun _ => none) (fun u => (seg u.2.2.2.2.2.2.2.2.1 (8 * sd) 8 = mac3L (seg gke (128 * sd) 16) (qL gnu 2 ++ seg gck (8 * sd) 6 ++ qL ghs 8)) ∧ (∀ j, (j < 8 * sd ∨ 8 * sd + 8 ≤ j) → u.2.2.2.2.2.2.2.2.1 j = gpr j)) (fun u => [(h0, oM a ar u.2.2.2.2.2.2.2.2.2 tp osz lsz ns ct), (a 0, aK ta 64 tIP), (a 1, aK ta 48 tSPR), (a 2, aK ta 32 tMIX), (a 3, aK ta 56 tCH), (a 4, aK ta 48 tSEC), (a 5, aK ta 512 tSBX), (a 10, aB ta 64 u.1), (a 11, aB ta 64 u.2.1), (a 12, aB ta 56 u.2.2.1), (a 13, aB ta 768 u.2.2.2.1), (a 14, aB ta 32 u.2.2.2.2.1), (a 15, aB ta 48 u.2.2.2.2.2.1), (a 22, aS ta 700 u.2.2.2.2.2.2.1), (a 24, aS ta 16 u.2.2.2.2.2.2.2.1), (a 51, aS ta 8 ghs), (a 52, aS ta 3 gnu), (a 44, aS ta 16 gck), (a 41, aS ta 256 gke), (a 43, aS ta 16 u.2.2.2.2.2.2.2.2.1)]) 0 0 := by
  refine CT.of_v rfl (by decide) (Nat.le_of_ble_eq_true rfl) ?_
  intro pp ee ss mm below meth kc A Q hx hb hml hown hin hts hK hA hsz hG hret H locs hP hD hS ls hl
  have hl : lv_has ls 4 [(0, .ref h0), (1, .int (nI sd)), (2, .int (nI 0))] := hl
  refine lv_aload_n (pc := 0) hx hb dX10_proofOf_0 rfl (lv_at hl 0 rfl) ?_
  refine cs_V (pc := 1) (idx := 114) (n := 0) (wr := [(a 0, aK ta 64 tIP), (a 1, aK ta 48 tSPR), (a 2, aK ta 32 tMIX), (a 3, aK ta 56 tCH), (a 4, aK ta 48 tSEC), (a 5, aK ta 512 tSBX), (a 10, aB ta 64 bi), (a 11, aB ta 64 tu), (a 12, aB ta 56 cd), (a 13, aB ta 768 sk), (a 14, aB ta 32 hf), (a 15, aB ta 48 wd), (a 22, aS ta 700 gm), (a 24, aS ta 16 mac), (a 51, aS ta 8 ghs), (a 52, aS ta 3 gnu), (a 44, aS ta 16 gck), (a 41, aS ta 256 gke), (a 43, aS ta 16 gpr)]) (As := []) (rest := []) (ci := 8) hx hb hml hown hts hGok hK hA hG hl.1 hP hD hS (ct_X10_fresh ll D ta hGok h0 a ar mn tp osz lsz ns ct  H.size) tw_1302 tw_1299 tw_1301 tw_35 tw_75 hdX10_fresh rfl ⟨rfl, rfl, Nat.le_of_ble_eq_true rfl, Nat.le_of_ble_eq_true rfl, Nat.le_of_ble_eq_true rfl, Nat.le_of_ble_eq_true rfl⟩ rfl rfl (q0 := 0) rfl [0] [1, 2, 3, 4, 5, 6, 7, 8, 9, 10, 11, 12, 13, 14, 15, 16, 17, 18, 19] rfl rfl (by decide) rfl (Nat.le_of_ble_eq_true rfl) dX10_proofOf_1 (fun u H locs hq hP hD hS => ?_)
  refine W.eq (g2 := F0 mm 4 ls []) rfl ?_
  have hP : va_P D vwCl [(a 0, aK ta 64 tIP), (a 1, aK ta 48 tSPR), (a 2, aK ta 32 tMIX), (a 3, aK ta 56 tCH), (a 4, aK ta 48 tSEC), (a 5, aK ta 512 tSBX), (a 10, aB ta 64 bi), (a 11, aB ta 64 tu), (a 12, aB ta 56 cd), (a 13, aB ta 768 sk), (a 14, aB ta 32 hf), (a 15, aB ta 48 wd), (a 22, aS ta 700 gm), (a 24, aS ta 16 mac), (a 51, aS ta 8 ghs), (a 52, aS ta 3 gnu), (a 44, aS ta 16 gck), (a 41, aS ta 256 gke), (a 43, aS ta 16 gpr), (h0, oM a ar 0 tp osz lsz ns ct)] H := hP
  have hD : va_D A [(a 0, aK ta 64 tIP), (a 1, aK ta 48 tSPR), (a 2, aK ta 32 tMIX), (a 3, aK ta 56 tCH), (a 4, aK ta 48 tSEC), (a 5, aK ta 512 tSBX), (a 10, aB ta 64 bi), (a 11, aB ta 64 tu), (a 12, aB ta 56 cd), (a 13, aB ta 768 sk), (a 14, aB ta 32 hf), (a 15, aB ta 48 wd), (a 22, aS ta 700 gm), (a 24, aS ta 16 mac), (a 51, aS ta 8 ghs), (a 52, aS ta 3 gnu), (a 44, aS ta 16 gck), (a 41, aS ta 256 gke), (a 43, aS ta 16 gpr), (h0, oM a ar 0 tp osz lsz ns ct)] := hD
  refine lv_iload_n (pc := 4) hx hb dX10_proofOf_4 rfl (lv_at hl 2 rfl) ?_
  refine lv_if_eq (pc := 5) (tgt := 19) hx hb dX10_proofOf_5 (by decide) (fun _ => ?_) (fun c_1 => absurd (by decide) c_1)
  refine lv_aload_n (pc := 19) hx hb dX10_proofOf_19 rfl (lv_at hl 0 rfl) ?_
  refine lv_aload_n (pc := 20) hx hb dX10_proofOf_20 rfl (lv_at hl 0 rfl) ?_
  refine va_get (pc := 21) (D := D) (ci := 8) (v := .ref (a 52)) (C := RX10) (T := TX10) (N := 57) hx hb hts iu10 hown hK hP 19 rfl rfl 52 (by decide) (hts _ tw_1097) (fun _ h9 => h9) rfl dX10_proofOf_21 ?_
  refine lv_iconst (pc := 24) (v := nI 0) hx hb dX10_proofOf_24 (by decide +kernel) ?_
  refine lv_iconst (pc := 25) (v := nI 2) hx hb dX10_proofOf_25 (by decide +kernel) ?_
  refine cs_V (pc := 26) (idx := 121) (n := 3) (wr := [(a 0, aK ta 64 tIP), (a 1, aK ta 48 tSPR), (a 2, aK ta 32 tMIX), (a 3, aK ta 56 tCH), (a 4, aK ta 48 tSEC), (a 5, aK ta 512 tSBX), (a 10, aB ta 64 bi), (a 11, aB ta 64 tu), (a 12, aB ta 56 cd), (a 13, aB ta 768 sk), (a 14, aB ta 32 hf), (a 15, aB ta 48 wd), (a 24, aS ta 16 mac), (a 51, aS ta 8 ghs), (a 44, aS ta 16 gck), (a 41, aS ta 256 gke), (a 43, aS ta 16 gpr)]) (As := [.ref (a 52), .int (nI 0), .int (nI 2)]) (rest := []) (ci := 8) hx hb hml hown hts hGok hK hA hG hl.1 hP hD hS (ct_X10_addAll ll D ta hGok h0 a ar 0 tp osz lsz ns ct gm (a 52) 0 3 gnu 2 (by first | assumption | omega | rfl | decide) (by first | assumption | omega | rfl | decide) (by first | assumption | omega | rfl | decide) H.size) tw_1306 tw_1303 tw_1305 tw_36 tw_75 hdX10_addAll rfl ⟨rfl, rfl, Nat.le_of_ble_eq_true rfl, Nat.le_of_ble_eq_true rfl, Nat.le_of_ble_eq_true rfl, Nat.le_of_ble_eq_true rfl⟩ rfl rfl (q0 := 19) rfl [19, 12, 15] [0, 1, 2, 3, 4, 5, 6, 7, 8, 9, 10, 11, 13, 14, 16, 17, 18] rfl rfl (by decide) rfl (Nat.le_of_ble_eq_true rfl) dX10_proofOf_26 (fun u H locs hq hP hD hS => ?_)
  generalize u = gm1_26 at hq hP hD ⊢
  have hq : (qL gm1_26 (0 + 2) = qL gm 0 ++ seg gnu 0 2) := hq
  have hL_26 := hq
  refine W.eq (g2 := F0 mm 29 ls []) rfl ?_
  have hP : va_P D vwCl [(a 0, aK ta 64 tIP), (a 1, aK ta 48 tSPR), (a 2, aK ta 32 tMIX), (a 3, aK ta 56 tCH), (a 4, aK ta 48 tSEC), (a 5, aK ta 512 tSBX), (a 10, aB ta 64 bi), (a 11, aB ta 64 tu), (a 12, aB ta 56 cd), (a 13, aB ta 768 sk), (a 14, aB ta 32 hf), (a 15, aB ta 48 wd), (a 24, aS ta 16 mac), (a 51, aS ta 8 ghs), (a 44, aS ta 16 gck), (a 41, aS ta 256 gke), (a 43, aS ta 16 gpr), (h0, oM a ar (0 + 2) tp osz lsz ns ct), (a 22, aS ta 700 gm1_26), (a 52, aS ta 3 gnu)] H := hP
  have hD : va_D A [(a 0, aK ta 64 tIP), (a 1, aK ta 48 tSPR), (a 2, aK ta 32 tMIX), (a 3, aK ta 56 tCH), (a 4, aK ta 48 tSEC), (a 5, aK ta 512 tSBX), (a 10, aB ta 64 bi), (a 11, aB ta 64 tu), (a 12, aB ta 56 cd), (a 13, aB ta 768 sk), (a 14, aB ta 32 hf), (a 15, aB ta 48 wd), (a 24, aS ta 16 mac), (a 51, aS ta 8 ghs), (a 44, aS ta 16 gck), (a 41, aS ta 256 gke), (a 43, aS ta 16 gpr), (h0, oM a ar (0 + 2) tp osz lsz ns ct), (a 22, aS ta 700 gm1_26), (a 52, aS ta 3 gnu)] := hD
  refine lv_aload_n (pc := 29) hx hb dX10_proofOf_29 rfl (lv_at hl 0 rfl) ?_
  refine lv_aload_n (pc := 30) hx hb dX10_proofOf_30 rfl (lv_at hl 0 rfl) ?_
  refine va_get (pc := 31) (D := D) (ci := 8) (v := .ref (a 44)) (C := RX10) (T := TX10) (N := 57) hx hb hts iu10 hown hK hP 17 rfl rfl 44 (by decide) (hts _ tw_1089) (fun _ h9 => h9) rfl dX10_proofOf_31 ?_
  refine lv_bipush (pc := 34) (v := nI 8) hx hb dX10_proofOf_34 (by decide +kernel) ?_
  refine lv_iload_n (pc := 36) hx hb dX10_proofOf_36 rfl (lv_at hl 1 rfl) ?_
  refine lv_imul (pc := 37) hx hb dX10_proofOf_37 ?_
  refine q_top (y := nI (8 * sd)) (pk_mul 8 sd) ?_
  refine lv_bipush (pc := 38) (v := nI 6) hx hb dX10_proofOf_38 (by decide +kernel) ?_
  refine cs_V (pc := 40) (idx := 121) (n := 3) (wr := [(a 0, aK ta 64 tIP), (a 1, aK ta 48 tSPR), (a 2, aK ta 32 tMIX), (a 3, aK ta 56 tCH), (a 4, aK ta 48 tSEC), (a 5, aK ta 512 tSBX), (a 10, aB ta 64 bi), (a 11, aB ta 64 tu), (a 12, aB ta 56 cd), (a 13, aB ta 768 sk), (a 14, aB ta 32 hf), (a 15, aB ta 48 wd), (a 24, aS ta 16 mac), (a 51, aS ta 8 ghs), (a 41, aS ta 256 gke), (a 43, aS ta 16 gpr), (a 52, aS ta 3 gnu)]) (As := [.ref (a 44), .int (nI (8 * sd)), .int (nI 6)]) (rest := []) (ci := 8) hx hb hml hown hts hGok hK hA hG hl.1 hP hD hS (ct_X10_addAll ll D ta hGok h0 a ar (0 + 2) tp osz lsz ns ct gm1_26 (a 44) (8 * sd) 16 gck 6 (by first | assumption | omega | rfl | decide) (by first | assumption | omega | rfl | decide) (by first | assumption | omega | rfl | decide) H.size) tw_1306 tw_1303 tw_1305 tw_36 tw_75 hdX10_addAll rfl ⟨rfl, rfl, Nat.le_of_ble_eq_true rfl, Nat.le_of_ble_eq_true rfl, Nat.le_of_ble_eq_true rfl, Nat.le_of_ble_eq_true rfl⟩ rfl rfl (q0 := 17) rfl [17, 18, 14] [0, 1, 2, 3, 4, 5, 6, 7, 8, 9, 10, 11, 12, 13, 15, 16, 19] rfl rfl (by decide) rfl (Nat.le_of_ble_eq_true rfl) dX10_proofOf_40 (fun u H locs hq hP hD hS => ?_)
  generalize u = gm1_40 at hq hP hD ⊢
  have hq : (qL gm1_40 ((0 + 2) + 6) = qL gm1_26 (0 + 2) ++ seg gck (8 * sd) 6) := hq
  have hL_40 := hq
  refine W.eq (g2 := F0 mm 43 ls []) rfl ?_
  have hP : va_P D vwCl [(a 0, aK ta 64 tIP), (a 1, aK ta 48 tSPR), (a 2, aK ta 32 tMIX), (a 3, aK ta 56 tCH), (a 4, aK ta 48 tSEC), (a 5, aK ta 512 tSBX), (a 10, aB ta 64 bi), (a 11, aB ta 64 tu), (a 12, aB ta 56 cd), (a 13, aB ta 768 sk), (a 14, aB ta 32 hf), (a 15, aB ta 48 wd), (a 24, aS ta 16 mac), (a 51, aS ta 8 ghs), (a 41, aS ta 256 gke), (a 43, aS ta 16 gpr), (a 52, aS ta 3 gnu), (h0, oM a ar ((0 + 2) + 6) tp osz lsz ns ct), (a 22, aS ta 700 gm1_40), (a 44, aS ta 16 gck)] H := hP
  have hD : va_D A [(a 0, aK ta 64 tIP), (a 1, aK ta 48 tSPR), (a 2, aK ta 32 tMIX), (a 3, aK ta 56 tCH), (a 4, aK ta 48 tSEC), (a 5, aK ta 512 tSBX), (a 10, aB ta 64 bi), (a 11, aB ta 64 tu), (a 12, aB ta 56 cd), (a 13, aB ta 768 sk), (a 14, aB ta 32 hf), (a 15, aB ta 48 wd), (a 24, aS ta 16 mac), (a 51, aS ta 8 ghs), (a 41, aS ta 256 gke), (a 43, aS ta 16 gpr), (a 52, aS ta 3 gnu), (h0, oM a ar ((0 + 2) + 6) tp osz lsz ns ct), (a 22, aS ta 700 gm1_40), (a 44, aS ta 16 gck)] := hD
  refine lv_iload_n (pc := 43) hx hb dX10_proofOf_43 rfl (lv_at hl 2 rfl) ?_
  refine lv_if_ne (pc := 44) (tgt := 58) hx hb dX10_proofOf_44 (by decide) (fun c_2 => absurd (by decide) c_2) (fun _ => ?_)
  refine lv_aload_n (pc := 47) hx hb dX10_proofOf_47 rfl (lv_at hl 0 rfl) ?_
  refine lv_aload_n (pc := 48) hx hb dX10_proofOf_48 rfl (lv_at hl 0 rfl) ?_
  refine va_get (pc := 49) (D := D) (ci := 8) (v := .ref (a 51)) (C := RX10) (T := TX10) (N := 57) hx hb hts iu10 hown hK hP 17 rfl rfl 51 (by decide) (hts _ tw_1096) (fun _ h9 => h9) rfl dX10_proofOf_49 ?_
  refine lv_iconst (pc := 52) (v := nI 0) hx hb dX10_proofOf_52 (by decide +kernel) ?_
  refine lv_bipush (pc := 53) (v := nI 8) hx hb dX10_proofOf_53 (by decide +kernel) ?_
  refine cs_V (pc := 55) (idx := 121) (n := 3) (wr := [(a 0, aK ta 64 tIP), (a 1, aK ta 48 tSPR), (a 2, aK ta 32 tMIX), (a 3, aK ta 56 tCH), (a 4, aK ta 48 tSEC), (a 5, aK ta 512 tSBX), (a 10, aB ta 64 bi), (a 11, aB ta 64 tu), (a 12, aB ta 56 cd), (a 13, aB ta 768 sk), (a 14, aB ta 32 hf), (a 15, aB ta 48 wd), (a 24, aS ta 16 mac), (a 41, aS ta 256 gke), (a 43, aS ta 16 gpr), (a 52, aS ta 3 gnu), (a 44, aS ta 16 gck)]) (As := [.ref (a 51), .int (nI 0), .int (nI 8)]) (rest := []) (ci := 8) hx hb hml hown hts hGok hK hA hG hl.1 hP hD hS (ct_X10_addAll ll D ta hGok h0 a ar ((0 + 2) + 6) tp osz lsz ns ct gm1_40 (a 51) 0 8 ghs 8 (by first | assumption | omega | rfl | decide) (by first | assumption | omega | rfl | decide) (by first | assumption | omega | rfl | decide) H.size) tw_1306 tw_1303 tw_1305 tw_36 tw_75 hdX10_addAll rfl ⟨rfl, rfl, Nat.le_of_ble_eq_true rfl, Nat.le_of_ble_eq_true rfl, Nat.le_of_ble_eq_true rfl, Nat.le_of_ble_eq_true rfl⟩ rfl rfl (q0 := 17) rfl [17, 18, 13] [0, 1, 2, 3, 4, 5, 6, 7, 8, 9, 10, 11, 12, 14, 15, 16, 19] rfl rfl (by decide) rfl (Nat.le_of_ble_eq_true rfl) dX10_proofOf_55 (fun u H locs hq hP hD hS => ?_)
  generalize u = gm1_55 at hq hP hD ⊢
  have hq : (qL gm1_55 (((0 + 2) + 6) + 8) = qL gm1_40 ((0 + 2) + 6) ++ seg ghs 0 8) := hq
  have hL_55 := hq
  refine W.eq (g2 := F0 mm 58 ls []) rfl ?_
  have hP : va_P D vwCl [(a 0, aK ta 64 tIP), (a 1, aK ta 48 tSPR), (a 2, aK ta 32 tMIX), (a 3, aK ta 56 tCH), (a 4, aK ta 48 tSEC), (a 5, aK ta 512 tSBX), (a 10, aB ta 64 bi), (a 11, aB ta 64 tu), (a 12, aB ta 56 cd), (a 13, aB ta 768 sk), (a 14, aB ta 32 hf), (a 15, aB ta 48 wd), (a 24, aS ta 16 mac), (a 41, aS ta 256 gke), (a 43, aS ta 16 gpr), (a 52, aS ta 3 gnu), (a 44, aS ta 16 gck), (h0, oM a ar (((0 + 2) + 6) + 8) tp osz lsz ns ct), (a 22, aS ta 700 gm1_55), (a 51, aS ta 8 ghs)] H := hP
  have hD : va_D A [(a 0, aK ta 64 tIP), (a 1, aK ta 48 tSPR), (a 2, aK ta 32 tMIX), (a 3, aK ta 56 tCH), (a 4, aK ta 48 tSEC), (a 5, aK ta 512 tSBX), (a 10, aB ta 64 bi), (a 11, aB ta 64 tu), (a 12, aB ta 56 cd), (a 13, aB ta 768 sk), (a 14, aB ta 32 hf), (a 15, aB ta 48 wd), (a 24, aS ta 16 mac), (a 41, aS ta 256 gke), (a 43, aS ta 16 gpr), (a 52, aS ta 3 gnu), (a 44, aS ta 16 gck), (h0, oM a ar (((0 + 2) + 6) + 8) tp osz lsz ns ct), (a 22, aS ta 700 gm1_55), (a 51, aS ta 8 ghs)] := hD
  refine lv_aload_n (pc := 58) hx hb dX10_proofOf_58 rfl (lv_at hl 0 rfl) ?_
  refine lv_aload_n (pc := 59) hx hb dX10_proofOf_59 rfl (lv_at hl 0 rfl) ?_
  refine va_get (pc := 60) (D := D) (ci := 8) (v := .ref (a 41)) (C := RX10) (T := TX10) (N := 57) hx hb hts iu10 hown hK hP 17 rfl rfl 41 (by decide) (hts _ tw_1086) (fun _ h9 => h9) rfl dX10_proofOf_60 ?_
  refine lv_sipush (pc := 63) (v := nI 128) hx hb dX10_proofOf_63 (by decide +kernel) ?_
  refine lv_iload_n (pc := 66) hx hb dX10_proofOf_66 rfl (lv_at hl 1 rfl) ?_
  refine lv_imul (pc := 67) hx hb dX10_proofOf_67 ?_
  refine q_top (y := nI (128 * sd)) (pk_mul 128 sd) ?_
  refine lv_iconst (pc := 68) (v := nI 0) hx hb dX10_proofOf_68 (by decide +kernel) ?_
  refine lv_iadd (pc := 69) hx hb dX10_proofOf_69 ?_
  refine q_top (y := nI (128 * sd)) ((nI_add (128 * sd) 0).trans (congrArg nI (by omega))) ?_
  refine cs_V (pc := 70) (idx := 347) (n := 2) (wr := [(a 43, aS ta 16 gpr), (a 52, aS ta 3 gnu), (a 44, aS ta 16 gck), (a 51, aS ta 8 ghs)]) (As := [.ref (a 41), .int (nI (128 * sd))]) (rest := []) (ci := 8) hx hb hml hown hts hGok hK hA hG hl.1 hP hD hS (ct_X10_mac3 ll D ta hGok h0 a ar (((0 + 2) + 6) + 8) tp osz lsz ns ct gm1_55 mac (a 41) (128 * sd) 256 gke bi tu cd sk hf wd (by first | assumption | omega | rfl | decide) (by first | assumption | omega | rfl | decide) (by first | assumption | omega | rfl | decide) H.size) tw_1326 tw_1323 tw_1325 tw_41 tw_75 hdX10_mac3 rfl ⟨rfl, rfl, Nat.le_of_ble_eq_true rfl, Nat.le_of_ble_eq_true rfl, Nat.le_of_ble_eq_true rfl, Nat.le_of_ble_eq_true rfl⟩ rfl rfl (q0 := 17) rfl [17, 18, 12, 0, 1, 2, 3, 4, 5, 6, 7, 8, 9, 10, 11, 13] [14, 15, 16, 19] rfl rfl (by decide) rfl (Nat.le_of_ble_eq_true rfl) dX10_proofOf_70 (fun u H locs hq hP hD hS => ?_)
  obtain ⟨gm1_70, mn1_70, mac1_70, bi1_70, tu1_70, cd1_70, sk1_70, hf1_70, wd1_70⟩ := u
  have hq : (seg mac1_70 0 8 = mac3L (seg gke (128 * sd) 16) (qL gm1_55 (((0 + 2) + 6) + 8))) := hq
  have hL_70 := hq
  refine W.eq (g2 := F0 mm 73 ls []) rfl ?_
  have hP : va_P D vwCl [(a 43, aS ta 16 gpr), (a 52, aS ta 3 gnu), (a 44, aS ta 16 gck), (a 51, aS ta 8 ghs), (h0, oM a ar mn1_70 tp osz lsz ns ct), (a 22, aS ta 700 gm1_70), (a 24, aS ta 16 mac1_70), (a 0, aK ta 64 tIP), (a 1, aK ta 48 tSPR), (a 2, aK ta 32 tMIX), (a 3, aK ta 56 tCH), (a 4, aK ta 48 tSEC), (a 5, aK ta 512 tSBX), (a 10, aB ta 64 bi1_70), (a 11, aB ta 64 tu1_70), (a 12, aB ta 56 cd1_70), (a 13, aB ta 768 sk1_70), (a 14, aB ta 32 hf1_70), (a 15, aB ta 48 wd1_70), (a 41, aS ta 256 gke)] H := hP
  have hD : va_D A [(a 43, aS ta 16 gpr), (a 52, aS ta 3 gnu), (a 44, aS ta 16 gck), (a 51, aS ta 8 ghs), (h0, oM a ar mn1_70 tp osz lsz ns ct), (a 22, aS ta 700 gm1_70), (a 24, aS ta 16 mac1_70), (a 0, aK ta 64 tIP), (a 1, aK ta 48 tSPR), (a 2, aK ta 32 tMIX), (a 3, aK ta 56 tCH), (a 4, aK ta 48 tSEC), (a 5, aK ta 512 tSBX), (a 10, aB ta 64 bi1_70), (a 11, aB ta 64 tu1_70), (a 12, aB ta 56 cd1_70), (a 13, aB ta 768 sk1_70), (a 14, aB ta 32 hf1_70), (a 15, aB ta 48 wd1_70), (a 41, aS ta 256 gke)] := hD
  refine lv_iconst (pc := 73) (v := nI 0) hx hb dX10_proofOf_73 (by decide +kernel) ?_
  refine lv_istore_n (pc := 74) (lv' := [(3, .int (nI 0)), (0, .ref h0), (1, .int (nI sd)), (2, .int (nI 0))]) hx hb dX10_proofOf_74 rfl hl (by decide) rfl (fun ls hl => ?_)
  have LP75 : ∀ (nn75 : Nat) (k : Nat) (e' : Nat → BitVec 8), (k ≤ 8) → (qSeg e' gpr (8 * sd) k mac1_70) → (8 - k < nn75) → ∀ (H : Heap) (locs : List Loc), va_P D vwCl [(a 43, aS ta 16 e'), (a 52, aS ta 3 gnu), (a 44, aS ta 16 gck), (a 51, aS ta 8 ghs), (h0, oM a ar mn1_70 tp osz lsz ns ct), (a 22, aS ta 700 gm1_70), (a 24, aS ta 16 mac1_70), (a 0, aK ta 64 tIP), (a 1, aK ta 48 tSPR), (a 2, aK ta 32 tMIX), (a 3, aK ta 56 tCH), (a 4, aK ta 48 tSEC), (a 5, aK ta 512 tSBX), (a 10, aB ta 64 bi1_70), (a 11, aB ta 64 tu1_70), (a 12, aB ta 56 cd1_70), (a 13, aB ta 768 sk1_70), (a 14, aB ta 32 hf1_70), (a 15, aB ta 48 wd1_70), (a 41, aS ta 256 gke)] H → va_D A [(a 43, aS ta 16 e'), (a 52, aS ta 3 gnu), (a 44, aS ta 16 gck), (a 51, aS ta 8 ghs), (h0, oM a ar mn1_70 tp osz lsz ns ct), (a 22, aS ta 700 gm1_70), (a 24, aS ta 16 mac1_70), (a 0, aK ta 64 tIP), (a 1, aK ta 48 tSPR), (a 2, aK ta 32 tMIX), (a 3, aK ta 56 tCH), (a 4, aK ta 48 tSEC), (a 5, aK ta 512 tSBX), (a 10, aB ta 64 bi1_70), (a 11, aB ta 64 tu1_70), (a 12, aB ta 56 cd1_70), (a 13, aB ta 768 sk1_70), (a 14, aB ta 32 hf1_70), (a 15, aB ta 48 wd1_70), (a 41, aS ta 256 gke)] → va_S A ss.heap H locs → ∀ ls : Array Slot, lv_has ls 4 [(3, .int (nI k)), (0, .ref h0), (1, .int (nI sd)), (2, .int (nI 0))] → W pp ll ee ({ frames := 4, cells := 0, slots := 0, locals := 109 } : Room) ss mm (([.ref h0, .int (nI sd), .int (nI 0)] : List Value).toArray) below meth kc H locs 0 0 Q (F0 mm 75 ls []) := by
    intro nn75
    induction nn75 with
    | zero => intro k e' hkk hs hmu; exact absurd hmu (Nat.not_lt_zero _)
    | succ nn75 ih75 =>
      intro k e' hkk hs hmu75 H locs hP hD hS ls hl
      refine lv_iload_n (pc := 75) hx hb dX10_proofOf_75 rfl (lv_at hl 0 rfl) ?_
      refine lv_bipush (pc := 76) (v := nI 8) hx hb dX10_proofOf_76 (by decide +kernel) ?_
      refine lv_icmp_ge (pc := 78) (tgt := 128) hx hb dX10_proofOf_78 (by decide) (fun c_3 => ?_) (fun c_3 => ?_)
      · skip
        rw [nI_leI (by omega) (by omega)] at c_3
        have hq_4 : (seg e' (8 * sd) 8 = mac3L (seg gke (128 * sd) 16) (qL gnu 2 ++ seg gck (8 * sd) 6 ++ qL ghs 8)) ∧ (∀ j, (j < 8 * sd ∨ 8 * sd + 8 ≤ j) → e' j = gpr j) := by
          have hT : qL gm1_55 (0 + 2 + 6 + 8) = qL gnu 2 ++ seg gck (8 * sd) 6 ++ qL ghs 8 := by
            rw [hL_55, hL_40, hL_26, qL_0, seg_0, seg_0, List.nil_append]
          refine ⟨?_, fun j hj => hs.2 j (by omega)⟩
          rw [seg_copy0 hs (by omega), ← hT, ← hL_70, seg_0]
        exact hret (⟨(bi1_70), (tu1_70), (cd1_70), (sk1_70), (hf1_70), (wd1_70), (gm1_70), (mac1_70), (e'), (mn1_70)⟩ : (Nat → Bool) × (Nat → Bool) × (Nat → Bool) × (Nat → Bool) × (Nat → Bool) × (Nat → Bool) × (Nat → BitVec 8) × (Nat → BitVec 8) × (Nat → BitVec 8) × Nat) _ _ _ _ dX10_proofOf_128 hq_4 (hP.sub [4, 7, 8, 9, 10, 11, 12, 13, 14, 15, 16, 17, 18, 5, 6, 3, 1, 2, 19, 0] rfl) (hD.sub [4, 7, 8, 9, 10, 11, 12, 13, 14, 15, 16, 17, 18, 5, 6, 3, 1, 2, 19, 0] (by decide) rfl) hS
      · skip
        rw [nI_leI (by omega) (by omega)] at c_3
        refine lv_iload_n (pc := 81) hx hb dX10_proofOf_81 rfl (lv_at hl 3 rfl) ?_
        refine lv_if_eq (pc := 82) (tgt := 105) hx hb dX10_proofOf_82 (by decide) (fun _ => ?_) (fun c_5 => absurd (by decide) c_5)
        refine lv_aload_n (pc := 105) hx hb dX10_proofOf_105 rfl (lv_at hl 1 rfl) ?_
        refine va_get (pc := 106) (D := D) (ci := 8) (v := .ref (a 43)) (C := RX10) (T := TX10) (N := 57) hx hb hts iu10 hown hK hP 4 rfl rfl 43 (by decide) (hts _ tw_1088) (fun _ h9 => h9) rfl dX10_proofOf_106 ?_
        refine lv_bipush (pc := 109) (v := nI 8) hx hb dX10_proofOf_109 (by decide +kernel) ?_
        refine lv_iload_n (pc := 111) hx hb dX10_proofOf_111 rfl (lv_at hl 2 rfl) ?_
        refine lv_imul (pc := 112) hx hb dX10_proofOf_112 ?_
        refine q_top (y := nI (8 * sd)) (pk_mul 8 sd) ?_
        refine lv_iload_n (pc := 113) hx hb dX10_proofOf_113 rfl (lv_at hl 0 rfl) ?_
        refine lv_iadd (pc := 114) hx hb dX10_proofOf_114 ?_
        refine q_top (y := nI (8 * sd + k)) (nI_add (8 * sd) k) ?_
        refine lv_aload_n (pc := 115) hx hb dX10_proofOf_115 rfl (lv_at hl 1 rfl) ?_
        refine va_get (pc := 116) (D := D) (ci := 8) (v := .ref (a 24)) (C := RX10) (T := TX10) (N := 57) hx hb hts iu10 hown hK hP 4 rfl rfl 24 (by decide) (hts _ tw_1069) (fun _ h9 => h9) rfl dX10_proofOf_116 ?_
        refine lv_iload_n (pc := 119) hx hb dX10_proofOf_119 rfl (lv_at hl 0 rfl) ?_
        refine q_bald (pc := 120) hx hb hK hP 6 2 rfl rfl (k := k) (v := qs (mac1_70 k)) rfl (by omega) (by omega) rfl dX10_proofOf_120 ?_
        refine q_bastS (pc := 121) hx hb hK hP hD hS 0 2 rfl rfl (k := 8 * sd + k) rfl (by omega) (by omega) (b := mac1_70 k) (qlo_qs _) dX10_proofOf_121 (fun H locs hP hD hS => ?_)
        have hP : va_P D vwCl [(a 43, aS ta 16 (qU e' (8 * sd + k) (mac1_70 k))), (a 52, aS ta 3 gnu), (a 44, aS ta 16 gck), (a 51, aS ta 8 ghs), (h0, oM a ar mn1_70 tp osz lsz ns ct), (a 22, aS ta 700 gm1_70), (a 24, aS ta 16 mac1_70), (a 0, aK ta 64 tIP), (a 1, aK ta 48 tSPR), (a 2, aK ta 32 tMIX), (a 3, aK ta 56 tCH), (a 4, aK ta 48 tSEC), (a 5, aK ta 512 tSBX), (a 10, aB ta 64 bi1_70), (a 11, aB ta 64 tu1_70), (a 12, aB ta 56 cd1_70), (a 13, aB ta 768 sk1_70), (a 14, aB ta 32 hf1_70), (a 15, aB ta 48 wd1_70), (a 41, aS ta 256 gke)] H := hP
        have hD : va_D A [(a 43, aS ta 16 (qU e' (8 * sd + k) (mac1_70 k))), (a 52, aS ta 3 gnu), (a 44, aS ta 16 gck), (a 51, aS ta 8 ghs), (h0, oM a ar mn1_70 tp osz lsz ns ct), (a 22, aS ta 700 gm1_70), (a 24, aS ta 16 mac1_70), (a 0, aK ta 64 tIP), (a 1, aK ta 48 tSPR), (a 2, aK ta 32 tMIX), (a 3, aK ta 56 tCH), (a 4, aK ta 48 tSEC), (a 5, aK ta 512 tSBX), (a 10, aB ta 64 bi1_70), (a 11, aB ta 64 tu1_70), (a 12, aB ta 56 cd1_70), (a 13, aB ta 768 sk1_70), (a 14, aB ta 32 hf1_70), (a 15, aB ta 48 wd1_70), (a 41, aS ta 256 gke)] := hD
        refine lv_iinc (pc := 122) (v := nI (k + 1)) (lv' := [(3, .int (nI (k + 1))), (0, .ref h0), (1, .int (nI sd)), (2, .int (nI 0))]) hx hb dX10_proofOf_122 hl (k := 0) rfl (by first | exact nI_add k 1 | rfl) (by decide) rfl (fun ls hl => ?_)
        refine lv_goto (pc := 125) (tgt := 75) hx hb dX10_proofOf_125 (by decide) ?_
        exact ih75 (k + 1) (qU e' (8 * sd + k) (mac1_70 k)) (by omega) (qSeg_s hs (by omega) (by first | rfl | (simp; done))) (by omega) _ _ (hP.sub [0, 1, 2, 3, 4, 5, 6, 7, 8, 9, 10, 11, 12, 13, 14, 15, 16, 17, 18, 19] rfl) (hD.sub [0, 1, 2, 3, 4, 5, 6, 7, 8, 9, 10, 11, 12, 13, 14, 15, 16, 17, 18, 19] (by decide) rfl) hS ls (lv_sub hl [0, 1, 2, 3] rfl)
  exact LP75 _ 0 gpr (by omega) (qSeg_0) (Nat.lt_succ_self _) _ _ (hP.sub [0, 1, 2, 3, 4, 5, 6, 7, 8, 9, 10, 11, 12, 13, 14, 15, 16, 17, 18, 19] rfl) (hD.sub [0, 1, 2, 3, 4, 5, 6, 7, 8, 9, 10, 11, 12, 13, 14, 15, 16, 17, 18, 19] (by decide) rfl) hS ls (lv_sub hl [0, 1, 2, 3] rfl)
theorem hdX10_make : yX10_make.cls ≠ "java/lang/invoke/MethodHandle" ∧ yX10_make.cls ≠ "java/lang/invoke/VarHandle" ∧ (parseMethodDescriptor yX10_make.desc).map (fun d => d.parameters.length) = some 2 := ⟨by decide +kernel, by decide +kernel, by decide +kernel⟩
theorem dX10_make_0 : decode cX10_make 0 = .ok (.aload_n 0, 1) := by decide +kernel
theorem dX10_make_1 : decode cX10_make 1 = .ok (.getfield 234, 3) := by decide +kernel
theorem dX10_make_4 : decode cX10_make 4 = .ok (.iload_n 1, 1) := by decide +kernel
theorem dX10_make_5 : decode cX10_make 5 = .ok (.iaload, 1) := by decide +kernel
theorem dX10_make_6 : decode cX10_make 6 = .ok (.istore_n 3, 1) := by decide +kernel
theorem dX10_make_7 : decode cX10_make 7 = .ok (.sipush 128, 3) := by decide +kernel
theorem dX10_make_10 : decode cX10_make 10 = .ok (.iload_n 1, 1) := by decide +kernel
theorem dX10_make_11 : decode cX10_make 11 = .ok (.imul, 1) := by decide +kernel
theorem dX10_make_12 : decode cX10_make 12 = .ok (.istore 4, 2) := by decide +kernel
theorem dX10_make_14 : decode cX10_make 14 = .ok (.aload_n 0, 1) := by decide +kernel
theorem dX10_make_15 : decode cX10_make 15 = .ok (.getfield 231, 3) := by decide +kernel
theorem dX10_make_18 : decode cX10_make 18 = .ok (.iload_n 1, 1) := by decide +kernel
theorem dX10_make_19 : decode cX10_make 19 = .ok (.iaload, 1) := by decide +kernel
theorem dX10_make_20 : decode cX10_make 20 = .ok (.iconst 2, 1) := by decide +kernel
theorem dX10_make_21 : decode cX10_make 21 = .ok (.if_icmp .ne 153, 3) := by decide +kernel
theorem dX10_make_24 : decode cX10_make 24 = .ok (.aload_n 0, 1) := by decide +kernel
theorem dX10_make_25 : decode cX10_make 25 = .ok (.iload_n 1, 1) := by decide +kernel
theorem dX10_make_26 : decode cX10_make 26 = .ok (.iconst 0, 1) := by decide +kernel
theorem dX10_make_27 : decode cX10_make 27 = .ok (.sipush 130, 3) := by decide +kernel
theorem dX10_make_30 : decode cX10_make 30 = .ok (.iconst 0, 1) := by decide +kernel
theorem dX10_make_31 : decode cX10_make 31 = .ok (.invokevirtual 328, 3) := by decide +kernel
theorem dX10_make_34 : decode cX10_make 34 = .ok (.aload_n 0, 1) := by decide +kernel
theorem dX10_make_35 : decode cX10_make 35 = .ok (.iload_n 1, 1) := by decide +kernel
theorem dX10_make_36 : decode cX10_make 36 = .ok (.iconst 1, 1) := by decide +kernel
theorem dX10_make_37 : decode cX10_make 37 = .ok (.iconst 1, 1) := by decide +kernel
theorem dX10_make_38 : decode cX10_make 38 = .ok (.bipush 32, 2) := by decide +kernel
theorem dX10_make_40 : decode cX10_make 40 = .ok (.invokevirtual 328, 3) := by decide +kernel
theorem dX10_make_43 : decode cX10_make 43 = .ok (.aload_n 0, 1) := by decide +kernel
theorem dX10_make_44 : decode cX10_make 44 = .ok (.iload_n 1, 1) := by decide +kernel
theorem dX10_make_45 : decode cX10_make 45 = .ok (.iconst 1, 1) := by decide +kernel
theorem dX10_make_46 : decode cX10_make 46 = .ok (.iconst 2, 1) := by decide +kernel
theorem dX10_make_47 : decode cX10_make 47 = .ok (.bipush 64, 2) := by decide +kernel
theorem dX10_make_49 : decode cX10_make 49 = .ok (.invokevirtual 328, 3) := by decide +kernel
theorem dX10_make_52 : decode cX10_make 52 = .ok (.aload_n 0, 1) := by decide +kernel
theorem dX10_make_53 : decode cX10_make 53 = .ok (.iload_n 1, 1) := by decide +kernel
theorem dX10_make_54 : decode cX10_make 54 = .ok (.iconst 2, 1) := by decide +kernel
theorem dX10_make_55 : decode cX10_make 55 = .ok (.sipush 129, 3) := by decide +kernel
theorem dX10_make_58 : decode cX10_make 58 = .ok (.bipush 96, 2) := by decide +kernel
theorem dX10_make_60 : decode cX10_make 60 = .ok (.invokevirtual 328, 3) := by decide +kernel
theorem dX10_make_63 : decode cX10_make 63 = .ok (.iconst 0, 1) := by decide +kernel
theorem dX10_make_64 : decode cX10_make 64 = .ok (.istore 5, 2) := by decide +kernel
theorem dX10_make_66 : decode cX10_make 66 = .ok (.iload 5, 2) := by decide +kernel
theorem dX10_make_68 : decode cX10_make 68 = .ok (.bipush 8, 2) := by decide +kernel
theorem dX10_make_70 : decode cX10_make 70 = .ok (.if_icmp .ge 17, 3) := by decide +kernel
theorem dX10_make_73 : decode cX10_make 73 = .ok (.aload_n 0, 1) := by decide +kernel
theorem dX10_make_74 : decode cX10_make 74 = .ok (.getfield 283, 3) := by decide +kernel
theorem dX10_make_77 : decode cX10_make 77 = .ok (.iload 5, 2) := by decide +kernel
theorem dX10_make_79 : decode cX10_make 79 = .ok (.iconst 0, 1) := by decide +kernel
theorem dX10_make_80 : decode cX10_make 80 = .ok (.bastore, 1) := by decide +kernel
theorem dX10_make_81 : decode cX10_make 81 = .ok (.iinc 5 1, 3) := by decide +kernel
theorem dX10_make_84 : decode cX10_make 84 = .ok (.goto (-18), 3) := by decide +kernel
theorem dX10_make_87 : decode cX10_make 87 = .ok (.aload_n 0, 1) := by decide +kernel
theorem dX10_make_88 : decode cX10_make 88 = .ok (.invokevirtual 114, 3) := by decide +kernel
theorem dX10_make_91 : decode cX10_make 91 = .ok (.aload_n 0, 1) := by decide +kernel
theorem dX10_make_92 : decode cX10_make 92 = .ok (.aload_n 0, 1) := by decide +kernel
theorem dX10_make_93 : decode cX10_make 93 = .ok (.getfield 228, 3) := by decide +kernel
theorem dX10_make_96 : decode cX10_make 96 = .ok (.iconst 0, 1) := by decide +kernel
theorem dX10_make_97 : decode cX10_make 97 = .ok (.aload_n 0, 1) := by decide +kernel
theorem dX10_make_98 : decode cX10_make 98 = .ok (.getfield 321, 3) := by decide +kernel
theorem dX10_make_101 : decode cX10_make 101 = .ok (.invokevirtual 121, 3) := by decide +kernel
theorem dX10_make_104 : decode cX10_make 104 = .ok (.iload_n 2, 1) := by decide +kernel
theorem dX10_make_105 : decode cX10_make 105 = .ok (.ifCond .eq 56, 3) := by decide +kernel
theorem dX10_make_108 : decode cX10_make 108 = .ok (.aload_n 0, 1) := by decide +kernel
theorem dX10_make_109 : decode cX10_make 109 = .ok (.aload_n 0, 1) := by decide +kernel
theorem dX10_make_110 : decode cX10_make 110 = .ok (.getfield 246, 3) := by decide +kernel
theorem dX10_make_113 : decode cX10_make 113 = .ok (.iload 4, 2) := by decide +kernel
theorem dX10_make_115 : decode cX10_make 115 = .ok (.bipush 32, 2) := by decide +kernel
theorem dX10_make_117 : decode cX10_make 117 = .ok (.iadd, 1) := by decide +kernel
theorem dX10_make_118 : decode cX10_make 118 = .ok (.aload_n 0, 1) := by decide +kernel
theorem dX10_make_119 : decode cX10_make 119 = .ok (.getfield 283, 3) := by decide +kernel
theorem dX10_make_122 : decode cX10_make 122 = .ok (.iconst 0, 1) := by decide +kernel
theorem dX10_make_123 : decode cX10_make 123 = .ok (.invokevirtual 332, 3) := by decide +kernel
theorem dX10_make_126 : decode cX10_make 126 = .ok (.iconst 0, 1) := by decide +kernel
theorem dX10_make_127 : decode cX10_make 127 = .ok (.istore 5, 2) := by decide +kernel
theorem dX10_make_129 : decode cX10_make 129 = .ok (.iload 5, 2) := by decide +kernel
theorem dX10_make_131 : decode cX10_make 131 = .ok (.bipush 6, 2) := by decide +kernel
theorem dX10_make_133 : decode cX10_make 133 = .ok (.if_icmp .ge 28, 3) := by decide +kernel
theorem dX10_make_136 : decode cX10_make 136 = .ok (.aload_n 0, 1) := by decide +kernel
theorem dX10_make_137 : decode cX10_make 137 = .ok (.getfield 255, 3) := by decide +kernel
theorem dX10_make_140 : decode cX10_make 140 = .ok (.bipush 8, 2) := by decide +kernel
theorem dX10_make_142 : decode cX10_make 142 = .ok (.iload_n 1, 1) := by decide +kernel
theorem dX10_make_143 : decode cX10_make 143 = .ok (.imul, 1) := by decide +kernel
theorem dX10_make_144 : decode cX10_make 144 = .ok (.iload 5, 2) := by decide +kernel
theorem dX10_make_146 : decode cX10_make 146 = .ok (.iadd, 1) := by decide +kernel
theorem dX10_make_147 : decode cX10_make 147 = .ok (.aload_n 0, 1) := by decide +kernel
theorem dX10_make_148 : decode cX10_make 148 = .ok (.getfield 94, 3) := by decide +kernel
theorem dX10_make_151 : decode cX10_make 151 = .ok (.iload 5, 2) := by decide +kernel
theorem dX10_make_153 : decode cX10_make 153 = .ok (.baload, 1) := by decide +kernel
theorem dX10_make_154 : decode cX10_make 154 = .ok (.bastore, 1) := by decide +kernel
theorem dX10_make_155 : decode cX10_make 155 = .ok (.iinc 5 1, 3) := by decide +kernel
theorem dX10_make_158 : decode cX10_make 158 = .ok (.goto (-29), 3) := by decide +kernel
theorem dX10_make_161 : decode cX10_make 161 = .ok (.aload_n 0, 1) := by decide +kernel
theorem dX10_make_162 : decode cX10_make 162 = .ok (.iload_n 1, 1) := by decide +kernel
theorem dX10_make_163 : decode cX10_make 163 = .ok (.iconst 1, 1) := by decide +kernel
theorem dX10_make_164 : decode cX10_make 164 = .ok (.invokevirtual 336, 3) := by decide +kernel
theorem dX10_make_167 : decode cX10_make 167 = .ok (.aload_n 0, 1) := by decide +kernel
theorem dX10_make_168 : decode cX10_make 168 = .ok (.iload_n 1, 1) := by decide +kernel
theorem dX10_make_169 : decode cX10_make 169 = .ok (.iconst 0, 1) := by decide +kernel
theorem dX10_make_170 : decode cX10_make 170 = .ok (.invokevirtual 336, 3) := by decide +kernel
theorem dX10_make_173 : decode cX10_make 173 = .ok (.return_, 1) := by decide +kernel
theorem dX10_make_174 : decode cX10_make 174 = .ok (.iload_n 2, 1) := by decide +kernel
theorem dX10_make_175 : decode cX10_make 175 = .ok (.ifCond .eq 96, 3) := by decide +kernel
theorem dX10_make_178 : decode cX10_make 178 = .ok (.iconst 0, 1) := by decide +kernel
theorem dX10_make_179 : decode cX10_make 179 = .ok (.istore 5, 2) := by decide +kernel
theorem dX10_make_181 : decode cX10_make 181 = .ok (.iload 5, 2) := by decide +kernel
theorem dX10_make_183 : decode cX10_make 183 = .ok (.iconst 3, 1) := by decide +kernel
theorem dX10_make_184 : decode cX10_make 184 = .ok (.if_icmp .ge 23, 3) := by decide +kernel
theorem dX10_make_187 : decode cX10_make 187 = .ok (.aload_n 0, 1) := by decide +kernel
theorem dX10_make_188 : decode cX10_make 188 = .ok (.getfield 118, 3) := by decide +kernel
theorem dX10_make_191 : decode cX10_make 191 = .ok (.iload 5, 2) := by decide +kernel
theorem dX10_make_193 : decode cX10_make 193 = .ok (.aload_n 0, 1) := by decide +kernel
theorem dX10_make_194 : decode cX10_make 194 = .ok (.getfield 280, 3) := by decide +kernel
theorem dX10_make_197 : decode cX10_make 197 = .ok (.iload 5, 2) := by decide +kernel
theorem dX10_make_199 : decode cX10_make 199 = .ok (.baload, 1) := by decide +kernel
theorem dX10_make_200 : decode cX10_make 200 = .ok (.bastore, 1) := by decide +kernel
theorem dX10_make_201 : decode cX10_make 201 = .ok (.iinc 5 1, 3) := by decide +kernel
theorem dX10_make_204 : decode cX10_make 204 = .ok (.goto (-23), 3) := by decide +kernel
theorem dX10_make_207 : decode cX10_make 207 = .ok (.iconst 0, 1) := by decide +kernel
theorem dX10_make_208 : decode cX10_make 208 = .ok (.istore 5, 2) := by decide +kernel
theorem dX10_make_210 : decode cX10_make 210 = .ok (.iload 5, 2) := by decide +kernel
theorem dX10_make_212 : decode cX10_make 212 = .ok (.aload_n 0, 1) := by decide +kernel
theorem dX10_make_213 : decode cX10_make 213 = .ok (.getfield 321, 3) := by decide +kernel
theorem dX10_make_216 : decode cX10_make 216 = .ok (.if_icmp .ge 25, 3) := by decide +kernel
theorem dX10_make_219 : decode cX10_make 219 = .ok (.aload_n 0, 1) := by decide +kernel
theorem dX10_make_220 : decode cX10_make 220 = .ok (.getfield 118, 3) := by decide +kernel
theorem dX10_make_223 : decode cX10_make 223 = .ok (.iconst 3, 1) := by decide +kernel
theorem dX10_make_224 : decode cX10_make 224 = .ok (.iload 5, 2) := by decide +kernel
theorem dX10_make_226 : decode cX10_make 226 = .ok (.iadd, 1) := by decide +kernel
theorem dX10_make_227 : decode cX10_make 227 = .ok (.aload_n 0, 1) := by decide +kernel
theorem dX10_make_228 : decode cX10_make 228 = .ok (.getfield 228, 3) := by decide +kernel
theorem dX10_make_231 : decode cX10_make 231 = .ok (.iload 5, 2) := by decide +kernel
theorem dX10_make_233 : decode cX10_make 233 = .ok (.baload, 1) := by decide +kernel
theorem dX10_make_234 : decode cX10_make 234 = .ok (.bastore, 1) := by decide +kernel
theorem dX10_make_235 : decode cX10_make 235 = .ok (.iinc 5 1, 3) := by decide +kernel
theorem dX10_make_238 : decode cX10_make 238 = .ok (.goto (-28), 3) := by decide +kernel
theorem dX10_make_241 : decode cX10_make 241 = .ok (.aload_n 0, 1) := by decide +kernel
theorem dX10_make_242 : decode cX10_make 242 = .ok (.aload_n 0, 1) := by decide +kernel
theorem dX10_make_243 : decode cX10_make 243 = .ok (.getfield 237, 3) := by decide +kernel
theorem dX10_make_246 : decode cX10_make 246 = .ok (.bipush 96, 2) := by decide +kernel
theorem dX10_make_248 : decode cX10_make 248 = .ok (.iload_n 1, 1) := by decide +kernel
theorem dX10_make_249 : decode cX10_make 249 = .ok (.imul, 1) := by decide +kernel
theorem dX10_make_250 : decode cX10_make 250 = .ok (.iload_n 3, 1) := by decide +kernel
theorem dX10_make_251 : decode cX10_make 251 = .ok (.iconst 2, 1) := by decide +kernel
theorem dX10_make_252 : decode cX10_make 252 = .ok (.bipush 8, 2) := by decide +kernel
theorem dX10_make_254 : decode cX10_make 254 = .ok (.iconst 3, 1) := by decide +kernel
theorem dX10_make_255 : decode cX10_make 255 = .ok (.aload_n 0, 1) := by decide +kernel
theorem dX10_make_256 : decode cX10_make 256 = .ok (.getfield 321, 3) := by decide +kernel
theorem dX10_make_259 : decode cX10_make 259 = .ok (.iadd, 1) := by decide +kernel
theorem dX10_make_260 : decode cX10_make 260 = .ok (.aload_n 0, 1) := by decide +kernel
theorem dX10_make_261 : decode cX10_make 261 = .ok (.getfield 255, 3) := by decide +kernel
theorem dX10_make_264 : decode cX10_make 264 = .ok (.bipush 8, 2) := by decide +kernel
theorem dX10_make_266 : decode cX10_make 266 = .ok (.iload_n 1, 1) := by decide +kernel
theorem dX10_make_267 : decode cX10_make 267 = .ok (.imul, 1) := by decide +kernel
theorem dX10_make_268 : decode cX10_make 268 = .ok (.invokevirtual 340, 3) := by decide +kernel
theorem dX10_make_271 : decode cX10_make 271 = .ok (.aload_n 0, 1) := by decide +kernel
theorem dX10_make_272 : decode cX10_make 272 = .ok (.iload_n 1, 1) := by decide +kernel
theorem dX10_make_273 : decode cX10_make 273 = .ok (.invokevirtual 344, 3) := by decide +kernel
theorem dX10_make_276 : decode cX10_make 276 = .ok (.aload_n 0, 1) := by decide +kernel
theorem dX10_make_277 : decode cX10_make 277 = .ok (.aload_n 0, 1) := by decide +kernel
theorem dX10_make_278 : decode cX10_make 278 = .ok (.getfield 237, 3) := by decide +kernel
theorem dX10_make_281 : decode cX10_make 281 = .ok (.bipush 96, 2) := by decide +kernel
theorem dX10_make_283 : decode cX10_make 283 = .ok (.iload_n 1, 1) := by decide +kernel
theorem dX10_make_284 : decode cX10_make 284 = .ok (.imul, 1) := by decide +kernel
theorem dX10_make_285 : decode cX10_make 285 = .ok (.iload_n 3, 1) := by decide +kernel
theorem dX10_make_286 : decode cX10_make 286 = .ok (.iconst 4, 1) := by decide +kernel
theorem dX10_make_287 : decode cX10_make 287 = .ok (.iload_n 3, 1) := by decide +kernel
theorem dX10_make_288 : decode cX10_make 288 = .ok (.bipush 16, 2) := by decide +kernel
theorem dX10_make_290 : decode cX10_make 290 = .ok (.aload_n 0, 1) := by decide +kernel
theorem dX10_make_291 : decode cX10_make 291 = .ok (.getfield 246, 3) := by decide +kernel
theorem dX10_make_294 : decode cX10_make 294 = .ok (.iload 4, 2) := by decide +kernel
theorem dX10_make_296 : decode cX10_make 296 = .ok (.iconst 0, 1) := by decide +kernel
theorem dX10_make_297 : decode cX10_make 297 = .ok (.iadd, 1) := by decide +kernel
theorem dX10_make_298 : decode cX10_make 298 = .ok (.invokevirtual 340, 3) := by decide +kernel
theorem dX10_make_301 : decode cX10_make 301 = .ok (.aload_n 0, 1) := by decide +kernel
theorem dX10_make_302 : decode cX10_make 302 = .ok (.iload_n 1, 1) := by decide +kernel
theorem dX10_make_303 : decode cX10_make 303 = .ok (.invokevirtual 344, 3) := by decide +kernel
theorem dX10_make_306 : decode cX10_make 306 = .ok (.aload_n 0, 1) := by decide +kernel
theorem dX10_make_307 : decode cX10_make 307 = .ok (.aload_n 0, 1) := by decide +kernel
theorem dX10_make_308 : decode cX10_make 308 = .ok (.getfield 237, 3) := by decide +kernel
theorem dX10_make_311 : decode cX10_make 311 = .ok (.bipush 96, 2) := by decide +kernel
theorem dX10_make_313 : decode cX10_make 313 = .ok (.iload_n 1, 1) := by decide +kernel
theorem dX10_make_314 : decode cX10_make 314 = .ok (.imul, 1) := by decide +kernel
theorem dX10_make_315 : decode cX10_make 315 = .ok (.bipush 32, 2) := by decide +kernel
theorem dX10_make_317 : decode cX10_make 317 = .ok (.iadd, 1) := by decide +kernel
theorem dX10_make_318 : decode cX10_make 318 = .ok (.iload_n 3, 1) := by decide +kernel
theorem dX10_make_319 : decode cX10_make 319 = .ok (.bipush 6, 2) := by decide +kernel
theorem dX10_make_321 : decode cX10_make 321 = .ok (.iload_n 3, 1) := by decide +kernel
theorem dX10_make_322 : decode cX10_make 322 = .ok (.bipush 16, 2) := by decide +kernel
theorem dX10_make_324 : decode cX10_make 324 = .ok (.aload_n 0, 1) := by decide +kernel
theorem dX10_make_325 : decode cX10_make 325 = .ok (.getfield 246, 3) := by decide +kernel
theorem dX10_make_328 : decode cX10_make 328 = .ok (.iload 4, 2) := by decide +kernel
theorem dX10_make_330 : decode cX10_make 330 = .ok (.bipush 32, 2) := by decide +kernel
theorem dX10_make_332 : decode cX10_make 332 = .ok (.iadd, 1) := by decide +kernel
theorem dX10_make_333 : decode cX10_make 333 = .ok (.invokevirtual 340, 3) := by decide +kernel
theorem dX10_make_336 : decode cX10_make 336 = .ok (.aload_n 0, 1) := by decide +kernel
theorem dX10_make_337 : decode cX10_make 337 = .ok (.iload_n 1, 1) := by decide +kernel
theorem dX10_make_338 : decode cX10_make 338 = .ok (.invokevirtual 344, 3) := by decide +kernel
theorem dX10_make_341 : decode cX10_make 341 = .ok (.aload_n 0, 1) := by decide +kernel
theorem dX10_make_342 : decode cX10_make 342 = .ok (.aload_n 0, 1) := by decide +kernel
theorem dX10_make_343 : decode cX10_make 343 = .ok (.getfield 237, 3) := by decide +kernel
theorem dX10_make_346 : decode cX10_make 346 = .ok (.bipush 96, 2) := by decide +kernel
theorem dX10_make_348 : decode cX10_make 348 = .ok (.iload_n 1, 1) := by decide +kernel
theorem dX10_make_349 : decode cX10_make 349 = .ok (.imul, 1) := by decide +kernel
theorem dX10_make_350 : decode cX10_make 350 = .ok (.bipush 32, 2) := by decide +kernel
theorem dX10_make_352 : decode cX10_make 352 = .ok (.iadd, 1) := by decide +kernel
theorem dX10_make_353 : decode cX10_make 353 = .ok (.iload_n 3, 1) := by decide +kernel
theorem dX10_make_354 : decode cX10_make 354 = .ok (.bipush 7, 2) := by decide +kernel
theorem dX10_make_356 : decode cX10_make 356 = .ok (.iload_n 3, 1) := by decide +kernel
theorem dX10_make_357 : decode cX10_make 357 = .ok (.bipush 16, 2) := by decide +kernel
theorem dX10_make_359 : decode cX10_make 359 = .ok (.aload_n 0, 1) := by decide +kernel
theorem dX10_make_360 : decode cX10_make 360 = .ok (.getfield 246, 3) := by decide +kernel
theorem dX10_make_363 : decode cX10_make 363 = .ok (.iload 4, 2) := by decide +kernel
theorem dX10_make_365 : decode cX10_make 365 = .ok (.bipush 64, 2) := by decide +kernel
theorem dX10_make_367 : decode cX10_make 367 = .ok (.iadd, 1) := by decide +kernel
theorem dX10_make_368 : decode cX10_make 368 = .ok (.invokevirtual 340, 3) := by decide +kernel
theorem dX10_make_371 : decode cX10_make 371 = .ok (.iconst 0, 1) := by decide +kernel
theorem dX10_make_372 : decode cX10_make 372 = .ok (.istore 5, 2) := by decide +kernel
theorem dX10_make_374 : decode cX10_make 374 = .ok (.iload 5, 2) := by decide +kernel
theorem dX10_make_376 : decode cX10_make 376 = .ok (.iload_n 3, 1) := by decide +kernel
theorem dX10_make_377 : decode cX10_make 377 = .ok (.if_icmp .ge 37, 3) := by decide +kernel
theorem dX10_make_380 : decode cX10_make 380 = .ok (.aload_n 0, 1) := by decide +kernel
theorem dX10_make_381 : decode cX10_make 381 = .ok (.getfield 246, 3) := by decide +kernel
theorem dX10_make_384 : decode cX10_make 384 = .ok (.iload 4, 2) := by decide +kernel
theorem dX10_make_386 : decode cX10_make 386 = .ok (.bipush 96, 2) := by decide +kernel
theorem dX10_make_388 : decode cX10_make 388 = .ok (.iadd, 1) := by decide +kernel
theorem dX10_make_389 : decode cX10_make 389 = .ok (.iload 5, 2) := by decide +kernel
theorem dX10_make_391 : decode cX10_make 391 = .ok (.iadd, 1) := by decide +kernel
theorem dX10_make_392 : decode cX10_make 392 = .ok (.aload_n 0, 1) := by decide +kernel
theorem dX10_make_393 : decode cX10_make 393 = .ok (.getfield 237, 3) := by decide +kernel
theorem dX10_make_396 : decode cX10_make 396 = .ok (.bipush 96, 2) := by decide +kernel
theorem dX10_make_398 : decode cX10_make 398 = .ok (.iload_n 1, 1) := by decide +kernel
theorem dX10_make_399 : decode cX10_make 399 = .ok (.imul, 1) := by decide +kernel
theorem dX10_make_400 : decode cX10_make 400 = .ok (.bipush 64, 2) := by decide +kernel
theorem dX10_make_402 : decode cX10_make 402 = .ok (.iadd, 1) := by decide +kernel
theorem dX10_make_403 : decode cX10_make 403 = .ok (.iload 5, 2) := by decide +kernel
theorem dX10_make_405 : decode cX10_make 405 = .ok (.iadd, 1) := by decide +kernel
theorem dX10_make_406 : decode cX10_make 406 = .ok (.baload, 1) := by decide +kernel
theorem dX10_make_407 : decode cX10_make 407 = .ok (.bastore, 1) := by decide +kernel
theorem dX10_make_408 : decode cX10_make 408 = .ok (.iinc 5 1, 3) := by decide +kernel
theorem dX10_make_411 : decode cX10_make 411 = .ok (.goto (-37), 3) := by decide +kernel
theorem dX10_make_414 : decode cX10_make 414 = .ok (.aload_n 0, 1) := by decide +kernel
theorem dX10_make_415 : decode cX10_make 415 = .ok (.iload_n 1, 1) := by decide +kernel
theorem dX10_make_416 : decode cX10_make 416 = .ok (.invokevirtual 344, 3) := by decide +kernel
theorem dX10_make_419 : decode cX10_make 419 = .ok (.aload_n 0, 1) := by decide +kernel
theorem dX10_make_420 : decode cX10_make 420 = .ok (.aload_n 0, 1) := by decide +kernel
theorem dX10_make_421 : decode cX10_make 421 = .ok (.getfield 246, 3) := by decide +kernel
theorem dX10_make_424 : decode cX10_make 424 = .ok (.iload 4, 2) := by decide +kernel
theorem dX10_make_426 : decode cX10_make 426 = .ok (.bipush 32, 2) := by decide +kernel
theorem dX10_make_428 : decode cX10_make 428 = .ok (.iadd, 1) := by decide +kernel
theorem dX10_make_429 : decode cX10_make 429 = .ok (.iload_n 3, 1) := by decide +kernel
theorem dX10_make_430 : decode cX10_make 430 = .ok (.iconst 0, 1) := by decide +kernel
theorem dX10_make_431 : decode cX10_make 431 = .ok (.bipush 8, 2) := by decide +kernel
theorem dX10_make_433 : decode cX10_make 433 = .ok (.bipush 16, 2) := by decide +kernel
theorem dX10_make_435 : decode cX10_make 435 = .ok (.aload_n 0, 1) := by decide +kernel
theorem dX10_make_436 : decode cX10_make 436 = .ok (.getfield 249, 3) := by decide +kernel
theorem dX10_make_439 : decode cX10_make 439 = .ok (.bipush 8, 2) := by decide +kernel
theorem dX10_make_441 : decode cX10_make 441 = .ok (.iload_n 1, 1) := by decide +kernel
theorem dX10_make_442 : decode cX10_make 442 = .ok (.imul, 1) := by decide +kernel
theorem dX10_make_443 : decode cX10_make 443 = .ok (.invokevirtual 340, 3) := by decide +kernel
theorem dX10_make_446 : decode cX10_make 446 = .ok (.aload_n 0, 1) := by decide +kernel
theorem dX10_make_447 : decode cX10_make 447 = .ok (.iload_n 1, 1) := by decide +kernel
theorem dX10_make_448 : decode cX10_make 448 = .ok (.invokevirtual 344, 3) := by decide +kernel
theorem dX10_make_451 : decode cX10_make 451 = .ok (.aload_n 0, 1) := by decide +kernel
theorem dX10_make_452 : decode cX10_make 452 = .ok (.aload_n 0, 1) := by decide +kernel
theorem dX10_make_453 : decode cX10_make 453 = .ok (.getfield 246, 3) := by decide +kernel
theorem dX10_make_456 : decode cX10_make 456 = .ok (.iload 4, 2) := by decide +kernel
theorem dX10_make_458 : decode cX10_make 458 = .ok (.bipush 32, 2) := by decide +kernel
theorem dX10_make_460 : decode cX10_make 460 = .ok (.iadd, 1) := by decide +kernel
theorem dX10_make_461 : decode cX10_make 461 = .ok (.iload_n 3, 1) := by decide +kernel
theorem dX10_make_462 : decode cX10_make 462 = .ok (.iconst 1, 1) := by decide +kernel
theorem dX10_make_463 : decode cX10_make 463 = .ok (.bipush 8, 2) := by decide +kernel
theorem dX10_make_465 : decode cX10_make 465 = .ok (.bipush 16, 2) := by decide +kernel
theorem dX10_make_467 : decode cX10_make 467 = .ok (.aload_n 0, 1) := by decide +kernel
theorem dX10_make_468 : decode cX10_make 468 = .ok (.getfield 252, 3) := by decide +kernel
theorem dX10_make_471 : decode cX10_make 471 = .ok (.bipush 8, 2) := by decide +kernel
theorem dX10_make_473 : decode cX10_make 473 = .ok (.iload_n 1, 1) := by decide +kernel
theorem dX10_make_474 : decode cX10_make 474 = .ok (.imul, 1) := by decide +kernel
theorem dX10_make_475 : decode cX10_make 475 = .ok (.invokevirtual 340, 3) := by decide +kernel
theorem dX10_make_478 : decode cX10_make 478 = .ok (.return_, 1) := by decide +kernel
set_option maxHeartbeats 4000000 in
set_option maxRecDepth 100000 in
theorem ct_X10_make_21 (ll : Launch) (D : va_G) (ta : Nat → ClassId) {G : (Nat → Prop) → State → Heap → Prop} (hGok : GOK G) (h0 : Nat) (a : Nat → Nat) (ar : Nat) (mn : Nat) (tp : Nat) (osz : Nat) (lsz : Nat) (ns : Nat) (ct : Nat) (bi : Nat → Bool) (tu : Nat → Bool) (cd : Nat → Bool) (sk : Nat → Bool) (hf : Nat → Bool) (wd : Nat → Bool) (gm : Nat → BitVec 8) (mac : Nat → BitVec 8) (gbl : Nat → BitVec 8) (gnu : Nat → BitVec 8) (ghs : Nat → BitVec 8) (gna : Nat → BitVec 8) (gto : Nat → BitVec 8) (gke : Nat → BitVec 8) (gow : Nat → BitVec 8) (gth : Nat → BitVec 8) (gck : Nat → BitVec 8) (ru : Nat → Nat) (le : Nat → Nat) (sd : Nat) (hsd : sd ≤ 1) (hru : ru sd = 2) (hns : ns ≤ 16) (hnum : qL gnu 2 = qNum (nI ct).toInt64 2) (sz : Nat) : CT ll yX10_make cX10_make 6 none ({ frames := 6, cells := 0, slots := 0, locals := 154 } : Room) D ta G [.ref h0, .int (nI sd), .int (nI 1)] [(h0, oM a ar mn tp osz lsz ns ct), (a 0, aK ta 64 tIP), (a 1, aK ta 48 tSPR), (a 2, aK ta 32 tMIX), (a 3, aK ta 56 tCH), (a 4, aK ta 48 tSEC), (a 5, aK ta 512 tSBX), (a 10, aB ta 64 bi), (a 11, aB ta 64 tu), (a 12, aB ta 56 cd), (a 13, aB ta 768 sk), (a 14, aB ta 32 hf), (a 15, aB ta 48 wd), (a 22, aS ta 700 gm), (a 24, aS ta 16 mac), (a 53, aS ta 16 gbl), (a 52, aS ta 3 gnu), (a 51, aS ta 8 ghs), (a 33, aS ta 16 gna), (a 38, aS ta 192 gto), (a 41, aS ta 256 gke), (a 42, aS ta 16 gow), (a 43, aS ta 16 gth), (a 44, aS ta 16 gck), (a 36, aK ta 2 ru), (a 37, aK ta 2 le)] sz (S := (Nat → Bool) × (Nat → Bool) × (Nat → Bool) × (Nat → Bool) × (Nat → Bool) × (Nat → Bool) × (Nat → BitVec 8) × (Nat → BitVec 8) × (Nat → BitVec 8) × (Nat → BitVec 8) × (Nat → BitVec 8) × (Nat → BitVec 8) × (Nat → BitVec 8) × Nat) (fun _ => none) (fun u => (seg u.2.2.2.2.2.2.2.2.2.1 (128 * sd) 16 = (skeyL (seg gto (96 * sd) 16) 386 ct)) ∧ (seg u.2.2.2.2.2.2.2.2.2.1 (128 * sd + 32) 16 = (skeyL (seg gto (96 * sd + 32) 16) 257 ct)) ∧ (seg u.2.2.2.2.2.2.2.2.2.1 (128 * sd + 64) 16 = skeyL (seg gto (96 * sd + 32) 16) 258 ct) ∧ (seg u.2.2.2.2.2.2.2.2.2.1 (128 * sd + 96) 16 = skeyL (seg gto (96 * sd + 64) 16) 385 ct) ∧ (∀ j, (j < 128 * sd ∨ 128 * sd + 128 ≤ j) → u.2.2.2.2.2.2.2.2.2.1 j = gke j) ∧ (seg u.2.2.2.2.2.2.2.2.2.2.2.2.1 (8 * sd) 6 = (retailL (skeyL (seg gto (96 * sd + 32) 16) 257 ct) (zeroL 8) (qL gna ns)).take 6) ∧ (∀ j, (j < 8 * sd ∨ 8 * sd + 6 ≤ j) → u.2.2.2.2.2.2.2.2.2.2.2.2.1 j = gck j) ∧ (seg u.2.2.2.2.2.2.2.2.2.2.1 (8 * sd) 8 = mac3L (skeyL (seg gto (96 * sd) 16) 386 ct) (qL ghs 8 ++ qL gnu 2 ++ seg u.2.2.2.2.2.2.2.2.2.2.2.2.1 (8 * sd) 6)) ∧ (∀ j, (j < 8 * sd ∨ 8 * sd + 8 ≤ j) → u.2.2.2.2.2.2.2.2.2.2.1 j = gow j) ∧ (seg u.2.2.2.2.2.2.2.2.2.2.2.1 (8 * sd) 8 = mac3L (skeyL (seg gto (96 * sd) 16) 386 ct) (qL gnu 2 ++ seg u.2.2.2.2.2.2.2.2.2.2.2.2.1 (8 * sd) 6 ++ qL ghs 8)) ∧ (∀ j, (j < 8 * sd ∨ 8 * sd + 8 ≤ j) → u.2.2.2.2.2.2.2.2.2.2.2.1 j = gth j)) (fun u => [(h0, oM a ar u.2.2.2.2.2.2.2.2.2.2.2.2.2 tp osz lsz ns ct), (a 0, aK ta 64 tIP), (a 1, aK ta 48 tSPR), (a 2, aK ta 32 tMIX), (a 3, aK ta 56 tCH), (a 4, aK ta 48 tSEC), (a 5, aK ta 512 tSBX), (a 10, aB ta 64 u.1), (a 11, aB ta 64 u.2.1), (a 12, aB ta 56 u.2.2.1), (a 13, aB ta 768 u.2.2.2.1), (a 14, aB ta 32 u.2.2.2.2.1), (a 15, aB ta 48 u.2.2.2.2.2.1), (a 22, aS ta 700 u.2.2.2.2.2.2.1), (a 24, aS ta 16 u.2.2.2.2.2.2.2.1), (a 53, aS ta 16 u.2.2.2.2.2.2.2.2.1), (a 52, aS ta 3 gnu), (a 51, aS ta 8 ghs), (a 33, aS ta 16 gna), (a 38, aS ta 192 gto), (a 41, aS ta 256 u.2.2.2.2.2.2.2.2.2.1), (a 42, aS ta 16 u.2.2.2.2.2.2.2.2.2.2.1), (a 43, aS ta 16 u.2.2.2.2.2.2.2.2.2.2.2.1), (a 44, aS ta 16 u.2.2.2.2.2.2.2.2.2.2.2.2.1), (a 36, aK ta 2 ru), (a 37, aK ta 2 le)]) 0 0 := by
  refine CT.of_v rfl (by decide) (Nat.le_of_ble_eq_true rfl) ?_
  intro pp ee ss mm below meth kc A Q hx hb hml hown hin hts hK hA hsz hG hret H locs hP hD hS ls hl
  have hl : lv_has ls 6 [(0, .ref h0), (1, .int (nI sd)), (2, .int (nI 1))] := hl
  refine lv_aload_n (pc := 0) hx hb dX10_make_0 rfl (lv_at hl 0 rfl) ?_
  refine va_get (pc := 1) (D := D) (ci := 8) (v := .ref (a 37)) (C := RX10) (T := TX10) (N := 57) hx hb hts iu10 hown hK hP 0 rfl rfl 37 (by decide) (hts _ tw_1082) (fun _ h9 => h9) rfl dX10_make_1 ?_
  refine lv_iload_n (pc := 4) hx hb dX10_make_4 rfl (lv_at hl 1 rfl) ?_
  refine q_iald (pc := 5) hx hb hK hP 25 0 rfl rfl (k := sd) (v := nI (le sd)) rfl (by omega) (by omega) rfl dX10_make_5 ?_
  refine lv_istore_n (pc := 6) (lv' := [(3, .int (nI (le sd))), (0, .ref h0), (1, .int (nI sd)), (2, .int (nI 1))]) hx hb dX10_make_6 rfl hl (by decide) rfl (fun ls hl => ?_)
  refine lv_sipush (pc := 7) (v := nI 128) hx hb dX10_make_7 (by decide +kernel) ?_
  refine lv_iload_n (pc := 10) hx hb dX10_make_10 rfl (lv_at hl 2 rfl) ?_
  refine lv_imul (pc := 11) hx hb dX10_make_11 ?_
  refine q_top (y := nI (128 * sd)) (pk_mul 128 sd) ?_
  refine lv_istore (pc := 12) (lv' := [(4, .int (nI (128 * sd))), (3, .int (nI (le sd))), (0, .ref h0), (1, .int (nI sd)), (2, .int (nI 1))]) hx hb dX10_make_12 hl (by decide) rfl (fun ls hl => ?_)
  refine lv_aload_n (pc := 14) hx hb dX10_make_14 rfl (lv_at hl 2 rfl) ?_
  refine va_get (pc := 15) (D := D) (ci := 8) (v := .ref (a 36)) (C := RX10) (T := TX10) (N := 57) hx hb hts iu10 hown hK hP 0 rfl rfl 36 (by decide) (hts _ tw_1081) (fun _ h9 => h9) rfl dX10_make_15 ?_
  refine lv_iload_n (pc := 18) hx hb dX10_make_18 rfl (lv_at hl 3 rfl) ?_
  refine q_iald (pc := 19) hx hb hK hP 24 0 rfl rfl (k := sd) (v := nI (ru sd)) rfl (by omega) (by omega) rfl dX10_make_19 ?_
  refine lv_iconst (pc := 20) (v := nI 2) hx hb dX10_make_20 (by decide +kernel) ?_
  refine lv_icmp_ne (pc := 21) (tgt := 174) hx hb dX10_make_21 (by decide) (fun c_1 => ?_) (fun c_1 => ?_)
  · skip
    rw [nI_eq (by omega) (by omega)] at c_1
    exfalso; omega
  · skip
    rw [nI_eq (by omega) (by omega)] at c_1
    refine lv_aload_n (pc := 24) hx hb dX10_make_24 rfl (lv_at hl 2 rfl) ?_
    refine lv_iload_n (pc := 25) hx hb dX10_make_25 rfl (lv_at hl 3 rfl) ?_
    refine lv_iconst (pc := 26) (v := nI 0) hx hb dX10_make_26 (by decide +kernel) ?_
    refine lv_sipush (pc := 27) (v := nI 130) hx hb dX10_make_27 (by decide +kernel) ?_
    refine lv_iconst (pc := 30) (v := nI 0) hx hb dX10_make_30 (by decide +kernel) ?_
    refine cs_V (pc := 31) (idx := 328) (n := 4) (wr := [(a 22, aS ta 700 gm), (a 24, aS ta 16 mac), (a 51, aS ta 8 ghs), (a 33, aS ta 16 gna), (a 42, aS ta 16 gow), (a 43, aS ta 16 gth), (a 44, aS ta 16 gck), (a 36, aK ta 2 ru), (a 37, aK ta 2 le)]) (As := [.int (nI sd), .int (nI 0), .int (nI 130), .int (nI 0)]) (rest := []) (ci := 8) hx hb hml hown hts hGok hK hA hG hl.1 hP hD hS (ct_X10_made ll D ta hGok h0 a ar mn tp osz lsz ns ct bi tu cd sk hf wd gbl gnu gto gke sd 0 130 0 (by first | assumption | omega | rfl | decide) (by first | assumption | omega | rfl | decide) (by first | assumption | omega | rfl | decide) (by first | assumption | omega | rfl | decide) (by first | assumption | omega | rfl | decide) H.size) tw_1286 tw_1283 tw_1285 tw_31 tw_75 hdX10_made rfl ⟨rfl, rfl, Nat.le_of_ble_eq_true rfl, Nat.le_of_ble_eq_true rfl, Nat.le_of_ble_eq_true rfl, Nat.le_of_ble_eq_true rfl⟩ rfl rfl (q0 := 0) rfl [0, 1, 2, 3, 4, 5, 6, 7, 8, 9, 10, 11, 12, 15, 16, 19, 20] [13, 14, 17, 18, 21, 22, 23, 24, 25] rfl rfl (by decide) rfl (Nat.le_of_ble_eq_true rfl) dX10_make_31 (fun u H locs hq hP hD hS => ?_)
    obtain ⟨bi1_31, tu1_31, cd1_31, sk1_31, hf1_31, wd1_31, gbl1_31, gke1_31⟩ := u
    have hq : (seg gke1_31 (128 * sd + 0) 16 = skeyL (seg gto (96 * sd + 32 * 0) 16) (256 + 130) ct) ∧ (∀ jz, (jz < 128 * sd + 0 ∨ 128 * sd + 0 + 16 ≤ jz) → gke1_31 jz = gke jz) := hq
    obtain ⟨hs_31, hfr_31⟩ := hq
    refine W.eq (g2 := F0 mm 34 ls []) rfl ?_
    have hP : va_P D vwCl [(a 22, aS ta 700 gm), (a 24, aS ta 16 mac), (a 51, aS ta 8 ghs), (a 33, aS ta 16 gna), (a 42, aS ta 16 gow), (a 43, aS ta 16 gth), (a 44, aS ta 16 gck), (a 36, aK ta 2 ru), (a 37, aK ta 2 le), (h0, oM a ar mn tp osz lsz ns ct), (a 0, aK ta 64 tIP), (a 1, aK ta 48 tSPR), (a 2, aK ta 32 tMIX), (a 3, aK ta 56 tCH), (a 4, aK ta 48 tSEC), (a 5, aK ta 512 tSBX), (a 10, aB ta 64 bi1_31), (a 11, aB ta 64 tu1_31), (a 12, aB ta 56 cd1_31), (a 13, aB ta 768 sk1_31), (a 14, aB ta 32 hf1_31), (a 15, aB ta 48 wd1_31), (a 53, aS ta 16 gbl1_31), (a 52, aS ta 3 gnu), (a 38, aS ta 192 gto), (a 41, aS ta 256 gke1_31)] H := hP
    have hD : va_D A [(a 22, aS ta 700 gm), (a 24, aS ta 16 mac), (a 51, aS ta 8 ghs), (a 33, aS ta 16 gna), (a 42, aS ta 16 gow), (a 43, aS ta 16 gth), (a 44, aS ta 16 gck), (a 36, aK ta 2 ru), (a 37, aK ta 2 le), (h0, oM a ar mn tp osz lsz ns ct), (a 0, aK ta 64 tIP), (a 1, aK ta 48 tSPR), (a 2, aK ta 32 tMIX), (a 3, aK ta 56 tCH), (a 4, aK ta 48 tSEC), (a 5, aK ta 512 tSBX), (a 10, aB ta 64 bi1_31), (a 11, aB ta 64 tu1_31), (a 12, aB ta 56 cd1_31), (a 13, aB ta 768 sk1_31), (a 14, aB ta 32 hf1_31), (a 15, aB ta 48 wd1_31), (a 53, aS ta 16 gbl1_31), (a 52, aS ta 3 gnu), (a 38, aS ta 192 gto), (a 41, aS ta 256 gke1_31)] := hD
    refine lv_aload_n (pc := 34) hx hb dX10_make_34 rfl (lv_at hl 2 rfl) ?_
    refine lv_iload_n (pc := 35) hx hb dX10_make_35 rfl (lv_at hl 3 rfl) ?_
    refine lv_iconst (pc := 36) (v := nI 1) hx hb dX10_make_36 (by decide +kernel) ?_
    refine lv_iconst (pc := 37) (v := nI 1) hx hb dX10_make_37 (by decide +kernel) ?_
    refine lv_bipush (pc := 38) (v := nI 32) hx hb dX10_make_38 (by decide +kernel) ?_
    refine cs_V (pc := 40) (idx := 328) (n := 4) (wr := [(a 22, aS ta 700 gm), (a 24, aS ta 16 mac), (a 51, aS ta 8 ghs), (a 33, aS ta 16 gna), (a 42, aS ta 16 gow), (a 43, aS ta 16 gth), (a 44, aS ta 16 gck), (a 36, aK ta 2 ru), (a 37, aK ta 2 le)]) (As := [.int (nI sd), .int (nI 1), .int (nI 1), .int (nI 32)]) (rest := []) (ci := 8) hx hb hml hown hts hGok hK hA hG hl.1 hP hD hS (ct_X10_made ll D ta hGok h0 a ar mn tp osz lsz ns ct bi1_31 tu1_31 cd1_31 sk1_31 hf1_31 wd1_31 gbl1_31 gnu gto gke1_31 sd 1 1 32 (by first | assumption | omega | rfl | decide) (by first | assumption | omega | rfl | decide) (by first | assumption | omega | rfl | decide) (by first | assumption | omega | rfl | decide) (by first | assumption | omega | rfl | decide) H.size) tw_1286 tw_1283 tw_1285 tw_31 tw_75 hdX10_made rfl ⟨rfl, rfl, Nat.le_of_ble_eq_true rfl, Nat.le_of_ble_eq_true rfl, Nat.le_of_ble_eq_true rfl, Nat.le_of_ble_eq_true rfl⟩ rfl rfl (q0 := 9) rfl [9, 10, 11, 12, 13, 14, 15, 16, 17, 18, 19, 20, 21, 22, 23, 24, 25] [0, 1, 2, 3, 4, 5, 6, 7, 8] rfl rfl (by decide) rfl (Nat.le_of_ble_eq_true rfl) dX10_make_40 (fun u H locs hq hP hD hS => ?_)
    obtain ⟨bi1_40, tu1_40, cd1_40, sk1_40, hf1_40, wd1_40, gbl1_40, gke1_40⟩ := u
    have hq : (seg gke1_40 (128 * sd + 32) 16 = skeyL (seg gto (96 * sd + 32 * 1) 16) (256 + 1) ct) ∧ (∀ jz, (jz < 128 * sd + 32 ∨ 128 * sd + 32 + 16 ≤ jz) → gke1_40 jz = gke1_31 jz) := hq
    obtain ⟨hs_40, hfr_40⟩ := hq
    refine W.eq (g2 := F0 mm 43 ls []) rfl ?_
    have hP : va_P D vwCl [(a 22, aS ta 700 gm), (a 24, aS ta 16 mac), (a 51, aS ta 8 ghs), (a 33, aS ta 16 gna), (a 42, aS ta 16 gow), (a 43, aS ta 16 gth), (a 44, aS ta 16 gck), (a 36, aK ta 2 ru), (a 37, aK ta 2 le), (h0, oM a ar mn tp osz lsz ns ct), (a 0, aK ta 64 tIP), (a 1, aK ta 48 tSPR), (a 2, aK ta 32 tMIX), (a 3, aK ta 56 tCH), (a 4, aK ta 48 tSEC), (a 5, aK ta 512 tSBX), (a 10, aB ta 64 bi1_40), (a 11, aB ta 64 tu1_40), (a 12, aB ta 56 cd1_40), (a 13, aB ta 768 sk1_40), (a 14, aB ta 32 hf1_40), (a 15, aB ta 48 wd1_40), (a 53, aS ta 16 gbl1_40), (a 52, aS ta 3 gnu), (a 38, aS ta 192 gto), (a 41, aS ta 256 gke1_40)] H := hP
    have hD : va_D A [(a 22, aS ta 700 gm), (a 24, aS ta 16 mac), (a 51, aS ta 8 ghs), (a 33, aS ta 16 gna), (a 42, aS ta 16 gow), (a 43, aS ta 16 gth), (a 44, aS ta 16 gck), (a 36, aK ta 2 ru), (a 37, aK ta 2 le), (h0, oM a ar mn tp osz lsz ns ct), (a 0, aK ta 64 tIP), (a 1, aK ta 48 tSPR), (a 2, aK ta 32 tMIX), (a 3, aK ta 56 tCH), (a 4, aK ta 48 tSEC), (a 5, aK ta 512 tSBX), (a 10, aB ta 64 bi1_40), (a 11, aB ta 64 tu1_40), (a 12, aB ta 56 cd1_40), (a 13, aB ta 768 sk1_40), (a 14, aB ta 32 hf1_40), (a 15, aB ta 48 wd1_40), (a 53, aS ta 16 gbl1_40), (a 52, aS ta 3 gnu), (a 38, aS ta 192 gto), (a 41, aS ta 256 gke1_40)] := hD
    refine lv_aload_n (pc := 43) hx hb dX10_make_43 rfl (lv_at hl 2 rfl) ?_
    refine lv_iload_n (pc := 44) hx hb dX10_make_44 rfl (lv_at hl 3 rfl) ?_
    refine lv_iconst (pc := 45) (v := nI 1) hx hb dX10_make_45 (by decide +kernel) ?_
    refine lv_iconst (pc := 46) (v := nI 2) hx hb dX10_make_46 (by decide +kernel) ?_
    refine lv_bipush (pc := 47) (v := nI 64) hx hb dX10_make_47 (by decide +kernel) ?_
    refine cs_V (pc := 49) (idx := 328) (n := 4) (wr := [(a 22, aS ta 700 gm), (a 24, aS ta 16 mac), (a 51, aS ta 8 ghs), (a 33, aS ta 16 gna), (a 42, aS ta 16 gow), (a 43, aS ta 16 gth), (a 44, aS ta 16 gck), (a 36, aK ta 2 ru), (a 37, aK ta 2 le)]) (As := [.int (nI sd), .int (nI 1), .int (nI 2), .int (nI 64)]) (rest := []) (ci := 8) hx hb hml hown hts hGok hK hA hG hl.1 hP hD hS (ct_X10_made ll D ta hGok h0 a ar mn tp osz lsz ns ct bi1_40 tu1_40 cd1_40 sk1_40 hf1_40 wd1_40 gbl1_40 gnu gto gke1_40 sd 1 2 64 (by first | assumption | omega | rfl | decide) (by first | assumption | omega | rfl | decide) (by first | assumption | omega | rfl | decide) (by first | assumption | omega | rfl | decide) (by first | assumption | omega | rfl | decide) H.size) tw_1286 tw_1283 tw_1285 tw_31 tw_75 hdX10_made rfl ⟨rfl, rfl, Nat.le_of_ble_eq_true rfl, Nat.le_of_ble_eq_true rfl, Nat.le_of_ble_eq_true rfl, Nat.le_of_ble_eq_true rfl⟩ rfl rfl (q0 := 9) rfl [9, 10, 11, 12, 13, 14, 15, 16, 17, 18, 19, 20, 21, 22, 23, 24, 25] [0, 1, 2, 3, 4, 5, 6, 7, 8] rfl rfl (by decide) rfl (Nat.le_of_ble_eq_true rfl) dX10_make_49 (fun u H locs hq hP hD hS => ?_)
    obtain ⟨bi1_49, tu1_49, cd1_49, sk1_49, hf1_49, wd1_49, gbl1_49, gke1_49⟩ := u
    have hq : (seg gke1_49 (128 * sd + 64) 16 = skeyL (seg gto (96 * sd + 32 * 1) 16) (256 + 2) ct) ∧ (∀ jz, (jz < 128 * sd + 64 ∨ 128 * sd + 64 + 16 ≤ jz) → gke1_49 jz = gke1_40 jz) := hq
    obtain ⟨hs_49, hfr_49⟩ := hq
    refine W.eq (g2 := F0 mm 52 ls []) rfl ?_
    have hP : va_P D vwCl [(a 22, aS ta 700 gm), (a 24, aS ta 16 mac), (a 51, aS ta 8 ghs), (a 33, aS ta 16 gna), (a 42, aS ta 16 gow), (a 43, aS ta 16 gth), (a 44, aS ta 16 gck), (a 36, aK ta 2 ru), (a 37, aK ta 2 le), (h0, oM a ar mn tp osz lsz ns ct), (a 0, aK ta 64 tIP), (a 1, aK ta 48 tSPR), (a 2, aK ta 32 tMIX), (a 3, aK ta 56 tCH), (a 4, aK ta 48 tSEC), (a 5, aK ta 512 tSBX), (a 10, aB ta 64 bi1_49), (a 11, aB ta 64 tu1_49), (a 12, aB ta 56 cd1_49), (a 13, aB ta 768 sk1_49), (a 14, aB ta 32 hf1_49), (a 15, aB ta 48 wd1_49), (a 53, aS ta 16 gbl1_49), (a 52, aS ta 3 gnu), (a 38, aS ta 192 gto), (a 41, aS ta 256 gke1_49)] H := hP
    have hD : va_D A [(a 22, aS ta 700 gm), (a 24, aS ta 16 mac), (a 51, aS ta 8 ghs), (a 33, aS ta 16 gna), (a 42, aS ta 16 gow), (a 43, aS ta 16 gth), (a 44, aS ta 16 gck), (a 36, aK ta 2 ru), (a 37, aK ta 2 le), (h0, oM a ar mn tp osz lsz ns ct), (a 0, aK ta 64 tIP), (a 1, aK ta 48 tSPR), (a 2, aK ta 32 tMIX), (a 3, aK ta 56 tCH), (a 4, aK ta 48 tSEC), (a 5, aK ta 512 tSBX), (a 10, aB ta 64 bi1_49), (a 11, aB ta 64 tu1_49), (a 12, aB ta 56 cd1_49), (a 13, aB ta 768 sk1_49), (a 14, aB ta 32 hf1_49), (a 15, aB ta 48 wd1_49), (a 53, aS ta 16 gbl1_49), (a 52, aS ta 3 gnu), (a 38, aS ta 192 gto), (a 41, aS ta 256 gke1_49)] := hD
    refine lv_aload_n (pc := 52) hx hb dX10_make_52 rfl (lv_at hl 2 rfl) ?_
    refine lv_iload_n (pc := 53) hx hb dX10_make_53 rfl (lv_at hl 3 rfl) ?_
    refine lv_iconst (pc := 54) (v := nI 2) hx hb dX10_make_54 (by decide +kernel) ?_
    refine lv_sipush (pc := 55) (v := nI 129) hx hb dX10_make_55 (by decide +kernel) ?_
    refine lv_bipush (pc := 58) (v := nI 96) hx hb dX10_make_58 (by decide +kernel) ?_
    refine cs_V (pc := 60) (idx := 328) (n := 4) (wr := [(a 22, aS ta 700 gm), (a 24, aS ta 16 mac), (a 51, aS ta 8 ghs), (a 33, aS ta 16 gna), (a 42, aS ta 16 gow), (a 43, aS ta 16 gth), (a 44, aS ta 16 gck), (a 36, aK ta 2 ru), (a 37, aK ta 2 le)]) (As := [.int (nI sd), .int (nI 2), .int (nI 129), .int (nI 96)]) (rest := []) (ci := 8) hx hb hml hown hts hGok hK hA hG hl.1 hP hD hS (ct_X10_made ll D ta hGok h0 a ar mn tp osz lsz ns ct bi1_49 tu1_49 cd1_49 sk1_49 hf1_49 wd1_49 gbl1_49 gnu gto gke1_49 sd 2 129 96 (by first | assumption | omega | rfl | decide) (by first | assumption | omega | rfl | decide) (by first | assumption | omega | rfl | decide) (by first | assumption | omega | rfl | decide) (by first | assumption | omega | rfl | decide) H.size) tw_1286 tw_1283 tw_1285 tw_31 tw_75 hdX10_made rfl ⟨rfl, rfl, Nat.le_of_ble_eq_true rfl, Nat.le_of_ble_eq_true rfl, Nat.le_of_ble_eq_true rfl, Nat.le_of_ble_eq_true rfl⟩ rfl rfl (q0 := 9) rfl [9, 10, 11, 12, 13, 14, 15, 16, 17, 18, 19, 20, 21, 22, 23, 24, 25] [0, 1, 2, 3, 4, 5, 6, 7, 8] rfl rfl (by decide) rfl (Nat.le_of_ble_eq_true rfl) dX10_make_60 (fun u H locs hq hP hD hS => ?_)
    obtain ⟨bi1_60, tu1_60, cd1_60, sk1_60, hf1_60, wd1_60, gbl1_60, gke1_60⟩ := u
    have hq : (seg gke1_60 (128 * sd + 96) 16 = skeyL (seg gto (96 * sd + 32 * 2) 16) (256 + 129) ct) ∧ (∀ jz, (jz < 128 * sd + 96 ∨ 128 * sd + 96 + 16 ≤ jz) → gke1_60 jz = gke1_49 jz) := hq
    obtain ⟨hs_60, hfr_60⟩ := hq
    refine W.eq (g2 := F0 mm 63 ls []) rfl ?_
    have hP : va_P D vwCl [(a 22, aS ta 700 gm), (a 24, aS ta 16 mac), (a 51, aS ta 8 ghs), (a 33, aS ta 16 gna), (a 42, aS ta 16 gow), (a 43, aS ta 16 gth), (a 44, aS ta 16 gck), (a 36, aK ta 2 ru), (a 37, aK ta 2 le), (h0, oM a ar mn tp osz lsz ns ct), (a 0, aK ta 64 tIP), (a 1, aK ta 48 tSPR), (a 2, aK ta 32 tMIX), (a 3, aK ta 56 tCH), (a 4, aK ta 48 tSEC), (a 5, aK ta 512 tSBX), (a 10, aB ta 64 bi1_60), (a 11, aB ta 64 tu1_60), (a 12, aB ta 56 cd1_60), (a 13, aB ta 768 sk1_60), (a 14, aB ta 32 hf1_60), (a 15, aB ta 48 wd1_60), (a 53, aS ta 16 gbl1_60), (a 52, aS ta 3 gnu), (a 38, aS ta 192 gto), (a 41, aS ta 256 gke1_60)] H := hP
    have hD : va_D A [(a 22, aS ta 700 gm), (a 24, aS ta 16 mac), (a 51, aS ta 8 ghs), (a 33, aS ta 16 gna), (a 42, aS ta 16 gow), (a 43, aS ta 16 gth), (a 44, aS ta 16 gck), (a 36, aK ta 2 ru), (a 37, aK ta 2 le), (h0, oM a ar mn tp osz lsz ns ct), (a 0, aK ta 64 tIP), (a 1, aK ta 48 tSPR), (a 2, aK ta 32 tMIX), (a 3, aK ta 56 tCH), (a 4, aK ta 48 tSEC), (a 5, aK ta 512 tSBX), (a 10, aB ta 64 bi1_60), (a 11, aB ta 64 tu1_60), (a 12, aB ta 56 cd1_60), (a 13, aB ta 768 sk1_60), (a 14, aB ta 32 hf1_60), (a 15, aB ta 48 wd1_60), (a 53, aS ta 16 gbl1_60), (a 52, aS ta 3 gnu), (a 38, aS ta 192 gto), (a 41, aS ta 256 gke1_60)] := hD
    refine lv_iconst (pc := 63) (v := nI 0) hx hb dX10_make_63 (by decide +kernel) ?_
    refine lv_istore (pc := 64) (lv' := [(5, .int (nI 0)), (4, .int (nI (128 * sd))), (3, .int (nI (le sd))), (0, .ref h0), (1, .int (nI sd)), (2, .int (nI 1))]) hx hb dX10_make_64 hl (by decide) rfl (fun ls hl => ?_)
    have LP66 : ∀ (nn66 : Nat) (k : Nat) (b' : Nat → BitVec 8), (k ≤ 8) → (qSeg b' gbl1_60 0 k ((fun _ => 0#8))) → (8 - k < nn66) → ∀ (H : Heap) (locs : List Loc), va_P D vwCl [(a 22, aS ta 700 gm), (a 24, aS ta 16 mac), (a 51, aS ta 8 ghs), (a 33, aS ta 16 gna), (a 42, aS ta 16 gow), (a 43, aS ta 16 gth), (a 44, aS ta 16 gck), (a 36, aK ta 2 ru), (a 37, aK ta 2 le), (h0, oM a ar mn tp osz lsz ns ct), (a 0, aK ta 64 tIP), (a 1, aK ta 48 tSPR), (a 2, aK ta 32 tMIX), (a 3, aK ta 56 tCH), (a 4, aK ta 48 tSEC), (a 5, aK ta 512 tSBX), (a 10, aB ta 64 bi1_60), (a 11, aB ta 64 tu1_60), (a 12, aB ta 56 cd1_60), (a 13, aB ta 768 sk1_60), (a 14, aB ta 32 hf1_60), (a 15, aB ta 48 wd1_60), (a 53, aS ta 16 b'), (a 52, aS ta 3 gnu), (a 38, aS ta 192 gto), (a 41, aS ta 256 gke1_60)] H → va_D A [(a 22, aS ta 700 gm), (a 24, aS ta 16 mac), (a 51, aS ta 8 ghs), (a 33, aS ta 16 gna), (a 42, aS ta 16 gow), (a 43, aS ta 16 gth), (a 44, aS ta 16 gck), (a 36, aK ta 2 ru), (a 37, aK ta 2 le), (h0, oM a ar mn tp osz lsz ns ct), (a 0, aK ta 64 tIP), (a 1, aK ta 48 tSPR), (a 2, aK ta 32 tMIX), (a 3, aK ta 56 tCH), (a 4, aK ta 48 tSEC), (a 5, aK ta 512 tSBX), (a 10, aB ta 64 bi1_60), (a 11, aB ta 64 tu1_60), (a 12, aB ta 56 cd1_60), (a 13, aB ta 768 sk1_60), (a 14, aB ta 32 hf1_60), (a 15, aB ta 48 wd1_60), (a 53, aS ta 16 b'), (a 52, aS ta 3 gnu), (a 38, aS ta 192 gto), (a 41, aS ta 256 gke1_60)] → va_S A ss.heap H locs → ∀ ls : Array Slot, lv_has ls 6 [(5, .int (nI k)), (4, .int (nI (128 * sd))), (3, .int (nI (le sd))), (0, .ref h0), (1, .int (nI sd)), (2, .int (nI 1))] → W pp ll ee ({ frames := 6, cells := 0, slots := 0, locals := 154 } : Room) ss mm (([.ref h0, .int (nI sd), .int (nI 1)] : List Value).toArray) below meth kc H locs 0 0 Q (F0 mm 66 ls []) := by
      intro nn66
      induction nn66 with
      | zero => intro k b' hkk hs hmu; exact absurd hmu (Nat.not_lt_zero _)
      | succ nn66 ih66 =>
        intro k b' hkk hs hmu66 H locs hP hD hS ls hl
        refine lv_iload (pc := 66) hx hb dX10_make_66 (lv_at hl 0 rfl) ?_
        refine lv_bipush (pc := 68) (v := nI 8) hx hb dX10_make_68 (by decide +kernel) ?_
        refine lv_icmp_ge (pc := 70) (tgt := 87) hx hb dX10_make_70 (by decide) (fun c_2 => ?_) (fun c_2 => ?_)
        · skip
          rw [nI_leI (by omega) (by omega)] at c_2
          refine lv_aload_n (pc := 87) hx hb dX10_make_87 rfl (lv_at hl 3 rfl) ?_
          refine cs_V (pc := 88) (idx := 114) (n := 0) (wr := [(a 22, aS ta 700 gm), (a 24, aS ta 16 mac), (a 51, aS ta 8 ghs), (a 33, aS ta 16 gna), (a 42, aS ta 16 gow), (a 43, aS ta 16 gth), (a 44, aS ta 16 gck), (a 36, aK ta 2 ru), (a 37, aK ta 2 le), (a 0, aK ta 64 tIP), (a 1, aK ta 48 tSPR), (a 2, aK ta 32 tMIX), (a 3, aK ta 56 tCH), (a 4, aK ta 48 tSEC), (a 5, aK ta 512 tSBX), (a 10, aB ta 64 bi1_60), (a 11, aB ta 64 tu1_60), (a 12, aB ta 56 cd1_60), (a 13, aB ta 768 sk1_60), (a 14, aB ta 32 hf1_60), (a 15, aB ta 48 wd1_60), (a 53, aS ta 16 b'), (a 52, aS ta 3 gnu), (a 38, aS ta 192 gto), (a 41, aS ta 256 gke1_60)]) (As := []) (rest := []) (ci := 8) hx hb hml hown hts hGok hK hA hG hl.1 hP hD hS (ct_X10_fresh ll D ta hGok h0 a ar mn tp osz lsz ns ct  H.size) tw_1302 tw_1299 tw_1301 tw_35 tw_75 hdX10_fresh rfl ⟨rfl, rfl, Nat.le_of_ble_eq_true rfl, Nat.le_of_ble_eq_true rfl, Nat.le_of_ble_eq_true rfl, Nat.le_of_ble_eq_true rfl⟩ rfl rfl (q0 := 9) rfl [9] [0, 1, 2, 3, 4, 5, 6, 7, 8, 10, 11, 12, 13, 14, 15, 16, 17, 18, 19, 20, 21, 22, 23, 24, 25] rfl rfl (by decide) rfl (Nat.le_of_ble_eq_true rfl) dX10_make_88 (fun u H locs hq hP hD hS => ?_)
          refine W.eq (g2 := F0 mm 91 ls []) rfl ?_
          have hP : va_P D vwCl [(a 22, aS ta 700 gm), (a 24, aS ta 16 mac), (a 51, aS ta 8 ghs), (a 33, aS ta 16 gna), (a 42, aS ta 16 gow), (a 43, aS ta 16 gth), (a 44, aS ta 16 gck), (a 36, aK ta 2 ru), (a 37, aK ta 2 le), (a 0, aK ta 64 tIP), (a 1, aK ta 48 tSPR), (a 2, aK ta 32 tMIX), (a 3, aK ta 56 tCH), (a 4, aK ta 48 tSEC), (a 5, aK ta 512 tSBX), (a 10, aB ta 64 bi1_60), (a 11, aB ta 64 tu1_60), (a 12, aB ta 56 cd1_60), (a 13, aB ta 768 sk1_60), (a 14, aB ta 32 hf1_60), (a 15, aB ta 48 wd1_60), (a 53, aS ta 16 b'), (a 52, aS ta 3 gnu), (a 38, aS ta 192 gto), (a 41, aS ta 256 gke1_60), (h0, oM a ar 0 tp osz lsz ns ct)] H := hP
          have hD : va_D A [(a 22, aS ta 700 gm), (a 24, aS ta 16 mac), (a 51, aS ta 8 ghs), (a 33, aS ta 16 gna), (a 42, aS ta 16 gow), (a 43, aS ta 16 gth), (a 44, aS ta 16 gck), (a 36, aK ta 2 ru), (a 37, aK ta 2 le), (a 0, aK ta 64 tIP), (a 1, aK ta 48 tSPR), (a 2, aK ta 32 tMIX), (a 3, aK ta 56 tCH), (a 4, aK ta 48 tSEC), (a 5, aK ta 512 tSBX), (a 10, aB ta 64 bi1_60), (a 11, aB ta 64 tu1_60), (a 12, aB ta 56 cd1_60), (a 13, aB ta 768 sk1_60), (a 14, aB ta 32 hf1_60), (a 15, aB ta 48 wd1_60), (a 53, aS ta 16 b'), (a 52, aS ta 3 gnu), (a 38, aS ta 192 gto), (a 41, aS ta 256 gke1_60), (h0, oM a ar 0 tp osz lsz ns ct)] := hD
          refine lv_aload_n (pc := 91) hx hb dX10_make_91 rfl (lv_at hl 3 rfl) ?_
          refine lv_aload_n (pc := 92) hx hb dX10_make_92 rfl (lv_at hl 3 rfl) ?_
          refine va_get (pc := 93) (D := D) (ci := 8) (v := .ref (a 33)) (C := RX10) (T := TX10) (N := 57) hx hb hts iu10 hown hK hP 25 rfl rfl 33 (by decide) (hts _ tw_1078) (fun _ h9 => h9) rfl dX10_make_93 ?_
          refine lv_iconst (pc := 96) (v := nI 0) hx hb dX10_make_96 (by decide +kernel) ?_
          refine lv_aload_n (pc := 97) hx hb dX10_make_97 rfl (lv_at hl 3 rfl) ?_
          refine va_get (pc := 98) (D := D) (ci := 8) (v := .int (nI ns)) (C := RX10) (T := TX10) (N := 57) hx hb hts iu10 hown hK hP 25 rfl rfl 34 (by decide) (hts _ tw_1079) (fun _ h9 => h9) rfl dX10_make_98 ?_
          refine cs_V (pc := 101) (idx := 121) (n := 3) (wr := [(a 24, aS ta 16 mac), (a 51, aS ta 8 ghs), (a 42, aS ta 16 gow), (a 43, aS ta 16 gth), (a 44, aS ta 16 gck), (a 36, aK ta 2 ru), (a 37, aK ta 2 le), (a 0, aK ta 64 tIP), (a 1, aK ta 48 tSPR), (a 2, aK ta 32 tMIX), (a 3, aK ta 56 tCH), (a 4, aK ta 48 tSEC), (a 5, aK ta 512 tSBX), (a 10, aB ta 64 bi1_60), (a 11, aB ta 64 tu1_60), (a 12, aB ta 56 cd1_60), (a 13, aB ta 768 sk1_60), (a 14, aB ta 32 hf1_60), (a 15, aB ta 48 wd1_60), (a 53, aS ta 16 b'), (a 52, aS ta 3 gnu), (a 38, aS ta 192 gto), (a 41, aS ta 256 gke1_60)]) (As := [.ref (a 33), .int (nI 0), .int (nI ns)]) (rest := []) (ci := 8) hx hb hml hown hts hGok hK hA hG hl.1 hP hD hS (ct_X10_addAll ll D ta hGok h0 a ar 0 tp osz lsz ns ct gm (a 33) 0 16 gna ns (by first | assumption | omega | rfl | decide) (by first | assumption | omega | rfl | decide) (by first | assumption | omega | rfl | decide) H.size) tw_1306 tw_1303 tw_1305 tw_36 tw_75 hdX10_addAll rfl ⟨rfl, rfl, Nat.le_of_ble_eq_true rfl, Nat.le_of_ble_eq_true rfl, Nat.le_of_ble_eq_true rfl, Nat.le_of_ble_eq_true rfl⟩ rfl rfl (q0 := 25) rfl [25, 0, 3] [1, 2, 4, 5, 6, 7, 8, 9, 10, 11, 12, 13, 14, 15, 16, 17, 18, 19, 20, 21, 22, 23, 24] rfl rfl (by decide) rfl (Nat.le_of_ble_eq_true rfl) dX10_make_101 (fun u H locs hq hP hD hS => ?_)
          generalize u = gm1_101 at hq hP hD ⊢
          have hq : (qL gm1_101 (0 + ns) = qL gm 0 ++ seg gna 0 ns) := hq
          have hL_101 := hq
          refine W.eq (g2 := F0 mm 104 ls []) rfl ?_
          have hP : va_P D vwCl [(a 24, aS ta 16 mac), (a 51, aS ta 8 ghs), (a 42, aS ta 16 gow), (a 43, aS ta 16 gth), (a 44, aS ta 16 gck), (a 36, aK ta 2 ru), (a 37, aK ta 2 le), (a 0, aK ta 64 tIP), (a 1, aK ta 48 tSPR), (a 2, aK ta 32 tMIX), (a 3, aK ta 56 tCH), (a 4, aK ta 48 tSEC), (a 5, aK ta 512 tSBX), (a 10, aB ta 64 bi1_60), (a 11, aB ta 64 tu1_60), (a 12, aB ta 56 cd1_60), (a 13, aB ta 768 sk1_60), (a 14, aB ta 32 hf1_60), (a 15, aB ta 48 wd1_60), (a 53, aS ta 16 b'), (a 52, aS ta 3 gnu), (a 38, aS ta 192 gto), (a 41, aS ta 256 gke1_60), (h0, oM a ar (0 + ns) tp osz lsz ns ct), (a 22, aS ta 700 gm1_101), (a 33, aS ta 16 gna)] H := hP
          have hD : va_D A [(a 24, aS ta 16 mac), (a 51, aS ta 8 ghs), (a 42, aS ta 16 gow), (a 43, aS ta 16 gth), (a 44, aS ta 16 gck), (a 36, aK ta 2 ru), (a 37, aK ta 2 le), (a 0, aK ta 64 tIP), (a 1, aK ta 48 tSPR), (a 2, aK ta 32 tMIX), (a 3, aK ta 56 tCH), (a 4, aK ta 48 tSEC), (a 5, aK ta 512 tSBX), (a 10, aB ta 64 bi1_60), (a 11, aB ta 64 tu1_60), (a 12, aB ta 56 cd1_60), (a 13, aB ta 768 sk1_60), (a 14, aB ta 32 hf1_60), (a 15, aB ta 48 wd1_60), (a 53, aS ta 16 b'), (a 52, aS ta 3 gnu), (a 38, aS ta 192 gto), (a 41, aS ta 256 gke1_60), (h0, oM a ar (0 + ns) tp osz lsz ns ct), (a 22, aS ta 700 gm1_101), (a 33, aS ta 16 gna)] := hD
          refine lv_iload_n (pc := 104) hx hb dX10_make_104 rfl (lv_at hl 5 rfl) ?_
          refine lv_if_eq (pc := 105) (tgt := 161) hx hb dX10_make_105 (by decide) (fun c_3 => absurd c_3 (by decide)) (fun _ => ?_)
          refine lv_aload_n (pc := 108) hx hb dX10_make_108 rfl (lv_at hl 3 rfl) ?_
          refine lv_aload_n (pc := 109) hx hb dX10_make_109 rfl (lv_at hl 3 rfl) ?_
          refine va_get (pc := 110) (D := D) (ci := 8) (v := .ref (a 41)) (C := RX10) (T := TX10) (N := 57) hx hb hts iu10 hown hK hP 23 rfl rfl 41 (by decide) (hts _ tw_1086) (fun _ h9 => h9) rfl dX10_make_110 ?_
          refine lv_iload (pc := 113) hx hb dX10_make_113 (lv_at hl 1 rfl) ?_
          refine lv_bipush (pc := 115) (v := nI 32) hx hb dX10_make_115 (by decide +kernel) ?_
          refine lv_iadd (pc := 117) hx hb dX10_make_117 ?_
          refine q_top (y := nI (128 * sd + 32)) (nI_add (128 * sd) 32) ?_
          refine lv_aload_n (pc := 118) hx hb dX10_make_118 rfl (lv_at hl 3 rfl) ?_
          refine va_get (pc := 119) (D := D) (ci := 8) (v := .ref (a 53)) (C := RX10) (T := TX10) (N := 57) hx hb hts iu10 hown hK hP 23 rfl rfl 53 (by decide) (hts _ tw_1098) (fun _ h9 => h9) rfl dX10_make_119 ?_
          refine lv_iconst (pc := 122) (v := nI 0) hx hb dX10_make_122 (by decide +kernel) ?_
          refine cs_V (pc := 123) (idx := 332) (n := 4) (wr := [(a 51, aS ta 8 ghs), (a 42, aS ta 16 gow), (a 43, aS ta 16 gth), (a 44, aS ta 16 gck), (a 36, aK ta 2 ru), (a 37, aK ta 2 le), (a 52, aS ta 3 gnu), (a 38, aS ta 192 gto), (a 33, aS ta 16 gna)]) (As := [.ref (a 41), .int (nI (128 * sd + 32)), .ref (a 53), .int (nI 0)]) (rest := []) (ci := 8) hx hb hml hown hts hGok hK hA hG hl.1 hP hD hS (ct_X10_retail ll D ta hGok h0 a ar (0 + ns) tp osz lsz ns ct gm1_101 mac (a 41) (128 * sd + 32) 256 gke1_60 (a 53) 0 16 b' bi1_60 tu1_60 cd1_60 sk1_60 hf1_60 wd1_60 (by first | assumption | omega | rfl | decide) (by first | assumption | omega | rfl | decide) (by first | assumption | omega | rfl | decide) (by first | assumption | omega | rfl | decide) (by first | assumption | omega | rfl | decide) H.size) tw_1314 tw_1311 tw_1313 tw_38 tw_75 hdX10_retail rfl ⟨rfl, rfl, Nat.le_of_ble_eq_true rfl, Nat.le_of_ble_eq_true rfl, Nat.le_of_ble_eq_true rfl, Nat.le_of_ble_eq_true rfl⟩ rfl rfl (q0 := 23) rfl [23, 24, 0, 7, 8, 9, 10, 11, 12, 13, 14, 15, 16, 17, 18, 22, 19] [1, 2, 3, 4, 5, 6, 20, 21, 25] rfl rfl (by decide) rfl (Nat.le_of_ble_eq_true rfl) dX10_make_123 (fun u H locs hq hP hD hS => ?_)
          obtain ⟨gm1_123, mn1_123, mac1_123, bi1_123, tu1_123, cd1_123, sk1_123, hf1_123, wd1_123⟩ := u
          have hq : (seg mac1_123 0 8 = retailL (seg gke1_60 (128 * sd + 32) 16) (seg b' 0 8) (qL gm1_101 (0 + ns))) := hq
          have hL_123 := hq
          refine W.eq (g2 := F0 mm 126 ls []) rfl ?_
          have hP : va_P D vwCl [(a 51, aS ta 8 ghs), (a 42, aS ta 16 gow), (a 43, aS ta 16 gth), (a 44, aS ta 16 gck), (a 36, aK ta 2 ru), (a 37, aK ta 2 le), (a 52, aS ta 3 gnu), (a 38, aS ta 192 gto), (a 33, aS ta 16 gna), (h0, oM a ar mn1_123 tp osz lsz ns ct), (a 22, aS ta 700 gm1_123), (a 24, aS ta 16 mac1_123), (a 0, aK ta 64 tIP), (a 1, aK ta 48 tSPR), (a 2, aK ta 32 tMIX), (a 3, aK ta 56 tCH), (a 4, aK ta 48 tSEC), (a 5, aK ta 512 tSBX), (a 10, aB ta 64 bi1_123), (a 11, aB ta 64 tu1_123), (a 12, aB ta 56 cd1_123), (a 13, aB ta 768 sk1_123), (a 14, aB ta 32 hf1_123), (a 15, aB ta 48 wd1_123), (a 41, aS ta 256 gke1_60), (a 53, aS ta 16 b')] H := hP
          have hD : va_D A [(a 51, aS ta 8 ghs), (a 42, aS ta 16 gow), (a 43, aS ta 16 gth), (a 44, aS ta 16 gck), (a 36, aK ta 2 ru), (a 37, aK ta 2 le), (a 52, aS ta 3 gnu), (a 38, aS ta 192 gto), (a 33, aS ta 16 gna), (h0, oM a ar mn1_123 tp osz lsz ns ct), (a 22, aS ta 700 gm1_123), (a 24, aS ta 16 mac1_123), (a 0, aK ta 64 tIP), (a 1, aK ta 48 tSPR), (a 2, aK ta 32 tMIX), (a 3, aK ta 56 tCH), (a 4, aK ta 48 tSEC), (a 5, aK ta 512 tSBX), (a 10, aB ta 64 bi1_123), (a 11, aB ta 64 tu1_123), (a 12, aB ta 56 cd1_123), (a 13, aB ta 768 sk1_123), (a 14, aB ta 32 hf1_123), (a 15, aB ta 48 wd1_123), (a 41, aS ta 256 gke1_60), (a 53, aS ta 16 b')] := hD
          refine lv_iconst (pc := 126) (v := nI 0) hx hb dX10_make_126 (by decide +kernel) ?_
          refine lv_istore (pc := 127) (lv' := [(5, .int (nI 0)), (4, .int (nI (128 * sd))), (3, .int (nI (le sd))), (0, .ref h0), (1, .int (nI sd)), (2, .int (nI 1))]) hx hb dX10_make_127 hl (by decide) rfl (fun ls hl => ?_)
          have LP129 : ∀ (nn129 : Nat) (k2 : Nat) (e' : Nat → BitVec 8), (k2 ≤ 6) → (qSeg e' gck (8 * sd) k2 mac1_123) → (6 - k2 < nn129) → ∀ (H : Heap) (locs : List Loc), va_P D vwCl [(a 51, aS ta 8 ghs), (a 42, aS ta 16 gow), (a 43, aS ta 16 gth), (a 44, aS ta 16 e'), (a 36, aK ta 2 ru), (a 37, aK ta 2 le), (a 52, aS ta 3 gnu), (a 38, aS ta 192 gto), (a 33, aS ta 16 gna), (h0, oM a ar mn1_123 tp osz lsz ns ct), (a 22, aS ta 700 gm1_123), (a 24, aS ta 16 mac1_123), (a 0, aK ta 64 tIP), (a 1, aK ta 48 tSPR), (a 2, aK ta 32 tMIX), (a 3, aK ta 56 tCH), (a 4, aK ta 48 tSEC), (a 5, aK ta 512 tSBX), (a 10, aB ta 64 bi1_123), (a 11, aB ta 64 tu1_123), (a 12, aB ta 56 cd1_123), (a 13, aB ta 768 sk1_123), (a 14, aB ta 32 hf1_123), (a 15, aB ta 48 wd1_123), (a 41, aS ta 256 gke1_60), (a 53, aS ta 16 b')] H → va_D A [(a 51, aS ta 8 ghs), (a 42, aS ta 16 gow), (a 43, aS ta 16 gth), (a 44, aS ta 16 e'), (a 36, aK ta 2 ru), (a 37, aK ta 2 le), (a 52, aS ta 3 gnu), (a 38, aS ta 192 gto), (a 33, aS ta 16 gna), (h0, oM a ar mn1_123 tp osz lsz ns ct), (a 22, aS ta 700 gm1_123), (a 24, aS ta 16 mac1_123), (a 0, aK ta 64 tIP), (a 1, aK ta 48 tSPR), (a 2, aK ta 32 tMIX), (a 3, aK ta 56 tCH), (a 4, aK ta 48 tSEC), (a 5, aK ta 512 tSBX), (a 10, aB ta 64 bi1_123), (a 11, aB ta 64 tu1_123), (a 12, aB ta 56 cd1_123), (a 13, aB ta 768 sk1_123), (a 14, aB ta 32 hf1_123), (a 15, aB ta 48 wd1_123), (a 41, aS ta 256 gke1_60), (a 53, aS ta 16 b')] → va_S A ss.heap H locs → ∀ ls : Array Slot, lv_has ls 6 [(5, .int (nI k2)), (4, .int (nI (128 * sd))), (3, .int (nI (le sd))), (0, .ref h0), (1, .int (nI sd)), (2, .int (nI 1))] → W pp ll ee ({ frames := 6, cells := 0, slots := 0, locals := 154 } : Room) ss mm (([.ref h0, .int (nI sd), .int (nI 1)] : List Value).toArray) below meth kc H locs 0 0 Q (F0 mm 129 ls []) := by
            intro nn129
            induction nn129 with
            | zero => intro k2 e' hkk2 hs2 hmu; exact absurd hmu (Nat.not_lt_zero _)
            | succ nn129 ih129 =>
              intro k2 e' hkk2 hs2 hmu129 H locs hP hD hS ls hl
              refine lv_iload (pc := 129) hx hb dX10_make_129 (lv_at hl 0 rfl) ?_
              refine lv_bipush (pc := 131) (v := nI 6) hx hb dX10_make_131 (by decide +kernel) ?_
              refine lv_icmp_ge (pc := 133) (tgt := 161) hx hb dX10_make_133 (by decide) (fun c_4 => ?_) (fun c_4 => ?_)
              · skip
                rw [nI_leI (by omega) (by omega)] at c_4
                refine lv_aload_n (pc := 161) hx hb dX10_make_161 rfl (lv_at hl 3 rfl) ?_
                refine lv_iload_n (pc := 162) hx hb dX10_make_162 rfl (lv_at hl 4 rfl) ?_
                refine lv_iconst (pc := 163) (v := nI 1) hx hb dX10_make_163 (by decide +kernel) ?_
                refine cs_V (pc := 164) (idx := 336) (n := 2) (wr := [(a 43, aS ta 16 gth), (a 36, aK ta 2 ru), (a 37, aK ta 2 le), (a 38, aS ta 192 gto), (a 33, aS ta 16 gna), (a 53, aS ta 16 b')]) (As := [.int (nI sd), .int (nI 1)]) (rest := []) (ci := 8) hx hb hml hown hts hGok hK hA hG hl.1 hP hD hS (ct_X10_proofOf_1 ll D ta hGok h0 a ar mn1_123 tp osz lsz ns ct bi1_123 tu1_123 cd1_123 sk1_123 hf1_123 wd1_123 gm1_123 mac1_123 ghs gnu e' gke1_60 gow sd (by first | assumption | omega | rfl | decide) H.size) tw_1322 tw_1319 tw_1321 tw_40 tw_75 hdX10_proofOf rfl ⟨rfl, rfl, Nat.le_of_ble_eq_true rfl, Nat.le_of_ble_eq_true rfl, Nat.le_of_ble_eq_true rfl, Nat.le_of_ble_eq_true rfl⟩ rfl rfl (q0 := 9) rfl [9, 12, 13, 14, 15, 16, 17, 18, 19, 20, 21, 22, 23, 10, 11, 0, 6, 3, 24, 1] [2, 4, 5, 7, 8, 25] rfl rfl (by decide) rfl (Nat.le_of_ble_eq_true rfl) dX10_make_164 (fun u H locs hq hP hD hS => ?_)
                obtain ⟨bi1_164, tu1_164, cd1_164, sk1_164, hf1_164, wd1_164, gm1_164, mac1_164, gpr1_164, mn1_164⟩ := u
                have hq : (seg gpr1_164 (8 * sd) 8 = mac3L (seg gke1_60 (128 * sd) 16) (qL ghs 8 ++ qL gnu 2 ++ seg e' (8 * sd) 6)) ∧ (∀ jz, (jz < 8 * sd ∨ 8 * sd + 8 ≤ jz) → gpr1_164 jz = gow jz) := hq
                obtain ⟨hs_164, hfr_164⟩ := hq
                refine W.eq (g2 := F0 mm 167 ls []) rfl ?_
                have hP : va_P D vwCl [(a 43, aS ta 16 gth), (a 36, aK ta 2 ru), (a 37, aK ta 2 le), (a 38, aS ta 192 gto), (a 33, aS ta 16 gna), (a 53, aS ta 16 b'), (h0, oM a ar mn1_164 tp osz lsz ns ct), (a 0, aK ta 64 tIP), (a 1, aK ta 48 tSPR), (a 2, aK ta 32 tMIX), (a 3, aK ta 56 tCH), (a 4, aK ta 48 tSEC), (a 5, aK ta 512 tSBX), (a 10, aB ta 64 bi1_164), (a 11, aB ta 64 tu1_164), (a 12, aB ta 56 cd1_164), (a 13, aB ta 768 sk1_164), (a 14, aB ta 32 hf1_164), (a 15, aB ta 48 wd1_164), (a 22, aS ta 700 gm1_164), (a 24, aS ta 16 mac1_164), (a 51, aS ta 8 ghs), (a 52, aS ta 3 gnu), (a 44, aS ta 16 e'), (a 41, aS ta 256 gke1_60), (a 42, aS ta 16 gpr1_164)] H := hP
                have hD : va_D A [(a 43, aS ta 16 gth), (a 36, aK ta 2 ru), (a 37, aK ta 2 le), (a 38, aS ta 192 gto), (a 33, aS ta 16 gna), (a 53, aS ta 16 b'), (h0, oM a ar mn1_164 tp osz lsz ns ct), (a 0, aK ta 64 tIP), (a 1, aK ta 48 tSPR), (a 2, aK ta 32 tMIX), (a 3, aK ta 56 tCH), (a 4, aK ta 48 tSEC), (a 5, aK ta 512 tSBX), (a 10, aB ta 64 bi1_164), (a 11, aB ta 64 tu1_164), (a 12, aB ta 56 cd1_164), (a 13, aB ta 768 sk1_164), (a 14, aB ta 32 hf1_164), (a 15, aB ta 48 wd1_164), (a 22, aS ta 700 gm1_164), (a 24, aS ta 16 mac1_164), (a 51, aS ta 8 ghs), (a 52, aS ta 3 gnu), (a 44, aS ta 16 e'), (a 41, aS ta 256 gke1_60), (a 42, aS ta 16 gpr1_164)] := hD
                refine lv_aload_n (pc := 167) hx hb dX10_make_167 rfl (lv_at hl 3 rfl) ?_
                refine lv_iload_n (pc := 168) hx hb dX10_make_168 rfl (lv_at hl 4 rfl) ?_
                refine lv_iconst (pc := 169) (v := nI 0) hx hb dX10_make_169 (by decide +kernel) ?_
                refine cs_V (pc := 170) (idx := 336) (n := 2) (wr := [(a 36, aK ta 2 ru), (a 37, aK ta 2 le), (a 38, aS ta 192 gto), (a 33, aS ta 16 gna), (a 53, aS ta 16 b'), (a 42, aS ta 16 gpr1_164)]) (As := [.int (nI sd), .int (nI 0)]) (rest := []) (ci := 8) hx hb hml hown hts hGok hK hA hG hl.1 hP hD hS (ct_X10_proofOf_0 ll D ta hGok h0 a ar mn1_164 tp osz lsz ns ct bi1_164 tu1_164 cd1_164 sk1_164 hf1_164 wd1_164 gm1_164 mac1_164 ghs gnu e' gke1_60 gth sd (by first | assumption | omega | rfl | decide) H.size) tw_1322 tw_1319 tw_1321 tw_40 tw_75 hdX10_proofOf rfl ⟨rfl, rfl, Nat.le_of_ble_eq_true rfl, Nat.le_of_ble_eq_true rfl, Nat.le_of_ble_eq_true rfl, Nat.le_of_ble_eq_true rfl⟩ rfl rfl (q0 := 6) rfl [6, 7, 8, 9, 10, 11, 12, 13, 14, 15, 16, 17, 18, 19, 20, 21, 22, 23, 24, 0] [1, 2, 3, 4, 5, 25] rfl rfl (by decide) rfl (Nat.le_of_ble_eq_true rfl) dX10_make_170 (fun u H locs hq hP hD hS => ?_)
                obtain ⟨bi1_170, tu1_170, cd1_170, sk1_170, hf1_170, wd1_170, gm1_170, mac1_170, gpr1_170, mn1_170⟩ := u
                have hq : (seg gpr1_170 (8 * sd) 8 = mac3L (seg gke1_60 (128 * sd) 16) (qL gnu 2 ++ seg e' (8 * sd) 6 ++ qL ghs 8)) ∧ (∀ jz, (jz < 8 * sd ∨ 8 * sd + 8 ≤ jz) → gpr1_170 jz = gth jz) := hq
                obtain ⟨hs_170, hfr_170⟩ := hq
                refine W.eq (g2 := F0 mm 173 ls []) rfl ?_
                have hP : va_P D vwCl [(a 36, aK ta 2 ru), (a 37, aK ta 2 le), (a 38, aS ta 192 gto), (a 33, aS ta 16 gna), (a 53, aS ta 16 b'), (a 42, aS ta 16 gpr1_164), (h0, oM a ar mn1_170 tp osz lsz ns ct), (a 0, aK ta 64 tIP), (a 1, aK ta 48 tSPR), (a 2, aK ta 32 tMIX), (a 3, aK ta 56 tCH), (a 4, aK ta 48 tSEC), (a 5, aK ta 512 tSBX), (a 10, aB ta 64 bi1_170), (a 11, aB ta 64 tu1_170), (a 12, aB ta 56 cd1_170), (a 13, aB ta 768 sk1_170), (a 14, aB ta 32 hf1_170), (a 15, aB ta 48 wd1_170), (a 22, aS ta 700 gm1_170), (a 24, aS ta 16 mac1_170), (a 51, aS ta 8 ghs), (a 52, aS ta 3 gnu), (a 44, aS ta 16 e'), (a 41, aS ta 256 gke1_60), (a 43, aS ta 16 gpr1_170)] H := hP
                have hD : va_D A [(a 36, aK ta 2 ru), (a 37, aK ta 2 le), (a 38, aS ta 192 gto), (a 33, aS ta 16 gna), (a 53, aS ta 16 b'), (a 42, aS ta 16 gpr1_164), (h0, oM a ar mn1_170 tp osz lsz ns ct), (a 0, aK ta 64 tIP), (a 1, aK ta 48 tSPR), (a 2, aK ta 32 tMIX), (a 3, aK ta 56 tCH), (a 4, aK ta 48 tSEC), (a 5, aK ta 512 tSBX), (a 10, aB ta 64 bi1_170), (a 11, aB ta 64 tu1_170), (a 12, aB ta 56 cd1_170), (a 13, aB ta 768 sk1_170), (a 14, aB ta 32 hf1_170), (a 15, aB ta 48 wd1_170), (a 22, aS ta 700 gm1_170), (a 24, aS ta 16 mac1_170), (a 51, aS ta 8 ghs), (a 52, aS ta 3 gnu), (a 44, aS ta 16 e'), (a 41, aS ta 256 gke1_60), (a 43, aS ta 16 gpr1_170)] := hD
                have hq_5 : (seg gke1_60 (128 * sd) 16 = (skeyL (seg gto (96 * sd) 16) 386 ct)) ∧ (seg gke1_60 (128 * sd + 32) 16 = (skeyL (seg gto (96 * sd + 32) 16) 257 ct)) ∧ (seg gke1_60 (128 * sd + 64) 16 = skeyL (seg gto (96 * sd + 32) 16) 258 ct) ∧ (seg gke1_60 (128 * sd + 96) 16 = skeyL (seg gto (96 * sd + 64) 16) 385 ct) ∧ (∀ j, (j < 128 * sd ∨ 128 * sd + 128 ≤ j) → gke1_60 j = gke j) ∧ (seg e' (8 * sd) 6 = (retailL (skeyL (seg gto (96 * sd + 32) 16) 257 ct) (zeroL 8) (qL gna ns)).take 6) ∧ (∀ j, (j < 8 * sd ∨ 8 * sd + 6 ≤ j) → e' j = gck j) ∧ (seg gpr1_164 (8 * sd) 8 = mac3L (skeyL (seg gto (96 * sd) 16) 386 ct) (qL ghs 8 ++ qL gnu 2 ++ seg e' (8 * sd) 6)) ∧ (∀ j, (j < 8 * sd ∨ 8 * sd + 8 ≤ j) → gpr1_164 j = gow j) ∧ (seg gpr1_170 (8 * sd) 8 = mac3L (skeyL (seg gto (96 * sd) 16) 386 ct) (qL gnu 2 ++ seg e' (8 * sd) 6 ++ qL ghs 8)) ∧ (∀ j, (j < 8 * sd ∨ 8 * sd + 8 ≤ j) → gpr1_170 j = gth j) := by
                  have hEE : seg gke1_60 (128 * sd) 16 = skeyL (seg gto (96 * sd) 16) 386 ct := (seg_keep (g' := gke1_60) (g := gke1_31) (o := 128 * sd) (n := 16) fun j hj => by rw [hfr_60 _ (by omega), hfr_49 _ (by omega), hfr_40 _ (by omega)]).trans hs_31
                  have hMM : seg gke1_60 (128 * sd + 32) 16 = skeyL (seg gto (96 * sd + 32) 16) 257 ct := (seg_keep (g' := gke1_60) (g := gke1_40) (o := 128 * sd + 32) (n := 16) fun j hj => by rw [hfr_60 _ (by omega), hfr_49 _ (by omega)]).trans hs_40
                  refine ⟨hEE, hMM, (seg_keep (g := gke1_49) fun j hj => by rw [hfr_60 _ (by omega)]).trans hs_49, hs_60, fun j hj => by rw [hfr_60 j (by omega), hfr_49 j (by omega), hfr_40 j (by omega), hfr_31 j (by omega)], ?_, fun j hj => hs2.2 j (by omega), hs_164.trans (by rw [hEE]), hfr_164, hs_170.trans (by rw [hEE]), hfr_170⟩
                  have h9 := hL_123
                  rw [hMM, zero_seg hs (show k = 8 by omega), hL_101, qL_0, List.nil_append, seg_0 (g := mac1_123), seg_0 (g := gna)] at h9
                  rw [seg_copy0 hs2 (by omega), ← h9, qL_take (by decide)]
                exact hret (⟨(bi1_170), (tu1_170), (cd1_170), (sk1_170), (hf1_170), (wd1_170), (gm1_170), (mac1_170), (b'), (gke1_60), (gpr1_164), (gpr1_170), (e'), (mn1_170)⟩ : (Nat → Bool) × (Nat → Bool) × (Nat → Bool) × (Nat → Bool) × (Nat → Bool) × (Nat → Bool) × (Nat → BitVec 8) × (Nat → BitVec 8) × (Nat → BitVec 8) × (Nat → BitVec 8) × (Nat → BitVec 8) × (Nat → BitVec 8) × (Nat → BitVec 8) × Nat) _ _ _ _ dX10_make_173 hq_5 (hP.sub [6, 7, 8, 9, 10, 11, 12, 13, 14, 15, 16, 17, 18, 19, 20, 4, 22, 21, 3, 2, 24, 5, 25, 23, 0, 1] rfl) (hD.sub [6, 7, 8, 9, 10, 11, 12, 13, 14, 15, 16, 17, 18, 19, 20, 4, 22, 21, 3, 2, 24, 5, 25, 23, 0, 1] (by decide) rfl) hS
              · skip
                rw [nI_leI (by omega) (by omega)] at c_4
                refine lv_aload_n (pc := 136) hx hb dX10_make_136 rfl (lv_at hl 3 rfl) ?_
                refine va_get (pc := 137) (D := D) (ci := 8) (v := .ref (a 44)) (C := RX10) (T := TX10) (N := 57) hx hb hts iu10 hown hK hP 9 rfl rfl 44 (by decide) (hts _ tw_1089) (fun _ h9 => h9) rfl dX10_make_137 ?_
                refine lv_bipush (pc := 140) (v := nI 8) hx hb dX10_make_140 (by decide +kernel) ?_
                refine lv_iload_n (pc := 142) hx hb dX10_make_142 rfl (lv_at hl 4 rfl) ?_
                refine lv_imul (pc := 143) hx hb dX10_make_143 ?_
                refine q_top (y := nI (8 * sd)) (pk_mul 8 sd) ?_
                refine lv_iload (pc := 144) hx hb dX10_make_144 (lv_at hl 0 rfl) ?_
                refine lv_iadd (pc := 146) hx hb dX10_make_146 ?_
                refine q_top (y := nI (8 * sd + k2)) (nI_add (8 * sd) k2) ?_
                refine lv_aload_n (pc := 147) hx hb dX10_make_147 rfl (lv_at hl 3 rfl) ?_
                refine va_get (pc := 148) (D := D) (ci := 8) (v := .ref (a 24)) (C := RX10) (T := TX10) (N := 57) hx hb hts iu10 hown hK hP 9 rfl rfl 24 (by decide) (hts _ tw_1069) (fun _ h9 => h9) rfl dX10_make_148 ?_
                refine lv_iload (pc := 151) hx hb dX10_make_151 (lv_at hl 0 rfl) ?_
                refine q_bald (pc := 153) hx hb hK hP 11 2 rfl rfl (k := k2) (v := qs (mac1_123 k2)) rfl (by omega) (by omega) rfl dX10_make_153 ?_
                refine q_bastS (pc := 154) hx hb hK hP hD hS 3 2 rfl rfl (k := 8 * sd + k2) rfl (by omega) (by omega) (b := mac1_123 k2) (qlo_qs _) dX10_make_154 (fun H locs hP hD hS => ?_)
                have hP : va_P D vwCl [(a 51, aS ta 8 ghs), (a 42, aS ta 16 gow), (a 43, aS ta 16 gth), (a 44, aS ta 16 (qU e' (8 * sd + k2) (mac1_123 k2))), (a 36, aK ta 2 ru), (a 37, aK ta 2 le), (a 52, aS ta 3 gnu), (a 38, aS ta 192 gto), (a 33, aS ta 16 gna), (h0, oM a ar mn1_123 tp osz lsz ns ct), (a 22, aS ta 700 gm1_123), (a 24, aS ta 16 mac1_123), (a 0, aK ta 64 tIP), (a 1, aK ta 48 tSPR), (a 2, aK ta 32 tMIX), (a 3, aK ta 56 tCH), (a 4, aK ta 48 tSEC), (a 5, aK ta 512 tSBX), (a 10, aB ta 64 bi1_123), (a 11, aB ta 64 tu1_123), (a 12, aB ta 56 cd1_123), (a 13, aB ta 768 sk1_123), (a 14, aB ta 32 hf1_123), (a 15, aB ta 48 wd1_123), (a 41, aS ta 256 gke1_60), (a 53, aS ta 16 b')] H := hP
                have hD : va_D A [(a 51, aS ta 8 ghs), (a 42, aS ta 16 gow), (a 43, aS ta 16 gth), (a 44, aS ta 16 (qU e' (8 * sd + k2) (mac1_123 k2))), (a 36, aK ta 2 ru), (a 37, aK ta 2 le), (a 52, aS ta 3 gnu), (a 38, aS ta 192 gto), (a 33, aS ta 16 gna), (h0, oM a ar mn1_123 tp osz lsz ns ct), (a 22, aS ta 700 gm1_123), (a 24, aS ta 16 mac1_123), (a 0, aK ta 64 tIP), (a 1, aK ta 48 tSPR), (a 2, aK ta 32 tMIX), (a 3, aK ta 56 tCH), (a 4, aK ta 48 tSEC), (a 5, aK ta 512 tSBX), (a 10, aB ta 64 bi1_123), (a 11, aB ta 64 tu1_123), (a 12, aB ta 56 cd1_123), (a 13, aB ta 768 sk1_123), (a 14, aB ta 32 hf1_123), (a 15, aB ta 48 wd1_123), (a 41, aS ta 256 gke1_60), (a 53, aS ta 16 b')] := hD
                refine lv_iinc (pc := 155) (v := nI (k2 + 1)) (lv' := [(5, .int (nI (k2 + 1))), (4, .int (nI (128 * sd))), (3, .int (nI (le sd))), (0, .ref h0), (1, .int (nI sd)), (2, .int (nI 1))]) hx hb dX10_make_155 hl (k := 0) rfl (by first | exact nI_add k2 1 | rfl) (by decide) rfl (fun ls hl => ?_)
                refine lv_goto (pc := 158) (tgt := 129) hx hb dX10_make_158 (by decide) ?_
                exact ih129 (k2 + 1) (qU e' (8 * sd + k2) (mac1_123 k2)) (by omega) (qSeg_s hs2 (by omega) (by first | rfl | (simp; done))) (by omega) _ _ (hP.sub [0, 1, 2, 3, 4, 5, 6, 7, 8, 9, 10, 11, 12, 13, 14, 15, 16, 17, 18, 19, 20, 21, 22, 23, 24, 25] rfl) (hD.sub [0, 1, 2, 3, 4, 5, 6, 7, 8, 9, 10, 11, 12, 13, 14, 15, 16, 17, 18, 19, 20, 21, 22, 23, 24, 25] (by decide) rfl) hS ls (lv_sub hl [0, 1, 2, 3, 4, 5] rfl)
          exact LP129 _ 0 gck (by omega) (qSeg_0) (Nat.lt_succ_self _) _ _ (hP.sub [0, 1, 2, 3, 4, 5, 6, 7, 8, 9, 10, 11, 12, 13, 14, 15, 16, 17, 18, 19, 20, 21, 22, 23, 24, 25] rfl) (hD.sub [0, 1, 2, 3, 4, 5, 6, 7, 8, 9, 10, 11, 12, 13, 14, 15, 16, 17, 18, 19, 20, 21, 22, 23, 24, 25] (by decide) rfl) hS ls (lv_sub hl [0, 1, 2, 3, 4, 5] rfl)
        · skip
          rw [nI_leI (by omega) (by omega)] at c_2
          refine lv_aload_n (pc := 73) hx hb dX10_make_73 rfl (lv_at hl 3 rfl) ?_
          refine va_get (pc := 74) (D := D) (ci := 8) (v := .ref (a 53)) (C := RX10) (T := TX10) (N := 57) hx hb hts iu10 hown hK hP 9 rfl rfl 53 (by decide) (hts _ tw_1098) (fun _ h9 => h9) rfl dX10_make_74 ?_
          refine lv_iload (pc := 77) hx hb dX10_make_77 (lv_at hl 0 rfl) ?_
          refine lv_iconst (pc := 79) (v := nI 0) hx hb dX10_make_79 (by decide +kernel) ?_
          refine q_bastS (pc := 80) hx hb hK hP hD hS 22 2 rfl rfl (k := k) rfl (by omega) (by omega) (b := BitVec.ofNat 8 0) (qlo_nI _) dX10_make_80 (fun H locs hP hD hS => ?_)
          have hP : va_P D vwCl [(a 22, aS ta 700 gm), (a 24, aS ta 16 mac), (a 51, aS ta 8 ghs), (a 33, aS ta 16 gna), (a 42, aS ta 16 gow), (a 43, aS ta 16 gth), (a 44, aS ta 16 gck), (a 36, aK ta 2 ru), (a 37, aK ta 2 le), (h0, oM a ar mn tp osz lsz ns ct), (a 0, aK ta 64 tIP), (a 1, aK ta 48 tSPR), (a 2, aK ta 32 tMIX), (a 3, aK ta 56 tCH), (a 4, aK ta 48 tSEC), (a 5, aK ta 512 tSBX), (a 10, aB ta 64 bi1_60), (a 11, aB ta 64 tu1_60), (a 12, aB ta 56 cd1_60), (a 13, aB ta 768 sk1_60), (a 14, aB ta 32 hf1_60), (a 15, aB ta 48 wd1_60), (a 53, aS ta 16 (qU b' k (BitVec.ofNat 8 0))), (a 52, aS ta 3 gnu), (a 38, aS ta 192 gto), (a 41, aS ta 256 gke1_60)] H := hP
          have hD : va_D A [(a 22, aS ta 700 gm), (a 24, aS ta 16 mac), (a 51, aS ta 8 ghs), (a 33, aS ta 16 gna), (a 42, aS ta 16 gow), (a 43, aS ta 16 gth), (a 44, aS ta 16 gck), (a 36, aK ta 2 ru), (a 37, aK ta 2 le), (h0, oM a ar mn tp osz lsz ns ct), (a 0, aK ta 64 tIP), (a 1, aK ta 48 tSPR), (a 2, aK ta 32 tMIX), (a 3, aK ta 56 tCH), (a 4, aK ta 48 tSEC), (a 5, aK ta 512 tSBX), (a 10, aB ta 64 bi1_60), (a 11, aB ta 64 tu1_60), (a 12, aB ta 56 cd1_60), (a 13, aB ta 768 sk1_60), (a 14, aB ta 32 hf1_60), (a 15, aB ta 48 wd1_60), (a 53, aS ta 16 (qU b' k (BitVec.ofNat 8 0))), (a 52, aS ta 3 gnu), (a 38, aS ta 192 gto), (a 41, aS ta 256 gke1_60)] := hD
          refine lv_iinc (pc := 81) (v := nI (k + 1)) (lv' := [(5, .int (nI (k + 1))), (4, .int (nI (128 * sd))), (3, .int (nI (le sd))), (0, .ref h0), (1, .int (nI sd)), (2, .int (nI 1))]) hx hb dX10_make_81 hl (k := 0) rfl (by first | exact nI_add k 1 | rfl) (by decide) rfl (fun ls hl => ?_)
          refine lv_goto (pc := 84) (tgt := 66) hx hb dX10_make_84 (by decide) ?_
          exact ih66 (k + 1) (qU b' k (BitVec.ofNat 8 0)) (by omega) (qSeg_s hs (by omega) (by first | rfl | (simp; done))) (by omega) _ _ (hP.sub [0, 1, 2, 3, 4, 5, 6, 7, 8, 9, 10, 11, 12, 13, 14, 15, 16, 17, 18, 19, 20, 21, 22, 23, 24, 25] rfl) (hD.sub [0, 1, 2, 3, 4, 5, 6, 7, 8, 9, 10, 11, 12, 13, 14, 15, 16, 17, 18, 19, 20, 21, 22, 23, 24, 25] (by decide) rfl) hS ls (lv_sub hl [0, 1, 2, 3, 4, 5] rfl)
    exact LP66 _ 0 gbl1_60 (by omega) (qSeg_0) (Nat.lt_succ_self _) _ _ (hP.sub [0, 1, 2, 3, 4, 5, 6, 7, 8, 9, 10, 11, 12, 13, 14, 15, 16, 17, 18, 19, 20, 21, 22, 23, 24, 25] rfl) (hD.sub [0, 1, 2, 3, 4, 5, 6, 7, 8, 9, 10, 11, 12, 13, 14, 15, 16, 17, 18, 19, 20, 21, 22, 23, 24, 25] (by decide) rfl) hS ls (lv_sub hl [0, 1, 2, 3, 4, 5] rfl)
set_option maxHeartbeats 4000000 in
set_option maxRecDepth 100000 in
theorem ct_X10_make_20 (ll : Launch) (D : va_G) (ta : Nat → ClassId) {G : (Nat → Prop) → State → Heap → Prop} (hGok : GOK G) (h0 : Nat) (a : Nat → Nat) (ar : Nat) (mn : Nat) (tp : Nat) (osz : Nat) (lsz : Nat) (ns : Nat) (ct : Nat) (bi : Nat → Bool) (tu : Nat → Bool) (cd : Nat → Bool) (sk : Nat → Bool) (hf : Nat → Bool) (wd : Nat → Bool) (gm : Nat → BitVec 8) (mac : Nat → BitVec 8) (gbl : Nat → BitVec 8) (gnu : Nat → BitVec 8) (ghs : Nat → BitVec 8) (gna : Nat → BitVec 8) (gto : Nat → BitVec 8) (gke : Nat → BitVec 8) (gow : Nat → BitVec 8) (gth : Nat → BitVec 8) (gck : Nat → BitVec 8) (ru : Nat → Nat) (le : Nat → Nat) (sd : Nat) (hsd : sd ≤ 1) (hru : ru sd = 2) (hns : ns ≤ 16) (hnum : qL gnu 2 = qNum (nI ct).toInt64 2) (sz : Nat) : CT ll yX10_make cX10_make 6 none ({ frames := 6, cells := 0, slots := 0, locals := 154 } : Room) D ta G [.ref h0, .int (nI sd), .int (nI 0)] [(h0, oM a ar mn tp osz lsz ns ct), (a 0, aK ta 64 tIP), (a 1, aK ta 48 tSPR), (a 2, aK ta 32 tMIX), (a 3, aK ta 56 tCH), (a 4, aK ta 48 tSEC), (a 5, aK ta 512 tSBX), (a 10, aB ta 64 bi), (a 11, aB ta 64 tu), (a 12, aB ta 56 cd), (a 13, aB ta 768 sk), (a 14, aB ta 32 hf), (a 15, aB ta 48 wd), (a 22, aS ta 700 gm), (a 24, aS ta 16 mac), (a 53, aS ta 16 gbl), (a 52, aS ta 3 gnu), (a 51, aS ta 8 ghs), (a 33, aS ta 16 gna), (a 38, aS ta 192 gto), (a 41, aS ta 256 gke), (a 42, aS ta 16 gow), (a 43, aS ta 16 gth), (a 44, aS ta 16 gck), (a 36, aK ta 2 ru), (a 37, aK ta 2 le)] sz (S := (Nat → Bool) × (Nat → Bool) × (Nat → Bool) × (Nat → Bool) × (Nat → Bool) × (Nat → Bool) × (Nat → BitVec 8) × (Nat → BitVec 8) × (Nat → BitVec 8) × (Nat → BitVec 8) × (Nat → BitVec 8) × (Nat → BitVec 8) × Nat) (fun _ => none) (fun u => (seg u.2.2.2.2.2.2.2.2.2.1 (128 * sd) 16 = (skeyL (seg gto (96 * sd) 16) 386 ct)) ∧ (seg u.2.2.2.2.2.2.2.2.2.1 (128 * sd + 32) 16 = (skeyL (seg gto (96 * sd + 32) 16) 257 ct)) ∧ (seg u.2.2.2.2.2.2.2.2.2.1 (128 * sd + 64) 16 = skeyL (seg gto (96 * sd + 32) 16) 258 ct) ∧ (seg u.2.2.2.2.2.2.2.2.2.1 (128 * sd + 96) 16 = skeyL (seg gto (96 * sd + 64) 16) 385 ct) ∧ (∀ j, (j < 128 * sd ∨ 128 * sd + 128 ≤ j) → u.2.2.2.2.2.2.2.2.2.1 j = gke j) ∧ (seg u.2.2.2.2.2.2.2.2.2.2.1 (8 * sd) 8 = mac3L (skeyL (seg gto (96 * sd) 16) 386 ct) (qL ghs 8 ++ qL gnu 2 ++ seg gck (8 * sd) 6)) ∧ (∀ j, (j < 8 * sd ∨ 8 * sd + 8 ≤ j) → u.2.2.2.2.2.2.2.2.2.2.1 j = gow j) ∧ (seg u.2.2.2.2.2.2.2.2.2.2.2.1 (8 * sd) 8 = mac3L (skeyL (seg gto (96 * sd) 16) 386 ct) (qL gnu 2 ++ seg gck (8 * sd) 6 ++ qL ghs 8)) ∧ (∀ j, (j < 8 * sd ∨ 8 * sd + 8 ≤ j) → u.2.2.2.2.2.2.2.2.2.2.2.1 j = gth j)) (fun u => [(h0, oM a ar u.2.2.2.2.2.2.2.2.2.2.2.2 tp osz lsz ns ct), (a 0, aK ta 64 tIP), (a 1, aK ta 48 tSPR), (a 2, aK ta 32 tMIX), (a 3, aK ta 56 tCH), (a 4, aK ta 48 tSEC), (a 5, aK ta 512 tSBX), (a 10, aB ta 64 u.1), (a 11, aB ta 64 u.2.1), (a 12, aB ta 56 u.2.2.1), (a 13, aB ta 768 u.2.2.2.1), (a 14, aB ta 32 u.2.2.2.2.1), (a 15, aB ta 48 u.2.2.2.2.2.1), (a 22, aS ta 700 u.2.2.2.2.2.2.1), (a 24, aS ta 16 u.2.2.2.2.2.2.2.1), (a 53, aS ta 16 u.2.2.2.2.2.2.2.2.1), (a 52, aS ta 3 gnu), (a 51, aS ta 8 ghs), (a 33, aS ta 16 gna), (a 38, aS ta 192 gto), (a 41, aS ta 256 u.2.2.2.2.2.2.2.2.2.1), (a 42, aS ta 16 u.2.2.2.2.2.2.2.2.2.2.1), (a 43, aS ta 16 u.2.2.2.2.2.2.2.2.2.2.2.1), (a 44, aS ta 16 gck), (a 36, aK ta 2 ru), (a 37, aK ta 2 le)]) 0 0 := by
  refine CT.of_v rfl (by decide) (Nat.le_of_ble_eq_true rfl) ?_
  intro pp ee ss mm below meth kc A Q hx hb hml hown hin hts hK hA hsz hG hret H locs hP hD hS ls hl
  have hl : lv_has ls 6 [(0, .ref h0), (1, .int (nI sd)), (2, .int (nI 0))] := hl
  refine lv_aload_n (pc := 0) hx hb dX10_make_0 rfl (lv_at hl 0 rfl) ?_
  refine va_get (pc := 1) (D := D) (ci := 8) (v := .ref (a 37)) (C := RX10) (T := TX10) (N := 57) hx hb hts iu10 hown hK hP 0 rfl rfl 37 (by decide) (hts _ tw_1082) (fun _ h9 => h9) rfl dX10_make_1 ?_
  refine lv_iload_n (pc := 4) hx hb dX10_make_4 rfl (lv_at hl 1 rfl) ?_
  refine q_iald (pc := 5) hx hb hK hP 25 0 rfl rfl (k := sd) (v := nI (le sd)) rfl (by omega) (by omega) rfl dX10_make_5 ?_
  refine lv_istore_n (pc := 6) (lv' := [(3, .int (nI (le sd))), (0, .ref h0), (1, .int (nI sd)), (2, .int (nI 0))]) hx hb dX10_make_6 rfl hl (by decide) rfl (fun ls hl => ?_)
  refine lv_sipush (pc := 7) (v := nI 128) hx hb dX10_make_7 (by decide +kernel) ?_
  refine lv_iload_n (pc := 10) hx hb dX10_make_10 rfl (lv_at hl 2 rfl) ?_
  refine lv_imul (pc := 11) hx hb dX10_make_11 ?_
  refine q_top (y := nI (128 * sd)) (pk_mul 128 sd) ?_
  refine lv_istore (pc := 12) (lv' := [(4, .int (nI (128 * sd))), (3, .int (nI (le sd))), (0, .ref h0), (1, .int (nI sd)), (2, .int (nI 0))]) hx hb dX10_make_12 hl (by decide) rfl (fun ls hl => ?_)
  refine lv_aload_n (pc := 14) hx hb dX10_make_14 rfl (lv_at hl 2 rfl) ?_
  refine va_get (pc := 15) (D := D) (ci := 8) (v := .ref (a 36)) (C := RX10) (T := TX10) (N := 57) hx hb hts iu10 hown hK hP 0 rfl rfl 36 (by decide) (hts _ tw_1081) (fun _ h9 => h9) rfl dX10_make_15 ?_
  refine lv_iload_n (pc := 18) hx hb dX10_make_18 rfl (lv_at hl 3 rfl) ?_
  refine q_iald (pc := 19) hx hb hK hP 24 0 rfl rfl (k := sd) (v := nI (ru sd)) rfl (by omega) (by omega) rfl dX10_make_19 ?_
  refine lv_iconst (pc := 20) (v := nI 2) hx hb dX10_make_20 (by decide +kernel) ?_
  refine lv_icmp_ne (pc := 21) (tgt := 174) hx hb dX10_make_21 (by decide) (fun c_1 => ?_) (fun c_1 => ?_)
  · skip
    rw [nI_eq (by omega) (by omega)] at c_1
    exfalso; omega
  · skip
    rw [nI_eq (by omega) (by omega)] at c_1
    refine lv_aload_n (pc := 24) hx hb dX10_make_24 rfl (lv_at hl 2 rfl) ?_
    refine lv_iload_n (pc := 25) hx hb dX10_make_25 rfl (lv_at hl 3 rfl) ?_
    refine lv_iconst (pc := 26) (v := nI 0) hx hb dX10_make_26 (by decide +kernel) ?_
    refine lv_sipush (pc := 27) (v := nI 130) hx hb dX10_make_27 (by decide +kernel) ?_
    refine lv_iconst (pc := 30) (v := nI 0) hx hb dX10_make_30 (by decide +kernel) ?_
    refine cs_V (pc := 31) (idx := 328) (n := 4) (wr := [(a 22, aS ta 700 gm), (a 24, aS ta 16 mac), (a 51, aS ta 8 ghs), (a 33, aS ta 16 gna), (a 42, aS ta 16 gow), (a 43, aS ta 16 gth), (a 44, aS ta 16 gck), (a 36, aK ta 2 ru), (a 37, aK ta 2 le)]) (As := [.int (nI sd), .int (nI 0), .int (nI 130), .int (nI 0)]) (rest := []) (ci := 8) hx hb hml hown hts hGok hK hA hG hl.1 hP hD hS (ct_X10_made ll D ta hGok h0 a ar mn tp osz lsz ns ct bi tu cd sk hf wd gbl gnu gto gke sd 0 130 0 (by first | assumption | omega | rfl | decide) (by first | assumption | omega | rfl | decide) (by first | assumption | omega | rfl | decide) (by first | assumption | omega | rfl | decide) (by first | assumption | omega | rfl | decide) H.size) tw_1286 tw_1283 tw_1285 tw_31 tw_75 hdX10_made rfl ⟨rfl, rfl, Nat.le_of_ble_eq_true rfl, Nat.le_of_ble_eq_true rfl, Nat.le_of_ble_eq_true rfl, Nat.le_of_ble_eq_true rfl⟩ rfl rfl (q0 := 0) rfl [0, 1, 2, 3, 4, 5, 6, 7, 8, 9, 10, 11, 12, 15, 16, 19, 20] [13, 14, 17, 18, 21, 22, 23, 24, 25] rfl rfl (by decide) rfl (Nat.le_of_ble_eq_true rfl) dX10_make_31 (fun u H locs hq hP hD hS => ?_)
    obtain ⟨bi1_31, tu1_31, cd1_31, sk1_31, hf1_31, wd1_31, gbl1_31, gke1_31⟩ := u
    have hq : (seg gke1_31 (128 * sd + 0) 16 = skeyL (seg gto (96 * sd + 32 * 0) 16) (256 + 130) ct) ∧ (∀ jz, (jz < 128 * sd + 0 ∨ 128 * sd + 0 + 16 ≤ jz) → gke1_31 jz = gke jz) := hq
    obtain ⟨hs_31, hfr_31⟩ := hq
    refine W.eq (g2 := F0 mm 34 ls []) rfl ?_
    have hP : va_P D vwCl [(a 22, aS ta 700 gm), (a 24, aS ta 16 mac), (a 51, aS ta 8 ghs), (a 33, aS ta 16 gna), (a 42, aS ta 16 gow), (a 43, aS ta 16 gth), (a 44, aS ta 16 gck), (a 36, aK ta 2 ru), (a 37, aK ta 2 le), (h0, oM a ar mn tp osz lsz ns ct), (a 0, aK ta 64 tIP), (a 1, aK ta 48 tSPR), (a 2, aK ta 32 tMIX), (a 3, aK ta 56 tCH), (a 4, aK ta 48 tSEC), (a 5, aK ta 512 tSBX), (a 10, aB ta 64 bi1_31), (a 11, aB ta 64 tu1_31), (a 12, aB ta 56 cd1_31), (a 13, aB ta 768 sk1_31), (a 14, aB ta 32 hf1_31), (a 15, aB ta 48 wd1_31), (a 53, aS ta 16 gbl1_31), (a 52, aS ta 3 gnu), (a 38, aS ta 192 gto), (a 41, aS ta 256 gke1_31)] H := hP
    have hD : va_D A [(a 22, aS ta 700 gm), (a 24, aS ta 16 mac), (a 51, aS ta 8 ghs), (a 33, aS ta 16 gna), (a 42, aS ta 16 gow), (a 43, aS ta 16 gth), (a 44, aS ta 16 gck), (a 36, aK ta 2 ru), (a 37, aK ta 2 le), (h0, oM a ar mn tp osz lsz ns ct), (a 0, aK ta 64 tIP), (a 1, aK ta 48 tSPR), (a 2, aK ta 32 tMIX), (a 3, aK ta 56 tCH), (a 4, aK ta 48 tSEC), (a 5, aK ta 512 tSBX), (a 10, aB ta 64 bi1_31), (a 11, aB ta 64 tu1_31), (a 12, aB ta 56 cd1_31), (a 13, aB ta 768 sk1_31), (a 14, aB ta 32 hf1_31), (a 15, aB ta 48 wd1_31), (a 53, aS ta 16 gbl1_31), (a 52, aS ta 3 gnu), (a 38, aS ta 192 gto), (a 41, aS ta 256 gke1_31)] := hD
    refine lv_aload_n (pc := 34) hx hb dX10_make_34 rfl (lv_at hl 2 rfl) ?_
    refine lv_iload_n (pc := 35) hx hb dX10_make_35 rfl (lv_at hl 3 rfl) ?_
    refine lv_iconst (pc := 36) (v := nI 1) hx hb dX10_make_36 (by decide +kernel) ?_
    refine lv_iconst (pc := 37) (v := nI 1) hx hb dX10_make_37 (by decide +kernel) ?_
    refine lv_bipush (pc := 38) (v := nI 32) hx hb dX10_make_38 (by decide +kernel) ?_
    refine cs_V (pc := 40) (idx := 328) (n := 4) (wr := [(a 22, aS ta 700 gm), (a 24, aS ta 16 mac), (a 51, aS ta 8 ghs), (a 33, aS ta 16 gna), (a 42, aS ta 16 gow), (a 43, aS ta 16 gth), (a 44, aS ta 16 gck), (a 36, aK ta 2 ru), (a 37, aK ta 2 le)]) (As := [.int (nI sd), .int (nI 1), .int (nI 1), .int (nI 32)]) (rest := []) (ci := 8) hx hb hml hown hts hGok hK hA hG hl.1 hP hD hS (ct_X10_made ll D ta hGok h0 a ar mn tp osz lsz ns ct bi1_31 tu1_31 cd1_31 sk1_31 hf1_31 wd1_31 gbl1_31 gnu gto gke1_31 sd 1 1 32 (by first | assumption | omega | rfl | decide) (by first | assumption | omega | rfl | decide) (by first | assumption | omega | rfl | decide) (by first | assumption | omega | rfl | decide) (by first | assumption | omega | rfl | decide) H.size) tw_1286 tw_1283 tw_1285 tw_31 tw_75 hdX10_made rfl ⟨rfl, rfl, Nat.le_of_ble_eq_true rfl, Nat.le_of_ble_eq_true rfl, Nat.le_of_ble_eq_true rfl, Nat.le_of_ble_eq_true rfl⟩ rfl rfl (q0 := 9) rfl [9, 10, 11, 12, 13, 14, 15, 16, 17, 18, 19, 20, 21, 22, 23, 24, 25] [0, 1, 2, 3, 4, 5, 6, 7, 8] rfl rfl (by decide) rfl (Nat.le_of_ble_eq_true rfl) dX10_make_40 (fun u H locs hq hP hD hS => ?_)
    obtain ⟨bi1_40, tu1_40, cd1_40, sk1_40, hf1_40, wd1_40, gbl1_40, gke1_40⟩ := u
    have hq : (seg gke1_40 (128 * sd + 32) 16 = skeyL (seg gto (96 * sd + 32 * 1) 16) (256 + 1) ct) ∧ (∀ jz, (jz < 128 * sd + 32 ∨ 128 * sd + 32 + 16 ≤ jz) → gke1_40 jz = gke1_31 jz) := hq
    obtain ⟨hs_40, hfr_40⟩ := hq
    refine W.eq (g2 := F0 mm 43 ls []) rfl ?_
    have hP : va_P D vwCl [(a 22, aS ta 700 gm), (a 24, aS ta 16 mac), (a 51, aS ta 8 ghs), (a 33, aS ta 16 gna), (a 42, aS ta 16 gow), (a 43, aS ta 16 gth), (a 44, aS ta 16 gck), (a 36, aK ta 2 ru), (a 37, aK ta 2 le), (h0, oM a ar mn tp osz lsz ns ct), (a 0, aK ta 64 tIP), (a 1, aK ta 48 tSPR), (a 2, aK ta 32 tMIX), (a 3, aK ta 56 tCH), (a 4, aK ta 48 tSEC), (a 5, aK ta 512 tSBX), (a 10, aB ta 64 bi1_40), (a 11, aB ta 64 tu1_40), (a 12, aB ta 56 cd1_40), (a 13, aB ta 768 sk1_40), (a 14, aB ta 32 hf1_40), (a 15, aB ta 48 wd1_40), (a 53, aS ta 16 gbl1_40), (a 52, aS ta 3 gnu), (a 38, aS ta 192 gto), (a 41, aS ta 256 gke1_40)] H := hP
    have hD : va_D A [(a 22, aS ta 700 gm), (a 24, aS ta 16 mac), (a 51, aS ta 8 ghs), (a 33, aS ta 16 gna), (a 42, aS ta 16 gow), (a 43, aS ta 16 gth), (a 44, aS ta 16 gck), (a 36, aK ta 2 ru), (a 37, aK ta 2 le), (h0, oM a ar mn tp osz lsz ns ct), (a 0, aK ta 64 tIP), (a 1, aK ta 48 tSPR), (a 2, aK ta 32 tMIX), (a 3, aK ta 56 tCH), (a 4, aK ta 48 tSEC), (a 5, aK ta 512 tSBX), (a 10, aB ta 64 bi1_40), (a 11, aB ta 64 tu1_40), (a 12, aB ta 56 cd1_40), (a 13, aB ta 768 sk1_40), (a 14, aB ta 32 hf1_40), (a 15, aB ta 48 wd1_40), (a 53, aS ta 16 gbl1_40), (a 52, aS ta 3 gnu), (a 38, aS ta 192 gto), (a 41, aS ta 256 gke1_40)] := hD
    refine lv_aload_n (pc := 43) hx hb dX10_make_43 rfl (lv_at hl 2 rfl) ?_
    refine lv_iload_n (pc := 44) hx hb dX10_make_44 rfl (lv_at hl 3 rfl) ?_
    refine lv_iconst (pc := 45) (v := nI 1) hx hb dX10_make_45 (by decide +kernel) ?_
    refine lv_iconst (pc := 46) (v := nI 2) hx hb dX10_make_46 (by decide +kernel) ?_
    refine lv_bipush (pc := 47) (v := nI 64) hx hb dX10_make_47 (by decide +kernel) ?_
    refine cs_V (pc := 49) (idx := 328) (n := 4) (wr := [(a 22, aS ta 700 gm), (a 24, aS ta 16 mac), (a 51, aS ta 8 ghs), (a 33, aS ta 16 gna), (a 42, aS ta 16 gow), (a 43, aS ta 16 gth), (a 44, aS ta 16 gck), (a 36, aK ta 2 ru), (a 37, aK ta 2 le)]) (As := [.int (nI sd), .int (nI 1), .int (nI 2), .int (nI 64)]) (rest := []) (ci := 8) hx hb hml hown hts hGok hK hA hG hl.1 hP hD hS (ct_X10_made ll D ta hGok h0 a ar mn tp osz lsz ns ct bi1_40 tu1_40 cd1_40 sk1_40 hf1_40 wd1_40 gbl1_40 gnu gto gke1_40 sd 1 2 64 (by first | assumption | omega | rfl | decide) (by first | assumption | omega | rfl | decide) (by first | assumption | omega | rfl | decide) (by first | assumption | omega | rfl | decide) (by first | assumption | omega | rfl | decide) H.size) tw_1286 tw_1283 tw_1285 tw_31 tw_75 hdX10_made rfl ⟨rfl, rfl, Nat.le_of_ble_eq_true rfl, Nat.le_of_ble_eq_true rfl, Nat.le_of_ble_eq_true rfl, Nat.le_of_ble_eq_true rfl⟩ rfl rfl (q0 := 9) rfl [9, 10, 11, 12, 13, 14, 15, 16, 17, 18, 19, 20, 21, 22, 23, 24, 25] [0, 1, 2, 3, 4, 5, 6, 7, 8] rfl rfl (by decide) rfl (Nat.le_of_ble_eq_true rfl) dX10_make_49 (fun u H locs hq hP hD hS => ?_)
    obtain ⟨bi1_49, tu1_49, cd1_49, sk1_49, hf1_49, wd1_49, gbl1_49, gke1_49⟩ := u
    have hq : (seg gke1_49 (128 * sd + 64) 16 = skeyL (seg gto (96 * sd + 32 * 1) 16) (256 + 2) ct) ∧ (∀ jz, (jz < 128 * sd + 64 ∨ 128 * sd + 64 + 16 ≤ jz) → gke1_49 jz = gke1_40 jz) := hq
    obtain ⟨hs_49, hfr_49⟩ := hq
    refine W.eq (g2 := F0 mm 52 ls []) rfl ?_
    have hP : va_P D vwCl [(a 22, aS ta 700 gm), (a 24, aS ta 16 mac), (a 51, aS ta 8 ghs), (a 33, aS ta 16 gna), (a 42, aS ta 16 gow), (a 43, aS ta 16 gth), (a 44, aS ta 16 gck), (a 36, aK ta 2 ru), (a 37, aK ta 2 le), (h0, oM a ar mn tp osz lsz ns ct), (a 0, aK ta 64 tIP), (a 1, aK ta 48 tSPR), (a 2, aK ta 32 tMIX), (a 3, aK ta 56 tCH), (a 4, aK ta 48 tSEC), (a 5, aK ta 512 tSBX), (a 10, aB ta 64 bi1_49), (a 11, aB ta 64 tu1_49), (a 12, aB ta 56 cd1_49), (a 13, aB ta 768 sk1_49), (a 14, aB ta 32 hf1_49), (a 15, aB ta 48 wd1_49), (a 53, aS ta 16 gbl1_49), (a 52, aS ta 3 gnu), (a 38, aS ta 192 gto), (a 41, aS ta 256 gke1_49)] H := hP
    have hD : va_D A [(a 22, aS ta 700 gm), (a 24, aS ta 16 mac), (a 51, aS ta 8 ghs), (a 33, aS ta 16 gna), (a 42, aS ta 16 gow), (a 43, aS ta 16 gth), (a 44, aS ta 16 gck), (a 36, aK ta 2 ru), (a 37, aK ta 2 le), (h0, oM a ar mn tp osz lsz ns ct), (a 0, aK ta 64 tIP), (a 1, aK ta 48 tSPR), (a 2, aK ta 32 tMIX), (a 3, aK ta 56 tCH), (a 4, aK ta 48 tSEC), (a 5, aK ta 512 tSBX), (a 10, aB ta 64 bi1_49), (a 11, aB ta 64 tu1_49), (a 12, aB ta 56 cd1_49), (a 13, aB ta 768 sk1_49), (a 14, aB ta 32 hf1_49), (a 15, aB ta 48 wd1_49), (a 53, aS ta 16 gbl1_49), (a 52, aS ta 3 gnu), (a 38, aS ta 192 gto), (a 41, aS ta 256 gke1_49)] := hD
    refine lv_aload_n (pc := 52) hx hb dX10_make_52 rfl (lv_at hl 2 rfl) ?_
    refine lv_iload_n (pc := 53) hx hb dX10_make_53 rfl (lv_at hl 3 rfl) ?_
    refine lv_iconst (pc := 54) (v := nI 2) hx hb dX10_make_54 (by decide +kernel) ?_
    refine lv_sipush (pc := 55) (v := nI 129) hx hb dX10_make_55 (by decide +kernel) ?_
    refine lv_bipush (pc := 58) (v := nI 96) hx hb dX10_make_58 (by decide +kernel) ?_
    refine cs_V (pc := 60) (idx := 328) (n := 4) (wr := [(a 22, aS ta 700 gm), (a 24, aS ta 16 mac), (a 51, aS ta 8 ghs), (a 33, aS ta 16 gna), (a 42, aS ta 16 gow), (a 43, aS ta 16 gth), (a 44, aS ta 16 gck), (a 36, aK ta 2 ru), (a 37, aK ta 2 le)]) (As := [.int (nI sd), .int (nI 2), .int (nI 129), .int (nI 96)]) (rest := []) (ci := 8) hx hb hml hown hts hGok hK hA hG hl.1 hP hD hS (ct_X10_made ll D ta hGok h0 a ar mn tp osz lsz ns ct bi1_49 tu1_49 cd1_49 sk1_49 hf1_49 wd1_49 gbl1_49 gnu gto gke1_49 sd 2 129 96 (by first | assumption | omega | rfl | decide) (by first | assumption | omega | rfl | decide) (by first | assumption | omega | rfl | decide) (by first | assumption | omega | rfl | decide) (by first | assumption | omega | rfl | decide) H.size) tw_1286 tw_1283 tw_1285 tw_31 tw_75 hdX10_made rfl ⟨rfl, rfl, Nat.le_of_ble_eq_true rfl, Nat.le_of_ble_eq_true rfl, Nat.le_of_ble_eq_true rfl, Nat.le_of_ble_eq_true rfl⟩ rfl rfl (q0 := 9) rfl [9, 10, 11, 12, 13, 14, 15, 16, 17, 18, 19, 20, 21, 22, 23, 24, 25] [0, 1, 2, 3, 4, 5, 6, 7, 8] rfl rfl (by decide) rfl (Nat.le_of_ble_eq_true rfl) dX10_make_60 (fun u H locs hq hP hD hS => ?_)
    obtain ⟨bi1_60, tu1_60, cd1_60, sk1_60, hf1_60, wd1_60, gbl1_60, gke1_60⟩ := u
    have hq : (seg gke1_60 (128 * sd + 96) 16 = skeyL (seg gto (96 * sd + 32 * 2) 16) (256 + 129) ct) ∧ (∀ jz, (jz < 128 * sd + 96 ∨ 128 * sd + 96 + 16 ≤ jz) → gke1_60 jz = gke1_49 jz) := hq
    obtain ⟨hs_60, hfr_60⟩ := hq
    refine W.eq (g2 := F0 mm 63 ls []) rfl ?_
    have hP : va_P D vwCl [(a 22, aS ta 700 gm), (a 24, aS ta 16 mac), (a 51, aS ta 8 ghs), (a 33, aS ta 16 gna), (a 42, aS ta 16 gow), (a 43, aS ta 16 gth), (a 44, aS ta 16 gck), (a 36, aK ta 2 ru), (a 37, aK ta 2 le), (h0, oM a ar mn tp osz lsz ns ct), (a 0, aK ta 64 tIP), (a 1, aK ta 48 tSPR), (a 2, aK ta 32 tMIX), (a 3, aK ta 56 tCH), (a 4, aK ta 48 tSEC), (a 5, aK ta 512 tSBX), (a 10, aB ta 64 bi1_60), (a 11, aB ta 64 tu1_60), (a 12, aB ta 56 cd1_60), (a 13, aB ta 768 sk1_60), (a 14, aB ta 32 hf1_60), (a 15, aB ta 48 wd1_60), (a 53, aS ta 16 gbl1_60), (a 52, aS ta 3 gnu), (a 38, aS ta 192 gto), (a 41, aS ta 256 gke1_60)] H := hP
    have hD : va_D A [(a 22, aS ta 700 gm), (a 24, aS ta 16 mac), (a 51, aS ta 8 ghs), (a 33, aS ta 16 gna), (a 42, aS ta 16 gow), (a 43, aS ta 16 gth), (a 44, aS ta 16 gck), (a 36, aK ta 2 ru), (a 37, aK ta 2 le), (h0, oM a ar mn tp osz lsz ns ct), (a 0, aK ta 64 tIP), (a 1, aK ta 48 tSPR), (a 2, aK ta 32 tMIX), (a 3, aK ta 56 tCH), (a 4, aK ta 48 tSEC), (a 5, aK ta 512 tSBX), (a 10, aB ta 64 bi1_60), (a 11, aB ta 64 tu1_60), (a 12, aB ta 56 cd1_60), (a 13, aB ta 768 sk1_60), (a 14, aB ta 32 hf1_60), (a 15, aB ta 48 wd1_60), (a 53, aS ta 16 gbl1_60), (a 52, aS ta 3 gnu), (a 38, aS ta 192 gto), (a 41, aS ta 256 gke1_60)] := hD
    refine lv_iconst (pc := 63) (v := nI 0) hx hb dX10_make_63 (by decide +kernel) ?_
    refine lv_istore (pc := 64) (lv' := [(5, .int (nI 0)), (4, .int (nI (128 * sd))), (3, .int (nI (le sd))), (0, .ref h0), (1, .int (nI sd)), (2, .int (nI 0))]) hx hb dX10_make_64 hl (by decide) rfl (fun ls hl => ?_)
    have LP66 : ∀ (nn66 : Nat) (k : Nat) (b' : Nat → BitVec 8), (k ≤ 8) → (qSeg b' gbl1_60 0 k ((fun _ => 0#8))) → (8 - k < nn66) → ∀ (H : Heap) (locs : List Loc), va_P D vwCl [(a 22, aS ta 700 gm), (a 24, aS ta 16 mac), (a 51, aS ta 8 ghs), (a 33, aS ta 16 gna), (a 42, aS ta 16 gow), (a 43, aS ta 16 gth), (a 44, aS ta 16 gck), (a 36, aK ta 2 ru), (a 37, aK ta 2 le), (h0, oM a ar mn tp osz lsz ns ct), (a 0, aK ta 64 tIP), (a 1, aK ta 48 tSPR), (a 2, aK ta 32 tMIX), (a 3, aK ta 56 tCH), (a 4, aK ta 48 tSEC), (a 5, aK ta 512 tSBX), (a 10, aB ta 64 bi1_60), (a 11, aB ta 64 tu1_60), (a 12, aB ta 56 cd1_60), (a 13, aB ta 768 sk1_60), (a 14, aB ta 32 hf1_60), (a 15, aB ta 48 wd1_60), (a 53, aS ta 16 b'), (a 52, aS ta 3 gnu), (a 38, aS ta 192 gto), (a 41, aS ta 256 gke1_60)] H → va_D A [(a 22, aS ta 700 gm), (a 24, aS ta 16 mac), (a 51, aS ta 8 ghs), (a 33, aS ta 16 gna), (a 42, aS ta 16 gow), (a 43, aS ta 16 gth), (a 44, aS ta 16 gck), (a 36, aK ta 2 ru), (a 37, aK ta 2 le), (h0, oM a ar mn tp osz lsz ns ct), (a 0, aK ta 64 tIP), (a 1, aK ta 48 tSPR), (a 2, aK ta 32 tMIX), (a 3, aK ta 56 tCH), (a 4, aK ta 48 tSEC), (a 5, aK ta 512 tSBX), (a 10, aB ta 64 bi1_60), (a 11, aB ta 64 tu1_60), (a 12, aB ta 56 cd1_60), (a 13, aB ta 768 sk1_60), (a 14, aB ta 32 hf1_60), (a 15, aB ta 48 wd1_60), (a 53, aS ta 16 b'), (a 52, aS ta 3 gnu), (a 38, aS ta 192 gto), (a 41, aS ta 256 gke1_60)] → va_S A ss.heap H locs → ∀ ls : Array Slot, lv_has ls 6 [(5, .int (nI k)), (4, .int (nI (128 * sd))), (3, .int (nI (le sd))), (0, .ref h0), (1, .int (nI sd)), (2, .int (nI 0))] → W pp ll ee ({ frames := 6, cells := 0, slots := 0, locals := 154 } : Room) ss mm (([.ref h0, .int (nI sd), .int (nI 0)] : List Value).toArray) below meth kc H locs 0 0 Q (F0 mm 66 ls []) := by
      intro nn66
      induction nn66 with
      | zero => intro k b' hkk hs hmu; exact absurd hmu (Nat.not_lt_zero _)
      | succ nn66 ih66 =>
        intro k b' hkk hs hmu66 H locs hP hD hS ls hl
        refine lv_iload (pc := 66) hx hb dX10_make_66 (lv_at hl 0 rfl) ?_
        refine lv_bipush (pc := 68) (v := nI 8) hx hb dX10_make_68 (by decide +kernel) ?_
        refine lv_icmp_ge (pc := 70) (tgt := 87) hx hb dX10_make_70 (by decide) (fun c_2 => ?_) (fun c_2 => ?_)
        · skip
          rw [nI_leI (by omega) (by omega)] at c_2
          refine lv_aload_n (pc := 87) hx hb dX10_make_87 rfl (lv_at hl 3 rfl) ?_
          refine cs_V (pc := 88) (idx := 114) (n := 0) (wr := [(a 22, aS ta 700 gm), (a 24, aS ta 16 mac), (a 51, aS ta 8 ghs), (a 33, aS ta 16 gna), (a 42, aS ta 16 gow), (a 43, aS ta 16 gth), (a 44, aS ta 16 gck), (a 36, aK ta 2 ru), (a 37, aK ta 2 le), (a 0, aK ta 64 tIP), (a 1, aK ta 48 tSPR), (a 2, aK ta 32 tMIX), (a 3, aK ta 56 tCH), (a 4, aK ta 48 tSEC), (a 5, aK ta 512 tSBX), (a 10, aB ta 64 bi1_60), (a 11, aB ta 64 tu1_60), (a 12, aB ta 56 cd1_60), (a 13, aB ta 768 sk1_60), (a 14, aB ta 32 hf1_60), (a 15, aB ta 48 wd1_60), (a 53, aS ta 16 b'), (a 52, aS ta 3 gnu), (a 38, aS ta 192 gto), (a 41, aS ta 256 gke1_60)]) (As := []) (rest := []) (ci := 8) hx hb hml hown hts hGok hK hA hG hl.1 hP hD hS (ct_X10_fresh ll D ta hGok h0 a ar mn tp osz lsz ns ct  H.size) tw_1302 tw_1299 tw_1301 tw_35 tw_75 hdX10_fresh rfl ⟨rfl, rfl, Nat.le_of_ble_eq_true rfl, Nat.le_of_ble_eq_true rfl, Nat.le_of_ble_eq_true rfl, Nat.le_of_ble_eq_true rfl⟩ rfl rfl (q0 := 9) rfl [9] [0, 1, 2, 3, 4, 5, 6, 7, 8, 10, 11, 12, 13, 14, 15, 16, 17, 18, 19, 20, 21, 22, 23, 24, 25] rfl rfl (by decide) rfl (Nat.le_of_ble_eq_true rfl) dX10_make_88 (fun u H locs hq hP hD hS => ?_)
          refine W.eq (g2 := F0 mm 91 ls []) rfl ?_
          have hP : va_P D vwCl [(a 22, aS ta 700 gm), (a 24, aS ta 16 mac), (a 51, aS ta 8 ghs), (a 33, aS ta 16 gna), (a 42, aS ta 16 gow), (a 43, aS ta 16 gth), (a 44, aS ta 16 gck), (a 36, aK ta 2 ru), (a 37, aK ta 2 le), (a 0, aK ta 64 tIP), (a 1, aK ta 48 tSPR), (a 2, aK ta 32 tMIX), (a 3, aK ta 56 tCH), (a 4, aK ta 48 tSEC), (a 5, aK ta 512 tSBX), (a 10, aB ta 64 bi1_60), (a 11, aB ta 64 tu1_60), (a 12, aB ta 56 cd1_60), (a 13, aB ta 768 sk1_60), (a 14, aB ta 32 hf1_60), (a 15, aB ta 48 wd1_60), (a 53, aS ta 16 b'), (a 52, aS ta 3 gnu), (a 38, aS ta 192 gto), (a 41, aS ta 256 gke1_60), (h0, oM a ar 0 tp osz lsz ns ct)] H := hP
          have hD : va_D A [(a 22, aS ta 700 gm), (a 24, aS ta 16 mac), (a 51, aS ta 8 ghs), (a 33, aS ta 16 gna), (a 42, aS ta 16 gow), (a 43, aS ta 16 gth), (a 44, aS ta 16 gck), (a 36, aK ta 2 ru), (a 37, aK ta 2 le), (a 0, aK ta 64 tIP), (a 1, aK ta 48 tSPR), (a 2, aK ta 32 tMIX), (a 3, aK ta 56 tCH), (a 4, aK ta 48 tSEC), (a 5, aK ta 512 tSBX), (a 10, aB ta 64 bi1_60), (a 11, aB ta 64 tu1_60), (a 12, aB ta 56 cd1_60), (a 13, aB ta 768 sk1_60), (a 14, aB ta 32 hf1_60), (a 15, aB ta 48 wd1_60), (a 53, aS ta 16 b'), (a 52, aS ta 3 gnu), (a 38, aS ta 192 gto), (a 41, aS ta 256 gke1_60), (h0, oM a ar 0 tp osz lsz ns ct)] := hD
          refine lv_aload_n (pc := 91) hx hb dX10_make_91 rfl (lv_at hl 3 rfl) ?_
          refine lv_aload_n (pc := 92) hx hb dX10_make_92 rfl (lv_at hl 3 rfl) ?_
          refine va_get (pc := 93) (D := D) (ci := 8) (v := .ref (a 33)) (C := RX10) (T := TX10) (N := 57) hx hb hts iu10 hown hK hP 25 rfl rfl 33 (by decide) (hts _ tw_1078) (fun _ h9 => h9) rfl dX10_make_93 ?_
          refine lv_iconst (pc := 96) (v := nI 0) hx hb dX10_make_96 (by decide +kernel) ?_
          refine lv_aload_n (pc := 97) hx hb dX10_make_97 rfl (lv_at hl 3 rfl) ?_
          refine va_get (pc := 98) (D := D) (ci := 8) (v := .int (nI ns)) (C := RX10) (T := TX10) (N := 57) hx hb hts iu10 hown hK hP 25 rfl rfl 34 (by decide) (hts _ tw_1079) (fun _ h9 => h9) rfl dX10_make_98 ?_
          refine cs_V (pc := 101) (idx := 121) (n := 3) (wr := [(a 24, aS ta 16 mac), (a 51, aS ta 8 ghs), (a 42, aS ta 16 gow), (a 43, aS ta 16 gth), (a 44, aS ta 16 gck), (a 36, aK ta 2 ru), (a 37, aK ta 2 le), (a 0, aK ta 64 tIP), (a 1, aK ta 48 tSPR), (a 2, aK ta 32 tMIX), (a 3, aK ta 56 tCH), (a 4, aK ta 48 tSEC), (a 5, aK ta 512 tSBX), (a 10, aB ta 64 bi1_60), (a 11, aB ta 64 tu1_60), (a 12, aB ta 56 cd1_60), (a 13, aB ta 768 sk1_60), (a 14, aB ta 32 hf1_60), (a 15, aB ta 48 wd1_60), (a 53, aS ta 16 b'), (a 52, aS ta 3 gnu), (a 38, aS ta 192 gto), (a 41, aS ta 256 gke1_60)]) (As := [.ref (a 33), .int (nI 0), .int (nI ns)]) (rest := []) (ci := 8) hx hb hml hown hts hGok hK hA hG hl.1 hP hD hS (ct_X10_addAll ll D ta hGok h0 a ar 0 tp osz lsz ns ct gm (a 33) 0 16 gna ns (by first | assumption | omega | rfl | decide) (by first | assumption | omega | rfl | decide) (by first | assumption | omega | rfl | decide) H.size) tw_1306 tw_1303 tw_1305 tw_36 tw_75 hdX10_addAll rfl ⟨rfl, rfl, Nat.le_of_ble_eq_true rfl, Nat.le_of_ble_eq_true rfl, Nat.le_of_ble_eq_true rfl, Nat.le_of_ble_eq_true rfl⟩ rfl rfl (q0 := 25) rfl [25, 0, 3] [1, 2, 4, 5, 6, 7, 8, 9, 10, 11, 12, 13, 14, 15, 16, 17, 18, 19, 20, 21, 22, 23, 24] rfl rfl (by decide) rfl (Nat.le_of_ble_eq_true rfl) dX10_make_101 (fun u H locs hq hP hD hS => ?_)
          generalize u = gm1_101 at hq hP hD ⊢
          have hq : (qL gm1_101 (0 + ns) = qL gm 0 ++ seg gna 0 ns) := hq
          have hL_101 := hq
          refine W.eq (g2 := F0 mm 104 ls []) rfl ?_
          have hP : va_P D vwCl [(a 24, aS ta 16 mac), (a 51, aS ta 8 ghs), (a 42, aS ta 16 gow), (a 43, aS ta 16 gth), (a 44, aS ta 16 gck), (a 36, aK ta 2 ru), (a 37, aK ta 2 le), (a 0, aK ta 64 tIP), (a 1, aK ta 48 tSPR), (a 2, aK ta 32 tMIX), (a 3, aK ta 56 tCH), (a 4, aK ta 48 tSEC), (a 5, aK ta 512 tSBX), (a 10, aB ta 64 bi1_60), (a 11, aB ta 64 tu1_60), (a 12, aB ta 56 cd1_60), (a 13, aB ta 768 sk1_60), (a 14, aB ta 32 hf1_60), (a 15, aB ta 48 wd1_60), (a 53, aS ta 16 b'), (a 52, aS ta 3 gnu), (a 38, aS ta 192 gto), (a 41, aS ta 256 gke1_60), (h0, oM a ar (0 + ns) tp osz lsz ns ct), (a 22, aS ta 700 gm1_101), (a 33, aS ta 16 gna)] H := hP
          have hD : va_D A [(a 24, aS ta 16 mac), (a 51, aS ta 8 ghs), (a 42, aS ta 16 gow), (a 43, aS ta 16 gth), (a 44, aS ta 16 gck), (a 36, aK ta 2 ru), (a 37, aK ta 2 le), (a 0, aK ta 64 tIP), (a 1, aK ta 48 tSPR), (a 2, aK ta 32 tMIX), (a 3, aK ta 56 tCH), (a 4, aK ta 48 tSEC), (a 5, aK ta 512 tSBX), (a 10, aB ta 64 bi1_60), (a 11, aB ta 64 tu1_60), (a 12, aB ta 56 cd1_60), (a 13, aB ta 768 sk1_60), (a 14, aB ta 32 hf1_60), (a 15, aB ta 48 wd1_60), (a 53, aS ta 16 b'), (a 52, aS ta 3 gnu), (a 38, aS ta 192 gto), (a 41, aS ta 256 gke1_60), (h0, oM a ar (0 + ns) tp osz lsz ns ct), (a 22, aS ta 700 gm1_101), (a 33, aS ta 16 gna)] := hD
          refine lv_iload_n (pc := 104) hx hb dX10_make_104 rfl (lv_at hl 5 rfl) ?_
          refine lv_if_eq (pc := 105) (tgt := 161) hx hb dX10_make_105 (by decide) (fun _ => ?_) (fun c_3 => absurd (by decide) c_3)
          refine lv_aload_n (pc := 161) hx hb dX10_make_161 rfl (lv_at hl 3 rfl) ?_
          refine lv_iload_n (pc := 162) hx hb dX10_make_162 rfl (lv_at hl 4 rfl) ?_
          refine lv_iconst (pc := 163) (v := nI 1) hx hb dX10_make_163 (by decide +kernel) ?_
          refine cs_V (pc := 164) (idx := 336) (n := 2) (wr := [(a 43, aS ta 16 gth), (a 36, aK ta 2 ru), (a 37, aK ta 2 le), (a 53, aS ta 16 b'), (a 38, aS ta 192 gto), (a 33, aS ta 16 gna)]) (As := [.int (nI sd), .int (nI 1)]) (rest := []) (ci := 8) hx hb hml hown hts hGok hK hA hG hl.1 hP hD hS (ct_X10_proofOf_1 ll D ta hGok h0 a ar (0 + ns) tp osz lsz ns ct bi1_60 tu1_60 cd1_60 sk1_60 hf1_60 wd1_60 gm1_101 mac ghs gnu gck gke1_60 gow sd (by first | assumption | omega | rfl | decide) H.size) tw_1322 tw_1319 tw_1321 tw_40 tw_75 hdX10_proofOf rfl ⟨rfl, rfl, Nat.le_of_ble_eq_true rfl, Nat.le_of_ble_eq_true rfl, Nat.le_of_ble_eq_true rfl, Nat.le_of_ble_eq_true rfl⟩ rfl rfl (q0 := 23) rfl [23, 7, 8, 9, 10, 11, 12, 13, 14, 15, 16, 17, 18, 24, 0, 1, 20, 4, 22, 2] [3, 5, 6, 19, 21, 25] rfl rfl (by decide) rfl (Nat.le_of_ble_eq_true rfl) dX10_make_164 (fun u H locs hq hP hD hS => ?_)
          obtain ⟨bi1_164, tu1_164, cd1_164, sk1_164, hf1_164, wd1_164, gm1_164, mac1_164, gpr1_164, mn1_164⟩ := u
          have hq : (seg gpr1_164 (8 * sd) 8 = mac3L (seg gke1_60 (128 * sd) 16) (qL ghs 8 ++ qL gnu 2 ++ seg gck (8 * sd) 6)) ∧ (∀ jz, (jz < 8 * sd ∨ 8 * sd + 8 ≤ jz) → gpr1_164 jz = gow jz) := hq
          obtain ⟨hs_164, hfr_164⟩ := hq
          refine W.eq (g2 := F0 mm 167 ls []) rfl ?_
          have hP : va_P D vwCl [(a 43, aS ta 16 gth), (a 36, aK ta 2 ru), (a 37, aK ta 2 le), (a 53, aS ta 16 b'), (a 38, aS ta 192 gto), (a 33, aS ta 16 gna), (h0, oM a ar mn1_164 tp osz lsz ns ct), (a 0, aK ta 64 tIP), (a 1, aK ta 48 tSPR), (a 2, aK ta 32 tMIX), (a 3, aK ta 56 tCH), (a 4, aK ta 48 tSEC), (a 5, aK ta 512 tSBX), (a 10, aB ta 64 bi1_164), (a 11, aB ta 64 tu1_164), (a 12, aB ta 56 cd1_164), (a 13, aB ta 768 sk1_164), (a 14, aB ta 32 hf1_164), (a 15, aB ta 48 wd1_164), (a 22, aS ta 700 gm1_164), (a 24, aS ta 16 mac1_164), (a 51, aS ta 8 ghs), (a 52, aS ta 3 gnu), (a 44, aS ta 16 gck), (a 41, aS ta 256 gke1_60), (a 42, aS ta 16 gpr1_164)] H := hP
          have hD : va_D A [(a 43, aS ta 16 gth), (a 36, aK ta 2 ru), (a 37, aK ta 2 le), (a 53, aS ta 16 b'), (a 38, aS ta 192 gto), (a 33, aS ta 16 gna), (h0, oM a ar mn1_164 tp osz lsz ns ct), (a 0, aK ta 64 tIP), (a 1, aK ta 48 tSPR), (a 2, aK ta 32 tMIX), (a 3, aK ta 56 tCH), (a 4, aK ta 48 tSEC), (a 5, aK ta 512 tSBX), (a 10, aB ta 64 bi1_164), (a 11, aB ta 64 tu1_164), (a 12, aB ta 56 cd1_164), (a 13, aB ta 768 sk1_164), (a 14, aB ta 32 hf1_164), (a 15, aB ta 48 wd1_164), (a 22, aS ta 700 gm1_164), (a 24, aS ta 16 mac1_164), (a 51, aS ta 8 ghs), (a 52, aS ta 3 gnu), (a 44, aS ta 16 gck), (a 41, aS ta 256 gke1_60), (a 42, aS ta 16 gpr1_164)] := hD
          refine lv_aload_n (pc := 167) hx hb dX10_make_167 rfl (lv_at hl 3 rfl) ?_
          refine lv_iload_n (pc := 168) hx hb dX10_make_168 rfl (lv_at hl 4 rfl) ?_
          refine lv_iconst (pc := 169) (v := nI 0) hx hb dX10_make_169 (by decide +kernel) ?_
          refine cs_V (pc := 170) (idx := 336) (n := 2) (wr := [(a 36, aK ta 2 ru), (a 37, aK ta 2 le), (a 53, aS ta 16 b'), (a 38, aS ta 192 gto), (a 33, aS ta 16 gna), (a 42, aS ta 16 gpr1_164)]) (As := [.int (nI sd), .int (nI 0)]) (rest := []) (ci := 8) hx hb hml hown hts hGok hK hA hG hl.1 hP hD hS (ct_X10_proofOf_0 ll D ta hGok h0 a ar mn1_164 tp osz lsz ns ct bi1_164 tu1_164 cd1_164 sk1_164 hf1_164 wd1_164 gm1_164 mac1_164 ghs gnu gck gke1_60 gth sd (by first | assumption | omega | rfl | decide) H.size) tw_1322 tw_1319 tw_1321 tw_40 tw_75 hdX10_proofOf rfl ⟨rfl, rfl, Nat.le_of_ble_eq_true rfl, Nat.le_of_ble_eq_true rfl, Nat.le_of_ble_eq_true rfl, Nat.le_of_ble_eq_true rfl⟩ rfl rfl (q0 := 6) rfl [6, 7, 8, 9, 10, 11, 12, 13, 14, 15, 16, 17, 18, 19, 20, 21, 22, 23, 24, 0] [1, 2, 3, 4, 5, 25] rfl rfl (by decide) rfl (Nat.le_of_ble_eq_true rfl) dX10_make_170 (fun u H locs hq hP hD hS => ?_)
          obtain ⟨bi1_170, tu1_170, cd1_170, sk1_170, hf1_170, wd1_170, gm1_170, mac1_170, gpr1_170, mn1_170⟩ := u
          have hq : (seg gpr1_170 (8 * sd) 8 = mac3L (seg gke1_60 (128 * sd) 16) (qL gnu 2 ++ seg gck (8 * sd) 6 ++ qL ghs 8)) ∧ (∀ jz, (jz < 8 * sd ∨ 8 * sd + 8 ≤ jz) → gpr1_170 jz = gth jz) := hq
          obtain ⟨hs_170, hfr_170⟩ := hq
          refine W.eq (g2 := F0 mm 173 ls []) rfl ?_
          have hP : va_P D vwCl [(a 36, aK ta 2 ru), (a 37, aK ta 2 le), (a 53, aS ta 16 b'), (a 38, aS ta 192 gto), (a 33, aS ta 16 gna), (a 42, aS ta 16 gpr1_164), (h0, oM a ar mn1_170 tp osz lsz ns ct), (a 0, aK ta 64 tIP), (a 1, aK ta 48 tSPR), (a 2, aK ta 32 tMIX), (a 3, aK ta 56 tCH), (a 4, aK ta 48 tSEC), (a 5, aK ta 512 tSBX), (a 10, aB ta 64 bi1_170), (a 11, aB ta 64 tu1_170), (a 12, aB ta 56 cd1_170), (a 13, aB ta 768 sk1_170), (a 14, aB ta 32 hf1_170), (a 15, aB ta 48 wd1_170), (a 22, aS ta 700 gm1_170), (a 24, aS ta 16 mac1_170), (a 51, aS ta 8 ghs), (a 52, aS ta 3 gnu), (a 44, aS ta 16 gck), (a 41, aS ta 256 gke1_60), (a 43, aS ta 16 gpr1_170)] H := hP
          have hD : va_D A [(a 36, aK ta 2 ru), (a 37, aK ta 2 le), (a 53, aS ta 16 b'), (a 38, aS ta 192 gto), (a 33, aS ta 16 gna), (a 42, aS ta 16 gpr1_164), (h0, oM a ar mn1_170 tp osz lsz ns ct), (a 0, aK ta 64 tIP), (a 1, aK ta 48 tSPR), (a 2, aK ta 32 tMIX), (a 3, aK ta 56 tCH), (a 4, aK ta 48 tSEC), (a 5, aK ta 512 tSBX), (a 10, aB ta 64 bi1_170), (a 11, aB ta 64 tu1_170), (a 12, aB ta 56 cd1_170), (a 13, aB ta 768 sk1_170), (a 14, aB ta 32 hf1_170), (a 15, aB ta 48 wd1_170), (a 22, aS ta 700 gm1_170), (a 24, aS ta 16 mac1_170), (a 51, aS ta 8 ghs), (a 52, aS ta 3 gnu), (a 44, aS ta 16 gck), (a 41, aS ta 256 gke1_60), (a 43, aS ta 16 gpr1_170)] := hD
          have hq_4 : (seg gke1_60 (128 * sd) 16 = (skeyL (seg gto (96 * sd) 16) 386 ct)) ∧ (seg gke1_60 (128 * sd + 32) 16 = (skeyL (seg gto (96 * sd + 32) 16) 257 ct)) ∧ (seg gke1_60 (128 * sd + 64) 16 = skeyL (seg gto (96 * sd + 32) 16) 258 ct) ∧ (seg gke1_60 (128 * sd + 96) 16 = skeyL (seg gto (96 * sd + 64) 16) 385 ct) ∧ (∀ j, (j < 128 * sd ∨ 128 * sd + 128 ≤ j) → gke1_60 j = gke j) ∧ (seg gpr1_164 (8 * sd) 8 = mac3L (skeyL (seg gto (96 * sd) 16) 386 ct) (qL ghs 8 ++ qL gnu 2 ++ seg gck (8 * sd) 6)) ∧ (∀ j, (j < 8 * sd ∨ 8 * sd + 8 ≤ j) → gpr1_164 j = gow j) ∧ (seg gpr1_170 (8 * sd) 8 = mac3L (skeyL (seg gto (96 * sd) 16) 386 ct) (qL gnu 2 ++ seg gck (8 * sd) 6 ++ qL ghs 8)) ∧ (∀ j, (j < 8 * sd ∨ 8 * sd + 8 ≤ j) → gpr1_170 j = gth j) := by
            have hEE : seg gke1_60 (128 * sd) 16 = skeyL (seg gto (96 * sd) 16) 386 ct := (seg_keep (g' := gke1_60) (g := gke1_31) (o := 128 * sd) (n := 16) fun j hj => by rw [hfr_60 _ (by omega), hfr_49 _ (by omega), hfr_40 _ (by omega)]).trans hs_31
            have hMM : seg gke1_60 (128 * sd + 32) 16 = skeyL (seg gto (96 * sd + 32) 16) 257 ct := (seg_keep (g' := gke1_60) (g := gke1_40) (o := 128 * sd + 32) (n := 16) fun j hj => by rw [hfr_60 _ (by omega), hfr_49 _ (by omega)]).trans hs_40
            refine ⟨hEE, hMM, (seg_keep (g := gke1_49) fun j hj => by rw [hfr_60 _ (by omega)]).trans hs_49, hs_60, fun j hj => by rw [hfr_60 j (by omega), hfr_49 j (by omega), hfr_40 j (by omega), hfr_31 j (by omega)], hs_164.trans (by rw [hEE]), hfr_164, hs_170.trans (by rw [hEE]), hfr_170⟩
          exact hret (⟨(bi1_170), (tu1_170), (cd1_170), (sk1_170), (hf1_170), (wd1_170), (gm1_170), (mac1_170), (b'), (gke1_60), (gpr1_164), (gpr1_170), (mn1_170)⟩ : (Nat → Bool) × (Nat → Bool) × (Nat → Bool) × (Nat → Bool) × (Nat → Bool) × (Nat → Bool) × (Nat → BitVec 8) × (Nat → BitVec 8) × (Nat → BitVec 8) × (Nat → BitVec 8) × (Nat → BitVec 8) × (Nat → BitVec 8) × Nat) _ _ _ _ dX10_make_173 hq_4 (hP.sub [6, 7, 8, 9, 10, 11, 12, 13, 14, 15, 16, 17, 18, 19, 20, 2, 22, 21, 4, 3, 24, 5, 25, 23, 0, 1] rfl) (hD.sub [6, 7, 8, 9, 10, 11, 12, 13, 14, 15, 16, 17, 18, 19, 20, 2, 22, 21, 4, 3, 24, 5, 25, 23, 0, 1] (by decide) rfl) hS
        · skip
          rw [nI_leI (by omega) (by omega)] at c_2
          refine lv_aload_n (pc := 73) hx hb dX10_make_73 rfl (lv_at hl 3 rfl) ?_
          refine va_get (pc := 74) (D := D) (ci := 8) (v := .ref (a 53)) (C := RX10) (T := TX10) (N := 57) hx hb hts iu10 hown hK hP 9 rfl rfl 53 (by decide) (hts _ tw_1098) (fun _ h9 => h9) rfl dX10_make_74 ?_
          refine lv_iload (pc := 77) hx hb dX10_make_77 (lv_at hl 0 rfl) ?_
          refine lv_iconst (pc := 79) (v := nI 0) hx hb dX10_make_79 (by decide +kernel) ?_
          refine q_bastS (pc := 80) hx hb hK hP hD hS 22 2 rfl rfl (k := k) rfl (by omega) (by omega) (b := BitVec.ofNat 8 0) (qlo_nI _) dX10_make_80 (fun H locs hP hD hS => ?_)
          have hP : va_P D vwCl [(a 22, aS ta 700 gm), (a 24, aS ta 16 mac), (a 51, aS ta 8 ghs), (a 33, aS ta 16 gna), (a 42, aS ta 16 gow), (a 43, aS ta 16 gth), (a 44, aS ta 16 gck), (a 36, aK ta 2 ru), (a 37, aK ta 2 le), (h0, oM a ar mn tp osz lsz ns ct), (a 0, aK ta 64 tIP), (a 1, aK ta 48 tSPR), (a 2, aK ta 32 tMIX), (a 3, aK ta 56 tCH), (a 4, aK ta 48 tSEC), (a 5, aK ta 512 tSBX), (a 10, aB ta 64 bi1_60), (a 11, aB ta 64 tu1_60), (a 12, aB ta 56 cd1_60), (a 13, aB ta 768 sk1_60), (a 14, aB ta 32 hf1_60), (a 15, aB ta 48 wd1_60), (a 53, aS ta 16 (qU b' k (BitVec.ofNat 8 0))), (a 52, aS ta 3 gnu), (a 38, aS ta 192 gto), (a 41, aS ta 256 gke1_60)] H := hP
          have hD : va_D A [(a 22, aS ta 700 gm), (a 24, aS ta 16 mac), (a 51, aS ta 8 ghs), (a 33, aS ta 16 gna), (a 42, aS ta 16 gow), (a 43, aS ta 16 gth), (a 44, aS ta 16 gck), (a 36, aK ta 2 ru), (a 37, aK ta 2 le), (h0, oM a ar mn tp osz lsz ns ct), (a 0, aK ta 64 tIP), (a 1, aK ta 48 tSPR), (a 2, aK ta 32 tMIX), (a 3, aK ta 56 tCH), (a 4, aK ta 48 tSEC), (a 5, aK ta 512 tSBX), (a 10, aB ta 64 bi1_60), (a 11, aB ta 64 tu1_60), (a 12, aB ta 56 cd1_60), (a 13, aB ta 768 sk1_60), (a 14, aB ta 32 hf1_60), (a 15, aB ta 48 wd1_60), (a 53, aS ta 16 (qU b' k (BitVec.ofNat 8 0))), (a 52, aS ta 3 gnu), (a 38, aS ta 192 gto), (a 41, aS ta 256 gke1_60)] := hD
          refine lv_iinc (pc := 81) (v := nI (k + 1)) (lv' := [(5, .int (nI (k + 1))), (4, .int (nI (128 * sd))), (3, .int (nI (le sd))), (0, .ref h0), (1, .int (nI sd)), (2, .int (nI 0))]) hx hb dX10_make_81 hl (k := 0) rfl (by first | exact nI_add k 1 | rfl) (by decide) rfl (fun ls hl => ?_)
          refine lv_goto (pc := 84) (tgt := 66) hx hb dX10_make_84 (by decide) ?_
          exact ih66 (k + 1) (qU b' k (BitVec.ofNat 8 0)) (by omega) (qSeg_s hs (by omega) (by first | rfl | (simp; done))) (by omega) _ _ (hP.sub [0, 1, 2, 3, 4, 5, 6, 7, 8, 9, 10, 11, 12, 13, 14, 15, 16, 17, 18, 19, 20, 21, 22, 23, 24, 25] rfl) (hD.sub [0, 1, 2, 3, 4, 5, 6, 7, 8, 9, 10, 11, 12, 13, 14, 15, 16, 17, 18, 19, 20, 21, 22, 23, 24, 25] (by decide) rfl) hS ls (lv_sub hl [0, 1, 2, 3, 4, 5] rfl)
    exact LP66 _ 0 gbl1_60 (by omega) (qSeg_0) (Nat.lt_succ_self _) _ _ (hP.sub [0, 1, 2, 3, 4, 5, 6, 7, 8, 9, 10, 11, 12, 13, 14, 15, 16, 17, 18, 19, 20, 21, 22, 23, 24, 25] rfl) (hD.sub [0, 1, 2, 3, 4, 5, 6, 7, 8, 9, 10, 11, 12, 13, 14, 15, 16, 17, 18, 19, 20, 21, 22, 23, 24, 25] (by decide) rfl) hS ls (lv_sub hl [0, 1, 2, 3, 4, 5] rfl)
set_option maxHeartbeats 4000000 in
set_option maxRecDepth 100000 in
theorem ct_X10_make_31 (ll : Launch) (D : va_G) (ta : Nat → ClassId) {G : (Nat → Prop) → State → Heap → Prop} (hGok : GOK G) (h0 : Nat) (a : Nat → Nat) (ar : Nat) (mn : Nat) (tp : Nat) (osz : Nat) (lsz : Nat) (ns : Nat) (ct : Nat) (rk : Nat → BitVec 8) (ce : Nat → BitVec 8) (gm : Nat → BitVec 8) (mac : Nat → BitVec 8) (k1 : Nat → BitVec 8) (gov : Nat → BitVec 8) (gnu : Nat → BitVec 8) (ghs : Nat → BitVec 8) (gna : Nat → BitVec 8) (gto : Nat → BitVec 8) (gke : Nat → BitVec 8) (gow : Nat → BitVec 8) (gth : Nat → BitVec 8) (gck : Nat → BitVec 8) (ru : Nat → Nat) (le : Nat → Nat) (sd : Nat) (hsd : sd ≤ 1) (hru : ru sd = 3) (hns : ns ≤ 16) (hle : le sd = 16 ∨ le sd = 24 ∨ le sd = 32) (sz : Nat) : CT ll yX10_make cX10_make 6 none ({ frames := 6, cells := 0, slots := 0, locals := 154 } : Room) D ta G [.ref h0, .int (nI sd), .int (nI 1)] [(h0, oM a ar mn tp osz lsz ns ct), (a 8, aZ ta 256 BOX), (a 9, aZ ta 256 UBOX), (a 16, aS ta 240 rk), (a 18, aS ta 16 ce), (a 22, aS ta 700 gm), (a 24, aS ta 16 mac), (a 25, aS ta 16 k1), (a 26, aS ta 120 gov), (a 52, aS ta 3 gnu), (a 51, aS ta 8 ghs), (a 33, aS ta 16 gna), (a 38, aS ta 192 gto), (a 41, aS ta 256 gke), (a 42, aS ta 16 gow), (a 43, aS ta 16 gth), (a 44, aS ta 16 gck), (a 36, aK ta 2 ru), (a 37, aK ta 2 le)] sz (S := (Nat → BitVec 8) × (Nat → BitVec 8) × (Nat → BitVec 8) × (Nat → BitVec 8) × (Nat → BitVec 8) × (Nat → BitVec 8) × (Nat → BitVec 8) × (Nat → BitVec 8) × (Nat → BitVec 8) × (Nat → BitVec 8) × Nat × Nat) (fun _ => none) (fun u => (seg u.2.2.2.2.2.2.1 (128 * sd) (le sd) = kdfL (seg gto (96 * sd) (le sd)) 4 (le sd) (qL ghs 8 ++ seg u.2.2.2.2.2.2.2.2.2.1 (8 * sd) 8)) ∧ (seg u.2.2.2.2.2.2.1 (128 * sd + 32) (le sd) = kdfL (seg gto (96 * sd + 32) (le sd)) 6 (le sd) (qL ghs 8 ++ seg u.2.2.2.2.2.2.2.2.2.1 (8 * sd) 8)) ∧ (seg u.2.2.2.2.2.2.1 (128 * sd + 64) (le sd) = kdfL (seg gto (96 * sd + 32) (le sd)) 7 (le sd) (qL ghs 8 ++ seg u.2.2.2.2.2.2.2.2.2.1 (8 * sd) 8)) ∧ (seg u.2.2.2.2.2.2.1 (128 * sd + 96) (le sd) = seg gto (96 * sd + 64) (le sd)) ∧ (∀ j, (j < 128 * sd ∨ 128 * sd + 128 ≤ j) → u.2.2.2.2.2.2.1 j = gke j) ∧ (seg u.2.2.2.2.2.2.2.2.2.1 (8 * sd) 8 = kdfL (seg gto (96 * sd) (le sd)) 2 8 (qL gnu 3 ++ qL gna ns)) ∧ (∀ j, (j < 8 * sd ∨ 8 * sd + 8 ≤ j) → u.2.2.2.2.2.2.2.2.2.1 j = gck j) ∧ (seg u.2.2.2.2.2.2.2.1 (8 * sd) 8 = kdfL (kdfL (seg gto (96 * sd + 32) (le sd)) 6 (le sd) (qL ghs 8 ++ seg u.2.2.2.2.2.2.2.2.2.1 (8 * sd) 8)) 0 8 (qL ghs 8 ++ seg u.2.2.2.2.2.2.2.2.2.1 (8 * sd) 8)) ∧ (∀ j, (j < 8 * sd ∨ 8 * sd + 8 ≤ j) → u.2.2.2.2.2.2.2.1 j = gow j) ∧ (seg u.2.2.2.2.2.2.2.2.1 (8 * sd) 8 = kdfL (kdfL (seg gto (96 * sd + 32) (le sd)) 6 (le sd) (qL ghs 8 ++ seg u.2.2.2.2.2.2.2.2.2.1 (8 * sd) 8)) 1 8 (qL ghs 8 ++ seg u.2.2.2.2.2.2.2.2.2.1 (8 * sd) 8)) ∧ (∀ j, (j < 8 * sd ∨ 8 * sd + 8 ≤ j) → u.2.2.2.2.2.2.2.2.1 j = gth j)) (fun u => [(h0, oM a u.2.2.2.2.2.2.2.2.2.2.2 u.2.2.2.2.2.2.2.2.2.2.1 tp osz lsz ns ct), (a 8, aZ ta 256 BOX), (a 9, aZ ta 256 UBOX), (a 16, aS ta 240 u.1), (a 18, aS ta 16 u.2.1), (a 22, aS ta 700 u.2.2.1), (a 24, aS ta 16 u.2.2.2.1), (a 25, aS ta 16 u.2.2.2.2.1), (a 26, aS ta 120 u.2.2.2.2.2.1), (a 52, aS ta 3 gnu), (a 51, aS ta 8 ghs), (a 33, aS ta 16 gna), (a 38, aS ta 192 gto), (a 41, aS ta 256 u.2.2.2.2.2.2.1), (a 42, aS ta 16 u.2.2.2.2.2.2.2.1), (a 43, aS ta 16 u.2.2.2.2.2.2.2.2.1), (a 44, aS ta 16 u.2.2.2.2.2.2.2.2.2.1), (a 36, aK ta 2 ru), (a 37, aK ta 2 le)]) 0 0 := by
  refine CT.of_v rfl (by decide) (Nat.le_of_ble_eq_true rfl) ?_
  intro pp ee ss mm below meth kc A Q hx hb hml hown hin hts hK hA hsz hG hret H locs hP hD hS ls hl
  have hl : lv_has ls 6 [(0, .ref h0), (1, .int (nI sd)), (2, .int (nI 1))] := hl
  refine lv_aload_n (pc := 0) hx hb dX10_make_0 rfl (lv_at hl 0 rfl) ?_
  refine va_get (pc := 1) (D := D) (ci := 8) (v := .ref (a 37)) (C := RX10) (T := TX10) (N := 57) hx hb hts iu10 hown hK hP 0 rfl rfl 37 (by decide) (hts _ tw_1082) (fun _ h9 => h9) rfl dX10_make_1 ?_
  refine lv_iload_n (pc := 4) hx hb dX10_make_4 rfl (lv_at hl 1 rfl) ?_
  refine q_iald (pc := 5) hx hb hK hP 18 0 rfl rfl (k := sd) (v := nI (le sd)) rfl (by omega) (by omega) rfl dX10_make_5 ?_
  refine lv_istore_n (pc := 6) (lv' := [(3, .int (nI (le sd))), (0, .ref h0), (1, .int (nI sd)), (2, .int (nI 1))]) hx hb dX10_make_6 rfl hl (by decide) rfl (fun ls hl => ?_)
  refine lv_sipush (pc := 7) (v := nI 128) hx hb dX10_make_7 (by decide +kernel) ?_
  refine lv_iload_n (pc := 10) hx hb dX10_make_10 rfl (lv_at hl 2 rfl) ?_
  refine lv_imul (pc := 11) hx hb dX10_make_11 ?_
  refine q_top (y := nI (128 * sd)) (pk_mul 128 sd) ?_
  refine lv_istore (pc := 12) (lv' := [(4, .int (nI (128 * sd))), (3, .int (nI (le sd))), (0, .ref h0), (1, .int (nI sd)), (2, .int (nI 1))]) hx hb dX10_make_12 hl (by decide) rfl (fun ls hl => ?_)
  refine lv_aload_n (pc := 14) hx hb dX10_make_14 rfl (lv_at hl 2 rfl) ?_
  refine va_get (pc := 15) (D := D) (ci := 8) (v := .ref (a 36)) (C := RX10) (T := TX10) (N := 57) hx hb hts iu10 hown hK hP 0 rfl rfl 36 (by decide) (hts _ tw_1081) (fun _ h9 => h9) rfl dX10_make_15 ?_
  refine lv_iload_n (pc := 18) hx hb dX10_make_18 rfl (lv_at hl 3 rfl) ?_
  refine q_iald (pc := 19) hx hb hK hP 17 0 rfl rfl (k := sd) (v := nI (ru sd)) rfl (by omega) (by omega) rfl dX10_make_19 ?_
  refine lv_iconst (pc := 20) (v := nI 2) hx hb dX10_make_20 (by decide +kernel) ?_
  refine lv_icmp_ne (pc := 21) (tgt := 174) hx hb dX10_make_21 (by decide) (fun c_1 => ?_) (fun c_1 => ?_)
  · skip
    rw [nI_eq (by omega) (by omega)] at c_1
    refine lv_iload_n (pc := 174) hx hb dX10_make_174 rfl (lv_at hl 4 rfl) ?_
    refine lv_if_eq (pc := 175) (tgt := 271) hx hb dX10_make_175 (by decide) (fun c_2 => absurd c_2 (by decide)) (fun _ => ?_)
    refine lv_iconst (pc := 178) (v := nI 0) hx hb dX10_make_178 (by decide +kernel) ?_
    refine lv_istore (pc := 179) (lv' := [(5, .int (nI 0)), (4, .int (nI (128 * sd))), (3, .int (nI (le sd))), (0, .ref h0), (1, .int (nI sd)), (2, .int (nI 1))]) hx hb dX10_make_179 hl (by decide) rfl (fun ls hl => ?_)
    have LP181 : ∀ (nn181 : Nat) (k1x : Nat) (o' : Nat → BitVec 8), (k1x ≤ 3) → (qSeg o' gov 0 k1x gnu) → (3 - k1x < nn181) → ∀ (H : Heap) (locs : List Loc), va_P D vwCl [(h0, oM a ar mn tp osz lsz ns ct), (a 8, aZ ta 256 BOX), (a 9, aZ ta 256 UBOX), (a 16, aS ta 240 rk), (a 18, aS ta 16 ce), (a 22, aS ta 700 gm), (a 24, aS ta 16 mac), (a 25, aS ta 16 k1), (a 26, aS ta 120 o'), (a 52, aS ta 3 gnu), (a 51, aS ta 8 ghs), (a 33, aS ta 16 gna), (a 38, aS ta 192 gto), (a 41, aS ta 256 gke), (a 42, aS ta 16 gow), (a 43, aS ta 16 gth), (a 44, aS ta 16 gck), (a 36, aK ta 2 ru), (a 37, aK ta 2 le)] H → va_D A [(h0, oM a ar mn tp osz lsz ns ct), (a 8, aZ ta 256 BOX), (a 9, aZ ta 256 UBOX), (a 16, aS ta 240 rk), (a 18, aS ta 16 ce), (a 22, aS ta 700 gm), (a 24, aS ta 16 mac), (a 25, aS ta 16 k1), (a 26, aS ta 120 o'), (a 52, aS ta 3 gnu), (a 51, aS ta 8 ghs), (a 33, aS ta 16 gna), (a 38, aS ta 192 gto), (a 41, aS ta 256 gke), (a 42, aS ta 16 gow), (a 43, aS ta 16 gth), (a 44, aS ta 16 gck), (a 36, aK ta 2 ru), (a 37, aK ta 2 le)] → va_S A ss.heap H locs → ∀ ls : Array Slot, lv_has ls 6 [(5, .int (nI k1x)), (4, .int (nI (128 * sd))), (3, .int (nI (le sd))), (0, .ref h0), (1, .int (nI sd)), (2, .int (nI 1))] → W pp ll ee ({ frames := 6, cells := 0, slots := 0, locals := 154 } : Room) ss mm (([.ref h0, .int (nI sd), .int (nI 1)] : List Value).toArray) below meth kc H locs 0 0 Q (F0 mm 181 ls []) := by
      intro nn181
      induction nn181 with
      | zero => intro k1x o' hkk1 hs1 hmu; exact absurd hmu (Nat.not_lt_zero _)
      | succ nn181 ih181 =>
        intro k1x o' hkk1 hs1 hmu181 H locs hP hD hS ls hl
        refine lv_iload (pc := 181) hx hb dX10_make_181 (lv_at hl 0 rfl) ?_
        refine lv_iconst (pc := 183) (v := nI 3) hx hb dX10_make_183 (by decide +kernel) ?_
        refine lv_icmp_ge (pc := 184) (tgt := 207) hx hb dX10_make_184 (by decide) (fun c_3 => ?_) (fun c_3 => ?_)
        · skip
          rw [nI_leI (by omega) (by omega)] at c_3
          refine lv_iconst (pc := 207) (v := nI 0) hx hb dX10_make_207 (by decide +kernel) ?_
          refine lv_istore (pc := 208) (lv' := [(5, .int (nI 0)), (4, .int (nI (128 * sd))), (3, .int (nI (le sd))), (0, .ref h0), (1, .int (nI sd)), (2, .int (nI 1))]) hx hb dX10_make_208 hl (by decide) rfl (fun ls hl => ?_)
          have LP210 : ∀ (nn210 : Nat) (k2x : Nat) (o2' : Nat → BitVec 8), (k2x ≤ ns) → (qSeg o2' o' 3 k2x gna) → (ns - k2x < nn210) → ∀ (H : Heap) (locs : List Loc), va_P D vwCl [(h0, oM a ar mn tp osz lsz ns ct), (a 8, aZ ta 256 BOX), (a 9, aZ ta 256 UBOX), (a 16, aS ta 240 rk), (a 18, aS ta 16 ce), (a 22, aS ta 700 gm), (a 24, aS ta 16 mac), (a 25, aS ta 16 k1), (a 26, aS ta 120 o2'), (a 52, aS ta 3 gnu), (a 51, aS ta 8 ghs), (a 33, aS ta 16 gna), (a 38, aS ta 192 gto), (a 41, aS ta 256 gke), (a 42, aS ta 16 gow), (a 43, aS ta 16 gth), (a 44, aS ta 16 gck), (a 36, aK ta 2 ru), (a 37, aK ta 2 le)] H → va_D A [(h0, oM a ar mn tp osz lsz ns ct), (a 8, aZ ta 256 BOX), (a 9, aZ ta 256 UBOX), (a 16, aS ta 240 rk), (a 18, aS ta 16 ce), (a 22, aS ta 700 gm), (a 24, aS ta 16 mac), (a 25, aS ta 16 k1), (a 26, aS ta 120 o2'), (a 52, aS ta 3 gnu), (a 51, aS ta 8 ghs), (a 33, aS ta 16 gna), (a 38, aS ta 192 gto), (a 41, aS ta 256 gke), (a 42, aS ta 16 gow), (a 43, aS ta 16 gth), (a 44, aS ta 16 gck), (a 36, aK ta 2 ru), (a 37, aK ta 2 le)] → va_S A ss.heap H locs → ∀ ls : Array Slot, lv_has ls 6 [(5, .int (nI k2x)), (4, .int (nI (128 * sd))), (3, .int (nI (le sd))), (0, .ref h0), (1, .int (nI sd)), (2, .int (nI 1))] → W pp ll ee ({ frames := 6, cells := 0, slots := 0, locals := 154 } : Room) ss mm (([.ref h0, .int (nI sd), .int (nI 1)] : List Value).toArray) below meth kc H locs 0 0 Q (F0 mm 210 ls []) := by
            intro nn210
            induction nn210 with
            | zero => intro k2x o2' hkk2 hs2 hmu; exact absurd hmu (Nat.not_lt_zero _)
            | succ nn210 ih210 =>
              intro k2x o2' hkk2 hs2 hmu210 H locs hP hD hS ls hl
              refine lv_iload (pc := 210) hx hb dX10_make_210 (lv_at hl 0 rfl) ?_
              refine lv_aload_n (pc := 212) hx hb dX10_make_212 rfl (lv_at hl 3 rfl) ?_
              refine va_get (pc := 213) (D := D) (ci := 8) (v := .int (nI ns)) (C := RX10) (T := TX10) (N := 57) hx hb hts iu10 hown hK hP 0 rfl rfl 34 (by decide) (hts _ tw_1079) (fun _ h9 => h9) rfl dX10_make_213 ?_
              refine lv_icmp_ge (pc := 216) (tgt := 241) hx hb dX10_make_216 (by decide) (fun c_4 => ?_) (fun c_4 => ?_)
              · skip
                rw [nI_leI (by omega) (by omega)] at c_4
                refine lv_aload_n (pc := 241) hx hb dX10_make_241 rfl (lv_at hl 3 rfl) ?_
                refine lv_aload_n (pc := 242) hx hb dX10_make_242 rfl (lv_at hl 3 rfl) ?_
                refine va_get (pc := 243) (D := D) (ci := 8) (v := .ref (a 38)) (C := RX10) (T := TX10) (N := 57) hx hb hts iu10 hown hK hP 0 rfl rfl 38 (by decide) (hts _ tw_1083) (fun _ h9 => h9) rfl dX10_make_243 ?_
                refine lv_bipush (pc := 246) (v := nI 96) hx hb dX10_make_246 (by decide +kernel) ?_
                refine lv_iload_n (pc := 248) hx hb dX10_make_248 rfl (lv_at hl 4 rfl) ?_
                refine lv_imul (pc := 249) hx hb dX10_make_249 ?_
                refine q_top (y := nI (96 * sd)) (pk_mul 96 sd) ?_
                refine lv_iload_n (pc := 250) hx hb dX10_make_250 rfl (lv_at hl 2 rfl) ?_
                refine lv_iconst (pc := 251) (v := nI 2) hx hb dX10_make_251 (by decide +kernel) ?_
                refine lv_bipush (pc := 252) (v := nI 8) hx hb dX10_make_252 (by decide +kernel) ?_
                refine lv_iconst (pc := 254) (v := nI 3) hx hb dX10_make_254 (by decide +kernel) ?_
                refine lv_aload_n (pc := 255) hx hb dX10_make_255 rfl (lv_at hl 3 rfl) ?_
                refine va_get (pc := 256) (D := D) (ci := 8) (v := .int (nI ns)) (C := RX10) (T := TX10) (N := 57) hx hb hts iu10 hown hK hP 0 rfl rfl 34 (by decide) (hts _ tw_1079) (fun _ h9 => h9) rfl dX10_make_256 ?_
                refine lv_iadd (pc := 259) hx hb dX10_make_259 ?_
                refine q_top (y := nI (3 + ns)) (nI_add 3 ns) ?_
                refine lv_aload_n (pc := 260) hx hb dX10_make_260 rfl (lv_at hl 3 rfl) ?_
                refine va_get (pc := 261) (D := D) (ci := 8) (v := .ref (a 44)) (C := RX10) (T := TX10) (N := 57) hx hb hts iu10 hown hK hP 0 rfl rfl 44 (by decide) (hts _ tw_1089) (fun _ h9 => h9) rfl dX10_make_261 ?_
                refine lv_bipush (pc := 264) (v := nI 8) hx hb dX10_make_264 (by decide +kernel) ?_
                refine lv_iload_n (pc := 266) hx hb dX10_make_266 rfl (lv_at hl 4 rfl) ?_
                refine lv_imul (pc := 267) hx hb dX10_make_267 ?_
                refine q_top (y := nI (8 * sd)) (pk_mul 8 sd) ?_
                refine cs_V (pc := 268) (idx := 340) (n := 8) (wr := [(a 52, aS ta 3 gnu), (a 51, aS ta 8 ghs), (a 33, aS ta 16 gna), (a 41, aS ta 256 gke), (a 42, aS ta 16 gow), (a 43, aS ta 16 gth), (a 36, aK ta 2 ru), (a 37, aK ta 2 le)]) (As := [.ref (a 38), .int (nI (96 * sd)), .int (nI (le sd)), .int (nI 2), .int (nI 8), .int (nI (3 + ns)), .ref (a 44), .int (nI (8 * sd))]) (rest := []) (ci := 8) hx hb hml hown hts hGok hK hA hG hl.1 hP hD hS (ct_X10_kdf ll D ta hGok h0 a ar mn tp osz lsz ns ct gm mac k1 rk ce (a 38) (96 * sd) 192 gto (le sd) 2 8 (3 + ns) o2' (a 44) (8 * sd) 16 gck (by first | assumption | omega | rfl | decide) (by first | assumption | omega | rfl | decide) (by first | assumption | omega | rfl | decide) (by first | assumption | omega | rfl | decide) (by first | assumption | omega | rfl | decide) (by first | assumption | omega | rfl | decide) (by first | assumption | omega | rfl | decide) (by first | assumption | omega | rfl | decide) H.size) tw_1330 tw_1327 tw_1329 tw_42 tw_75 hdX10_kdf rfl ⟨rfl, rfl, Nat.le_of_ble_eq_true rfl, Nat.le_of_ble_eq_true rfl, Nat.le_of_ble_eq_true rfl, Nat.le_of_ble_eq_true rfl⟩ rfl rfl (q0 := 0) rfl [0, 1, 2, 3, 4, 5, 6, 7, 12, 8, 16] [9, 10, 11, 13, 14, 15, 17, 18] rfl rfl (by decide) rfl (Nat.le_of_ble_eq_true rfl) dX10_make_268 (fun u H locs hq hP hD hS => ?_)
                obtain ⟨ar1_268, mn1_268, gm1_268, mac1_268, k11_268, rk1_268, ce1_268, gt1_268⟩ := u
                have hq : (seg gt1_268 (8 * sd) 8 = kdfL (seg gto (96 * sd) (le sd)) 2 8 (seg o2' 0 (3 + ns))) ∧ (∀ jz, (jz < (8 * sd) ∨ (8 * sd) + 8 ≤ jz) → gt1_268 jz = gck jz) := hq
                obtain ⟨hL_268, hfr_268⟩ := hq
                refine W.eq (g2 := F0 mm 271 ls []) rfl ?_
                have hP : va_P D vwCl [(a 52, aS ta 3 gnu), (a 51, aS ta 8 ghs), (a 33, aS ta 16 gna), (a 41, aS ta 256 gke), (a 42, aS ta 16 gow), (a 43, aS ta 16 gth), (a 36, aK ta 2 ru), (a 37, aK ta 2 le), (h0, oM a ar1_268 mn1_268 tp osz lsz ns ct), (a 8, aZ ta 256 BOX), (a 9, aZ ta 256 UBOX), (a 16, aS ta 240 rk1_268), (a 18, aS ta 16 ce1_268), (a 22, aS ta 700 gm1_268), (a 24, aS ta 16 mac1_268), (a 25, aS ta 16 k11_268), (a 38, aS ta 192 gto), (a 26, aS ta 120 o2'), (a 44, aS ta 16 gt1_268)] H := hP
                have hD : va_D A [(a 52, aS ta 3 gnu), (a 51, aS ta 8 ghs), (a 33, aS ta 16 gna), (a 41, aS ta 256 gke), (a 42, aS ta 16 gow), (a 43, aS ta 16 gth), (a 36, aK ta 2 ru), (a 37, aK ta 2 le), (h0, oM a ar1_268 mn1_268 tp osz lsz ns ct), (a 8, aZ ta 256 BOX), (a 9, aZ ta 256 UBOX), (a 16, aS ta 240 rk1_268), (a 18, aS ta 16 ce1_268), (a 22, aS ta 700 gm1_268), (a 24, aS ta 16 mac1_268), (a 25, aS ta 16 k11_268), (a 38, aS ta 192 gto), (a 26, aS ta 120 o2'), (a 44, aS ta 16 gt1_268)] := hD
                refine lv_aload_n (pc := 271) hx hb dX10_make_271 rfl (lv_at hl 3 rfl) ?_
                refine lv_iload_n (pc := 272) hx hb dX10_make_272 rfl (lv_at hl 4 rfl) ?_
                refine cs_V (pc := 273) (idx := 344) (n := 1) (wr := [(a 52, aS ta 3 gnu), (a 33, aS ta 16 gna), (a 41, aS ta 256 gke), (a 42, aS ta 16 gow), (a 43, aS ta 16 gth), (a 36, aK ta 2 ru), (a 37, aK ta 2 le), (a 8, aZ ta 256 BOX), (a 9, aZ ta 256 UBOX), (a 16, aS ta 240 rk1_268), (a 18, aS ta 16 ce1_268), (a 22, aS ta 700 gm1_268), (a 24, aS ta 16 mac1_268), (a 25, aS ta 16 k11_268), (a 38, aS ta 192 gto)]) (As := [.int (nI sd)]) (rest := []) (ci := 8) hx hb hml hown hts hGok hK hA hG hl.1 hP hD hS (ct_X10_aboutHost ll D ta hGok h0 a ar1_268 mn1_268 tp osz lsz ns ct o2' ghs gt1_268 sd (by first | assumption | omega | rfl | decide) H.size) tw_1357 tw_1354 tw_1356 tw_48 tw_75 hdX10_aboutHost rfl ⟨rfl, rfl, Nat.le_of_ble_eq_true rfl, Nat.le_of_ble_eq_true rfl, Nat.le_of_ble_eq_true rfl, Nat.le_of_ble_eq_true rfl⟩ rfl rfl (q0 := 8) rfl [8, 17, 1, 18] [0, 2, 3, 4, 5, 6, 7, 9, 10, 11, 12, 13, 14, 15, 16] rfl rfl (by decide) rfl (Nat.le_of_ble_eq_true rfl) dX10_make_273 (fun u H locs hq hP hD hS => ?_)
                generalize u = gov1_273 at hq hP hD ⊢
                have hq : (seg gov1_273 0 16 = qL ghs 8 ++ seg gt1_268 (8 * sd) 8) := hq
                have hL_273 := hq
                refine W.eq (g2 := F0 mm 276 ls []) rfl ?_
                have hP : va_P D vwCl [(a 52, aS ta 3 gnu), (a 33, aS ta 16 gna), (a 41, aS ta 256 gke), (a 42, aS ta 16 gow), (a 43, aS ta 16 gth), (a 36, aK ta 2 ru), (a 37, aK ta 2 le), (a 8, aZ ta 256 BOX), (a 9, aZ ta 256 UBOX), (a 16, aS ta 240 rk1_268), (a 18, aS ta 16 ce1_268), (a 22, aS ta 700 gm1_268), (a 24, aS ta 16 mac1_268), (a 25, aS ta 16 k11_268), (a 38, aS ta 192 gto), (h0, oM a ar1_268 mn1_268 tp osz lsz ns ct), (a 26, aS ta 120 gov1_273), (a 51, aS ta 8 ghs), (a 44, aS ta 16 gt1_268)] H := hP
                have hD : va_D A [(a 52, aS ta 3 gnu), (a 33, aS ta 16 gna), (a 41, aS ta 256 gke), (a 42, aS ta 16 gow), (a 43, aS ta 16 gth), (a 36, aK ta 2 ru), (a 37, aK ta 2 le), (a 8, aZ ta 256 BOX), (a 9, aZ ta 256 UBOX), (a 16, aS ta 240 rk1_268), (a 18, aS ta 16 ce1_268), (a 22, aS ta 700 gm1_268), (a 24, aS ta 16 mac1_268), (a 25, aS ta 16 k11_268), (a 38, aS ta 192 gto), (h0, oM a ar1_268 mn1_268 tp osz lsz ns ct), (a 26, aS ta 120 gov1_273), (a 51, aS ta 8 ghs), (a 44, aS ta 16 gt1_268)] := hD
                refine lv_aload_n (pc := 276) hx hb dX10_make_276 rfl (lv_at hl 3 rfl) ?_
                refine lv_aload_n (pc := 277) hx hb dX10_make_277 rfl (lv_at hl 3 rfl) ?_
                refine va_get (pc := 278) (D := D) (ci := 8) (v := .ref (a 38)) (C := RX10) (T := TX10) (N := 57) hx hb hts iu10 hown hK hP 15 rfl rfl 38 (by decide) (hts _ tw_1083) (fun _ h9 => h9) rfl dX10_make_278 ?_
                refine lv_bipush (pc := 281) (v := nI 96) hx hb dX10_make_281 (by decide +kernel) ?_
                refine lv_iload_n (pc := 283) hx hb dX10_make_283 rfl (lv_at hl 4 rfl) ?_
                refine lv_imul (pc := 284) hx hb dX10_make_284 ?_
                refine q_top (y := nI (96 * sd)) (pk_mul 96 sd) ?_
                refine lv_iload_n (pc := 285) hx hb dX10_make_285 rfl (lv_at hl 2 rfl) ?_
                refine lv_iconst (pc := 286) (v := nI 4) hx hb dX10_make_286 (by decide +kernel) ?_
                refine lv_iload_n (pc := 287) hx hb dX10_make_287 rfl (lv_at hl 2 rfl) ?_
                refine lv_bipush (pc := 288) (v := nI 16) hx hb dX10_make_288 (by decide +kernel) ?_
                refine lv_aload_n (pc := 290) hx hb dX10_make_290 rfl (lv_at hl 3 rfl) ?_
                refine va_get (pc := 291) (D := D) (ci := 8) (v := .ref (a 41)) (C := RX10) (T := TX10) (N := 57) hx hb hts iu10 hown hK hP 15 rfl rfl 41 (by decide) (hts _ tw_1086) (fun _ h9 => h9) rfl dX10_make_291 ?_
                refine lv_iload (pc := 294) hx hb dX10_make_294 (lv_at hl 1 rfl) ?_
                refine lv_iconst (pc := 296) (v := nI 0) hx hb dX10_make_296 (by decide +kernel) ?_
                refine lv_iadd (pc := 297) hx hb dX10_make_297 ?_
                refine q_top (y := nI (128 * sd)) ((nI_add (128 * sd) 0).trans (congrArg nI (by omega))) ?_
                refine cs_V (pc := 298) (idx := 340) (n := 8) (wr := [(a 52, aS ta 3 gnu), (a 33, aS ta 16 gna), (a 42, aS ta 16 gow), (a 43, aS ta 16 gth), (a 36, aK ta 2 ru), (a 37, aK ta 2 le), (a 51, aS ta 8 ghs), (a 44, aS ta 16 gt1_268)]) (As := [.ref (a 38), .int (nI (96 * sd)), .int (nI (le sd)), .int (nI 4), .int (nI (le sd)), .int (nI 16), .ref (a 41), .int (nI (128 * sd))]) (rest := []) (ci := 8) hx hb hml hown hts hGok hK hA hG hl.1 hP hD hS (ct_X10_kdf ll D ta hGok h0 a ar1_268 mn1_268 tp osz lsz ns ct gm1_268 mac1_268 k11_268 rk1_268 ce1_268 (a 38) (96 * sd) 192 gto (le sd) 4 (le sd) 16 gov1_273 (a 41) (128 * sd) 256 gke (by first | assumption | omega | rfl | decide) (by first | assumption | omega | rfl | decide) (by first | assumption | omega | rfl | decide) (by first | assumption | omega | rfl | decide) (by first | assumption | omega | rfl | decide) (by first | assumption | omega | rfl | decide) (by first | assumption | omega | rfl | decide) (by first | assumption | omega | rfl | decide) H.size) tw_1330 tw_1327 tw_1329 tw_42 tw_75 hdX10_kdf rfl ⟨rfl, rfl, Nat.le_of_ble_eq_true rfl, Nat.le_of_ble_eq_true rfl, Nat.le_of_ble_eq_true rfl, Nat.le_of_ble_eq_true rfl⟩ rfl rfl (q0 := 15) rfl [15, 7, 8, 9, 10, 11, 12, 13, 14, 16, 2] [0, 1, 3, 4, 5, 6, 17, 18] rfl rfl (by decide) rfl (Nat.le_of_ble_eq_true rfl) dX10_make_298 (fun u H locs hq hP hD hS => ?_)
                obtain ⟨ar1_298, mn1_298, gm1_298, mac1_298, k11_298, rk1_298, ce1_298, gt1_298⟩ := u
                have hq : (seg gt1_298 (128 * sd) (le sd) = kdfL (seg gto (96 * sd) (le sd)) 4 (le sd) (seg gov1_273 0 16)) ∧ (∀ jz, (jz < (128 * sd) ∨ (128 * sd) + (le sd) ≤ jz) → gt1_298 jz = gke jz) := hq
                obtain ⟨hL_298, hfr_298⟩ := hq
                refine W.eq (g2 := F0 mm 301 ls []) rfl ?_
                have hP : va_P D vwCl [(a 52, aS ta 3 gnu), (a 33, aS ta 16 gna), (a 42, aS ta 16 gow), (a 43, aS ta 16 gth), (a 36, aK ta 2 ru), (a 37, aK ta 2 le), (a 51, aS ta 8 ghs), (a 44, aS ta 16 gt1_268), (h0, oM a ar1_298 mn1_298 tp osz lsz ns ct), (a 8, aZ ta 256 BOX), (a 9, aZ ta 256 UBOX), (a 16, aS ta 240 rk1_298), (a 18, aS ta 16 ce1_298), (a 22, aS ta 700 gm1_298), (a 24, aS ta 16 mac1_298), (a 25, aS ta 16 k11_298), (a 38, aS ta 192 gto), (a 26, aS ta 120 gov1_273), (a 41, aS ta 256 gt1_298)] H := hP
                have hD : va_D A [(a 52, aS ta 3 gnu), (a 33, aS ta 16 gna), (a 42, aS ta 16 gow), (a 43, aS ta 16 gth), (a 36, aK ta 2 ru), (a 37, aK ta 2 le), (a 51, aS ta 8 ghs), (a 44, aS ta 16 gt1_268), (h0, oM a ar1_298 mn1_298 tp osz lsz ns ct), (a 8, aZ ta 256 BOX), (a 9, aZ ta 256 UBOX), (a 16, aS ta 240 rk1_298), (a 18, aS ta 16 ce1_298), (a 22, aS ta 700 gm1_298), (a 24, aS ta 16 mac1_298), (a 25, aS ta 16 k11_298), (a 38, aS ta 192 gto), (a 26, aS ta 120 gov1_273), (a 41, aS ta 256 gt1_298)] := hD
                refine lv_aload_n (pc := 301) hx hb dX10_make_301 rfl (lv_at hl 3 rfl) ?_
                refine lv_iload_n (pc := 302) hx hb dX10_make_302 rfl (lv_at hl 4 rfl) ?_
                refine cs_V (pc := 303) (idx := 344) (n := 1) (wr := [(a 52, aS ta 3 gnu), (a 33, aS ta 16 gna), (a 42, aS ta 16 gow), (a 43, aS ta 16 gth), (a 36, aK ta 2 ru), (a 37, aK ta 2 le), (a 8, aZ ta 256 BOX), (a 9, aZ ta 256 UBOX), (a 16, aS ta 240 rk1_298), (a 18, aS ta 16 ce1_298), (a 22, aS ta 700 gm1_298), (a 24, aS ta 16 mac1_298), (a 25, aS ta 16 k11_298), (a 38, aS ta 192 gto), (a 41, aS ta 256 gt1_298)]) (As := [.int (nI sd)]) (rest := []) (ci := 8) hx hb hml hown hts hGok hK hA hG hl.1 hP hD hS (ct_X10_aboutHost ll D ta hGok h0 a ar1_298 mn1_298 tp osz lsz ns ct gov1_273 ghs gt1_268 sd (by first | assumption | omega | rfl | decide) H.size) tw_1357 tw_1354 tw_1356 tw_48 tw_75 hdX10_aboutHost rfl ⟨rfl, rfl, Nat.le_of_ble_eq_true rfl, Nat.le_of_ble_eq_true rfl, Nat.le_of_ble_eq_true rfl, Nat.le_of_ble_eq_true rfl⟩ rfl rfl (q0 := 8) rfl [8, 17, 6, 7] [0, 1, 2, 3, 4, 5, 9, 10, 11, 12, 13, 14, 15, 16, 18] rfl rfl (by decide) rfl (Nat.le_of_ble_eq_true rfl) dX10_make_303 (fun u H locs hq hP hD hS => ?_)
                generalize u = gov1_303 at hq hP hD ⊢
                have hq : (seg gov1_303 0 16 = qL ghs 8 ++ seg gt1_268 (8 * sd) 8) := hq
                have hL_303 := hq
                refine W.eq (g2 := F0 mm 306 ls []) rfl ?_
                have hP : va_P D vwCl [(a 52, aS ta 3 gnu), (a 33, aS ta 16 gna), (a 42, aS ta 16 gow), (a 43, aS ta 16 gth), (a 36, aK ta 2 ru), (a 37, aK ta 2 le), (a 8, aZ ta 256 BOX), (a 9, aZ ta 256 UBOX), (a 16, aS ta 240 rk1_298), (a 18, aS ta 16 ce1_298), (a 22, aS ta 700 gm1_298), (a 24, aS ta 16 mac1_298), (a 25, aS ta 16 k11_298), (a 38, aS ta 192 gto), (a 41, aS ta 256 gt1_298), (h0, oM a ar1_298 mn1_298 tp osz lsz ns ct), (a 26, aS ta 120 gov1_303), (a 51, aS ta 8 ghs), (a 44, aS ta 16 gt1_268)] H := hP
                have hD : va_D A [(a 52, aS ta 3 gnu), (a 33, aS ta 16 gna), (a 42, aS ta 16 gow), (a 43, aS ta 16 gth), (a 36, aK ta 2 ru), (a 37, aK ta 2 le), (a 8, aZ ta 256 BOX), (a 9, aZ ta 256 UBOX), (a 16, aS ta 240 rk1_298), (a 18, aS ta 16 ce1_298), (a 22, aS ta 700 gm1_298), (a 24, aS ta 16 mac1_298), (a 25, aS ta 16 k11_298), (a 38, aS ta 192 gto), (a 41, aS ta 256 gt1_298), (h0, oM a ar1_298 mn1_298 tp osz lsz ns ct), (a 26, aS ta 120 gov1_303), (a 51, aS ta 8 ghs), (a 44, aS ta 16 gt1_268)] := hD
                refine lv_aload_n (pc := 306) hx hb dX10_make_306 rfl (lv_at hl 3 rfl) ?_
                refine lv_aload_n (pc := 307) hx hb dX10_make_307 rfl (lv_at hl 3 rfl) ?_
                refine va_get (pc := 308) (D := D) (ci := 8) (v := .ref (a 38)) (C := RX10) (T := TX10) (N := 57) hx hb hts iu10 hown hK hP 15 rfl rfl 38 (by decide) (hts _ tw_1083) (fun _ h9 => h9) rfl dX10_make_308 ?_
                refine lv_bipush (pc := 311) (v := nI 96) hx hb dX10_make_311 (by decide +kernel) ?_
                refine lv_iload_n (pc := 313) hx hb dX10_make_313 rfl (lv_at hl 4 rfl) ?_
                refine lv_imul (pc := 314) hx hb dX10_make_314 ?_
                refine q_top (y := nI (96 * sd)) (pk_mul 96 sd) ?_
                refine lv_bipush (pc := 315) (v := nI 32) hx hb dX10_make_315 (by decide +kernel) ?_
                refine lv_iadd (pc := 317) hx hb dX10_make_317 ?_
                refine q_top (y := nI (96 * sd + 32)) (nI_add (96 * sd) 32) ?_
                refine lv_iload_n (pc := 318) hx hb dX10_make_318 rfl (lv_at hl 2 rfl) ?_
                refine lv_bipush (pc := 319) (v := nI 6) hx hb dX10_make_319 (by decide +kernel) ?_
                refine lv_iload_n (pc := 321) hx hb dX10_make_321 rfl (lv_at hl 2 rfl) ?_
                refine lv_bipush (pc := 322) (v := nI 16) hx hb dX10_make_322 (by decide +kernel) ?_
                refine lv_aload_n (pc := 324) hx hb dX10_make_324 rfl (lv_at hl 3 rfl) ?_
                refine va_get (pc := 325) (D := D) (ci := 8) (v := .ref (a 41)) (C := RX10) (T := TX10) (N := 57) hx hb hts iu10 hown hK hP 15 rfl rfl 41 (by decide) (hts _ tw_1086) (fun _ h9 => h9) rfl dX10_make_325 ?_
                refine lv_iload (pc := 328) hx hb dX10_make_328 (lv_at hl 1 rfl) ?_
                refine lv_bipush (pc := 330) (v := nI 32) hx hb dX10_make_330 (by decide +kernel) ?_
                refine lv_iadd (pc := 332) hx hb dX10_make_332 ?_
                refine q_top (y := nI (128 * sd + 32)) (nI_add (128 * sd) 32) ?_
                refine cs_V (pc := 333) (idx := 340) (n := 8) (wr := [(a 52, aS ta 3 gnu), (a 33, aS ta 16 gna), (a 42, aS ta 16 gow), (a 43, aS ta 16 gth), (a 36, aK ta 2 ru), (a 37, aK ta 2 le), (a 51, aS ta 8 ghs), (a 44, aS ta 16 gt1_268)]) (As := [.ref (a 38), .int (nI (96 * sd + 32)), .int (nI (le sd)), .int (nI 6), .int (nI (le sd)), .int (nI 16), .ref (a 41), .int (nI (128 * sd + 32))]) (rest := []) (ci := 8) hx hb hml hown hts hGok hK hA hG hl.1 hP hD hS (ct_X10_kdf ll D ta hGok h0 a ar1_298 mn1_298 tp osz lsz ns ct gm1_298 mac1_298 k11_298 rk1_298 ce1_298 (a 38) (96 * sd + 32) 192 gto (le sd) 6 (le sd) 16 gov1_303 (a 41) (128 * sd + 32) 256 gt1_298 (by first | assumption | omega | rfl | decide) (by first | assumption | omega | rfl | decide) (by first | assumption | omega | rfl | decide) (by first | assumption | omega | rfl | decide) (by first | assumption | omega | rfl | decide) (by first | assumption | omega | rfl | decide) (by first | assumption | omega | rfl | decide) (by first | assumption | omega | rfl | decide) H.size) tw_1330 tw_1327 tw_1329 tw_42 tw_75 hdX10_kdf rfl ⟨rfl, rfl, Nat.le_of_ble_eq_true rfl, Nat.le_of_ble_eq_true rfl, Nat.le_of_ble_eq_true rfl, Nat.le_of_ble_eq_true rfl⟩ rfl rfl (q0 := 15) rfl [15, 6, 7, 8, 9, 10, 11, 12, 13, 16, 14] [0, 1, 2, 3, 4, 5, 17, 18] rfl rfl (by decide) rfl (Nat.le_of_ble_eq_true rfl) dX10_make_333 (fun u H locs hq hP hD hS => ?_)
                obtain ⟨ar1_333, mn1_333, gm1_333, mac1_333, k11_333, rk1_333, ce1_333, gt1_333⟩ := u
                have hq : (seg gt1_333 (128 * sd + 32) (le sd) = kdfL (seg gto (96 * sd + 32) (le sd)) 6 (le sd) (seg gov1_303 0 16)) ∧ (∀ jz, (jz < (128 * sd + 32) ∨ (128 * sd + 32) + (le sd) ≤ jz) → gt1_333 jz = gt1_298 jz) := hq
                obtain ⟨hL_333, hfr_333⟩ := hq
                refine W.eq (g2 := F0 mm 336 ls []) rfl ?_
                have hP : va_P D vwCl [(a 52, aS ta 3 gnu), (a 33, aS ta 16 gna), (a 42, aS ta 16 gow), (a 43, aS ta 16 gth), (a 36, aK ta 2 ru), (a 37, aK ta 2 le), (a 51, aS ta 8 ghs), (a 44, aS ta 16 gt1_268), (h0, oM a ar1_333 mn1_333 tp osz lsz ns ct), (a 8, aZ ta 256 BOX), (a 9, aZ ta 256 UBOX), (a 16, aS ta 240 rk1_333), (a 18, aS ta 16 ce1_333), (a 22, aS ta 700 gm1_333), (a 24, aS ta 16 mac1_333), (a 25, aS ta 16 k11_333), (a 38, aS ta 192 gto), (a 26, aS ta 120 gov1_303), (a 41, aS ta 256 gt1_333)] H := hP
                have hD : va_D A [(a 52, aS ta 3 gnu), (a 33, aS ta 16 gna), (a 42, aS ta 16 gow), (a 43, aS ta 16 gth), (a 36, aK ta 2 ru), (a 37, aK ta 2 le), (a 51, aS ta 8 ghs), (a 44, aS ta 16 gt1_268), (h0, oM a ar1_333 mn1_333 tp osz lsz ns ct), (a 8, aZ ta 256 BOX), (a 9, aZ ta 256 UBOX), (a 16, aS ta 240 rk1_333), (a 18, aS ta 16 ce1_333), (a 22, aS ta 700 gm1_333), (a 24, aS ta 16 mac1_333), (a 25, aS ta 16 k11_333), (a 38, aS ta 192 gto), (a 26, aS ta 120 gov1_303), (a 41, aS ta 256 gt1_333)] := hD
                refine lv_aload_n (pc := 336) hx hb dX10_make_336 rfl (lv_at hl 3 rfl) ?_
                refine lv_iload_n (pc := 337) hx hb dX10_make_337 rfl (lv_at hl 4 rfl) ?_
                refine cs_V (pc := 338) (idx := 344) (n := 1) (wr := [(a 52, aS ta 3 gnu), (a 33, aS ta 16 gna), (a 42, aS ta 16 gow), (a 43, aS ta 16 gth), (a 36, aK ta 2 ru), (a 37, aK ta 2 le), (a 8, aZ ta 256 BOX), (a 9, aZ ta 256 UBOX), (a 16, aS ta 240 rk1_333), (a 18, aS ta 16 ce1_333), (a 22, aS ta 700 gm1_333), (a 24, aS ta 16 mac1_333), (a 25, aS ta 16 k11_333), (a 38, aS ta 192 gto), (a 41, aS ta 256 gt1_333)]) (As := [.int (nI sd)]) (rest := []) (ci := 8) hx hb hml hown hts hGok hK hA hG hl.1 hP hD hS (ct_X10_aboutHost ll D ta hGok h0 a ar1_333 mn1_333 tp osz lsz ns ct gov1_303 ghs gt1_268 sd (by first | assumption | omega | rfl | decide) H.size) tw_1357 tw_1354 tw_1356 tw_48 tw_75 hdX10_aboutHost rfl ⟨rfl, rfl, Nat.le_of_ble_eq_true rfl, Nat.le_of_ble_eq_true rfl, Nat.le_of_ble_eq_true rfl, Nat.le_of_ble_eq_true rfl⟩ rfl rfl (q0 := 8) rfl [8, 17, 6, 7] [0, 1, 2, 3, 4, 5, 9, 10, 11, 12, 13, 14, 15, 16, 18] rfl rfl (by decide) rfl (Nat.le_of_ble_eq_true rfl) dX10_make_338 (fun u H locs hq hP hD hS => ?_)
                generalize u = gov1_338 at hq hP hD ⊢
                have hq : (seg gov1_338 0 16 = qL ghs 8 ++ seg gt1_268 (8 * sd) 8) := hq
                have hL_338 := hq
                refine W.eq (g2 := F0 mm 341 ls []) rfl ?_
                have hP : va_P D vwCl [(a 52, aS ta 3 gnu), (a 33, aS ta 16 gna), (a 42, aS ta 16 gow), (a 43, aS ta 16 gth), (a 36, aK ta 2 ru), (a 37, aK ta 2 le), (a 8, aZ ta 256 BOX), (a 9, aZ ta 256 UBOX), (a 16, aS ta 240 rk1_333), (a 18, aS ta 16 ce1_333), (a 22, aS ta 700 gm1_333), (a 24, aS ta 16 mac1_333), (a 25, aS ta 16 k11_333), (a 38, aS ta 192 gto), (a 41, aS ta 256 gt1_333), (h0, oM a ar1_333 mn1_333 tp osz lsz ns ct), (a 26, aS ta 120 gov1_338), (a 51, aS ta 8 ghs), (a 44, aS ta 16 gt1_268)] H := hP
                have hD : va_D A [(a 52, aS ta 3 gnu), (a 33, aS ta 16 gna), (a 42, aS ta 16 gow), (a 43, aS ta 16 gth), (a 36, aK ta 2 ru), (a 37, aK ta 2 le), (a 8, aZ ta 256 BOX), (a 9, aZ ta 256 UBOX), (a 16, aS ta 240 rk1_333), (a 18, aS ta 16 ce1_333), (a 22, aS ta 700 gm1_333), (a 24, aS ta 16 mac1_333), (a 25, aS ta 16 k11_333), (a 38, aS ta 192 gto), (a 41, aS ta 256 gt1_333), (h0, oM a ar1_333 mn1_333 tp osz lsz ns ct), (a 26, aS ta 120 gov1_338), (a 51, aS ta 8 ghs), (a 44, aS ta 16 gt1_268)] := hD
                refine lv_aload_n (pc := 341) hx hb dX10_make_341 rfl (lv_at hl 3 rfl) ?_
                refine lv_aload_n (pc := 342) hx hb dX10_make_342 rfl (lv_at hl 3 rfl) ?_
                refine va_get (pc := 343) (D := D) (ci := 8) (v := .ref (a 38)) (C := RX10) (T := TX10) (N := 57) hx hb hts iu10 hown hK hP 15 rfl rfl 38 (by decide) (hts _ tw_1083) (fun _ h9 => h9) rfl dX10_make_343 ?_
                refine lv_bipush (pc := 346) (v := nI 96) hx hb dX10_make_346 (by decide +kernel) ?_
                refine lv_iload_n (pc := 348) hx hb dX10_make_348 rfl (lv_at hl 4 rfl) ?_
                refine lv_imul (pc := 349) hx hb dX10_make_349 ?_
                refine q_top (y := nI (96 * sd)) (pk_mul 96 sd) ?_
                refine lv_bipush (pc := 350) (v := nI 32) hx hb dX10_make_350 (by decide +kernel) ?_
                refine lv_iadd (pc := 352) hx hb dX10_make_352 ?_
                refine q_top (y := nI (96 * sd + 32)) (nI_add (96 * sd) 32) ?_
                refine lv_iload_n (pc := 353) hx hb dX10_make_353 rfl (lv_at hl 2 rfl) ?_
                refine lv_bipush (pc := 354) (v := nI 7) hx hb dX10_make_354 (by decide +kernel) ?_
                refine lv_iload_n (pc := 356) hx hb dX10_make_356 rfl (lv_at hl 2 rfl) ?_
                refine lv_bipush (pc := 357) (v := nI 16) hx hb dX10_make_357 (by decide +kernel) ?_
                refine lv_aload_n (pc := 359) hx hb dX10_make_359 rfl (lv_at hl 3 rfl) ?_
                refine va_get (pc := 360) (D := D) (ci := 8) (v := .ref (a 41)) (C := RX10) (T := TX10) (N := 57) hx hb hts iu10 hown hK hP 15 rfl rfl 41 (by decide) (hts _ tw_1086) (fun _ h9 => h9) rfl dX10_make_360 ?_
                refine lv_iload (pc := 363) hx hb dX10_make_363 (lv_at hl 1 rfl) ?_
                refine lv_bipush (pc := 365) (v := nI 64) hx hb dX10_make_365 (by decide +kernel) ?_
                refine lv_iadd (pc := 367) hx hb dX10_make_367 ?_
                refine q_top (y := nI (128 * sd + 64)) (nI_add (128 * sd) 64) ?_
                refine cs_V (pc := 368) (idx := 340) (n := 8) (wr := [(a 52, aS ta 3 gnu), (a 33, aS ta 16 gna), (a 42, aS ta 16 gow), (a 43, aS ta 16 gth), (a 36, aK ta 2 ru), (a 37, aK ta 2 le), (a 51, aS ta 8 ghs), (a 44, aS ta 16 gt1_268)]) (As := [.ref (a 38), .int (nI (96 * sd + 32)), .int (nI (le sd)), .int (nI 7), .int (nI (le sd)), .int (nI 16), .ref (a 41), .int (nI (128 * sd + 64))]) (rest := []) (ci := 8) hx hb hml hown hts hGok hK hA hG hl.1 hP hD hS (ct_X10_kdf ll D ta hGok h0 a ar1_333 mn1_333 tp osz lsz ns ct gm1_333 mac1_333 k11_333 rk1_333 ce1_333 (a 38) (96 * sd + 32) 192 gto (le sd) 7 (le sd) 16 gov1_338 (a 41) (128 * sd + 64) 256 gt1_333 (by first | assumption | omega | rfl | decide) (by first | assumption | omega | rfl | decide) (by first | assumption | omega | rfl | decide) (by first | assumption | omega | rfl | decide) (by first | assumption | omega | rfl | decide) (by first | assumption | omega | rfl | decide) (by first | assumption | omega | rfl | decide) (by first | assumption | omega | rfl | decide) H.size) tw_1330 tw_1327 tw_1329 tw_42 tw_75 hdX10_kdf rfl ⟨rfl, rfl, Nat.le_of_ble_eq_true rfl, Nat.le_of_ble_eq_true rfl, Nat.le_of_ble_eq_true rfl, Nat.le_of_ble_eq_true rfl⟩ rfl rfl (q0 := 15) rfl [15, 6, 7, 8, 9, 10, 11, 12, 13, 16, 14] [0, 1, 2, 3, 4, 5, 17, 18] rfl rfl (by decide) rfl (Nat.le_of_ble_eq_true rfl) dX10_make_368 (fun u H locs hq hP hD hS => ?_)
                obtain ⟨ar1_368, mn1_368, gm1_368, mac1_368, k11_368, rk1_368, ce1_368, gt1_368⟩ := u
                have hq : (seg gt1_368 (128 * sd + 64) (le sd) = kdfL (seg gto (96 * sd + 32) (le sd)) 7 (le sd) (seg gov1_338 0 16)) ∧ (∀ jz, (jz < (128 * sd + 64) ∨ (128 * sd + 64) + (le sd) ≤ jz) → gt1_368 jz = gt1_333 jz) := hq
                obtain ⟨hL_368, hfr_368⟩ := hq
                refine W.eq (g2 := F0 mm 371 ls []) rfl ?_
                have hP : va_P D vwCl [(a 52, aS ta 3 gnu), (a 33, aS ta 16 gna), (a 42, aS ta 16 gow), (a 43, aS ta 16 gth), (a 36, aK ta 2 ru), (a 37, aK ta 2 le), (a 51, aS ta 8 ghs), (a 44, aS ta 16 gt1_268), (h0, oM a ar1_368 mn1_368 tp osz lsz ns ct), (a 8, aZ ta 256 BOX), (a 9, aZ ta 256 UBOX), (a 16, aS ta 240 rk1_368), (a 18, aS ta 16 ce1_368), (a 22, aS ta 700 gm1_368), (a 24, aS ta 16 mac1_368), (a 25, aS ta 16 k11_368), (a 38, aS ta 192 gto), (a 26, aS ta 120 gov1_338), (a 41, aS ta 256 gt1_368)] H := hP
                have hD : va_D A [(a 52, aS ta 3 gnu), (a 33, aS ta 16 gna), (a 42, aS ta 16 gow), (a 43, aS ta 16 gth), (a 36, aK ta 2 ru), (a 37, aK ta 2 le), (a 51, aS ta 8 ghs), (a 44, aS ta 16 gt1_268), (h0, oM a ar1_368 mn1_368 tp osz lsz ns ct), (a 8, aZ ta 256 BOX), (a 9, aZ ta 256 UBOX), (a 16, aS ta 240 rk1_368), (a 18, aS ta 16 ce1_368), (a 22, aS ta 700 gm1_368), (a 24, aS ta 16 mac1_368), (a 25, aS ta 16 k11_368), (a 38, aS ta 192 gto), (a 26, aS ta 120 gov1_338), (a 41, aS ta 256 gt1_368)] := hD
                refine lv_iconst (pc := 371) (v := nI 0) hx hb dX10_make_371 (by decide +kernel) ?_
                refine lv_istore (pc := 372) (lv' := [(5, .int (nI 0)), (4, .int (nI (128 * sd))), (3, .int (nI (le sd))), (0, .ref h0), (1, .int (nI sd)), (2, .int (nI 1))]) hx hb dX10_make_372 hl (by decide) rfl (fun ls hl => ?_)
                have LP374 : ∀ (nn374 : Nat) (k3 : Nat) (s' : Nat → BitVec 8), (k3 ≤ le sd) → (qSeg s' gt1_368 (128 * sd + 96) k3 ((fun j => gto (96 * sd + 64 + j)))) → (le sd - k3 < nn374) → ∀ (H : Heap) (locs : List Loc), va_P D vwCl [(a 52, aS ta 3 gnu), (a 33, aS ta 16 gna), (a 42, aS ta 16 gow), (a 43, aS ta 16 gth), (a 36, aK ta 2 ru), (a 37, aK ta 2 le), (a 51, aS ta 8 ghs), (a 44, aS ta 16 gt1_268), (h0, oM a ar1_368 mn1_368 tp osz lsz ns ct), (a 8, aZ ta 256 BOX), (a 9, aZ ta 256 UBOX), (a 16, aS ta 240 rk1_368), (a 18, aS ta 16 ce1_368), (a 22, aS ta 700 gm1_368), (a 24, aS ta 16 mac1_368), (a 25, aS ta 16 k11_368), (a 38, aS ta 192 gto), (a 26, aS ta 120 gov1_338), (a 41, aS ta 256 s')] H → va_D A [(a 52, aS ta 3 gnu), (a 33, aS ta 16 gna), (a 42, aS ta 16 gow), (a 43, aS ta 16 gth), (a 36, aK ta 2 ru), (a 37, aK ta 2 le), (a 51, aS ta 8 ghs), (a 44, aS ta 16 gt1_268), (h0, oM a ar1_368 mn1_368 tp osz lsz ns ct), (a 8, aZ ta 256 BOX), (a 9, aZ ta 256 UBOX), (a 16, aS ta 240 rk1_368), (a 18, aS ta 16 ce1_368), (a 22, aS ta 700 gm1_368), (a 24, aS ta 16 mac1_368), (a 25, aS ta 16 k11_368), (a 38, aS ta 192 gto), (a 26, aS ta 120 gov1_338), (a 41, aS ta 256 s')] → va_S A ss.heap H locs → ∀ ls : Array Slot, lv_has ls 6 [(5, .int (nI k3)), (4, .int (nI (128 * sd))), (3, .int (nI (le sd))), (0, .ref h0), (1, .int (nI sd)), (2, .int (nI 1))] → W pp ll ee ({ frames := 6, cells := 0, slots := 0, locals := 154 } : Room) ss mm (([.ref h0, .int (nI sd), .int (nI 1)] : List Value).toArray) below meth kc H locs 0 0 Q (F0 mm 374 ls []) := by
                  intro nn374
                  induction nn374 with
                  | zero => intro k3 s' hkk3 hs3 hmu; exact absurd hmu (Nat.not_lt_zero _)
                  | succ nn374 ih374 =>
                    intro k3 s' hkk3 hs3 hmu374 H locs hP hD hS ls hl
                    refine lv_iload (pc := 374) hx hb dX10_make_374 (lv_at hl 0 rfl) ?_
                    refine lv_iload_n (pc := 376) hx hb dX10_make_376 rfl (lv_at hl 2 rfl) ?_
                    refine lv_icmp_ge (pc := 377) (tgt := 414) hx hb dX10_make_377 (by decide) (fun c_5 => ?_) (fun c_5 => ?_)
                    · skip
                      rw [nI_leI (by omega) (by omega)] at c_5
                      refine lv_aload_n (pc := 414) hx hb dX10_make_414 rfl (lv_at hl 3 rfl) ?_
                      refine lv_iload_n (pc := 415) hx hb dX10_make_415 rfl (lv_at hl 4 rfl) ?_
                      refine cs_V (pc := 416) (idx := 344) (n := 1) (wr := [(a 52, aS ta 3 gnu), (a 33, aS ta 16 gna), (a 42, aS ta 16 gow), (a 43, aS ta 16 gth), (a 36, aK ta 2 ru), (a 37, aK ta 2 le), (a 8, aZ ta 256 BOX), (a 9, aZ ta 256 UBOX), (a 16, aS ta 240 rk1_368), (a 18, aS ta 16 ce1_368), (a 22, aS ta 700 gm1_368), (a 24, aS ta 16 mac1_368), (a 25, aS ta 16 k11_368), (a 38, aS ta 192 gto), (a 41, aS ta 256 s')]) (As := [.int (nI sd)]) (rest := []) (ci := 8) hx hb hml hown hts hGok hK hA hG hl.1 hP hD hS (ct_X10_aboutHost ll D ta hGok h0 a ar1_368 mn1_368 tp osz lsz ns ct gov1_338 ghs gt1_268 sd (by first | assumption | omega | rfl | decide) H.size) tw_1357 tw_1354 tw_1356 tw_48 tw_75 hdX10_aboutHost rfl ⟨rfl, rfl, Nat.le_of_ble_eq_true rfl, Nat.le_of_ble_eq_true rfl, Nat.le_of_ble_eq_true rfl, Nat.le_of_ble_eq_true rfl⟩ rfl rfl (q0 := 8) rfl [8, 17, 6, 7] [0, 1, 2, 3, 4, 5, 9, 10, 11, 12, 13, 14, 15, 16, 18] rfl rfl (by decide) rfl (Nat.le_of_ble_eq_true rfl) dX10_make_416 (fun u H locs hq hP hD hS => ?_)
                      generalize u = gov1_416 at hq hP hD ⊢
                      have hq : (seg gov1_416 0 16 = qL ghs 8 ++ seg gt1_268 (8 * sd) 8) := hq
                      have hL_416 := hq
                      refine W.eq (g2 := F0 mm 419 ls []) rfl ?_
                      have hP : va_P D vwCl [(a 52, aS ta 3 gnu), (a 33, aS ta 16 gna), (a 42, aS ta 16 gow), (a 43, aS ta 16 gth), (a 36, aK ta 2 ru), (a 37, aK ta 2 le), (a 8, aZ ta 256 BOX), (a 9, aZ ta 256 UBOX), (a 16, aS ta 240 rk1_368), (a 18, aS ta 16 ce1_368), (a 22, aS ta 700 gm1_368), (a 24, aS ta 16 mac1_368), (a 25, aS ta 16 k11_368), (a 38, aS ta 192 gto), (a 41, aS ta 256 s'), (h0, oM a ar1_368 mn1_368 tp osz lsz ns ct), (a 26, aS ta 120 gov1_416), (a 51, aS ta 8 ghs), (a 44, aS ta 16 gt1_268)] H := hP
                      have hD : va_D A [(a 52, aS ta 3 gnu), (a 33, aS ta 16 gna), (a 42, aS ta 16 gow), (a 43, aS ta 16 gth), (a 36, aK ta 2 ru), (a 37, aK ta 2 le), (a 8, aZ ta 256 BOX), (a 9, aZ ta 256 UBOX), (a 16, aS ta 240 rk1_368), (a 18, aS ta 16 ce1_368), (a 22, aS ta 700 gm1_368), (a 24, aS ta 16 mac1_368), (a 25, aS ta 16 k11_368), (a 38, aS ta 192 gto), (a 41, aS ta 256 s'), (h0, oM a ar1_368 mn1_368 tp osz lsz ns ct), (a 26, aS ta 120 gov1_416), (a 51, aS ta 8 ghs), (a 44, aS ta 16 gt1_268)] := hD
                      refine lv_aload_n (pc := 419) hx hb dX10_make_419 rfl (lv_at hl 3 rfl) ?_
                      refine lv_aload_n (pc := 420) hx hb dX10_make_420 rfl (lv_at hl 3 rfl) ?_
                      refine va_get (pc := 421) (D := D) (ci := 8) (v := .ref (a 41)) (C := RX10) (T := TX10) (N := 57) hx hb hts iu10 hown hK hP 15 rfl rfl 41 (by decide) (hts _ tw_1086) (fun _ h9 => h9) rfl dX10_make_421 ?_
                      refine lv_iload (pc := 424) hx hb dX10_make_424 (lv_at hl 1 rfl) ?_
                      refine lv_bipush (pc := 426) (v := nI 32) hx hb dX10_make_426 (by decide +kernel) ?_
                      refine lv_iadd (pc := 428) hx hb dX10_make_428 ?_
                      refine q_top (y := nI (128 * sd + 32)) (nI_add (128 * sd) 32) ?_
                      refine lv_iload_n (pc := 429) hx hb dX10_make_429 rfl (lv_at hl 2 rfl) ?_
                      refine lv_iconst (pc := 430) (v := nI 0) hx hb dX10_make_430 (by decide +kernel) ?_
                      refine lv_bipush (pc := 431) (v := nI 8) hx hb dX10_make_431 (by decide +kernel) ?_
                      refine lv_bipush (pc := 433) (v := nI 16) hx hb dX10_make_433 (by decide +kernel) ?_
                      refine lv_aload_n (pc := 435) hx hb dX10_make_435 rfl (lv_at hl 3 rfl) ?_
                      refine va_get (pc := 436) (D := D) (ci := 8) (v := .ref (a 42)) (C := RX10) (T := TX10) (N := 57) hx hb hts iu10 hown hK hP 15 rfl rfl 42 (by decide) (hts _ tw_1087) (fun _ h9 => h9) rfl dX10_make_436 ?_
                      refine lv_bipush (pc := 439) (v := nI 8) hx hb dX10_make_439 (by decide +kernel) ?_
                      refine lv_iload_n (pc := 441) hx hb dX10_make_441 rfl (lv_at hl 4 rfl) ?_
                      refine lv_imul (pc := 442) hx hb dX10_make_442 ?_
                      refine q_top (y := nI (8 * sd)) (pk_mul 8 sd) ?_
                      refine cs_V (pc := 443) (idx := 340) (n := 8) (wr := [(a 52, aS ta 3 gnu), (a 33, aS ta 16 gna), (a 43, aS ta 16 gth), (a 36, aK ta 2 ru), (a 37, aK ta 2 le), (a 38, aS ta 192 gto), (a 51, aS ta 8 ghs), (a 44, aS ta 16 gt1_268)]) (As := [.ref (a 41), .int (nI (128 * sd + 32)), .int (nI (le sd)), .int (nI 0), .int (nI 8), .int (nI 16), .ref (a 42), .int (nI (8 * sd))]) (rest := []) (ci := 8) hx hb hml hown hts hGok hK hA hG hl.1 hP hD hS (ct_X10_kdf ll D ta hGok h0 a ar1_368 mn1_368 tp osz lsz ns ct gm1_368 mac1_368 k11_368 rk1_368 ce1_368 (a 41) (128 * sd + 32) 256 s' (le sd) 0 8 16 gov1_416 (a 42) (8 * sd) 16 gow (by first | assumption | omega | rfl | decide) (by first | assumption | omega | rfl | decide) (by first | assumption | omega | rfl | decide) (by first | assumption | omega | rfl | decide) (by first | assumption | omega | rfl | decide) (by first | assumption | omega | rfl | decide) (by first | assumption | omega | rfl | decide) (by first | assumption | omega | rfl | decide) H.size) tw_1330 tw_1327 tw_1329 tw_42 tw_75 hdX10_kdf rfl ⟨rfl, rfl, Nat.le_of_ble_eq_true rfl, Nat.le_of_ble_eq_true rfl, Nat.le_of_ble_eq_true rfl, Nat.le_of_ble_eq_true rfl⟩ rfl rfl (q0 := 15) rfl [15, 6, 7, 8, 9, 10, 11, 12, 14, 16, 2] [0, 1, 3, 4, 5, 13, 17, 18] rfl rfl (by decide) rfl (Nat.le_of_ble_eq_true rfl) dX10_make_443 (fun u H locs hq hP hD hS => ?_)
                      obtain ⟨ar1_443, mn1_443, gm1_443, mac1_443, k11_443, rk1_443, ce1_443, gt1_443⟩ := u
                      have hq : (seg gt1_443 (8 * sd) 8 = kdfL (seg s' (128 * sd + 32) (le sd)) 0 8 (seg gov1_416 0 16)) ∧ (∀ jz, (jz < (8 * sd) ∨ (8 * sd) + 8 ≤ jz) → gt1_443 jz = gow jz) := hq
                      obtain ⟨hL_443, hfr_443⟩ := hq
                      refine W.eq (g2 := F0 mm 446 ls []) rfl ?_
                      have hP : va_P D vwCl [(a 52, aS ta 3 gnu), (a 33, aS ta 16 gna), (a 43, aS ta 16 gth), (a 36, aK ta 2 ru), (a 37, aK ta 2 le), (a 38, aS ta 192 gto), (a 51, aS ta 8 ghs), (a 44, aS ta 16 gt1_268), (h0, oM a ar1_443 mn1_443 tp osz lsz ns ct), (a 8, aZ ta 256 BOX), (a 9, aZ ta 256 UBOX), (a 16, aS ta 240 rk1_443), (a 18, aS ta 16 ce1_443), (a 22, aS ta 700 gm1_443), (a 24, aS ta 16 mac1_443), (a 25, aS ta 16 k11_443), (a 41, aS ta 256 s'), (a 26, aS ta 120 gov1_416), (a 42, aS ta 16 gt1_443)] H := hP
                      have hD : va_D A [(a 52, aS ta 3 gnu), (a 33, aS ta 16 gna), (a 43, aS ta 16 gth), (a 36, aK ta 2 ru), (a 37, aK ta 2 le), (a 38, aS ta 192 gto), (a 51, aS ta 8 ghs), (a 44, aS ta 16 gt1_268), (h0, oM a ar1_443 mn1_443 tp osz lsz ns ct), (a 8, aZ ta 256 BOX), (a 9, aZ ta 256 UBOX), (a 16, aS ta 240 rk1_443), (a 18, aS ta 16 ce1_443), (a 22, aS ta 700 gm1_443), (a 24, aS ta 16 mac1_443), (a 25, aS ta 16 k11_443), (a 41, aS ta 256 s'), (a 26, aS ta 120 gov1_416), (a 42, aS ta 16 gt1_443)] := hD
                      refine lv_aload_n (pc := 446) hx hb dX10_make_446 rfl (lv_at hl 3 rfl) ?_
                      refine lv_iload_n (pc := 447) hx hb dX10_make_447 rfl (lv_at hl 4 rfl) ?_
                      refine cs_V (pc := 448) (idx := 344) (n := 1) (wr := [(a 52, aS ta 3 gnu), (a 33, aS ta 16 gna), (a 43, aS ta 16 gth), (a 36, aK ta 2 ru), (a 37, aK ta 2 le), (a 38, aS ta 192 gto), (a 8, aZ ta 256 BOX), (a 9, aZ ta 256 UBOX), (a 16, aS ta 240 rk1_443), (a 18, aS ta 16 ce1_443), (a 22, aS ta 700 gm1_443), (a 24, aS ta 16 mac1_443), (a 25, aS ta 16 k11_443), (a 41, aS ta 256 s'), (a 42, aS ta 16 gt1_443)]) (As := [.int (nI sd)]) (rest := []) (ci := 8) hx hb hml hown hts hGok hK hA hG hl.1 hP hD hS (ct_X10_aboutHost ll D ta hGok h0 a ar1_443 mn1_443 tp osz lsz ns ct gov1_416 ghs gt1_268 sd (by first | assumption | omega | rfl | decide) H.size) tw_1357 tw_1354 tw_1356 tw_48 tw_75 hdX10_aboutHost rfl ⟨rfl, rfl, Nat.le_of_ble_eq_true rfl, Nat.le_of_ble_eq_true rfl, Nat.le_of_ble_eq_true rfl, Nat.le_of_ble_eq_true rfl⟩ rfl rfl (q0 := 8) rfl [8, 17, 6, 7] [0, 1, 2, 3, 4, 5, 9, 10, 11, 12, 13, 14, 15, 16, 18] rfl rfl (by decide) rfl (Nat.le_of_ble_eq_true rfl) dX10_make_448 (fun u H locs hq hP hD hS => ?_)
                      generalize u = gov1_448 at hq hP hD ⊢
                      have hq : (seg gov1_448 0 16 = qL ghs 8 ++ seg gt1_268 (8 * sd) 8) := hq
                      have hL_448 := hq
                      refine W.eq (g2 := F0 mm 451 ls []) rfl ?_
                      have hP : va_P D vwCl [(a 52, aS ta 3 gnu), (a 33, aS ta 16 gna), (a 43, aS ta 16 gth), (a 36, aK ta 2 ru), (a 37, aK ta 2 le), (a 38, aS ta 192 gto), (a 8, aZ ta 256 BOX), (a 9, aZ ta 256 UBOX), (a 16, aS ta 240 rk1_443), (a 18, aS ta 16 ce1_443), (a 22, aS ta 700 gm1_443), (a 24, aS ta 16 mac1_443), (a 25, aS ta 16 k11_443), (a 41, aS ta 256 s'), (a 42, aS ta 16 gt1_443), (h0, oM a ar1_443 mn1_443 tp osz lsz ns ct), (a 26, aS ta 120 gov1_448), (a 51, aS ta 8 ghs), (a 44, aS ta 16 gt1_268)] H := hP
                      have hD : va_D A [(a 52, aS ta 3 gnu), (a 33, aS ta 16 gna), (a 43, aS ta 16 gth), (a 36, aK ta 2 ru), (a 37, aK ta 2 le), (a 38, aS ta 192 gto), (a 8, aZ ta 256 BOX), (a 9, aZ ta 256 UBOX), (a 16, aS ta 240 rk1_443), (a 18, aS ta 16 ce1_443), (a 22, aS ta 700 gm1_443), (a 24, aS ta 16 mac1_443), (a 25, aS ta 16 k11_443), (a 41, aS ta 256 s'), (a 42, aS ta 16 gt1_443), (h0, oM a ar1_443 mn1_443 tp osz lsz ns ct), (a 26, aS ta 120 gov1_448), (a 51, aS ta 8 ghs), (a 44, aS ta 16 gt1_268)] := hD
                      refine lv_aload_n (pc := 451) hx hb dX10_make_451 rfl (lv_at hl 3 rfl) ?_
                      refine lv_aload_n (pc := 452) hx hb dX10_make_452 rfl (lv_at hl 3 rfl) ?_
                      refine va_get (pc := 453) (D := D) (ci := 8) (v := .ref (a 41)) (C := RX10) (T := TX10) (N := 57) hx hb hts iu10 hown hK hP 15 rfl rfl 41 (by decide) (hts _ tw_1086) (fun _ h9 => h9) rfl dX10_make_453 ?_
                      refine lv_iload (pc := 456) hx hb dX10_make_456 (lv_at hl 1 rfl) ?_
                      refine lv_bipush (pc := 458) (v := nI 32) hx hb dX10_make_458 (by decide +kernel) ?_
                      refine lv_iadd (pc := 460) hx hb dX10_make_460 ?_
                      refine q_top (y := nI (128 * sd + 32)) (nI_add (128 * sd) 32) ?_
                      refine lv_iload_n (pc := 461) hx hb dX10_make_461 rfl (lv_at hl 2 rfl) ?_
                      refine lv_iconst (pc := 462) (v := nI 1) hx hb dX10_make_462 (by decide +kernel) ?_
                      refine lv_bipush (pc := 463) (v := nI 8) hx hb dX10_make_463 (by decide +kernel) ?_
                      refine lv_bipush (pc := 465) (v := nI 16) hx hb dX10_make_465 (by decide +kernel) ?_
                      refine lv_aload_n (pc := 467) hx hb dX10_make_467 rfl (lv_at hl 3 rfl) ?_
                      refine va_get (pc := 468) (D := D) (ci := 8) (v := .ref (a 43)) (C := RX10) (T := TX10) (N := 57) hx hb hts iu10 hown hK hP 15 rfl rfl 43 (by decide) (hts _ tw_1088) (fun _ h9 => h9) rfl dX10_make_468 ?_
                      refine lv_bipush (pc := 471) (v := nI 8) hx hb dX10_make_471 (by decide +kernel) ?_
                      refine lv_iload_n (pc := 473) hx hb dX10_make_473 rfl (lv_at hl 4 rfl) ?_
                      refine lv_imul (pc := 474) hx hb dX10_make_474 ?_
                      refine q_top (y := nI (8 * sd)) (pk_mul 8 sd) ?_
                      refine cs_V (pc := 475) (idx := 340) (n := 8) (wr := [(a 52, aS ta 3 gnu), (a 33, aS ta 16 gna), (a 36, aK ta 2 ru), (a 37, aK ta 2 le), (a 38, aS ta 192 gto), (a 42, aS ta 16 gt1_443), (a 51, aS ta 8 ghs), (a 44, aS ta 16 gt1_268)]) (As := [.ref (a 41), .int (nI (128 * sd + 32)), .int (nI (le sd)), .int (nI 1), .int (nI 8), .int (nI 16), .ref (a 43), .int (nI (8 * sd))]) (rest := []) (ci := 8) hx hb hml hown hts hGok hK hA hG hl.1 hP hD hS (ct_X10_kdf ll D ta hGok h0 a ar1_443 mn1_443 tp osz lsz ns ct gm1_443 mac1_443 k11_443 rk1_443 ce1_443 (a 41) (128 * sd + 32) 256 s' (le sd) 1 8 16 gov1_448 (a 43) (8 * sd) 16 gth (by first | assumption | omega | rfl | decide) (by first | assumption | omega | rfl | decide) (by first | assumption | omega | rfl | decide) (by first | assumption | omega | rfl | decide) (by first | assumption | omega | rfl | decide) (by first | assumption | omega | rfl | decide) (by first | assumption | omega | rfl | decide) (by first | assumption | omega | rfl | decide) H.size) tw_1330 tw_1327 tw_1329 tw_42 tw_75 hdX10_kdf rfl ⟨rfl, rfl, Nat.le_of_ble_eq_true rfl, Nat.le_of_ble_eq_true rfl, Nat.le_of_ble_eq_true rfl, Nat.le_of_ble_eq_true rfl⟩ rfl rfl (q0 := 15) rfl [15, 6, 7, 8, 9, 10, 11, 12, 13, 16, 2] [0, 1, 3, 4, 5, 14, 17, 18] rfl rfl (by decide) rfl (Nat.le_of_ble_eq_true rfl) dX10_make_475 (fun u H locs hq hP hD hS => ?_)
                      obtain ⟨ar1_475, mn1_475, gm1_475, mac1_475, k11_475, rk1_475, ce1_475, gt1_475⟩ := u
                      have hq : (seg gt1_475 (8 * sd) 8 = kdfL (seg s' (128 * sd + 32) (le sd)) 1 8 (seg gov1_448 0 16)) ∧ (∀ jz, (jz < (8 * sd) ∨ (8 * sd) + 8 ≤ jz) → gt1_475 jz = gth jz) := hq
                      obtain ⟨hL_475, hfr_475⟩ := hq
                      refine W.eq (g2 := F0 mm 478 ls []) rfl ?_
                      have hP : va_P D vwCl [(a 52, aS ta 3 gnu), (a 33, aS ta 16 gna), (a 36, aK ta 2 ru), (a 37, aK ta 2 le), (a 38, aS ta 192 gto), (a 42, aS ta 16 gt1_443), (a 51, aS ta 8 ghs), (a 44, aS ta 16 gt1_268), (h0, oM a ar1_475 mn1_475 tp osz lsz ns ct), (a 8, aZ ta 256 BOX), (a 9, aZ ta 256 UBOX), (a 16, aS ta 240 rk1_475), (a 18, aS ta 16 ce1_475), (a 22, aS ta 700 gm1_475), (a 24, aS ta 16 mac1_475), (a 25, aS ta 16 k11_475), (a 41, aS ta 256 s'), (a 26, aS ta 120 gov1_448), (a 43, aS ta 16 gt1_475)] H := hP
                      have hD : va_D A [(a 52, aS ta 3 gnu), (a 33, aS ta 16 gna), (a 36, aK ta 2 ru), (a 37, aK ta 2 le), (a 38, aS ta 192 gto), (a 42, aS ta 16 gt1_443), (a 51, aS ta 8 ghs), (a 44, aS ta 16 gt1_268), (h0, oM a ar1_475 mn1_475 tp osz lsz ns ct), (a 8, aZ ta 256 BOX), (a 9, aZ ta 256 UBOX), (a 16, aS ta 240 rk1_475), (a 18, aS ta 16 ce1_475), (a 22, aS ta 700 gm1_475), (a 24, aS ta 16 mac1_475), (a 25, aS ta 16 k11_475), (a 41, aS ta 256 s'), (a 26, aS ta 120 gov1_448), (a 43, aS ta 16 gt1_475)] := hD
                      have hq_6 : (seg s' (128 * sd) (le sd) = kdfL (seg gto (96 * sd) (le sd)) 4 (le sd) (qL ghs 8 ++ seg gt1_268 (8 * sd) 8)) ∧ (seg s' (128 * sd + 32) (le sd) = kdfL (seg gto (96 * sd + 32) (le sd)) 6 (le sd) (qL ghs 8 ++ seg gt1_268 (8 * sd) 8)) ∧ (seg s' (128 * sd + 64) (le sd) = kdfL (seg gto (96 * sd + 32) (le sd)) 7 (le sd) (qL ghs 8 ++ seg gt1_268 (8 * sd) 8)) ∧ (seg s' (128 * sd + 96) (le sd) = seg gto (96 * sd + 64) (le sd)) ∧ (∀ j, (j < 128 * sd ∨ 128 * sd + 128 ≤ j) → s' j = gke j) ∧ (seg gt1_268 (8 * sd) 8 = kdfL (seg gto (96 * sd) (le sd)) 2 8 (qL gnu 3 ++ qL gna ns)) ∧ (∀ j, (j < 8 * sd ∨ 8 * sd + 8 ≤ j) → gt1_268 j = gck j) ∧ (seg gt1_443 (8 * sd) 8 = kdfL (kdfL (seg gto (96 * sd + 32) (le sd)) 6 (le sd) (qL ghs 8 ++ seg gt1_268 (8 * sd) 8)) 0 8 (qL ghs 8 ++ seg gt1_268 (8 * sd) 8)) ∧ (∀ j, (j < 8 * sd ∨ 8 * sd + 8 ≤ j) → gt1_443 j = gow j) ∧ (seg gt1_475 (8 * sd) 8 = kdfL (kdfL (seg gto (96 * sd + 32) (le sd)) 6 (le sd) (qL ghs 8 ++ seg gt1_268 (8 * sd) 8)) 1 8 (qL ghs 8 ++ seg gt1_268 (8 * sd) 8)) ∧ (∀ j, (j < 8 * sd ∨ 8 * sd + 8 ≤ j) → gt1_475 j = gth j) := by
                        have hEE := (seg_keep (g' := s') (g := gt1_298) (o := 128 * sd) (n := le sd) fun j hj => by rw [hs3.2 _ (by omega), hfr_368 _ (by omega), hfr_333 _ (by omega)]).trans hL_298
                        have hMM := (seg_keep (g' := s') (g := gt1_333) (o := 128 * sd + 32) (n := le sd) fun j hj => by rw [hs3.2 _ (by omega), hfr_368 _ (by omega)]).trans hL_333
                        have hBB := (seg_keep (g' := s') (g := gt1_368) (o := 128 * sd + 64) (n := le sd) fun j hj => by rw [hs3.2 _ (by omega)]).trans hL_368
                        rw [hL_273] at hEE
                        rw [hL_303] at hMM
                        rw [hL_338] at hBB
                        refine ⟨hEE, hMM, hBB, seg_copy hs3 (by omega), fun j hj => by rw [hs3.2 j (by omega), hfr_368 j (by omega), hfr_333 j (by omega), hfr_298 j (by omega)], ?_, hfr_268, hL_443.trans (by rw [hL_416, hMM]), hfr_443, hL_475.trans (by rw [hL_448, hMM]), hfr_475⟩
                        rw [hL_268, seg_app, Nat.zero_add, seg_copy0 hs2 (by omega), seg_keep (g' := o2') (g := o') (o := 0) (n := 3) (fun j hj => hs2.2 _ (by omega)), seg_copy0 hs1 (by omega)]
                      exact hret (⟨(rk1_475), (ce1_475), (gm1_475), (mac1_475), (k11_475), (gov1_448), (s'), (gt1_443), (gt1_475), (gt1_268), (mn1_475), (ar1_475)⟩ : (Nat → BitVec 8) × (Nat → BitVec 8) × (Nat → BitVec 8) × (Nat → BitVec 8) × (Nat → BitVec 8) × (Nat → BitVec 8) × (Nat → BitVec 8) × (Nat → BitVec 8) × (Nat → BitVec 8) × (Nat → BitVec 8) × Nat × Nat) _ _ _ _ dX10_make_478 hq_6 (hP.sub [8, 9, 10, 11, 12, 13, 14, 15, 17, 0, 6, 1, 4, 16, 5, 18, 7, 2, 3] rfl) (hD.sub [8, 9, 10, 11, 12, 13, 14, 15, 17, 0, 6, 1, 4, 16, 5, 18, 7, 2, 3] (by decide) rfl) hS
                    · skip
                      rw [nI_leI (by omega) (by omega)] at c_5
                      refine lv_aload_n (pc := 380) hx hb dX10_make_380 rfl (lv_at hl 3 rfl) ?_
                      refine va_get (pc := 381) (D := D) (ci := 8) (v := .ref (a 41)) (C := RX10) (T := TX10) (N := 57) hx hb hts iu10 hown hK hP 8 rfl rfl 41 (by decide) (hts _ tw_1086) (fun _ h9 => h9) rfl dX10_make_381 ?_
                      refine lv_iload (pc := 384) hx hb dX10_make_384 (lv_at hl 1 rfl) ?_
                      refine lv_bipush (pc := 386) (v := nI 96) hx hb dX10_make_386 (by decide +kernel) ?_
                      refine lv_iadd (pc := 388) hx hb dX10_make_388 ?_
                      refine q_top (y := nI (128 * sd + 96)) (nI_add (128 * sd) 96) ?_
                      refine lv_iload (pc := 389) hx hb dX10_make_389 (lv_at hl 0 rfl) ?_
                      refine lv_iadd (pc := 391) hx hb dX10_make_391 ?_
                      refine q_top (y := nI (128 * sd + 96 + k3)) (nI_add (128 * sd + 96) k3) ?_
                      refine lv_aload_n (pc := 392) hx hb dX10_make_392 rfl (lv_at hl 3 rfl) ?_
                      refine va_get (pc := 393) (D := D) (ci := 8) (v := .ref (a 38)) (C := RX10) (T := TX10) (N := 57) hx hb hts iu10 hown hK hP 8 rfl rfl 38 (by decide) (hts _ tw_1083) (fun _ h9 => h9) rfl dX10_make_393 ?_
                      refine lv_bipush (pc := 396) (v := nI 96) hx hb dX10_make_396 (by decide +kernel) ?_
                      refine lv_iload_n (pc := 398) hx hb dX10_make_398 rfl (lv_at hl 4 rfl) ?_
                      refine lv_imul (pc := 399) hx hb dX10_make_399 ?_
                      refine q_top (y := nI (96 * sd)) (pk_mul 96 sd) ?_
                      refine lv_bipush (pc := 400) (v := nI 64) hx hb dX10_make_400 (by decide +kernel) ?_
                      refine lv_iadd (pc := 402) hx hb dX10_make_402 ?_
                      refine q_top (y := nI (96 * sd + 64)) (nI_add (96 * sd) 64) ?_
                      refine lv_iload (pc := 403) hx hb dX10_make_403 (lv_at hl 0 rfl) ?_
                      refine lv_iadd (pc := 405) hx hb dX10_make_405 ?_
                      refine q_top (y := nI (96 * sd + 64 + k3)) (nI_add (96 * sd + 64) k3) ?_
                      refine q_bald (pc := 406) hx hb hK hP 16 2 rfl rfl (k := 96 * sd + 64 + k3) (v := qs (gto (96 * sd + 64 + k3))) rfl (by omega) (by omega) rfl dX10_make_406 ?_
                      refine q_bastS (pc := 407) hx hb hK hP hD hS 18 2 rfl rfl (k := 128 * sd + 96 + k3) rfl (by omega) (by omega) (b := gto (96 * sd + 64 + k3)) (qlo_qs _) dX10_make_407 (fun H locs hP hD hS => ?_)
                      have hP : va_P D vwCl [(a 52, aS ta 3 gnu), (a 33, aS ta 16 gna), (a 42, aS ta 16 gow), (a 43, aS ta 16 gth), (a 36, aK ta 2 ru), (a 37, aK ta 2 le), (a 51, aS ta 8 ghs), (a 44, aS ta 16 gt1_268), (h0, oM a ar1_368 mn1_368 tp osz lsz ns ct), (a 8, aZ ta 256 BOX), (a 9, aZ ta 256 UBOX), (a 16, aS ta 240 rk1_368), (a 18, aS ta 16 ce1_368), (a 22, aS ta 700 gm1_368), (a 24, aS ta 16 mac1_368), (a 25, aS ta 16 k11_368), (a 38, aS ta 192 gto), (a 26, aS ta 120 gov1_338), (a 41, aS ta 256 (qU s' (128 * sd + 96 + k3) (gto (96 * sd + 64 + k3))))] H := hP
                      have hD : va_D A [(a 52, aS ta 3 gnu), (a 33, aS ta 16 gna), (a 42, aS ta 16 gow), (a 43, aS ta 16 gth), (a 36, aK ta 2 ru), (a 37, aK ta 2 le), (a 51, aS ta 8 ghs), (a 44, aS ta 16 gt1_268), (h0, oM a ar1_368 mn1_368 tp osz lsz ns ct), (a 8, aZ ta 256 BOX), (a 9, aZ ta 256 UBOX), (a 16, aS ta 240 rk1_368), (a 18, aS ta 16 ce1_368), (a 22, aS ta 700 gm1_368), (a 24, aS ta 16 mac1_368), (a 25, aS ta 16 k11_368), (a 38, aS ta 192 gto), (a 26, aS ta 120 gov1_338), (a 41, aS ta 256 (qU s' (128 * sd + 96 + k3) (gto (96 * sd + 64 + k3))))] := hD
                      refine lv_iinc (pc := 408) (v := nI (k3 + 1)) (lv' := [(5, .int (nI (k3 + 1))), (4, .int (nI (128 * sd))), (3, .int (nI (le sd))), (0, .ref h0), (1, .int (nI sd)), (2, .int (nI 1))]) hx hb dX10_make_408 hl (k := 0) rfl (by first | exact nI_add k3 1 | rfl) (by decide) rfl (fun ls hl => ?_)
                      refine lv_goto (pc := 411) (tgt := 374) hx hb dX10_make_411 (by decide) ?_
                      exact ih374 (k3 + 1) (qU s' (128 * sd + 96 + k3) (gto (96 * sd + 64 + k3))) (by omega) (qSeg_s hs3 (by omega) (by first | rfl | (simp; done))) (by omega) _ _ (hP.sub [0, 1, 2, 3, 4, 5, 6, 7, 8, 9, 10, 11, 12, 13, 14, 15, 16, 17, 18] rfl) (hD.sub [0, 1, 2, 3, 4, 5, 6, 7, 8, 9, 10, 11, 12, 13, 14, 15, 16, 17, 18] (by decide) rfl) hS ls (lv_sub hl [0, 1, 2, 3, 4, 5] rfl)
                exact LP374 _ 0 gt1_368 (by omega) (qSeg_0) (Nat.lt_succ_self _) _ _ (hP.sub [0, 1, 2, 3, 4, 5, 6, 7, 8, 9, 10, 11, 12, 13, 14, 15, 16, 17, 18] rfl) (hD.sub [0, 1, 2, 3, 4, 5, 6, 7, 8, 9, 10, 11, 12, 13, 14, 15, 16, 17, 18] (by decide) rfl) hS ls (lv_sub hl [0, 1, 2, 3, 4, 5] rfl)
              · skip
                rw [nI_leI (by omega) (by omega)] at c_4
                refine lv_aload_n (pc := 219) hx hb dX10_make_219 rfl (lv_at hl 3 rfl) ?_
                refine va_get (pc := 220) (D := D) (ci := 8) (v := .ref (a 26)) (C := RX10) (T := TX10) (N := 57) hx hb hts iu10 hown hK hP 0 rfl rfl 26 (by decide) (hts _ tw_1071) (fun _ h9 => h9) rfl dX10_make_220 ?_
                refine lv_iconst (pc := 223) (v := nI 3) hx hb dX10_make_223 (by decide +kernel) ?_
                refine lv_iload (pc := 224) hx hb dX10_make_224 (lv_at hl 0 rfl) ?_
                refine lv_iadd (pc := 226) hx hb dX10_make_226 ?_
                refine q_top (y := nI (3 + k2x)) (nI_add 3 k2x) ?_
                refine lv_aload_n (pc := 227) hx hb dX10_make_227 rfl (lv_at hl 3 rfl) ?_
                refine va_get (pc := 228) (D := D) (ci := 8) (v := .ref (a 33)) (C := RX10) (T := TX10) (N := 57) hx hb hts iu10 hown hK hP 0 rfl rfl 33 (by decide) (hts _ tw_1078) (fun _ h9 => h9) rfl dX10_make_228 ?_
                refine lv_iload (pc := 231) hx hb dX10_make_231 (lv_at hl 0 rfl) ?_
                refine q_bald (pc := 233) hx hb hK hP 11 2 rfl rfl (k := k2x) (v := qs (gna k2x)) rfl (by omega) (by omega) rfl dX10_make_233 ?_
                refine q_bastS (pc := 234) hx hb hK hP hD hS 8 2 rfl rfl (k := 3 + k2x) rfl (by omega) (by omega) (b := gna k2x) (qlo_qs _) dX10_make_234 (fun H locs hP hD hS => ?_)
                have hP : va_P D vwCl [(h0, oM a ar mn tp osz lsz ns ct), (a 8, aZ ta 256 BOX), (a 9, aZ ta 256 UBOX), (a 16, aS ta 240 rk), (a 18, aS ta 16 ce), (a 22, aS ta 700 gm), (a 24, aS ta 16 mac), (a 25, aS ta 16 k1), (a 26, aS ta 120 (qU o2' (3 + k2x) (gna k2x))), (a 52, aS ta 3 gnu), (a 51, aS ta 8 ghs), (a 33, aS ta 16 gna), (a 38, aS ta 192 gto), (a 41, aS ta 256 gke), (a 42, aS ta 16 gow), (a 43, aS ta 16 gth), (a 44, aS ta 16 gck), (a 36, aK ta 2 ru), (a 37, aK ta 2 le)] H := hP
                have hD : va_D A [(h0, oM a ar mn tp osz lsz ns ct), (a 8, aZ ta 256 BOX), (a 9, aZ ta 256 UBOX), (a 16, aS ta 240 rk), (a 18, aS ta 16 ce), (a 22, aS ta 700 gm), (a 24, aS ta 16 mac), (a 25, aS ta 16 k1), (a 26, aS ta 120 (qU o2' (3 + k2x) (gna k2x))), (a 52, aS ta 3 gnu), (a 51, aS ta 8 ghs), (a 33, aS ta 16 gna), (a 38, aS ta 192 gto), (a 41, aS ta 256 gke), (a 42, aS ta 16 gow), (a 43, aS ta 16 gth), (a 44, aS ta 16 gck), (a 36, aK ta 2 ru), (a 37, aK ta 2 le)] := hD
                refine lv_iinc (pc := 235) (v := nI (k2x + 1)) (lv' := [(5, .int (nI (k2x + 1))), (4, .int (nI (128 * sd))), (3, .int (nI (le sd))), (0, .ref h0), (1, .int (nI sd)), (2, .int (nI 1))]) hx hb dX10_make_235 hl (k := 0) rfl (by first | exact nI_add k2x 1 | rfl) (by decide) rfl (fun ls hl => ?_)
                refine lv_goto (pc := 238) (tgt := 210) hx hb dX10_make_238 (by decide) ?_
                exact ih210 (k2x + 1) (qU o2' (3 + k2x) (gna k2x)) (by omega) (qSeg_s hs2 (by omega) (by first | rfl | (simp; done))) (by omega) _ _ (hP.sub [0, 1, 2, 3, 4, 5, 6, 7, 8, 9, 10, 11, 12, 13, 14, 15, 16, 17, 18] rfl) (hD.sub [0, 1, 2, 3, 4, 5, 6, 7, 8, 9, 10, 11, 12, 13, 14, 15, 16, 17, 18] (by decide) rfl) hS ls (lv_sub hl [0, 1, 2, 3, 4, 5] rfl)
          exact LP210 _ 0 o' (by omega) (qSeg_0) (Nat.lt_succ_self _) _ _ (hP.sub [0, 1, 2, 3, 4, 5, 6, 7, 8, 9, 10, 11, 12, 13, 14, 15, 16, 17, 18] rfl) (hD.sub [0, 1, 2, 3, 4, 5, 6, 7, 8, 9, 10, 11, 12, 13, 14, 15, 16, 17, 18] (by decide) rfl) hS ls (lv_sub hl [0, 1, 2, 3, 4, 5] rfl)
        · skip
          rw [nI_leI (by omega) (by omega)] at c_3
          refine lv_aload_n (pc := 187) hx hb dX10_make_187 rfl (lv_at hl 3 rfl) ?_
          refine va_get (pc := 188) (D := D) (ci := 8) (v := .ref (a 26)) (C := RX10) (T := TX10) (N := 57) hx hb hts iu10 hown hK hP 0 rfl rfl 26 (by decide) (hts _ tw_1071) (fun _ h9 => h9) rfl dX10_make_188 ?_
          refine lv_iload (pc := 191) hx hb dX10_make_191 (lv_at hl 0 rfl) ?_
          refine lv_aload_n (pc := 193) hx hb dX10_make_193 rfl (lv_at hl 3 rfl) ?_
          refine va_get (pc := 194) (D := D) (ci := 8) (v := .ref (a 52)) (C := RX10) (T := TX10) (N := 57) hx hb hts iu10 hown hK hP 0 rfl rfl 52 (by decide) (hts _ tw_1097) (fun _ h9 => h9) rfl dX10_make_194 ?_
          refine lv_iload (pc := 197) hx hb dX10_make_197 (lv_at hl 0 rfl) ?_
          refine q_bald (pc := 199) hx hb hK hP 9 2 rfl rfl (k := k1x) (v := qs (gnu k1x)) rfl (by omega) (by omega) rfl dX10_make_199 ?_
          refine q_bastS (pc := 200) hx hb hK hP hD hS 8 2 rfl rfl (k := k1x) rfl (by omega) (by omega) (b := gnu k1x) (qlo_qs _) dX10_make_200 (fun H locs hP hD hS => ?_)
          have hP : va_P D vwCl [(h0, oM a ar mn tp osz lsz ns ct), (a 8, aZ ta 256 BOX), (a 9, aZ ta 256 UBOX), (a 16, aS ta 240 rk), (a 18, aS ta 16 ce), (a 22, aS ta 700 gm), (a 24, aS ta 16 mac), (a 25, aS ta 16 k1), (a 26, aS ta 120 (qU o' k1x (gnu k1x))), (a 52, aS ta 3 gnu), (a 51, aS ta 8 ghs), (a 33, aS ta 16 gna), (a 38, aS ta 192 gto), (a 41, aS ta 256 gke), (a 42, aS ta 16 gow), (a 43, aS ta 16 gth), (a 44, aS ta 16 gck), (a 36, aK ta 2 ru), (a 37, aK ta 2 le)] H := hP
          have hD : va_D A [(h0, oM a ar mn tp osz lsz ns ct), (a 8, aZ ta 256 BOX), (a 9, aZ ta 256 UBOX), (a 16, aS ta 240 rk), (a 18, aS ta 16 ce), (a 22, aS ta 700 gm), (a 24, aS ta 16 mac), (a 25, aS ta 16 k1), (a 26, aS ta 120 (qU o' k1x (gnu k1x))), (a 52, aS ta 3 gnu), (a 51, aS ta 8 ghs), (a 33, aS ta 16 gna), (a 38, aS ta 192 gto), (a 41, aS ta 256 gke), (a 42, aS ta 16 gow), (a 43, aS ta 16 gth), (a 44, aS ta 16 gck), (a 36, aK ta 2 ru), (a 37, aK ta 2 le)] := hD
          refine lv_iinc (pc := 201) (v := nI (k1x + 1)) (lv' := [(5, .int (nI (k1x + 1))), (4, .int (nI (128 * sd))), (3, .int (nI (le sd))), (0, .ref h0), (1, .int (nI sd)), (2, .int (nI 1))]) hx hb dX10_make_201 hl (k := 0) rfl (by first | exact nI_add k1x 1 | rfl) (by decide) rfl (fun ls hl => ?_)
          refine lv_goto (pc := 204) (tgt := 181) hx hb dX10_make_204 (by decide) ?_
          exact ih181 (k1x + 1) (qU o' k1x (gnu k1x)) (by omega) (qSeg_s hs1 (by omega) (by first | rfl | (simp; done))) (by omega) _ _ (hP.sub [0, 1, 2, 3, 4, 5, 6, 7, 8, 9, 10, 11, 12, 13, 14, 15, 16, 17, 18] rfl) (hD.sub [0, 1, 2, 3, 4, 5, 6, 7, 8, 9, 10, 11, 12, 13, 14, 15, 16, 17, 18] (by decide) rfl) hS ls (lv_sub hl [0, 1, 2, 3, 4, 5] rfl)
    exact LP181 _ 0 gov (by omega) (qSeg_0) (Nat.lt_succ_self _) _ _ (hP.sub [0, 1, 2, 3, 4, 5, 6, 7, 8, 9, 10, 11, 12, 13, 14, 15, 16, 17, 18] rfl) (hD.sub [0, 1, 2, 3, 4, 5, 6, 7, 8, 9, 10, 11, 12, 13, 14, 15, 16, 17, 18] (by decide) rfl) hS ls (lv_sub hl [0, 1, 2, 3, 4, 5] rfl)
  · skip
    rw [nI_eq (by omega) (by omega)] at c_1
    exfalso; omega
set_option maxHeartbeats 4000000 in
set_option maxRecDepth 100000 in
theorem ct_X10_make_30 (ll : Launch) (D : va_G) (ta : Nat → ClassId) {G : (Nat → Prop) → State → Heap → Prop} (hGok : GOK G) (h0 : Nat) (a : Nat → Nat) (ar : Nat) (mn : Nat) (tp : Nat) (osz : Nat) (lsz : Nat) (ns : Nat) (ct : Nat) (rk : Nat → BitVec 8) (ce : Nat → BitVec 8) (gm : Nat → BitVec 8) (mac : Nat → BitVec 8) (k1 : Nat → BitVec 8) (gov : Nat → BitVec 8) (gnu : Nat → BitVec 8) (ghs : Nat → BitVec 8) (gna : Nat → BitVec 8) (gto : Nat → BitVec 8) (gke : Nat → BitVec 8) (gow : Nat → BitVec 8) (gth : Nat → BitVec 8) (gck : Nat → BitVec 8) (ru : Nat → Nat) (le : Nat → Nat) (sd : Nat) (hsd : sd ≤ 1) (hru : ru sd = 3) (hns : ns ≤ 16) (hle : le sd = 16 ∨ le sd = 24 ∨ le sd = 32) (sz : Nat) : CT ll yX10_make cX10_make 6 none ({ frames := 6, cells := 0, slots := 0, locals := 154 } : Room) D ta G [.ref h0, .int (nI sd), .int (nI 0)] [(h0, oM a ar mn tp osz lsz ns ct), (a 8, aZ ta 256 BOX), (a 9, aZ ta 256 UBOX), (a 16, aS ta 240 rk), (a 18, aS ta 16 ce), (a 22, aS ta 700 gm), (a 24, aS ta 16 mac), (a 25, aS ta 16 k1), (a 26, aS ta 120 gov), (a 52, aS ta 3 gnu), (a 51, aS ta 8 ghs), (a 33, aS ta 16 gna), (a 38, aS ta 192 gto), (a 41, aS ta 256 gke), (a 42, aS ta 16 gow), (a 43, aS ta 16 gth), (a 44, aS ta 16 gck), (a 36, aK ta 2 ru), (a 37, aK ta 2 le)] sz (S := (Nat → BitVec 8) × (Nat → BitVec 8) × (Nat → BitVec 8) × (Nat → BitVec 8) × (Nat → BitVec 8) × (Nat → BitVec 8) × (Nat → BitVec 8) × (Nat → BitVec 8) × (Nat → BitVec 8) × Nat × Nat) (fun _ => none) (fun u => (seg u.2.2.2.2.2.2.1 (128 * sd) (le sd) = kdfL (seg gto (96 * sd) (le sd)) 4 (le sd) (qL ghs 8 ++ seg gck (8 * sd) 8)) ∧ (seg u.2.2.2.2.2.2.1 (128 * sd + 32) (le sd) = kdfL (seg gto (96 * sd + 32) (le sd)) 6 (le sd) (qL ghs 8 ++ seg gck (8 * sd) 8)) ∧ (seg u.2.2.2.2.2.2.1 (128 * sd + 64) (le sd) = kdfL (seg gto (96 * sd + 32) (le sd)) 7 (le sd) (qL ghs 8 ++ seg gck (8 * sd) 8)) ∧ (seg u.2.2.2.2.2.2.1 (128 * sd + 96) (le sd) = seg gto (96 * sd + 64) (le sd)) ∧ (∀ j, (j < 128 * sd ∨ 128 * sd + 128 ≤ j) → u.2.2.2.2.2.2.1 j = gke j) ∧ (seg u.2.2.2.2.2.2.2.1 (8 * sd) 8 = kdfL (kdfL (seg gto (96 * sd + 32) (le sd)) 6 (le sd) (qL ghs 8 ++ seg gck (8 * sd) 8)) 0 8 (qL ghs 8 ++ seg gck (8 * sd) 8)) ∧ (∀ j, (j < 8 * sd ∨ 8 * sd + 8 ≤ j) → u.2.2.2.2.2.2.2.1 j = gow j) ∧ (seg u.2.2.2.2.2.2.2.2.1 (8 * sd) 8 = kdfL (kdfL (seg gto (96 * sd + 32) (le sd)) 6 (le sd) (qL ghs 8 ++ seg gck (8 * sd) 8)) 1 8 (qL ghs 8 ++ seg gck (8 * sd) 8)) ∧ (∀ j, (j < 8 * sd ∨ 8 * sd + 8 ≤ j) → u.2.2.2.2.2.2.2.2.1 j = gth j)) (fun u => [(h0, oM a u.2.2.2.2.2.2.2.2.2.2 u.2.2.2.2.2.2.2.2.2.1 tp osz lsz ns ct), (a 8, aZ ta 256 BOX), (a 9, aZ ta 256 UBOX), (a 16, aS ta 240 u.1), (a 18, aS ta 16 u.2.1), (a 22, aS ta 700 u.2.2.1), (a 24, aS ta 16 u.2.2.2.1), (a 25, aS ta 16 u.2.2.2.2.1), (a 26, aS ta 120 u.2.2.2.2.2.1), (a 52, aS ta 3 gnu), (a 51, aS ta 8 ghs), (a 33, aS ta 16 gna), (a 38, aS ta 192 gto), (a 41, aS ta 256 u.2.2.2.2.2.2.1), (a 42, aS ta 16 u.2.2.2.2.2.2.2.1), (a 43, aS ta 16 u.2.2.2.2.2.2.2.2.1), (a 44, aS ta 16 gck), (a 36, aK ta 2 ru), (a 37, aK ta 2 le)]) 0 0 := by
  refine CT.of_v rfl (by decide) (Nat.le_of_ble_eq_true rfl) ?_
  intro pp ee ss mm below meth kc A Q hx hb hml hown hin hts hK hA hsz hG hret H locs hP hD hS ls hl
  have hl : lv_has ls 6 [(0, .ref h0), (1, .int (nI sd)), (2, .int (nI 0))] := hl
  refine lv_aload_n (pc := 0) hx hb dX10_make_0 rfl (lv_at hl 0 rfl) ?_
  refine va_get (pc := 1) (D := D) (ci := 8) (v := .ref (a 37)) (C := RX10) (T := TX10) (N := 57) hx hb hts iu10 hown hK hP 0 rfl rfl 37 (by decide) (hts _ tw_1082) (fun _ h9 => h9) rfl dX10_make_1 ?_
  refine lv_iload_n (pc := 4) hx hb dX10_make_4 rfl (lv_at hl 1 rfl) ?_
  refine q_iald (pc := 5) hx hb hK hP 18 0 rfl rfl (k := sd) (v := nI (le sd)) rfl (by omega) (by omega) rfl dX10_make_5 ?_
  refine lv_istore_n (pc := 6) (lv' := [(3, .int (nI (le sd))), (0, .ref h0), (1, .int (nI sd)), (2, .int (nI 0))]) hx hb dX10_make_6 rfl hl (by decide) rfl (fun ls hl => ?_)
  refine lv_sipush (pc := 7) (v := nI 128) hx hb dX10_make_7 (by decide +kernel) ?_
  refine lv_iload_n (pc := 10) hx hb dX10_make_10 rfl (lv_at hl 2 rfl) ?_
  refine lv_imul (pc := 11) hx hb dX10_make_11 ?_
  refine q_top (y := nI (128 * sd)) (pk_mul 128 sd) ?_
  refine lv_istore (pc := 12) (lv' := [(4, .int (nI (128 * sd))), (3, .int (nI (le sd))), (0, .ref h0), (1, .int (nI sd)), (2, .int (nI 0))]) hx hb dX10_make_12 hl (by decide) rfl (fun ls hl => ?_)
  refine lv_aload_n (pc := 14) hx hb dX10_make_14 rfl (lv_at hl 2 rfl) ?_
  refine va_get (pc := 15) (D := D) (ci := 8) (v := .ref (a 36)) (C := RX10) (T := TX10) (N := 57) hx hb hts iu10 hown hK hP 0 rfl rfl 36 (by decide) (hts _ tw_1081) (fun _ h9 => h9) rfl dX10_make_15 ?_
  refine lv_iload_n (pc := 18) hx hb dX10_make_18 rfl (lv_at hl 3 rfl) ?_
  refine q_iald (pc := 19) hx hb hK hP 17 0 rfl rfl (k := sd) (v := nI (ru sd)) rfl (by omega) (by omega) rfl dX10_make_19 ?_
  refine lv_iconst (pc := 20) (v := nI 2) hx hb dX10_make_20 (by decide +kernel) ?_
  refine lv_icmp_ne (pc := 21) (tgt := 174) hx hb dX10_make_21 (by decide) (fun c_1 => ?_) (fun c_1 => ?_)
  · skip
    rw [nI_eq (by omega) (by omega)] at c_1
    refine lv_iload_n (pc := 174) hx hb dX10_make_174 rfl (lv_at hl 4 rfl) ?_
    refine lv_if_eq (pc := 175) (tgt := 271) hx hb dX10_make_175 (by decide) (fun _ => ?_) (fun c_2 => absurd (by decide) c_2)
    refine lv_aload_n (pc := 271) hx hb dX10_make_271 rfl (lv_at hl 2 rfl) ?_
    refine lv_iload_n (pc := 272) hx hb dX10_make_272 rfl (lv_at hl 3 rfl) ?_
    refine cs_V (pc := 273) (idx := 344) (n := 1) (wr := [(a 8, aZ ta 256 BOX), (a 9, aZ ta 256 UBOX), (a 16, aS ta 240 rk), (a 18, aS ta 16 ce), (a 22, aS ta 700 gm), (a 24, aS ta 16 mac), (a 25, aS ta 16 k1), (a 52, aS ta 3 gnu), (a 33, aS ta 16 gna), (a 38, aS ta 192 gto), (a 41, aS ta 256 gke), (a 42, aS ta 16 gow), (a 43, aS ta 16 gth), (a 36, aK ta 2 ru), (a 37, aK ta 2 le)]) (As := [.int (nI sd)]) (rest := []) (ci := 8) hx hb hml hown hts hGok hK hA hG hl.1 hP hD hS (ct_X10_aboutHost ll D ta hGok h0 a ar mn tp osz lsz ns ct gov ghs gck sd (by first | assumption | omega | rfl | decide) H.size) tw_1357 tw_1354 tw_1356 tw_48 tw_75 hdX10_aboutHost rfl ⟨rfl, rfl, Nat.le_of_ble_eq_true rfl, Nat.le_of_ble_eq_true rfl, Nat.le_of_ble_eq_true rfl, Nat.le_of_ble_eq_true rfl⟩ rfl rfl (q0 := 0) rfl [0, 8, 10, 16] [1, 2, 3, 4, 5, 6, 7, 9, 11, 12, 13, 14, 15, 17, 18] rfl rfl (by decide) rfl (Nat.le_of_ble_eq_true rfl) dX10_make_273 (fun u H locs hq hP hD hS => ?_)
    generalize u = gov1_273 at hq hP hD ⊢
    have hq : (seg gov1_273 0 16 = qL ghs 8 ++ seg gck (8 * sd) 8) := hq
    have hL_273 := hq
    refine W.eq (g2 := F0 mm 276 ls []) rfl ?_
    have hP : va_P D vwCl [(a 8, aZ ta 256 BOX), (a 9, aZ ta 256 UBOX), (a 16, aS ta 240 rk), (a 18, aS ta 16 ce), (a 22, aS ta 700 gm), (a 24, aS ta 16 mac), (a 25, aS ta 16 k1), (a 52, aS ta 3 gnu), (a 33, aS ta 16 gna), (a 38, aS ta 192 gto), (a 41, aS ta 256 gke), (a 42, aS ta 16 gow), (a 43, aS ta 16 gth), (a 36, aK ta 2 ru), (a 37, aK ta 2 le), (h0, oM a ar mn tp osz lsz ns ct), (a 26, aS ta 120 gov1_273), (a 51, aS ta 8 ghs), (a 44, aS ta 16 gck)] H := hP
    have hD : va_D A [(a 8, aZ ta 256 BOX), (a 9, aZ ta 256 UBOX), (a 16, aS ta 240 rk), (a 18, aS ta 16 ce), (a 22, aS ta 700 gm), (a 24, aS ta 16 mac), (a 25, aS ta 16 k1), (a 52, aS ta 3 gnu), (a 33, aS ta 16 gna), (a 38, aS ta 192 gto), (a 41, aS ta 256 gke), (a 42, aS ta 16 gow), (a 43, aS ta 16 gth), (a 36, aK ta 2 ru), (a 37, aK ta 2 le), (h0, oM a ar mn tp osz lsz ns ct), (a 26, aS ta 120 gov1_273), (a 51, aS ta 8 ghs), (a 44, aS ta 16 gck)] := hD
    refine lv_aload_n (pc := 276) hx hb dX10_make_276 rfl (lv_at hl 2 rfl) ?_
    refine lv_aload_n (pc := 277) hx hb dX10_make_277 rfl (lv_at hl 2 rfl) ?_
    refine va_get (pc := 278) (D := D) (ci := 8) (v := .ref (a 38)) (C := RX10) (T := TX10) (N := 57) hx hb hts iu10 hown hK hP 15 rfl rfl 38 (by decide) (hts _ tw_1083) (fun _ h9 => h9) rfl dX10_make_278 ?_
    refine lv_bipush (pc := 281) (v := nI 96) hx hb dX10_make_281 (by decide +kernel) ?_
    refine lv_iload_n (pc := 283) hx hb dX10_make_283 rfl (lv_at hl 3 rfl) ?_
    refine lv_imul (pc := 284) hx hb dX10_make_284 ?_
    refine q_top (y := nI (96 * sd)) (pk_mul 96 sd) ?_
    refine lv_iload_n (pc := 285) hx hb dX10_make_285 rfl (lv_at hl 1 rfl) ?_
    refine lv_iconst (pc := 286) (v := nI 4) hx hb dX10_make_286 (by decide +kernel) ?_
    refine lv_iload_n (pc := 287) hx hb dX10_make_287 rfl (lv_at hl 1 rfl) ?_
    refine lv_bipush (pc := 288) (v := nI 16) hx hb dX10_make_288 (by decide +kernel) ?_
    refine lv_aload_n (pc := 290) hx hb dX10_make_290 rfl (lv_at hl 2 rfl) ?_
    refine va_get (pc := 291) (D := D) (ci := 8) (v := .ref (a 41)) (C := RX10) (T := TX10) (N := 57) hx hb hts iu10 hown hK hP 15 rfl rfl 41 (by decide) (hts _ tw_1086) (fun _ h9 => h9) rfl dX10_make_291 ?_
    refine lv_iload (pc := 294) hx hb dX10_make_294 (lv_at hl 0 rfl) ?_
    refine lv_iconst (pc := 296) (v := nI 0) hx hb dX10_make_296 (by decide +kernel) ?_
    refine lv_iadd (pc := 297) hx hb dX10_make_297 ?_
    refine q_top (y := nI (128 * sd)) ((nI_add (128 * sd) 0).trans (congrArg nI (by omega))) ?_
    refine cs_V (pc := 298) (idx := 340) (n := 8) (wr := [(a 52, aS ta 3 gnu), (a 33, aS ta 16 gna), (a 42, aS ta 16 gow), (a 43, aS ta 16 gth), (a 36, aK ta 2 ru), (a 37, aK ta 2 le), (a 51, aS ta 8 ghs), (a 44, aS ta 16 gck)]) (As := [.ref (a 38), .int (nI (96 * sd)), .int (nI (le sd)), .int (nI 4), .int (nI (le sd)), .int (nI 16), .ref (a 41), .int (nI (128 * sd))]) (rest := []) (ci := 8) hx hb hml hown hts hGok hK hA hG hl.1 hP hD hS (ct_X10_kdf ll D ta hGok h0 a ar mn tp osz lsz ns ct gm mac k1 rk ce (a 38) (96 * sd) 192 gto (le sd) 4 (le sd) 16 gov1_273 (a 41) (128 * sd) 256 gke (by first | assumption | omega | rfl | decide) (by first | assumption | omega | rfl | decide) (by first | assumption | omega | rfl | decide) (by first | assumption | omega | rfl | decide) (by first | assumption | omega | rfl | decide) (by first | assumption | omega | rfl | decide) (by first | assumption | omega | rfl | decide) (by first | assumption | omega | rfl | decide) H.size) tw_1330 tw_1327 tw_1329 tw_42 tw_75 hdX10_kdf rfl ⟨rfl, rfl, Nat.le_of_ble_eq_true rfl, Nat.le_of_ble_eq_true rfl, Nat.le_of_ble_eq_true rfl, Nat.le_of_ble_eq_true rfl⟩ rfl rfl (q0 := 15) rfl [15, 0, 1, 2, 3, 4, 5, 6, 9, 16, 10] [7, 8, 11, 12, 13, 14, 17, 18] rfl rfl (by decide) rfl (Nat.le_of_ble_eq_true rfl) dX10_make_298 (fun u H locs hq hP hD hS => ?_)
    obtain ⟨ar1_298, mn1_298, gm1_298, mac1_298, k11_298, rk1_298, ce1_298, gt1_298⟩ := u
    have hq : (seg gt1_298 (128 * sd) (le sd) = kdfL (seg gto (96 * sd) (le sd)) 4 (le sd) (seg gov1_273 0 16)) ∧ (∀ jz, (jz < (128 * sd) ∨ (128 * sd) + (le sd) ≤ jz) → gt1_298 jz = gke jz) := hq
    obtain ⟨hL_298, hfr_298⟩ := hq
    refine W.eq (g2 := F0 mm 301 ls []) rfl ?_
    have hP : va_P D vwCl [(a 52, aS ta 3 gnu), (a 33, aS ta 16 gna), (a 42, aS ta 16 gow), (a 43, aS ta 16 gth), (a 36, aK ta 2 ru), (a 37, aK ta 2 le), (a 51, aS ta 8 ghs), (a 44, aS ta 16 gck), (h0, oM a ar1_298 mn1_298 tp osz lsz ns ct), (a 8, aZ ta 256 BOX), (a 9, aZ ta 256 UBOX), (a 16, aS ta 240 rk1_298), (a 18, aS ta 16 ce1_298), (a 22, aS ta 700 gm1_298), (a 24, aS ta 16 mac1_298), (a 25, aS ta 16 k11_298), (a 38, aS ta 192 gto), (a 26, aS ta 120 gov1_273), (a 41, aS ta 256 gt1_298)] H := hP
    have hD : va_D A [(a 52, aS ta 3 gnu), (a 33, aS ta 16 gna), (a 42, aS ta 16 gow), (a 43, aS ta 16 gth), (a 36, aK ta 2 ru), (a 37, aK ta 2 le), (a 51, aS ta 8 ghs), (a 44, aS ta 16 gck), (h0, oM a ar1_298 mn1_298 tp osz lsz ns ct), (a 8, aZ ta 256 BOX), (a 9, aZ ta 256 UBOX), (a 16, aS ta 240 rk1_298), (a 18, aS ta 16 ce1_298), (a 22, aS ta 700 gm1_298), (a 24, aS ta 16 mac1_298), (a 25, aS ta 16 k11_298), (a 38, aS ta 192 gto), (a 26, aS ta 120 gov1_273), (a 41, aS ta 256 gt1_298)] := hD
    refine lv_aload_n (pc := 301) hx hb dX10_make_301 rfl (lv_at hl 2 rfl) ?_
    refine lv_iload_n (pc := 302) hx hb dX10_make_302 rfl (lv_at hl 3 rfl) ?_
    refine cs_V (pc := 303) (idx := 344) (n := 1) (wr := [(a 52, aS ta 3 gnu), (a 33, aS ta 16 gna), (a 42, aS ta 16 gow), (a 43, aS ta 16 gth), (a 36, aK ta 2 ru), (a 37, aK ta 2 le), (a 8, aZ ta 256 BOX), (a 9, aZ ta 256 UBOX), (a 16, aS ta 240 rk1_298), (a 18, aS ta 16 ce1_298), (a 22, aS ta 700 gm1_298), (a 24, aS ta 16 mac1_298), (a 25, aS ta 16 k11_298), (a 38, aS ta 192 gto), (a 41, aS ta 256 gt1_298)]) (As := [.int (nI sd)]) (rest := []) (ci := 8) hx hb hml hown hts hGok hK hA hG hl.1 hP hD hS (ct_X10_aboutHost ll D ta hGok h0 a ar1_298 mn1_298 tp osz lsz ns ct gov1_273 ghs gck sd (by first | assumption | omega | rfl | decide) H.size) tw_1357 tw_1354 tw_1356 tw_48 tw_75 hdX10_aboutHost rfl ⟨rfl, rfl, Nat.le_of_ble_eq_true rfl, Nat.le_of_ble_eq_true rfl, Nat.le_of_ble_eq_true rfl, Nat.le_of_ble_eq_true rfl⟩ rfl rfl (q0 := 8) rfl [8, 17, 6, 7] [0, 1, 2, 3, 4, 5, 9, 10, 11, 12, 13, 14, 15, 16, 18] rfl rfl (by decide) rfl (Nat.le_of_ble_eq_true rfl) dX10_make_303 (fun u H locs hq hP hD hS => ?_)
    generalize u = gov1_303 at hq hP hD ⊢
    have hq : (seg gov1_303 0 16 = qL ghs 8 ++ seg gck (8 * sd) 8) := hq
    have hL_303 := hq
    refine W.eq (g2 := F0 mm 306 ls []) rfl ?_
    have hP : va_P D vwCl [(a 52, aS ta 3 gnu), (a 33, aS ta 16 gna), (a 42, aS ta 16 gow), (a 43, aS ta 16 gth), (a 36, aK ta 2 ru), (a 37, aK ta 2 le), (a 8, aZ ta 256 BOX), (a 9, aZ ta 256 UBOX), (a 16, aS ta 240 rk1_298), (a 18, aS ta 16 ce1_298), (a 22, aS ta 700 gm1_298), (a 24, aS ta 16 mac1_298), (a 25, aS ta 16 k11_298), (a 38, aS ta 192 gto), (a 41, aS ta 256 gt1_298), (h0, oM a ar1_298 mn1_298 tp osz lsz ns ct), (a 26, aS ta 120 gov1_303), (a 51, aS ta 8 ghs), (a 44, aS ta 16 gck)] H := hP
    have hD : va_D A [(a 52, aS ta 3 gnu), (a 33, aS ta 16 gna), (a 42, aS ta 16 gow), (a 43, aS ta 16 gth), (a 36, aK ta 2 ru), (a 37, aK ta 2 le), (a 8, aZ ta 256 BOX), (a 9, aZ ta 256 UBOX), (a 16, aS ta 240 rk1_298), (a 18, aS ta 16 ce1_298), (a 22, aS ta 700 gm1_298), (a 24, aS ta 16 mac1_298), (a 25, aS ta 16 k11_298), (a 38, aS ta 192 gto), (a 41, aS ta 256 gt1_298), (h0, oM a ar1_298 mn1_298 tp osz lsz ns ct), (a 26, aS ta 120 gov1_303), (a 51, aS ta 8 ghs), (a 44, aS ta 16 gck)] := hD
    refine lv_aload_n (pc := 306) hx hb dX10_make_306 rfl (lv_at hl 2 rfl) ?_
    refine lv_aload_n (pc := 307) hx hb dX10_make_307 rfl (lv_at hl 2 rfl) ?_
    refine va_get (pc := 308) (D := D) (ci := 8) (v := .ref (a 38)) (C := RX10) (T := TX10) (N := 57) hx hb hts iu10 hown hK hP 15 rfl rfl 38 (by decide) (hts _ tw_1083) (fun _ h9 => h9) rfl dX10_make_308 ?_
    refine lv_bipush (pc := 311) (v := nI 96) hx hb dX10_make_311 (by decide +kernel) ?_
    refine lv_iload_n (pc := 313) hx hb dX10_make_313 rfl (lv_at hl 3 rfl) ?_
    refine lv_imul (pc := 314) hx hb dX10_make_314 ?_
    refine q_top (y := nI (96 * sd)) (pk_mul 96 sd) ?_
    refine lv_bipush (pc := 315) (v := nI 32) hx hb dX10_make_315 (by decide +kernel) ?_
    refine lv_iadd (pc := 317) hx hb dX10_make_317 ?_
    refine q_top (y := nI (96 * sd + 32)) (nI_add (96 * sd) 32) ?_
    refine lv_iload_n (pc := 318) hx hb dX10_make_318 rfl (lv_at hl 1 rfl) ?_
    refine lv_bipush (pc := 319) (v := nI 6) hx hb dX10_make_319 (by decide +kernel) ?_
    refine lv_iload_n (pc := 321) hx hb dX10_make_321 rfl (lv_at hl 1 rfl) ?_
    refine lv_bipush (pc := 322) (v := nI 16) hx hb dX10_make_322 (by decide +kernel) ?_
    refine lv_aload_n (pc := 324) hx hb dX10_make_324 rfl (lv_at hl 2 rfl) ?_
    refine va_get (pc := 325) (D := D) (ci := 8) (v := .ref (a 41)) (C := RX10) (T := TX10) (N := 57) hx hb hts iu10 hown hK hP 15 rfl rfl 41 (by decide) (hts _ tw_1086) (fun _ h9 => h9) rfl dX10_make_325 ?_
    refine lv_iload (pc := 328) hx hb dX10_make_328 (lv_at hl 0 rfl) ?_
    refine lv_bipush (pc := 330) (v := nI 32) hx hb dX10_make_330 (by decide +kernel) ?_
    refine lv_iadd (pc := 332) hx hb dX10_make_332 ?_
    refine q_top (y := nI (128 * sd + 32)) (nI_add (128 * sd) 32) ?_
    refine cs_V (pc := 333) (idx := 340) (n := 8) (wr := [(a 52, aS ta 3 gnu), (a 33, aS ta 16 gna), (a 42, aS ta 16 gow), (a 43, aS ta 16 gth), (a 36, aK ta 2 ru), (a 37, aK ta 2 le), (a 51, aS ta 8 ghs), (a 44, aS ta 16 gck)]) (As := [.ref (a 38), .int (nI (96 * sd + 32)), .int (nI (le sd)), .int (nI 6), .int (nI (le sd)), .int (nI 16), .ref (a 41), .int (nI (128 * sd + 32))]) (rest := []) (ci := 8) hx hb hml hown hts hGok hK hA hG hl.1 hP hD hS (ct_X10_kdf ll D ta hGok h0 a ar1_298 mn1_298 tp osz lsz ns ct gm1_298 mac1_298 k11_298 rk1_298 ce1_298 (a 38) (96 * sd + 32) 192 gto (le sd) 6 (le sd) 16 gov1_303 (a 41) (128 * sd + 32) 256 gt1_298 (by first | assumption | omega | rfl | decide) (by first | assumption | omega | rfl | decide) (by first | assumption | omega | rfl | decide) (by first | assumption | omega | rfl | decide) (by first | assumption | omega | rfl | decide) (by first | assumption | omega | rfl | decide) (by first | assumption | omega | rfl | decide) (by first | assumption | omega | rfl | decide) H.size) tw_1330 tw_1327 tw_1329 tw_42 tw_75 hdX10_kdf rfl ⟨rfl, rfl, Nat.le_of_ble_eq_true rfl, Nat.le_of_ble_eq_true rfl, Nat.le_of_ble_eq_true rfl, Nat.le_of_ble_eq_true rfl⟩ rfl rfl (q0 := 15) rfl [15, 6, 7, 8, 9, 10, 11, 12, 13, 16, 14] [0, 1, 2, 3, 4, 5, 17, 18] rfl rfl (by decide) rfl (Nat.le_of_ble_eq_true rfl) dX10_make_333 (fun u H locs hq hP hD hS => ?_)
    obtain ⟨ar1_333, mn1_333, gm1_333, mac1_333, k11_333, rk1_333, ce1_333, gt1_333⟩ := u
    have hq : (seg gt1_333 (128 * sd + 32) (le sd) = kdfL (seg gto (96 * sd + 32) (le sd)) 6 (le sd) (seg gov1_303 0 16)) ∧ (∀ jz, (jz < (128 * sd + 32) ∨ (128 * sd + 32) + (le sd) ≤ jz) → gt1_333 jz = gt1_298 jz) := hq
    obtain ⟨hL_333, hfr_333⟩ := hq
    refine W.eq (g2 := F0 mm 336 ls []) rfl ?_
    have hP : va_P D vwCl [(a 52, aS ta 3 gnu), (a 33, aS ta 16 gna), (a 42, aS ta 16 gow), (a 43, aS ta 16 gth), (a 36, aK ta 2 ru), (a 37, aK ta 2 le), (a 51, aS ta 8 ghs), (a 44, aS ta 16 gck), (h0, oM a ar1_333 mn1_333 tp osz lsz ns ct), (a 8, aZ ta 256 BOX), (a 9, aZ ta 256 UBOX), (a 16, aS ta 240 rk1_333), (a 18, aS ta 16 ce1_333), (a 22, aS ta 700 gm1_333), (a 24, aS ta 16 mac1_333), (a 25, aS ta 16 k11_333), (a 38, aS ta 192 gto), (a 26, aS ta 120 gov1_303), (a 41, aS ta 256 gt1_333)] H := hP
    have hD : va_D A [(a 52, aS ta 3 gnu), (a 33, aS ta 16 gna), (a 42, aS ta 16 gow), (a 43, aS ta 16 gth), (a 36, aK ta 2 ru), (a 37, aK ta 2 le), (a 51, aS ta 8 ghs), (a 44, aS ta 16 gck), (h0, oM a ar1_333 mn1_333 tp osz lsz ns ct), (a 8, aZ ta 256 BOX), (a 9, aZ ta 256 UBOX), (a 16, aS ta 240 rk1_333), (a 18, aS ta 16 ce1_333), (a 22, aS ta 700 gm1_333), (a 24, aS ta 16 mac1_333), (a 25, aS ta 16 k11_333), (a 38, aS ta 192 gto), (a 26, aS ta 120 gov1_303), (a 41, aS ta 256 gt1_333)] := hD
    refine lv_aload_n (pc := 336) hx hb dX10_make_336 rfl (lv_at hl 2 rfl) ?_
    refine lv_iload_n (pc := 337) hx hb dX10_make_337 rfl (lv_at hl 3 rfl) ?_
    refine cs_V (pc := 338) (idx := 344) (n := 1) (wr := [(a 52, aS ta 3 gnu), (a 33, aS ta 16 gna), (a 42, aS ta 16 gow), (a 43, aS ta 16 gth), (a 36, aK ta 2 ru), (a 37, aK ta 2 le), (a 8, aZ ta 256 BOX), (a 9, aZ ta 256 UBOX), (a 16, aS ta 240 rk1_333), (a 18, aS ta 16 ce1_333), (a 22, aS ta 700 gm1_333), (a 24, aS ta 16 mac1_333), (a 25, aS ta 16 k11_333), (a 38, aS ta 192 gto), (a 41, aS ta 256 gt1_333)]) (As := [.int (nI sd)]) (rest := []) (ci := 8) hx hb hml hown hts hGok hK hA hG hl.1 hP hD hS (ct_X10_aboutHost ll D ta hGok h0 a ar1_333 mn1_333 tp osz lsz ns ct gov1_303 ghs gck sd (by first | assumption | omega | rfl | decide) H.size) tw_1357 tw_1354 tw_1356 tw_48 tw_75 hdX10_aboutHost rfl ⟨rfl, rfl, Nat.le_of_ble_eq_true rfl, Nat.le_of_ble_eq_true rfl, Nat.le_of_ble_eq_true rfl, Nat.le_of_ble_eq_true rfl⟩ rfl rfl (q0 := 8) rfl [8, 17, 6, 7] [0, 1, 2, 3, 4, 5, 9, 10, 11, 12, 13, 14, 15, 16, 18] rfl rfl (by decide) rfl (Nat.le_of_ble_eq_true rfl) dX10_make_338 (fun u H locs hq hP hD hS => ?_)
    generalize u = gov1_338 at hq hP hD ⊢
    have hq : (seg gov1_338 0 16 = qL ghs 8 ++ seg gck (8 * sd) 8) := hq
    have hL_338 := hq
    refine W.eq (g2 := F0 mm 341 ls []) rfl ?_
    have hP : va_P D vwCl [(a 52, aS ta 3 gnu), (a 33, aS ta 16 gna), (a 42, aS ta 16 gow), (a 43, aS ta 16 gth), (a 36, aK ta 2 ru), (a 37, aK ta 2 le), (a 8, aZ ta 256 BOX), (a 9, aZ ta 256 UBOX), (a 16, aS ta 240 rk1_333), (a 18, aS ta 16 ce1_333), (a 22, aS ta 700 gm1_333), (a 24, aS ta 16 mac1_333), (a 25, aS ta 16 k11_333), (a 38, aS ta 192 gto), (a 41, aS ta 256 gt1_333), (h0, oM a ar1_333 mn1_333 tp osz lsz ns ct), (a 26, aS ta 120 gov1_338), (a 51, aS ta 8 ghs), (a 44, aS ta 16 gck)] H := hP
    have hD : va_D A [(a 52, aS ta 3 gnu), (a 33, aS ta 16 gna), (a 42, aS ta 16 gow), (a 43, aS ta 16 gth), (a 36, aK ta 2 ru), (a 37, aK ta 2 le), (a 8, aZ ta 256 BOX), (a 9, aZ ta 256 UBOX), (a 16, aS ta 240 rk1_333), (a 18, aS ta 16 ce1_333), (a 22, aS ta 700 gm1_333), (a 24, aS ta 16 mac1_333), (a 25, aS ta 16 k11_333), (a 38, aS ta 192 gto), (a 41, aS ta 256 gt1_333), (h0, oM a ar1_333 mn1_333 tp osz lsz ns ct), (a 26, aS ta 120 gov1_338), (a 51, aS ta 8 ghs), (a 44, aS ta 16 gck)] := hD
    refine lv_aload_n (pc := 341) hx hb dX10_make_341 rfl (lv_at hl 2 rfl) ?_
    refine lv_aload_n (pc := 342) hx hb dX10_make_342 rfl (lv_at hl 2 rfl) ?_
    refine va_get (pc := 343) (D := D) (ci := 8) (v := .ref (a 38)) (C := RX10) (T := TX10) (N := 57) hx hb hts iu10 hown hK hP 15 rfl rfl 38 (by decide) (hts _ tw_1083) (fun _ h9 => h9) rfl dX10_make_343 ?_
    refine lv_bipush (pc := 346) (v := nI 96) hx hb dX10_make_346 (by decide +kernel) ?_
    refine lv_iload_n (pc := 348) hx hb dX10_make_348 rfl (lv_at hl 3 rfl) ?_
    refine lv_imul (pc := 349) hx hb dX10_make_349 ?_
    refine q_top (y := nI (96 * sd)) (pk_mul 96 sd) ?_
    refine lv_bipush (pc := 350) (v := nI 32) hx hb dX10_make_350 (by decide +kernel) ?_
    refine lv_iadd (pc := 352) hx hb dX10_make_352 ?_
    refine q_top (y := nI (96 * sd + 32)) (nI_add (96 * sd) 32) ?_
    refine lv_iload_n (pc := 353) hx hb dX10_make_353 rfl (lv_at hl 1 rfl) ?_
    refine lv_bipush (pc := 354) (v := nI 7) hx hb dX10_make_354 (by decide +kernel) ?_
    refine lv_iload_n (pc := 356) hx hb dX10_make_356 rfl (lv_at hl 1 rfl) ?_
    refine lv_bipush (pc := 357) (v := nI 16) hx hb dX10_make_357 (by decide +kernel) ?_
    refine lv_aload_n (pc := 359) hx hb dX10_make_359 rfl (lv_at hl 2 rfl) ?_
    refine va_get (pc := 360) (D := D) (ci := 8) (v := .ref (a 41)) (C := RX10) (T := TX10) (N := 57) hx hb hts iu10 hown hK hP 15 rfl rfl 41 (by decide) (hts _ tw_1086) (fun _ h9 => h9) rfl dX10_make_360 ?_
    refine lv_iload (pc := 363) hx hb dX10_make_363 (lv_at hl 0 rfl) ?_
    refine lv_bipush (pc := 365) (v := nI 64) hx hb dX10_make_365 (by decide +kernel) ?_
    refine lv_iadd (pc := 367) hx hb dX10_make_367 ?_
    refine q_top (y := nI (128 * sd + 64)) (nI_add (128 * sd) 64) ?_
    refine cs_V (pc := 368) (idx := 340) (n := 8) (wr := [(a 52, aS ta 3 gnu), (a 33, aS ta 16 gna), (a 42, aS ta 16 gow), (a 43, aS ta 16 gth), (a 36, aK ta 2 ru), (a 37, aK ta 2 le), (a 51, aS ta 8 ghs), (a 44, aS ta 16 gck)]) (As := [.ref (a 38), .int (nI (96 * sd + 32)), .int (nI (le sd)), .int (nI 7), .int (nI (le sd)), .int (nI 16), .ref (a 41), .int (nI (128 * sd + 64))]) (rest := []) (ci := 8) hx hb hml hown hts hGok hK hA hG hl.1 hP hD hS (ct_X10_kdf ll D ta hGok h0 a ar1_333 mn1_333 tp osz lsz ns ct gm1_333 mac1_333 k11_333 rk1_333 ce1_333 (a 38) (96 * sd + 32) 192 gto (le sd) 7 (le sd) 16 gov1_338 (a 41) (128 * sd + 64) 256 gt1_333 (by first | assumption | omega | rfl | decide) (by first | assumption | omega | rfl | decide) (by first | assumption | omega | rfl | decide) (by first | assumption | omega | rfl | decide) (by first | assumption | omega | rfl | decide) (by first | assumption | omega | rfl | decide) (by first | assumption | omega | rfl | decide) (by first | assumption | omega | rfl | decide) H.size) tw_1330 tw_1327 tw_1329 tw_42 tw_75 hdX10_kdf rfl ⟨rfl, rfl, Nat.le_of_ble_eq_true rfl, Nat.le_of_ble_eq_true rfl, Nat.le_of_ble_eq_true rfl, Nat.le_of_ble_eq_true rfl⟩ rfl rfl (q0 := 15) rfl [15, 6, 7, 8, 9, 10, 11, 12, 13, 16, 14] [0, 1, 2, 3, 4, 5, 17, 18] rfl rfl (by decide) rfl (Nat.le_of_ble_eq_true rfl) dX10_make_368 (fun u H locs hq hP hD hS => ?_)
    obtain ⟨ar1_368, mn1_368, gm1_368, mac1_368, k11_368, rk1_368, ce1_368, gt1_368⟩ := u
    have hq : (seg gt1_368 (128 * sd + 64) (le sd) = kdfL (seg gto (96 * sd + 32) (le sd)) 7 (le sd) (seg gov1_338 0 16)) ∧ (∀ jz, (jz < (128 * sd + 64) ∨ (128 * sd + 64) + (le sd) ≤ jz) → gt1_368 jz = gt1_333 jz) := hq
    obtain ⟨hL_368, hfr_368⟩ := hq
    refine W.eq (g2 := F0 mm 371 ls []) rfl ?_
    have hP : va_P D vwCl [(a 52, aS ta 3 gnu), (a 33, aS ta 16 gna), (a 42, aS ta 16 gow), (a 43, aS ta 16 gth), (a 36, aK ta 2 ru), (a 37, aK ta 2 le), (a 51, aS ta 8 ghs), (a 44, aS ta 16 gck), (h0, oM a ar1_368 mn1_368 tp osz lsz ns ct), (a 8, aZ ta 256 BOX), (a 9, aZ ta 256 UBOX), (a 16, aS ta 240 rk1_368), (a 18, aS ta 16 ce1_368), (a 22, aS ta 700 gm1_368), (a 24, aS ta 16 mac1_368), (a 25, aS ta 16 k11_368), (a 38, aS ta 192 gto), (a 26, aS ta 120 gov1_338), (a 41, aS ta 256 gt1_368)] H := hP
    have hD : va_D A [(a 52, aS ta 3 gnu), (a 33, aS ta 16 gna), (a 42, aS ta 16 gow), (a 43, aS ta 16 gth), (a 36, aK ta 2 ru), (a 37, aK ta 2 le), (a 51, aS ta 8 ghs), (a 44, aS ta 16 gck), (h0, oM a ar1_368 mn1_368 tp osz lsz ns ct), (a 8, aZ ta 256 BOX), (a 9, aZ ta 256 UBOX), (a 16, aS ta 240 rk1_368), (a 18, aS ta 16 ce1_368), (a 22, aS ta 700 gm1_368), (a 24, aS ta 16 mac1_368), (a 25, aS ta 16 k11_368), (a 38, aS ta 192 gto), (a 26, aS ta 120 gov1_338), (a 41, aS ta 256 gt1_368)] := hD
    refine lv_iconst (pc := 371) (v := nI 0) hx hb dX10_make_371 (by decide +kernel) ?_
    refine lv_istore (pc := 372) (lv' := [(5, .int (nI 0)), (4, .int (nI (128 * sd))), (3, .int (nI (le sd))), (0, .ref h0), (1, .int (nI sd)), (2, .int (nI 0))]) hx hb dX10_make_372 hl (by decide) rfl (fun ls hl => ?_)
    have LP374 : ∀ (nn374 : Nat) (k3 : Nat) (s' : Nat → BitVec 8), (k3 ≤ le sd) → (qSeg s' gt1_368 (128 * sd + 96) k3 ((fun j => gto (96 * sd + 64 + j)))) → (le sd - k3 < nn374) → ∀ (H : Heap) (locs : List Loc), va_P D vwCl [(a 52, aS ta 3 gnu), (a 33, aS ta 16 gna), (a 42, aS ta 16 gow), (a 43, aS ta 16 gth), (a 36, aK ta 2 ru), (a 37, aK ta 2 le), (a 51, aS ta 8 ghs), (a 44, aS ta 16 gck), (h0, oM a ar1_368 mn1_368 tp osz lsz ns ct), (a 8, aZ ta 256 BOX), (a 9, aZ ta 256 UBOX), (a 16, aS ta 240 rk1_368), (a 18, aS ta 16 ce1_368), (a 22, aS ta 700 gm1_368), (a 24, aS ta 16 mac1_368), (a 25, aS ta 16 k11_368), (a 38, aS ta 192 gto), (a 26, aS ta 120 gov1_338), (a 41, aS ta 256 s')] H → va_D A [(a 52, aS ta 3 gnu), (a 33, aS ta 16 gna), (a 42, aS ta 16 gow), (a 43, aS ta 16 gth), (a 36, aK ta 2 ru), (a 37, aK ta 2 le), (a 51, aS ta 8 ghs), (a 44, aS ta 16 gck), (h0, oM a ar1_368 mn1_368 tp osz lsz ns ct), (a 8, aZ ta 256 BOX), (a 9, aZ ta 256 UBOX), (a 16, aS ta 240 rk1_368), (a 18, aS ta 16 ce1_368), (a 22, aS ta 700 gm1_368), (a 24, aS ta 16 mac1_368), (a 25, aS ta 16 k11_368), (a 38, aS ta 192 gto), (a 26, aS ta 120 gov1_338), (a 41, aS ta 256 s')] → va_S A ss.heap H locs → ∀ ls : Array Slot, lv_has ls 6 [(5, .int (nI k3)), (4, .int (nI (128 * sd))), (3, .int (nI (le sd))), (0, .ref h0), (1, .int (nI sd)), (2, .int (nI 0))] → W pp ll ee ({ frames := 6, cells := 0, slots := 0, locals := 154 } : Room) ss mm (([.ref h0, .int (nI sd), .int (nI 0)] : List Value).toArray) below meth kc H locs 0 0 Q (F0 mm 374 ls []) := by
      intro nn374
      induction nn374 with
      | zero => intro k3 s' hkk3 hs3 hmu; exact absurd hmu (Nat.not_lt_zero _)
      | succ nn374 ih374 =>
        intro k3 s' hkk3 hs3 hmu374 H locs hP hD hS ls hl
        refine lv_iload (pc := 374) hx hb dX10_make_374 (lv_at hl 0 rfl) ?_
        refine lv_iload_n (pc := 376) hx hb dX10_make_376 rfl (lv_at hl 2 rfl) ?_
        refine lv_icmp_ge (pc := 377) (tgt := 414) hx hb dX10_make_377 (by decide) (fun c_3 => ?_) (fun c_3 => ?_)
        · skip
          rw [nI_leI (by omega) (by omega)] at c_3
          refine lv_aload_n (pc := 414) hx hb dX10_make_414 rfl (lv_at hl 3 rfl) ?_
          refine lv_iload_n (pc := 415) hx hb dX10_make_415 rfl (lv_at hl 4 rfl) ?_
          refine cs_V (pc := 416) (idx := 344) (n := 1) (wr := [(a 52, aS ta 3 gnu), (a 33, aS ta 16 gna), (a 42, aS ta 16 gow), (a 43, aS ta 16 gth), (a 36, aK ta 2 ru), (a 37, aK ta 2 le), (a 8, aZ ta 256 BOX), (a 9, aZ ta 256 UBOX), (a 16, aS ta 240 rk1_368), (a 18, aS ta 16 ce1_368), (a 22, aS ta 700 gm1_368), (a 24, aS ta 16 mac1_368), (a 25, aS ta 16 k11_368), (a 38, aS ta 192 gto), (a 41, aS ta 256 s')]) (As := [.int (nI sd)]) (rest := []) (ci := 8) hx hb hml hown hts hGok hK hA hG hl.1 hP hD hS (ct_X10_aboutHost ll D ta hGok h0 a ar1_368 mn1_368 tp osz lsz ns ct gov1_338 ghs gck sd (by first | assumption | omega | rfl | decide) H.size) tw_1357 tw_1354 tw_1356 tw_48 tw_75 hdX10_aboutHost rfl ⟨rfl, rfl, Nat.le_of_ble_eq_true rfl, Nat.le_of_ble_eq_true rfl, Nat.le_of_ble_eq_true rfl, Nat.le_of_ble_eq_true rfl⟩ rfl rfl (q0 := 8) rfl [8, 17, 6, 7] [0, 1, 2, 3, 4, 5, 9, 10, 11, 12, 13, 14, 15, 16, 18] rfl rfl (by decide) rfl (Nat.le_of_ble_eq_true rfl) dX10_make_416 (fun u H locs hq hP hD hS => ?_)
          generalize u = gov1_416 at hq hP hD ⊢
          have hq : (seg gov1_416 0 16 = qL ghs 8 ++ seg gck (8 * sd) 8) := hq
          have hL_416 := hq
          refine W.eq (g2 := F0 mm 419 ls []) rfl ?_
          have hP : va_P D vwCl [(a 52, aS ta 3 gnu), (a 33, aS ta 16 gna), (a 42, aS ta 16 gow), (a 43, aS ta 16 gth), (a 36, aK ta 2 ru), (a 37, aK ta 2 le), (a 8, aZ ta 256 BOX), (a 9, aZ ta 256 UBOX), (a 16, aS ta 240 rk1_368), (a 18, aS ta 16 ce1_368), (a 22, aS ta 700 gm1_368), (a 24, aS ta 16 mac1_368), (a 25, aS ta 16 k11_368), (a 38, aS ta 192 gto), (a 41, aS ta 256 s'), (h0, oM a ar1_368 mn1_368 tp osz lsz ns ct), (a 26, aS ta 120 gov1_416), (a 51, aS ta 8 ghs), (a 44, aS ta 16 gck)] H := hP
          have hD : va_D A [(a 52, aS ta 3 gnu), (a 33, aS ta 16 gna), (a 42, aS ta 16 gow), (a 43, aS ta 16 gth), (a 36, aK ta 2 ru), (a 37, aK ta 2 le), (a 8, aZ ta 256 BOX), (a 9, aZ ta 256 UBOX), (a 16, aS ta 240 rk1_368), (a 18, aS ta 16 ce1_368), (a 22, aS ta 700 gm1_368), (a 24, aS ta 16 mac1_368), (a 25, aS ta 16 k11_368), (a 38, aS ta 192 gto), (a 41, aS ta 256 s'), (h0, oM a ar1_368 mn1_368 tp osz lsz ns ct), (a 26, aS ta 120 gov1_416), (a 51, aS ta 8 ghs), (a 44, aS ta 16 gck)] := hD
          refine lv_aload_n (pc := 419) hx hb dX10_make_419 rfl (lv_at hl 3 rfl) ?_
          refine lv_aload_n (pc := 420) hx hb dX10_make_420 rfl (lv_at hl 3 rfl) ?_
          refine va_get (pc := 421) (D := D) (ci := 8) (v := .ref (a 41)) (C := RX10) (T := TX10) (N := 57) hx hb hts iu10 hown hK hP 15 rfl rfl 41 (by decide) (hts _ tw_1086) (fun _ h9 => h9) rfl dX10_make_421 ?_
          refine lv_iload (pc := 424) hx hb dX10_make_424 (lv_at hl 1 rfl) ?_
          refine lv_bipush (pc := 426) (v := nI 32) hx hb dX10_make_426 (by decide +kernel) ?_
          refine lv_iadd (pc := 428) hx hb dX10_make_428 ?_
          refine q_top (y := nI (128 * sd + 32)) (nI_add (128 * sd) 32) ?_
          refine lv_iload_n (pc := 429) hx hb dX10_make_429 rfl (lv_at hl 2 rfl) ?_
          refine lv_iconst (pc := 430) (v := nI 0) hx hb dX10_make_430 (by decide +kernel) ?_
          refine lv_bipush (pc := 431) (v := nI 8) hx hb dX10_make_431 (by decide +kernel) ?_
          refine lv_bipush (pc := 433) (v := nI 16) hx hb dX10_make_433 (by decide +kernel) ?_
          refine lv_aload_n (pc := 435) hx hb dX10_make_435 rfl (lv_at hl 3 rfl) ?_
          refine va_get (pc := 436) (D := D) (ci := 8) (v := .ref (a 42)) (C := RX10) (T := TX10) (N := 57) hx hb hts iu10 hown hK hP 15 rfl rfl 42 (by decide) (hts _ tw_1087) (fun _ h9 => h9) rfl dX10_make_436 ?_
          refine lv_bipush (pc := 439) (v := nI 8) hx hb dX10_make_439 (by decide +kernel) ?_
          refine lv_iload_n (pc := 441) hx hb dX10_make_441 rfl (lv_at hl 4 rfl) ?_
          refine lv_imul (pc := 442) hx hb dX10_make_442 ?_
          refine q_top (y := nI (8 * sd)) (pk_mul 8 sd) ?_
          refine cs_V (pc := 443) (idx := 340) (n := 8) (wr := [(a 52, aS ta 3 gnu), (a 33, aS ta 16 gna), (a 43, aS ta 16 gth), (a 36, aK ta 2 ru), (a 37, aK ta 2 le), (a 38, aS ta 192 gto), (a 51, aS ta 8 ghs), (a 44, aS ta 16 gck)]) (As := [.ref (a 41), .int (nI (128 * sd + 32)), .int (nI (le sd)), .int (nI 0), .int (nI 8), .int (nI 16), .ref (a 42), .int (nI (8 * sd))]) (rest := []) (ci := 8) hx hb hml hown hts hGok hK hA hG hl.1 hP hD hS (ct_X10_kdf ll D ta hGok h0 a ar1_368 mn1_368 tp osz lsz ns ct gm1_368 mac1_368 k11_368 rk1_368 ce1_368 (a 41) (128 * sd + 32) 256 s' (le sd) 0 8 16 gov1_416 (a 42) (8 * sd) 16 gow (by first | assumption | omega | rfl | decide) (by first | assumption | omega | rfl | decide) (by first | assumption | omega | rfl | decide) (by first | assumption | omega | rfl | decide) (by first | assumption | omega | rfl | decide) (by first | assumption | omega | rfl | decide) (by first | assumption | omega | rfl | decide) (by first | assumption | omega | rfl | decide) H.size) tw_1330 tw_1327 tw_1329 tw_42 tw_75 hdX10_kdf rfl ⟨rfl, rfl, Nat.le_of_ble_eq_true rfl, Nat.le_of_ble_eq_true rfl, Nat.le_of_ble_eq_true rfl, Nat.le_of_ble_eq_true rfl⟩ rfl rfl (q0 := 15) rfl [15, 6, 7, 8, 9, 10, 11, 12, 14, 16, 2] [0, 1, 3, 4, 5, 13, 17, 18] rfl rfl (by decide) rfl (Nat.le_of_ble_eq_true rfl) dX10_make_443 (fun u H locs hq hP hD hS => ?_)
          obtain ⟨ar1_443, mn1_443, gm1_443, mac1_443, k11_443, rk1_443, ce1_443, gt1_443⟩ := u
          have hq : (seg gt1_443 (8 * sd) 8 = kdfL (seg s' (128 * sd + 32) (le sd)) 0 8 (seg gov1_416 0 16)) ∧ (∀ jz, (jz < (8 * sd) ∨ (8 * sd) + 8 ≤ jz) → gt1_443 jz = gow jz) := hq
          obtain ⟨hL_443, hfr_443⟩ := hq
          refine W.eq (g2 := F0 mm 446 ls []) rfl ?_
          have hP : va_P D vwCl [(a 52, aS ta 3 gnu), (a 33, aS ta 16 gna), (a 43, aS ta 16 gth), (a 36, aK ta 2 ru), (a 37, aK ta 2 le), (a 38, aS ta 192 gto), (a 51, aS ta 8 ghs), (a 44, aS ta 16 gck), (h0, oM a ar1_443 mn1_443 tp osz lsz ns ct), (a 8, aZ ta 256 BOX), (a 9, aZ ta 256 UBOX), (a 16, aS ta 240 rk1_443), (a 18, aS ta 16 ce1_443), (a 22, aS ta 700 gm1_443), (a 24, aS ta 16 mac1_443), (a 25, aS ta 16 k11_443), (a 41, aS ta 256 s'), (a 26, aS ta 120 gov1_416), (a 42, aS ta 16 gt1_443)] H := hP
          have hD : va_D A [(a 52, aS ta 3 gnu), (a 33, aS ta 16 gna), (a 43, aS ta 16 gth), (a 36, aK ta 2 ru), (a 37, aK ta 2 le), (a 38, aS ta 192 gto), (a 51, aS ta 8 ghs), (a 44, aS ta 16 gck), (h0, oM a ar1_443 mn1_443 tp osz lsz ns ct), (a 8, aZ ta 256 BOX), (a 9, aZ ta 256 UBOX), (a 16, aS ta 240 rk1_443), (a 18, aS ta 16 ce1_443), (a 22, aS ta 700 gm1_443), (a 24, aS ta 16 mac1_443), (a 25, aS ta 16 k11_443), (a 41, aS ta 256 s'), (a 26, aS ta 120 gov1_416), (a 42, aS ta 16 gt1_443)] := hD
          refine lv_aload_n (pc := 446) hx hb dX10_make_446 rfl (lv_at hl 3 rfl) ?_
          refine lv_iload_n (pc := 447) hx hb dX10_make_447 rfl (lv_at hl 4 rfl) ?_
          refine cs_V (pc := 448) (idx := 344) (n := 1) (wr := [(a 52, aS ta 3 gnu), (a 33, aS ta 16 gna), (a 43, aS ta 16 gth), (a 36, aK ta 2 ru), (a 37, aK ta 2 le), (a 38, aS ta 192 gto), (a 8, aZ ta 256 BOX), (a 9, aZ ta 256 UBOX), (a 16, aS ta 240 rk1_443), (a 18, aS ta 16 ce1_443), (a 22, aS ta 700 gm1_443), (a 24, aS ta 16 mac1_443), (a 25, aS ta 16 k11_443), (a 41, aS ta 256 s'), (a 42, aS ta 16 gt1_443)]) (As := [.int (nI sd)]) (rest := []) (ci := 8) hx hb hml hown hts hGok hK hA hG hl.1 hP hD hS (ct_X10_aboutHost ll D ta hGok h0 a ar1_443 mn1_443 tp osz lsz ns ct gov1_416 ghs gck sd (by first | assumption | omega | rfl | decide) H.size) tw_1357 tw_1354 tw_1356 tw_48 tw_75 hdX10_aboutHost rfl ⟨rfl, rfl, Nat.le_of_ble_eq_true rfl, Nat.le_of_ble_eq_true rfl, Nat.le_of_ble_eq_true rfl, Nat.le_of_ble_eq_true rfl⟩ rfl rfl (q0 := 8) rfl [8, 17, 6, 7] [0, 1, 2, 3, 4, 5, 9, 10, 11, 12, 13, 14, 15, 16, 18] rfl rfl (by decide) rfl (Nat.le_of_ble_eq_true rfl) dX10_make_448 (fun u H locs hq hP hD hS => ?_)
          generalize u = gov1_448 at hq hP hD ⊢
          have hq : (seg gov1_448 0 16 = qL ghs 8 ++ seg gck (8 * sd) 8) := hq
          have hL_448 := hq
          refine W.eq (g2 := F0 mm 451 ls []) rfl ?_
          have hP : va_P D vwCl [(a 52, aS ta 3 gnu), (a 33, aS ta 16 gna), (a 43, aS ta 16 gth), (a 36, aK ta 2 ru), (a 37, aK ta 2 le), (a 38, aS ta 192 gto), (a 8, aZ ta 256 BOX), (a 9, aZ ta 256 UBOX), (a 16, aS ta 240 rk1_443), (a 18, aS ta 16 ce1_443), (a 22, aS ta 700 gm1_443), (a 24, aS ta 16 mac1_443), (a 25, aS ta 16 k11_443), (a 41, aS ta 256 s'), (a 42, aS ta 16 gt1_443), (h0, oM a ar1_443 mn1_443 tp osz lsz ns ct), (a 26, aS ta 120 gov1_448), (a 51, aS ta 8 ghs), (a 44, aS ta 16 gck)] H := hP
          have hD : va_D A [(a 52, aS ta 3 gnu), (a 33, aS ta 16 gna), (a 43, aS ta 16 gth), (a 36, aK ta 2 ru), (a 37, aK ta 2 le), (a 38, aS ta 192 gto), (a 8, aZ ta 256 BOX), (a 9, aZ ta 256 UBOX), (a 16, aS ta 240 rk1_443), (a 18, aS ta 16 ce1_443), (a 22, aS ta 700 gm1_443), (a 24, aS ta 16 mac1_443), (a 25, aS ta 16 k11_443), (a 41, aS ta 256 s'), (a 42, aS ta 16 gt1_443), (h0, oM a ar1_443 mn1_443 tp osz lsz ns ct), (a 26, aS ta 120 gov1_448), (a 51, aS ta 8 ghs), (a 44, aS ta 16 gck)] := hD
          refine lv_aload_n (pc := 451) hx hb dX10_make_451 rfl (lv_at hl 3 rfl) ?_
          refine lv_aload_n (pc := 452) hx hb dX10_make_452 rfl (lv_at hl 3 rfl) ?_
          refine va_get (pc := 453) (D := D) (ci := 8) (v := .ref (a 41)) (C := RX10) (T := TX10) (N := 57) hx hb hts iu10 hown hK hP 15 rfl rfl 41 (by decide) (hts _ tw_1086) (fun _ h9 => h9) rfl dX10_make_453 ?_
          refine lv_iload (pc := 456) hx hb dX10_make_456 (lv_at hl 1 rfl) ?_
          refine lv_bipush (pc := 458) (v := nI 32) hx hb dX10_make_458 (by decide +kernel) ?_
          refine lv_iadd (pc := 460) hx hb dX10_make_460 ?_
          refine q_top (y := nI (128 * sd + 32)) (nI_add (128 * sd) 32) ?_
          refine lv_iload_n (pc := 461) hx hb dX10_make_461 rfl (lv_at hl 2 rfl) ?_
          refine lv_iconst (pc := 462) (v := nI 1) hx hb dX10_make_462 (by decide +kernel) ?_
          refine lv_bipush (pc := 463) (v := nI 8) hx hb dX10_make_463 (by decide +kernel) ?_
          refine lv_bipush (pc := 465) (v := nI 16) hx hb dX10_make_465 (by decide +kernel) ?_
          refine lv_aload_n (pc := 467) hx hb dX10_make_467 rfl (lv_at hl 3 rfl) ?_
          refine va_get (pc := 468) (D := D) (ci := 8) (v := .ref (a 43)) (C := RX10) (T := TX10) (N := 57) hx hb hts iu10 hown hK hP 15 rfl rfl 43 (by decide) (hts _ tw_1088) (fun _ h9 => h9) rfl dX10_make_468 ?_
          refine lv_bipush (pc := 471) (v := nI 8) hx hb dX10_make_471 (by decide +kernel) ?_
          refine lv_iload_n (pc := 473) hx hb dX10_make_473 rfl (lv_at hl 4 rfl) ?_
          refine lv_imul (pc := 474) hx hb dX10_make_474 ?_
          refine q_top (y := nI (8 * sd)) (pk_mul 8 sd) ?_
          refine cs_V (pc := 475) (idx := 340) (n := 8) (wr := [(a 52, aS ta 3 gnu), (a 33, aS ta 16 gna), (a 36, aK ta 2 ru), (a 37, aK ta 2 le), (a 38, aS ta 192 gto), (a 42, aS ta 16 gt1_443), (a 51, aS ta 8 ghs), (a 44, aS ta 16 gck)]) (As := [.ref (a 41), .int (nI (128 * sd + 32)), .int (nI (le sd)), .int (nI 1), .int (nI 8), .int (nI 16), .ref (a 43), .int (nI (8 * sd))]) (rest := []) (ci := 8) hx hb hml hown hts hGok hK hA hG hl.1 hP hD hS (ct_X10_kdf ll D ta hGok h0 a ar1_443 mn1_443 tp osz lsz ns ct gm1_443 mac1_443 k11_443 rk1_443 ce1_443 (a 41) (128 * sd + 32) 256 s' (le sd) 1 8 16 gov1_448 (a 43) (8 * sd) 16 gth (by first | assumption | omega | rfl | decide) (by first | assumption | omega | rfl | decide) (by first | assumption | omega | rfl | decide) (by first | assumption | omega | rfl | decide) (by first | assumption | omega | rfl | decide) (by first | assumption | omega | rfl | decide) (by first | assumption | omega | rfl | decide) (by first | assumption | omega | rfl | decide) H.size) tw_1330 tw_1327 tw_1329 tw_42 tw_75 hdX10_kdf rfl ⟨rfl, rfl, Nat.le_of_ble_eq_true rfl, Nat.le_of_ble_eq_true rfl, Nat.le_of_ble_eq_true rfl, Nat.le_of_ble_eq_true rfl⟩ rfl rfl (q0 := 15) rfl [15, 6, 7, 8, 9, 10, 11, 12, 13, 16, 2] [0, 1, 3, 4, 5, 14, 17, 18] rfl rfl (by decide) rfl (Nat.le_of_ble_eq_true rfl) dX10_make_475 (fun u H locs hq hP hD hS => ?_)
          obtain ⟨ar1_475, mn1_475, gm1_475, mac1_475, k11_475, rk1_475, ce1_475, gt1_475⟩ := u
          have hq : (seg gt1_475 (8 * sd) 8 = kdfL (seg s' (128 * sd + 32) (le sd)) 1 8 (seg gov1_448 0 16)) ∧ (∀ jz, (jz < (8 * sd) ∨ (8 * sd) + 8 ≤ jz) → gt1_475 jz = gth jz) := hq
          obtain ⟨hL_475, hfr_475⟩ := hq
          refine W.eq (g2 := F0 mm 478 ls []) rfl ?_
          have hP : va_P D vwCl [(a 52, aS ta 3 gnu), (a 33, aS ta 16 gna), (a 36, aK ta 2 ru), (a 37, aK ta 2 le), (a 38, aS ta 192 gto), (a 42, aS ta 16 gt1_443), (a 51, aS ta 8 ghs), (a 44, aS ta 16 gck), (h0, oM a ar1_475 mn1_475 tp osz lsz ns ct), (a 8, aZ ta 256 BOX), (a 9, aZ ta 256 UBOX), (a 16, aS ta 240 rk1_475), (a 18, aS ta 16 ce1_475), (a 22, aS ta 700 gm1_475), (a 24, aS ta 16 mac1_475), (a 25, aS ta 16 k11_475), (a 41, aS ta 256 s'), (a 26, aS ta 120 gov1_448), (a 43, aS ta 16 gt1_475)] H := hP
          have hD : va_D A [(a 52, aS ta 3 gnu), (a 33, aS ta 16 gna), (a 36, aK ta 2 ru), (a 37, aK ta 2 le), (a 38, aS ta 192 gto), (a 42, aS ta 16 gt1_443), (a 51, aS ta 8 ghs), (a 44, aS ta 16 gck), (h0, oM a ar1_475 mn1_475 tp osz lsz ns ct), (a 8, aZ ta 256 BOX), (a 9, aZ ta 256 UBOX), (a 16, aS ta 240 rk1_475), (a 18, aS ta 16 ce1_475), (a 22, aS ta 700 gm1_475), (a 24, aS ta 16 mac1_475), (a 25, aS ta 16 k11_475), (a 41, aS ta 256 s'), (a 26, aS ta 120 gov1_448), (a 43, aS ta 16 gt1_475)] := hD
          have hq_4 : (seg s' (128 * sd) (le sd) = kdfL (seg gto (96 * sd) (le sd)) 4 (le sd) (qL ghs 8 ++ seg gck (8 * sd) 8)) ∧ (seg s' (128 * sd + 32) (le sd) = kdfL (seg gto (96 * sd + 32) (le sd)) 6 (le sd) (qL ghs 8 ++ seg gck (8 * sd) 8)) ∧ (seg s' (128 * sd + 64) (le sd) = kdfL (seg gto (96 * sd + 32) (le sd)) 7 (le sd) (qL ghs 8 ++ seg gck (8 * sd) 8)) ∧ (seg s' (128 * sd + 96) (le sd) = seg gto (96 * sd + 64) (le sd)) ∧ (∀ j, (j < 128 * sd ∨ 128 * sd + 128 ≤ j) → s' j = gke j) ∧ (seg gt1_443 (8 * sd) 8 = kdfL (kdfL (seg gto (96 * sd + 32) (le sd)) 6 (le sd) (qL ghs 8 ++ seg gck (8 * sd) 8)) 0 8 (qL ghs 8 ++ seg gck (8 * sd) 8)) ∧ (∀ j, (j < 8 * sd ∨ 8 * sd + 8 ≤ j) → gt1_443 j = gow j) ∧ (seg gt1_475 (8 * sd) 8 = kdfL (kdfL (seg gto (96 * sd + 32) (le sd)) 6 (le sd) (qL ghs 8 ++ seg gck (8 * sd) 8)) 1 8 (qL ghs 8 ++ seg gck (8 * sd) 8)) ∧ (∀ j, (j < 8 * sd ∨ 8 * sd + 8 ≤ j) → gt1_475 j = gth j) := by
            have hEE := (seg_keep (g' := s') (g := gt1_298) (o := 128 * sd) (n := le sd) fun j hj => by rw [hs3.2 _ (by omega), hfr_368 _ (by omega), hfr_333 _ (by omega)]).trans hL_298
            have hMM := (seg_keep (g' := s') (g := gt1_333) (o := 128 * sd + 32) (n := le sd) fun j hj => by rw [hs3.2 _ (by omega), hfr_368 _ (by omega)]).trans hL_333
            have hBB := (seg_keep (g' := s') (g := gt1_368) (o := 128 * sd + 64) (n := le sd) fun j hj => by rw [hs3.2 _ (by omega)]).trans hL_368
            rw [hL_273] at hEE
            rw [hL_303] at hMM
            rw [hL_338] at hBB
            refine ⟨hEE, hMM, hBB, seg_copy hs3 (by omega), fun j hj => by rw [hs3.2 j (by omega), hfr_368 j (by omega), hfr_333 j (by omega), hfr_298 j (by omega)], hL_443.trans (by rw [hL_416, hMM]), hfr_443, hL_475.trans (by rw [hL_448, hMM]), hfr_475⟩
          exact hret (⟨(rk1_475), (ce1_475), (gm1_475), (mac1_475), (k11_475), (gov1_448), (s'), (gt1_443), (gt1_475), (mn1_475), (ar1_475)⟩ : (Nat → BitVec 8) × (Nat → BitVec 8) × (Nat → BitVec 8) × (Nat → BitVec 8) × (Nat → BitVec 8) × (Nat → BitVec 8) × (Nat → BitVec 8) × (Nat → BitVec 8) × (Nat → BitVec 8) × Nat × Nat) _ _ _ _ dX10_make_478 hq_4 (hP.sub [8, 9, 10, 11, 12, 13, 14, 15, 17, 0, 6, 1, 4, 16, 5, 18, 7, 2, 3] rfl) (hD.sub [8, 9, 10, 11, 12, 13, 14, 15, 17, 0, 6, 1, 4, 16, 5, 18, 7, 2, 3] (by decide) rfl) hS
        · skip
          rw [nI_leI (by omega) (by omega)] at c_3
          refine lv_aload_n (pc := 380) hx hb dX10_make_380 rfl (lv_at hl 3 rfl) ?_
          refine va_get (pc := 381) (D := D) (ci := 8) (v := .ref (a 41)) (C := RX10) (T := TX10) (N := 57) hx hb hts iu10 hown hK hP 8 rfl rfl 41 (by decide) (hts _ tw_1086) (fun _ h9 => h9) rfl dX10_make_381 ?_
          refine lv_iload (pc := 384) hx hb dX10_make_384 (lv_at hl 1 rfl) ?_
          refine lv_bipush (pc := 386) (v := nI 96) hx hb dX10_make_386 (by decide +kernel) ?_
          refine lv_iadd (pc := 388) hx hb dX10_make_388 ?_
          refine q_top (y := nI (128 * sd + 96)) (nI_add (128 * sd) 96) ?_
          refine lv_iload (pc := 389) hx hb dX10_make_389 (lv_at hl 0 rfl) ?_
          refine lv_iadd (pc := 391) hx hb dX10_make_391 ?_
          refine q_top (y := nI (128 * sd + 96 + k3)) (nI_add (128 * sd + 96) k3) ?_
          refine lv_aload_n (pc := 392) hx hb dX10_make_392 rfl (lv_at hl 3 rfl) ?_
          refine va_get (pc := 393) (D := D) (ci := 8) (v := .ref (a 38)) (C := RX10) (T := TX10) (N := 57) hx hb hts iu10 hown hK hP 8 rfl rfl 38 (by decide) (hts _ tw_1083) (fun _ h9 => h9) rfl dX10_make_393 ?_
          refine lv_bipush (pc := 396) (v := nI 96) hx hb dX10_make_396 (by decide +kernel) ?_
          refine lv_iload_n (pc := 398) hx hb dX10_make_398 rfl (lv_at hl 4 rfl) ?_
          refine lv_imul (pc := 399) hx hb dX10_make_399 ?_
          refine q_top (y := nI (96 * sd)) (pk_mul 96 sd) ?_
          refine lv_bipush (pc := 400) (v := nI 64) hx hb dX10_make_400 (by decide +kernel) ?_
          refine lv_iadd (pc := 402) hx hb dX10_make_402 ?_
          refine q_top (y := nI (96 * sd + 64)) (nI_add (96 * sd) 64) ?_
          refine lv_iload (pc := 403) hx hb dX10_make_403 (lv_at hl 0 rfl) ?_
          refine lv_iadd (pc := 405) hx hb dX10_make_405 ?_
          refine q_top (y := nI (96 * sd + 64 + k3)) (nI_add (96 * sd + 64) k3) ?_
          refine q_bald (pc := 406) hx hb hK hP 16 2 rfl rfl (k := 96 * sd + 64 + k3) (v := qs (gto (96 * sd + 64 + k3))) rfl (by omega) (by omega) rfl dX10_make_406 ?_
          refine q_bastS (pc := 407) hx hb hK hP hD hS 18 2 rfl rfl (k := 128 * sd + 96 + k3) rfl (by omega) (by omega) (b := gto (96 * sd + 64 + k3)) (qlo_qs _) dX10_make_407 (fun H locs hP hD hS => ?_)
          have hP : va_P D vwCl [(a 52, aS ta 3 gnu), (a 33, aS ta 16 gna), (a 42, aS ta 16 gow), (a 43, aS ta 16 gth), (a 36, aK ta 2 ru), (a 37, aK ta 2 le), (a 51, aS ta 8 ghs), (a 44, aS ta 16 gck), (h0, oM a ar1_368 mn1_368 tp osz lsz ns ct), (a 8, aZ ta 256 BOX), (a 9, aZ ta 256 UBOX), (a 16, aS ta 240 rk1_368), (a 18, aS ta 16 ce1_368), (a 22, aS ta 700 gm1_368), (a 24, aS ta 16 mac1_368), (a 25, aS ta 16 k11_368), (a 38, aS ta 192 gto), (a 26, aS ta 120 gov1_338), (a 41, aS ta 256 (qU s' (128 * sd + 96 + k3) (gto (96 * sd + 64 + k3))))] H := hP
          have hD : va_D A [(a 52, aS ta 3 gnu), (a 33, aS ta 16 gna), (a 42, aS ta 16 gow), (a 43, aS ta 16 gth), (a 36, aK ta 2 ru), (a 37, aK ta 2 le), (a 51, aS ta 8 ghs), (a 44, aS ta 16 gck), (h0, oM a ar1_368 mn1_368 tp osz lsz ns ct), (a 8, aZ ta 256 BOX), (a 9, aZ ta 256 UBOX), (a 16, aS ta 240 rk1_368), (a 18, aS ta 16 ce1_368), (a 22, aS ta 700 gm1_368), (a 24, aS ta 16 mac1_368), (a 25, aS ta 16 k11_368), (a 38, aS ta 192 gto), (a 26, aS ta 120 gov1_338), (a 41, aS ta 256 (qU s' (128 * sd + 96 + k3) (gto (96 * sd + 64 + k3))))] := hD
          refine lv_iinc (pc := 408) (v := nI (k3 + 1)) (lv' := [(5, .int (nI (k3 + 1))), (4, .int (nI (128 * sd))), (3, .int (nI (le sd))), (0, .ref h0), (1, .int (nI sd)), (2, .int (nI 0))]) hx hb dX10_make_408 hl (k := 0) rfl (by first | exact nI_add k3 1 | rfl) (by decide) rfl (fun ls hl => ?_)
          refine lv_goto (pc := 411) (tgt := 374) hx hb dX10_make_411 (by decide) ?_
          exact ih374 (k3 + 1) (qU s' (128 * sd + 96 + k3) (gto (96 * sd + 64 + k3))) (by omega) (qSeg_s hs3 (by omega) (by first | rfl | (simp; done))) (by omega) _ _ (hP.sub [0, 1, 2, 3, 4, 5, 6, 7, 8, 9, 10, 11, 12, 13, 14, 15, 16, 17, 18] rfl) (hD.sub [0, 1, 2, 3, 4, 5, 6, 7, 8, 9, 10, 11, 12, 13, 14, 15, 16, 17, 18] (by decide) rfl) hS ls (lv_sub hl [0, 1, 2, 3, 4, 5] rfl)
    exact LP374 _ 0 gt1_368 (by omega) (qSeg_0) (Nat.lt_succ_self _) _ _ (hP.sub [0, 1, 2, 3, 4, 5, 6, 7, 8, 9, 10, 11, 12, 13, 14, 15, 16, 17, 18] rfl) (hD.sub [0, 1, 2, 3, 4, 5, 6, 7, 8, 9, 10, 11, 12, 13, 14, 15, 16, 17, 18] (by decide) rfl) hS ls (lv_sub hl [0, 1, 2, 3, 4, 5] rfl)
  · skip
    rw [nI_eq (by omega) (by omega)] at c_1
    exfalso; omega
theorem hdX10_start : yX10_start.cls ≠ "java/lang/invoke/MethodHandle" ∧ yX10_start.cls ≠ "java/lang/invoke/VarHandle" ∧ (parseMethodDescriptor yX10_start.desc).map (fun d => d.parameters.length) = some 1 := ⟨by decide +kernel, by decide +kernel, by decide +kernel⟩
theorem dX10_start_0 : decode cX10_start 0 = .ok (.aload_n 0, 1) := by decide +kernel
theorem dX10_start_1 : decode cX10_start 1 = .ok (.getfield 231, 3) := by decide +kernel
theorem dX10_start_4 : decode cX10_start 4 = .ok (.iconst 0, 1) := by decide +kernel
theorem dX10_start_5 : decode cX10_start 5 = .ok (.iaload, 1) := by decide +kernel
theorem dX10_start_6 : decode cX10_start 6 = .ok (.ifCond .eq 33, 3) := by decide +kernel
theorem dX10_start_9 : decode cX10_start 9 = .ok (.aload_n 0, 1) := by decide +kernel
theorem dX10_start_10 : decode cX10_start 10 = .ok (.getfield 231, 3) := by decide +kernel
theorem dX10_start_13 : decode cX10_start 13 = .ok (.iconst 0, 1) := by decide +kernel
theorem dX10_start_14 : decode cX10_start 14 = .ok (.iaload, 1) := by decide +kernel
theorem dX10_start_15 : decode cX10_start 15 = .ok (.aload_n 0, 1) := by decide +kernel
theorem dX10_start_16 : decode cX10_start 16 = .ok (.getfield 231, 3) := by decide +kernel
theorem dX10_start_19 : decode cX10_start 19 = .ok (.iconst 1, 1) := by decide +kernel
theorem dX10_start_20 : decode cX10_start 20 = .ok (.iaload, 1) := by decide +kernel
theorem dX10_start_21 : decode cX10_start 21 = .ok (.if_icmp .ne 18, 3) := by decide +kernel
theorem dX10_start_24 : decode cX10_start 24 = .ok (.aload_n 0, 1) := by decide +kernel
theorem dX10_start_25 : decode cX10_start 25 = .ok (.getfield 234, 3) := by decide +kernel
theorem dX10_start_28 : decode cX10_start 28 = .ok (.iconst 0, 1) := by decide +kernel
theorem dX10_start_29 : decode cX10_start 29 = .ok (.iaload, 1) := by decide +kernel
theorem dX10_start_30 : decode cX10_start 30 = .ok (.aload_n 0, 1) := by decide +kernel
theorem dX10_start_31 : decode cX10_start 31 = .ok (.getfield 234, 3) := by decide +kernel
theorem dX10_start_34 : decode cX10_start 34 = .ok (.iconst 1, 1) := by decide +kernel
theorem dX10_start_35 : decode cX10_start 35 = .ok (.iaload, 1) := by decide +kernel
theorem dX10_start_36 : decode cX10_start 36 = .ok (.if_icmp .eq 5, 3) := by decide +kernel
theorem dX10_start_39 : decode cX10_start 39 = .ok (.iconst (-1), 1) := by decide +kernel
theorem dX10_start_40 : decode cX10_start 40 = .ok (.ireturn, 1) := by decide +kernel
theorem dX10_start_41 : decode cX10_start 41 = .ok (.aload_n 0, 1) := by decide +kernel
theorem dX10_start_42 : decode cX10_start 42 = .ok (.iconst 0, 1) := by decide +kernel
theorem dX10_start_43 : decode cX10_start 43 = .ok (.putfield 307, 3) := by decide +kernel
theorem dX10_start_46 : decode cX10_start 46 = .ok (.iconst 0, 1) := by decide +kernel
theorem dX10_start_47 : decode cX10_start 47 = .ok (.istore_n 3, 1) := by decide +kernel
theorem dX10_start_48 : decode cX10_start 48 = .ok (.iload_n 3, 1) := by decide +kernel
theorem dX10_start_49 : decode cX10_start 49 = .ok (.bipush 8, 2) := by decide +kernel
theorem dX10_start_51 : decode cX10_start 51 = .ok (.if_icmp .ge 26, 3) := by decide +kernel
theorem dX10_start_54 : decode cX10_start 54 = .ok (.aload_n 0, 1) := by decide +kernel
theorem dX10_start_55 : decode cX10_start 55 = .ok (.getfield 277, 3) := by decide +kernel
theorem dX10_start_58 : decode cX10_start 58 = .ok (.iload_n 3, 1) := by decide +kernel
theorem dX10_start_59 : decode cX10_start 59 = .ok (.lload_n 1, 1) := by decide +kernel
theorem dX10_start_60 : decode cX10_start 60 = .ok (.bipush 56, 2) := by decide +kernel
theorem dX10_start_62 : decode cX10_start 62 = .ok (.bipush 8, 2) := by decide +kernel
theorem dX10_start_64 : decode cX10_start 64 = .ok (.iload_n 3, 1) := by decide +kernel
theorem dX10_start_65 : decode cX10_start 65 = .ok (.imul, 1) := by decide +kernel
theorem dX10_start_66 : decode cX10_start 66 = .ok (.isub, 1) := by decide +kernel
theorem dX10_start_67 : decode cX10_start 67 = .ok (.lshr, 1) := by decide +kernel
theorem dX10_start_68 : decode cX10_start 68 = .ok (.l2i, 1) := by decide +kernel
theorem dX10_start_69 : decode cX10_start 69 = .ok (.i2b, 1) := by decide +kernel
theorem dX10_start_70 : decode cX10_start 70 = .ok (.bastore, 1) := by decide +kernel
theorem dX10_start_71 : decode cX10_start 71 = .ok (.iinc 3 1, 3) := by decide +kernel
theorem dX10_start_74 : decode cX10_start 74 = .ok (.goto (-26), 3) := by decide +kernel
theorem dX10_start_77 : decode cX10_start 77 = .ok (.aload_n 0, 1) := by decide +kernel
theorem dX10_start_78 : decode cX10_start 78 = .ok (.getfield 231, 3) := by decide +kernel
theorem dX10_start_81 : decode cX10_start 81 = .ok (.iconst 0, 1) := by decide +kernel
theorem dX10_start_82 : decode cX10_start 82 = .ok (.iaload, 1) := by decide +kernel
theorem dX10_start_83 : decode cX10_start 83 = .ok (.iconst 2, 1) := by decide +kernel
theorem dX10_start_84 : decode cX10_start 84 = .ok (.if_icmp .ne 7, 3) := by decide +kernel
theorem dX10_start_87 : decode cX10_start 87 = .ok (.iconst 2, 1) := by decide +kernel
theorem dX10_start_88 : decode cX10_start 88 = .ok (.goto 4, 3) := by decide +kernel
theorem dX10_start_91 : decode cX10_start 91 = .ok (.iconst 3, 1) := by decide +kernel
theorem dX10_start_92 : decode cX10_start 92 = .ok (.istore_n 3, 1) := by decide +kernel
theorem dX10_start_93 : decode cX10_start 93 = .ok (.iconst 0, 1) := by decide +kernel
theorem dX10_start_94 : decode cX10_start 94 = .ok (.istore 4, 2) := by decide +kernel
theorem dX10_start_96 : decode cX10_start 96 = .ok (.iload 4, 2) := by decide +kernel
theorem dX10_start_98 : decode cX10_start 98 = .ok (.iload_n 3, 1) := by decide +kernel
theorem dX10_start_99 : decode cX10_start 99 = .ok (.if_icmp .ge 31, 3) := by decide +kernel
theorem dX10_start_102 : decode cX10_start 102 = .ok (.aload_n 0, 1) := by decide +kernel
theorem dX10_start_103 : decode cX10_start 103 = .ok (.getfield 280, 3) := by decide +kernel
theorem dX10_start_106 : decode cX10_start 106 = .ok (.iload 4, 2) := by decide +kernel
theorem dX10_start_108 : decode cX10_start 108 = .ok (.aload_n 0, 1) := by decide +kernel
theorem dX10_start_109 : decode cX10_start 109 = .ok (.getfield 325, 3) := by decide +kernel
theorem dX10_start_112 : decode cX10_start 112 = .ok (.bipush 8, 2) := by decide +kernel
theorem dX10_start_114 : decode cX10_start 114 = .ok (.iload_n 3, 1) := by decide +kernel
theorem dX10_start_115 : decode cX10_start 115 = .ok (.iconst 1, 1) := by decide +kernel
theorem dX10_start_116 : decode cX10_start 116 = .ok (.isub, 1) := by decide +kernel
theorem dX10_start_117 : decode cX10_start 117 = .ok (.iload 4, 2) := by decide +kernel
theorem dX10_start_119 : decode cX10_start 119 = .ok (.isub, 1) := by decide +kernel
theorem dX10_start_120 : decode cX10_start 120 = .ok (.imul, 1) := by decide +kernel
theorem dX10_start_121 : decode cX10_start 121 = .ok (.ishr, 1) := by decide +kernel
theorem dX10_start_122 : decode cX10_start 122 = .ok (.i2b, 1) := by decide +kernel
theorem dX10_start_123 : decode cX10_start 123 = .ok (.bastore, 1) := by decide +kernel
theorem dX10_start_124 : decode cX10_start 124 = .ok (.iinc 4 1, 3) := by decide +kernel
theorem dX10_start_127 : decode cX10_start 127 = .ok (.goto (-31), 3) := by decide +kernel
theorem dX10_start_130 : decode cX10_start 130 = .ok (.aload_n 0, 1) := by decide +kernel
theorem dX10_start_131 : decode cX10_start 131 = .ok (.iconst 1, 1) := by decide +kernel
theorem dX10_start_132 : decode cX10_start 132 = .ok (.iconst 1, 1) := by decide +kernel
theorem dX10_start_133 : decode cX10_start 133 = .ok (.invokevirtual 350, 3) := by decide +kernel
theorem dX10_start_136 : decode cX10_start 136 = .ok (.aload_n 0, 1) := by decide +kernel
theorem dX10_start_137 : decode cX10_start 137 = .ok (.getfield 240, 3) := by decide +kernel
theorem dX10_start_140 : decode cX10_start 140 = .ok (.iconst 1, 1) := by decide +kernel
theorem dX10_start_141 : decode cX10_start 141 = .ok (.iconst 1, 1) := by decide +kernel
theorem dX10_start_142 : decode cX10_start 142 = .ok (.iastore, 1) := by decide +kernel
theorem dX10_start_143 : decode cX10_start 143 = .ok (.iconst 0, 1) := by decide +kernel
theorem dX10_start_144 : decode cX10_start 144 = .ok (.istore 4, 2) := by decide +kernel
theorem dX10_start_146 : decode cX10_start 146 = .ok (.iload 4, 2) := by decide +kernel
theorem dX10_start_148 : decode cX10_start 148 = .ok (.bipush 8, 2) := by decide +kernel
theorem dX10_start_150 : decode cX10_start 150 = .ok (.if_icmp .ge 26, 3) := by decide +kernel
theorem dX10_start_153 : decode cX10_start 153 = .ok (.aload_n 0, 1) := by decide +kernel
theorem dX10_start_154 : decode cX10_start 154 = .ok (.getfield 255, 3) := by decide +kernel
theorem dX10_start_157 : decode cX10_start 157 = .ok (.iload 4, 2) := by decide +kernel
theorem dX10_start_159 : decode cX10_start 159 = .ok (.aload_n 0, 1) := by decide +kernel
theorem dX10_start_160 : decode cX10_start 160 = .ok (.getfield 255, 3) := by decide +kernel
theorem dX10_start_163 : decode cX10_start 163 = .ok (.bipush 8, 2) := by decide +kernel
theorem dX10_start_165 : decode cX10_start 165 = .ok (.iload 4, 2) := by decide +kernel
theorem dX10_start_167 : decode cX10_start 167 = .ok (.iadd, 1) := by decide +kernel
theorem dX10_start_168 : decode cX10_start 168 = .ok (.baload, 1) := by decide +kernel
theorem dX10_start_169 : decode cX10_start 169 = .ok (.bastore, 1) := by decide +kernel
theorem dX10_start_170 : decode cX10_start 170 = .ok (.iinc 4 1, 3) := by decide +kernel
theorem dX10_start_173 : decode cX10_start 173 = .ok (.goto (-27), 3) := by decide +kernel
theorem dX10_start_176 : decode cX10_start 176 = .ok (.aload_n 0, 1) := by decide +kernel
theorem dX10_start_177 : decode cX10_start 177 = .ok (.iconst 0, 1) := by decide +kernel
theorem dX10_start_178 : decode cX10_start 178 = .ok (.iconst 0, 1) := by decide +kernel
theorem dX10_start_179 : decode cX10_start 179 = .ok (.invokevirtual 350, 3) := by decide +kernel
theorem dX10_start_182 : decode cX10_start 182 = .ok (.iconst 1, 1) := by decide +kernel
theorem dX10_start_183 : decode cX10_start 183 = .ok (.istore 4, 2) := by decide +kernel
theorem dX10_start_185 : decode cX10_start 185 = .ok (.iconst 0, 1) := by decide +kernel
theorem dX10_start_186 : decode cX10_start 186 = .ok (.istore 5, 2) := by decide +kernel
theorem dX10_start_188 : decode cX10_start 188 = .ok (.iload 5, 2) := by decide +kernel
theorem dX10_start_190 : decode cX10_start 190 = .ok (.bipush 8, 2) := by decide +kernel
theorem dX10_start_192 : decode cX10_start 192 = .ok (.if_icmp .ge 41, 3) := by decide +kernel
theorem dX10_start_195 : decode cX10_start 195 = .ok (.iload 4, 2) := by decide +kernel
theorem dX10_start_197 : decode cX10_start 197 = .ok (.ifCond .eq 27, 3) := by decide +kernel
theorem dX10_start_200 : decode cX10_start 200 = .ok (.aload_n 0, 1) := by decide +kernel
theorem dX10_start_201 : decode cX10_start 201 = .ok (.getfield 249, 3) := by decide +kernel
theorem dX10_start_204 : decode cX10_start 204 = .ok (.iload 5, 2) := by decide +kernel
theorem dX10_start_206 : decode cX10_start 206 = .ok (.baload, 1) := by decide +kernel
theorem dX10_start_207 : decode cX10_start 207 = .ok (.aload_n 0, 1) := by decide +kernel
theorem dX10_start_208 : decode cX10_start 208 = .ok (.getfield 249, 3) := by decide +kernel
theorem dX10_start_211 : decode cX10_start 211 = .ok (.bipush 8, 2) := by decide +kernel
theorem dX10_start_213 : decode cX10_start 213 = .ok (.iload 5, 2) := by decide +kernel
theorem dX10_start_215 : decode cX10_start 215 = .ok (.iadd, 1) := by decide +kernel
theorem dX10_start_216 : decode cX10_start 216 = .ok (.baload, 1) := by decide +kernel
theorem dX10_start_217 : decode cX10_start 217 = .ok (.if_icmp .ne 7, 3) := by decide +kernel
theorem dX10_start_220 : decode cX10_start 220 = .ok (.iconst 1, 1) := by decide +kernel
theorem dX10_start_221 : decode cX10_start 221 = .ok (.goto 4, 3) := by decide +kernel
theorem dX10_start_224 : decode cX10_start 224 = .ok (.iconst 0, 1) := by decide +kernel
theorem dX10_start_225 : decode cX10_start 225 = .ok (.istore 4, 2) := by decide +kernel
theorem dX10_start_227 : decode cX10_start 227 = .ok (.iinc 5 1, 3) := by decide +kernel
theorem dX10_start_230 : decode cX10_start 230 = .ok (.goto (-42), 3) := by decide +kernel
theorem dX10_start_233 : decode cX10_start 233 = .ok (.aload_n 0, 1) := by decide +kernel
theorem dX10_start_234 : decode cX10_start 234 = .ok (.getfield 240, 3) := by decide +kernel
theorem dX10_start_237 : decode cX10_start 237 = .ok (.iconst 0, 1) := by decide +kernel
theorem dX10_start_238 : decode cX10_start 238 = .ok (.iload 4, 2) := by decide +kernel
theorem dX10_start_240 : decode cX10_start 240 = .ok (.ifCond .eq 7, 3) := by decide +kernel
theorem dX10_start_243 : decode cX10_start 243 = .ok (.iconst 1, 1) := by decide +kernel
theorem dX10_start_244 : decode cX10_start 244 = .ok (.goto 4, 3) := by decide +kernel
theorem dX10_start_247 : decode cX10_start 247 = .ok (.iconst 0, 1) := by decide +kernel
theorem dX10_start_248 : decode cX10_start 248 = .ok (.iastore, 1) := by decide +kernel
theorem dX10_start_249 : decode cX10_start 249 = .ok (.aload_n 0, 1) := by decide +kernel
theorem dX10_start_250 : decode cX10_start 250 = .ok (.getfield 240, 3) := by decide +kernel
theorem dX10_start_253 : decode cX10_start 253 = .ok (.iconst 0, 1) := by decide +kernel
theorem dX10_start_254 : decode cX10_start 254 = .ok (.iaload, 1) := by decide +kernel
theorem dX10_start_255 : decode cX10_start 255 = .ok (.ireturn, 1) := by decide +kernel
set_option maxHeartbeats 4000000 in
set_option maxRecDepth 100000 in
theorem ct_X10_start_no (ll : Launch) (D : va_G) (ta : Nat → ClassId) {G : (Nat → Prop) → State → Heap → Prop} (hGok : GOK G) (h0 : Nat) (a : Nat → Nat) (ar : Nat) (mn : Nat) (tp : Nat) (osz : Nat) (lsz : Nat) (ns : Nat) (ct : Nat) (ru : Nat → Nat) (le : Nat → Nat) (h9 : Int64) (hb9 : ru 0 < 4 ∧ ru 1 < 4 ∧ le 0 ≤ 32 ∧ le 1 ≤ 32) (hno : ¬ (ru 0 ≠ 0 ∧ ru 0 = ru 1 ∧ le 0 = le 1)) (sz : Nat) : CT ll yX10_start cX10_start 6 (some .int) ({ frames := 7, cells := 0, slots := 0, locals := 179 } : Room) D ta G [.ref h0, .long h9] [(h0, oM a ar mn tp osz lsz ns ct), (a 36, aK ta 2 ru), (a 37, aK ta 2 le)] sz (S := Int32) (fun u => some (.int u)) (fun u => ((u : Int32) = -1)) (fun u => [(h0, oM a ar mn tp osz lsz ns ct), (a 36, aK ta 2 ru), (a 37, aK ta 2 le)]) 0 0 := by
  refine CT.of_i (r := fun u => u) rfl (by decide) (Nat.le_of_ble_eq_true rfl) ?_
  intro pp ee ss mm below meth kc A Q hx hb hml hown hin hts hK hA hsz hG hret H locs hP hD hS ls hl
  have hl : lv_has ls 6 [(0, .ref h0), (1, .long h9)] := hl
  refine lv_aload_n (pc := 0) hx hb dX10_start_0 rfl (lv_at hl 0 rfl) ?_
  refine va_get (pc := 1) (D := D) (ci := 8) (v := .ref (a 36)) (C := RX10) (T := TX10) (N := 57) hx hb hts iu10 hown hK hP 0 rfl rfl 36 (by decide) (hts _ tw_1081) (fun _ h9 => h9) rfl dX10_start_1 ?_
  refine lv_iconst (pc := 4) (v := nI 0) hx hb dX10_start_4 (by decide +kernel) ?_
  refine q_iald (pc := 5) hx hb hK hP 1 0 rfl rfl (k := 0) (v := nI (ru 0)) rfl (by omega) (by omega) rfl dX10_start_5 ?_
  refine lv_if_eq (pc := 6) (tgt := 39) hx hb dX10_start_6 (by decide) (fun c_1 => ?_) (fun c_1 => ?_)
  · skip
    rw [q_eq0 (by omega)] at c_1
    refine lv_iconst (pc := 39) (v := (-1)) hx hb dX10_start_39 (by decide +kernel) ?_
    refine q_top (y := (-1)) (by first | rfl | decide +kernel | (simp; done)) ?_
    have hq_2 : (((-1) : Int32) = -1) := by
      first | rfl | trivial | (refine ⟨?_, ?_⟩ <;> rfl) | (simp; done) | omega
    exact hret (-1) _ _ _ _ dX10_start_40 hq_2 (hP.sub [0, 1, 2] rfl) (hD.sub [0, 1, 2] (by decide) rfl) hS
  · skip
    rw [q_eq0 (by omega)] at c_1
    refine lv_aload_n (pc := 9) hx hb dX10_start_9 rfl (lv_at hl 0 rfl) ?_
    refine va_get (pc := 10) (D := D) (ci := 8) (v := .ref (a 36)) (C := RX10) (T := TX10) (N := 57) hx hb hts iu10 hown hK hP 0 rfl rfl 36 (by decide) (hts _ tw_1081) (fun _ h9 => h9) rfl dX10_start_10 ?_
    refine lv_iconst (pc := 13) (v := nI 0) hx hb dX10_start_13 (by decide +kernel) ?_
    refine q_iald (pc := 14) hx hb hK hP 1 0 rfl rfl (k := 0) (v := nI (ru 0)) rfl (by omega) (by omega) rfl dX10_start_14 ?_
    refine lv_aload_n (pc := 15) hx hb dX10_start_15 rfl (lv_at hl 0 rfl) ?_
    refine va_get (pc := 16) (D := D) (ci := 8) (v := .ref (a 36)) (C := RX10) (T := TX10) (N := 57) hx hb hts iu10 hown hK hP 0 rfl rfl 36 (by decide) (hts _ tw_1081) (fun _ h9 => h9) rfl dX10_start_16 ?_
    refine lv_iconst (pc := 19) (v := nI 1) hx hb dX10_start_19 (by decide +kernel) ?_
    refine q_iald (pc := 20) hx hb hK hP 1 0 rfl rfl (k := 1) (v := nI (ru 1)) rfl (by omega) (by omega) rfl dX10_start_20 ?_
    refine lv_icmp_ne (pc := 21) (tgt := 39) hx hb dX10_start_21 (by decide) (fun c_3 => ?_) (fun c_3 => ?_)
    · skip
      rw [nI_eq (by omega) (by omega)] at c_3
      refine lv_iconst (pc := 39) (v := (-1)) hx hb dX10_start_39 (by decide +kernel) ?_
      refine q_top (y := (-1)) (by first | rfl | decide +kernel | (simp; done)) ?_
      have hq_4 : (((-1) : Int32) = -1) := by
        first | rfl | trivial | (refine ⟨?_, ?_⟩ <;> rfl) | (simp; done) | omega
      exact hret (-1) _ _ _ _ dX10_start_40 hq_4 (hP.sub [0, 1, 2] rfl) (hD.sub [0, 1, 2] (by decide) rfl) hS
    · skip
      rw [nI_eq (by omega) (by omega)] at c_3
      refine lv_aload_n (pc := 24) hx hb dX10_start_24 rfl (lv_at hl 0 rfl) ?_
      refine va_get (pc := 25) (D := D) (ci := 8) (v := .ref (a 37)) (C := RX10) (T := TX10) (N := 57) hx hb hts iu10 hown hK hP 0 rfl rfl 37 (by decide) (hts _ tw_1082) (fun _ h9 => h9) rfl dX10_start_25 ?_
      refine lv_iconst (pc := 28) (v := nI 0) hx hb dX10_start_28 (by decide +kernel) ?_
      refine q_iald (pc := 29) hx hb hK hP 2 0 rfl rfl (k := 0) (v := nI (le 0)) rfl (by omega) (by omega) rfl dX10_start_29 ?_
      refine lv_aload_n (pc := 30) hx hb dX10_start_30 rfl (lv_at hl 0 rfl) ?_
      refine va_get (pc := 31) (D := D) (ci := 8) (v := .ref (a 37)) (C := RX10) (T := TX10) (N := 57) hx hb hts iu10 hown hK hP 0 rfl rfl 37 (by decide) (hts _ tw_1082) (fun _ h9 => h9) rfl dX10_start_31 ?_
      refine lv_iconst (pc := 34) (v := nI 1) hx hb dX10_start_34 (by decide +kernel) ?_
      refine q_iald (pc := 35) hx hb hK hP 2 0 rfl rfl (k := 1) (v := nI (le 1)) rfl (by omega) (by omega) rfl dX10_start_35 ?_
      refine lv_icmp_eq (pc := 36) (tgt := 41) hx hb dX10_start_36 (by decide) (fun c_5 => ?_) (fun c_5 => ?_)
      · skip
        rw [nI_eq (by omega) (by omega)] at c_5
        exfalso; omega
      · skip
        rw [nI_eq (by omega) (by omega)] at c_5
        refine lv_iconst (pc := 39) (v := (-1)) hx hb dX10_start_39 (by decide +kernel) ?_
        refine q_top (y := (-1)) (by first | rfl | decide +kernel | (simp; done)) ?_
        have hq_6 : (((-1) : Int32) = -1) := by
          first | rfl | trivial | (refine ⟨?_, ?_⟩ <;> rfl) | (simp; done) | omega
        exact hret (-1) _ _ _ _ dX10_start_40 hq_6 (hP.sub [0, 1, 2] rfl) (hD.sub [0, 1, 2] (by decide) rfl) hS
set_option maxHeartbeats 4000000 in
set_option maxRecDepth 100000 in
theorem ct_X10_start_2 (ll : Launch) (D : va_G) (ta : Nat → ClassId) {G : (Nat → Prop) → State → Heap → Prop} (hGok : GOK G) (h0 : Nat) (a : Nat → Nat) (ar : Nat) (mn : Nat) (tp : Nat) (osz : Nat) (lsz : Nat) (ns : Nat) (ct : Nat) (bi : Nat → Bool) (tu : Nat → Bool) (cd : Nat → Bool) (sk : Nat → Bool) (hf : Nat → Bool) (wd : Nat → Bool) (gm : Nat → BitVec 8) (mac : Nat → BitVec 8) (gbl : Nat → BitVec 8) (gnu : Nat → BitVec 8) (ghs : Nat → BitVec 8) (gna : Nat → BitVec 8) (gto : Nat → BitVec 8) (gke : Nat → BitVec 8) (gow : Nat → BitVec 8) (gth : Nat → BitVec 8) (gck : Nat → BitVec 8) (ru : Nat → Nat) (le : Nat → Nat) (se : Nat → Nat) (h9 : Int64) (hru0 : ru 0 = 2) (hru1 : ru 1 = 2) (hle0 : le 0 = le 1) (hns : ns ≤ 16) (hct : ct ≤ 16777215) (hle : le 1 ≤ 32) (sz : Nat) : CT ll yX10_start cX10_start 6 (some .int) ({ frames := 7, cells := 0, slots := 0, locals := 179 } : Room) D ta G [.ref h0, .long h9] [(h0, oM a ar mn tp osz lsz ns ct), (a 0, aK ta 64 tIP), (a 1, aK ta 48 tSPR), (a 2, aK ta 32 tMIX), (a 3, aK ta 56 tCH), (a 4, aK ta 48 tSEC), (a 5, aK ta 512 tSBX), (a 10, aB ta 64 bi), (a 11, aB ta 64 tu), (a 12, aB ta 56 cd), (a 13, aB ta 768 sk), (a 14, aB ta 32 hf), (a 15, aB ta 48 wd), (a 22, aS ta 700 gm), (a 24, aS ta 16 mac), (a 53, aS ta 16 gbl), (a 52, aS ta 3 gnu), (a 51, aS ta 8 ghs), (a 33, aS ta 16 gna), (a 38, aS ta 192 gto), (a 41, aS ta 256 gke), (a 42, aS ta 16 gow), (a 43, aS ta 16 gth), (a 44, aS ta 16 gck), (a 36, aK ta 2 ru), (a 37, aK ta 2 le), (a 39, aK ta 2 se)] sz (S := (Nat → Bool) × (Nat → Bool) × (Nat → Bool) × (Nat → Bool) × (Nat → Bool) × (Nat → Bool) × (Nat → BitVec 8) × (Nat → BitVec 8) × (Nat → BitVec 8) × (Nat → BitVec 8) × (Nat → BitVec 8) × (Nat → BitVec 8) × (Nat → BitVec 8) × (Nat → BitVec 8) × (Nat → BitVec 8) × (Nat → Nat) × Bool × Nat) (fun u => some (.int (qb u.2.2.2.2.2.2.2.2.2.2.2.2.2.2.2.2.1))) (fun u => (u.2.2.2.2.2.2.2.2.2.2.2.2.2.2.2.2.1 = decide (seg u.2.2.2.2.2.2.2.2.2.2.2.2.1 0 8 = seg u.2.2.2.2.2.2.2.2.2.2.2.2.1 8 8)) ∧ (u.2.2.2.2.2.2.2.2.2.2.2.2.2.2.2.1 0 = if u.2.2.2.2.2.2.2.2.2.2.2.2.2.2.2.2.1 then 1 else 0) ∧ (u.2.2.2.2.2.2.2.2.2.2.2.2.2.2.2.1 1 = 1) ∧ (seg u.2.2.2.2.2.2.2.2.2.2.2.2.2.2.1 8 6 = (retailL (skeyL (seg gto 128 16) 257 ct) (zeroL 8) (qL gna ns)).take 6) ∧ (seg u.2.2.2.2.2.2.2.2.2.2.2.2.2.2.1 0 8 = seg u.2.2.2.2.2.2.2.2.2.2.2.2.2.2.1 8 8) ∧ (seg u.2.2.2.2.2.2.2.2.2.2.2.1 0 16 = (skeyL (seg gto 0 16) 386 ct)) ∧ (seg u.2.2.2.2.2.2.2.2.2.2.2.1 32 16 = skeyL (seg gto 32 16) 257 ct) ∧ (seg u.2.2.2.2.2.2.2.2.2.2.2.1 64 16 = skeyL (seg gto 32 16) 258 ct) ∧ (seg u.2.2.2.2.2.2.2.2.2.2.2.1 96 16 = skeyL (seg gto 64 16) 385 ct) ∧ (seg u.2.2.2.2.2.2.2.2.2.2.2.2.1 0 8 = mac3L (skeyL (seg gto 0 16) 386 ct) (qNum h9 8 ++ qNum (nI ct).toInt64 2 ++ seg u.2.2.2.2.2.2.2.2.2.2.2.2.2.2.1 8 6)) ∧ (seg u.2.2.2.2.2.2.2.2.2.2.2.2.2.1 0 8 = mac3L (skeyL (seg gto 0 16) 386 ct) (qNum (nI ct).toInt64 2 ++ seg u.2.2.2.2.2.2.2.2.2.2.2.2.2.2.1 8 6 ++ qNum h9 8)) ∧ (seg u.2.2.2.2.2.2.2.2.2.2.2.1 128 16 = (skeyL (seg gto 96 16) 386 ct)) ∧ (seg u.2.2.2.2.2.2.2.2.2.2.2.1 160 16 = skeyL (seg gto 128 16) 257 ct) ∧ (seg u.2.2.2.2.2.2.2.2.2.2.2.1 192 16 = skeyL (seg gto 128 16) 258 ct) ∧ (seg u.2.2.2.2.2.2.2.2.2.2.2.1 224 16 = skeyL (seg gto 160 16) 385 ct) ∧ (seg u.2.2.2.2.2.2.2.2.2.2.2.2.1 8 8 = mac3L (skeyL (seg gto 96 16) 386 ct) (qNum h9 8 ++ qNum (nI ct).toInt64 2 ++ seg u.2.2.2.2.2.2.2.2.2.2.2.2.2.2.1 8 6)) ∧ (seg u.2.2.2.2.2.2.2.2.2.2.2.2.2.1 8 8 = mac3L (skeyL (seg gto 96 16) 386 ct) (qNum (nI ct).toInt64 2 ++ seg u.2.2.2.2.2.2.2.2.2.2.2.2.2.2.1 8 6 ++ qNum h9 8))) (fun u => [(h0, oM a ar u.2.2.2.2.2.2.2.2.2.2.2.2.2.2.2.2.2 tp osz 0 ns ct), (a 0, aK ta 64 tIP), (a 1, aK ta 48 tSPR), (a 2, aK ta 32 tMIX), (a 3, aK ta 56 tCH), (a 4, aK ta 48 tSEC), (a 5, aK ta 512 tSBX), (a 10, aB ta 64 u.1), (a 11, aB ta 64 u.2.1), (a 12, aB ta 56 u.2.2.1), (a 13, aB ta 768 u.2.2.2.1), (a 14, aB ta 32 u.2.2.2.2.1), (a 15, aB ta 48 u.2.2.2.2.2.1), (a 22, aS ta 700 u.2.2.2.2.2.2.1), (a 24, aS ta 16 u.2.2.2.2.2.2.2.1), (a 53, aS ta 16 u.2.2.2.2.2.2.2.2.1), (a 52, aS ta 3 u.2.2.2.2.2.2.2.2.2.1), (a 51, aS ta 8 u.2.2.2.2.2.2.2.2.2.2.1), (a 33, aS ta 16 gna), (a 38, aS ta 192 gto), (a 41, aS ta 256 u.2.2.2.2.2.2.2.2.2.2.2.1), (a 42, aS ta 16 u.2.2.2.2.2.2.2.2.2.2.2.2.1), (a 43, aS ta 16 u.2.2.2.2.2.2.2.2.2.2.2.2.2.1), (a 44, aS ta 16 u.2.2.2.2.2.2.2.2.2.2.2.2.2.2.1), (a 36, aK ta 2 ru), (a 37, aK ta 2 le), (a 39, aK ta 2 u.2.2.2.2.2.2.2.2.2.2.2.2.2.2.2.1)]) 0 0 := by
  refine CT.of_i (r := fun u => qb u.2.2.2.2.2.2.2.2.2.2.2.2.2.2.2.2.1) rfl (by decide) (Nat.le_of_ble_eq_true rfl) ?_
  intro pp ee ss mm below meth kc A Q hx hb hml hown hin hts hK hA hsz hG hret H locs hP hD hS ls hl
  have hl : lv_has ls 6 [(0, .ref h0), (1, .long h9)] := hl
  refine lv_aload_n (pc := 0) hx hb dX10_start_0 rfl (lv_at hl 0 rfl) ?_
  refine va_get (pc := 1) (D := D) (ci := 8) (v := .ref (a 36)) (C := RX10) (T := TX10) (N := 57) hx hb hts iu10 hown hK hP 0 rfl rfl 36 (by decide) (hts _ tw_1081) (fun _ h9 => h9) rfl dX10_start_1 ?_
  refine lv_iconst (pc := 4) (v := nI 0) hx hb dX10_start_4 (by decide +kernel) ?_
  refine q_iald (pc := 5) hx hb hK hP 24 0 rfl rfl (k := 0) (v := nI (ru 0)) rfl (by omega) (by omega) rfl dX10_start_5 ?_
  refine lv_if_eq (pc := 6) (tgt := 39) hx hb dX10_start_6 (by decide) (fun c_1 => ?_) (fun c_1 => ?_)
  · skip
    rw [q_eq0 (by omega)] at c_1
    exfalso; omega
  · skip
    rw [q_eq0 (by omega)] at c_1
    refine lv_aload_n (pc := 9) hx hb dX10_start_9 rfl (lv_at hl 0 rfl) ?_
    refine va_get (pc := 10) (D := D) (ci := 8) (v := .ref (a 36)) (C := RX10) (T := TX10) (N := 57) hx hb hts iu10 hown hK hP 0 rfl rfl 36 (by decide) (hts _ tw_1081) (fun _ h9 => h9) rfl dX10_start_10 ?_
    refine lv_iconst (pc := 13) (v := nI 0) hx hb dX10_start_13 (by decide +kernel) ?_
    refine q_iald (pc := 14) hx hb hK hP 24 0 rfl rfl (k := 0) (v := nI (ru 0)) rfl (by omega) (by omega) rfl dX10_start_14 ?_
    refine lv_aload_n (pc := 15) hx hb dX10_start_15 rfl (lv_at hl 0 rfl) ?_
    refine va_get (pc := 16) (D := D) (ci := 8) (v := .ref (a 36)) (C := RX10) (T := TX10) (N := 57) hx hb hts iu10 hown hK hP 0 rfl rfl 36 (by decide) (hts _ tw_1081) (fun _ h9 => h9) rfl dX10_start_16 ?_
    refine lv_iconst (pc := 19) (v := nI 1) hx hb dX10_start_19 (by decide +kernel) ?_
    refine q_iald (pc := 20) hx hb hK hP 24 0 rfl rfl (k := 1) (v := nI (ru 1)) rfl (by omega) (by omega) rfl dX10_start_20 ?_
    refine lv_icmp_ne (pc := 21) (tgt := 39) hx hb dX10_start_21 (by decide) (fun c_2 => ?_) (fun c_2 => ?_)
    · skip
      rw [nI_eq (by omega) (by omega)] at c_2
      exfalso; omega
    · skip
      rw [nI_eq (by omega) (by omega)] at c_2
      refine lv_aload_n (pc := 24) hx hb dX10_start_24 rfl (lv_at hl 0 rfl) ?_
      refine va_get (pc := 25) (D := D) (ci := 8) (v := .ref (a 37)) (C := RX10) (T := TX10) (N := 57) hx hb hts iu10 hown hK hP 0 rfl rfl 37 (by decide) (hts _ tw_1082) (fun _ h9 => h9) rfl dX10_start_25 ?_
      refine lv_iconst (pc := 28) (v := nI 0) hx hb dX10_start_28 (by decide +kernel) ?_
      refine q_iald (pc := 29) hx hb hK hP 25 0 rfl rfl (k := 0) (v := nI (le 0)) rfl (by omega) (by omega) rfl dX10_start_29 ?_
      refine lv_aload_n (pc := 30) hx hb dX10_start_30 rfl (lv_at hl 0 rfl) ?_
      refine va_get (pc := 31) (D := D) (ci := 8) (v := .ref (a 37)) (C := RX10) (T := TX10) (N := 57) hx hb hts iu10 hown hK hP 0 rfl rfl 37 (by decide) (hts _ tw_1082) (fun _ h9 => h9) rfl dX10_start_31 ?_
      refine lv_iconst (pc := 34) (v := nI 1) hx hb dX10_start_34 (by decide +kernel) ?_
      refine q_iald (pc := 35) hx hb hK hP 25 0 rfl rfl (k := 1) (v := nI (le 1)) rfl (by omega) (by omega) rfl dX10_start_35 ?_
      refine lv_icmp_eq (pc := 36) (tgt := 41) hx hb dX10_start_36 (by decide) (fun c_3 => ?_) (fun c_3 => ?_)
      · skip
        rw [nI_eq (by omega) (by omega)] at c_3
        refine lv_aload_n (pc := 41) hx hb dX10_start_41 rfl (lv_at hl 0 rfl) ?_
        refine lv_iconst (pc := 42) (v := nI 0) hx hb dX10_start_42 (by decide +kernel) ?_
        refine va_put (pc := 43) (D := D) (ci := 8) (v := .int (nI 0)) (ty := .int) (C := RX10) (T := TX10) (N := 57) hx hb hts iu10 tyX10 tyX10_ok nmX10 hown hK hP hD hS 0 rfl rfl 32 (by decide) (hts _ tw_1077) (fun _ h9 => h9) rfl (by decide +kernel) rfl rfl (Nat.le_of_ble_eq_true rfl) dX10_start_43 (fun H locs hP hD hS => ?_)
        have hP : va_P D vwCl [(h0, oM a ar mn tp osz 0 ns ct), (a 0, aK ta 64 tIP), (a 1, aK ta 48 tSPR), (a 2, aK ta 32 tMIX), (a 3, aK ta 56 tCH), (a 4, aK ta 48 tSEC), (a 5, aK ta 512 tSBX), (a 10, aB ta 64 bi), (a 11, aB ta 64 tu), (a 12, aB ta 56 cd), (a 13, aB ta 768 sk), (a 14, aB ta 32 hf), (a 15, aB ta 48 wd), (a 22, aS ta 700 gm), (a 24, aS ta 16 mac), (a 53, aS ta 16 gbl), (a 52, aS ta 3 gnu), (a 51, aS ta 8 ghs), (a 33, aS ta 16 gna), (a 38, aS ta 192 gto), (a 41, aS ta 256 gke), (a 42, aS ta 16 gow), (a 43, aS ta 16 gth), (a 44, aS ta 16 gck), (a 36, aK ta 2 ru), (a 37, aK ta 2 le), (a 39, aK ta 2 se)] H := hP
        have hD : va_D A [(h0, oM a ar mn tp osz 0 ns ct), (a 0, aK ta 64 tIP), (a 1, aK ta 48 tSPR), (a 2, aK ta 32 tMIX), (a 3, aK ta 56 tCH), (a 4, aK ta 48 tSEC), (a 5, aK ta 512 tSBX), (a 10, aB ta 64 bi), (a 11, aB ta 64 tu), (a 12, aB ta 56 cd), (a 13, aB ta 768 sk), (a 14, aB ta 32 hf), (a 15, aB ta 48 wd), (a 22, aS ta 700 gm), (a 24, aS ta 16 mac), (a 53, aS ta 16 gbl), (a 52, aS ta 3 gnu), (a 51, aS ta 8 ghs), (a 33, aS ta 16 gna), (a 38, aS ta 192 gto), (a 41, aS ta 256 gke), (a 42, aS ta 16 gow), (a 43, aS ta 16 gth), (a 44, aS ta 16 gck), (a 36, aK ta 2 ru), (a 37, aK ta 2 le), (a 39, aK ta 2 se)] := hD
        refine lv_iconst (pc := 46) (v := nI 0) hx hb dX10_start_46 (by decide +kernel) ?_
        refine lv_istore_n (pc := 47) (lv' := [(3, .int (nI 0)), (0, .ref h0), (1, .long h9)]) hx hb dX10_start_47 rfl hl (by decide) rfl (fun ls hl => ?_)
        have LP48 : ∀ (nn48 : Nat) (k1x : Nat) (p' : Nat → BitVec 8), (k1x ≤ 8) → (qSeg p' ghs 0 k1x ((fun j => qN h9 (7 - j)))) → (8 - k1x < nn48) → ∀ (H : Heap) (locs : List Loc), va_P D vwCl [(h0, oM a ar mn tp osz 0 ns ct), (a 0, aK ta 64 tIP), (a 1, aK ta 48 tSPR), (a 2, aK ta 32 tMIX), (a 3, aK ta 56 tCH), (a 4, aK ta 48 tSEC), (a 5, aK ta 512 tSBX), (a 10, aB ta 64 bi), (a 11, aB ta 64 tu), (a 12, aB ta 56 cd), (a 13, aB ta 768 sk), (a 14, aB ta 32 hf), (a 15, aB ta 48 wd), (a 22, aS ta 700 gm), (a 24, aS ta 16 mac), (a 53, aS ta 16 gbl), (a 52, aS ta 3 gnu), (a 51, aS ta 8 p'), (a 33, aS ta 16 gna), (a 38, aS ta 192 gto), (a 41, aS ta 256 gke), (a 42, aS ta 16 gow), (a 43, aS ta 16 gth), (a 44, aS ta 16 gck), (a 36, aK ta 2 ru), (a 37, aK ta 2 le), (a 39, aK ta 2 se)] H → va_D A [(h0, oM a ar mn tp osz 0 ns ct), (a 0, aK ta 64 tIP), (a 1, aK ta 48 tSPR), (a 2, aK ta 32 tMIX), (a 3, aK ta 56 tCH), (a 4, aK ta 48 tSEC), (a 5, aK ta 512 tSBX), (a 10, aB ta 64 bi), (a 11, aB ta 64 tu), (a 12, aB ta 56 cd), (a 13, aB ta 768 sk), (a 14, aB ta 32 hf), (a 15, aB ta 48 wd), (a 22, aS ta 700 gm), (a 24, aS ta 16 mac), (a 53, aS ta 16 gbl), (a 52, aS ta 3 gnu), (a 51, aS ta 8 p'), (a 33, aS ta 16 gna), (a 38, aS ta 192 gto), (a 41, aS ta 256 gke), (a 42, aS ta 16 gow), (a 43, aS ta 16 gth), (a 44, aS ta 16 gck), (a 36, aK ta 2 ru), (a 37, aK ta 2 le), (a 39, aK ta 2 se)] → va_S A ss.heap H locs → ∀ ls : Array Slot, lv_has ls 6 [(3, .int (nI k1x)), (0, .ref h0), (1, .long h9)] → W pp ll ee ({ frames := 7, cells := 0, slots := 0, locals := 179 } : Room) ss mm (([.ref h0, .long h9] : List Value).toArray) below meth kc H locs 0 0 Q (F0 mm 48 ls []) := by
          intro nn48
          induction nn48 with
          | zero => intro k1x p' hkk1 hs1 hmu; exact absurd hmu (Nat.not_lt_zero _)
          | succ nn48 ih48 =>
            intro k1x p' hkk1 hs1 hmu48 H locs hP hD hS ls hl
            refine lv_iload_n (pc := 48) hx hb dX10_start_48 rfl (lv_at hl 0 rfl) ?_
            refine lv_bipush (pc := 49) (v := nI 8) hx hb dX10_start_49 (by decide +kernel) ?_
            refine lv_icmp_ge (pc := 51) (tgt := 77) hx hb dX10_start_51 (by decide) (fun c_4 => ?_) (fun c_4 => ?_)
            · skip
              rw [nI_leI (by omega) (by omega)] at c_4
              refine lv_aload_n (pc := 77) hx hb dX10_start_77 rfl (lv_at hl 1 rfl) ?_
              refine va_get (pc := 78) (D := D) (ci := 8) (v := .ref (a 36)) (C := RX10) (T := TX10) (N := 57) hx hb hts iu10 hown hK hP 0 rfl rfl 36 (by decide) (hts _ tw_1081) (fun _ h9 => h9) rfl dX10_start_78 ?_
              refine lv_iconst (pc := 81) (v := nI 0) hx hb dX10_start_81 (by decide +kernel) ?_
              refine q_iald (pc := 82) hx hb hK hP 24 0 rfl rfl (k := 0) (v := nI (ru 0)) rfl (by omega) (by omega) rfl dX10_start_82 ?_
              refine lv_iconst (pc := 83) (v := nI 2) hx hb dX10_start_83 (by decide +kernel) ?_
              refine lv_icmp_ne (pc := 84) (tgt := 91) hx hb dX10_start_84 (by decide) (fun c_5 => ?_) (fun c_5 => ?_)
              · skip
                rw [nI_eq (by omega) (by omega)] at c_5
                exfalso; omega
              · skip
                rw [nI_eq (by omega) (by omega)] at c_5
                refine lv_iconst (pc := 87) (v := nI 2) hx hb dX10_start_87 (by decide +kernel) ?_
                refine lv_goto (pc := 88) (tgt := 92) hx hb dX10_start_88 (by decide) ?_
                refine lv_istore_n (pc := 92) (lv' := [(3, .int (nI 2)), (0, .ref h0), (1, .long h9)]) hx hb dX10_start_92 rfl hl (by decide) rfl (fun ls hl => ?_)
                refine lv_iconst (pc := 93) (v := nI 0) hx hb dX10_start_93 (by decide +kernel) ?_
                refine lv_istore (pc := 94) (lv' := [(4, .int (nI 0)), (3, .int (nI 2)), (0, .ref h0), (1, .long h9)]) hx hb dX10_start_94 hl (by decide) rfl (fun ls hl => ?_)
                have LP96 : ∀ (nn96 : Nat) (k2x : Nat) (n' : Nat → BitVec 8), (k2x ≤ 2) → (qSeg n' gnu 0 k2x ((fun j => qN (nI ct).toInt64 (1 - j)))) → (2 - k2x < nn96) → ∀ (H : Heap) (locs : List Loc), va_P D vwCl [(h0, oM a ar mn tp osz 0 ns ct), (a 0, aK ta 64 tIP), (a 1, aK ta 48 tSPR), (a 2, aK ta 32 tMIX), (a 3, aK ta 56 tCH), (a 4, aK ta 48 tSEC), (a 5, aK ta 512 tSBX), (a 10, aB ta 64 bi), (a 11, aB ta 64 tu), (a 12, aB ta 56 cd), (a 13, aB ta 768 sk), (a 14, aB ta 32 hf), (a 15, aB ta 48 wd), (a 22, aS ta 700 gm), (a 24, aS ta 16 mac), (a 53, aS ta 16 gbl), (a 52, aS ta 3 n'), (a 51, aS ta 8 p'), (a 33, aS ta 16 gna), (a 38, aS ta 192 gto), (a 41, aS ta 256 gke), (a 42, aS ta 16 gow), (a 43, aS ta 16 gth), (a 44, aS ta 16 gck), (a 36, aK ta 2 ru), (a 37, aK ta 2 le), (a 39, aK ta 2 se)] H → va_D A [(h0, oM a ar mn tp osz 0 ns ct), (a 0, aK ta 64 tIP), (a 1, aK ta 48 tSPR), (a 2, aK ta 32 tMIX), (a 3, aK ta 56 tCH), (a 4, aK ta 48 tSEC), (a 5, aK ta 512 tSBX), (a 10, aB ta 64 bi), (a 11, aB ta 64 tu), (a 12, aB ta 56 cd), (a 13, aB ta 768 sk), (a 14, aB ta 32 hf), (a 15, aB ta 48 wd), (a 22, aS ta 700 gm), (a 24, aS ta 16 mac), (a 53, aS ta 16 gbl), (a 52, aS ta 3 n'), (a 51, aS ta 8 p'), (a 33, aS ta 16 gna), (a 38, aS ta 192 gto), (a 41, aS ta 256 gke), (a 42, aS ta 16 gow), (a 43, aS ta 16 gth), (a 44, aS ta 16 gck), (a 36, aK ta 2 ru), (a 37, aK ta 2 le), (a 39, aK ta 2 se)] → va_S A ss.heap H locs → ∀ ls : Array Slot, lv_has ls 6 [(4, .int (nI k2x)), (3, .int (nI 2)), (0, .ref h0), (1, .long h9)] → W pp ll ee ({ frames := 7, cells := 0, slots := 0, locals := 179 } : Room) ss mm (([.ref h0, .long h9] : List Value).toArray) below meth kc H locs 0 0 Q (F0 mm 96 ls []) := by
                  intro nn96
                  induction nn96 with
                  | zero => intro k2x n' hkk2 hs2 hmu; exact absurd hmu (Nat.not_lt_zero _)
                  | succ nn96 ih96 =>
                    intro k2x n' hkk2 hs2 hmu96 H locs hP hD hS ls hl
                    refine lv_iload (pc := 96) hx hb dX10_start_96 (lv_at hl 0 rfl) ?_
                    refine lv_iload_n (pc := 98) hx hb dX10_start_98 rfl (lv_at hl 1 rfl) ?_
                    refine lv_icmp_ge (pc := 99) (tgt := 130) hx hb dX10_start_99 (by decide) (fun c_6 => ?_) (fun c_6 => ?_)
                    · skip
                      rw [nI_leI (by omega) (by omega)] at c_6
                      refine lv_aload_n (pc := 130) hx hb dX10_start_130 rfl (lv_at hl 2 rfl) ?_
                      refine lv_iconst (pc := 131) (v := nI 1) hx hb dX10_start_131 (by decide +kernel) ?_
                      refine lv_iconst (pc := 132) (v := nI 1) hx hb dX10_start_132 (by decide +kernel) ?_
                      refine cs_V (pc := 133) (idx := 350) (n := 2) (wr := [(a 39, aK ta 2 se)]) (As := [.int (nI 1), .int (nI 1)]) (rest := []) (ci := 8) hx hb hml hown hts hGok hK hA hG hl.1 hP hD hS (ct_X10_make_21 ll D ta hGok h0 a ar mn tp osz 0 ns ct bi tu cd sk hf wd gm mac gbl n' p' gna gto gke gow gth gck ru le 1 (by first | assumption | omega | rfl | decide) (by first | assumption | omega | rfl | decide) (by first | assumption | omega | rfl | decide) (by rw [← seg_0, seg_copy0 hs2 (by omega)]; rfl) H.size) tw_1282 tw_1279 tw_1281 tw_30 tw_75 hdX10_make rfl ⟨rfl, rfl, Nat.le_of_ble_eq_true rfl, Nat.le_of_ble_eq_true rfl, Nat.le_of_ble_eq_true rfl, Nat.le_of_ble_eq_true rfl⟩ rfl rfl (q0 := 0) rfl [0, 1, 2, 3, 4, 5, 6, 7, 8, 9, 10, 11, 12, 13, 14, 15, 16, 17, 18, 19, 20, 21, 22, 23, 24, 25] [26] rfl rfl (by decide) rfl (Nat.le_of_ble_eq_true rfl) dX10_start_133 (fun u H locs hq hP hD hS => ?_)
                      obtain ⟨bi1_133, tu1_133, cd1_133, sk1_133, hf1_133, wd1_133, gm1_133, mac1_133, gbl1_133, gke1_133, gow1_133, gth1_133, gck1_133, mn1_133⟩ := u
                      have hq : (seg gke1_133 (128 * 1) 16 = (skeyL (seg gto (96 * 1) 16) 386 ct)) ∧ (seg gke1_133 (128 * 1 + 32) 16 = (skeyL (seg gto (96 * 1 + 32) 16) 257 ct)) ∧ (seg gke1_133 (128 * 1 + 64) 16 = skeyL (seg gto (96 * 1 + 32) 16) 258 ct) ∧ (seg gke1_133 (128 * 1 + 96) 16 = skeyL (seg gto (96 * 1 + 64) 16) 385 ct) ∧ (∀ jz, (jz < 128 * 1 ∨ 128 * 1 + 128 ≤ jz) → gke1_133 jz = gke jz) ∧ (seg gck1_133 (8 * 1) 6 = (retailL (skeyL (seg gto (96 * 1 + 32) 16) 257 ct) (zeroL 8) (qL gna ns)).take 6) ∧ (∀ jz, (jz < 8 * 1 ∨ 8 * 1 + 6 ≤ jz) → gck1_133 jz = gck jz) ∧ (seg gow1_133 (8 * 1) 8 = mac3L (skeyL (seg gto (96 * 1) 16) 386 ct) (qL p' 8 ++ qL n' 2 ++ seg gck1_133 (8 * 1) 6)) ∧ (∀ jz, (jz < 8 * 1 ∨ 8 * 1 + 8 ≤ jz) → gow1_133 jz = gow jz) ∧ (seg gth1_133 (8 * 1) 8 = mac3L (skeyL (seg gto (96 * 1) 16) 386 ct) (qL n' 2 ++ seg gck1_133 (8 * 1) 6 ++ qL p' 8)) ∧ (∀ jz, (jz < 8 * 1 ∨ 8 * 1 + 8 ≤ jz) → gth1_133 jz = gth jz) := hq
                      obtain ⟨hE_133, hM_133, hB_133, hS9_133, hfk_133, hc_133, hfc_133, hO_133, hfo_133, hT9_133, hft_133⟩ := hq
                      refine W.eq (g2 := F0 mm 136 ls []) rfl ?_
                      have hP : va_P D vwCl [(a 39, aK ta 2 se), (h0, oM a ar mn1_133 tp osz 0 ns ct), (a 0, aK ta 64 tIP), (a 1, aK ta 48 tSPR), (a 2, aK ta 32 tMIX), (a 3, aK ta 56 tCH), (a 4, aK ta 48 tSEC), (a 5, aK ta 512 tSBX), (a 10, aB ta 64 bi1_133), (a 11, aB ta 64 tu1_133), (a 12, aB ta 56 cd1_133), (a 13, aB ta 768 sk1_133), (a 14, aB ta 32 hf1_133), (a 15, aB ta 48 wd1_133), (a 22, aS ta 700 gm1_133), (a 24, aS ta 16 mac1_133), (a 53, aS ta 16 gbl1_133), (a 52, aS ta 3 n'), (a 51, aS ta 8 p'), (a 33, aS ta 16 gna), (a 38, aS ta 192 gto), (a 41, aS ta 256 gke1_133), (a 42, aS ta 16 gow1_133), (a 43, aS ta 16 gth1_133), (a 44, aS ta 16 gck1_133), (a 36, aK ta 2 ru), (a 37, aK ta 2 le)] H := hP
                      have hD : va_D A [(a 39, aK ta 2 se), (h0, oM a ar mn1_133 tp osz 0 ns ct), (a 0, aK ta 64 tIP), (a 1, aK ta 48 tSPR), (a 2, aK ta 32 tMIX), (a 3, aK ta 56 tCH), (a 4, aK ta 48 tSEC), (a 5, aK ta 512 tSBX), (a 10, aB ta 64 bi1_133), (a 11, aB ta 64 tu1_133), (a 12, aB ta 56 cd1_133), (a 13, aB ta 768 sk1_133), (a 14, aB ta 32 hf1_133), (a 15, aB ta 48 wd1_133), (a 22, aS ta 700 gm1_133), (a 24, aS ta 16 mac1_133), (a 53, aS ta 16 gbl1_133), (a 52, aS ta 3 n'), (a 51, aS ta 8 p'), (a 33, aS ta 16 gna), (a 38, aS ta 192 gto), (a 41, aS ta 256 gke1_133), (a 42, aS ta 16 gow1_133), (a 43, aS ta 16 gth1_133), (a 44, aS ta 16 gck1_133), (a 36, aK ta 2 ru), (a 37, aK ta 2 le)] := hD
                      refine lv_aload_n (pc := 136) hx hb dX10_start_136 rfl (lv_at hl 2 rfl) ?_
                      refine va_get (pc := 137) (D := D) (ci := 8) (v := .ref (a 39)) (C := RX10) (T := TX10) (N := 57) hx hb hts iu10 hown hK hP 1 rfl rfl 39 (by decide) (hts _ tw_1084) (fun _ h9 => h9) rfl dX10_start_137 ?_
                      refine lv_iconst (pc := 140) (v := nI 1) hx hb dX10_start_140 (by decide +kernel) ?_
                      refine lv_iconst (pc := 141) (v := nI 1) hx hb dX10_start_141 (by decide +kernel) ?_
                      refine q_iastK (pc := 142) hx hb hK hP hD hS 0 0 rfl rfl (k := 1) rfl (by omega) (by omega) (b := 1) rfl dX10_start_142 (fun H locs hP hD hS => ?_)
                      have hP : va_P D vwCl [(a 39, aK ta 2 (qU se 1 1)), (h0, oM a ar mn1_133 tp osz 0 ns ct), (a 0, aK ta 64 tIP), (a 1, aK ta 48 tSPR), (a 2, aK ta 32 tMIX), (a 3, aK ta 56 tCH), (a 4, aK ta 48 tSEC), (a 5, aK ta 512 tSBX), (a 10, aB ta 64 bi1_133), (a 11, aB ta 64 tu1_133), (a 12, aB ta 56 cd1_133), (a 13, aB ta 768 sk1_133), (a 14, aB ta 32 hf1_133), (a 15, aB ta 48 wd1_133), (a 22, aS ta 700 gm1_133), (a 24, aS ta 16 mac1_133), (a 53, aS ta 16 gbl1_133), (a 52, aS ta 3 n'), (a 51, aS ta 8 p'), (a 33, aS ta 16 gna), (a 38, aS ta 192 gto), (a 41, aS ta 256 gke1_133), (a 42, aS ta 16 gow1_133), (a 43, aS ta 16 gth1_133), (a 44, aS ta 16 gck1_133), (a 36, aK ta 2 ru), (a 37, aK ta 2 le)] H := hP
                      have hD : va_D A [(a 39, aK ta 2 (qU se 1 1)), (h0, oM a ar mn1_133 tp osz 0 ns ct), (a 0, aK ta 64 tIP), (a 1, aK ta 48 tSPR), (a 2, aK ta 32 tMIX), (a 3, aK ta 56 tCH), (a 4, aK ta 48 tSEC), (a 5, aK ta 512 tSBX), (a 10, aB ta 64 bi1_133), (a 11, aB ta 64 tu1_133), (a 12, aB ta 56 cd1_133), (a 13, aB ta 768 sk1_133), (a 14, aB ta 32 hf1_133), (a 15, aB ta 48 wd1_133), (a 22, aS ta 700 gm1_133), (a 24, aS ta 16 mac1_133), (a 53, aS ta 16 gbl1_133), (a 52, aS ta 3 n'), (a 51, aS ta 8 p'), (a 33, aS ta 16 gna), (a 38, aS ta 192 gto), (a 41, aS ta 256 gke1_133), (a 42, aS ta 16 gow1_133), (a 43, aS ta 16 gth1_133), (a 44, aS ta 16 gck1_133), (a 36, aK ta 2 ru), (a 37, aK ta 2 le)] := hD
                      refine lv_iconst (pc := 143) (v := nI 0) hx hb dX10_start_143 (by decide +kernel) ?_
                      refine lv_istore (pc := 144) (lv' := [(4, .int (nI 0)), (3, .int (nI 2)), (0, .ref h0), (1, .long h9)]) hx hb dX10_start_144 hl (by decide) rfl (fun ls hl => ?_)
                      have LP146 : ∀ (nn146 : Nat) (k3x : Nat) (c' : Nat → BitVec 8), (k3x ≤ 8) → (qSeg c' gck1_133 0 k3x ((fun j => gck1_133 (8 + j)))) → (8 - k3x < nn146) → ∀ (H : Heap) (locs : List Loc), va_P D vwCl [(a 39, aK ta 2 (qU se 1 1)), (h0, oM a ar mn1_133 tp osz 0 ns ct), (a 0, aK ta 64 tIP), (a 1, aK ta 48 tSPR), (a 2, aK ta 32 tMIX), (a 3, aK ta 56 tCH), (a 4, aK ta 48 tSEC), (a 5, aK ta 512 tSBX), (a 10, aB ta 64 bi1_133), (a 11, aB ta 64 tu1_133), (a 12, aB ta 56 cd1_133), (a 13, aB ta 768 sk1_133), (a 14, aB ta 32 hf1_133), (a 15, aB ta 48 wd1_133), (a 22, aS ta 700 gm1_133), (a 24, aS ta 16 mac1_133), (a 53, aS ta 16 gbl1_133), (a 52, aS ta 3 n'), (a 51, aS ta 8 p'), (a 33, aS ta 16 gna), (a 38, aS ta 192 gto), (a 41, aS ta 256 gke1_133), (a 42, aS ta 16 gow1_133), (a 43, aS ta 16 gth1_133), (a 44, aS ta 16 c'), (a 36, aK ta 2 ru), (a 37, aK ta 2 le)] H → va_D A [(a 39, aK ta 2 (qU se 1 1)), (h0, oM a ar mn1_133 tp osz 0 ns ct), (a 0, aK ta 64 tIP), (a 1, aK ta 48 tSPR), (a 2, aK ta 32 tMIX), (a 3, aK ta 56 tCH), (a 4, aK ta 48 tSEC), (a 5, aK ta 512 tSBX), (a 10, aB ta 64 bi1_133), (a 11, aB ta 64 tu1_133), (a 12, aB ta 56 cd1_133), (a 13, aB ta 768 sk1_133), (a 14, aB ta 32 hf1_133), (a 15, aB ta 48 wd1_133), (a 22, aS ta 700 gm1_133), (a 24, aS ta 16 mac1_133), (a 53, aS ta 16 gbl1_133), (a 52, aS ta 3 n'), (a 51, aS ta 8 p'), (a 33, aS ta 16 gna), (a 38, aS ta 192 gto), (a 41, aS ta 256 gke1_133), (a 42, aS ta 16 gow1_133), (a 43, aS ta 16 gth1_133), (a 44, aS ta 16 c'), (a 36, aK ta 2 ru), (a 37, aK ta 2 le)] → va_S A ss.heap H locs → ∀ ls : Array Slot, lv_has ls 6 [(4, .int (nI k3x)), (3, .int (nI 2)), (0, .ref h0), (1, .long h9)] → W pp ll ee ({ frames := 7, cells := 0, slots := 0, locals := 179 } : Room) ss mm (([.ref h0, .long h9] : List Value).toArray) below meth kc H locs 0 0 Q (F0 mm 146 ls []) := by
                        intro nn146
                        induction nn146 with
                        | zero => intro k3x c' hkk3 hs3 hmu; exact absurd hmu (Nat.not_lt_zero _)
                        | succ nn146 ih146 =>
                          intro k3x c' hkk3 hs3 hmu146 H locs hP hD hS ls hl
                          refine lv_iload (pc := 146) hx hb dX10_start_146 (lv_at hl 0 rfl) ?_
                          refine lv_bipush (pc := 148) (v := nI 8) hx hb dX10_start_148 (by decide +kernel) ?_
                          refine lv_icmp_ge (pc := 150) (tgt := 176) hx hb dX10_start_150 (by decide) (fun c_7 => ?_) (fun c_7 => ?_)
                          · skip
                            rw [nI_leI (by omega) (by omega)] at c_7
                            refine lv_aload_n (pc := 176) hx hb dX10_start_176 rfl (lv_at hl 2 rfl) ?_
                            refine lv_iconst (pc := 177) (v := nI 0) hx hb dX10_start_177 (by decide +kernel) ?_
                            refine lv_iconst (pc := 178) (v := nI 0) hx hb dX10_start_178 (by decide +kernel) ?_
                            refine cs_V (pc := 179) (idx := 350) (n := 2) (wr := [(a 39, aK ta 2 (qU se 1 1))]) (As := [.int (nI 0), .int (nI 0)]) (rest := []) (ci := 8) hx hb hml hown hts hGok hK hA hG hl.1 hP hD hS (ct_X10_make_20 ll D ta hGok h0 a ar mn1_133 tp osz 0 ns ct bi1_133 tu1_133 cd1_133 sk1_133 hf1_133 wd1_133 gm1_133 mac1_133 gbl1_133 n' p' gna gto gke1_133 gow1_133 gth1_133 c' ru le 0 (by first | assumption | omega | rfl | decide) (by first | assumption | omega | rfl | decide) (by first | assumption | omega | rfl | decide) (by rw [← seg_0, seg_copy0 hs2 (by omega)]; rfl) H.size) tw_1282 tw_1279 tw_1281 tw_30 tw_75 hdX10_make rfl ⟨rfl, rfl, Nat.le_of_ble_eq_true rfl, Nat.le_of_ble_eq_true rfl, Nat.le_of_ble_eq_true rfl, Nat.le_of_ble_eq_true rfl⟩ rfl rfl (q0 := 1) rfl [1, 2, 3, 4, 5, 6, 7, 8, 9, 10, 11, 12, 13, 14, 15, 16, 17, 18, 19, 20, 21, 22, 23, 24, 25, 26] [0] rfl rfl (by decide) rfl (Nat.le_of_ble_eq_true rfl) dX10_start_179 (fun u H locs hq hP hD hS => ?_)
                            obtain ⟨bi1_179, tu1_179, cd1_179, sk1_179, hf1_179, wd1_179, gm1_179, mac1_179, gbl1_179, gke1_179, gow1_179, gth1_179, mn1_179⟩ := u
                            have hq : (seg gke1_179 (128 * 0) 16 = (skeyL (seg gto (96 * 0) 16) 386 ct)) ∧ (seg gke1_179 (128 * 0 + 32) 16 = (skeyL (seg gto (96 * 0 + 32) 16) 257 ct)) ∧ (seg gke1_179 (128 * 0 + 64) 16 = skeyL (seg gto (96 * 0 + 32) 16) 258 ct) ∧ (seg gke1_179 (128 * 0 + 96) 16 = skeyL (seg gto (96 * 0 + 64) 16) 385 ct) ∧ (∀ jz, (jz < 128 * 0 ∨ 128 * 0 + 128 ≤ jz) → gke1_179 jz = gke1_133 jz) ∧ (seg gow1_179 (8 * 0) 8 = mac3L (skeyL (seg gto (96 * 0) 16) 386 ct) (qL p' 8 ++ qL n' 2 ++ seg c' (8 * 0) 6)) ∧ (∀ jz, (jz < 8 * 0 ∨ 8 * 0 + 8 ≤ jz) → gow1_179 jz = gow1_133 jz) ∧ (seg gth1_179 (8 * 0) 8 = mac3L (skeyL (seg gto (96 * 0) 16) 386 ct) (qL n' 2 ++ seg c' (8 * 0) 6 ++ qL p' 8)) ∧ (∀ jz, (jz < 8 * 0 ∨ 8 * 0 + 8 ≤ jz) → gth1_179 jz = gth1_133 jz) := hq
                            obtain ⟨hE_179, hM_179, hB_179, hS9_179, hfk_179, hO_179, hfo_179, hT9_179, hft_179⟩ := hq
                            refine W.eq (g2 := F0 mm 182 ls []) rfl ?_
                            have hP : va_P D vwCl [(a 39, aK ta 2 (qU se 1 1)), (h0, oM a ar mn1_179 tp osz 0 ns ct), (a 0, aK ta 64 tIP), (a 1, aK ta 48 tSPR), (a 2, aK ta 32 tMIX), (a 3, aK ta 56 tCH), (a 4, aK ta 48 tSEC), (a 5, aK ta 512 tSBX), (a 10, aB ta 64 bi1_179), (a 11, aB ta 64 tu1_179), (a 12, aB ta 56 cd1_179), (a 13, aB ta 768 sk1_179), (a 14, aB ta 32 hf1_179), (a 15, aB ta 48 wd1_179), (a 22, aS ta 700 gm1_179), (a 24, aS ta 16 mac1_179), (a 53, aS ta 16 gbl1_179), (a 52, aS ta 3 n'), (a 51, aS ta 8 p'), (a 33, aS ta 16 gna), (a 38, aS ta 192 gto), (a 41, aS ta 256 gke1_179), (a 42, aS ta 16 gow1_179), (a 43, aS ta 16 gth1_179), (a 44, aS ta 16 c'), (a 36, aK ta 2 ru), (a 37, aK ta 2 le)] H := hP
                            have hD : va_D A [(a 39, aK ta 2 (qU se 1 1)), (h0, oM a ar mn1_179 tp osz 0 ns ct), (a 0, aK ta 64 tIP), (a 1, aK ta 48 tSPR), (a 2, aK ta 32 tMIX), (a 3, aK ta 56 tCH), (a 4, aK ta 48 tSEC), (a 5, aK ta 512 tSBX), (a 10, aB ta 64 bi1_179), (a 11, aB ta 64 tu1_179), (a 12, aB ta 56 cd1_179), (a 13, aB ta 768 sk1_179), (a 14, aB ta 32 hf1_179), (a 15, aB ta 48 wd1_179), (a 22, aS ta 700 gm1_179), (a 24, aS ta 16 mac1_179), (a 53, aS ta 16 gbl1_179), (a 52, aS ta 3 n'), (a 51, aS ta 8 p'), (a 33, aS ta 16 gna), (a 38, aS ta 192 gto), (a 41, aS ta 256 gke1_179), (a 42, aS ta 16 gow1_179), (a 43, aS ta 16 gth1_179), (a 44, aS ta 16 c'), (a 36, aK ta 2 ru), (a 37, aK ta 2 le)] := hD
                            refine lv_iconst (pc := 182) (v := nI 1) hx hb dX10_start_182 (by decide +kernel) ?_
                            refine q_top (y := qb true) rfl ?_
                            refine lv_istore (pc := 183) (lv' := [(4, .int (qb true)), (3, .int (nI 2)), (0, .ref h0), (1, .long h9)]) hx hb dX10_start_183 hl (by decide) rfl (fun ls hl => ?_)
                            refine lv_iconst (pc := 185) (v := nI 0) hx hb dX10_start_185 (by decide +kernel) ?_
                            refine lv_istore (pc := 186) (lv' := [(5, .int (nI 0)), (4, .int (qb true)), (3, .int (nI 2)), (0, .ref h0), (1, .long h9)]) hx hb dX10_start_186 hl (by decide) rfl (fun ls hl => ?_)
                            have LP188 : ∀ (nn188 : Nat) (k4 : Nat) (rt : Bool), (k4 ≤ 8) → (rt = decide (∀ j, j < k4 → gow1_179 j = gow1_179 (8 + j))) → (8 - k4 < nn188) → ∀ (H : Heap) (locs : List Loc), va_P D vwCl [(a 39, aK ta 2 (qU se 1 1)), (h0, oM a ar mn1_179 tp osz 0 ns ct), (a 0, aK ta 64 tIP), (a 1, aK ta 48 tSPR), (a 2, aK ta 32 tMIX), (a 3, aK ta 56 tCH), (a 4, aK ta 48 tSEC), (a 5, aK ta 512 tSBX), (a 10, aB ta 64 bi1_179), (a 11, aB ta 64 tu1_179), (a 12, aB ta 56 cd1_179), (a 13, aB ta 768 sk1_179), (a 14, aB ta 32 hf1_179), (a 15, aB ta 48 wd1_179), (a 22, aS ta 700 gm1_179), (a 24, aS ta 16 mac1_179), (a 53, aS ta 16 gbl1_179), (a 52, aS ta 3 n'), (a 51, aS ta 8 p'), (a 33, aS ta 16 gna), (a 38, aS ta 192 gto), (a 41, aS ta 256 gke1_179), (a 42, aS ta 16 gow1_179), (a 43, aS ta 16 gth1_179), (a 44, aS ta 16 c'), (a 36, aK ta 2 ru), (a 37, aK ta 2 le)] H → va_D A [(a 39, aK ta 2 (qU se 1 1)), (h0, oM a ar mn1_179 tp osz 0 ns ct), (a 0, aK ta 64 tIP), (a 1, aK ta 48 tSPR), (a 2, aK ta 32 tMIX), (a 3, aK ta 56 tCH), (a 4, aK ta 48 tSEC), (a 5, aK ta 512 tSBX), (a 10, aB ta 64 bi1_179), (a 11, aB ta 64 tu1_179), (a 12, aB ta 56 cd1_179), (a 13, aB ta 768 sk1_179), (a 14, aB ta 32 hf1_179), (a 15, aB ta 48 wd1_179), (a 22, aS ta 700 gm1_179), (a 24, aS ta 16 mac1_179), (a 53, aS ta 16 gbl1_179), (a 52, aS ta 3 n'), (a 51, aS ta 8 p'), (a 33, aS ta 16 gna), (a 38, aS ta 192 gto), (a 41, aS ta 256 gke1_179), (a 42, aS ta 16 gow1_179), (a 43, aS ta 16 gth1_179), (a 44, aS ta 16 c'), (a 36, aK ta 2 ru), (a 37, aK ta 2 le)] → va_S A ss.heap H locs → ∀ ls : Array Slot, lv_has ls 6 [(5, .int (nI k4)), (4, .int (qb rt)), (3, .int (nI 2)), (0, .ref h0), (1, .long h9)] → W pp ll ee ({ frames := 7, cells := 0, slots := 0, locals := 179 } : Room) ss mm (([.ref h0, .long h9] : List Value).toArray) below meth kc H locs 0 0 Q (F0 mm 188 ls []) := by
                              intro nn188
                              induction nn188 with
                              | zero => intro k4 rt hk4 hrt hmu; exact absurd hmu (Nat.not_lt_zero _)
                              | succ nn188 ih188 =>
                                intro k4 rt hk4 hrt hmu188 H locs hP hD hS ls hl
                                refine lv_iload (pc := 188) hx hb dX10_start_188 (lv_at hl 0 rfl) ?_
                                refine lv_bipush (pc := 190) (v := nI 8) hx hb dX10_start_190 (by decide +kernel) ?_
                                refine lv_icmp_ge (pc := 192) (tgt := 233) hx hb dX10_start_192 (by decide) (fun c_8 => ?_) (fun c_8 => ?_)
                                · skip
                                  rw [nI_leI (by omega) (by omega)] at c_8
                                  refine lv_aload_n (pc := 233) hx hb dX10_start_233 rfl (lv_at hl 3 rfl) ?_
                                  refine va_get (pc := 234) (D := D) (ci := 8) (v := .ref (a 39)) (C := RX10) (T := TX10) (N := 57) hx hb hts iu10 hown hK hP 1 rfl rfl 39 (by decide) (hts _ tw_1084) (fun _ h9 => h9) rfl dX10_start_234 ?_
                                  refine lv_iconst (pc := 237) (v := nI 0) hx hb dX10_start_237 (by decide +kernel) ?_
                                  refine lv_iload (pc := 238) hx hb dX10_start_238 (lv_at hl 1 rfl) ?_
                                  refine lv_if_eq (pc := 240) (tgt := 247) hx hb dX10_start_240 (by decide) (fun c_9 => ?_) (fun c_9 => ?_)
                                  · skip
                                    rw [q_beq] at c_9
                                    try rw [Bool.not_eq_false] at c_9
                                    have hzz := c_9
                                    refine lv_iconst (pc := 247) (v := nI 0) hx hb dX10_start_247 (by decide +kernel) ?_
                                    refine q_iastK (pc := 248) hx hb hK hP hD hS 0 0 rfl rfl (k := 0) rfl (by omega) (by omega) (b := 0) rfl dX10_start_248 (fun H locs hP hD hS => ?_)
                                    have hP : va_P D vwCl [(a 39, aK ta 2 (qU (qU se 1 1) 0 0)), (h0, oM a ar mn1_179 tp osz 0 ns ct), (a 0, aK ta 64 tIP), (a 1, aK ta 48 tSPR), (a 2, aK ta 32 tMIX), (a 3, aK ta 56 tCH), (a 4, aK ta 48 tSEC), (a 5, aK ta 512 tSBX), (a 10, aB ta 64 bi1_179), (a 11, aB ta 64 tu1_179), (a 12, aB ta 56 cd1_179), (a 13, aB ta 768 sk1_179), (a 14, aB ta 32 hf1_179), (a 15, aB ta 48 wd1_179), (a 22, aS ta 700 gm1_179), (a 24, aS ta 16 mac1_179), (a 53, aS ta 16 gbl1_179), (a 52, aS ta 3 n'), (a 51, aS ta 8 p'), (a 33, aS ta 16 gna), (a 38, aS ta 192 gto), (a 41, aS ta 256 gke1_179), (a 42, aS ta 16 gow1_179), (a 43, aS ta 16 gth1_179), (a 44, aS ta 16 c'), (a 36, aK ta 2 ru), (a 37, aK ta 2 le)] H := hP
                                    have hD : va_D A [(a 39, aK ta 2 (qU (qU se 1 1) 0 0)), (h0, oM a ar mn1_179 tp osz 0 ns ct), (a 0, aK ta 64 tIP), (a 1, aK ta 48 tSPR), (a 2, aK ta 32 tMIX), (a 3, aK ta 56 tCH), (a 4, aK ta 48 tSEC), (a 5, aK ta 512 tSBX), (a 10, aB ta 64 bi1_179), (a 11, aB ta 64 tu1_179), (a 12, aB ta 56 cd1_179), (a 13, aB ta 768 sk1_179), (a 14, aB ta 32 hf1_179), (a 15, aB ta 48 wd1_179), (a 22, aS ta 700 gm1_179), (a 24, aS ta 16 mac1_179), (a 53, aS ta 16 gbl1_179), (a 52, aS ta 3 n'), (a 51, aS ta 8 p'), (a 33, aS ta 16 gna), (a 38, aS ta 192 gto), (a 41, aS ta 256 gke1_179), (a 42, aS ta 16 gow1_179), (a 43, aS ta 16 gth1_179), (a 44, aS ta 16 c'), (a 36, aK ta 2 ru), (a 37, aK ta 2 le)] := hD
                                    refine lv_aload_n (pc := 249) hx hb dX10_start_249 rfl (lv_at hl 3 rfl) ?_
                                    refine va_get (pc := 250) (D := D) (ci := 8) (v := .ref (a 39)) (C := RX10) (T := TX10) (N := 57) hx hb hts iu10 hown hK hP 1 rfl rfl 39 (by decide) (hts _ tw_1084) (fun _ h9 => h9) rfl dX10_start_250 ?_
                                    refine lv_iconst (pc := 253) (v := nI 0) hx hb dX10_start_253 (by decide +kernel) ?_
                                    refine q_iald (pc := 254) hx hb hK hP 0 0 rfl rfl (k := 0) (v := nI ((qU (qU se 1 1) 0 0) 0)) rfl (by omega) (by omega) rfl dX10_start_254 ?_
                                    refine q_top (y := qb rt) (by rw [qU_same, hzz]; rfl) ?_
                                    have hq_10 : (rt = decide (seg gow1_179 0 8 = seg gow1_179 8 8)) ∧ ((qU (qU se 1 1) 0 0) 0 = if rt then 1 else 0) ∧ ((qU (qU se 1 1) 0 0) 1 = 1) ∧ (seg c' 8 6 = (retailL (skeyL (seg gto 128 16) 257 ct) (zeroL 8) (qL gna ns)).take 6) ∧ (seg c' 0 8 = seg c' 8 8) ∧ (seg gke1_179 0 16 = (skeyL (seg gto 0 16) 386 ct)) ∧ (seg gke1_179 32 16 = skeyL (seg gto 32 16) 257 ct) ∧ (seg gke1_179 64 16 = skeyL (seg gto 32 16) 258 ct) ∧ (seg gke1_179 96 16 = skeyL (seg gto 64 16) 385 ct) ∧ (seg gow1_179 0 8 = mac3L (skeyL (seg gto 0 16) 386 ct) (qNum h9 8 ++ qNum (nI ct).toInt64 2 ++ seg c' 8 6)) ∧ (seg gth1_179 0 8 = mac3L (skeyL (seg gto 0 16) 386 ct) (qNum (nI ct).toInt64 2 ++ seg c' 8 6 ++ qNum h9 8)) ∧ (seg gke1_179 128 16 = (skeyL (seg gto 96 16) 386 ct)) ∧ (seg gke1_179 160 16 = skeyL (seg gto 128 16) 257 ct) ∧ (seg gke1_179 192 16 = skeyL (seg gto 128 16) 258 ct) ∧ (seg gke1_179 224 16 = skeyL (seg gto 160 16) 385 ct) ∧ (seg gow1_179 8 8 = mac3L (skeyL (seg gto 96 16) 386 ct) (qNum h9 8 ++ qNum (nI ct).toInt64 2 ++ seg c' 8 6)) ∧ (seg gth1_179 8 8 = mac3L (skeyL (seg gto 96 16) 386 ct) (qNum (nI ct).toInt64 2 ++ seg c' 8 6 ++ qNum h9 8)) := by
                                      have hH : qL p' 8 = qNum h9 8 := by rw [← seg_0, seg_copy0 hs1 (by omega)]; rfl
                                      have hN : qL n' 2 = qNum (nI ct).toInt64 2 := by rw [← seg_0, seg_copy0 hs2 (by omega)]; rfl
                                      have hc1 : seg c' 8 8 = seg gck1_133 8 8 := seg_keep fun j hj => hs3.2 _ (by omega)
                                      have hc0 : seg c' 0 8 = seg c' 8 8 := by rw [hc1]; exact seg_copy hs3 (by omega)
                                      have hc6 : seg c' 0 6 = seg c' 8 6 := by rw [← seg_take (g := c') (o := 0) (n := 8) (by decide), hc0, seg_take (by decide)]
                                      have hc16 : seg gck1_133 8 6 = seg c' 8 6 := by rw [← seg_take (g := gck1_133) (o := 8) (n := 8) (by decide), ← hc1, seg_take (by decide)]
                                      refine ⟨(by
                                        rw [hrt, show k4 = 8 by omega]
                                        congr 1
                                        rw [eq_iff_iff, seg_ext]
                                        simp only [Nat.zero_add]), by rw [qU_same]; first | rw [hzz]; rfl, by rw [qU_ne (by decide)]; exact qU_same, hc16.symm.trans hc_133, hc0, hE_179, hM_179, hB_179, hS9_179, hO_179.trans (by rw [hH, hN, hc6]), hT9_179.trans (by rw [hH, hN, hc6]), (seg_keep (g' := gke1_179) (g := gke1_133) (o := 128) (n := 16) fun j hj => by rw [hfk_179 _ (by omega)]).trans hE_133, (seg_keep (g' := gke1_179) (g := gke1_133) (o := 160) (n := 16) fun j hj => by rw [hfk_179 _ (by omega)]).trans hM_133, (seg_keep (g' := gke1_179) (g := gke1_133) (o := 192) (n := 16) fun j hj => by rw [hfk_179 _ (by omega)]).trans hB_133, (seg_keep (g' := gke1_179) (g := gke1_133) (o := 224) (n := 16) fun j hj => by rw [hfk_179 _ (by omega)]).trans hS9_133, (seg_keep (g' := gow1_179) (g := gow1_133) (o := 8) (n := 8) fun j hj => by rw [hfo_179 _ (by omega)]).trans (hO_133.trans (by rw [hH, hN, hc16])), (seg_keep (g' := gth1_179) (g := gth1_133) (o := 8) (n := 8) fun j hj => by rw [hft_179 _ (by omega)]).trans (hT9_133.trans (by rw [hH, hN, hc16]))⟩
                                    exact hret (⟨(bi1_179), (tu1_179), (cd1_179), (sk1_179), (hf1_179), (wd1_179), (gm1_179), (mac1_179), (gbl1_179), (n'), (p'), (gke1_179), (gow1_179), (gth1_179), (c'), (qU (qU se 1 1) 0 0), (rt), (mn1_179)⟩ : (Nat → Bool) × (Nat → Bool) × (Nat → Bool) × (Nat → Bool) × (Nat → Bool) × (Nat → Bool) × (Nat → BitVec 8) × (Nat → BitVec 8) × (Nat → BitVec 8) × (Nat → BitVec 8) × (Nat → BitVec 8) × (Nat → BitVec 8) × (Nat → BitVec 8) × (Nat → BitVec 8) × (Nat → BitVec 8) × (Nat → Nat) × Bool × Nat) _ _ _ _ dX10_start_255 hq_10 (hP.sub [1, 2, 3, 4, 5, 6, 7, 8, 9, 10, 11, 12, 13, 14, 15, 16, 17, 18, 19, 20, 21, 22, 23, 24, 25, 26, 0] rfl) (hD.sub [1, 2, 3, 4, 5, 6, 7, 8, 9, 10, 11, 12, 13, 14, 15, 16, 17, 18, 19, 20, 21, 22, 23, 24, 25, 26, 0] (by decide) rfl) hS
                                  · skip
                                    rw [q_beq] at c_9
                                    try rw [Bool.not_eq_false] at c_9
                                    have hzz := c_9
                                    refine lv_iconst (pc := 243) (v := nI 1) hx hb dX10_start_243 (by decide +kernel) ?_
                                    refine lv_goto (pc := 244) (tgt := 248) hx hb dX10_start_244 (by decide) ?_
                                    refine q_iastK (pc := 248) hx hb hK hP hD hS 0 0 rfl rfl (k := 0) rfl (by omega) (by omega) (b := 1) rfl dX10_start_248 (fun H locs hP hD hS => ?_)
                                    have hP : va_P D vwCl [(a 39, aK ta 2 (qU (qU se 1 1) 0 1)), (h0, oM a ar mn1_179 tp osz 0 ns ct), (a 0, aK ta 64 tIP), (a 1, aK ta 48 tSPR), (a 2, aK ta 32 tMIX), (a 3, aK ta 56 tCH), (a 4, aK ta 48 tSEC), (a 5, aK ta 512 tSBX), (a 10, aB ta 64 bi1_179), (a 11, aB ta 64 tu1_179), (a 12, aB ta 56 cd1_179), (a 13, aB ta 768 sk1_179), (a 14, aB ta 32 hf1_179), (a 15, aB ta 48 wd1_179), (a 22, aS ta 700 gm1_179), (a 24, aS ta 16 mac1_179), (a 53, aS ta 16 gbl1_179), (a 52, aS ta 3 n'), (a 51, aS ta 8 p'), (a 33, aS ta 16 gna), (a 38, aS ta 192 gto), (a 41, aS ta 256 gke1_179), (a 42, aS ta 16 gow1_179), (a 43, aS ta 16 gth1_179), (a 44, aS ta 16 c'), (a 36, aK ta 2 ru), (a 37, aK ta 2 le)] H := hP
                                    have hD : va_D A [(a 39, aK ta 2 (qU (qU se 1 1) 0 1)), (h0, oM a ar mn1_179 tp osz 0 ns ct), (a 0, aK ta 64 tIP), (a 1, aK ta 48 tSPR), (a 2, aK ta 32 tMIX), (a 3, aK ta 56 tCH), (a 4, aK ta 48 tSEC), (a 5, aK ta 512 tSBX), (a 10, aB ta 64 bi1_179), (a 11, aB ta 64 tu1_179), (a 12, aB ta 56 cd1_179), (a 13, aB ta 768 sk1_179), (a 14, aB ta 32 hf1_179), (a 15, aB ta 48 wd1_179), (a 22, aS ta 700 gm1_179), (a 24, aS ta 16 mac1_179), (a 53, aS ta 16 gbl1_179), (a 52, aS ta 3 n'), (a 51, aS ta 8 p'), (a 33, aS ta 16 gna), (a 38, aS ta 192 gto), (a 41, aS ta 256 gke1_179), (a 42, aS ta 16 gow1_179), (a 43, aS ta 16 gth1_179), (a 44, aS ta 16 c'), (a 36, aK ta 2 ru), (a 37, aK ta 2 le)] := hD
                                    refine lv_aload_n (pc := 249) hx hb dX10_start_249 rfl (lv_at hl 3 rfl) ?_
                                    refine va_get (pc := 250) (D := D) (ci := 8) (v := .ref (a 39)) (C := RX10) (T := TX10) (N := 57) hx hb hts iu10 hown hK hP 1 rfl rfl 39 (by decide) (hts _ tw_1084) (fun _ h9 => h9) rfl dX10_start_250 ?_
                                    refine lv_iconst (pc := 253) (v := nI 0) hx hb dX10_start_253 (by decide +kernel) ?_
                                    refine q_iald (pc := 254) hx hb hK hP 0 0 rfl rfl (k := 0) (v := nI ((qU (qU se 1 1) 0 1) 0)) rfl (by omega) (by omega) rfl dX10_start_254 ?_
                                    refine q_top (y := qb rt) (by rw [qU_same, hzz]; rfl) ?_
                                    have hq_11 : (rt = decide (seg gow1_179 0 8 = seg gow1_179 8 8)) ∧ ((qU (qU se 1 1) 0 1) 0 = if rt then 1 else 0) ∧ ((qU (qU se 1 1) 0 1) 1 = 1) ∧ (seg c' 8 6 = (retailL (skeyL (seg gto 128 16) 257 ct) (zeroL 8) (qL gna ns)).take 6) ∧ (seg c' 0 8 = seg c' 8 8) ∧ (seg gke1_179 0 16 = (skeyL (seg gto 0 16) 386 ct)) ∧ (seg gke1_179 32 16 = skeyL (seg gto 32 16) 257 ct) ∧ (seg gke1_179 64 16 = skeyL (seg gto 32 16) 258 ct) ∧ (seg gke1_179 96 16 = skeyL (seg gto 64 16) 385 ct) ∧ (seg gow1_179 0 8 = mac3L (skeyL (seg gto 0 16) 386 ct) (qNum h9 8 ++ qNum (nI ct).toInt64 2 ++ seg c' 8 6)) ∧ (seg gth1_179 0 8 = mac3L (skeyL (seg gto 0 16) 386 ct) (qNum (nI ct).toInt64 2 ++ seg c' 8 6 ++ qNum h9 8)) ∧ (seg gke1_179 128 16 = (skeyL (seg gto 96 16) 386 ct)) ∧ (seg gke1_179 160 16 = skeyL (seg gto 128 16) 257 ct) ∧ (seg gke1_179 192 16 = skeyL (seg gto 128 16) 258 ct) ∧ (seg gke1_179 224 16 = skeyL (seg gto 160 16) 385 ct) ∧ (seg gow1_179 8 8 = mac3L (skeyL (seg gto 96 16) 386 ct) (qNum h9 8 ++ qNum (nI ct).toInt64 2 ++ seg c' 8 6)) ∧ (seg gth1_179 8 8 = mac3L (skeyL (seg gto 96 16) 386 ct) (qNum (nI ct).toInt64 2 ++ seg c' 8 6 ++ qNum h9 8)) := by
                                      have hH : qL p' 8 = qNum h9 8 := by rw [← seg_0, seg_copy0 hs1 (by omega)]; rfl
                                      have hN : qL n' 2 = qNum (nI ct).toInt64 2 := by rw [← seg_0, seg_copy0 hs2 (by omega)]; rfl
                                      have hc1 : seg c' 8 8 = seg gck1_133 8 8 := seg_keep fun j hj => hs3.2 _ (by omega)
                                      have hc0 : seg c' 0 8 = seg c' 8 8 := by rw [hc1]; exact seg_copy hs3 (by omega)
                                      have hc6 : seg c' 0 6 = seg c' 8 6 := by rw [← seg_take (g := c') (o := 0) (n := 8) (by decide), hc0, seg_take (by decide)]
                                      have hc16 : seg gck1_133 8 6 = seg c' 8 6 := by rw [← seg_take (g := gck1_133) (o := 8) (n := 8) (by decide), ← hc1, seg_take (by decide)]
                                      refine ⟨(by
                                        rw [hrt, show k4 = 8 by omega]
                                        congr 1
                                        rw [eq_iff_iff, seg_ext]
                                        simp only [Nat.zero_add]), by rw [qU_same]; first | rw [hzz]; rfl, by rw [qU_ne (by decide)]; exact qU_same, hc16.symm.trans hc_133, hc0, hE_179, hM_179, hB_179, hS9_179, hO_179.trans (by rw [hH, hN, hc6]), hT9_179.trans (by rw [hH, hN, hc6]), (seg_keep (g' := gke1_179) (g := gke1_133) (o := 128) (n := 16) fun j hj => by rw [hfk_179 _ (by omega)]).trans hE_133, (seg_keep (g' := gke1_179) (g := gke1_133) (o := 160) (n := 16) fun j hj => by rw [hfk_179 _ (by omega)]).trans hM_133, (seg_keep (g' := gke1_179) (g := gke1_133) (o := 192) (n := 16) fun j hj => by rw [hfk_179 _ (by omega)]).trans hB_133, (seg_keep (g' := gke1_179) (g := gke1_133) (o := 224) (n := 16) fun j hj => by rw [hfk_179 _ (by omega)]).trans hS9_133, (seg_keep (g' := gow1_179) (g := gow1_133) (o := 8) (n := 8) fun j hj => by rw [hfo_179 _ (by omega)]).trans (hO_133.trans (by rw [hH, hN, hc16])), (seg_keep (g' := gth1_179) (g := gth1_133) (o := 8) (n := 8) fun j hj => by rw [hft_179 _ (by omega)]).trans (hT9_133.trans (by rw [hH, hN, hc16]))⟩
                                    exact hret (⟨(bi1_179), (tu1_179), (cd1_179), (sk1_179), (hf1_179), (wd1_179), (gm1_179), (mac1_179), (gbl1_179), (n'), (p'), (gke1_179), (gow1_179), (gth1_179), (c'), (qU (qU se 1 1) 0 1), (rt), (mn1_179)⟩ : (Nat → Bool) × (Nat → Bool) × (Nat → Bool) × (Nat → Bool) × (Nat → Bool) × (Nat → Bool) × (Nat → BitVec 8) × (Nat → BitVec 8) × (Nat → BitVec 8) × (Nat → BitVec 8) × (Nat → BitVec 8) × (Nat → BitVec 8) × (Nat → BitVec 8) × (Nat → BitVec 8) × (Nat → BitVec 8) × (Nat → Nat) × Bool × Nat) _ _ _ _ dX10_start_255 hq_11 (hP.sub [1, 2, 3, 4, 5, 6, 7, 8, 9, 10, 11, 12, 13, 14, 15, 16, 17, 18, 19, 20, 21, 22, 23, 24, 25, 26, 0] rfl) (hD.sub [1, 2, 3, 4, 5, 6, 7, 8, 9, 10, 11, 12, 13, 14, 15, 16, 17, 18, 19, 20, 21, 22, 23, 24, 25, 26, 0] (by decide) rfl) hS
                                · skip
                                  rw [nI_leI (by omega) (by omega)] at c_8
                                  refine lv_iload (pc := 195) hx hb dX10_start_195 (lv_at hl 1 rfl) ?_
                                  refine lv_if_eq (pc := 197) (tgt := 224) hx hb dX10_start_197 (by decide) (fun c_12 => ?_) (fun c_12 => ?_)
                                  · skip
                                    rw [q_beq] at c_12
                                    try rw [Bool.not_eq_false] at c_12
                                    have hrt9 := c_12
                                    refine lv_iconst (pc := 224) (v := nI 0) hx hb dX10_start_224 (by decide +kernel) ?_
                                    refine q_top (y := qb false) rfl ?_
                                    refine lv_istore (pc := 225) (lv' := [(4, .int (qb false)), (5, .int (nI k4)), (3, .int (nI 2)), (0, .ref h0), (1, .long h9)]) hx hb dX10_start_225 hl (by decide) rfl (fun ls hl => ?_)
                                    refine lv_iinc (pc := 227) (v := nI (k4 + 1)) (lv' := [(5, .int (nI (k4 + 1))), (4, .int (qb false)), (3, .int (nI 2)), (0, .ref h0), (1, .long h9)]) hx hb dX10_start_227 hl (k := 1) rfl (by first | exact nI_add k4 1 | rfl) (by decide) rfl (fun ls hl => ?_)
                                    refine lv_goto (pc := 230) (tgt := 188) hx hb dX10_start_230 (by decide) ?_
                                    exact ih188 (k4 + 1) false (by omega) (by
                                          symm
                                          first | (refine decide_eq_true (fun j hj => ?_); have h8 : ∀ j, j < k4 → gow1_179 j = gow1_179 (8 + j) := (by rw [hrt9] at hrt; exact of_decide_eq_true hrt.symm); by_cases q : j = k4; (subst q; exact hq9); exact h8 j (by omega)) | (refine decide_eq_false (fun q => ?_); exact hq9 (q k4 (by omega))) | (refine decide_eq_false (fun q => ?_); have h8 : ¬ ∀ j, j < k4 → gow1_179 j = gow1_179 (8 + j) := (by rw [hrt9] at hrt; exact of_decide_eq_false hrt.symm); exact h8 (fun j hj => q j (by omega)))) (by omega) _ _ (hP.sub [0, 1, 2, 3, 4, 5, 6, 7, 8, 9, 10, 11, 12, 13, 14, 15, 16, 17, 18, 19, 20, 21, 22, 23, 24, 25, 26] rfl) (hD.sub [0, 1, 2, 3, 4, 5, 6, 7, 8, 9, 10, 11, 12, 13, 14, 15, 16, 17, 18, 19, 20, 21, 22, 23, 24, 25, 26] (by decide) rfl) hS ls (lv_sub hl [0, 1, 2, 3, 4] rfl)
                                  · skip
                                    rw [q_beq] at c_12
                                    try rw [Bool.not_eq_false] at c_12
                                    have hrt9 := c_12
                                    refine lv_aload_n (pc := 200) hx hb dX10_start_200 rfl (lv_at hl 3 rfl) ?_
                                    refine va_get (pc := 201) (D := D) (ci := 8) (v := .ref (a 42)) (C := RX10) (T := TX10) (N := 57) hx hb hts iu10 hown hK hP 1 rfl rfl 42 (by decide) (hts _ tw_1087) (fun _ h9 => h9) rfl dX10_start_201 ?_
                                    refine lv_iload (pc := 204) hx hb dX10_start_204 (lv_at hl 0 rfl) ?_
                                    refine q_bald (pc := 206) hx hb hK hP 22 2 rfl rfl (k := k4) (v := qs (gow1_179 k4)) rfl (by omega) (by omega) rfl dX10_start_206 ?_
                                    refine lv_aload_n (pc := 207) hx hb dX10_start_207 rfl (lv_at hl 3 rfl) ?_
                                    refine va_get (pc := 208) (D := D) (ci := 8) (v := .ref (a 42)) (C := RX10) (T := TX10) (N := 57) hx hb hts iu10 hown hK hP 1 rfl rfl 42 (by decide) (hts _ tw_1087) (fun _ h9 => h9) rfl dX10_start_208 ?_
                                    refine lv_bipush (pc := 211) (v := nI 8) hx hb dX10_start_211 (by decide +kernel) ?_
                                    refine lv_iload (pc := 213) hx hb dX10_start_213 (lv_at hl 0 rfl) ?_
                                    refine lv_iadd (pc := 215) hx hb dX10_start_215 ?_
                                    refine q_top (y := nI (8 + k4)) (nI_add 8 k4) ?_
                                    refine q_bald (pc := 216) hx hb hK hP 22 2 rfl rfl (k := 8 + k4) (v := qs (gow1_179 (8 + k4))) rfl (by omega) (by omega) rfl dX10_start_216 ?_
                                    refine lv_icmp_ne (pc := 217) (tgt := 224) hx hb dX10_start_217 (by decide) (fun c_13 => ?_) (fun c_13 => ?_)
                                    · skip
                                      rw [qs_eq] at c_13
                                      have hq9 := c_13
                                      refine lv_iconst (pc := 224) (v := nI 0) hx hb dX10_start_224 (by decide +kernel) ?_
                                      refine q_top (y := qb false) rfl ?_
                                      refine lv_istore (pc := 225) (lv' := [(4, .int (qb false)), (5, .int (nI k4)), (3, .int (nI 2)), (0, .ref h0), (1, .long h9)]) hx hb dX10_start_225 hl (by decide) rfl (fun ls hl => ?_)
                                      refine lv_iinc (pc := 227) (v := nI (k4 + 1)) (lv' := [(5, .int (nI (k4 + 1))), (4, .int (qb false)), (3, .int (nI 2)), (0, .ref h0), (1, .long h9)]) hx hb dX10_start_227 hl (k := 1) rfl (by first | exact nI_add k4 1 | rfl) (by decide) rfl (fun ls hl => ?_)
                                      refine lv_goto (pc := 230) (tgt := 188) hx hb dX10_start_230 (by decide) ?_
                                      exact ih188 (k4 + 1) false (by omega) (by
                                            symm
                                            first | (refine decide_eq_true (fun j hj => ?_); have h8 : ∀ j, j < k4 → gow1_179 j = gow1_179 (8 + j) := (by rw [hrt9] at hrt; exact of_decide_eq_true hrt.symm); by_cases q : j = k4; (subst q; exact hq9); exact h8 j (by omega)) | (refine decide_eq_false (fun q => ?_); exact hq9 (q k4 (by omega))) | (refine decide_eq_false (fun q => ?_); have h8 : ¬ ∀ j, j < k4 → gow1_179 j = gow1_179 (8 + j) := (by rw [hrt9] at hrt; exact of_decide_eq_false hrt.symm); exact h8 (fun j hj => q j (by omega)))) (by omega) _ _ (hP.sub [0, 1, 2, 3, 4, 5, 6, 7, 8, 9, 10, 11, 12, 13, 14, 15, 16, 17, 18, 19, 20, 21, 22, 23, 24, 25, 26] rfl) (hD.sub [0, 1, 2, 3, 4, 5, 6, 7, 8, 9, 10, 11, 12, 13, 14, 15, 16, 17, 18, 19, 20, 21, 22, 23, 24, 25, 26] (by decide) rfl) hS ls (lv_sub hl [0, 1, 2, 3, 4] rfl)
                                    · skip
                                      rw [qs_eq] at c_13
                                      have hq9 := c_13
                                      refine lv_iconst (pc := 220) (v := nI 1) hx hb dX10_start_220 (by decide +kernel) ?_
                                      refine lv_goto (pc := 221) (tgt := 225) hx hb dX10_start_221 (by decide) ?_
                                      refine q_top (y := qb true) rfl ?_
                                      refine lv_istore (pc := 225) (lv' := [(4, .int (qb true)), (5, .int (nI k4)), (3, .int (nI 2)), (0, .ref h0), (1, .long h9)]) hx hb dX10_start_225 hl (by decide) rfl (fun ls hl => ?_)
                                      refine lv_iinc (pc := 227) (v := nI (k4 + 1)) (lv' := [(5, .int (nI (k4 + 1))), (4, .int (qb true)), (3, .int (nI 2)), (0, .ref h0), (1, .long h9)]) hx hb dX10_start_227 hl (k := 1) rfl (by first | exact nI_add k4 1 | rfl) (by decide) rfl (fun ls hl => ?_)
                                      refine lv_goto (pc := 230) (tgt := 188) hx hb dX10_start_230 (by decide) ?_
                                      exact ih188 (k4 + 1) true (by omega) (by
                                            symm
                                            first | (refine decide_eq_true (fun j hj => ?_); have h8 : ∀ j, j < k4 → gow1_179 j = gow1_179 (8 + j) := (by rw [hrt9] at hrt; exact of_decide_eq_true hrt.symm); by_cases q : j = k4; (subst q; exact hq9); exact h8 j (by omega)) | (refine decide_eq_false (fun q => ?_); exact hq9 (q k4 (by omega))) | (refine decide_eq_false (fun q => ?_); have h8 : ¬ ∀ j, j < k4 → gow1_179 j = gow1_179 (8 + j) := (by rw [hrt9] at hrt; exact of_decide_eq_false hrt.symm); exact h8 (fun j hj => q j (by omega)))) (by omega) _ _ (hP.sub [0, 1, 2, 3, 4, 5, 6, 7, 8, 9, 10, 11, 12, 13, 14, 15, 16, 17, 18, 19, 20, 21, 22, 23, 24, 25, 26] rfl) (hD.sub [0, 1, 2, 3, 4, 5, 6, 7, 8, 9, 10, 11, 12, 13, 14, 15, 16, 17, 18, 19, 20, 21, 22, 23, 24, 25, 26] (by decide) rfl) hS ls (lv_sub hl [0, 1, 2, 3, 4] rfl)
                            exact LP188 _ 0 true (by omega) ((decide_eq_true (fun j hj => absurd hj (Nat.not_lt_zero _))).symm) (Nat.lt_succ_self _) _ _ (hP.sub [0, 1, 2, 3, 4, 5, 6, 7, 8, 9, 10, 11, 12, 13, 14, 15, 16, 17, 18, 19, 20, 21, 22, 23, 24, 25, 26] rfl) (hD.sub [0, 1, 2, 3, 4, 5, 6, 7, 8, 9, 10, 11, 12, 13, 14, 15, 16, 17, 18, 19, 20, 21, 22, 23, 24, 25, 26] (by decide) rfl) hS ls (lv_sub hl [0, 1, 2, 3, 4] rfl)
                          · skip
                            rw [nI_leI (by omega) (by omega)] at c_7
                            refine lv_aload_n (pc := 153) hx hb dX10_start_153 rfl (lv_at hl 2 rfl) ?_
                            refine va_get (pc := 154) (D := D) (ci := 8) (v := .ref (a 44)) (C := RX10) (T := TX10) (N := 57) hx hb hts iu10 hown hK hP 1 rfl rfl 44 (by decide) (hts _ tw_1089) (fun _ h9 => h9) rfl dX10_start_154 ?_
                            refine lv_iload (pc := 157) hx hb dX10_start_157 (lv_at hl 0 rfl) ?_
                            refine lv_aload_n (pc := 159) hx hb dX10_start_159 rfl (lv_at hl 2 rfl) ?_
                            refine va_get (pc := 160) (D := D) (ci := 8) (v := .ref (a 44)) (C := RX10) (T := TX10) (N := 57) hx hb hts iu10 hown hK hP 1 rfl rfl 44 (by decide) (hts _ tw_1089) (fun _ h9 => h9) rfl dX10_start_160 ?_
                            refine lv_bipush (pc := 163) (v := nI 8) hx hb dX10_start_163 (by decide +kernel) ?_
                            refine lv_iload (pc := 165) hx hb dX10_start_165 (lv_at hl 0 rfl) ?_
                            refine lv_iadd (pc := 167) hx hb dX10_start_167 ?_
                            refine q_top (y := nI (8 + k3x)) (nI_add 8 k3x) ?_
                            refine q_bald (pc := 168) hx hb hK hP 24 2 rfl rfl (k := 8 + k3x) (v := qs (c' (8 + k3x))) rfl (by omega) (by omega) rfl dX10_start_168 ?_
                            refine q_bastS (pc := 169) hx hb hK hP hD hS 24 2 rfl rfl (k := k3x) rfl (by omega) (by omega) (b := c' (8 + k3x)) (qlo_qs _) dX10_start_169 (fun H locs hP hD hS => ?_)
                            have hP : va_P D vwCl [(a 39, aK ta 2 (qU se 1 1)), (h0, oM a ar mn1_133 tp osz 0 ns ct), (a 0, aK ta 64 tIP), (a 1, aK ta 48 tSPR), (a 2, aK ta 32 tMIX), (a 3, aK ta 56 tCH), (a 4, aK ta 48 tSEC), (a 5, aK ta 512 tSBX), (a 10, aB ta 64 bi1_133), (a 11, aB ta 64 tu1_133), (a 12, aB ta 56 cd1_133), (a 13, aB ta 768 sk1_133), (a 14, aB ta 32 hf1_133), (a 15, aB ta 48 wd1_133), (a 22, aS ta 700 gm1_133), (a 24, aS ta 16 mac1_133), (a 53, aS ta 16 gbl1_133), (a 52, aS ta 3 n'), (a 51, aS ta 8 p'), (a 33, aS ta 16 gna), (a 38, aS ta 192 gto), (a 41, aS ta 256 gke1_133), (a 42, aS ta 16 gow1_133), (a 43, aS ta 16 gth1_133), (a 44, aS ta 16 (qU c' k3x (c' (8 + k3x)))), (a 36, aK ta 2 ru), (a 37, aK ta 2 le)] H := hP
                            have hD : va_D A [(a 39, aK ta 2 (qU se 1 1)), (h0, oM a ar mn1_133 tp osz 0 ns ct), (a 0, aK ta 64 tIP), (a 1, aK ta 48 tSPR), (a 2, aK ta 32 tMIX), (a 3, aK ta 56 tCH), (a 4, aK ta 48 tSEC), (a 5, aK ta 512 tSBX), (a 10, aB ta 64 bi1_133), (a 11, aB ta 64 tu1_133), (a 12, aB ta 56 cd1_133), (a 13, aB ta 768 sk1_133), (a 14, aB ta 32 hf1_133), (a 15, aB ta 48 wd1_133), (a 22, aS ta 700 gm1_133), (a 24, aS ta 16 mac1_133), (a 53, aS ta 16 gbl1_133), (a 52, aS ta 3 n'), (a 51, aS ta 8 p'), (a 33, aS ta 16 gna), (a 38, aS ta 192 gto), (a 41, aS ta 256 gke1_133), (a 42, aS ta 16 gow1_133), (a 43, aS ta 16 gth1_133), (a 44, aS ta 16 (qU c' k3x (c' (8 + k3x)))), (a 36, aK ta 2 ru), (a 37, aK ta 2 le)] := hD
                            refine lv_iinc (pc := 170) (v := nI (k3x + 1)) (lv' := [(4, .int (nI (k3x + 1))), (3, .int (nI 2)), (0, .ref h0), (1, .long h9)]) hx hb dX10_start_170 hl (k := 0) rfl (by first | exact nI_add k3x 1 | rfl) (by decide) rfl (fun ls hl => ?_)
                            refine lv_goto (pc := 173) (tgt := 146) hx hb dX10_start_173 (by decide) ?_
                            exact ih146 (k3x + 1) (qU c' k3x (c' (8 + k3x))) (by omega) (qSeg_s hs3 (by omega) (by rw [hs3.2 _ (by omega)])) (by omega) _ _ (hP.sub [0, 1, 2, 3, 4, 5, 6, 7, 8, 9, 10, 11, 12, 13, 14, 15, 16, 17, 18, 19, 20, 21, 22, 23, 24, 25, 26] rfl) (hD.sub [0, 1, 2, 3, 4, 5, 6, 7, 8, 9, 10, 11, 12, 13, 14, 15, 16, 17, 18, 19, 20, 21, 22, 23, 24, 25, 26] (by decide) rfl) hS ls (lv_sub hl [0, 1, 2, 3] rfl)
                      exact LP146 _ 0 gck1_133 (by omega) (qSeg_0) (Nat.lt_succ_self _) _ _ (hP.sub [0, 1, 2, 3, 4, 5, 6, 7, 8, 9, 10, 11, 12, 13, 14, 15, 16, 17, 18, 19, 20, 21, 22, 23, 24, 25, 26] rfl) (hD.sub [0, 1, 2, 3, 4, 5, 6, 7, 8, 9, 10, 11, 12, 13, 14, 15, 16, 17, 18, 19, 20, 21, 22, 23, 24, 25, 26] (by decide) rfl) hS ls (lv_sub hl [0, 1, 2, 3] rfl)
                    · skip
                      rw [nI_leI (by omega) (by omega)] at c_6
                      refine lv_aload_n (pc := 102) hx hb dX10_start_102 rfl (lv_at hl 2 rfl) ?_
                      refine va_get (pc := 103) (D := D) (ci := 8) (v := .ref (a 52)) (C := RX10) (T := TX10) (N := 57) hx hb hts iu10 hown hK hP 0 rfl rfl 52 (by decide) (hts _ tw_1097) (fun _ h9 => h9) rfl dX10_start_103 ?_
                      refine lv_iload (pc := 106) hx hb dX10_start_106 (lv_at hl 0 rfl) ?_
                      refine lv_aload_n (pc := 108) hx hb dX10_start_108 rfl (lv_at hl 2 rfl) ?_
                      refine va_get (pc := 109) (D := D) (ci := 8) (v := .int (nI ct)) (C := RX10) (T := TX10) (N := 57) hx hb hts iu10 hown hK hP 0 rfl rfl 35 (by decide) (hts _ tw_1080) (fun _ h9 => h9) rfl dX10_start_109 ?_
                      refine lv_bipush (pc := 112) (v := nI 8) hx hb dX10_start_112 (by decide +kernel) ?_
                      refine lv_iload_n (pc := 114) hx hb dX10_start_114 rfl (lv_at hl 1 rfl) ?_
                      refine lv_iconst (pc := 115) (v := nI 1) hx hb dX10_start_115 (by decide +kernel) ?_
                      refine lv_isub (pc := 116) hx hb dX10_start_116 ?_
                      refine q_top (y := nI 1) (by decide +kernel) ?_
                      refine lv_iload (pc := 117) hx hb dX10_start_117 (lv_at hl 0 rfl) ?_
                      refine lv_isub (pc := 119) hx hb dX10_start_119 ?_
                      refine q_top (y := nI (1 - k2x)) (pk_sub (a := 1) (b := k2x) (by omega)) ?_
                      refine lv_imul (pc := 120) hx hb dX10_start_120 ?_
                      refine q_top (y := nI (8 * (1 - k2x))) (pk_mul 8 (1 - k2x)) ?_
                      refine lv_ishr (pc := 121) hx hb dX10_start_121 ?_
                      refine lv_i2b (pc := 122) (v := qs (qlo ((nI ct) >>> ((nI (8 * (1 - k2x))) &&& 31)))) hx hb dX10_start_122 (q_i2b _) ?_
                      refine q_bastS (pc := 123) hx hb hK hP hD hS 16 2 rfl rfl (k := k2x) rfl (by omega) (by omega) (b := qlo ((nI ct) >>> ((nI (8 * (1 - k2x))) &&& 31))) (qlo_qs _) dX10_start_123 (fun H locs hP hD hS => ?_)
                      have hP : va_P D vwCl [(h0, oM a ar mn tp osz 0 ns ct), (a 0, aK ta 64 tIP), (a 1, aK ta 48 tSPR), (a 2, aK ta 32 tMIX), (a 3, aK ta 56 tCH), (a 4, aK ta 48 tSEC), (a 5, aK ta 512 tSBX), (a 10, aB ta 64 bi), (a 11, aB ta 64 tu), (a 12, aB ta 56 cd), (a 13, aB ta 768 sk), (a 14, aB ta 32 hf), (a 15, aB ta 48 wd), (a 22, aS ta 700 gm), (a 24, aS ta 16 mac), (a 53, aS ta 16 gbl), (a 52, aS ta 3 (qU n' k2x (qlo ((nI ct) >>> ((nI (8 * (1 - k2x))) &&& 31))))), (a 51, aS ta 8 p'), (a 33, aS ta 16 gna), (a 38, aS ta 192 gto), (a 41, aS ta 256 gke), (a 42, aS ta 16 gow), (a 43, aS ta 16 gth), (a 44, aS ta 16 gck), (a 36, aK ta 2 ru), (a 37, aK ta 2 le), (a 39, aK ta 2 se)] H := hP
                      have hD : va_D A [(h0, oM a ar mn tp osz 0 ns ct), (a 0, aK ta 64 tIP), (a 1, aK ta 48 tSPR), (a 2, aK ta 32 tMIX), (a 3, aK ta 56 tCH), (a 4, aK ta 48 tSEC), (a 5, aK ta 512 tSBX), (a 10, aB ta 64 bi), (a 11, aB ta 64 tu), (a 12, aB ta 56 cd), (a 13, aB ta 768 sk), (a 14, aB ta 32 hf), (a 15, aB ta 48 wd), (a 22, aS ta 700 gm), (a 24, aS ta 16 mac), (a 53, aS ta 16 gbl), (a 52, aS ta 3 (qU n' k2x (qlo ((nI ct) >>> ((nI (8 * (1 - k2x))) &&& 31))))), (a 51, aS ta 8 p'), (a 33, aS ta 16 gna), (a 38, aS ta 192 gto), (a 41, aS ta 256 gke), (a 42, aS ta 16 gow), (a 43, aS ta 16 gth), (a 44, aS ta 16 gck), (a 36, aK ta 2 ru), (a 37, aK ta 2 le), (a 39, aK ta 2 se)] := hD
                      refine lv_iinc (pc := 124) (v := nI (k2x + 1)) (lv' := [(4, .int (nI (k2x + 1))), (3, .int (nI 2)), (0, .ref h0), (1, .long h9)]) hx hb dX10_start_124 hl (k := 0) rfl (by first | exact nI_add k2x 1 | rfl) (by decide) rfl (fun ls hl => ?_)
                      refine lv_goto (pc := 127) (tgt := 96) hx hb dX10_start_127 (by decide) ?_
                      exact ih96 (k2x + 1) (qU n' k2x (qlo ((nI ct) >>> ((nI (8 * (1 - k2x))) &&& 31)))) (by omega) (qSeg_s hs2 (by omega) (qlo_sr (by omega))) (by omega) _ _ (hP.sub [0, 1, 2, 3, 4, 5, 6, 7, 8, 9, 10, 11, 12, 13, 14, 15, 16, 17, 18, 19, 20, 21, 22, 23, 24, 25, 26] rfl) (hD.sub [0, 1, 2, 3, 4, 5, 6, 7, 8, 9, 10, 11, 12, 13, 14, 15, 16, 17, 18, 19, 20, 21, 22, 23, 24, 25, 26] (by decide) rfl) hS ls (lv_sub hl [0, 1, 2, 3] rfl)
                exact LP96 _ 0 gnu (by omega) (qSeg_0) (Nat.lt_succ_self _) _ _ (hP.sub [0, 1, 2, 3, 4, 5, 6, 7, 8, 9, 10, 11, 12, 13, 14, 15, 16, 17, 18, 19, 20, 21, 22, 23, 24, 25, 26] rfl) (hD.sub [0, 1, 2, 3, 4, 5, 6, 7, 8, 9, 10, 11, 12, 13, 14, 15, 16, 17, 18, 19, 20, 21, 22, 23, 24, 25, 26] (by decide) rfl) hS ls (lv_sub hl [0, 1, 2, 3] rfl)
            · skip
              rw [nI_leI (by omega) (by omega)] at c_4
              refine lv_aload_n (pc := 54) hx hb dX10_start_54 rfl (lv_at hl 1 rfl) ?_
              refine va_get (pc := 55) (D := D) (ci := 8) (v := .ref (a 51)) (C := RX10) (T := TX10) (N := 57) hx hb hts iu10 hown hK hP 0 rfl rfl 51 (by decide) (hts _ tw_1096) (fun _ h9 => h9) rfl dX10_start_55 ?_
              refine lv_iload_n (pc := 58) hx hb dX10_start_58 rfl (lv_at hl 0 rfl) ?_
              refine lv_lload_n (pc := 59) hx hb dX10_start_59 rfl (lv_at hl 2 rfl) ?_
              refine lv_bipush (pc := 60) (v := nI 56) hx hb dX10_start_60 (by decide +kernel) ?_
              refine lv_bipush (pc := 62) (v := nI 8) hx hb dX10_start_62 (by decide +kernel) ?_
              refine lv_iload_n (pc := 64) hx hb dX10_start_64 rfl (lv_at hl 0 rfl) ?_
              refine lv_imul (pc := 65) hx hb dX10_start_65 ?_
              refine q_top (y := nI (8 * k1x)) (pk_mul 8 k1x) ?_
              refine lv_isub (pc := 66) hx hb dX10_start_66 ?_
              refine q_top (y := nI (56 - (8 * k1x))) (pk_sub (a := 56) (b := 8 * k1x) (by omega)) ?_
              refine lv_lshr (pc := 67) (v := (h9 >>> ((nI (56 - (8 * k1x))).toInt64 &&& 63))) hx hb dX10_start_67 rfl ?_
              refine lv_l2i (pc := 68) (v := (h9 >>> ((nI (56 - (8 * k1x))).toInt64 &&& 63)).toInt32) hx hb dX10_start_68 rfl ?_
              refine lv_i2b (pc := 69) (v := qs (qlo ((h9 >>> ((nI (56 - (8 * k1x))).toInt64 &&& 63)).toInt32))) hx hb dX10_start_69 (q_i2b _) ?_
              refine q_bastS (pc := 70) hx hb hK hP hD hS 17 2 rfl rfl (k := k1x) rfl (by omega) (by omega) (b := qlo ((h9 >>> ((nI (56 - (8 * k1x))).toInt64 &&& 63)).toInt32)) (qlo_qs _) dX10_start_70 (fun H locs hP hD hS => ?_)
              have hP : va_P D vwCl [(h0, oM a ar mn tp osz 0 ns ct), (a 0, aK ta 64 tIP), (a 1, aK ta 48 tSPR), (a 2, aK ta 32 tMIX), (a 3, aK ta 56 tCH), (a 4, aK ta 48 tSEC), (a 5, aK ta 512 tSBX), (a 10, aB ta 64 bi), (a 11, aB ta 64 tu), (a 12, aB ta 56 cd), (a 13, aB ta 768 sk), (a 14, aB ta 32 hf), (a 15, aB ta 48 wd), (a 22, aS ta 700 gm), (a 24, aS ta 16 mac), (a 53, aS ta 16 gbl), (a 52, aS ta 3 gnu), (a 51, aS ta 8 (qU p' k1x (qlo ((h9 >>> ((nI (56 - (8 * k1x))).toInt64 &&& 63)).toInt32)))), (a 33, aS ta 16 gna), (a 38, aS ta 192 gto), (a 41, aS ta 256 gke), (a 42, aS ta 16 gow), (a 43, aS ta 16 gth), (a 44, aS ta 16 gck), (a 36, aK ta 2 ru), (a 37, aK ta 2 le), (a 39, aK ta 2 se)] H := hP
              have hD : va_D A [(h0, oM a ar mn tp osz 0 ns ct), (a 0, aK ta 64 tIP), (a 1, aK ta 48 tSPR), (a 2, aK ta 32 tMIX), (a 3, aK ta 56 tCH), (a 4, aK ta 48 tSEC), (a 5, aK ta 512 tSBX), (a 10, aB ta 64 bi), (a 11, aB ta 64 tu), (a 12, aB ta 56 cd), (a 13, aB ta 768 sk), (a 14, aB ta 32 hf), (a 15, aB ta 48 wd), (a 22, aS ta 700 gm), (a 24, aS ta 16 mac), (a 53, aS ta 16 gbl), (a 52, aS ta 3 gnu), (a 51, aS ta 8 (qU p' k1x (qlo ((h9 >>> ((nI (56 - (8 * k1x))).toInt64 &&& 63)).toInt32)))), (a 33, aS ta 16 gna), (a 38, aS ta 192 gto), (a 41, aS ta 256 gke), (a 42, aS ta 16 gow), (a 43, aS ta 16 gth), (a 44, aS ta 16 gck), (a 36, aK ta 2 ru), (a 37, aK ta 2 le), (a 39, aK ta 2 se)] := hD
              refine lv_iinc (pc := 71) (v := nI (k1x + 1)) (lv' := [(3, .int (nI (k1x + 1))), (0, .ref h0), (1, .long h9)]) hx hb dX10_start_71 hl (k := 0) rfl (by first | exact nI_add k1x 1 | rfl) (by decide) rfl (fun ls hl => ?_)
              refine lv_goto (pc := 74) (tgt := 48) hx hb dX10_start_74 (by decide) ?_
              exact ih48 (k1x + 1) (qU p' k1x (qlo ((h9 >>> ((nI (56 - (8 * k1x))).toInt64 &&& 63)).toInt32))) (by omega) (qSeg_s hs1 (by omega) (host_b (by omega))) (by omega) _ _ (hP.sub [0, 1, 2, 3, 4, 5, 6, 7, 8, 9, 10, 11, 12, 13, 14, 15, 16, 17, 18, 19, 20, 21, 22, 23, 24, 25, 26] rfl) (hD.sub [0, 1, 2, 3, 4, 5, 6, 7, 8, 9, 10, 11, 12, 13, 14, 15, 16, 17, 18, 19, 20, 21, 22, 23, 24, 25, 26] (by decide) rfl) hS ls (lv_sub hl [0, 1, 2] rfl)
        exact LP48 _ 0 ghs (by omega) (qSeg_0) (Nat.lt_succ_self _) _ _ (hP.sub [0, 1, 2, 3, 4, 5, 6, 7, 8, 9, 10, 11, 12, 13, 14, 15, 16, 17, 18, 19, 20, 21, 22, 23, 24, 25, 26] rfl) (hD.sub [0, 1, 2, 3, 4, 5, 6, 7, 8, 9, 10, 11, 12, 13, 14, 15, 16, 17, 18, 19, 20, 21, 22, 23, 24, 25, 26] (by decide) rfl) hS ls (lv_sub hl [0, 1, 2] rfl)
      · skip
        rw [nI_eq (by omega) (by omega)] at c_3
        exfalso; omega
set_option maxHeartbeats 4000000 in
set_option maxRecDepth 100000 in
theorem ct_X10_start_3 (ll : Launch) (D : va_G) (ta : Nat → ClassId) {G : (Nat → Prop) → State → Heap → Prop} (hGok : GOK G) (h0 : Nat) (a : Nat → Nat) (ar : Nat) (mn : Nat) (tp : Nat) (osz : Nat) (lsz : Nat) (ns : Nat) (ct : Nat) (rk : Nat → BitVec 8) (ce : Nat → BitVec 8) (gm : Nat → BitVec 8) (mac : Nat → BitVec 8) (k1 : Nat → BitVec 8) (gov : Nat → BitVec 8) (gnu : Nat → BitVec 8) (ghs : Nat → BitVec 8) (gna : Nat → BitVec 8) (gto : Nat → BitVec 8) (gke : Nat → BitVec 8) (gow : Nat → BitVec 8) (gth : Nat → BitVec 8) (gck : Nat → BitVec 8) (ru : Nat → Nat) (le : Nat → Nat) (se : Nat → Nat) (h9 : Int64) (hru0 : ru 0 = 3) (hru1 : ru 1 = 3) (hle0 : le 0 = le 1) (hns : ns ≤ 16) (hct : ct ≤ 16777215) (hle : le 1 = 16 ∨ le 1 = 24 ∨ le 1 = 32) (sz : Nat) : CT ll yX10_start cX10_start 6 (some .int) ({ frames := 7, cells := 0, slots := 0, locals := 179 } : Room) D ta G [.ref h0, .long h9] [(h0, oM a ar mn tp osz lsz ns ct), (a 8, aZ ta 256 BOX), (a 9, aZ ta 256 UBOX), (a 16, aS ta 240 rk), (a 18, aS ta 16 ce), (a 22, aS ta 700 gm), (a 24, aS ta 16 mac), (a 25, aS ta 16 k1), (a 26, aS ta 120 gov), (a 52, aS ta 3 gnu), (a 51, aS ta 8 ghs), (a 33, aS ta 16 gna), (a 38, aS ta 192 gto), (a 41, aS ta 256 gke), (a 42, aS ta 16 gow), (a 43, aS ta 16 gth), (a 44, aS ta 16 gck), (a 36, aK ta 2 ru), (a 37, aK ta 2 le), (a 39, aK ta 2 se)] sz (S := (Nat → BitVec 8) × (Nat → BitVec 8) × (Nat → BitVec 8) × (Nat → BitVec 8) × (Nat → BitVec 8) × (Nat → BitVec 8) × (Nat → BitVec 8) × (Nat → BitVec 8) × (Nat → BitVec 8) × (Nat → BitVec 8) × (Nat → BitVec 8) × (Nat → BitVec 8) × (Nat → Nat) × Bool × Nat × Nat) (fun u => some (.int (qb u.2.2.2.2.2.2.2.2.2.2.2.2.2.1))) (fun u => (u.2.2.2.2.2.2.2.2.2.2.2.2.2.1 = decide (seg u.2.2.2.2.2.2.2.2.2.1 0 8 = seg u.2.2.2.2.2.2.2.2.2.1 8 8)) ∧ (u.2.2.2.2.2.2.2.2.2.2.2.2.1 0 = if u.2.2.2.2.2.2.2.2.2.2.2.2.2.1 then 1 else 0) ∧ (u.2.2.2.2.2.2.2.2.2.2.2.2.1 1 = 1) ∧ (seg u.2.2.2.2.2.2.2.2.2.2.2.1 8 8 = kdfL (seg gto 96 (le 1)) 2 8 (qNum (nI ct).toInt64 3 ++ qL gna ns)) ∧ (seg u.2.2.2.2.2.2.2.2.2.2.2.1 0 8 = seg u.2.2.2.2.2.2.2.2.2.2.2.1 8 8) ∧ (seg u.2.2.2.2.2.2.2.2.1 0 (le 0) = kdfL (seg gto 0 (le 0)) 4 (le 0) (qNum h9 8 ++ seg u.2.2.2.2.2.2.2.2.2.2.2.1 8 8)) ∧ (seg u.2.2.2.2.2.2.2.2.1 32 (le 0) = (kdfL (seg gto 32 (le 0)) 6 (le 0) (qNum h9 8 ++ seg u.2.2.2.2.2.2.2.2.2.2.2.1 8 8))) ∧ (seg u.2.2.2.2.2.2.2.2.1 64 (le 0) = kdfL (seg gto 32 (le 0)) 7 (le 0) (qNum h9 8 ++ seg u.2.2.2.2.2.2.2.2.2.2.2.1 8 8)) ∧ (seg u.2.2.2.2.2.2.2.2.1 96 (le 0) = seg gto 64 (le 0)) ∧ (seg u.2.2.2.2.2.2.2.2.2.1 0 8 = kdfL (kdfL (seg gto 32 (le 0)) 6 (le 0) (qNum h9 8 ++ seg u.2.2.2.2.2.2.2.2.2.2.2.1 8 8)) 0 8 (qNum h9 8 ++ seg u.2.2.2.2.2.2.2.2.2.2.2.1 8 8)) ∧ (seg u.2.2.2.2.2.2.2.2.2.2.1 0 8 = kdfL (kdfL (seg gto 32 (le 0)) 6 (le 0) (qNum h9 8 ++ seg u.2.2.2.2.2.2.2.2.2.2.2.1 8 8)) 1 8 (qNum h9 8 ++ seg u.2.2.2.2.2.2.2.2.2.2.2.1 8 8)) ∧ (seg u.2.2.2.2.2.2.2.2.1 128 (le 1) = kdfL (seg gto 96 (le 1)) 4 (le 1) (qNum h9 8 ++ seg u.2.2.2.2.2.2.2.2.2.2.2.1 8 8)) ∧ (seg u.2.2.2.2.2.2.2.2.1 160 (le 1) = (kdfL (seg gto 128 (le 1)) 6 (le 1) (qNum h9 8 ++ seg u.2.2.2.2.2.2.2.2.2.2.2.1 8 8))) ∧ (seg u.2.2.2.2.2.2.2.2.1 192 (le 1) = kdfL (seg gto 128 (le 1)) 7 (le 1) (qNum h9 8 ++ seg u.2.2.2.2.2.2.2.2.2.2.2.1 8 8)) ∧ (seg u.2.2.2.2.2.2.2.2.1 224 (le 1) = seg gto 160 (le 1)) ∧ (seg u.2.2.2.2.2.2.2.2.2.1 8 8 = kdfL (kdfL (seg gto 128 (le 1)) 6 (le 1) (qNum h9 8 ++ seg u.2.2.2.2.2.2.2.2.2.2.2.1 8 8)) 0 8 (qNum h9 8 ++ seg u.2.2.2.2.2.2.2.2.2.2.2.1 8 8)) ∧ (seg u.2.2.2.2.2.2.2.2.2.2.1 8 8 = kdfL (kdfL (seg gto 128 (le 1)) 6 (le 1) (qNum h9 8 ++ seg u.2.2.2.2.2.2.2.2.2.2.2.1 8 8)) 1 8 (qNum h9 8 ++ seg u.2.2.2.2.2.2.2.2.2.2.2.1 8 8))) (fun u => [(h0, oM a u.2.2.2.2.2.2.2.2.2.2.2.2.2.2.2 u.2.2.2.2.2.2.2.2.2.2.2.2.2.2.1 tp osz 0 ns ct), (a 8, aZ ta 256 BOX), (a 9, aZ ta 256 UBOX), (a 16, aS ta 240 u.1), (a 18, aS ta 16 u.2.1), (a 22, aS ta 700 u.2.2.1), (a 24, aS ta 16 u.2.2.2.1), (a 25, aS ta 16 u.2.2.2.2.1), (a 26, aS ta 120 u.2.2.2.2.2.1), (a 52, aS ta 3 u.2.2.2.2.2.2.1), (a 51, aS ta 8 u.2.2.2.2.2.2.2.1), (a 33, aS ta 16 gna), (a 38, aS ta 192 gto), (a 41, aS ta 256 u.2.2.2.2.2.2.2.2.1), (a 42, aS ta 16 u.2.2.2.2.2.2.2.2.2.1), (a 43, aS ta 16 u.2.2.2.2.2.2.2.2.2.2.1), (a 44, aS ta 16 u.2.2.2.2.2.2.2.2.2.2.2.1), (a 36, aK ta 2 ru), (a 37, aK ta 2 le), (a 39, aK ta 2 u.2.2.2.2.2.2.2.2.2.2.2.2.1)]) 0 0 := by
  refine CT.of_i (r := fun u => qb u.2.2.2.2.2.2.2.2.2.2.2.2.2.1) rfl (by decide) (Nat.le_of_ble_eq_true rfl) ?_
  intro pp ee ss mm below meth kc A Q hx hb hml hown hin hts hK hA hsz hG hret H locs hP hD hS ls hl
  have hl : lv_has ls 6 [(0, .ref h0), (1, .long h9)] := hl
  refine lv_aload_n (pc := 0) hx hb dX10_start_0 rfl (lv_at hl 0 rfl) ?_
  refine va_get (pc := 1) (D := D) (ci := 8) (v := .ref (a 36)) (C := RX10) (T := TX10) (N := 57) hx hb hts iu10 hown hK hP 0 rfl rfl 36 (by decide) (hts _ tw_1081) (fun _ h9 => h9) rfl dX10_start_1 ?_
  refine lv_iconst (pc := 4) (v := nI 0) hx hb dX10_start_4 (by decide +kernel) ?_
  refine q_iald (pc := 5) hx hb hK hP 17 0 rfl rfl (k := 0) (v := nI (ru 0)) rfl (by omega) (by omega) rfl dX10_start_5 ?_
  refine lv_if_eq (pc := 6) (tgt := 39) hx hb dX10_start_6 (by decide) (fun c_1 => ?_) (fun c_1 => ?_)
  · skip
    rw [q_eq0 (by omega)] at c_1
    exfalso; omega
  · skip
    rw [q_eq0 (by omega)] at c_1
    refine lv_aload_n (pc := 9) hx hb dX10_start_9 rfl (lv_at hl 0 rfl) ?_
    refine va_get (pc := 10) (D := D) (ci := 8) (v := .ref (a 36)) (C := RX10) (T := TX10) (N := 57) hx hb hts iu10 hown hK hP 0 rfl rfl 36 (by decide) (hts _ tw_1081) (fun _ h9 => h9) rfl dX10_start_10 ?_
    refine lv_iconst (pc := 13) (v := nI 0) hx hb dX10_start_13 (by decide +kernel) ?_
    refine q_iald (pc := 14) hx hb hK hP 17 0 rfl rfl (k := 0) (v := nI (ru 0)) rfl (by omega) (by omega) rfl dX10_start_14 ?_
    refine lv_aload_n (pc := 15) hx hb dX10_start_15 rfl (lv_at hl 0 rfl) ?_
    refine va_get (pc := 16) (D := D) (ci := 8) (v := .ref (a 36)) (C := RX10) (T := TX10) (N := 57) hx hb hts iu10 hown hK hP 0 rfl rfl 36 (by decide) (hts _ tw_1081) (fun _ h9 => h9) rfl dX10_start_16 ?_
    refine lv_iconst (pc := 19) (v := nI 1) hx hb dX10_start_19 (by decide +kernel) ?_
    refine q_iald (pc := 20) hx hb hK hP 17 0 rfl rfl (k := 1) (v := nI (ru 1)) rfl (by omega) (by omega) rfl dX10_start_20 ?_
    refine lv_icmp_ne (pc := 21) (tgt := 39) hx hb dX10_start_21 (by decide) (fun c_2 => ?_) (fun c_2 => ?_)
    · skip
      rw [nI_eq (by omega) (by omega)] at c_2
      exfalso; omega
    · skip
      rw [nI_eq (by omega) (by omega)] at c_2
      refine lv_aload_n (pc := 24) hx hb dX10_start_24 rfl (lv_at hl 0 rfl) ?_
      refine va_get (pc := 25) (D := D) (ci := 8) (v := .ref (a 37)) (C := RX10) (T := TX10) (N := 57) hx hb hts iu10 hown hK hP 0 rfl rfl 37 (by decide) (hts _ tw_1082) (fun _ h9 => h9) rfl dX10_start_25 ?_
      refine lv_iconst (pc := 28) (v := nI 0) hx hb dX10_start_28 (by decide +kernel) ?_
      refine q_iald (pc := 29) hx hb hK hP 18 0 rfl rfl (k := 0) (v := nI (le 0)) rfl (by omega) (by omega) rfl dX10_start_29 ?_
      refine lv_aload_n (pc := 30) hx hb dX10_start_30 rfl (lv_at hl 0 rfl) ?_
      refine va_get (pc := 31) (D := D) (ci := 8) (v := .ref (a 37)) (C := RX10) (T := TX10) (N := 57) hx hb hts iu10 hown hK hP 0 rfl rfl 37 (by decide) (hts _ tw_1082) (fun _ h9 => h9) rfl dX10_start_31 ?_
      refine lv_iconst (pc := 34) (v := nI 1) hx hb dX10_start_34 (by decide +kernel) ?_
      refine q_iald (pc := 35) hx hb hK hP 18 0 rfl rfl (k := 1) (v := nI (le 1)) rfl (by omega) (by omega) rfl dX10_start_35 ?_
      refine lv_icmp_eq (pc := 36) (tgt := 41) hx hb dX10_start_36 (by decide) (fun c_3 => ?_) (fun c_3 => ?_)
      · skip
        rw [nI_eq (by omega) (by omega)] at c_3
        refine lv_aload_n (pc := 41) hx hb dX10_start_41 rfl (lv_at hl 0 rfl) ?_
        refine lv_iconst (pc := 42) (v := nI 0) hx hb dX10_start_42 (by decide +kernel) ?_
        refine va_put (pc := 43) (D := D) (ci := 8) (v := .int (nI 0)) (ty := .int) (C := RX10) (T := TX10) (N := 57) hx hb hts iu10 tyX10 tyX10_ok nmX10 hown hK hP hD hS 0 rfl rfl 32 (by decide) (hts _ tw_1077) (fun _ h9 => h9) rfl (by decide +kernel) rfl rfl (Nat.le_of_ble_eq_true rfl) dX10_start_43 (fun H locs hP hD hS => ?_)
        have hP : va_P D vwCl [(h0, oM a ar mn tp osz 0 ns ct), (a 8, aZ ta 256 BOX), (a 9, aZ ta 256 UBOX), (a 16, aS ta 240 rk), (a 18, aS ta 16 ce), (a 22, aS ta 700 gm), (a 24, aS ta 16 mac), (a 25, aS ta 16 k1), (a 26, aS ta 120 gov), (a 52, aS ta 3 gnu), (a 51, aS ta 8 ghs), (a 33, aS ta 16 gna), (a 38, aS ta 192 gto), (a 41, aS ta 256 gke), (a 42, aS ta 16 gow), (a 43, aS ta 16 gth), (a 44, aS ta 16 gck), (a 36, aK ta 2 ru), (a 37, aK ta 2 le), (a 39, aK ta 2 se)] H := hP
        have hD : va_D A [(h0, oM a ar mn tp osz 0 ns ct), (a 8, aZ ta 256 BOX), (a 9, aZ ta 256 UBOX), (a 16, aS ta 240 rk), (a 18, aS ta 16 ce), (a 22, aS ta 700 gm), (a 24, aS ta 16 mac), (a 25, aS ta 16 k1), (a 26, aS ta 120 gov), (a 52, aS ta 3 gnu), (a 51, aS ta 8 ghs), (a 33, aS ta 16 gna), (a 38, aS ta 192 gto), (a 41, aS ta 256 gke), (a 42, aS ta 16 gow), (a 43, aS ta 16 gth), (a 44, aS ta 16 gck), (a 36, aK ta 2 ru), (a 37, aK ta 2 le), (a 39, aK ta 2 se)] := hD
        refine lv_iconst (pc := 46) (v := nI 0) hx hb dX10_start_46 (by decide +kernel) ?_
        refine lv_istore_n (pc := 47) (lv' := [(3, .int (nI 0)), (0, .ref h0), (1, .long h9)]) hx hb dX10_start_47 rfl hl (by decide) rfl (fun ls hl => ?_)
        have LP48 : ∀ (nn48 : Nat) (k1x : Nat) (p' : Nat → BitVec 8), (k1x ≤ 8) → (qSeg p' ghs 0 k1x ((fun j => qN h9 (7 - j)))) → (8 - k1x < nn48) → ∀ (H : Heap) (locs : List Loc), va_P D vwCl [(h0, oM a ar mn tp osz 0 ns ct), (a 8, aZ ta 256 BOX), (a 9, aZ ta 256 UBOX), (a 16, aS ta 240 rk), (a 18, aS ta 16 ce), (a 22, aS ta 700 gm), (a 24, aS ta 16 mac), (a 25, aS ta 16 k1), (a 26, aS ta 120 gov), (a 52, aS ta 3 gnu), (a 51, aS ta 8 p'), (a 33, aS ta 16 gna), (a 38, aS ta 192 gto), (a 41, aS ta 256 gke), (a 42, aS ta 16 gow), (a 43, aS ta 16 gth), (a 44, aS ta 16 gck), (a 36, aK ta 2 ru), (a 37, aK ta 2 le), (a 39, aK ta 2 se)] H → va_D A [(h0, oM a ar mn tp osz 0 ns ct), (a 8, aZ ta 256 BOX), (a 9, aZ ta 256 UBOX), (a 16, aS ta 240 rk), (a 18, aS ta 16 ce), (a 22, aS ta 700 gm), (a 24, aS ta 16 mac), (a 25, aS ta 16 k1), (a 26, aS ta 120 gov), (a 52, aS ta 3 gnu), (a 51, aS ta 8 p'), (a 33, aS ta 16 gna), (a 38, aS ta 192 gto), (a 41, aS ta 256 gke), (a 42, aS ta 16 gow), (a 43, aS ta 16 gth), (a 44, aS ta 16 gck), (a 36, aK ta 2 ru), (a 37, aK ta 2 le), (a 39, aK ta 2 se)] → va_S A ss.heap H locs → ∀ ls : Array Slot, lv_has ls 6 [(3, .int (nI k1x)), (0, .ref h0), (1, .long h9)] → W pp ll ee ({ frames := 7, cells := 0, slots := 0, locals := 179 } : Room) ss mm (([.ref h0, .long h9] : List Value).toArray) below meth kc H locs 0 0 Q (F0 mm 48 ls []) := by
          intro nn48
          induction nn48 with
          | zero => intro k1x p' hkk1 hs1 hmu; exact absurd hmu (Nat.not_lt_zero _)
          | succ nn48 ih48 =>
            intro k1x p' hkk1 hs1 hmu48 H locs hP hD hS ls hl
            refine lv_iload_n (pc := 48) hx hb dX10_start_48 rfl (lv_at hl 0 rfl) ?_
            refine lv_bipush (pc := 49) (v := nI 8) hx hb dX10_start_49 (by decide +kernel) ?_
            refine lv_icmp_ge (pc := 51) (tgt := 77) hx hb dX10_start_51 (by decide) (fun c_4 => ?_) (fun c_4 => ?_)
            · skip
              rw [nI_leI (by omega) (by omega)] at c_4
              refine lv_aload_n (pc := 77) hx hb dX10_start_77 rfl (lv_at hl 1 rfl) ?_
              refine va_get (pc := 78) (D := D) (ci := 8) (v := .ref (a 36)) (C := RX10) (T := TX10) (N := 57) hx hb hts iu10 hown hK hP 0 rfl rfl 36 (by decide) (hts _ tw_1081) (fun _ h9 => h9) rfl dX10_start_78 ?_
              refine lv_iconst (pc := 81) (v := nI 0) hx hb dX10_start_81 (by decide +kernel) ?_
              refine q_iald (pc := 82) hx hb hK hP 17 0 rfl rfl (k := 0) (v := nI (ru 0)) rfl (by omega) (by omega) rfl dX10_start_82 ?_
              refine lv_iconst (pc := 83) (v := nI 2) hx hb dX10_start_83 (by decide +kernel) ?_
              refine lv_icmp_ne (pc := 84) (tgt := 91) hx hb dX10_start_84 (by decide) (fun c_5 => ?_) (fun c_5 => ?_)
              · skip
                rw [nI_eq (by omega) (by omega)] at c_5
                refine lv_iconst (pc := 91) (v := nI 3) hx hb dX10_start_91 (by decide +kernel) ?_
                refine lv_istore_n (pc := 92) (lv' := [(3, .int (nI 3)), (0, .ref h0), (1, .long h9)]) hx hb dX10_start_92 rfl hl (by decide) rfl (fun ls hl => ?_)
                refine lv_iconst (pc := 93) (v := nI 0) hx hb dX10_start_93 (by decide +kernel) ?_
                refine lv_istore (pc := 94) (lv' := [(4, .int (nI 0)), (3, .int (nI 3)), (0, .ref h0), (1, .long h9)]) hx hb dX10_start_94 hl (by decide) rfl (fun ls hl => ?_)
                have LP96 : ∀ (nn96 : Nat) (k2x : Nat) (n' : Nat → BitVec 8), (k2x ≤ 3) → (qSeg n' gnu 0 k2x ((fun j => qN (nI ct).toInt64 (2 - j)))) → (3 - k2x < nn96) → ∀ (H : Heap) (locs : List Loc), va_P D vwCl [(h0, oM a ar mn tp osz 0 ns ct), (a 8, aZ ta 256 BOX), (a 9, aZ ta 256 UBOX), (a 16, aS ta 240 rk), (a 18, aS ta 16 ce), (a 22, aS ta 700 gm), (a 24, aS ta 16 mac), (a 25, aS ta 16 k1), (a 26, aS ta 120 gov), (a 52, aS ta 3 n'), (a 51, aS ta 8 p'), (a 33, aS ta 16 gna), (a 38, aS ta 192 gto), (a 41, aS ta 256 gke), (a 42, aS ta 16 gow), (a 43, aS ta 16 gth), (a 44, aS ta 16 gck), (a 36, aK ta 2 ru), (a 37, aK ta 2 le), (a 39, aK ta 2 se)] H → va_D A [(h0, oM a ar mn tp osz 0 ns ct), (a 8, aZ ta 256 BOX), (a 9, aZ ta 256 UBOX), (a 16, aS ta 240 rk), (a 18, aS ta 16 ce), (a 22, aS ta 700 gm), (a 24, aS ta 16 mac), (a 25, aS ta 16 k1), (a 26, aS ta 120 gov), (a 52, aS ta 3 n'), (a 51, aS ta 8 p'), (a 33, aS ta 16 gna), (a 38, aS ta 192 gto), (a 41, aS ta 256 gke), (a 42, aS ta 16 gow), (a 43, aS ta 16 gth), (a 44, aS ta 16 gck), (a 36, aK ta 2 ru), (a 37, aK ta 2 le), (a 39, aK ta 2 se)] → va_S A ss.heap H locs → ∀ ls : Array Slot, lv_has ls 6 [(4, .int (nI k2x)), (3, .int (nI 3)), (0, .ref h0), (1, .long h9)] → W pp ll ee ({ frames := 7, cells := 0, slots := 0, locals := 179 } : Room) ss mm (([.ref h0, .long h9] : List Value).toArray) below meth kc H locs 0 0 Q (F0 mm 96 ls []) := by
                  intro nn96
                  induction nn96 with
                  | zero => intro k2x n' hkk2 hs2 hmu; exact absurd hmu (Nat.not_lt_zero _)
                  | succ nn96 ih96 =>
                    intro k2x n' hkk2 hs2 hmu96 H locs hP hD hS ls hl
                    refine lv_iload (pc := 96) hx hb dX10_start_96 (lv_at hl 0 rfl) ?_
                    refine lv_iload_n (pc := 98) hx hb dX10_start_98 rfl (lv_at hl 1 rfl) ?_
                    refine lv_icmp_ge (pc := 99) (tgt := 130) hx hb dX10_start_99 (by decide) (fun c_6 => ?_) (fun c_6 => ?_)
                    · skip
                      rw [nI_leI (by omega) (by omega)] at c_6
                      refine lv_aload_n (pc := 130) hx hb dX10_start_130 rfl (lv_at hl 2 rfl) ?_
                      refine lv_iconst (pc := 131) (v := nI 1) hx hb dX10_start_131 (by decide +kernel) ?_
                      refine lv_iconst (pc := 132) (v := nI 1) hx hb dX10_start_132 (by decide +kernel) ?_
                      refine cs_V (pc := 133) (idx := 350) (n := 2) (wr := [(a 39, aK ta 2 se)]) (As := [.int (nI 1), .int (nI 1)]) (rest := []) (ci := 8) hx hb hml hown hts hGok hK hA hG hl.1 hP hD hS (ct_X10_make_31 ll D ta hGok h0 a ar mn tp osz 0 ns ct rk ce gm mac k1 gov n' p' gna gto gke gow gth gck ru le 1 (by first | assumption | omega | rfl | decide) (by first | assumption | omega | rfl | decide) (by first | assumption | omega | rfl | decide) (by first | assumption | omega | rfl | decide) H.size) tw_1282 tw_1279 tw_1281 tw_30 tw_75 hdX10_make rfl ⟨rfl, rfl, Nat.le_of_ble_eq_true rfl, Nat.le_of_ble_eq_true rfl, Nat.le_of_ble_eq_true rfl, Nat.le_of_ble_eq_true rfl⟩ rfl rfl (q0 := 0) rfl [0, 1, 2, 3, 4, 5, 6, 7, 8, 9, 10, 11, 12, 13, 14, 15, 16, 17, 18] [19] rfl rfl (by decide) rfl (Nat.le_of_ble_eq_true rfl) dX10_start_133 (fun u H locs hq hP hD hS => ?_)
                      obtain ⟨rk1_133, ce1_133, gm1_133, mac1_133, k11_133, gov1_133, gke1_133, gow1_133, gth1_133, gck1_133, mn1_133, ar1_133⟩ := u
                      have hq : (seg gke1_133 (128 * 1) (le 1) = kdfL (seg gto (96 * 1) (le 1)) 4 (le 1) (qL p' 8 ++ seg gck1_133 (8 * 1) 8)) ∧ (seg gke1_133 (128 * 1 + 32) (le 1) = kdfL (seg gto (96 * 1 + 32) (le 1)) 6 (le 1) (qL p' 8 ++ seg gck1_133 (8 * 1) 8)) ∧ (seg gke1_133 (128 * 1 + 64) (le 1) = kdfL (seg gto (96 * 1 + 32) (le 1)) 7 (le 1) (qL p' 8 ++ seg gck1_133 (8 * 1) 8)) ∧ (seg gke1_133 (128 * 1 + 96) (le 1) = seg gto (96 * 1 + 64) (le 1)) ∧ (∀ jz, (jz < 128 * 1 ∨ 128 * 1 + 128 ≤ jz) → gke1_133 jz = gke jz) ∧ (seg gck1_133 (8 * 1) 8 = kdfL (seg gto (96 * 1) (le 1)) 2 8 (qL n' 3 ++ qL gna ns)) ∧ (∀ jz, (jz < 8 * 1 ∨ 8 * 1 + 8 ≤ jz) → gck1_133 jz = gck jz) ∧ (seg gow1_133 (8 * 1) 8 = kdfL (kdfL (seg gto (96 * 1 + 32) (le 1)) 6 (le 1) (qL p' 8 ++ seg gck1_133 (8 * 1) 8)) 0 8 (qL p' 8 ++ seg gck1_133 (8 * 1) 8)) ∧ (∀ jz, (jz < 8 * 1 ∨ 8 * 1 + 8 ≤ jz) → gow1_133 jz = gow jz) ∧ (seg gth1_133 (8 * 1) 8 = kdfL (kdfL (seg gto (96 * 1 + 32) (le 1)) 6 (le 1) (qL p' 8 ++ seg gck1_133 (8 * 1) 8)) 1 8 (qL p' 8 ++ seg gck1_133 (8 * 1) 8)) ∧ (∀ jz, (jz < 8 * 1 ∨ 8 * 1 + 8 ≤ jz) → gth1_133 jz = gth jz) := hq
                      obtain ⟨hE_133, hM_133, hB_133, hS9_133, hfk_133, hc_133, hfc_133, hO_133, hfo_133, hT9_133, hft_133⟩ := hq
                      refine W.eq (g2 := F0 mm 136 ls []) rfl ?_
                      have hP : va_P D vwCl [(a 39, aK ta 2 se), (h0, oM a ar1_133 mn1_133 tp osz 0 ns ct), (a 8, aZ ta 256 BOX), (a 9, aZ ta 256 UBOX), (a 16, aS ta 240 rk1_133), (a 18, aS ta 16 ce1_133), (a 22, aS ta 700 gm1_133), (a 24, aS ta 16 mac1_133), (a 25, aS ta 16 k11_133), (a 26, aS ta 120 gov1_133), (a 52, aS ta 3 n'), (a 51, aS ta 8 p'), (a 33, aS ta 16 gna), (a 38, aS ta 192 gto), (a 41, aS ta 256 gke1_133), (a 42, aS ta 16 gow1_133), (a 43, aS ta 16 gth1_133), (a 44, aS ta 16 gck1_133), (a 36, aK ta 2 ru), (a 37, aK ta 2 le)] H := hP
                      have hD : va_D A [(a 39, aK ta 2 se), (h0, oM a ar1_133 mn1_133 tp osz 0 ns ct), (a 8, aZ ta 256 BOX), (a 9, aZ ta 256 UBOX), (a 16, aS ta 240 rk1_133), (a 18, aS ta 16 ce1_133), (a 22, aS ta 700 gm1_133), (a 24, aS ta 16 mac1_133), (a 25, aS ta 16 k11_133), (a 26, aS ta 120 gov1_133), (a 52, aS ta 3 n'), (a 51, aS ta 8 p'), (a 33, aS ta 16 gna), (a 38, aS ta 192 gto), (a 41, aS ta 256 gke1_133), (a 42, aS ta 16 gow1_133), (a 43, aS ta 16 gth1_133), (a 44, aS ta 16 gck1_133), (a 36, aK ta 2 ru), (a 37, aK ta 2 le)] := hD
                      refine lv_aload_n (pc := 136) hx hb dX10_start_136 rfl (lv_at hl 2 rfl) ?_
                      refine va_get (pc := 137) (D := D) (ci := 8) (v := .ref (a 39)) (C := RX10) (T := TX10) (N := 57) hx hb hts iu10 hown hK hP 1 rfl rfl 39 (by decide) (hts _ tw_1084) (fun _ h9 => h9) rfl dX10_start_137 ?_
                      refine lv_iconst (pc := 140) (v := nI 1) hx hb dX10_start_140 (by decide +kernel) ?_
                      refine lv_iconst (pc := 141) (v := nI 1) hx hb dX10_start_141 (by decide +kernel) ?_
                      refine q_iastK (pc := 142) hx hb hK hP hD hS 0 0 rfl rfl (k := 1) rfl (by omega) (by omega) (b := 1) rfl dX10_start_142 (fun H locs hP hD hS => ?_)
                      have hP : va_P D vwCl [(a 39, aK ta 2 (qU se 1 1)), (h0, oM a ar1_133 mn1_133 tp osz 0 ns ct), (a 8, aZ ta 256 BOX), (a 9, aZ ta 256 UBOX), (a 16, aS ta 240 rk1_133), (a 18, aS ta 16 ce1_133), (a 22, aS ta 700 gm1_133), (a 24, aS ta 16 mac1_133), (a 25, aS ta 16 k11_133), (a 26, aS ta 120 gov1_133), (a 52, aS ta 3 n'), (a 51, aS ta 8 p'), (a 33, aS ta 16 gna), (a 38, aS ta 192 gto), (a 41, aS ta 256 gke1_133), (a 42, aS ta 16 gow1_133), (a 43, aS ta 16 gth1_133), (a 44, aS ta 16 gck1_133), (a 36, aK ta 2 ru), (a 37, aK ta 2 le)] H := hP
                      have hD : va_D A [(a 39, aK ta 2 (qU se 1 1)), (h0, oM a ar1_133 mn1_133 tp osz 0 ns ct), (a 8, aZ ta 256 BOX), (a 9, aZ ta 256 UBOX), (a 16, aS ta 240 rk1_133), (a 18, aS ta 16 ce1_133), (a 22, aS ta 700 gm1_133), (a 24, aS ta 16 mac1_133), (a 25, aS ta 16 k11_133), (a 26, aS ta 120 gov1_133), (a 52, aS ta 3 n'), (a 51, aS ta 8 p'), (a 33, aS ta 16 gna), (a 38, aS ta 192 gto), (a 41, aS ta 256 gke1_133), (a 42, aS ta 16 gow1_133), (a 43, aS ta 16 gth1_133), (a 44, aS ta 16 gck1_133), (a 36, aK ta 2 ru), (a 37, aK ta 2 le)] := hD
                      refine lv_iconst (pc := 143) (v := nI 0) hx hb dX10_start_143 (by decide +kernel) ?_
                      refine lv_istore (pc := 144) (lv' := [(4, .int (nI 0)), (3, .int (nI 3)), (0, .ref h0), (1, .long h9)]) hx hb dX10_start_144 hl (by decide) rfl (fun ls hl => ?_)
                      have LP146 : ∀ (nn146 : Nat) (k3x : Nat) (c' : Nat → BitVec 8), (k3x ≤ 8) → (qSeg c' gck1_133 0 k3x ((fun j => gck1_133 (8 + j)))) → (8 - k3x < nn146) → ∀ (H : Heap) (locs : List Loc), va_P D vwCl [(a 39, aK ta 2 (qU se 1 1)), (h0, oM a ar1_133 mn1_133 tp osz 0 ns ct), (a 8, aZ ta 256 BOX), (a 9, aZ ta 256 UBOX), (a 16, aS ta 240 rk1_133), (a 18, aS ta 16 ce1_133), (a 22, aS ta 700 gm1_133), (a 24, aS ta 16 mac1_133), (a 25, aS ta 16 k11_133), (a 26, aS ta 120 gov1_133), (a 52, aS ta 3 n'), (a 51, aS ta 8 p'), (a 33, aS ta 16 gna), (a 38, aS ta 192 gto), (a 41, aS ta 256 gke1_133), (a 42, aS ta 16 gow1_133), (a 43, aS ta 16 gth1_133), (a 44, aS ta 16 c'), (a 36, aK ta 2 ru), (a 37, aK ta 2 le)] H → va_D A [(a 39, aK ta 2 (qU se 1 1)), (h0, oM a ar1_133 mn1_133 tp osz 0 ns ct), (a 8, aZ ta 256 BOX), (a 9, aZ ta 256 UBOX), (a 16, aS ta 240 rk1_133), (a 18, aS ta 16 ce1_133), (a 22, aS ta 700 gm1_133), (a 24, aS ta 16 mac1_133), (a 25, aS ta 16 k11_133), (a 26, aS ta 120 gov1_133), (a 52, aS ta 3 n'), (a 51, aS ta 8 p'), (a 33, aS ta 16 gna), (a 38, aS ta 192 gto), (a 41, aS ta 256 gke1_133), (a 42, aS ta 16 gow1_133), (a 43, aS ta 16 gth1_133), (a 44, aS ta 16 c'), (a 36, aK ta 2 ru), (a 37, aK ta 2 le)] → va_S A ss.heap H locs → ∀ ls : Array Slot, lv_has ls 6 [(4, .int (nI k3x)), (3, .int (nI 3)), (0, .ref h0), (1, .long h9)] → W pp ll ee ({ frames := 7, cells := 0, slots := 0, locals := 179 } : Room) ss mm (([.ref h0, .long h9] : List Value).toArray) below meth kc H locs 0 0 Q (F0 mm 146 ls []) := by
                        intro nn146
                        induction nn146 with
                        | zero => intro k3x c' hkk3 hs3 hmu; exact absurd hmu (Nat.not_lt_zero _)
                        | succ nn146 ih146 =>
                          intro k3x c' hkk3 hs3 hmu146 H locs hP hD hS ls hl
                          refine lv_iload (pc := 146) hx hb dX10_start_146 (lv_at hl 0 rfl) ?_
                          refine lv_bipush (pc := 148) (v := nI 8) hx hb dX10_start_148 (by decide +kernel) ?_
                          refine lv_icmp_ge (pc := 150) (tgt := 176) hx hb dX10_start_150 (by decide) (fun c_7 => ?_) (fun c_7 => ?_)
                          · skip
                            rw [nI_leI (by omega) (by omega)] at c_7
                            refine lv_aload_n (pc := 176) hx hb dX10_start_176 rfl (lv_at hl 2 rfl) ?_
                            refine lv_iconst (pc := 177) (v := nI 0) hx hb dX10_start_177 (by decide +kernel) ?_
                            refine lv_iconst (pc := 178) (v := nI 0) hx hb dX10_start_178 (by decide +kernel) ?_
                            refine cs_V (pc := 179) (idx := 350) (n := 2) (wr := [(a 39, aK ta 2 (qU se 1 1))]) (As := [.int (nI 0), .int (nI 0)]) (rest := []) (ci := 8) hx hb hml hown hts hGok hK hA hG hl.1 hP hD hS (ct_X10_make_30 ll D ta hGok h0 a ar1_133 mn1_133 tp osz 0 ns ct rk1_133 ce1_133 gm1_133 mac1_133 k11_133 gov1_133 n' p' gna gto gke1_133 gow1_133 gth1_133 c' ru le 0 (by first | assumption | omega | rfl | decide) (by first | assumption | omega | rfl | decide) (by first | assumption | omega | rfl | decide) (by first | assumption | omega | rfl | decide) H.size) tw_1282 tw_1279 tw_1281 tw_30 tw_75 hdX10_make rfl ⟨rfl, rfl, Nat.le_of_ble_eq_true rfl, Nat.le_of_ble_eq_true rfl, Nat.le_of_ble_eq_true rfl, Nat.le_of_ble_eq_true rfl⟩ rfl rfl (q0 := 1) rfl [1, 2, 3, 4, 5, 6, 7, 8, 9, 10, 11, 12, 13, 14, 15, 16, 17, 18, 19] [0] rfl rfl (by decide) rfl (Nat.le_of_ble_eq_true rfl) dX10_start_179 (fun u H locs hq hP hD hS => ?_)
                            obtain ⟨rk1_179, ce1_179, gm1_179, mac1_179, k11_179, gov1_179, gke1_179, gow1_179, gth1_179, mn1_179, ar1_179⟩ := u
                            have hq : (seg gke1_179 (128 * 0) (le 0) = kdfL (seg gto (96 * 0) (le 0)) 4 (le 0) (qL p' 8 ++ seg c' (8 * 0) 8)) ∧ (seg gke1_179 (128 * 0 + 32) (le 0) = kdfL (seg gto (96 * 0 + 32) (le 0)) 6 (le 0) (qL p' 8 ++ seg c' (8 * 0) 8)) ∧ (seg gke1_179 (128 * 0 + 64) (le 0) = kdfL (seg gto (96 * 0 + 32) (le 0)) 7 (le 0) (qL p' 8 ++ seg c' (8 * 0) 8)) ∧ (seg gke1_179 (128 * 0 + 96) (le 0) = seg gto (96 * 0 + 64) (le 0)) ∧ (∀ jz, (jz < 128 * 0 ∨ 128 * 0 + 128 ≤ jz) → gke1_179 jz = gke1_133 jz) ∧ (seg gow1_179 (8 * 0) 8 = kdfL (kdfL (seg gto (96 * 0 + 32) (le 0)) 6 (le 0) (qL p' 8 ++ seg c' (8 * 0) 8)) 0 8 (qL p' 8 ++ seg c' (8 * 0) 8)) ∧ (∀ jz, (jz < 8 * 0 ∨ 8 * 0 + 8 ≤ jz) → gow1_179 jz = gow1_133 jz) ∧ (seg gth1_179 (8 * 0) 8 = kdfL (kdfL (seg gto (96 * 0 + 32) (le 0)) 6 (le 0) (qL p' 8 ++ seg c' (8 * 0) 8)) 1 8 (qL p' 8 ++ seg c' (8 * 0) 8)) ∧ (∀ jz, (jz < 8 * 0 ∨ 8 * 0 + 8 ≤ jz) → gth1_179 jz = gth1_133 jz) := hq
                            obtain ⟨hE_179, hM_179, hB_179, hS9_179, hfk_179, hO_179, hfo_179, hT9_179, hft_179⟩ := hq
                            refine W.eq (g2 := F0 mm 182 ls []) rfl ?_
                            have hP : va_P D vwCl [(a 39, aK ta 2 (qU se 1 1)), (h0, oM a ar1_179 mn1_179 tp osz 0 ns ct), (a 8, aZ ta 256 BOX), (a 9, aZ ta 256 UBOX), (a 16, aS ta 240 rk1_179), (a 18, aS ta 16 ce1_179), (a 22, aS ta 700 gm1_179), (a 24, aS ta 16 mac1_179), (a 25, aS ta 16 k11_179), (a 26, aS ta 120 gov1_179), (a 52, aS ta 3 n'), (a 51, aS ta 8 p'), (a 33, aS ta 16 gna), (a 38, aS ta 192 gto), (a 41, aS ta 256 gke1_179), (a 42, aS ta 16 gow1_179), (a 43, aS ta 16 gth1_179), (a 44, aS ta 16 c'), (a 36, aK ta 2 ru), (a 37, aK ta 2 le)] H := hP
                            have hD : va_D A [(a 39, aK ta 2 (qU se 1 1)), (h0, oM a ar1_179 mn1_179 tp osz 0 ns ct), (a 8, aZ ta 256 BOX), (a 9, aZ ta 256 UBOX), (a 16, aS ta 240 rk1_179), (a 18, aS ta 16 ce1_179), (a 22, aS ta 700 gm1_179), (a 24, aS ta 16 mac1_179), (a 25, aS ta 16 k11_179), (a 26, aS ta 120 gov1_179), (a 52, aS ta 3 n'), (a 51, aS ta 8 p'), (a 33, aS ta 16 gna), (a 38, aS ta 192 gto), (a 41, aS ta 256 gke1_179), (a 42, aS ta 16 gow1_179), (a 43, aS ta 16 gth1_179), (a 44, aS ta 16 c'), (a 36, aK ta 2 ru), (a 37, aK ta 2 le)] := hD
                            refine lv_iconst (pc := 182) (v := nI 1) hx hb dX10_start_182 (by decide +kernel) ?_
                            refine q_top (y := qb true) rfl ?_
                            refine lv_istore (pc := 183) (lv' := [(4, .int (qb true)), (3, .int (nI 3)), (0, .ref h0), (1, .long h9)]) hx hb dX10_start_183 hl (by decide) rfl (fun ls hl => ?_)
                            refine lv_iconst (pc := 185) (v := nI 0) hx hb dX10_start_185 (by decide +kernel) ?_
                            refine lv_istore (pc := 186) (lv' := [(5, .int (nI 0)), (4, .int (qb true)), (3, .int (nI 3)), (0, .ref h0), (1, .long h9)]) hx hb dX10_start_186 hl (by decide) rfl (fun ls hl => ?_)
                            have LP188 : ∀ (nn188 : Nat) (k4 : Nat) (rt : Bool), (k4 ≤ 8) → (rt = decide (∀ j, j < k4 → gow1_179 j = gow1_179 (8 + j))) → (8 - k4 < nn188) → ∀ (H : Heap) (locs : List Loc), va_P D vwCl [(a 39, aK ta 2 (qU se 1 1)), (h0, oM a ar1_179 mn1_179 tp osz 0 ns ct), (a 8, aZ ta 256 BOX), (a 9, aZ ta 256 UBOX), (a 16, aS ta 240 rk1_179), (a 18, aS ta 16 ce1_179), (a 22, aS ta 700 gm1_179), (a 24, aS ta 16 mac1_179), (a 25, aS ta 16 k11_179), (a 26, aS ta 120 gov1_179), (a 52, aS ta 3 n'), (a 51, aS ta 8 p'), (a 33, aS ta 16 gna), (a 38, aS ta 192 gto), (a 41, aS ta 256 gke1_179), (a 42, aS ta 16 gow1_179), (a 43, aS ta 16 gth1_179), (a 44, aS ta 16 c'), (a 36, aK ta 2 ru), (a 37, aK ta 2 le)] H → va_D A [(a 39, aK ta 2 (qU se 1 1)), (h0, oM a ar1_179 mn1_179 tp osz 0 ns ct), (a 8, aZ ta 256 BOX), (a 9, aZ ta 256 UBOX), (a 16, aS ta 240 rk1_179), (a 18, aS ta 16 ce1_179), (a 22, aS ta 700 gm1_179), (a 24, aS ta 16 mac1_179), (a 25, aS ta 16 k11_179), (a 26, aS ta 120 gov1_179), (a 52, aS ta 3 n'), (a 51, aS ta 8 p'), (a 33, aS ta 16 gna), (a 38, aS ta 192 gto), (a 41, aS ta 256 gke1_179), (a 42, aS ta 16 gow1_179), (a 43, aS ta 16 gth1_179), (a 44, aS ta 16 c'), (a 36, aK ta 2 ru), (a 37, aK ta 2 le)] → va_S A ss.heap H locs → ∀ ls : Array Slot, lv_has ls 6 [(5, .int (nI k4)), (4, .int (qb rt)), (3, .int (nI 3)), (0, .ref h0), (1, .long h9)] → W pp ll ee ({ frames := 7, cells := 0, slots := 0, locals := 179 } : Room) ss mm (([.ref h0, .long h9] : List Value).toArray) below meth kc H locs 0 0 Q (F0 mm 188 ls []) := by
                              intro nn188
                              induction nn188 with
                              | zero => intro k4 rt hk4 hrt hmu; exact absurd hmu (Nat.not_lt_zero _)
                              | succ nn188 ih188 =>
                                intro k4 rt hk4 hrt hmu188 H locs hP hD hS ls hl
                                refine lv_iload (pc := 188) hx hb dX10_start_188 (lv_at hl 0 rfl) ?_
                                refine lv_bipush (pc := 190) (v := nI 8) hx hb dX10_start_190 (by decide +kernel) ?_
                                refine lv_icmp_ge (pc := 192) (tgt := 233) hx hb dX10_start_192 (by decide) (fun c_8 => ?_) (fun c_8 => ?_)
                                · skip
                                  rw [nI_leI (by omega) (by omega)] at c_8
                                  refine lv_aload_n (pc := 233) hx hb dX10_start_233 rfl (lv_at hl 3 rfl) ?_
                                  refine va_get (pc := 234) (D := D) (ci := 8) (v := .ref (a 39)) (C := RX10) (T := TX10) (N := 57) hx hb hts iu10 hown hK hP 1 rfl rfl 39 (by decide) (hts _ tw_1084) (fun _ h9 => h9) rfl dX10_start_234 ?_
                                  refine lv_iconst (pc := 237) (v := nI 0) hx hb dX10_start_237 (by decide +kernel) ?_
                                  refine lv_iload (pc := 238) hx hb dX10_start_238 (lv_at hl 1 rfl) ?_
                                  refine lv_if_eq (pc := 240) (tgt := 247) hx hb dX10_start_240 (by decide) (fun c_9 => ?_) (fun c_9 => ?_)
                                  · skip
                                    rw [q_beq] at c_9
                                    try rw [Bool.not_eq_false] at c_9
                                    have hzz := c_9
                                    refine lv_iconst (pc := 247) (v := nI 0) hx hb dX10_start_247 (by decide +kernel) ?_
                                    refine q_iastK (pc := 248) hx hb hK hP hD hS 0 0 rfl rfl (k := 0) rfl (by omega) (by omega) (b := 0) rfl dX10_start_248 (fun H locs hP hD hS => ?_)
                                    have hP : va_P D vwCl [(a 39, aK ta 2 (qU (qU se 1 1) 0 0)), (h0, oM a ar1_179 mn1_179 tp osz 0 ns ct), (a 8, aZ ta 256 BOX), (a 9, aZ ta 256 UBOX), (a 16, aS ta 240 rk1_179), (a 18, aS ta 16 ce1_179), (a 22, aS ta 700 gm1_179), (a 24, aS ta 16 mac1_179), (a 25, aS ta 16 k11_179), (a 26, aS ta 120 gov1_179), (a 52, aS ta 3 n'), (a 51, aS ta 8 p'), (a 33, aS ta 16 gna), (a 38, aS ta 192 gto), (a 41, aS ta 256 gke1_179), (a 42, aS ta 16 gow1_179), (a 43, aS ta 16 gth1_179), (a 44, aS ta 16 c'), (a 36, aK ta 2 ru), (a 37, aK ta 2 le)] H := hP
                                    have hD : va_D A [(a 39, aK ta 2 (qU (qU se 1 1) 0 0)), (h0, oM a ar1_179 mn1_179 tp osz 0 ns ct), (a 8, aZ ta 256 BOX), (a 9, aZ ta 256 UBOX), (a 16, aS ta 240 rk1_179), (a 18, aS ta 16 ce1_179), (a 22, aS ta 700 gm1_179), (a 24, aS ta 16 mac1_179), (a 25, aS ta 16 k11_179), (a 26, aS ta 120 gov1_179), (a 52, aS ta 3 n'), (a 51, aS ta 8 p'), (a 33, aS ta 16 gna), (a 38, aS ta 192 gto), (a 41, aS ta 256 gke1_179), (a 42, aS ta 16 gow1_179), (a 43, aS ta 16 gth1_179), (a 44, aS ta 16 c'), (a 36, aK ta 2 ru), (a 37, aK ta 2 le)] := hD
                                    refine lv_aload_n (pc := 249) hx hb dX10_start_249 rfl (lv_at hl 3 rfl) ?_
                                    refine va_get (pc := 250) (D := D) (ci := 8) (v := .ref (a 39)) (C := RX10) (T := TX10) (N := 57) hx hb hts iu10 hown hK hP 1 rfl rfl 39 (by decide) (hts _ tw_1084) (fun _ h9 => h9) rfl dX10_start_250 ?_
                                    refine lv_iconst (pc := 253) (v := nI 0) hx hb dX10_start_253 (by decide +kernel) ?_
                                    refine q_iald (pc := 254) hx hb hK hP 0 0 rfl rfl (k := 0) (v := nI ((qU (qU se 1 1) 0 0) 0)) rfl (by omega) (by omega) rfl dX10_start_254 ?_
                                    refine q_top (y := qb rt) (by rw [qU_same, hzz]; rfl) ?_
                                    have hq_10 : (rt = decide (seg gow1_179 0 8 = seg gow1_179 8 8)) ∧ ((qU (qU se 1 1) 0 0) 0 = if rt then 1 else 0) ∧ ((qU (qU se 1 1) 0 0) 1 = 1) ∧ (seg c' 8 8 = kdfL (seg gto 96 (le 1)) 2 8 (qNum (nI ct).toInt64 3 ++ qL gna ns)) ∧ (seg c' 0 8 = seg c' 8 8) ∧ (seg gke1_179 0 (le 0) = kdfL (seg gto 0 (le 0)) 4 (le 0) (qNum h9 8 ++ seg c' 8 8)) ∧ (seg gke1_179 32 (le 0) = (kdfL (seg gto 32 (le 0)) 6 (le 0) (qNum h9 8 ++ seg c' 8 8))) ∧ (seg gke1_179 64 (le 0) = kdfL (seg gto 32 (le 0)) 7 (le 0) (qNum h9 8 ++ seg c' 8 8)) ∧ (seg gke1_179 96 (le 0) = seg gto 64 (le 0)) ∧ (seg gow1_179 0 8 = kdfL (kdfL (seg gto 32 (le 0)) 6 (le 0) (qNum h9 8 ++ seg c' 8 8)) 0 8 (qNum h9 8 ++ seg c' 8 8)) ∧ (seg gth1_179 0 8 = kdfL (kdfL (seg gto 32 (le 0)) 6 (le 0) (qNum h9 8 ++ seg c' 8 8)) 1 8 (qNum h9 8 ++ seg c' 8 8)) ∧ (seg gke1_179 128 (le 1) = kdfL (seg gto 96 (le 1)) 4 (le 1) (qNum h9 8 ++ seg c' 8 8)) ∧ (seg gke1_179 160 (le 1) = (kdfL (seg gto 128 (le 1)) 6 (le 1) (qNum h9 8 ++ seg c' 8 8))) ∧ (seg gke1_179 192 (le 1) = kdfL (seg gto 128 (le 1)) 7 (le 1) (qNum h9 8 ++ seg c' 8 8)) ∧ (seg gke1_179 224 (le 1) = seg gto 160 (le 1)) ∧ (seg gow1_179 8 8 = kdfL (kdfL (seg gto 128 (le 1)) 6 (le 1) (qNum h9 8 ++ seg c' 8 8)) 0 8 (qNum h9 8 ++ seg c' 8 8)) ∧ (seg gth1_179 8 8 = kdfL (kdfL (seg gto 128 (le 1)) 6 (le 1) (qNum h9 8 ++ seg c' 8 8)) 1 8 (qNum h9 8 ++ seg c' 8 8)) := by
                                      have hH : qL p' 8 = qNum h9 8 := by rw [← seg_0, seg_copy0 hs1 (by omega)]; rfl
                                      have hN : qL n' 3 = qNum (nI ct).toInt64 3 := by rw [← seg_0, seg_copy0 hs2 (by omega)]; rfl
                                      have hc1 : seg c' 8 8 = seg gck1_133 8 8 := seg_keep fun j hj => hs3.2 _ (by omega)
                                      have hc0 : seg c' 0 8 = seg c' 8 8 := by rw [hc1]; exact seg_copy hs3 (by omega)
                                      refine ⟨(by
                                        rw [hrt, show k4 = 8 by omega]
                                        congr 1
                                        rw [eq_iff_iff, seg_ext]
                                        simp only [Nat.zero_add]), by rw [qU_same]; first | rw [hzz]; rfl, by rw [qU_ne (by decide)]; exact qU_same, hc1.trans (hc_133.trans (by rw [hN])), hc0, hE_179.trans (by rw [hH, hc0]), hM_179.trans (by rw [hH, hc0]), hB_179.trans (by rw [hH, hc0]), hS9_179, hO_179.trans (by rw [hH, hc0]), hT9_179.trans (by rw [hH, hc0]), (seg_keep (g' := gke1_179) (g := gke1_133) (o := 128) (n := le 1) fun j hj => by rw [hfk_179 _ (by omega)]).trans (hE_133.trans (by rw [hH, ← hc1])), (seg_keep (g' := gke1_179) (g := gke1_133) (o := 160) (n := le 1) fun j hj => by rw [hfk_179 _ (by omega)]).trans (hM_133.trans (by rw [hH, ← hc1])), (seg_keep (g' := gke1_179) (g := gke1_133) (o := 192) (n := le 1) fun j hj => by rw [hfk_179 _ (by omega)]).trans (hB_133.trans (by rw [hH, ← hc1])), (seg_keep (g' := gke1_179) (g := gke1_133) (o := 224) (n := le 1) fun j hj => by rw [hfk_179 _ (by omega)]).trans hS9_133, (seg_keep (g' := gow1_179) (g := gow1_133) (o := 8) (n := 8) fun j hj => by rw [hfo_179 _ (by omega)]).trans (hO_133.trans (by rw [hH, ← hc1])), (seg_keep (g' := gth1_179) (g := gth1_133) (o := 8) (n := 8) fun j hj => by rw [hft_179 _ (by omega)]).trans (hT9_133.trans (by rw [hH, ← hc1]))⟩
                                    exact hret (⟨(rk1_179), (ce1_179), (gm1_179), (mac1_179), (k11_179), (gov1_179), (n'), (p'), (gke1_179), (gow1_179), (gth1_179), (c'), (qU (qU se 1 1) 0 0), (rt), (mn1_179), (ar1_179)⟩ : (Nat → BitVec 8) × (Nat → BitVec 8) × (Nat → BitVec 8) × (Nat → BitVec 8) × (Nat → BitVec 8) × (Nat → BitVec 8) × (Nat → BitVec 8) × (Nat → BitVec 8) × (Nat → BitVec 8) × (Nat → BitVec 8) × (Nat → BitVec 8) × (Nat → BitVec 8) × (Nat → Nat) × Bool × Nat × Nat) _ _ _ _ dX10_start_255 hq_10 (hP.sub [1, 2, 3, 4, 5, 6, 7, 8, 9, 10, 11, 12, 13, 14, 15, 16, 17, 18, 19, 0] rfl) (hD.sub [1, 2, 3, 4, 5, 6, 7, 8, 9, 10, 11, 12, 13, 14, 15, 16, 17, 18, 19, 0] (by decide) rfl) hS
                                  · skip
                                    rw [q_beq] at c_9
                                    try rw [Bool.not_eq_false] at c_9
                                    have hzz := c_9
                                    refine lv_iconst (pc := 243) (v := nI 1) hx hb dX10_start_243 (by decide +kernel) ?_
                                    refine lv_goto (pc := 244) (tgt := 248) hx hb dX10_start_244 (by decide) ?_
                                    refine q_iastK (pc := 248) hx hb hK hP hD hS 0 0 rfl rfl (k := 0) rfl (by omega) (by omega) (b := 1) rfl dX10_start_248 (fun H locs hP hD hS => ?_)
                                    have hP : va_P D vwCl [(a 39, aK ta 2 (qU (qU se 1 1) 0 1)), (h0, oM a ar1_179 mn1_179 tp osz 0 ns ct), (a 8, aZ ta 256 BOX), (a 9, aZ ta 256 UBOX), (a 16, aS ta 240 rk1_179), (a 18, aS ta 16 ce1_179), (a 22, aS ta 700 gm1_179), (a 24, aS ta 16 mac1_179), (a 25, aS ta 16 k11_179), (a 26, aS ta 120 gov1_179), (a 52, aS ta 3 n'), (a 51, aS ta 8 p'), (a 33, aS ta 16 gna), (a 38, aS ta 192 gto), (a 41, aS ta 256 gke1_179), (a 42, aS ta 16 gow1_179), (a 43, aS ta 16 gth1_179), (a 44, aS ta 16 c'), (a 36, aK ta 2 ru), (a 37, aK ta 2 le)] H := hP
                                    have hD : va_D A [(a 39, aK ta 2 (qU (qU se 1 1) 0 1)), (h0, oM a ar1_179 mn1_179 tp osz 0 ns ct), (a 8, aZ ta 256 BOX), (a 9, aZ ta 256 UBOX), (a 16, aS ta 240 rk1_179), (a 18, aS ta 16 ce1_179), (a 22, aS ta 700 gm1_179), (a 24, aS ta 16 mac1_179), (a 25, aS ta 16 k11_179), (a 26, aS ta 120 gov1_179), (a 52, aS ta 3 n'), (a 51, aS ta 8 p'), (a 33, aS ta 16 gna), (a 38, aS ta 192 gto), (a 41, aS ta 256 gke1_179), (a 42, aS ta 16 gow1_179), (a 43, aS ta 16 gth1_179), (a 44, aS ta 16 c'), (a 36, aK ta 2 ru), (a 37, aK ta 2 le)] := hD
                                    refine lv_aload_n (pc := 249) hx hb dX10_start_249 rfl (lv_at hl 3 rfl) ?_
                                    refine va_get (pc := 250) (D := D) (ci := 8) (v := .ref (a 39)) (C := RX10) (T := TX10) (N := 57) hx hb hts iu10 hown hK hP 1 rfl rfl 39 (by decide) (hts _ tw_1084) (fun _ h9 => h9) rfl dX10_start_250 ?_
                                    refine lv_iconst (pc := 253) (v := nI 0) hx hb dX10_start_253 (by decide +kernel) ?_
                                    refine q_iald (pc := 254) hx hb hK hP 0 0 rfl rfl (k := 0) (v := nI ((qU (qU se 1 1) 0 1) 0)) rfl (by omega) (by omega) rfl dX10_start_254 ?_
                                    refine q_top (y := qb rt) (by rw [qU_same, hzz]; rfl) ?_
                                    have hq_11 : (rt = decide (seg gow1_179 0 8 = seg gow1_179 8 8)) ∧ ((qU (qU se 1 1) 0 1) 0 = if rt then 1 else 0) ∧ ((qU (qU se 1 1) 0 1) 1 = 1) ∧ (seg c' 8 8 = kdfL (seg gto 96 (le 1)) 2 8 (qNum (nI ct).toInt64 3 ++ qL gna ns)) ∧ (seg c' 0 8 = seg c' 8 8) ∧ (seg gke1_179 0 (le 0) = kdfL (seg gto 0 (le 0)) 4 (le 0) (qNum h9 8 ++ seg c' 8 8)) ∧ (seg gke1_179 32 (le 0) = (kdfL (seg gto 32 (le 0)) 6 (le 0) (qNum h9 8 ++ seg c' 8 8))) ∧ (seg gke1_179 64 (le 0) = kdfL (seg gto 32 (le 0)) 7 (le 0) (qNum h9 8 ++ seg c' 8 8)) ∧ (seg gke1_179 96 (le 0) = seg gto 64 (le 0)) ∧ (seg gow1_179 0 8 = kdfL (kdfL (seg gto 32 (le 0)) 6 (le 0) (qNum h9 8 ++ seg c' 8 8)) 0 8 (qNum h9 8 ++ seg c' 8 8)) ∧ (seg gth1_179 0 8 = kdfL (kdfL (seg gto 32 (le 0)) 6 (le 0) (qNum h9 8 ++ seg c' 8 8)) 1 8 (qNum h9 8 ++ seg c' 8 8)) ∧ (seg gke1_179 128 (le 1) = kdfL (seg gto 96 (le 1)) 4 (le 1) (qNum h9 8 ++ seg c' 8 8)) ∧ (seg gke1_179 160 (le 1) = (kdfL (seg gto 128 (le 1)) 6 (le 1) (qNum h9 8 ++ seg c' 8 8))) ∧ (seg gke1_179 192 (le 1) = kdfL (seg gto 128 (le 1)) 7 (le 1) (qNum h9 8 ++ seg c' 8 8)) ∧ (seg gke1_179 224 (le 1) = seg gto 160 (le 1)) ∧ (seg gow1_179 8 8 = kdfL (kdfL (seg gto 128 (le 1)) 6 (le 1) (qNum h9 8 ++ seg c' 8 8)) 0 8 (qNum h9 8 ++ seg c' 8 8)) ∧ (seg gth1_179 8 8 = kdfL (kdfL (seg gto 128 (le 1)) 6 (le 1) (qNum h9 8 ++ seg c' 8 8)) 1 8 (qNum h9 8 ++ seg c' 8 8)) := by
                                      have hH : qL p' 8 = qNum h9 8 := by rw [← seg_0, seg_copy0 hs1 (by omega)]; rfl
                                      have hN : qL n' 3 = qNum (nI ct).toInt64 3 := by rw [← seg_0, seg_copy0 hs2 (by omega)]; rfl
                                      have hc1 : seg c' 8 8 = seg gck1_133 8 8 := seg_keep fun j hj => hs3.2 _ (by omega)
                                      have hc0 : seg c' 0 8 = seg c' 8 8 := by rw [hc1]; exact seg_copy hs3 (by omega)
                                      refine ⟨(by
                                        rw [hrt, show k4 = 8 by omega]
                                        congr 1
                                        rw [eq_iff_iff, seg_ext]
                                        simp only [Nat.zero_add]), by rw [qU_same]; first | rw [hzz]; rfl, by rw [qU_ne (by decide)]; exact qU_same, hc1.trans (hc_133.trans (by rw [hN])), hc0, hE_179.trans (by rw [hH, hc0]), hM_179.trans (by rw [hH, hc0]), hB_179.trans (by rw [hH, hc0]), hS9_179, hO_179.trans (by rw [hH, hc0]), hT9_179.trans (by rw [hH, hc0]), (seg_keep (g' := gke1_179) (g := gke1_133) (o := 128) (n := le 1) fun j hj => by rw [hfk_179 _ (by omega)]).trans (hE_133.trans (by rw [hH, ← hc1])), (seg_keep (g' := gke1_179) (g := gke1_133) (o := 160) (n := le 1) fun j hj => by rw [hfk_179 _ (by omega)]).trans (hM_133.trans (by rw [hH, ← hc1])), (seg_keep (g' := gke1_179) (g := gke1_133) (o := 192) (n := le 1) fun j hj => by rw [hfk_179 _ (by omega)]).trans (hB_133.trans (by rw [hH, ← hc1])), (seg_keep (g' := gke1_179) (g := gke1_133) (o := 224) (n := le 1) fun j hj => by rw [hfk_179 _ (by omega)]).trans hS9_133, (seg_keep (g' := gow1_179) (g := gow1_133) (o := 8) (n := 8) fun j hj => by rw [hfo_179 _ (by omega)]).trans (hO_133.trans (by rw [hH, ← hc1])), (seg_keep (g' := gth1_179) (g := gth1_133) (o := 8) (n := 8) fun j hj => by rw [hft_179 _ (by omega)]).trans (hT9_133.trans (by rw [hH, ← hc1]))⟩
                                    exact hret (⟨(rk1_179), (ce1_179), (gm1_179), (mac1_179), (k11_179), (gov1_179), (n'), (p'), (gke1_179), (gow1_179), (gth1_179), (c'), (qU (qU se 1 1) 0 1), (rt), (mn1_179), (ar1_179)⟩ : (Nat → BitVec 8) × (Nat → BitVec 8) × (Nat → BitVec 8) × (Nat → BitVec 8) × (Nat → BitVec 8) × (Nat → BitVec 8) × (Nat → BitVec 8) × (Nat → BitVec 8) × (Nat → BitVec 8) × (Nat → BitVec 8) × (Nat → BitVec 8) × (Nat → BitVec 8) × (Nat → Nat) × Bool × Nat × Nat) _ _ _ _ dX10_start_255 hq_11 (hP.sub [1, 2, 3, 4, 5, 6, 7, 8, 9, 10, 11, 12, 13, 14, 15, 16, 17, 18, 19, 0] rfl) (hD.sub [1, 2, 3, 4, 5, 6, 7, 8, 9, 10, 11, 12, 13, 14, 15, 16, 17, 18, 19, 0] (by decide) rfl) hS
                                · skip
                                  rw [nI_leI (by omega) (by omega)] at c_8
                                  refine lv_iload (pc := 195) hx hb dX10_start_195 (lv_at hl 1 rfl) ?_
                                  refine lv_if_eq (pc := 197) (tgt := 224) hx hb dX10_start_197 (by decide) (fun c_12 => ?_) (fun c_12 => ?_)
                                  · skip
                                    rw [q_beq] at c_12
                                    try rw [Bool.not_eq_false] at c_12
                                    have hrt9 := c_12
                                    refine lv_iconst (pc := 224) (v := nI 0) hx hb dX10_start_224 (by decide +kernel) ?_
                                    refine q_top (y := qb false) rfl ?_
                                    refine lv_istore (pc := 225) (lv' := [(4, .int (qb false)), (5, .int (nI k4)), (3, .int (nI 3)), (0, .ref h0), (1, .long h9)]) hx hb dX10_start_225 hl (by decide) rfl (fun ls hl => ?_)
                                    refine lv_iinc (pc := 227) (v := nI (k4 + 1)) (lv' := [(5, .int (nI (k4 + 1))), (4, .int (qb false)), (3, .int (nI 3)), (0, .ref h0), (1, .long h9)]) hx hb dX10_start_227 hl (k := 1) rfl (by first | exact nI_add k4 1 | rfl) (by decide) rfl (fun ls hl => ?_)
                                    refine lv_goto (pc := 230) (tgt := 188) hx hb dX10_start_230 (by decide) ?_
                                    exact ih188 (k4 + 1) false (by omega) (by
                                          symm
                                          first | (refine decide_eq_true (fun j hj => ?_); have h8 : ∀ j, j < k4 → gow1_179 j = gow1_179 (8 + j) := (by rw [hrt9] at hrt; exact of_decide_eq_true hrt.symm); by_cases q : j = k4; (subst q; exact hq9); exact h8 j (by omega)) | (refine decide_eq_false (fun q => ?_); exact hq9 (q k4 (by omega))) | (refine decide_eq_false (fun q => ?_); have h8 : ¬ ∀ j, j < k4 → gow1_179 j = gow1_179 (8 + j) := (by rw [hrt9] at hrt; exact of_decide_eq_false hrt.symm); exact h8 (fun j hj => q j (by omega)))) (by omega) _ _ (hP.sub [0, 1, 2, 3, 4, 5, 6, 7, 8, 9, 10, 11, 12, 13, 14, 15, 16, 17, 18, 19] rfl) (hD.sub [0, 1, 2, 3, 4, 5, 6, 7, 8, 9, 10, 11, 12, 13, 14, 15, 16, 17, 18, 19] (by decide) rfl) hS ls (lv_sub hl [0, 1, 2, 3, 4] rfl)
                                  · skip
                                    rw [q_beq] at c_12
                                    try rw [Bool.not_eq_false] at c_12
                                    have hrt9 := c_12
                                    refine lv_aload_n (pc := 200) hx hb dX10_start_200 rfl (lv_at hl 3 rfl) ?_
                                    refine va_get (pc := 201) (D := D) (ci := 8) (v := .ref (a 42)) (C := RX10) (T := TX10) (N := 57) hx hb hts iu10 hown hK hP 1 rfl rfl 42 (by decide) (hts _ tw_1087) (fun _ h9 => h9) rfl dX10_start_201 ?_
                                    refine lv_iload (pc := 204) hx hb dX10_start_204 (lv_at hl 0 rfl) ?_
                                    refine q_bald (pc := 206) hx hb hK hP 15 2 rfl rfl (k := k4) (v := qs (gow1_179 k4)) rfl (by omega) (by omega) rfl dX10_start_206 ?_
                                    refine lv_aload_n (pc := 207) hx hb dX10_start_207 rfl (lv_at hl 3 rfl) ?_
                                    refine va_get (pc := 208) (D := D) (ci := 8) (v := .ref (a 42)) (C := RX10) (T := TX10) (N := 57) hx hb hts iu10 hown hK hP 1 rfl rfl 42 (by decide) (hts _ tw_1087) (fun _ h9 => h9) rfl dX10_start_208 ?_
                                    refine lv_bipush (pc := 211) (v := nI 8) hx hb dX10_start_211 (by decide +kernel) ?_
                                    refine lv_iload (pc := 213) hx hb dX10_start_213 (lv_at hl 0 rfl) ?_
                                    refine lv_iadd (pc := 215) hx hb dX10_start_215 ?_
                                    refine q_top (y := nI (8 + k4)) (nI_add 8 k4) ?_
                                    refine q_bald (pc := 216) hx hb hK hP 15 2 rfl rfl (k := 8 + k4) (v := qs (gow1_179 (8 + k4))) rfl (by omega) (by omega) rfl dX10_start_216 ?_
                                    refine lv_icmp_ne (pc := 217) (tgt := 224) hx hb dX10_start_217 (by decide) (fun c_13 => ?_) (fun c_13 => ?_)
                                    · skip
                                      rw [qs_eq] at c_13
                                      have hq9 := c_13
                                      refine lv_iconst (pc := 224) (v := nI 0) hx hb dX10_start_224 (by decide +kernel) ?_
                                      refine q_top (y := qb false) rfl ?_
                                      refine lv_istore (pc := 225) (lv' := [(4, .int (qb false)), (5, .int (nI k4)), (3, .int (nI 3)), (0, .ref h0), (1, .long h9)]) hx hb dX10_start_225 hl (by decide) rfl (fun ls hl => ?_)
                                      refine lv_iinc (pc := 227) (v := nI (k4 + 1)) (lv' := [(5, .int (nI (k4 + 1))), (4, .int (qb false)), (3, .int (nI 3)), (0, .ref h0), (1, .long h9)]) hx hb dX10_start_227 hl (k := 1) rfl (by first | exact nI_add k4 1 | rfl) (by decide) rfl (fun ls hl => ?_)
                                      refine lv_goto (pc := 230) (tgt := 188) hx hb dX10_start_230 (by decide) ?_
                                      exact ih188 (k4 + 1) false (by omega) (by
                                            symm
                                            first | (refine decide_eq_true (fun j hj => ?_); have h8 : ∀ j, j < k4 → gow1_179 j = gow1_179 (8 + j) := (by rw [hrt9] at hrt; exact of_decide_eq_true hrt.symm); by_cases q : j = k4; (subst q; exact hq9); exact h8 j (by omega)) | (refine decide_eq_false (fun q => ?_); exact hq9 (q k4 (by omega))) | (refine decide_eq_false (fun q => ?_); have h8 : ¬ ∀ j, j < k4 → gow1_179 j = gow1_179 (8 + j) := (by rw [hrt9] at hrt; exact of_decide_eq_false hrt.symm); exact h8 (fun j hj => q j (by omega)))) (by omega) _ _ (hP.sub [0, 1, 2, 3, 4, 5, 6, 7, 8, 9, 10, 11, 12, 13, 14, 15, 16, 17, 18, 19] rfl) (hD.sub [0, 1, 2, 3, 4, 5, 6, 7, 8, 9, 10, 11, 12, 13, 14, 15, 16, 17, 18, 19] (by decide) rfl) hS ls (lv_sub hl [0, 1, 2, 3, 4] rfl)
                                    · skip
                                      rw [qs_eq] at c_13
                                      have hq9 := c_13
                                      refine lv_iconst (pc := 220) (v := nI 1) hx hb dX10_start_220 (by decide +kernel) ?_
                                      refine lv_goto (pc := 221) (tgt := 225) hx hb dX10_start_221 (by decide) ?_
                                      refine q_top (y := qb true) rfl ?_
                                      refine lv_istore (pc := 225) (lv' := [(4, .int (qb true)), (5, .int (nI k4)), (3, .int (nI 3)), (0, .ref h0), (1, .long h9)]) hx hb dX10_start_225 hl (by decide) rfl (fun ls hl => ?_)
                                      refine lv_iinc (pc := 227) (v := nI (k4 + 1)) (lv' := [(5, .int (nI (k4 + 1))), (4, .int (qb true)), (3, .int (nI 3)), (0, .ref h0), (1, .long h9)]) hx hb dX10_start_227 hl (k := 1) rfl (by first | exact nI_add k4 1 | rfl) (by decide) rfl (fun ls hl => ?_)
                                      refine lv_goto (pc := 230) (tgt := 188) hx hb dX10_start_230 (by decide) ?_
                                      exact ih188 (k4 + 1) true (by omega) (by
                                            symm
                                            first | (refine decide_eq_true (fun j hj => ?_); have h8 : ∀ j, j < k4 → gow1_179 j = gow1_179 (8 + j) := (by rw [hrt9] at hrt; exact of_decide_eq_true hrt.symm); by_cases q : j = k4; (subst q; exact hq9); exact h8 j (by omega)) | (refine decide_eq_false (fun q => ?_); exact hq9 (q k4 (by omega))) | (refine decide_eq_false (fun q => ?_); have h8 : ¬ ∀ j, j < k4 → gow1_179 j = gow1_179 (8 + j) := (by rw [hrt9] at hrt; exact of_decide_eq_false hrt.symm); exact h8 (fun j hj => q j (by omega)))) (by omega) _ _ (hP.sub [0, 1, 2, 3, 4, 5, 6, 7, 8, 9, 10, 11, 12, 13, 14, 15, 16, 17, 18, 19] rfl) (hD.sub [0, 1, 2, 3, 4, 5, 6, 7, 8, 9, 10, 11, 12, 13, 14, 15, 16, 17, 18, 19] (by decide) rfl) hS ls (lv_sub hl [0, 1, 2, 3, 4] rfl)
                            exact LP188 _ 0 true (by omega) ((decide_eq_true (fun j hj => absurd hj (Nat.not_lt_zero _))).symm) (Nat.lt_succ_self _) _ _ (hP.sub [0, 1, 2, 3, 4, 5, 6, 7, 8, 9, 10, 11, 12, 13, 14, 15, 16, 17, 18, 19] rfl) (hD.sub [0, 1, 2, 3, 4, 5, 6, 7, 8, 9, 10, 11, 12, 13, 14, 15, 16, 17, 18, 19] (by decide) rfl) hS ls (lv_sub hl [0, 1, 2, 3, 4] rfl)
                          · skip
                            rw [nI_leI (by omega) (by omega)] at c_7
                            refine lv_aload_n (pc := 153) hx hb dX10_start_153 rfl (lv_at hl 2 rfl) ?_
                            refine va_get (pc := 154) (D := D) (ci := 8) (v := .ref (a 44)) (C := RX10) (T := TX10) (N := 57) hx hb hts iu10 hown hK hP 1 rfl rfl 44 (by decide) (hts _ tw_1089) (fun _ h9 => h9) rfl dX10_start_154 ?_
                            refine lv_iload (pc := 157) hx hb dX10_start_157 (lv_at hl 0 rfl) ?_
                            refine lv_aload_n (pc := 159) hx hb dX10_start_159 rfl (lv_at hl 2 rfl) ?_
                            refine va_get (pc := 160) (D := D) (ci := 8) (v := .ref (a 44)) (C := RX10) (T := TX10) (N := 57) hx hb hts iu10 hown hK hP 1 rfl rfl 44 (by decide) (hts _ tw_1089) (fun _ h9 => h9) rfl dX10_start_160 ?_
                            refine lv_bipush (pc := 163) (v := nI 8) hx hb dX10_start_163 (by decide +kernel) ?_
                            refine lv_iload (pc := 165) hx hb dX10_start_165 (lv_at hl 0 rfl) ?_
                            refine lv_iadd (pc := 167) hx hb dX10_start_167 ?_
                            refine q_top (y := nI (8 + k3x)) (nI_add 8 k3x) ?_
                            refine q_bald (pc := 168) hx hb hK hP 17 2 rfl rfl (k := 8 + k3x) (v := qs (c' (8 + k3x))) rfl (by omega) (by omega) rfl dX10_start_168 ?_
                            refine q_bastS (pc := 169) hx hb hK hP hD hS 17 2 rfl rfl (k := k3x) rfl (by omega) (by omega) (b := c' (8 + k3x)) (qlo_qs _) dX10_start_169 (fun H locs hP hD hS => ?_)
                            have hP : va_P D vwCl [(a 39, aK ta 2 (qU se 1 1)), (h0, oM a ar1_133 mn1_133 tp osz 0 ns ct), (a 8, aZ ta 256 BOX), (a 9, aZ ta 256 UBOX), (a 16, aS ta 240 rk1_133), (a 18, aS ta 16 ce1_133), (a 22, aS ta 700 gm1_133), (a 24, aS ta 16 mac1_133), (a 25, aS ta 16 k11_133), (a 26, aS ta 120 gov1_133), (a 52, aS ta 3 n'), (a 51, aS ta 8 p'), (a 33, aS ta 16 gna), (a 38, aS ta 192 gto), (a 41, aS ta 256 gke1_133), (a 42, aS ta 16 gow1_133), (a 43, aS ta 16 gth1_133), (a 44, aS ta 16 (qU c' k3x (c' (8 + k3x)))), (a 36, aK ta 2 ru), (a 37, aK ta 2 le)] H := hP
                            have hD : va_D A [(a 39, aK ta 2 (qU se 1 1)), (h0, oM a ar1_133 mn1_133 tp osz 0 ns ct), (a 8, aZ ta 256 BOX), (a 9, aZ ta 256 UBOX), (a 16, aS ta 240 rk1_133), (a 18, aS ta 16 ce1_133), (a 22, aS ta 700 gm1_133), (a 24, aS ta 16 mac1_133), (a 25, aS ta 16 k11_133), (a 26, aS ta 120 gov1_133), (a 52, aS ta 3 n'), (a 51, aS ta 8 p'), (a 33, aS ta 16 gna), (a 38, aS ta 192 gto), (a 41, aS ta 256 gke1_133), (a 42, aS ta 16 gow1_133), (a 43, aS ta 16 gth1_133), (a 44, aS ta 16 (qU c' k3x (c' (8 + k3x)))), (a 36, aK ta 2 ru), (a 37, aK ta 2 le)] := hD
                            refine lv_iinc (pc := 170) (v := nI (k3x + 1)) (lv' := [(4, .int (nI (k3x + 1))), (3, .int (nI 3)), (0, .ref h0), (1, .long h9)]) hx hb dX10_start_170 hl (k := 0) rfl (by first | exact nI_add k3x 1 | rfl) (by decide) rfl (fun ls hl => ?_)
                            refine lv_goto (pc := 173) (tgt := 146) hx hb dX10_start_173 (by decide) ?_
                            exact ih146 (k3x + 1) (qU c' k3x (c' (8 + k3x))) (by omega) (qSeg_s hs3 (by omega) (by rw [hs3.2 _ (by omega)])) (by omega) _ _ (hP.sub [0, 1, 2, 3, 4, 5, 6, 7, 8, 9, 10, 11, 12, 13, 14, 15, 16, 17, 18, 19] rfl) (hD.sub [0, 1, 2, 3, 4, 5, 6, 7, 8, 9, 10, 11, 12, 13, 14, 15, 16, 17, 18, 19] (by decide) rfl) hS ls (lv_sub hl [0, 1, 2, 3] rfl)
                      exact LP146 _ 0 gck1_133 (by omega) (qSeg_0) (Nat.lt_succ_self _) _ _ (hP.sub [0, 1, 2, 3, 4, 5, 6, 7, 8, 9, 10, 11, 12, 13, 14, 15, 16, 17, 18, 19] rfl) (hD.sub [0, 1, 2, 3, 4, 5, 6, 7, 8, 9, 10, 11, 12, 13, 14, 15, 16, 17, 18, 19] (by decide) rfl) hS ls (lv_sub hl [0, 1, 2, 3] rfl)
                    · skip
                      rw [nI_leI (by omega) (by omega)] at c_6
                      refine lv_aload_n (pc := 102) hx hb dX10_start_102 rfl (lv_at hl 2 rfl) ?_
                      refine va_get (pc := 103) (D := D) (ci := 8) (v := .ref (a 52)) (C := RX10) (T := TX10) (N := 57) hx hb hts iu10 hown hK hP 0 rfl rfl 52 (by decide) (hts _ tw_1097) (fun _ h9 => h9) rfl dX10_start_103 ?_
                      refine lv_iload (pc := 106) hx hb dX10_start_106 (lv_at hl 0 rfl) ?_
                      refine lv_aload_n (pc := 108) hx hb dX10_start_108 rfl (lv_at hl 2 rfl) ?_
                      refine va_get (pc := 109) (D := D) (ci := 8) (v := .int (nI ct)) (C := RX10) (T := TX10) (N := 57) hx hb hts iu10 hown hK hP 0 rfl rfl 35 (by decide) (hts _ tw_1080) (fun _ h9 => h9) rfl dX10_start_109 ?_
                      refine lv_bipush (pc := 112) (v := nI 8) hx hb dX10_start_112 (by decide +kernel) ?_
                      refine lv_iload_n (pc := 114) hx hb dX10_start_114 rfl (lv_at hl 1 rfl) ?_
                      refine lv_iconst (pc := 115) (v := nI 1) hx hb dX10_start_115 (by decide +kernel) ?_
                      refine lv_isub (pc := 116) hx hb dX10_start_116 ?_
                      refine q_top (y := nI 2) (by decide +kernel) ?_
                      refine lv_iload (pc := 117) hx hb dX10_start_117 (lv_at hl 0 rfl) ?_
                      refine lv_isub (pc := 119) hx hb dX10_start_119 ?_
                      refine q_top (y := nI (2 - k2x)) (pk_sub (a := 2) (b := k2x) (by omega)) ?_
                      refine lv_imul (pc := 120) hx hb dX10_start_120 ?_
                      refine q_top (y := nI (8 * (2 - k2x))) (pk_mul 8 (2 - k2x)) ?_
                      refine lv_ishr (pc := 121) hx hb dX10_start_121 ?_
                      refine lv_i2b (pc := 122) (v := qs (qlo ((nI ct) >>> ((nI (8 * (2 - k2x))) &&& 31)))) hx hb dX10_start_122 (q_i2b _) ?_
                      refine q_bastS (pc := 123) hx hb hK hP hD hS 9 2 rfl rfl (k := k2x) rfl (by omega) (by omega) (b := qlo ((nI ct) >>> ((nI (8 * (2 - k2x))) &&& 31))) (qlo_qs _) dX10_start_123 (fun H locs hP hD hS => ?_)
                      have hP : va_P D vwCl [(h0, oM a ar mn tp osz 0 ns ct), (a 8, aZ ta 256 BOX), (a 9, aZ ta 256 UBOX), (a 16, aS ta 240 rk), (a 18, aS ta 16 ce), (a 22, aS ta 700 gm), (a 24, aS ta 16 mac), (a 25, aS ta 16 k1), (a 26, aS ta 120 gov), (a 52, aS ta 3 (qU n' k2x (qlo ((nI ct) >>> ((nI (8 * (2 - k2x))) &&& 31))))), (a 51, aS ta 8 p'), (a 33, aS ta 16 gna), (a 38, aS ta 192 gto), (a 41, aS ta 256 gke), (a 42, aS ta 16 gow), (a 43, aS ta 16 gth), (a 44, aS ta 16 gck), (a 36, aK ta 2 ru), (a 37, aK ta 2 le), (a 39, aK ta 2 se)] H := hP
                      have hD : va_D A [(h0, oM a ar mn tp osz 0 ns ct), (a 8, aZ ta 256 BOX), (a 9, aZ ta 256 UBOX), (a 16, aS ta 240 rk), (a 18, aS ta 16 ce), (a 22, aS ta 700 gm), (a 24, aS ta 16 mac), (a 25, aS ta 16 k1), (a 26, aS ta 120 gov), (a 52, aS ta 3 (qU n' k2x (qlo ((nI ct) >>> ((nI (8 * (2 - k2x))) &&& 31))))), (a 51, aS ta 8 p'), (a 33, aS ta 16 gna), (a 38, aS ta 192 gto), (a 41, aS ta 256 gke), (a 42, aS ta 16 gow), (a 43, aS ta 16 gth), (a 44, aS ta 16 gck), (a 36, aK ta 2 ru), (a 37, aK ta 2 le), (a 39, aK ta 2 se)] := hD
                      refine lv_iinc (pc := 124) (v := nI (k2x + 1)) (lv' := [(4, .int (nI (k2x + 1))), (3, .int (nI 3)), (0, .ref h0), (1, .long h9)]) hx hb dX10_start_124 hl (k := 0) rfl (by first | exact nI_add k2x 1 | rfl) (by decide) rfl (fun ls hl => ?_)
                      refine lv_goto (pc := 127) (tgt := 96) hx hb dX10_start_127 (by decide) ?_
                      exact ih96 (k2x + 1) (qU n' k2x (qlo ((nI ct) >>> ((nI (8 * (2 - k2x))) &&& 31)))) (by omega) (qSeg_s hs2 (by omega) (qlo_sr (by omega))) (by omega) _ _ (hP.sub [0, 1, 2, 3, 4, 5, 6, 7, 8, 9, 10, 11, 12, 13, 14, 15, 16, 17, 18, 19] rfl) (hD.sub [0, 1, 2, 3, 4, 5, 6, 7, 8, 9, 10, 11, 12, 13, 14, 15, 16, 17, 18, 19] (by decide) rfl) hS ls (lv_sub hl [0, 1, 2, 3] rfl)
                exact LP96 _ 0 gnu (by omega) (qSeg_0) (Nat.lt_succ_self _) _ _ (hP.sub [0, 1, 2, 3, 4, 5, 6, 7, 8, 9, 10, 11, 12, 13, 14, 15, 16, 17, 18, 19] rfl) (hD.sub [0, 1, 2, 3, 4, 5, 6, 7, 8, 9, 10, 11, 12, 13, 14, 15, 16, 17, 18, 19] (by decide) rfl) hS ls (lv_sub hl [0, 1, 2, 3] rfl)
              · skip
                rw [nI_eq (by omega) (by omega)] at c_5
                exfalso; omega
            · skip
              rw [nI_leI (by omega) (by omega)] at c_4
              refine lv_aload_n (pc := 54) hx hb dX10_start_54 rfl (lv_at hl 1 rfl) ?_
              refine va_get (pc := 55) (D := D) (ci := 8) (v := .ref (a 51)) (C := RX10) (T := TX10) (N := 57) hx hb hts iu10 hown hK hP 0 rfl rfl 51 (by decide) (hts _ tw_1096) (fun _ h9 => h9) rfl dX10_start_55 ?_
              refine lv_iload_n (pc := 58) hx hb dX10_start_58 rfl (lv_at hl 0 rfl) ?_
              refine lv_lload_n (pc := 59) hx hb dX10_start_59 rfl (lv_at hl 2 rfl) ?_
              refine lv_bipush (pc := 60) (v := nI 56) hx hb dX10_start_60 (by decide +kernel) ?_
              refine lv_bipush (pc := 62) (v := nI 8) hx hb dX10_start_62 (by decide +kernel) ?_
              refine lv_iload_n (pc := 64) hx hb dX10_start_64 rfl (lv_at hl 0 rfl) ?_
              refine lv_imul (pc := 65) hx hb dX10_start_65 ?_
              refine q_top (y := nI (8 * k1x)) (pk_mul 8 k1x) ?_
              refine lv_isub (pc := 66) hx hb dX10_start_66 ?_
              refine q_top (y := nI (56 - (8 * k1x))) (pk_sub (a := 56) (b := 8 * k1x) (by omega)) ?_
              refine lv_lshr (pc := 67) (v := (h9 >>> ((nI (56 - (8 * k1x))).toInt64 &&& 63))) hx hb dX10_start_67 rfl ?_
              refine lv_l2i (pc := 68) (v := (h9 >>> ((nI (56 - (8 * k1x))).toInt64 &&& 63)).toInt32) hx hb dX10_start_68 rfl ?_
              refine lv_i2b (pc := 69) (v := qs (qlo ((h9 >>> ((nI (56 - (8 * k1x))).toInt64 &&& 63)).toInt32))) hx hb dX10_start_69 (q_i2b _) ?_
              refine q_bastS (pc := 70) hx hb hK hP hD hS 10 2 rfl rfl (k := k1x) rfl (by omega) (by omega) (b := qlo ((h9 >>> ((nI (56 - (8 * k1x))).toInt64 &&& 63)).toInt32)) (qlo_qs _) dX10_start_70 (fun H locs hP hD hS => ?_)
              have hP : va_P D vwCl [(h0, oM a ar mn tp osz 0 ns ct), (a 8, aZ ta 256 BOX), (a 9, aZ ta 256 UBOX), (a 16, aS ta 240 rk), (a 18, aS ta 16 ce), (a 22, aS ta 700 gm), (a 24, aS ta 16 mac), (a 25, aS ta 16 k1), (a 26, aS ta 120 gov), (a 52, aS ta 3 gnu), (a 51, aS ta 8 (qU p' k1x (qlo ((h9 >>> ((nI (56 - (8 * k1x))).toInt64 &&& 63)).toInt32)))), (a 33, aS ta 16 gna), (a 38, aS ta 192 gto), (a 41, aS ta 256 gke), (a 42, aS ta 16 gow), (a 43, aS ta 16 gth), (a 44, aS ta 16 gck), (a 36, aK ta 2 ru), (a 37, aK ta 2 le), (a 39, aK ta 2 se)] H := hP
              have hD : va_D A [(h0, oM a ar mn tp osz 0 ns ct), (a 8, aZ ta 256 BOX), (a 9, aZ ta 256 UBOX), (a 16, aS ta 240 rk), (a 18, aS ta 16 ce), (a 22, aS ta 700 gm), (a 24, aS ta 16 mac), (a 25, aS ta 16 k1), (a 26, aS ta 120 gov), (a 52, aS ta 3 gnu), (a 51, aS ta 8 (qU p' k1x (qlo ((h9 >>> ((nI (56 - (8 * k1x))).toInt64 &&& 63)).toInt32)))), (a 33, aS ta 16 gna), (a 38, aS ta 192 gto), (a 41, aS ta 256 gke), (a 42, aS ta 16 gow), (a 43, aS ta 16 gth), (a 44, aS ta 16 gck), (a 36, aK ta 2 ru), (a 37, aK ta 2 le), (a 39, aK ta 2 se)] := hD
              refine lv_iinc (pc := 71) (v := nI (k1x + 1)) (lv' := [(3, .int (nI (k1x + 1))), (0, .ref h0), (1, .long h9)]) hx hb dX10_start_71 hl (k := 0) rfl (by first | exact nI_add k1x 1 | rfl) (by decide) rfl (fun ls hl => ?_)
              refine lv_goto (pc := 74) (tgt := 48) hx hb dX10_start_74 (by decide) ?_
              exact ih48 (k1x + 1) (qU p' k1x (qlo ((h9 >>> ((nI (56 - (8 * k1x))).toInt64 &&& 63)).toInt32))) (by omega) (qSeg_s hs1 (by omega) (host_b (by omega))) (by omega) _ _ (hP.sub [0, 1, 2, 3, 4, 5, 6, 7, 8, 9, 10, 11, 12, 13, 14, 15, 16, 17, 18, 19] rfl) (hD.sub [0, 1, 2, 3, 4, 5, 6, 7, 8, 9, 10, 11, 12, 13, 14, 15, 16, 17, 18, 19] (by decide) rfl) hS ls (lv_sub hl [0, 1, 2] rfl)
        exact LP48 _ 0 ghs (by omega) (qSeg_0) (Nat.lt_succ_self _) _ _ (hP.sub [0, 1, 2, 3, 4, 5, 6, 7, 8, 9, 10, 11, 12, 13, 14, 15, 16, 17, 18, 19] rfl) (hD.sub [0, 1, 2, 3, 4, 5, 6, 7, 8, 9, 10, 11, 12, 13, 14, 15, 16, 17, 18, 19] (by decide) rfl) hS ls (lv_sub hl [0, 1, 2] rfl)
      · skip
        rw [nI_eq (by omega) (by omega)] at c_3
        exfalso; omega
