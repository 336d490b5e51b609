theorem hdX10_proven : yX10_proven.cls ≠ "java/lang/invoke/MethodHandle" ∧ yX10_proven.cls ≠ "java/lang/invoke/VarHandle" ∧ (parseMethodDescriptor yX10_proven.desc).map (fun d => d.parameters.length) = some 1 := ⟨by decide +kernel, by decide +kernel, by decide +kernel⟩
theorem dX10_proven_0 : decode cX10_proven 0 = .ok (.aload_n 0, 1) := by decide +kernel
theorem dX10_proven_1 : decode cX10_proven 1 = .ok (.getfield 225, 3) := by decide +kernel
theorem dX10_proven_4 : decode cX10_proven 4 = .ok (.iconst 2, 1) := by decide +kernel
theorem dX10_proven_5 : decode cX10_proven 5 = .ok (.baload, 1) := by decide +kernel
theorem dX10_proven_6 : decode cX10_proven 6 = .ok (.sipush 255, 3) := by decide +kernel
theorem dX10_proven_9 : decode cX10_proven 9 = .ok (.iand, 1) := by decide +kernel
theorem dX10_proven_10 : decode cX10_proven 10 = .ok (.istore_n 2, 1) := by decide +kernel
theorem dX10_proven_11 : decode cX10_proven 11 = .ok (.iload_n 1, 1) := by decide +kernel
theorem dX10_proven_12 : decode cX10_proven 12 = .ok (.bipush 20, 2) := by decide +kernel
theorem dX10_proven_14 : decode cX10_proven 14 = .ok (.if_icmp .ne 51, 3) := by decide +kernel
theorem dX10_proven_17 : decode cX10_proven 17 = .ok (.aload_n 0, 1) := by decide +kernel
theorem dX10_proven_18 : decode cX10_proven 18 = .ok (.getfield 225, 3) := by decide +kernel
theorem dX10_proven_21 : decode cX10_proven 21 = .ok (.iconst 0, 1) := by decide +kernel
theorem dX10_proven_22 : decode cX10_proven 22 = .ok (.baload, 1) := by decide +kernel
theorem dX10_proven_23 : decode cX10_proven 23 = .ok (.bipush (-124), 2) := by decide +kernel
theorem dX10_proven_25 : decode cX10_proven 25 = .ok (.if_icmp .ne 40, 3) := by decide +kernel
theorem dX10_proven_28 : decode cX10_proven 28 = .ok (.aload_n 0, 1) := by decide +kernel
theorem dX10_proven_29 : decode cX10_proven 29 = .ok (.getfield 225, 3) := by decide +kernel
theorem dX10_proven_32 : decode cX10_proven 32 = .ok (.iconst 1, 1) := by decide +kernel
theorem dX10_proven_33 : decode cX10_proven 33 = .ok (.baload, 1) := by decide +kernel
theorem dX10_proven_34 : decode cX10_proven 34 = .ok (.bipush (-126), 2) := by decide +kernel
theorem dX10_proven_36 : decode cX10_proven 36 = .ok (.if_icmp .ne 29, 3) := by decide +kernel
theorem dX10_proven_39 : decode cX10_proven 39 = .ok (.aload_n 0, 1) := by decide +kernel
theorem dX10_proven_40 : decode cX10_proven 40 = .ok (.getfield 225, 3) := by decide +kernel
theorem dX10_proven_43 : decode cX10_proven 43 = .ok (.iconst 3, 1) := by decide +kernel
theorem dX10_proven_44 : decode cX10_proven 44 = .ok (.baload, 1) := by decide +kernel
theorem dX10_proven_45 : decode cX10_proven 45 = .ok (.ifCond .ne 20, 3) := by decide +kernel
theorem dX10_proven_48 : decode cX10_proven 48 = .ok (.iload_n 2, 1) := by decide +kernel
theorem dX10_proven_49 : decode cX10_proven 49 = .ok (.aload_n 0, 1) := by decide +kernel
theorem dX10_proven_50 : decode cX10_proven 50 = .ok (.getfield 231, 3) := by decide +kernel
theorem dX10_proven_53 : decode cX10_proven 53 = .ok (.iconst 1, 1) := by decide +kernel
theorem dX10_proven_54 : decode cX10_proven 54 = .ok (.iaload, 1) := by decide +kernel
theorem dX10_proven_55 : decode cX10_proven 55 = .ok (.invokestatic 356, 3) := by decide +kernel
theorem dX10_proven_58 : decode cX10_proven 58 = .ok (.ifCond .eq 7, 3) := by decide +kernel
theorem dX10_proven_61 : decode cX10_proven 61 = .ok (.iconst 1, 1) := by decide +kernel
theorem dX10_proven_62 : decode cX10_proven 62 = .ok (.goto 4, 3) := by decide +kernel
theorem dX10_proven_65 : decode cX10_proven 65 = .ok (.iconst 0, 1) := by decide +kernel
theorem dX10_proven_66 : decode cX10_proven 66 = .ok (.istore_n 3, 1) := by decide +kernel
theorem dX10_proven_67 : decode cX10_proven 67 = .ok (.iconst 0, 1) := by decide +kernel
theorem dX10_proven_68 : decode cX10_proven 68 = .ok (.istore 4, 2) := by decide +kernel
theorem dX10_proven_70 : decode cX10_proven 70 = .ok (.iload 4, 2) := by decide +kernel
theorem dX10_proven_72 : decode cX10_proven 72 = .ok (.bipush 8, 2) := by decide +kernel
theorem dX10_proven_74 : decode cX10_proven 74 = .ok (.if_icmp .ge 41, 3) := by decide +kernel
theorem dX10_proven_77 : decode cX10_proven 77 = .ok (.iload_n 3, 1) := by decide +kernel
theorem dX10_proven_78 : decode cX10_proven 78 = .ok (.ifCond .eq 37, 3) := by decide +kernel
theorem dX10_proven_81 : decode cX10_proven 81 = .ok (.aload_n 0, 1) := by decide +kernel
theorem dX10_proven_82 : decode cX10_proven 82 = .ok (.getfield 225, 3) := by decide +kernel
theorem dX10_proven_85 : decode cX10_proven 85 = .ok (.iconst 4, 1) := by decide +kernel
theorem dX10_proven_86 : decode cX10_proven 86 = .ok (.iload 4, 2) := by decide +kernel
theorem dX10_proven_88 : decode cX10_proven 88 = .ok (.iadd, 1) := by decide +kernel
theorem dX10_proven_89 : decode cX10_proven 89 = .ok (.baload, 1) := by decide +kernel
theorem dX10_proven_90 : decode cX10_proven 90 = .ok (.aload_n 0, 1) := by decide +kernel
theorem dX10_proven_91 : decode cX10_proven 91 = .ok (.getfield 252, 3) := by decide +kernel
theorem dX10_proven_94 : decode cX10_proven 94 = .ok (.bipush 8, 2) := by decide +kernel
theorem dX10_proven_96 : decode cX10_proven 96 = .ok (.iload 4, 2) := by decide +kernel
theorem dX10_proven_98 : decode cX10_proven 98 = .ok (.iadd, 1) := by decide +kernel
theorem dX10_proven_99 : decode cX10_proven 99 = .ok (.baload, 1) := by decide +kernel
theorem dX10_proven_100 : decode cX10_proven 100 = .ok (.if_icmp .ne 7, 3) := by decide +kernel
theorem dX10_proven_103 : decode cX10_proven 103 = .ok (.iconst 1, 1) := by decide +kernel
theorem dX10_proven_104 : decode cX10_proven 104 = .ok (.goto 4, 3) := by decide +kernel
theorem dX10_proven_107 : decode cX10_proven 107 = .ok (.iconst 0, 1) := by decide +kernel
theorem dX10_proven_108 : decode cX10_proven 108 = .ok (.istore_n 3, 1) := by decide +kernel
theorem dX10_proven_109 : decode cX10_proven 109 = .ok (.iinc 4 1, 3) := by decide +kernel
theorem dX10_proven_112 : decode cX10_proven 112 = .ok (.goto (-42), 3) := by decide +kernel
theorem dX10_proven_115 : decode cX10_proven 115 = .ok (.iload_n 3, 1) := by decide +kernel
theorem dX10_proven_116 : decode cX10_proven 116 = .ok (.ifCond .ne 5, 3) := by decide +kernel
theorem dX10_proven_119 : decode cX10_proven 119 = .ok (.iconst 0, 1) := by decide +kernel
theorem dX10_proven_120 : decode cX10_proven 120 = .ok (.ireturn, 1) := by decide +kernel
theorem dX10_proven_121 : decode cX10_proven 121 = .ok (.aload_n 0, 1) := by decide +kernel
theorem dX10_proven_122 : decode cX10_proven 122 = .ok (.iconst 1, 1) := by decide +kernel
theorem dX10_proven_123 : decode cX10_proven 123 = .ok (.aload_n 0, 1) := by decide +kernel
theorem dX10_proven_124 : decode cX10_proven 124 = .ok (.getfield 225, 3) := by decide +kernel
theorem dX10_proven_127 : decode cX10_proven 127 = .ok (.iconst 0, 1) := by decide +kernel
theorem dX10_proven_128 : decode cX10_proven 128 = .ok (.aload_n 0, 1) := by decide +kernel
theorem dX10_proven_129 : decode cX10_proven 129 = .ok (.getfield 225, 3) := by decide +kernel
theorem dX10_proven_132 : decode cX10_proven 132 = .ok (.iconst 4, 1) := by decide +kernel
theorem dX10_proven_133 : decode cX10_proven 133 = .ok (.bipush 8, 2) := by decide +kernel
theorem dX10_proven_135 : decode cX10_proven 135 = .ok (.iconst 1, 1) := by decide +kernel
theorem dX10_proven_136 : decode cX10_proven 136 = .ok (.invokevirtual 360, 3) := by decide +kernel
theorem dX10_proven_139 : decode cX10_proven 139 = .ok (.aload_n 0, 1) := by decide +kernel
theorem dX10_proven_140 : decode cX10_proven 140 = .ok (.bipush 12, 2) := by decide +kernel
theorem dX10_proven_142 : decode cX10_proven 142 = .ok (.invokevirtual 385, 3) := by decide +kernel
theorem dX10_proven_145 : decode cX10_proven 145 = .ok (.ireturn, 1) := by decide +kernel
set_option maxHeartbeats 4000000 in
set_option maxRecDepth 100000 in
theorem ct_X10_proven_2 (ll : Launch) (D : va_G) (ta : Nat → ClassId) {G : (Nat → Prop) → State → Heap → Prop} (hGok : GOK G) (h0 : Nat) (a : Nat → Nat) (ar : Nat) (mn : Nat) (tp : Nat) (osz : Nat) (lsz : Nat) (ns : Nat) (ct : Nat) (bi : Nat → Bool) (tu : Nat → Bool) (cd : Nat → Bool) (sk : Nat → Bool) (hf : Nat → Bool) (wd : Nat → Bool) (gm : Nat → BitVec 8) (mac : Nat → BitVec 8) (gbl : Nat → BitVec 8) (gco : Nat → BitVec 8) (gch : Nat → BitVec 8) (gke : Nat → BitVec 8) (gli : Nat → BitVec 8) (gth : Nat → BitVec 8) (ru : Nat → Nat) (le : Nat → Nat) (n8 : Nat) (hn8 : n8 ≤ 300) (hru : ru 1 = 2) (sz : Nat) : CT ll yX10_proven cX10_proven 5 (some .boolean) ({ frames := 6, cells := 0, slots := 0, locals := 154 } : Room) D ta G [.ref h0, .int (nI n8)] [(h0, oM a ar mn tp osz lsz ns ct), (a 0, aK ta 64 tIP), (a 1, aK ta 48 tSPR), (a 2, aK ta 32 tMIX), (a 3, aK ta 56 tCH), (a 4, aK ta 48 tSEC), (a 5, aK ta 512 tSBX), (a 10, aB ta 64 bi), (a 11, aB ta 64 tu), (a 12, aB ta 56 cd), (a 13, aB ta 768 sk), (a 14, aB ta 32 hf), (a 15, aB ta 48 wd), (a 22, aS ta 700 gm), (a 24, aS ta 16 mac), (a 53, aS ta 16 gbl), (a 55, aS ta 16 gco), (a 45, aS ta 32 gch), (a 41, aS ta 256 gke), (a 36, aK ta 2 ru), (a 37, aK ta 2 le), (a 31, aS ta 300 gli), (a 43, aS ta 16 gth)] sz (S := Bool × (Nat → Bool) × (Nat → Bool) × (Nat → Bool) × (Nat → Bool) × (Nat → Bool) × (Nat → Bool) × (Nat → BitVec 8) × (Nat → BitVec 8) × (Nat → BitVec 8) × (Nat → BitVec 8) × (Nat → BitVec 8) × Nat) (fun u => some (.int (qb u.1))) (fun u => (u.1 = true → provB (qL gli n8) (seg gth 8 8) false = true ∧ open2 (seg gke 128 16) (seg gke 160 16) 0 0 [] (qL gli n8) = some (joinC (qL gli n8) (seg gli 4 8), seg u.2.2.2.2.2.2.2.2.2.2.1 0 8)) ∧ (u.1 = false → provB (qL gli n8) (seg gth 8 8) false = false ∨ open2 (seg gke 128 16) (seg gke 160 16) 0 0 [] (qL gli n8) = none) ∧ (u.1 = true → seg u.2.2.2.2.2.2.2.2.2.2.2.1 16 16 = seg u.2.2.2.2.2.2.2.2.2.2.1 0 16) ∧ (∀ j, j < 16 → u.2.2.2.2.2.2.2.2.2.2.2.1 j = gch j)) (fun u => [(h0, oM a ar u.2.2.2.2.2.2.2.2.2.2.2.2 tp osz lsz ns ct), (a 0, aK ta 64 tIP), (a 1, aK ta 48 tSPR), (a 2, aK ta 32 tMIX), (a 3, aK ta 56 tCH), (a 4, aK ta 48 tSEC), (a 5, aK ta 512 tSBX), (a 10, aB ta 64 u.2.1), (a 11, aB ta 64 u.2.2.1), (a 12, aB ta 56 u.2.2.2.1), (a 13, aB ta 768 u.2.2.2.2.1), (a 14, aB ta 32 u.2.2.2.2.2.1), (a 15, aB ta 48 u.2.2.2.2.2.2.1), (a 22, aS ta 700 u.2.2.2.2.2.2.2.1), (a 24, aS ta 16 u.2.2.2.2.2.2.2.2.1), (a 53, aS ta 16 u.2.2.2.2.2.2.2.2.2.1), (a 55, aS ta 16 u.2.2.2.2.2.2.2.2.2.2.1), (a 45, aS ta 32 u.2.2.2.2.2.2.2.2.2.2.2.1), (a 41, aS ta 256 gke), (a 36, aK ta 2 ru), (a 37, aK ta 2 le), (a 31, aS ta 300 gli), (a 43, aS ta 16 gth)]) 0 0 := by
  refine CT.of_z (r := fun u => u.1) rfl (by decide) (Nat.le_of_ble_eq_true rfl) ?_
  intro pp ee ss mm below meth kc A Q hx hb hml hown hin hts hK hA hsz hG hret H locs hP hD hS ls hl
  have hl : lv_has ls 5 [(0, .ref h0), (1, .int (nI n8))] := hl
  refine lv_aload_n (pc := 0) hx hb dX10_proven_0 rfl (lv_at hl 0 rfl) ?_
  refine va_get (pc := 1) (D := D) (ci := 8) (v := .ref (a 31)) (C := RX10) (T := TX10) (N := 57) hx hb hts iu10 hown hK hP 0 rfl rfl 31 (by decide) (hts _ tw_1076) (fun _ h9 => h9) rfl dX10_proven_1 ?_
  refine lv_iconst (pc := 4) (v := nI 2) hx hb dX10_proven_4 (by decide +kernel) ?_
  refine q_bald (pc := 5) hx hb hK hP 21 2 rfl rfl (k := 2) (v := qs (gli 2)) rfl (by omega) (by omega) rfl dX10_proven_5 ?_
  refine lv_sipush (pc := 6) (v := nI 255) hx hb dX10_proven_6 (by decide +kernel) ?_
  refine lv_iand (pc := 9) hx hb dX10_proven_9 ?_
  refine q_top (y := qz (gli 2)) ((q_m255 _).trans (congrArg qz (qlo_qs _))) ?_
  refine lv_istore_n (pc := 10) (lv' := [(2, .int (qz (gli 2))), (0, .ref h0), (1, .int (nI n8))]) hx hb dX10_proven_10 rfl hl (by decide) rfl (fun ls hl => ?_)
  have JN66 : ∀ (b9 : Bool), (b9 = decide (n8 = 20 ∧ gli 0 = 0x84#8 ∧ gli 1 = 0x82#8 ∧ levB (qz (gli 2)) false = true ∧ gli 3 = 0#8)) → ∀ (H : Heap) (locs : List Loc), va_P D vwCl [(h0, oM a ar mn tp osz lsz ns ct), (a 0, aK ta 64 tIP), (a 1, aK ta 48 tSPR), (a 2, aK ta 32 tMIX), (a 3, aK ta 56 tCH), (a 4, aK ta 48 tSEC), (a 5, aK ta 512 tSBX), (a 10, aB ta 64 bi), (a 11, aB ta 64 tu), (a 12, aB ta 56 cd), (a 13, aB ta 768 sk), (a 14, aB ta 32 hf), (a 15, aB ta 48 wd), (a 22, aS ta 700 gm), (a 24, aS ta 16 mac), (a 53, aS ta 16 gbl), (a 55, aS ta 16 gco), (a 45, aS ta 32 gch), (a 41, aS ta 256 gke), (a 36, aK ta 2 ru), (a 37, aK ta 2 le), (a 31, aS ta 300 gli), (a 43, aS ta 16 gth)] H → va_D A [(h0, oM a ar mn tp osz lsz ns ct), (a 0, aK ta 64 tIP), (a 1, aK ta 48 tSPR), (a 2, aK ta 32 tMIX), (a 3, aK ta 56 tCH), (a 4, aK ta 48 tSEC), (a 5, aK ta 512 tSBX), (a 10, aB ta 64 bi), (a 11, aB ta 64 tu), (a 12, aB ta 56 cd), (a 13, aB ta 768 sk), (a 14, aB ta 32 hf), (a 15, aB ta 48 wd), (a 22, aS ta 700 gm), (a 24, aS ta 16 mac), (a 53, aS ta 16 gbl), (a 55, aS ta 16 gco), (a 45, aS ta 32 gch), (a 41, aS ta 256 gke), (a 36, aK ta 2 ru), (a 37, aK ta 2 le), (a 31, aS ta 300 gli), (a 43, aS ta 16 gth)] → va_S A ss.heap H locs → ∀ ls : Array Slot, lv_has ls 5 [(2, .int (qz (gli 2))), (0, .ref h0), (1, .int (nI n8))] → W pp ll ee ({ frames := 6, cells := 0, slots := 0, locals := 154 } : Room) ss mm (([.ref h0, .int (nI n8)] : List Value).toArray) below meth kc H locs 0 0 Q (F0 mm 66 ls [.int (qb b9)]) := by
    intro b9 hb9 H locs hP hD hS ls hl
    refine lv_istore_n (pc := 66) (lv' := [(3, .int (qb b9)), (2, .int (qz (gli 2))), (0, .ref h0), (1, .int (nI n8))]) hx hb dX10_proven_66 rfl hl (by decide) rfl (fun ls hl => ?_)
    refine lv_iconst (pc := 67) (v := nI 0) hx hb dX10_proven_67 (by decide +kernel) ?_
    refine lv_istore (pc := 68) (lv' := [(4, .int (nI 0)), (3, .int (qb b9)), (2, .int (qz (gli 2))), (0, .ref h0), (1, .int (nI n8))]) hx hb dX10_proven_68 hl (by decide) rfl (fun ls hl => ?_)
    have LP70 : ∀ (nn70 : Nat) (k4 : Nat) (rt : Bool), (k4 ≤ 8) → (rt = decide ((n8 = 20 ∧ gli 0 = 0x84#8 ∧ gli 1 = 0x82#8 ∧ levB (qz (gli 2)) false = true ∧ gli 3 = 0#8) ∧ ∀ j, j < k4 → gli (4 + j) = gth (8 + j))) → (8 - k4 < nn70) → ∀ (H : Heap) (locs : List Loc), va_P D vwCl [(h0, oM a ar mn tp osz lsz ns ct), (a 0, aK ta 64 tIP), (a 1, aK ta 48 tSPR), (a 2, aK ta 32 tMIX), (a 3, aK ta 56 tCH), (a 4, aK ta 48 tSEC), (a 5, aK ta 512 tSBX), (a 10, aB ta 64 bi), (a 11, aB ta 64 tu), (a 12, aB ta 56 cd), (a 13, aB ta 768 sk), (a 14, aB ta 32 hf), (a 15, aB ta 48 wd), (a 22, aS ta 700 gm), (a 24, aS ta 16 mac), (a 53, aS ta 16 gbl), (a 55, aS ta 16 gco), (a 45, aS ta 32 gch), (a 41, aS ta 256 gke), (a 36, aK ta 2 ru), (a 37, aK ta 2 le), (a 31, aS ta 300 gli), (a 43, aS ta 16 gth)] H → va_D A [(h0, oM a ar mn tp osz lsz ns ct), (a 0, aK ta 64 tIP), (a 1, aK ta 48 tSPR), (a 2, aK ta 32 tMIX), (a 3, aK ta 56 tCH), (a 4, aK ta 48 tSEC), (a 5, aK ta 512 tSBX), (a 10, aB ta 64 bi), (a 11, aB ta 64 tu), (a 12, aB ta 56 cd), (a 13, aB ta 768 sk), (a 14, aB ta 32 hf), (a 15, aB ta 48 wd), (a 22, aS ta 700 gm), (a 24, aS ta 16 mac), (a 53, aS ta 16 gbl), (a 55, aS ta 16 gco), (a 45, aS ta 32 gch), (a 41, aS ta 256 gke), (a 36, aK ta 2 ru), (a 37, aK ta 2 le), (a 31, aS ta 300 gli), (a 43, aS ta 16 gth)] → va_S A ss.heap H locs → ∀ ls : Array Slot, lv_has ls 5 [(4, .int (nI k4)), (3, .int (qb rt)), (2, .int (qz (gli 2))), (0, .ref h0), (1, .int (nI n8))] → W pp ll ee ({ frames := 6, cells := 0, slots := 0, locals := 154 } : Room) ss mm (([.ref h0, .int (nI n8)] : List Value).toArray) below meth kc H locs 0 0 Q (F0 mm 70 ls []) := by
      intro nn70
      induction nn70 with
      | zero => intro k4 rt hk4 hrt hmu; exact absurd hmu (Nat.not_lt_zero _)
      | succ nn70 ih70 =>
        intro k4 rt hk4 hrt hmu70 H locs hP hD hS ls hl
        refine lv_iload (pc := 70) hx hb dX10_proven_70 (lv_at hl 0 rfl) ?_
        refine lv_bipush (pc := 72) (v := nI 8) hx hb dX10_proven_72 (by decide +kernel) ?_
        refine lv_icmp_ge (pc := 74) (tgt := 115) hx hb dX10_proven_74 (by decide) (fun c_1 => ?_) (fun c_1 => ?_)
        · skip
          rw [nI_leI (by omega) (by omega)] at c_1
          refine lv_iload_n (pc := 115) hx hb dX10_proven_115 rfl (lv_at hl 1 rfl) ?_
          refine lv_if_ne (pc := 116) (tgt := 121) hx hb dX10_proven_116 (by decide) (fun c_2 => ?_) (fun c_2 => ?_)
          · skip
            rw [q_beq] at c_2
            try rw [Bool.not_eq_false] at c_2
            have hr9 := c_2
            refine lv_aload_n (pc := 121) hx hb dX10_proven_121 rfl (lv_at hl 3 rfl) ?_
            refine lv_iconst (pc := 122) (v := nI 1) hx hb dX10_proven_122 (by decide +kernel) ?_
            refine lv_aload_n (pc := 123) hx hb dX10_proven_123 rfl (lv_at hl 3 rfl) ?_
            refine va_get (pc := 124) (D := D) (ci := 8) (v := .ref (a 31)) (C := RX10) (T := TX10) (N := 57) hx hb hts iu10 hown hK hP 0 rfl rfl 31 (by decide) (hts _ tw_1076) (fun _ h9 => h9) rfl dX10_proven_124 ?_
            refine lv_iconst (pc := 127) (v := nI 0) hx hb dX10_proven_127 (by decide +kernel) ?_
            refine lv_aload_n (pc := 128) hx hb dX10_proven_128 rfl (lv_at hl 3 rfl) ?_
            refine va_get (pc := 129) (D := D) (ci := 8) (v := .ref (a 31)) (C := RX10) (T := TX10) (N := 57) hx hb hts iu10 hown hK hP 0 rfl rfl 31 (by decide) (hts _ tw_1076) (fun _ h9 => h9) rfl dX10_proven_129 ?_
            refine lv_iconst (pc := 132) (v := nI 4) hx hb dX10_proven_132 (by decide +kernel) ?_
            refine lv_bipush (pc := 133) (v := nI 8) hx hb dX10_proven_133 (by decide +kernel) ?_
            refine lv_iconst (pc := 135) (v := nI 1) hx hb dX10_proven_135 (by decide +kernel) ?_
            refine cs_V (pc := 136) (idx := 360) (n := 7) (wr := [(a 43, aS ta 16 gth)]) (As := [.int (nI 1), .ref (a 31), .int (nI 0), .ref (a 31), .int (nI 4), .int (nI 8), .int (nI 1)]) (rest := []) (ci := 8) hx hb hml hown hts hGok hK hA hG hl.1 hP hD hS (ct_X10_commandMac_211 ll D ta hGok h0 a ar mn tp osz lsz ns ct bi tu cd sk hf wd gm mac gbl gco gch gke ru le 1 (a 31) 300 gli 4 8 (by first | assumption | omega | rfl | decide) (by first | assumption | omega | rfl | decide) (by first | assumption | omega | rfl | decide) (by first | assumption | omega | rfl | decide) (by first | assumption | omega | rfl | decide) H.size) tw_1368 tw_1365 tw_1367 tw_49 tw_75 hdX10_commandMac rfl ⟨rfl, rfl, Nat.le_of_ble_eq_true rfl, Nat.le_of_ble_eq_true rfl, Nat.le_of_ble_eq_true rfl, Nat.le_of_ble_eq_true rfl⟩ rfl rfl (q0 := 0) rfl [0, 1, 2, 3, 4, 5, 6, 7, 8, 9, 10, 11, 12, 13, 14, 15, 16, 17, 18, 19, 20, 21] [22] rfl rfl (by decide) rfl (Nat.le_of_ble_eq_true rfl) dX10_proven_136 (fun u H locs hq hP hD hS => ?_)
            obtain ⟨bi1_136, tu1_136, cd1_136, sk1_136, hf1_136, wd1_136, gm1_136, mac1_136, gbl1_136, gco1_136, gch1_136, mn1_136⟩ := u
            have hq : (seg gco1_136 0 8 = retailL (seg gke (128 * 1 + 32) 16) (zeroL 8) (headL (seg gli 0 4) 8 ++ seg gli 4 8)) ∧ (seg gch1_136 (16 * 1) 16 = seg gco1_136 0 16) ∧ (∀ jz, (jz < 16 * 1 ∨ 16 * 1 + 16 ≤ jz) → gch1_136 jz = gch jz) := hq
            obtain ⟨hs_136, hc_136, hfc_136⟩ := hq
            refine W.eq (g2 := F0 mm 139 ls []) rfl ?_
            have hP : va_P D vwCl [(a 43, aS ta 16 gth), (h0, oM a ar mn1_136 tp osz lsz ns ct), (a 0, aK ta 64 tIP), (a 1, aK ta 48 tSPR), (a 2, aK ta 32 tMIX), (a 3, aK ta 56 tCH), (a 4, aK ta 48 tSEC), (a 5, aK ta 512 tSBX), (a 10, aB ta 64 bi1_136), (a 11, aB ta 64 tu1_136), (a 12, aB ta 56 cd1_136), (a 13, aB ta 768 sk1_136), (a 14, aB ta 32 hf1_136), (a 15, aB ta 48 wd1_136), (a 22, aS ta 700 gm1_136), (a 24, aS ta 16 mac1_136), (a 53, aS ta 16 gbl1_136), (a 55, aS ta 16 gco1_136), (a 45, aS ta 32 gch1_136), (a 41, aS ta 256 gke), (a 36, aK ta 2 ru), (a 37, aK ta 2 le), (a 31, aS ta 300 gli)] H := hP
            have hD : va_D A [(a 43, aS ta 16 gth), (h0, oM a ar mn1_136 tp osz lsz ns ct), (a 0, aK ta 64 tIP), (a 1, aK ta 48 tSPR), (a 2, aK ta 32 tMIX), (a 3, aK ta 56 tCH), (a 4, aK ta 48 tSEC), (a 5, aK ta 512 tSBX), (a 10, aB ta 64 bi1_136), (a 11, aB ta 64 tu1_136), (a 12, aB ta 56 cd1_136), (a 13, aB ta 768 sk1_136), (a 14, aB ta 32 hf1_136), (a 15, aB ta 48 wd1_136), (a 22, aS ta 700 gm1_136), (a 24, aS ta 16 mac1_136), (a 53, aS ta 16 gbl1_136), (a 55, aS ta 16 gco1_136), (a 45, aS ta 32 gch1_136), (a 41, aS ta 256 gke), (a 36, aK ta 2 ru), (a 37, aK ta 2 le), (a 31, aS ta 300 gli)] := hD
            refine lv_aload_n (pc := 139) hx hb dX10_proven_139 rfl (lv_at hl 3 rfl) ?_
            refine lv_bipush (pc := 140) (v := nI 12) hx hb dX10_proven_140 (by decide +kernel) ?_
            refine cs_V (pc := 142) (idx := 385) (n := 1) (wr := [(a 43, aS ta 16 gth), (a 0, aK ta 64 tIP), (a 1, aK ta 48 tSPR), (a 2, aK ta 32 tMIX), (a 3, aK ta 56 tCH), (a 4, aK ta 48 tSEC), (a 5, aK ta 512 tSBX), (a 10, aB ta 64 bi1_136), (a 11, aB ta 64 tu1_136), (a 12, aB ta 56 cd1_136), (a 13, aB ta 768 sk1_136), (a 14, aB ta 32 hf1_136), (a 15, aB ta 48 wd1_136), (a 22, aS ta 700 gm1_136), (a 24, aS ta 16 mac1_136), (a 53, aS ta 16 gbl1_136), (a 45, aS ta 32 gch1_136), (a 41, aS ta 256 gke), (a 36, aK ta 2 ru), (a 37, aK ta 2 le)]) (As := [.int (nI 12)]) (rest := []) (ci := 8) hx hb hml hown hts hGok hK hA hG hl.1 hP hD hS (ct_X10_isCode ll D ta hGok h0 a ar mn1_136 tp osz lsz ns ct gli gco1_136 12 (by first | assumption | omega | rfl | decide) H.size) tw_1412 tw_1409 tw_1411 tw_58 tw_75 hdX10_isCode rfl ⟨rfl, rfl, Nat.le_of_ble_eq_true rfl, Nat.le_of_ble_eq_true rfl, Nat.le_of_ble_eq_true rfl, Nat.le_of_ble_eq_true rfl⟩ rfl rfl (q0 := 1) rfl [1, 22, 17] [0, 2, 3, 4, 5, 6, 7, 8, 9, 10, 11, 12, 13, 14, 15, 16, 18, 19, 20, 21] rfl rfl (by decide) rfl (Nat.le_of_ble_eq_true rfl) dX10_proven_142 (fun u H locs hq hP hD hS => ?_)
            generalize u = z_142 at hq hP hD ⊢
            have hq : (z_142 = decide (seg gli 12 8 = seg gco1_136 0 8)) := hq
            have hz_142 := hq
            refine W.eq (g2 := F0 mm 145 ls [.int (qb z_142)]) rfl ?_
            have hP : va_P D vwCl [(a 43, aS ta 16 gth), (a 0, aK ta 64 tIP), (a 1, aK ta 48 tSPR), (a 2, aK ta 32 tMIX), (a 3, aK ta 56 tCH), (a 4, aK ta 48 tSEC), (a 5, aK ta 512 tSBX), (a 10, aB ta 64 bi1_136), (a 11, aB ta 64 tu1_136), (a 12, aB ta 56 cd1_136), (a 13, aB ta 768 sk1_136), (a 14, aB ta 32 hf1_136), (a 15, aB ta 48 wd1_136), (a 22, aS ta 700 gm1_136), (a 24, aS ta 16 mac1_136), (a 53, aS ta 16 gbl1_136), (a 45, aS ta 32 gch1_136), (a 41, aS ta 256 gke), (a 36, aK ta 2 ru), (a 37, aK ta 2 le), (h0, oM a ar mn1_136 tp osz lsz ns ct), (a 31, aS ta 300 gli), (a 55, aS ta 16 gco1_136)] H := hP
            have hD : va_D A [(a 43, aS ta 16 gth), (a 0, aK ta 64 tIP), (a 1, aK ta 48 tSPR), (a 2, aK ta 32 tMIX), (a 3, aK ta 56 tCH), (a 4, aK ta 48 tSEC), (a 5, aK ta 512 tSBX), (a 10, aB ta 64 bi1_136), (a 11, aB ta 64 tu1_136), (a 12, aB ta 56 cd1_136), (a 13, aB ta 768 sk1_136), (a 14, aB ta 32 hf1_136), (a 15, aB ta 48 wd1_136), (a 22, aS ta 700 gm1_136), (a 24, aS ta 16 mac1_136), (a 53, aS ta 16 gbl1_136), (a 45, aS ta 32 gch1_136), (a 41, aS ta 256 gke), (a 36, aK ta 2 ru), (a 37, aK ta 2 le), (h0, oM a ar mn1_136 tp osz lsz ns ct), (a 31, aS ta 300 gli), (a 55, aS ta 16 gco1_136)] := hD
            have hq_3 : (z_142 = true → provB (qL gli n8) (seg gth 8 8) false = true ∧ open2 (seg gke 128 16) (seg gke 160 16) 0 0 [] (qL gli n8) = some (joinC (qL gli n8) (seg gli 4 8), seg gco1_136 0 8)) ∧ (z_142 = false → provB (qL gli n8) (seg gth 8 8) false = false ∨ open2 (seg gke 128 16) (seg gke 160 16) 0 0 [] (qL gli n8) = none) ∧ (z_142 = true → seg gch1_136 16 16 = seg gco1_136 0 16) ∧ (∀ j, j < 16 → gch1_136 j = gch j) := by
              have h8 : (n8 = 20 ∧ gli 0 = 0x84#8 ∧ gli 1 = 0x82#8 ∧ levB (qz (gli 2)) false = true ∧ gli 3 = 0#8) ∧ ∀ j, j < k4 → gli (4 + j) = gth (8 + j) := by rw [hr9] at hrt; exact of_decide_eq_true hrt.symm
              obtain ⟨⟨h20, q0, q1, q2, q3⟩, q4⟩ := h8
              have hpv : provB (qL gli n8) (seg gth 8 8) false = true := prov_yes h20 q0 q1 q2 q3 (fun j hj => q4 j (by omega))
              have hmid : midL (qL gli n8) = seg gli 4 8 := by rw [mid_seg (by omega), h20]
              have hsp : splB (qL gli n8) = true := spl_prov h20 q0
              have hend : (qL gli n8).drop ((qL gli n8).length - 8) = seg gli 12 8 := by rw [end_seg (by omega), h20]
              have hcd : chain2 (seg gke 160 16) 0 [] (joinC (qL gli n8) (seg gli 4 8)) = retailL (seg gke 160 16) (zeroL 8) (headL (qL gli n8) 8 ++ seg gli 4 8) := by rw [chain2, if_pos rfl, joinC_len (by rw [qL_len]; omega), joinC_drop (by rw [qL_len]; omega), joinC_head (by rw [qL_len]; omega), seg_len]
              have hco : seg gco1_136 0 8 = chain2 (seg gke 160 16) 0 [] (joinC (qL gli n8) (seg gli 4 8)) := by rw [hcd, hs_136, head_qL (n := n8) (by omega)]
              have hop : open2 (seg gke 128 16) (seg gke 160 16) 0 0 [] (qL gli n8) = if seg gli 12 8 = (seg gco1_136 0 8).take 8 then some (joinC (qL gli n8) (seg gli 4 8), seg gco1_136 0 8) else none := by
                rw [open2_y hsp, hmid, if_neg (by simp [hidB]), Option.bind_some, if_pos (by rw [seg_len]; decide), hend, ← hco]
              rw [seg_take (by decide)] at hop
              refine ⟨fun q => ⟨hpv, ?_⟩, fun q => Or.inr ?_, fun _ => hc_136, fun j hj => hfc_136 j (by omega)⟩
              · rw [hop, if_pos (of_decide_eq_true (hz_142.symm.trans q))]
              · rw [hop, if_neg (of_decide_eq_false (hz_142.symm.trans q))]
            exact hret (⟨(z_142), (bi1_136), (tu1_136), (cd1_136), (sk1_136), (hf1_136), (wd1_136), (gm1_136), (mac1_136), (gbl1_136), (gco1_136), (gch1_136), (mn1_136)⟩ : Bool × (Nat → Bool) × (Nat → Bool) × (Nat → Bool) × (Nat → Bool) × (Nat → Bool) × (Nat → Bool) × (Nat → BitVec 8) × (Nat → BitVec 8) × (Nat → BitVec 8) × (Nat → BitVec 8) × (Nat → BitVec 8) × Nat) _ _ _ _ dX10_proven_145 hq_3 (hP.sub [20, 1, 2, 3, 4, 5, 6, 7, 8, 9, 10, 11, 12, 13, 14, 15, 22, 16, 17, 18, 19, 21, 0] rfl) (hD.sub [20, 1, 2, 3, 4, 5, 6, 7, 8, 9, 10, 11, 12, 13, 14, 15, 22, 16, 17, 18, 19, 21, 0] (by decide) rfl) hS
          · skip
            rw [q_beq] at c_2
            try rw [Bool.not_eq_false] at c_2
            have hr9 := c_2
            refine lv_iconst (pc := 119) (v := nI 0) hx hb dX10_proven_119 (by decide +kernel) ?_
            refine q_top (y := qb false) (by first | rfl | decide +kernel | (simp; done)) ?_
            have hq_4 : (false = true → provB (qL gli n8) (seg gth 8 8) false = true ∧ open2 (seg gke 128 16) (seg gke 160 16) 0 0 [] (qL gli n8) = some (joinC (qL gli n8) (seg gli 4 8), seg gco 0 8)) ∧ (false = false → provB (qL gli n8) (seg gth 8 8) false = false ∨ open2 (seg gke 128 16) (seg gke 160 16) 0 0 [] (qL gli n8) = none) ∧ (false = true → seg gch 16 16 = seg gco 0 16) ∧ (∀ j, j < 16 → gch j = gch j) := by
              refine ⟨fun q => (by cases q), fun _ => Or.inl ?_, fun q => (by cases q), fun _ _ => rfl⟩
              by_cases h20 : n8 = 20
              · subst h20
                refine decide_eq_false (fun q => ?_)
                have h9 : ¬ ((20 = 20 ∧ gli 0 = 0x84#8 ∧ gli 1 = 0x82#8 ∧ levB (qz (gli 2)) false = true ∧ gli 3 = 0#8) ∧ ∀ j, j < k4 → gli (4 + j) = gth (8 + j)) := by rw [hr9] at hrt; exact of_decide_eq_false hrt.symm
                rw [qL_len, qL_getD (by decide), qL_getD (by decide), qL_getD (by decide), qL_getD (by decide), qL_drop, seg_take (by decide), seg_ext] at q
                exact h9 ⟨⟨rfl, q.2.1, q.2.2.1, q.2.2.2.1, q.2.2.2.2.1⟩, fun j hj => q.2.2.2.2.2 j (by omega)⟩
              · exact provB_no h20
            exact hret (⟨(false), (bi), (tu), (cd), (sk), (hf), (wd), (gm), (mac), (gbl), (gco), (gch), (mn)⟩ : Bool × (Nat → Bool) × (Nat → Bool) × (Nat → Bool) × (Nat → Bool) × (Nat → Bool) × (Nat → Bool) × (Nat → BitVec 8) × (Nat → BitVec 8) × (Nat → BitVec 8) × (Nat → BitVec 8) × (Nat → BitVec 8) × Nat) _ _ _ _ dX10_proven_120 hq_4 (hP.sub [0, 1, 2, 3, 4, 5, 6, 7, 8, 9, 10, 11, 12, 13, 14, 15, 16, 17, 18, 19, 20, 21, 22] rfl) (hD.sub [0, 1, 2, 3, 4, 5, 6, 7, 8, 9, 10, 11, 12, 13, 14, 15, 16, 17, 18, 19, 20, 21, 22] (by decide) rfl) hS
        · skip
          rw [nI_leI (by omega) (by omega)] at c_1
          refine lv_iload_n (pc := 77) hx hb dX10_proven_77 rfl (lv_at hl 1 rfl) ?_
          refine lv_if_eq (pc := 78) (tgt := 115) hx hb dX10_proven_78 (by decide) (fun c_5 => ?_) (fun c_5 => ?_)
          · skip
            rw [q_beq] at c_5
            try rw [Bool.not_eq_false] at c_5
            have hrt9 := c_5
            refine lv_iload_n (pc := 115) hx hb dX10_proven_115 rfl (lv_at hl 1 rfl) ?_
            refine lv_if_ne (pc := 116) (tgt := 121) hx hb dX10_proven_116 (by decide) (fun c_6 => ?_) (fun c_6 => ?_)
            · skip
              rw [q_beq] at c_6
              try rw [Bool.not_eq_false] at c_6
              have hr9 := c_6
              rw [hrt9] at c_6; cases c_6
            · skip
              rw [q_beq] at c_6
              try rw [Bool.not_eq_false] at c_6
              have hr9 := c_6
              refine lv_iconst (pc := 119) (v := nI 0) hx hb dX10_proven_119 (by decide +kernel) ?_
              refine q_top (y := qb false) (by first | rfl | decide +kernel | (simp; done)) ?_
              have hq_7 : (false = true → provB (qL gli n8) (seg gth 8 8) false = true ∧ open2 (seg gke 128 16) (seg gke 160 16) 0 0 [] (qL gli n8) = some (joinC (qL gli n8) (seg gli 4 8), seg gco 0 8)) ∧ (false = false → provB (qL gli n8) (seg gth 8 8) false = false ∨ open2 (seg gke 128 16) (seg gke 160 16) 0 0 [] (qL gli n8) = none) ∧ (false = true → seg gch 16 16 = seg gco 0 16) ∧ (∀ j, j < 16 → gch j = gch j) := by
                refine ⟨fun q => (by cases q), fun _ => Or.inl ?_, fun q => (by cases q), fun _ _ => rfl⟩
                by_cases h20 : n8 = 20
                · subst h20
                  refine decide_eq_false (fun q => ?_)
                  have h9 : ¬ ((20 = 20 ∧ gli 0 = 0x84#8 ∧ gli 1 = 0x82#8 ∧ levB (qz (gli 2)) false = true ∧ gli 3 = 0#8) ∧ ∀ j, j < k4 → gli (4 + j) = gth (8 + j)) := by rw [hr9] at hrt; exact of_decide_eq_false hrt.symm
                  rw [qL_len, qL_getD (by decide), qL_getD (by decide), qL_getD (by decide), qL_getD (by decide), qL_drop, seg_take (by decide), seg_ext] at q
                  exact h9 ⟨⟨rfl, q.2.1, q.2.2.1, q.2.2.2.1, q.2.2.2.2.1⟩, fun j hj => q.2.2.2.2.2 j (by omega)⟩
                · exact provB_no h20
              exact hret (⟨(false), (bi), (tu), (cd), (sk), (hf), (wd), (gm), (mac), (gbl), (gco), (gch), (mn)⟩ : Bool × (Nat → Bool) × (Nat → Bool) × (Nat → Bool) × (Nat → Bool) × (Nat → Bool) × (Nat → Bool) × (Nat → BitVec 8) × (Nat → BitVec 8) × (Nat → BitVec 8) × (Nat → BitVec 8) × (Nat → BitVec 8) × Nat) _ _ _ _ dX10_proven_120 hq_7 (hP.sub [0, 1, 2, 3, 4, 5, 6, 7, 8, 9, 10, 11, 12, 13, 14, 15, 16, 17, 18, 19, 20, 21, 22] rfl) (hD.sub [0, 1, 2, 3, 4, 5, 6, 7, 8, 9, 10, 11, 12, 13, 14, 15, 16, 17, 18, 19, 20, 21, 22] (by decide) rfl) hS
          · skip
            rw [q_beq] at c_5
            try rw [Bool.not_eq_false] at c_5
            have hrt9 := c_5
            refine lv_aload_n (pc := 81) hx hb dX10_proven_81 rfl (lv_at hl 3 rfl) ?_
            refine va_get (pc := 82) (D := D) (ci := 8) (v := .ref (a 31)) (C := RX10) (T := TX10) (N := 57) hx hb hts iu10 hown hK hP 0 rfl rfl 31 (by decide) (hts _ tw_1076) (fun _ h9 => h9) rfl dX10_proven_82 ?_
            refine lv_iconst (pc := 85) (v := nI 4) hx hb dX10_proven_85 (by decide +kernel) ?_
            refine lv_iload (pc := 86) hx hb dX10_proven_86 (lv_at hl 0 rfl) ?_
            refine lv_iadd (pc := 88) hx hb dX10_proven_88 ?_
            refine q_top (y := nI (4 + k4)) (nI_add 4 k4) ?_
            refine q_bald (pc := 89) hx hb hK hP 21 2 rfl rfl (k := 4 + k4) (v := qs (gli (4 + k4))) rfl (by omega) (by omega) rfl dX10_proven_89 ?_
            refine lv_aload_n (pc := 90) hx hb dX10_proven_90 rfl (lv_at hl 3 rfl) ?_
            refine va_get (pc := 91) (D := D) (ci := 8) (v := .ref (a 43)) (C := RX10) (T := TX10) (N := 57) hx hb hts iu10 hown hK hP 0 rfl rfl 43 (by decide) (hts _ tw_1088) (fun _ h9 => h9) rfl dX10_proven_91 ?_
            refine lv_bipush (pc := 94) (v := nI 8) hx hb dX10_proven_94 (by decide +kernel) ?_
            refine lv_iload (pc := 96) hx hb dX10_proven_96 (lv_at hl 0 rfl) ?_
            refine lv_iadd (pc := 98) hx hb dX10_proven_98 ?_
            refine q_top (y := nI (8 + k4)) (nI_add 8 k4) ?_
            refine q_bald (pc := 99) hx hb hK hP 22 2 rfl rfl (k := 8 + k4) (v := qs (gth (8 + k4))) rfl (by omega) (by omega) rfl dX10_proven_99 ?_
            refine lv_icmp_ne (pc := 100) (tgt := 107) hx hb dX10_proven_100 (by decide) (fun c_8 => ?_) (fun c_8 => ?_)
            · skip
              rw [qs_eq] at c_8
              have hq9 := c_8
              refine lv_iconst (pc := 107) (v := nI 0) hx hb dX10_proven_107 (by decide +kernel) ?_
              refine q_top (y := qb false) rfl ?_
              refine lv_istore_n (pc := 108) (lv' := [(3, .int (qb false)), (4, .int (nI k4)), (2, .int (qz (gli 2))), (0, .ref h0), (1, .int (nI n8))]) hx hb dX10_proven_108 rfl hl (by decide) rfl (fun ls hl => ?_)
              refine lv_iinc (pc := 109) (v := nI (k4 + 1)) (lv' := [(4, .int (nI (k4 + 1))), (3, .int (qb false)), (2, .int (qz (gli 2))), (0, .ref h0), (1, .int (nI n8))]) hx hb dX10_proven_109 hl (k := 1) rfl (by first | exact nI_add k4 1 | rfl) (by decide) rfl (fun ls hl => ?_)
              refine lv_goto (pc := 112) (tgt := 70) hx hb dX10_proven_112 (by decide) ?_
              exact ih70 (k4 + 1) false (by omega) (by
                    symm
                    have h8 := (by rw [hrt9] at hrt; exact of_decide_eq_true hrt.symm : (n8 = 20 ∧ gli 0 = 0x84#8 ∧ gli 1 = 0x82#8 ∧ levB (qz (gli 2)) false = true ∧ gli 3 = 0#8) ∧ ∀ j, j < k4 → gli (4 + j) = gth (8 + j))
                    first | (refine decide_eq_true ⟨h8.1, fun j hj => ?_⟩; by_cases q : j = k4; (subst q; exact hq9); exact h8.2 j (by omega)) | (refine decide_eq_false (fun q => ?_); exact hq9 (q.2 k4 (by omega)))) (by omega) _ _ (hP.sub [0, 1, 2, 3, 4, 5, 6, 7, 8, 9, 10, 11, 12, 13, 14, 15, 16, 17, 18, 19, 20, 21, 22] rfl) (hD.sub [0, 1, 2, 3, 4, 5, 6, 7, 8, 9, 10, 11, 12, 13, 14, 15, 16, 17, 18, 19, 20, 21, 22] (by decide) rfl) hS ls (lv_sub hl [0, 1, 2, 3, 4] rfl)
            · skip
              rw [qs_eq] at c_8
              have hq9 := c_8
              refine lv_iconst (pc := 103) (v := nI 1) hx hb dX10_proven_103 (by decide +kernel) ?_
              refine lv_goto (pc := 104) (tgt := 108) hx hb dX10_proven_104 (by decide) ?_
              refine q_top (y := qb true) rfl ?_
              refine lv_istore_n (pc := 108) (lv' := [(3, .int (qb true)), (4, .int (nI k4)), (2, .int (qz (gli 2))), (0, .ref h0), (1, .int (nI n8))]) hx hb dX10_proven_108 rfl hl (by decide) rfl (fun ls hl => ?_)
              refine lv_iinc (pc := 109) (v := nI (k4 + 1)) (lv' := [(4, .int (nI (k4 + 1))), (3, .int (qb true)), (2, .int (qz (gli 2))), (0, .ref h0), (1, .int (nI n8))]) hx hb dX10_proven_109 hl (k := 1) rfl (by first | exact nI_add k4 1 | rfl) (by decide) rfl (fun ls hl => ?_)
              refine lv_goto (pc := 112) (tgt := 70) hx hb dX10_proven_112 (by decide) ?_
              exact ih70 (k4 + 1) true (by omega) (by
                    symm
                    have h8 := (by rw [hrt9] at hrt; exact of_decide_eq_true hrt.symm : (n8 = 20 ∧ gli 0 = 0x84#8 ∧ gli 1 = 0x82#8 ∧ levB (qz (gli 2)) false = true ∧ gli 3 = 0#8) ∧ ∀ j, j < k4 → gli (4 + j) = gth (8 + j))
                    first | (refine decide_eq_true ⟨h8.1, fun j hj => ?_⟩; by_cases q : j = k4; (subst q; exact hq9); exact h8.2 j (by omega)) | (refine decide_eq_false (fun q => ?_); exact hq9 (q.2 k4 (by omega)))) (by omega) _ _ (hP.sub [0, 1, 2, 3, 4, 5, 6, 7, 8, 9, 10, 11, 12, 13, 14, 15, 16, 17, 18, 19, 20, 21, 22] rfl) (hD.sub [0, 1, 2, 3, 4, 5, 6, 7, 8, 9, 10, 11, 12, 13, 14, 15, 16, 17, 18, 19, 20, 21, 22] (by decide) rfl) hS ls (lv_sub hl [0, 1, 2, 3, 4] rfl)
    exact LP70 _ 0 b9 (by omega) (by rw [hb9]; congr 1; rw [eq_iff_iff]; exact ⟨fun q => ⟨q, fun j hj => absurd hj (Nat.not_lt_zero _)⟩, fun q => q.1⟩) (Nat.lt_succ_self _) _ _ (hP.sub [0, 1, 2, 3, 4, 5, 6, 7, 8, 9, 10, 11, 12, 13, 14, 15, 16, 17, 18, 19, 20, 21, 22] rfl) (hD.sub [0, 1, 2, 3, 4, 5, 6, 7, 8, 9, 10, 11, 12, 13, 14, 15, 16, 17, 18, 19, 20, 21, 22] (by decide) rfl) hS ls (lv_sub hl [0, 1, 2, 3, 4] rfl)
  refine lv_iload_n (pc := 11) hx hb dX10_proven_11 rfl (lv_at hl 2 rfl) ?_
  refine lv_bipush (pc := 12) (v := nI 20) hx hb dX10_proven_12 (by decide +kernel) ?_
  refine lv_icmp_ne (pc := 14) (tgt := 65) hx hb dX10_proven_14 (by decide) (fun c_9 => ?_) (fun c_9 => ?_)
  · skip
    rw [nI_eq (by omega) (by omega)] at c_9
    refine lv_iconst (pc := 65) (v := nI 0) hx hb dX10_proven_65 (by decide +kernel) ?_
    refine q_top (y := qb false) rfl ?_
    exact JN66 false (by
                symm
                first | (refine decide_eq_true ⟨by assumption, by assumption, by assumption, ?_, by assumption⟩; rw [hru] at hz_55; exact hz_55.symm.trans hzl) | (refine decide_eq_false (fun q => ?_); obtain ⟨q1, q2, q3, q4, q5⟩ := q; first | contradiction | (rw [hru] at hz_55; exact absurd (hz_55.trans q4) (by rw [hzl]; decide)))) _ _ (hP.sub [0, 1, 2, 3, 4, 5, 6, 7, 8, 9, 10, 11, 12, 13, 14, 15, 16, 17, 18, 19, 20, 21, 22] rfl) (hD.sub [0, 1, 2, 3, 4, 5, 6, 7, 8, 9, 10, 11, 12, 13, 14, 15, 16, 17, 18, 19, 20, 21, 22] (by decide) rfl) hS ls (lv_sub hl [0, 1, 2] rfl)
  · skip
    rw [nI_eq (by omega) (by omega)] at c_9
    refine lv_aload_n (pc := 17) hx hb dX10_proven_17 rfl (lv_at hl 1 rfl) ?_
    refine va_get (pc := 18) (D := D) (ci := 8) (v := .ref (a 31)) (C := RX10) (T := TX10) (N := 57) hx hb hts iu10 hown hK hP 0 rfl rfl 31 (by decide) (hts _ tw_1076) (fun _ h9 => h9) rfl dX10_proven_18 ?_
    refine lv_iconst (pc := 21) (v := nI 0) hx hb dX10_proven_21 (by decide +kernel) ?_
    refine q_bald (pc := 22) hx hb hK hP 21 2 rfl rfl (k := 0) (v := qs (gli 0)) rfl (by omega) (by omega) rfl dX10_proven_22 ?_
    refine lv_bipush (pc := 23) (v := (-124)) hx hb dX10_proven_23 (by decide +kernel) ?_
    refine lv_icmp_ne (pc := 25) (tgt := 65) hx hb dX10_proven_25 (by decide) (fun c_10 => ?_) (fun c_10 => ?_)
    · skip
      rw [qs_84] at c_10
      refine lv_iconst (pc := 65) (v := nI 0) hx hb dX10_proven_65 (by decide +kernel) ?_
      refine q_top (y := qb false) rfl ?_
      exact JN66 false (by
                  symm
                  first | (refine decide_eq_true ⟨by assumption, by assumption, by assumption, ?_, by assumption⟩; rw [hru] at hz_55; exact hz_55.symm.trans hzl) | (refine decide_eq_false (fun q => ?_); obtain ⟨q1, q2, q3, q4, q5⟩ := q; first | contradiction | (rw [hru] at hz_55; exact absurd (hz_55.trans q4) (by rw [hzl]; decide)))) _ _ (hP.sub [0, 1, 2, 3, 4, 5, 6, 7, 8, 9, 10, 11, 12, 13, 14, 15, 16, 17, 18, 19, 20, 21, 22] rfl) (hD.sub [0, 1, 2, 3, 4, 5, 6, 7, 8, 9, 10, 11, 12, 13, 14, 15, 16, 17, 18, 19, 20, 21, 22] (by decide) rfl) hS ls (lv_sub hl [0, 1, 2] rfl)
    · skip
      rw [qs_84] at c_10
      refine lv_aload_n (pc := 28) hx hb dX10_proven_28 rfl (lv_at hl 1 rfl) ?_
      refine va_get (pc := 29) (D := D) (ci := 8) (v := .ref (a 31)) (C := RX10) (T := TX10) (N := 57) hx hb hts iu10 hown hK hP 0 rfl rfl 31 (by decide) (hts _ tw_1076) (fun _ h9 => h9) rfl dX10_proven_29 ?_
      refine lv_iconst (pc := 32) (v := nI 1) hx hb dX10_proven_32 (by decide +kernel) ?_
      refine q_bald (pc := 33) hx hb hK hP 21 2 rfl rfl (k := 1) (v := qs (gli 1)) rfl (by omega) (by omega) rfl dX10_proven_33 ?_
      refine lv_bipush (pc := 34) (v := (-126)) hx hb dX10_proven_34 (by decide +kernel) ?_
      refine lv_icmp_ne (pc := 36) (tgt := 65) hx hb dX10_proven_36 (by decide) (fun c_11 => ?_) (fun c_11 => ?_)
      · skip
        rw [qs_82] at c_11
        refine lv_iconst (pc := 65) (v := nI 0) hx hb dX10_proven_65 (by decide +kernel) ?_
        refine q_top (y := qb false) rfl ?_
        exact JN66 false (by
                    symm
                    first | (refine decide_eq_true ⟨by assumption, by assumption, by assumption, ?_, by assumption⟩; rw [hru] at hz_55; exact hz_55.symm.trans hzl) | (refine decide_eq_false (fun q => ?_); obtain ⟨q1, q2, q3, q4, q5⟩ := q; first | contradiction | (rw [hru] at hz_55; exact absurd (hz_55.trans q4) (by rw [hzl]; decide)))) _ _ (hP.sub [0, 1, 2, 3, 4, 5, 6, 7, 8, 9, 10, 11, 12, 13, 14, 15, 16, 17, 18, 19, 20, 21, 22] rfl) (hD.sub [0, 1, 2, 3, 4, 5, 6, 7, 8, 9, 10, 11, 12, 13, 14, 15, 16, 17, 18, 19, 20, 21, 22] (by decide) rfl) hS ls (lv_sub hl [0, 1, 2] rfl)
      · skip
        rw [qs_82] at c_11
        refine lv_aload_n (pc := 39) hx hb dX10_proven_39 rfl (lv_at hl 1 rfl) ?_
        refine va_get (pc := 40) (D := D) (ci := 8) (v := .ref (a 31)) (C := RX10) (T := TX10) (N := 57) hx hb hts iu10 hown hK hP 0 rfl rfl 31 (by decide) (hts _ tw_1076) (fun _ h9 => h9) rfl dX10_proven_40 ?_
        refine lv_iconst (pc := 43) (v := nI 3) hx hb dX10_proven_43 (by decide +kernel) ?_
        refine q_bald (pc := 44) hx hb hK hP 21 2 rfl rfl (k := 3) (v := qs (gli 3)) rfl (by omega) (by omega) rfl dX10_proven_44 ?_
        refine lv_if_ne (pc := 45) (tgt := 65) hx hb dX10_proven_45 (by decide) (fun c_12 => ?_) (fun c_12 => ?_)
        · skip
          rw [qs_0] at c_12
          refine lv_iconst (pc := 65) (v := nI 0) hx hb dX10_proven_65 (by decide +kernel) ?_
          refine q_top (y := qb false) rfl ?_
          exact JN66 false (by
                      symm
                      first | (refine decide_eq_true ⟨by assumption, by assumption, by assumption, ?_, by assumption⟩; rw [hru] at hz_55; exact hz_55.symm.trans hzl) | (refine decide_eq_false (fun q => ?_); obtain ⟨q1, q2, q3, q4, q5⟩ := q; first | contradiction | (rw [hru] at hz_55; exact absurd (hz_55.trans q4) (by rw [hzl]; decide)))) _ _ (hP.sub [0, 1, 2, 3, 4, 5, 6, 7, 8, 9, 10, 11, 12, 13, 14, 15, 16, 17, 18, 19, 20, 21, 22] rfl) (hD.sub [0, 1, 2, 3, 4, 5, 6, 7, 8, 9, 10, 11, 12, 13, 14, 15, 16, 17, 18, 19, 20, 21, 22] (by decide) rfl) hS ls (lv_sub hl [0, 1, 2] rfl)
        · skip
          rw [qs_0] at c_12
          refine lv_iload_n (pc := 48) hx hb dX10_proven_48 rfl (lv_at hl 0 rfl) ?_
          refine lv_aload_n (pc := 49) hx hb dX10_proven_49 rfl (lv_at hl 1 rfl) ?_
          refine va_get (pc := 50) (D := D) (ci := 8) (v := .ref (a 36)) (C := RX10) (T := TX10) (N := 57) hx hb hts iu10 hown hK hP 0 rfl rfl 36 (by decide) (hts _ tw_1081) (fun _ h9 => h9) rfl dX10_proven_50 ?_
          refine lv_iconst (pc := 53) (v := nI 1) hx hb dX10_proven_53 (by decide +kernel) ?_
          refine q_iald (pc := 54) hx hb hK hP 19 0 rfl rfl (k := 1) (v := nI (ru 1)) rfl (by omega) (by omega) rfl dX10_proven_54 ?_
          refine cs_S (pc := 55) (idx := 356) (n := 2) (wr := [(h0, oM a ar mn tp osz lsz ns ct), (a 0, aK ta 64 tIP), (a 1, aK ta 48 tSPR), (a 2, aK ta 32 tMIX), (a 3, aK ta 56 tCH), (a 4, aK ta 48 tSEC), (a 5, aK ta 512 tSBX), (a 10, aB ta 64 bi), (a 11, aB ta 64 tu), (a 12, aB ta 56 cd), (a 13, aB ta 768 sk), (a 14, aB ta 32 hf), (a 15, aB ta 48 wd), (a 22, aS ta 700 gm), (a 24, aS ta 16 mac), (a 53, aS ta 16 gbl), (a 55, aS ta 16 gco), (a 45, aS ta 32 gch), (a 41, aS ta 256 gke), (a 36, aK ta 2 ru), (a 37, aK ta 2 le), (a 31, aS ta 300 gli), (a 43, aS ta 16 gth)]) (As := [.int (qz (gli 2)), .int (nI (ru 1))]) (rest := []) hx hb hml hown hts hGok hK hA hG hl.1 hP hD hS (ct_X10_isLevel ll D ta hGok (qz (gli 2)) (ru 1) (by first | assumption | omega | rfl | decide) H.size) tw_1364 tw_1362 tw_1363 tw_75 hdX10_isLevel rfl ⟨rfl, rfl, Nat.le_of_ble_eq_true rfl, Nat.le_of_ble_eq_true rfl, Nat.le_of_ble_eq_true rfl, Nat.le_of_ble_eq_true rfl⟩ [] [0, 1, 2, 3, 4, 5, 6, 7, 8, 9, 10, 11, 12, 13, 14, 15, 16, 17, 18, 19, 20, 21, 22] rfl rfl (by decide) rfl (Nat.le_of_ble_eq_true rfl) dX10_proven_55 (fun u H locs hq hP hD hS => ?_)
          generalize u = z_55 at hq hP hD ⊢
          have hq : (z_55 = levB (qz (gli 2)) (decide ((ru 1) = 3))) := hq
          have hz_55 := hq
          refine W.eq (g2 := F0 mm 58 ls [.int (qb z_55)]) rfl ?_
          have hP : va_P D vwCl [(h0, oM a ar mn tp osz lsz ns ct), (a 0, aK ta 64 tIP), (a 1, aK ta 48 tSPR), (a 2, aK ta 32 tMIX), (a 3, aK ta 56 tCH), (a 4, aK ta 48 tSEC), (a 5, aK ta 512 tSBX), (a 10, aB ta 64 bi), (a 11, aB ta 64 tu), (a 12, aB ta 56 cd), (a 13, aB ta 768 sk), (a 14, aB ta 32 hf), (a 15, aB ta 48 wd), (a 22, aS ta 700 gm), (a 24, aS ta 16 mac), (a 53, aS ta 16 gbl), (a 55, aS ta 16 gco), (a 45, aS ta 32 gch), (a 41, aS ta 256 gke), (a 36, aK ta 2 ru), (a 37, aK ta 2 le), (a 31, aS ta 300 gli), (a 43, aS ta 16 gth)] H := hP
          have hD : va_D A [(h0, oM a ar mn tp osz lsz ns ct), (a 0, aK ta 64 tIP), (a 1, aK ta 48 tSPR), (a 2, aK ta 32 tMIX), (a 3, aK ta 56 tCH), (a 4, aK ta 48 tSEC), (a 5, aK ta 512 tSBX), (a 10, aB ta 64 bi), (a 11, aB ta 64 tu), (a 12, aB ta 56 cd), (a 13, aB ta 768 sk), (a 14, aB ta 32 hf), (a 15, aB ta 48 wd), (a 22, aS ta 700 gm), (a 24, aS ta 16 mac), (a 53, aS ta 16 gbl), (a 55, aS ta 16 gco), (a 45, aS ta 32 gch), (a 41, aS ta 256 gke), (a 36, aK ta 2 ru), (a 37, aK ta 2 le), (a 31, aS ta 300 gli), (a 43, aS ta 16 gth)] := hD
          refine lv_if_eq (pc := 58) (tgt := 65) hx hb dX10_proven_58 (by decide) (fun c_13 => ?_) (fun c_13 => ?_)
          · skip
            rw [q_beq] at c_13
            try rw [Bool.not_eq_false] at c_13
            have hzl := c_13
            refine lv_iconst (pc := 65) (v := nI 0) hx hb dX10_proven_65 (by decide +kernel) ?_
            refine q_top (y := qb false) rfl ?_
            exact JN66 false (by
                        symm
                        first | (refine decide_eq_true ⟨by assumption, by assumption, by assumption, ?_, by assumption⟩; rw [hru] at hz_55; exact hz_55.symm.trans hzl) | (refine decide_eq_false (fun q => ?_); obtain ⟨q1, q2, q3, q4, q5⟩ := q; first | contradiction | (rw [hru] at hz_55; exact absurd (hz_55.trans q4) (by rw [hzl]; decide)))) _ _ (hP.sub [0, 1, 2, 3, 4, 5, 6, 7, 8, 9, 10, 11, 12, 13, 14, 15, 16, 17, 18, 19, 20, 21, 22] rfl) (hD.sub [0, 1, 2, 3, 4, 5, 6, 7, 8, 9, 10, 11, 12, 13, 14, 15, 16, 17, 18, 19, 20, 21, 22] (by decide) rfl) hS ls (lv_sub hl [0, 1, 2] rfl)
          · skip
            rw [q_beq] at c_13
            try rw [Bool.not_eq_false] at c_13
            have hzl := c_13
            refine lv_iconst (pc := 61) (v := nI 1) hx hb dX10_proven_61 (by decide +kernel) ?_
            refine lv_goto (pc := 62) (tgt := 66) hx hb dX10_proven_62 (by decide) ?_
            refine q_top (y := qb true) rfl ?_
            exact JN66 true (by
                        symm
                        first | (refine decide_eq_true ⟨by assumption, by assumption, by assumption, ?_, by assumption⟩; rw [hru] at hz_55; exact hz_55.symm.trans hzl) | (refine decide_eq_false (fun q => ?_); obtain ⟨q1, q2, q3, q4, q5⟩ := q; first | contradiction | (rw [hru] at hz_55; exact absurd (hz_55.trans q4) (by rw [hzl]; decide)))) _ _ (hP.sub [0, 1, 2, 3, 4, 5, 6, 7, 8, 9, 10, 11, 12, 13, 14, 15, 16, 17, 18, 19, 20, 21, 22] rfl) (hD.sub [0, 1, 2, 3, 4, 5, 6, 7, 8, 9, 10, 11, 12, 13, 14, 15, 16, 17, 18, 19, 20, 21, 22] (by decide) rfl) hS ls (lv_sub hl [0, 1, 2] rfl)
set_option maxHeartbeats 4000000 in
set_option maxRecDepth 100000 in
theorem ct_X10_proven_3 (ll : Launch) (D : va_G) (ta : Nat → ClassId) {G : (Nat → Prop) → State → Heap → Prop} (hGok : GOK G) (h0 : Nat) (a : Nat → Nat) (ar : Nat) (mn : Nat) (tp : Nat) (osz : Nat) (lsz : Nat) (ns : Nat) (ct : Nat) (rk : Nat → BitVec 8) (ce : Nat → BitVec 8) (gm : Nat → BitVec 8) (mac : Nat → BitVec 8) (k1 : Nat → BitVec 8) (gbl : Nat → BitVec 8) (gco : Nat → BitVec 8) (gch : Nat → BitVec 8) (gke : Nat → BitVec 8) (gli : Nat → BitVec 8) (gth : Nat → BitVec 8) (ru : Nat → Nat) (le : Nat → Nat) (n8 : Nat) (hn8 : n8 ≤ 300) (hru : ru 1 = 3) (hle : le 1 = 16 ∨ le 1 = 24 ∨ le 1 = 32) (sz : Nat) : CT ll yX10_proven cX10_proven 5 (some .boolean) ({ frames := 6, cells := 0, slots := 0, locals := 154 } : Room) D ta G [.ref h0, .int (nI n8)] [(h0, oM a ar mn tp osz lsz ns ct), (a 8, aZ ta 256 BOX), (a 9, aZ ta 256 UBOX), (a 16, aS ta 240 rk), (a 18, aS ta 16 ce), (a 22, aS ta 700 gm), (a 24, aS ta 16 mac), (a 25, aS ta 16 k1), (a 53, aS ta 16 gbl), (a 55, aS ta 16 gco), (a 45, aS ta 32 gch), (a 41, aS ta 256 gke), (a 36, aK ta 2 ru), (a 37, aK ta 2 le), (a 31, aS ta 300 gli), (a 43, aS ta 16 gth)] sz (S := Bool × (Nat → BitVec 8) × (Nat → BitVec 8) × (Nat → BitVec 8) × (Nat → BitVec 8) × (Nat → BitVec 8) × (Nat → BitVec 8) × (Nat → BitVec 8) × (Nat → BitVec 8) × Nat × Nat) (fun u => some (.int (qb u.1))) (fun u => (u.1 = true → provB (qL gli n8) (seg gth 8 8) true = true ∧ open3 (seg gke 128 (le 1)) (seg gke 160 (le 1)) 0 0 (zeroL 16) (qL gli n8) = some (joinC (qL gli n8) (seg gli 4 8), seg u.2.2.2.2.2.2.2.1 0 16)) ∧ (u.1 = false → provB (qL gli n8) (seg gth 8 8) true = false ∨ open3 (seg gke 128 (le 1)) (seg gke 160 (le 1)) 0 0 (zeroL 16) (qL gli n8) = none) ∧ (u.1 = true → seg u.2.2.2.2.2.2.2.2.1 16 16 = seg u.2.2.2.2.2.2.2.1 0 16) ∧ (∀ j, j < 16 → u.2.2.2.2.2.2.2.2.1 j = gch j)) (fun u => [(h0, oM a u.2.2.2.2.2.2.2.2.2.2 u.2.2.2.2.2.2.2.2.2.1 tp osz lsz ns ct), (a 8, aZ ta 256 BOX), (a 9, aZ ta 256 UBOX), (a 16, aS ta 240 u.2.1), (a 18, aS ta 16 u.2.2.1), (a 22, aS ta 700 u.2.2.2.1), (a 24, aS ta 16 u.2.2.2.2.1), (a 25, aS ta 16 u.2.2.2.2.2.1), (a 53, aS ta 16 u.2.2.2.2.2.2.1), (a 55, aS ta 16 u.2.2.2.2.2.2.2.1), (a 45, aS ta 32 u.2.2.2.2.2.2.2.2.1), (a 41, aS ta 256 gke), (a 36, aK ta 2 ru), (a 37, aK ta 2 le), (a 31, aS ta 300 gli), (a 43, aS ta 16 gth)]) 0 0 := by
  refine CT.of_z (r := fun u => u.1) rfl (by decide) (Nat.le_of_ble_eq_true rfl) ?_
  intro pp ee ss mm below meth kc A Q hx hb hml hown hin hts hK hA hsz hG hret H locs hP hD hS ls hl
  have hl : lv_has ls 5 [(0, .ref h0), (1, .int (nI n8))] := hl
  refine lv_aload_n (pc := 0) hx hb dX10_proven_0 rfl (lv_at hl 0 rfl) ?_
  refine va_get (pc := 1) (D := D) (ci := 8) (v := .ref (a 31)) (C := RX10) (T := TX10) (N := 57) hx hb hts iu10 hown hK hP 0 rfl rfl 31 (by decide) (hts _ tw_1076) (fun _ h9 => h9) rfl dX10_proven_1 ?_
  refine lv_iconst (pc := 4) (v := nI 2) hx hb dX10_proven_4 (by decide +kernel) ?_
  refine q_bald (pc := 5) hx hb hK hP 14 2 rfl rfl (k := 2) (v := qs (gli 2)) rfl (by omega) (by omega) rfl dX10_proven_5 ?_
  refine lv_sipush (pc := 6) (v := nI 255) hx hb dX10_proven_6 (by decide +kernel) ?_
  refine lv_iand (pc := 9) hx hb dX10_proven_9 ?_
  refine q_top (y := qz (gli 2)) ((q_m255 _).trans (congrArg qz (qlo_qs _))) ?_
  refine lv_istore_n (pc := 10) (lv' := [(2, .int (qz (gli 2))), (0, .ref h0), (1, .int (nI n8))]) hx hb dX10_proven_10 rfl hl (by decide) rfl (fun ls hl => ?_)
  have JN66 : ∀ (b9 : Bool), (b9 = decide (n8 = 20 ∧ gli 0 = 0x84#8 ∧ gli 1 = 0x82#8 ∧ levB (qz (gli 2)) true = true ∧ gli 3 = 0#8)) → ∀ (H : Heap) (locs : List Loc), va_P D vwCl [(h0, oM a ar mn tp osz lsz ns ct), (a 8, aZ ta 256 BOX), (a 9, aZ ta 256 UBOX), (a 16, aS ta 240 rk), (a 18, aS ta 16 ce), (a 22, aS ta 700 gm), (a 24, aS ta 16 mac), (a 25, aS ta 16 k1), (a 53, aS ta 16 gbl), (a 55, aS ta 16 gco), (a 45, aS ta 32 gch), (a 41, aS ta 256 gke), (a 36, aK ta 2 ru), (a 37, aK ta 2 le), (a 31, aS ta 300 gli), (a 43, aS ta 16 gth)] H → va_D A [(h0, oM a ar mn tp osz lsz ns ct), (a 8, aZ ta 256 BOX), (a 9, aZ ta 256 UBOX), (a 16, aS ta 240 rk), (a 18, aS ta 16 ce), (a 22, aS ta 700 gm), (a 24, aS ta 16 mac), (a 25, aS ta 16 k1), (a 53, aS ta 16 gbl), (a 55, aS ta 16 gco), (a 45, aS ta 32 gch), (a 41, aS ta 256 gke), (a 36, aK ta 2 ru), (a 37, aK ta 2 le), (a 31, aS ta 300 gli), (a 43, aS ta 16 gth)] → va_S A ss.heap H locs → ∀ ls : Array Slot, lv_has ls 5 [(2, .int (qz (gli 2))), (0, .ref h0), (1, .int (nI n8))] → W pp ll ee ({ frames := 6, cells := 0, slots := 0, locals := 154 } : Room) ss mm (([.ref h0, .int (nI n8)] : List Value).toArray) below meth kc H locs 0 0 Q (F0 mm 66 ls [.int (qb b9)]) := by
    intro b9 hb9 H locs hP hD hS ls hl
    refine lv_istore_n (pc := 66) (lv' := [(3, .int (qb b9)), (2, .int (qz (gli 2))), (0, .ref h0), (1, .int (nI n8))]) hx hb dX10_proven_66 rfl hl (by decide) rfl (fun ls hl => ?_)
    refine lv_iconst (pc := 67) (v := nI 0) hx hb dX10_proven_67 (by decide +kernel) ?_
    refine lv_istore (pc := 68) (lv' := [(4, .int (nI 0)), (3, .int (qb b9)), (2, .int (qz (gli 2))), (0, .ref h0), (1, .int (nI n8))]) hx hb dX10_proven_68 hl (by decide) rfl (fun ls hl => ?_)
    have LP70 : ∀ (nn70 : Nat) (k4 : Nat) (rt : Bool), (k4 ≤ 8) → (rt = decide ((n8 = 20 ∧ gli 0 = 0x84#8 ∧ gli 1 = 0x82#8 ∧ levB (qz (gli 2)) true = true ∧ gli 3 = 0#8) ∧ ∀ j, j < k4 → gli (4 + j) = gth (8 + j))) → (8 - k4 < nn70) → ∀ (H : Heap) (locs : List Loc), va_P D vwCl [(h0, oM a ar mn tp osz lsz ns ct), (a 8, aZ ta 256 BOX), (a 9, aZ ta 256 UBOX), (a 16, aS ta 240 rk), (a 18, aS ta 16 ce), (a 22, aS ta 700 gm), (a 24, aS ta 16 mac), (a 25, aS ta 16 k1), (a 53, aS ta 16 gbl), (a 55, aS ta 16 gco), (a 45, aS ta 32 gch), (a 41, aS ta 256 gke), (a 36, aK ta 2 ru), (a 37, aK ta 2 le), (a 31, aS ta 300 gli), (a 43, aS ta 16 gth)] H → va_D A [(h0, oM a ar mn tp osz lsz ns ct), (a 8, aZ ta 256 BOX), (a 9, aZ ta 256 UBOX), (a 16, aS ta 240 rk), (a 18, aS ta 16 ce), (a 22, aS ta 700 gm), (a 24, aS ta 16 mac), (a 25, aS ta 16 k1), (a 53, aS ta 16 gbl), (a 55, aS ta 16 gco), (a 45, aS ta 32 gch), (a 41, aS ta 256 gke), (a 36, aK ta 2 ru), (a 37, aK ta 2 le), (a 31, aS ta 300 gli), (a 43, aS ta 16 gth)] → va_S A ss.heap H locs → ∀ ls : Array Slot, lv_has ls 5 [(4, .int (nI k4)), (3, .int (qb rt)), (2, .int (qz (gli 2))), (0, .ref h0), (1, .int (nI n8))] → W pp ll ee ({ frames := 6, cells := 0, slots := 0, locals := 154 } : Room) ss mm (([.ref h0, .int (nI n8)] : List Value).toArray) below meth kc H locs 0 0 Q (F0 mm 70 ls []) := by
      intro nn70
      induction nn70 with
      | zero => intro k4 rt hk4 hrt hmu; exact absurd hmu (Nat.not_lt_zero _)
      | succ nn70 ih70 =>
        intro k4 rt hk4 hrt hmu70 H locs hP hD hS ls hl
        refine lv_iload (pc := 70) hx hb dX10_proven_70 (lv_at hl 0 rfl) ?_
        refine lv_bipush (pc := 72) (v := nI 8) hx hb dX10_proven_72 (by decide +kernel) ?_
        refine lv_icmp_ge (pc := 74) (tgt := 115) hx hb dX10_proven_74 (by decide) (fun c_1 => ?_) (fun c_1 => ?_)
        · skip
          rw [nI_leI (by omega) (by omega)] at c_1
          refine lv_iload_n (pc := 115) hx hb dX10_proven_115 rfl (lv_at hl 1 rfl) ?_
          refine lv_if_ne (pc := 116) (tgt := 121) hx hb dX10_proven_116 (by decide) (fun c_2 => ?_) (fun c_2 => ?_)
          · skip
            rw [q_beq] at c_2
            try rw [Bool.not_eq_false] at c_2
            have hr9 := c_2
            refine lv_aload_n (pc := 121) hx hb dX10_proven_121 rfl (lv_at hl 3 rfl) ?_
            refine lv_iconst (pc := 122) (v := nI 1) hx hb dX10_proven_122 (by decide +kernel) ?_
            refine lv_aload_n (pc := 123) hx hb dX10_proven_123 rfl (lv_at hl 3 rfl) ?_
            refine va_get (pc := 124) (D := D) (ci := 8) (v := .ref (a 31)) (C := RX10) (T := TX10) (N := 57) hx hb hts iu10 hown hK hP 0 rfl rfl 31 (by decide) (hts _ tw_1076) (fun _ h9 => h9) rfl dX10_proven_124 ?_
            refine lv_iconst (pc := 127) (v := nI 0) hx hb dX10_proven_127 (by decide +kernel) ?_
            refine lv_aload_n (pc := 128) hx hb dX10_proven_128 rfl (lv_at hl 3 rfl) ?_
            refine va_get (pc := 129) (D := D) (ci := 8) (v := .ref (a 31)) (C := RX10) (T := TX10) (N := 57) hx hb hts iu10 hown hK hP 0 rfl rfl 31 (by decide) (hts _ tw_1076) (fun _ h9 => h9) rfl dX10_proven_129 ?_
            refine lv_iconst (pc := 132) (v := nI 4) hx hb dX10_proven_132 (by decide +kernel) ?_
            refine lv_bipush (pc := 133) (v := nI 8) hx hb dX10_proven_133 (by decide +kernel) ?_
            refine lv_iconst (pc := 135) (v := nI 1) hx hb dX10_proven_135 (by decide +kernel) ?_
            refine cs_V (pc := 136) (idx := 360) (n := 7) (wr := [(a 43, aS ta 16 gth)]) (As := [.int (nI 1), .ref (a 31), .int (nI 0), .ref (a 31), .int (nI 4), .int (nI 8), .int (nI 1)]) (rest := []) (ci := 8) hx hb hml hown hts hGok hK hA hG hl.1 hP hD hS (ct_X10_commandMac_311 ll D ta hGok h0 a ar mn tp osz lsz ns ct rk ce gm mac k1 gbl gco gch gke ru le 1 (a 31) 300 gli 4 8 (by first | assumption | omega | rfl | decide) (by first | assumption | omega | rfl | decide) (by first | assumption | omega | rfl | decide) (by first | assumption | omega | rfl | decide) (by first | assumption | omega | rfl | decide) (by first | assumption | omega | rfl | decide) H.size) tw_1368 tw_1365 tw_1367 tw_49 tw_75 hdX10_commandMac rfl ⟨rfl, rfl, Nat.le_of_ble_eq_true rfl, Nat.le_of_ble_eq_true rfl, Nat.le_of_ble_eq_true rfl, Nat.le_of_ble_eq_true rfl⟩ rfl rfl (q0 := 0) rfl [0, 1, 2, 3, 4, 5, 6, 7, 8, 9, 10, 11, 12, 13, 14] [15] rfl rfl (by decide) rfl (Nat.le_of_ble_eq_true rfl) dX10_proven_136 (fun u H locs hq hP hD hS => ?_)
            obtain ⟨rk1_136, ce1_136, gm1_136, mac1_136, k11_136, gbl1_136, gco1_136, gch1_136, mn1_136, ar1_136⟩ := u
            have hq : (seg gco1_136 0 16 = cmacL (seg gke (128 * 1 + 32) (le 1)) ((zeroL 16) ++ (headL (seg gli 0 4) 8 ++ seg gli 4 8))) ∧ (seg gch1_136 (16 * 1) 16 = seg gco1_136 0 16) ∧ (∀ jz, (jz < 16 * 1 ∨ 16 * 1 + 16 ≤ jz) → gch1_136 jz = gch jz) := hq
            obtain ⟨hs_136, hc_136, hfc_136⟩ := hq
            refine W.eq (g2 := F0 mm 139 ls []) rfl ?_
            have hP : va_P D vwCl [(a 43, aS ta 16 gth), (h0, oM a ar1_136 mn1_136 tp osz lsz ns ct), (a 8, aZ ta 256 BOX), (a 9, aZ ta 256 UBOX), (a 16, aS ta 240 rk1_136), (a 18, aS ta 16 ce1_136), (a 22, aS ta 700 gm1_136), (a 24, aS ta 16 mac1_136), (a 25, aS ta 16 k11_136), (a 53, aS ta 16 gbl1_136), (a 55, aS ta 16 gco1_136), (a 45, aS ta 32 gch1_136), (a 41, aS ta 256 gke), (a 36, aK ta 2 ru), (a 37, aK ta 2 le), (a 31, aS ta 300 gli)] H := hP
            have hD : va_D A [(a 43, aS ta 16 gth), (h0, oM a ar1_136 mn1_136 tp osz lsz ns ct), (a 8, aZ ta 256 BOX), (a 9, aZ ta 256 UBOX), (a 16, aS ta 240 rk1_136), (a 18, aS ta 16 ce1_136), (a 22, aS ta 700 gm1_136), (a 24, aS ta 16 mac1_136), (a 25, aS ta 16 k11_136), (a 53, aS ta 16 gbl1_136), (a 55, aS ta 16 gco1_136), (a 45, aS ta 32 gch1_136), (a 41, aS ta 256 gke), (a 36, aK ta 2 ru), (a 37, aK ta 2 le), (a 31, aS ta 300 gli)] := hD
            refine lv_aload_n (pc := 139) hx hb dX10_proven_139 rfl (lv_at hl 3 rfl) ?_
            refine lv_bipush (pc := 140) (v := nI 12) hx hb dX10_proven_140 (by decide +kernel) ?_
            refine cs_V (pc := 142) (idx := 385) (n := 1) (wr := [(a 43, aS ta 16 gth), (a 8, aZ ta 256 BOX), (a 9, aZ ta 256 UBOX), (a 16, aS ta 240 rk1_136), (a 18, aS ta 16 ce1_136), (a 22, aS ta 700 gm1_136), (a 24, aS ta 16 mac1_136), (a 25, aS ta 16 k11_136), (a 53, aS ta 16 gbl1_136), (a 45, aS ta 32 gch1_136), (a 41, aS ta 256 gke), (a 36, aK ta 2 ru), (a 37, aK ta 2 le)]) (As := [.int (nI 12)]) (rest := []) (ci := 8) hx hb hml hown hts hGok hK hA hG hl.1 hP hD hS (ct_X10_isCode ll D ta hGok h0 a ar1_136 mn1_136 tp osz lsz ns ct gli gco1_136 12 (by first | assumption | omega | rfl | decide) H.size) tw_1412 tw_1409 tw_1411 tw_58 tw_75 hdX10_isCode rfl ⟨rfl, rfl, Nat.le_of_ble_eq_true rfl, Nat.le_of_ble_eq_true rfl, Nat.le_of_ble_eq_true rfl, Nat.le_of_ble_eq_true rfl⟩ rfl rfl (q0 := 1) rfl [1, 15, 10] [0, 2, 3, 4, 5, 6, 7, 8, 9, 11, 12, 13, 14] rfl rfl (by decide) rfl (Nat.le_of_ble_eq_true rfl) dX10_proven_142 (fun u H locs hq hP hD hS => ?_)
            generalize u = z_142 at hq hP hD ⊢
            have hq : (z_142 = decide (seg gli 12 8 = seg gco1_136 0 8)) := hq
            have hz_142 := hq
            refine W.eq (g2 := F0 mm 145 ls [.int (qb z_142)]) rfl ?_
            have hP : va_P D vwCl [(a 43, aS ta 16 gth), (a 8, aZ ta 256 BOX), (a 9, aZ ta 256 UBOX), (a 16, aS ta 240 rk1_136), (a 18, aS ta 16 ce1_136), (a 22, aS ta 700 gm1_136), (a 24, aS ta 16 mac1_136), (a 25, aS ta 16 k11_136), (a 53, aS ta 16 gbl1_136), (a 45, aS ta 32 gch1_136), (a 41, aS ta 256 gke), (a 36, aK ta 2 ru), (a 37, aK ta 2 le), (h0, oM a ar1_136 mn1_136 tp osz lsz ns ct), (a 31, aS ta 300 gli), (a 55, aS ta 16 gco1_136)] H := hP
            have hD : va_D A [(a 43, aS ta 16 gth), (a 8, aZ ta 256 BOX), (a 9, aZ ta 256 UBOX), (a 16, aS ta 240 rk1_136), (a 18, aS ta 16 ce1_136), (a 22, aS ta 700 gm1_136), (a 24, aS ta 16 mac1_136), (a 25, aS ta 16 k11_136), (a 53, aS ta 16 gbl1_136), (a 45, aS ta 32 gch1_136), (a 41, aS ta 256 gke), (a 36, aK ta 2 ru), (a 37, aK ta 2 le), (h0, oM a ar1_136 mn1_136 tp osz lsz ns ct), (a 31, aS ta 300 gli), (a 55, aS ta 16 gco1_136)] := hD
            have hq_3 : (z_142 = true → provB (qL gli n8) (seg gth 8 8) true = true ∧ open3 (seg gke 128 (le 1)) (seg gke 160 (le 1)) 0 0 (zeroL 16) (qL gli n8) = some (joinC (qL gli n8) (seg gli 4 8), seg gco1_136 0 16)) ∧ (z_142 = false → provB (qL gli n8) (seg gth 8 8) true = false ∨ open3 (seg gke 128 (le 1)) (seg gke 160 (le 1)) 0 0 (zeroL 16) (qL gli n8) = none) ∧ (z_142 = true → seg gch1_136 16 16 = seg gco1_136 0 16) ∧ (∀ j, j < 16 → gch1_136 j = gch j) := by
              have h8 : (n8 = 20 ∧ gli 0 = 0x84#8 ∧ gli 1 = 0x82#8 ∧ levB (qz (gli 2)) true = true ∧ gli 3 = 0#8) ∧ ∀ j, j < k4 → gli (4 + j) = gth (8 + j) := by rw [hr9] at hrt; exact of_decide_eq_true hrt.symm
              obtain ⟨⟨h20, q0, q1, q2, q3⟩, q4⟩ := h8
              have hpv : provB (qL gli n8) (seg gth 8 8) true = true := prov_yes h20 q0 q1 q2 q3 (fun j hj => q4 j (by omega))
              have hmid : midL (qL gli n8) = seg gli 4 8 := by rw [mid_seg (by omega), h20]
              have hsp : splB (qL gli n8) = true := spl_prov h20 q0
              have hend : (qL gli n8).drop ((qL gli n8).length - 8) = seg gli 12 8 := by rw [end_seg (by omega), h20]
              have hcd : chain3 (seg gke 160 (le 1)) (zeroL 16) (qL gli n8) (midL (qL gli n8)) = seg gco1_136 0 16 := by rw [hmid, chain3, seg_len, List.append_assoc, hs_136, head_qL (n := n8) (by omega)]
              refine ⟨fun q => ⟨hpv, ?_⟩, fun q => Or.inr ?_, fun _ => hc_136, fun j hj => hfc_136 j (by omega)⟩
              · rw [open3_y hsp hcd (by rw [hend, ← seg_sub]; exact of_decide_eq_true (hz_142.symm.trans q)), hmid]
                rw [if_neg (by simp [hidB]), Option.bind_some, if_pos (by rw [seg_len]; decide)]
              · exact open3_x hsp hcd (by rw [hend, ← seg_sub]; exact of_decide_eq_false (hz_142.symm.trans q))
            exact hret (⟨(z_142), (rk1_136), (ce1_136), (gm1_136), (mac1_136), (k11_136), (gbl1_136), (gco1_136), (gch1_136), (mn1_136), (ar1_136)⟩ : Bool × (Nat → BitVec 8) × (Nat → BitVec 8) × (Nat → BitVec 8) × (Nat → BitVec 8) × (Nat → BitVec 8) × (Nat → BitVec 8) × (Nat → BitVec 8) × (Nat → BitVec 8) × Nat × Nat) _ _ _ _ dX10_proven_145 hq_3 (hP.sub [13, 1, 2, 3, 4, 5, 6, 7, 8, 15, 9, 10, 11, 12, 14, 0] rfl) (hD.sub [13, 1, 2, 3, 4, 5, 6, 7, 8, 15, 9, 10, 11, 12, 14, 0] (by decide) rfl) hS
          · skip
            rw [q_beq] at c_2
            try rw [Bool.not_eq_false] at c_2
            have hr9 := c_2
            refine lv_iconst (pc := 119) (v := nI 0) hx hb dX10_proven_119 (by decide +kernel) ?_
            refine q_top (y := qb false) (by first | rfl | decide +kernel | (simp; done)) ?_
            have hq_4 : (false = true → provB (qL gli n8) (seg gth 8 8) true = true ∧ open3 (seg gke 128 (le 1)) (seg gke 160 (le 1)) 0 0 (zeroL 16) (qL gli n8) = some (joinC (qL gli n8) (seg gli 4 8), seg gco 0 16)) ∧ (false = false → provB (qL gli n8) (seg gth 8 8) true = false ∨ open3 (seg gke 128 (le 1)) (seg gke 160 (le 1)) 0 0 (zeroL 16) (qL gli n8) = none) ∧ (false = true → seg gch 16 16 = seg gco 0 16) ∧ (∀ j, j < 16 → gch j = gch j) := by
              refine ⟨fun q => (by cases q), fun _ => Or.inl ?_, fun q => (by cases q), fun _ _ => rfl⟩
              by_cases h20 : n8 = 20
              · subst h20
                refine decide_eq_false (fun q => ?_)
                have h9 : ¬ ((20 = 20 ∧ gli 0 = 0x84#8 ∧ gli 1 = 0x82#8 ∧ levB (qz (gli 2)) true = true ∧ gli 3 = 0#8) ∧ ∀ j, j < k4 → gli (4 + j) = gth (8 + j)) := by rw [hr9] at hrt; exact of_decide_eq_false hrt.symm
                rw [qL_len, qL_getD (by decide), qL_getD (by decide), qL_getD (by decide), qL_getD (by decide), qL_drop, seg_take (by decide), seg_ext] at q
                exact h9 ⟨⟨rfl, q.2.1, q.2.2.1, q.2.2.2.1, q.2.2.2.2.1⟩, fun j hj => q.2.2.2.2.2 j (by omega)⟩
              · exact provB_no h20
            exact hret (⟨(false), (rk), (ce), (gm), (mac), (k1), (gbl), (gco), (gch), (mn), (ar)⟩ : Bool × (Nat → BitVec 8) × (Nat → BitVec 8) × (Nat → BitVec 8) × (Nat → BitVec 8) × (Nat → BitVec 8) × (Nat → BitVec 8) × (Nat → BitVec 8) × (Nat → BitVec 8) × Nat × Nat) _ _ _ _ dX10_proven_120 hq_4 (hP.sub [0, 1, 2, 3, 4, 5, 6, 7, 8, 9, 10, 11, 12, 13, 14, 15] rfl) (hD.sub [0, 1, 2, 3, 4, 5, 6, 7, 8, 9, 10, 11, 12, 13, 14, 15] (by decide) rfl) hS
        · skip
          rw [nI_leI (by omega) (by omega)] at c_1
          refine lv_iload_n (pc := 77) hx hb dX10_proven_77 rfl (lv_at hl 1 rfl) ?_
          refine lv_if_eq (pc := 78) (tgt := 115) hx hb dX10_proven_78 (by decide) (fun c_5 => ?_) (fun c_5 => ?_)
          · skip
            rw [q_beq] at c_5
            try rw [Bool.not_eq_false] at c_5
            have hrt9 := c_5
            refine lv_iload_n (pc := 115) hx hb dX10_proven_115 rfl (lv_at hl 1 rfl) ?_
            refine lv_if_ne (pc := 116) (tgt := 121) hx hb dX10_proven_116 (by decide) (fun c_6 => ?_) (fun c_6 => ?_)
            · skip
              rw [q_beq] at c_6
              try rw [Bool.not_eq_false] at c_6
              have hr9 := c_6
              rw [hrt9] at c_6; cases c_6
            · skip
              rw [q_beq] at c_6
              try rw [Bool.not_eq_false] at c_6
              have hr9 := c_6
              refine lv_iconst (pc := 119) (v := nI 0) hx hb dX10_proven_119 (by decide +kernel) ?_
              refine q_top (y := qb false) (by first | rfl | decide +kernel | (simp; done)) ?_
              have hq_7 : (false = true → provB (qL gli n8) (seg gth 8 8) true = true ∧ open3 (seg gke 128 (le 1)) (seg gke 160 (le 1)) 0 0 (zeroL 16) (qL gli n8) = some (joinC (qL gli n8) (seg gli 4 8), seg gco 0 16)) ∧ (false = false → provB (qL gli n8) (seg gth 8 8) true = false ∨ open3 (seg gke 128 (le 1)) (seg gke 160 (le 1)) 0 0 (zeroL 16) (qL gli n8) = none) ∧ (false = true → seg gch 16 16 = seg gco 0 16) ∧ (∀ j, j < 16 → gch j = gch j) := by
                refine ⟨fun q => (by cases q), fun _ => Or.inl ?_, fun q => (by cases q), fun _ _ => rfl⟩
                by_cases h20 : n8 = 20
                · subst h20
                  refine decide_eq_false (fun q => ?_)
                  have h9 : ¬ ((20 = 20 ∧ gli 0 = 0x84#8 ∧ gli 1 = 0x82#8 ∧ levB (qz (gli 2)) true = true ∧ gli 3 = 0#8) ∧ ∀ j, j < k4 → gli (4 + j) = gth (8 + j)) := by rw [hr9] at hrt; exact of_decide_eq_false hrt.symm
                  rw [qL_len, qL_getD (by decide), qL_getD (by decide), qL_getD (by decide), qL_getD (by decide), qL_drop, seg_take (by decide), seg_ext] at q
                  exact h9 ⟨⟨rfl, q.2.1, q.2.2.1, q.2.2.2.1, q.2.2.2.2.1⟩, fun j hj => q.2.2.2.2.2 j (by omega)⟩
                · exact provB_no h20
              exact hret (⟨(false), (rk), (ce), (gm), (mac), (k1), (gbl), (gco), (gch), (mn), (ar)⟩ : Bool × (Nat → BitVec 8) × (Nat → BitVec 8) × (Nat → BitVec 8) × (Nat → BitVec 8) × (Nat → BitVec 8) × (Nat → BitVec 8) × (Nat → BitVec 8) × (Nat → BitVec 8) × Nat × Nat) _ _ _ _ dX10_proven_120 hq_7 (hP.sub [0, 1, 2, 3, 4, 5, 6, 7, 8, 9, 10, 11, 12, 13, 14, 15] rfl) (hD.sub [0, 1, 2, 3, 4, 5, 6, 7, 8, 9, 10, 11, 12, 13, 14, 15] (by decide) rfl) hS
          · skip
            rw [q_beq] at c_5
            try rw [Bool.not_eq_false] at c_5
            have hrt9 := c_5
            refine lv_aload_n (pc := 81) hx hb dX10_proven_81 rfl (lv_at hl 3 rfl) ?_
            refine va_get (pc := 82) (D := D) (ci := 8) (v := .ref (a 31)) (C := RX10) (T := TX10) (N := 57) hx hb hts iu10 hown hK hP 0 rfl rfl 31 (by decide) (hts _ tw_1076) (fun _ h9 => h9) rfl dX10_proven_82 ?_
            refine lv_iconst (pc := 85) (v := nI 4) hx hb dX10_proven_85 (by decide +kernel) ?_
            refine lv_iload (pc := 86) hx hb dX10_proven_86 (lv_at hl 0 rfl) ?_
            refine lv_iadd (pc := 88) hx hb dX10_proven_88 ?_
            refine q_top (y := nI (4 + k4)) (nI_add 4 k4) ?_
            refine q_bald (pc := 89) hx hb hK hP 14 2 rfl rfl (k := 4 + k4) (v := qs (gli (4 + k4))) rfl (by omega) (by omega) rfl dX10_proven_89 ?_
            refine lv_aload_n (pc := 90) hx hb dX10_proven_90 rfl (lv_at hl 3 rfl) ?_
            refine va_get (pc := 91) (D := D) (ci := 8) (v := .ref (a 43)) (C := RX10) (T := TX10) (N := 57) hx hb hts iu10 hown hK hP 0 rfl rfl 43 (by decide) (hts _ tw_1088) (fun _ h9 => h9) rfl dX10_proven_91 ?_
            refine lv_bipush (pc := 94) (v := nI 8) hx hb dX10_proven_94 (by decide +kernel) ?_
            refine lv_iload (pc := 96) hx hb dX10_proven_96 (lv_at hl 0 rfl) ?_
            refine lv_iadd (pc := 98) hx hb dX10_proven_98 ?_
            refine q_top (y := nI (8 + k4)) (nI_add 8 k4) ?_
            refine q_bald (pc := 99) hx hb hK hP 15 2 rfl rfl (k := 8 + k4) (v := qs (gth (8 + k4))) rfl (by omega) (by omega) rfl dX10_proven_99 ?_
            refine lv_icmp_ne (pc := 100) (tgt := 107) hx hb dX10_proven_100 (by decide) (fun c_8 => ?_) (fun c_8 => ?_)
            · skip
              rw [qs_eq] at c_8
              have hq9 := c_8
              refine lv_iconst (pc := 107) (v := nI 0) hx hb dX10_proven_107 (by decide +kernel) ?_
              refine q_top (y := qb false) rfl ?_
              refine lv_istore_n (pc := 108) (lv' := [(3, .int (qb false)), (4, .int (nI k4)), (2, .int (qz (gli 2))), (0, .ref h0), (1, .int (nI n8))]) hx hb dX10_proven_108 rfl hl (by decide) rfl (fun ls hl => ?_)
              refine lv_iinc (pc := 109) (v := nI (k4 + 1)) (lv' := [(4, .int (nI (k4 + 1))), (3, .int (qb false)), (2, .int (qz (gli 2))), (0, .ref h0), (1, .int (nI n8))]) hx hb dX10_proven_109 hl (k := 1) rfl (by first | exact nI_add k4 1 | rfl) (by decide) rfl (fun ls hl => ?_)
              refine lv_goto (pc := 112) (tgt := 70) hx hb dX10_proven_112 (by decide) ?_
              exact ih70 (k4 + 1) false (by omega) (by
                    symm
                    have h8 := (by rw [hrt9] at hrt; exact of_decide_eq_true hrt.symm : (n8 = 20 ∧ gli 0 = 0x84#8 ∧ gli 1 = 0x82#8 ∧ levB (qz (gli 2)) true = true ∧ gli 3 = 0#8) ∧ ∀ j, j < k4 → gli (4 + j) = gth (8 + j))
                    first | (refine decide_eq_true ⟨h8.1, fun j hj => ?_⟩; by_cases q : j = k4; (subst q; exact hq9); exact h8.2 j (by omega)) | (refine decide_eq_false (fun q => ?_); exact hq9 (q.2 k4 (by omega)))) (by omega) _ _ (hP.sub [0, 1, 2, 3, 4, 5, 6, 7, 8, 9, 10, 11, 12, 13, 14, 15] rfl) (hD.sub [0, 1, 2, 3, 4, 5, 6, 7, 8, 9, 10, 11, 12, 13, 14, 15] (by decide) rfl) hS ls (lv_sub hl [0, 1, 2, 3, 4] rfl)
            · skip
              rw [qs_eq] at c_8
              have hq9 := c_8
              refine lv_iconst (pc := 103) (v := nI 1) hx hb dX10_proven_103 (by decide +kernel) ?_
              refine lv_goto (pc := 104) (tgt := 108) hx hb dX10_proven_104 (by decide) ?_
              refine q_top (y := qb true) rfl ?_
              refine lv_istore_n (pc := 108) (lv' := [(3, .int (qb true)), (4, .int (nI k4)), (2, .int (qz (gli 2))), (0, .ref h0), (1, .int (nI n8))]) hx hb dX10_proven_108 rfl hl (by decide) rfl (fun ls hl => ?_)
              refine lv_iinc (pc := 109) (v := nI (k4 + 1)) (lv' := [(4, .int (nI (k4 + 1))), (3, .int (qb true)), (2, .int (qz (gli 2))), (0, .ref h0), (1, .int (nI n8))]) hx hb dX10_proven_109 hl (k := 1) rfl (by first | exact nI_add k4 1 | rfl) (by decide) rfl (fun ls hl => ?_)
              refine lv_goto (pc := 112) (tgt := 70) hx hb dX10_proven_112 (by decide) ?_
              exact ih70 (k4 + 1) true (by omega) (by
                    symm
                    have h8 := (by rw [hrt9] at hrt; exact of_decide_eq_true hrt.symm : (n8 = 20 ∧ gli 0 = 0x84#8 ∧ gli 1 = 0x82#8 ∧ levB (qz (gli 2)) true = true ∧ gli 3 = 0#8) ∧ ∀ j, j < k4 → gli (4 + j) = gth (8 + j))
                    first | (refine decide_eq_true ⟨h8.1, fun j hj => ?_⟩; by_cases q : j = k4; (subst q; exact hq9); exact h8.2 j (by omega)) | (refine decide_eq_false (fun q => ?_); exact hq9 (q.2 k4 (by omega)))) (by omega) _ _ (hP.sub [0, 1, 2, 3, 4, 5, 6, 7, 8, 9, 10, 11, 12, 13, 14, 15] rfl) (hD.sub [0, 1, 2, 3, 4, 5, 6, 7, 8, 9, 10, 11, 12, 13, 14, 15] (by decide) rfl) hS ls (lv_sub hl [0, 1, 2, 3, 4] rfl)
    exact LP70 _ 0 b9 (by omega) (by rw [hb9]; congr 1; rw [eq_iff_iff]; exact ⟨fun q => ⟨q, fun j hj => absurd hj (Nat.not_lt_zero _)⟩, fun q => q.1⟩) (Nat.lt_succ_self _) _ _ (hP.sub [0, 1, 2, 3, 4, 5, 6, 7, 8, 9, 10, 11, 12, 13, 14, 15] rfl) (hD.sub [0, 1, 2, 3, 4, 5, 6, 7, 8, 9, 10, 11, 12, 13, 14, 15] (by decide) rfl) hS ls (lv_sub hl [0, 1, 2, 3, 4] rfl)
  refine lv_iload_n (pc := 11) hx hb dX10_proven_11 rfl (lv_at hl 2 rfl) ?_
  refine lv_bipush (pc := 12) (v := nI 20) hx hb dX10_proven_12 (by decide +kernel) ?_
  refine lv_icmp_ne (pc := 14) (tgt := 65) hx hb dX10_proven_14 (by decide) (fun c_9 => ?_) (fun c_9 => ?_)
  · skip
    rw [nI_eq (by omega) (by omega)] at c_9
    refine lv_iconst (pc := 65) (v := nI 0) hx hb dX10_proven_65 (by decide +kernel) ?_
    refine q_top (y := qb false) rfl ?_
    exact JN66 false (by
                symm
                first | (refine decide_eq_true ⟨by assumption, by assumption, by assumption, ?_, by assumption⟩; rw [hru] at hz_55; exact hz_55.symm.trans hzl) | (refine decide_eq_false (fun q => ?_); obtain ⟨q1, q2, q3, q4, q5⟩ := q; first | contradiction | (rw [hru] at hz_55; exact absurd (hz_55.trans q4) (by rw [hzl]; decide)))) _ _ (hP.sub [0, 1, 2, 3, 4, 5, 6, 7, 8, 9, 10, 11, 12, 13, 14, 15] rfl) (hD.sub [0, 1, 2, 3, 4, 5, 6, 7, 8, 9, 10, 11, 12, 13, 14, 15] (by decide) rfl) hS ls (lv_sub hl [0, 1, 2] rfl)
  · skip
    rw [nI_eq (by omega) (by omega)] at c_9
    refine lv_aload_n (pc := 17) hx hb dX10_proven_17 rfl (lv_at hl 1 rfl) ?_
    refine va_get (pc := 18) (D := D) (ci := 8) (v := .ref (a 31)) (C := RX10) (T := TX10) (N := 57) hx hb hts iu10 hown hK hP 0 rfl rfl 31 (by decide) (hts _ tw_1076) (fun _ h9 => h9) rfl dX10_proven_18 ?_
    refine lv_iconst (pc := 21) (v := nI 0) hx hb dX10_proven_21 (by decide +kernel) ?_
    refine q_bald (pc := 22) hx hb hK hP 14 2 rfl rfl (k := 0) (v := qs (gli 0)) rfl (by omega) (by omega) rfl dX10_proven_22 ?_
    refine lv_bipush (pc := 23) (v := (-124)) hx hb dX10_proven_23 (by decide +kernel) ?_
    refine lv_icmp_ne (pc := 25) (tgt := 65) hx hb dX10_proven_25 (by decide) (fun c_10 => ?_) (fun c_10 => ?_)
    · skip
      rw [qs_84] at c_10
      refine lv_iconst (pc := 65) (v := nI 0) hx hb dX10_proven_65 (by decide +kernel) ?_
      refine q_top (y := qb false) rfl ?_
      exact JN66 false (by
                  symm
                  first | (refine decide_eq_true ⟨by assumption, by assumption, by assumption, ?_, by assumption⟩; rw [hru] at hz_55; exact hz_55.symm.trans hzl) | (refine decide_eq_false (fun q => ?_); obtain ⟨q1, q2, q3, q4, q5⟩ := q; first | contradiction | (rw [hru] at hz_55; exact absurd (hz_55.trans q4) (by rw [hzl]; decide)))) _ _ (hP.sub [0, 1, 2, 3, 4, 5, 6, 7, 8, 9, 10, 11, 12, 13, 14, 15] rfl) (hD.sub [0, 1, 2, 3, 4, 5, 6, 7, 8, 9, 10, 11, 12, 13, 14, 15] (by decide) rfl) hS ls (lv_sub hl [0, 1, 2] rfl)
    · skip
      rw [qs_84] at c_10
      refine lv_aload_n (pc := 28) hx hb dX10_proven_28 rfl (lv_at hl 1 rfl) ?_
      refine va_get (pc := 29) (D := D) (ci := 8) (v := .ref (a 31)) (C := RX10) (T := TX10) (N := 57) hx hb hts iu10 hown hK hP 0 rfl rfl 31 (by decide) (hts _ tw_1076) (fun _ h9 => h9) rfl dX10_proven_29 ?_
      refine lv_iconst (pc := 32) (v := nI 1) hx hb dX10_proven_32 (by decide +kernel) ?_
      refine q_bald (pc := 33) hx hb hK hP 14 2 rfl rfl (k := 1) (v := qs (gli 1)) rfl (by omega) (by omega) rfl dX10_proven_33 ?_
      refine lv_bipush (pc := 34) (v := (-126)) hx hb dX10_proven_34 (by decide +kernel) ?_
      refine lv_icmp_ne (pc := 36) (tgt := 65) hx hb dX10_proven_36 (by decide) (fun c_11 => ?_) (fun c_11 => ?_)
      · skip
        rw [qs_82] at c_11
        refine lv_iconst (pc := 65) (v := nI 0) hx hb dX10_proven_65 (by decide +kernel) ?_
        refine q_top (y := qb false) rfl ?_
        exact JN66 false (by
                    symm
                    first | (refine decide_eq_true ⟨by assumption, by assumption, by assumption, ?_, by assumption⟩; rw [hru] at hz_55; exact hz_55.symm.trans hzl) | (refine decide_eq_false (fun q => ?_); obtain ⟨q1, q2, q3, q4, q5⟩ := q; first | contradiction | (rw [hru] at hz_55; exact absurd (hz_55.trans q4) (by rw [hzl]; decide)))) _ _ (hP.sub [0, 1, 2, 3, 4, 5, 6, 7, 8, 9, 10, 11, 12, 13, 14, 15] rfl) (hD.sub [0, 1, 2, 3, 4, 5, 6, 7, 8, 9, 10, 11, 12, 13, 14, 15] (by decide) rfl) hS ls (lv_sub hl [0, 1, 2] rfl)
      · skip
        rw [qs_82] at c_11
        refine lv_aload_n (pc := 39) hx hb dX10_proven_39 rfl (lv_at hl 1 rfl) ?_
        refine va_get (pc := 40) (D := D) (ci := 8) (v := .ref (a 31)) (C := RX10) (T := TX10) (N := 57) hx hb hts iu10 hown hK hP 0 rfl rfl 31 (by decide) (hts _ tw_1076) (fun _ h9 => h9) rfl dX10_proven_40 ?_
        refine lv_iconst (pc := 43) (v := nI 3) hx hb dX10_proven_43 (by decide +kernel) ?_
        refine q_bald (pc := 44) hx hb hK hP 14 2 rfl rfl (k := 3) (v := qs (gli 3)) rfl (by omega) (by omega) rfl dX10_proven_44 ?_
        refine lv_if_ne (pc := 45) (tgt := 65) hx hb dX10_proven_45 (by decide) (fun c_12 => ?_) (fun c_12 => ?_)
        · skip
          rw [qs_0] at c_12
          refine lv_iconst (pc := 65) (v := nI 0) hx hb dX10_proven_65 (by decide +kernel) ?_
          refine q_top (y := qb false) rfl ?_
          exact JN66 false (by
                      symm
                      first | (refine decide_eq_true ⟨by assumption, by assumption, by assumption, ?_, by assumption⟩; rw [hru] at hz_55; exact hz_55.symm.trans hzl) | (refine decide_eq_false (fun q => ?_); obtain ⟨q1, q2, q3, q4, q5⟩ := q; first | contradiction | (rw [hru] at hz_55; exact absurd (hz_55.trans q4) (by rw [hzl]; decide)))) _ _ (hP.sub [0, 1, 2, 3, 4, 5, 6, 7, 8, 9, 10, 11, 12, 13, 14, 15] rfl) (hD.sub [0, 1, 2, 3, 4, 5, 6, 7, 8, 9, 10, 11, 12, 13, 14, 15] (by decide) rfl) hS ls (lv_sub hl [0, 1, 2] rfl)
        · skip
          rw [qs_0] at c_12
          refine lv_iload_n (pc := 48) hx hb dX10_proven_48 rfl (lv_at hl 0 rfl) ?_
          refine lv_aload_n (pc := 49) hx hb dX10_proven_49 rfl (lv_at hl 1 rfl) ?_
          refine va_get (pc := 50) (D := D) (ci := 8) (v := .ref (a 36)) (C := RX10) (T := TX10) (N := 57) hx hb hts iu10 hown hK hP 0 rfl rfl 36 (by decide) (hts _ tw_1081) (fun _ h9 => h9) rfl dX10_proven_50 ?_
          refine lv_iconst (pc := 53) (v := nI 1) hx hb dX10_proven_53 (by decide +kernel) ?_
          refine q_iald (pc := 54) hx hb hK hP 12 0 rfl rfl (k := 1) (v := nI (ru 1)) rfl (by omega) (by omega) rfl dX10_proven_54 ?_
          refine cs_S (pc := 55) (idx := 356) (n := 2) (wr := [(h0, oM a ar mn tp osz lsz ns ct), (a 8, aZ ta 256 BOX), (a 9, aZ ta 256 UBOX), (a 16, aS ta 240 rk), (a 18, aS ta 16 ce), (a 22, aS ta 700 gm), (a 24, aS ta 16 mac), (a 25, aS ta 16 k1), (a 53, aS ta 16 gbl), (a 55, aS ta 16 gco), (a 45, aS ta 32 gch), (a 41, aS ta 256 gke), (a 36, aK ta 2 ru), (a 37, aK ta 2 le), (a 31, aS ta 300 gli), (a 43, aS ta 16 gth)]) (As := [.int (qz (gli 2)), .int (nI (ru 1))]) (rest := []) hx hb hml hown hts hGok hK hA hG hl.1 hP hD hS (ct_X10_isLevel ll D ta hGok (qz (gli 2)) (ru 1) (by first | assumption | omega | rfl | decide) H.size) tw_1364 tw_1362 tw_1363 tw_75 hdX10_isLevel rfl ⟨rfl, rfl, Nat.le_of_ble_eq_true rfl, Nat.le_of_ble_eq_true rfl, Nat.le_of_ble_eq_true rfl, Nat.le_of_ble_eq_true rfl⟩ [] [0, 1, 2, 3, 4, 5, 6, 7, 8, 9, 10, 11, 12, 13, 14, 15] rfl rfl (by decide) rfl (Nat.le_of_ble_eq_true rfl) dX10_proven_55 (fun u H locs hq hP hD hS => ?_)
          generalize u = z_55 at hq hP hD ⊢
          have hq : (z_55 = levB (qz (gli 2)) (decide ((ru 1) = 3))) := hq
          have hz_55 := hq
          refine W.eq (g2 := F0 mm 58 ls [.int (qb z_55)]) rfl ?_
          have hP : va_P D vwCl [(h0, oM a ar mn tp osz lsz ns ct), (a 8, aZ ta 256 BOX), (a 9, aZ ta 256 UBOX), (a 16, aS ta 240 rk), (a 18, aS ta 16 ce), (a 22, aS ta 700 gm), (a 24, aS ta 16 mac), (a 25, aS ta 16 k1), (a 53, aS ta 16 gbl), (a 55, aS ta 16 gco), (a 45, aS ta 32 gch), (a 41, aS ta 256 gke), (a 36, aK ta 2 ru), (a 37, aK ta 2 le), (a 31, aS ta 300 gli), (a 43, aS ta 16 gth)] H := hP
          have hD : va_D A [(h0, oM a ar mn tp osz lsz ns ct), (a 8, aZ ta 256 BOX), (a 9, aZ ta 256 UBOX), (a 16, aS ta 240 rk), (a 18, aS ta 16 ce), (a 22, aS ta 700 gm), (a 24, aS ta 16 mac), (a 25, aS ta 16 k1), (a 53, aS ta 16 gbl), (a 55, aS ta 16 gco), (a 45, aS ta 32 gch), (a 41, aS ta 256 gke), (a 36, aK ta 2 ru), (a 37, aK ta 2 le), (a 31, aS ta 300 gli), (a 43, aS ta 16 gth)] := hD
          refine lv_if_eq (pc := 58) (tgt := 65) hx hb dX10_proven_58 (by decide) (fun c_13 => ?_) (fun c_13 => ?_)
          · skip
            rw [q_beq] at c_13
            try rw [Bool.not_eq_false] at c_13
            have hzl := c_13
            refine lv_iconst (pc := 65) (v := nI 0) hx hb dX10_proven_65 (by decide +kernel) ?_
            refine q_top (y := qb false) rfl ?_
            exact JN66 false (by
                        symm
                        first | (refine decide_eq_true ⟨by assumption, by assumption, by assumption, ?_, by assumption⟩; rw [hru] at hz_55; exact hz_55.symm.trans hzl) | (refine decide_eq_false (fun q => ?_); obtain ⟨q1, q2, q3, q4, q5⟩ := q; first | contradiction | (rw [hru] at hz_55; exact absurd (hz_55.trans q4) (by rw [hzl]; decide)))) _ _ (hP.sub [0, 1, 2, 3, 4, 5, 6, 7, 8, 9, 10, 11, 12, 13, 14, 15] rfl) (hD.sub [0, 1, 2, 3, 4, 5, 6, 7, 8, 9, 10, 11, 12, 13, 14, 15] (by decide) rfl) hS ls (lv_sub hl [0, 1, 2] rfl)
          · skip
            rw [q_beq] at c_13
            try rw [Bool.not_eq_false] at c_13
            have hzl := c_13
            refine lv_iconst (pc := 61) (v := nI 1) hx hb dX10_proven_61 (by decide +kernel) ?_
            refine lv_goto (pc := 62) (tgt := 66) hx hb dX10_proven_62 (by decide) ?_
            refine q_top (y := qb true) rfl ?_
            exact JN66 true (by
                        symm
                        first | (refine decide_eq_true ⟨by assumption, by assumption, by assumption, ?_, by assumption⟩; rw [hru] at hz_55; exact hz_55.symm.trans hzl) | (refine decide_eq_false (fun q => ?_); obtain ⟨q1, q2, q3, q4, q5⟩ := q; first | contradiction | (rw [hru] at hz_55; exact absurd (hz_55.trans q4) (by rw [hzl]; decide)))) _ _ (hP.sub [0, 1, 2, 3, 4, 5, 6, 7, 8, 9, 10, 11, 12, 13, 14, 15] rfl) (hD.sub [0, 1, 2, 3, 4, 5, 6, 7, 8, 9, 10, 11, 12, 13, 14, 15] (by decide) rfl) hS ls (lv_sub hl [0, 1, 2] rfl)
theorem hdX10_opened : yX10_opened.cls ≠ "java/lang/invoke/MethodHandle" ∧ yX10_opened.cls ≠ "java/lang/invoke/VarHandle" ∧ (parseMethodDescriptor yX10_opened.desc).map (fun d => d.parameters.length) = some 1 := ⟨by decide +kernel, by decide +kernel, by decide +kernel⟩
theorem dX10_opened_0 : decode cX10_opened 0 = .ok (.iload_n 1, 1) := by decide +kernel
theorem dX10_opened_1 : decode cX10_opened 1 = .ok (.bipush 12, 2) := by decide +kernel
theorem dX10_opened_3 : decode cX10_opened 3 = .ok (.if_icmp .lt 14, 3) := by decide +kernel
theorem dX10_opened_6 : decode cX10_opened 6 = .ok (.aload_n 0, 1) := by decide +kernel
theorem dX10_opened_7 : decode cX10_opened 7 = .ok (.getfield 225, 3) := by decide +kernel
theorem dX10_opened_10 : decode cX10_opened 10 = .ok (.iconst 0, 1) := by decide +kernel
theorem dX10_opened_11 : decode cX10_opened 11 = .ok (.baload, 1) := by decide +kernel
theorem dX10_opened_12 : decode cX10_opened 12 = .ok (.iconst 4, 1) := by decide +kernel
theorem dX10_opened_13 : decode cX10_opened 13 = .ok (.iand, 1) := by decide +kernel
theorem dX10_opened_14 : decode cX10_opened 14 = .ok (.ifCond .ne 5, 3) := by decide +kernel
theorem dX10_opened_17 : decode cX10_opened 17 = .ok (.iconst (-1), 1) := by decide +kernel
theorem dX10_opened_18 : decode cX10_opened 18 = .ok (.ireturn, 1) := by decide +kernel
theorem dX10_opened_19 : decode cX10_opened 19 = .ok (.iload_n 1, 1) := by decide +kernel
theorem dX10_opened_20 : decode cX10_opened 20 = .ok (.bipush 12, 2) := by decide +kernel
theorem dX10_opened_22 : decode cX10_opened 22 = .ok (.isub, 1) := by decide +kernel
theorem dX10_opened_23 : decode cX10_opened 23 = .ok (.istore_n 2, 1) := by decide +kernel
theorem dX10_opened_24 : decode cX10_opened 24 = .ok (.aload_n 0, 1) := by decide +kernel
theorem dX10_opened_25 : decode cX10_opened 25 = .ok (.getfield 243, 3) := by decide +kernel
theorem dX10_opened_28 : decode cX10_opened 28 = .ok (.iconst 1, 1) := by decide +kernel
theorem dX10_opened_29 : decode cX10_opened 29 = .ok (.iaload, 1) := by decide +kernel
theorem dX10_opened_30 : decode cX10_opened 30 = .ok (.iconst 2, 1) := by decide +kernel
theorem dX10_opened_31 : decode cX10_opened 31 = .ok (.iand, 1) := by decide +kernel
theorem dX10_opened_32 : decode cX10_opened 32 = .ok (.ifCond .le 11, 3) := by decide +kernel
theorem dX10_opened_35 : decode cX10_opened 35 = .ok (.iload_n 2, 1) := by decide +kernel
theorem dX10_opened_36 : decode cX10_opened 36 = .ok (.ifCond .le 7, 3) := by decide +kernel
theorem dX10_opened_39 : decode cX10_opened 39 = .ok (.iconst 1, 1) := by decide +kernel
theorem dX10_opened_40 : decode cX10_opened 40 = .ok (.goto 4, 3) := by decide +kernel
theorem dX10_opened_43 : decode cX10_opened 43 = .ok (.iconst 0, 1) := by decide +kernel
theorem dX10_opened_44 : decode cX10_opened 44 = .ok (.istore_n 3, 1) := by decide +kernel
theorem dX10_opened_45 : decode cX10_opened 45 = .ok (.aload_n 0, 1) := by decide +kernel
theorem dX10_opened_46 : decode cX10_opened 46 = .ok (.getfield 264, 3) := by decide +kernel
theorem dX10_opened_49 : decode cX10_opened 49 = .ok (.iconst 1, 1) := by decide +kernel
theorem dX10_opened_50 : decode cX10_opened 50 = .ok (.dup2, 1) := by decide +kernel
theorem dX10_opened_51 : decode cX10_opened 51 = .ok (.iaload, 1) := by decide +kernel
theorem dX10_opened_52 : decode cX10_opened 52 = .ok (.iconst 1, 1) := by decide +kernel
theorem dX10_opened_53 : decode cX10_opened 53 = .ok (.iadd, 1) := by decide +kernel
theorem dX10_opened_54 : decode cX10_opened 54 = .ok (.iastore, 1) := by decide +kernel
theorem dX10_opened_55 : decode cX10_opened 55 = .ok (.aload_n 0, 1) := by decide +kernel
theorem dX10_opened_56 : decode cX10_opened 56 = .ok (.getfield 231, 3) := by decide +kernel
theorem dX10_opened_59 : decode cX10_opened 59 = .ok (.iconst 1, 1) := by decide +kernel
theorem dX10_opened_60 : decode cX10_opened 60 = .ok (.iaload, 1) := by decide +kernel
theorem dX10_opened_61 : decode cX10_opened 61 = .ok (.iconst 3, 1) := by decide +kernel
theorem dX10_opened_62 : decode cX10_opened 62 = .ok (.if_icmp .ne 33, 3) := by decide +kernel
theorem dX10_opened_65 : decode cX10_opened 65 = .ok (.aload_n 0, 1) := by decide +kernel
theorem dX10_opened_66 : decode cX10_opened 66 = .ok (.iconst 1, 1) := by decide +kernel
theorem dX10_opened_67 : decode cX10_opened 67 = .ok (.aload_n 0, 1) := by decide +kernel
theorem dX10_opened_68 : decode cX10_opened 68 = .ok (.getfield 225, 3) := by decide +kernel
theorem dX10_opened_71 : decode cX10_opened 71 = .ok (.iconst 0, 1) := by decide +kernel
theorem dX10_opened_72 : decode cX10_opened 72 = .ok (.aload_n 0, 1) := by decide +kernel
theorem dX10_opened_73 : decode cX10_opened 73 = .ok (.getfield 225, 3) := by decide +kernel
theorem dX10_opened_76 : decode cX10_opened 76 = .ok (.iconst 4, 1) := by decide +kernel
theorem dX10_opened_77 : decode cX10_opened 77 = .ok (.iload_n 2, 1) := by decide +kernel
theorem dX10_opened_78 : decode cX10_opened 78 = .ok (.iconst 0, 1) := by decide +kernel
theorem dX10_opened_79 : decode cX10_opened 79 = .ok (.invokevirtual 360, 3) := by decide +kernel
theorem dX10_opened_82 : decode cX10_opened 82 = .ok (.aload_n 0, 1) := by decide +kernel
theorem dX10_opened_83 : decode cX10_opened 83 = .ok (.iload_n 1, 1) := by decide +kernel
theorem dX10_opened_84 : decode cX10_opened 84 = .ok (.bipush 8, 2) := by decide +kernel
theorem dX10_opened_86 : decode cX10_opened 86 = .ok (.isub, 1) := by decide +kernel
theorem dX10_opened_87 : decode cX10_opened 87 = .ok (.invokevirtual 385, 3) := by decide +kernel
theorem dX10_opened_90 : decode cX10_opened 90 = .ok (.ifCond .ne 5, 3) := by decide +kernel
theorem dX10_opened_93 : decode cX10_opened 93 = .ok (.iconst (-1), 1) := by decide +kernel
theorem dX10_opened_94 : decode cX10_opened 94 = .ok (.ireturn, 1) := by decide +kernel
theorem dX10_opened_95 : decode cX10_opened 95 = .ok (.iconst 0, 1) := by decide +kernel
theorem dX10_opened_96 : decode cX10_opened 96 = .ok (.istore 4, 2) := by decide +kernel
theorem dX10_opened_98 : decode cX10_opened 98 = .ok (.iload 4, 2) := by decide +kernel
theorem dX10_opened_100 : decode cX10_opened 100 = .ok (.iload_n 2, 1) := by decide +kernel
theorem dX10_opened_101 : decode cX10_opened 101 = .ok (.if_icmp .ge 25, 3) := by decide +kernel
theorem dX10_opened_104 : decode cX10_opened 104 = .ok (.aload_n 0, 1) := by decide +kernel
theorem dX10_opened_105 : decode cX10_opened 105 = .ok (.getfield 286, 3) := by decide +kernel
theorem dX10_opened_108 : decode cX10_opened 108 = .ok (.iload 4, 2) := by decide +kernel
theorem dX10_opened_110 : decode cX10_opened 110 = .ok (.aload_n 0, 1) := by decide +kernel
theorem dX10_opened_111 : decode cX10_opened 111 = .ok (.getfield 225, 3) := by decide +kernel
theorem dX10_opened_114 : decode cX10_opened 114 = .ok (.iconst 4, 1) := by decide +kernel
theorem dX10_opened_115 : decode cX10_opened 115 = .ok (.iload 4, 2) := by decide +kernel
theorem dX10_opened_117 : decode cX10_opened 117 = .ok (.iadd, 1) := by decide +kernel
theorem dX10_opened_118 : decode cX10_opened 118 = .ok (.baload, 1) := by decide +kernel
theorem dX10_opened_119 : decode cX10_opened 119 = .ok (.bastore, 1) := by decide +kernel
theorem dX10_opened_120 : decode cX10_opened 120 = .ok (.iinc 4 1, 3) := by decide +kernel
theorem dX10_opened_123 : decode cX10_opened 123 = .ok (.goto (-25), 3) := by decide +kernel
theorem dX10_opened_126 : decode cX10_opened 126 = .ok (.iload_n 3, 1) := by decide +kernel
theorem dX10_opened_127 : decode cX10_opened 127 = .ok (.ifCond .eq 11, 3) := by decide +kernel
theorem dX10_opened_130 : decode cX10_opened 130 = .ok (.aload_n 0, 1) := by decide +kernel
theorem dX10_opened_131 : decode cX10_opened 131 = .ok (.iconst 1, 1) := by decide +kernel
theorem dX10_opened_132 : decode cX10_opened 132 = .ok (.iload_n 2, 1) := by decide +kernel
theorem dX10_opened_133 : decode cX10_opened 133 = .ok (.iconst 0, 1) := by decide +kernel
theorem dX10_opened_134 : decode cX10_opened 134 = .ok (.invokevirtual 388, 3) := by decide +kernel
theorem dX10_opened_137 : decode cX10_opened 137 = .ok (.istore_n 2, 1) := by decide +kernel
theorem dX10_opened_138 : decode cX10_opened 138 = .ok (.iload_n 2, 1) := by decide +kernel
theorem dX10_opened_139 : decode cX10_opened 139 = .ok (.iconst (-1), 1) := by decide +kernel
theorem dX10_opened_140 : decode cX10_opened 140 = .ok (.if_icmp .eq 10, 3) := by decide +kernel
theorem dX10_opened_143 : decode cX10_opened 143 = .ok (.iload_n 2, 1) := by decide +kernel
theorem dX10_opened_144 : decode cX10_opened 144 = .ok (.sipush 200, 3) := by decide +kernel
theorem dX10_opened_147 : decode cX10_opened 147 = .ok (.if_icmp .le 5, 3) := by decide +kernel
theorem dX10_opened_150 : decode cX10_opened 150 = .ok (.iconst (-1), 1) := by decide +kernel
theorem dX10_opened_151 : decode cX10_opened 151 = .ok (.ireturn, 1) := by decide +kernel
theorem dX10_opened_152 : decode cX10_opened 152 = .ok (.aload_n 0, 1) := by decide +kernel
theorem dX10_opened_153 : decode cX10_opened 153 = .ok (.getfield 231, 3) := by decide +kernel
theorem dX10_opened_156 : decode cX10_opened 156 = .ok (.iconst 1, 1) := by decide +kernel
theorem dX10_opened_157 : decode cX10_opened 157 = .ok (.iaload, 1) := by decide +kernel
theorem dX10_opened_158 : decode cX10_opened 158 = .ok (.iconst 2, 1) := by decide +kernel
theorem dX10_opened_159 : decode cX10_opened 159 = .ok (.if_icmp .ne 33, 3) := by decide +kernel
theorem dX10_opened_162 : decode cX10_opened 162 = .ok (.aload_n 0, 1) := by decide +kernel
theorem dX10_opened_163 : decode cX10_opened 163 = .ok (.iconst 1, 1) := by decide +kernel
theorem dX10_opened_164 : decode cX10_opened 164 = .ok (.aload_n 0, 1) := by decide +kernel
theorem dX10_opened_165 : decode cX10_opened 165 = .ok (.getfield 225, 3) := by decide +kernel
theorem dX10_opened_168 : decode cX10_opened 168 = .ok (.iconst 0, 1) := by decide +kernel
theorem dX10_opened_169 : decode cX10_opened 169 = .ok (.aload_n 0, 1) := by decide +kernel
theorem dX10_opened_170 : decode cX10_opened 170 = .ok (.getfield 286, 3) := by decide +kernel
theorem dX10_opened_173 : decode cX10_opened 173 = .ok (.iconst 0, 1) := by decide +kernel
theorem dX10_opened_174 : decode cX10_opened 174 = .ok (.iload_n 2, 1) := by decide +kernel
theorem dX10_opened_175 : decode cX10_opened 175 = .ok (.iconst 0, 1) := by decide +kernel
theorem dX10_opened_176 : decode cX10_opened 176 = .ok (.invokevirtual 360, 3) := by decide +kernel
theorem dX10_opened_179 : decode cX10_opened 179 = .ok (.aload_n 0, 1) := by decide +kernel
theorem dX10_opened_180 : decode cX10_opened 180 = .ok (.iload_n 1, 1) := by decide +kernel
theorem dX10_opened_181 : decode cX10_opened 181 = .ok (.bipush 8, 2) := by decide +kernel
theorem dX10_opened_183 : decode cX10_opened 183 = .ok (.isub, 1) := by decide +kernel
theorem dX10_opened_184 : decode cX10_opened 184 = .ok (.invokevirtual 385, 3) := by decide +kernel
theorem dX10_opened_187 : decode cX10_opened 187 = .ok (.ifCond .ne 5, 3) := by decide +kernel
theorem dX10_opened_190 : decode cX10_opened 190 = .ok (.iconst (-1), 1) := by decide +kernel
theorem dX10_opened_191 : decode cX10_opened 191 = .ok (.ireturn, 1) := by decide +kernel
theorem dX10_opened_192 : decode cX10_opened 192 = .ok (.aload_n 0, 1) := by decide +kernel
theorem dX10_opened_193 : decode cX10_opened 193 = .ok (.getfield 222, 3) := by decide +kernel
theorem dX10_opened_196 : decode cX10_opened 196 = .ok (.iconst 0, 1) := by decide +kernel
theorem dX10_opened_197 : decode cX10_opened 197 = .ok (.aload_n 0, 1) := by decide +kernel
theorem dX10_opened_198 : decode cX10_opened 198 = .ok (.getfield 225, 3) := by decide +kernel
theorem dX10_opened_201 : decode cX10_opened 201 = .ok (.iconst 0, 1) := by decide +kernel
theorem dX10_opened_202 : decode cX10_opened 202 = .ok (.baload, 1) := by decide +kernel
theorem dX10_opened_203 : decode cX10_opened 203 = .ok (.bipush (-5), 2) := by decide +kernel
theorem dX10_opened_205 : decode cX10_opened 205 = .ok (.iand, 1) := by decide +kernel
theorem dX10_opened_206 : decode cX10_opened 206 = .ok (.i2b, 1) := by decide +kernel
theorem dX10_opened_207 : decode cX10_opened 207 = .ok (.bastore, 1) := by decide +kernel
theorem dX10_opened_208 : decode cX10_opened 208 = .ok (.iconst 1, 1) := by decide +kernel
theorem dX10_opened_209 : decode cX10_opened 209 = .ok (.istore 4, 2) := by decide +kernel
theorem dX10_opened_211 : decode cX10_opened 211 = .ok (.iload 4, 2) := by decide +kernel
theorem dX10_opened_213 : decode cX10_opened 213 = .ok (.iconst 4, 1) := by decide +kernel
theorem dX10_opened_214 : decode cX10_opened 214 = .ok (.if_icmp .ge 23, 3) := by decide +kernel
theorem dX10_opened_217 : decode cX10_opened 217 = .ok (.aload_n 0, 1) := by decide +kernel
theorem dX10_opened_218 : decode cX10_opened 218 = .ok (.getfield 222, 3) := by decide +kernel
theorem dX10_opened_221 : decode cX10_opened 221 = .ok (.iload 4, 2) := by decide +kernel
theorem dX10_opened_223 : decode cX10_opened 223 = .ok (.aload_n 0, 1) := by decide +kernel
theorem dX10_opened_224 : decode cX10_opened 224 = .ok (.getfield 225, 3) := by decide +kernel
theorem dX10_opened_227 : decode cX10_opened 227 = .ok (.iload 4, 2) := by decide +kernel
theorem dX10_opened_229 : decode cX10_opened 229 = .ok (.baload, 1) := by decide +kernel
theorem dX10_opened_230 : decode cX10_opened 230 = .ok (.bastore, 1) := by decide +kernel
theorem dX10_opened_231 : decode cX10_opened 231 = .ok (.iinc 4 1, 3) := by decide +kernel
theorem dX10_opened_234 : decode cX10_opened 234 = .ok (.goto (-23), 3) := by decide +kernel
theorem dX10_opened_237 : decode cX10_opened 237 = .ok (.iconst 0, 1) := by decide +kernel
theorem dX10_opened_238 : decode cX10_opened 238 = .ok (.istore 4, 2) := by decide +kernel
theorem dX10_opened_240 : decode cX10_opened 240 = .ok (.iload 4, 2) := by decide +kernel
theorem dX10_opened_242 : decode cX10_opened 242 = .ok (.iload_n 2, 1) := by decide +kernel
theorem dX10_opened_243 : decode cX10_opened 243 = .ok (.if_icmp .ge 25, 3) := by decide +kernel
theorem dX10_opened_246 : decode cX10_opened 246 = .ok (.aload_n 0, 1) := by decide +kernel
theorem dX10_opened_247 : decode cX10_opened 247 = .ok (.getfield 222, 3) := by decide +kernel
theorem dX10_opened_250 : decode cX10_opened 250 = .ok (.iconst 4, 1) := by decide +kernel
theorem dX10_opened_251 : decode cX10_opened 251 = .ok (.iload 4, 2) := by decide +kernel
theorem dX10_opened_253 : decode cX10_opened 253 = .ok (.iadd, 1) := by decide +kernel
theorem dX10_opened_254 : decode cX10_opened 254 = .ok (.aload_n 0, 1) := by decide +kernel
theorem dX10_opened_255 : decode cX10_opened 255 = .ok (.getfield 286, 3) := by decide +kernel
theorem dX10_opened_258 : decode cX10_opened 258 = .ok (.iload 4, 2) := by decide +kernel
theorem dX10_opened_260 : decode cX10_opened 260 = .ok (.baload, 1) := by decide +kernel
theorem dX10_opened_261 : decode cX10_opened 261 = .ok (.bastore, 1) := by decide +kernel
theorem dX10_opened_262 : decode cX10_opened 262 = .ok (.iinc 4 1, 3) := by decide +kernel
theorem dX10_opened_265 : decode cX10_opened 265 = .ok (.goto (-25), 3) := by decide +kernel
theorem dX10_opened_268 : decode cX10_opened 268 = .ok (.iconst 4, 1) := by decide +kernel
theorem dX10_opened_269 : decode cX10_opened 269 = .ok (.iload_n 2, 1) := by decide +kernel
theorem dX10_opened_270 : decode cX10_opened 270 = .ok (.iadd, 1) := by decide +kernel
theorem dX10_opened_271 : decode cX10_opened 271 = .ok (.ireturn, 1) := by decide +kernel
set_option maxHeartbeats 4000000 in
set_option maxRecDepth 100000 in
theorem ct_X10_opened_2 (ll : Launch) (D : va_G) (ta : Nat → ClassId) {G : (Nat → Prop) → State → Heap → Prop} (hGok : GOK G) (h0 : Nat) (a : Nat → Nat) (ar : Nat) (mn : Nat) (tp : Nat) (osz : Nat) (lsz : Nat) (ns : Nat) (ct : Nat) (bi : Nat → Bool) (tu : Nat → Bool) (cd : Nat → Bool) (sk : Nat → Bool) (hf : Nat → Bool) (wd : Nat → Bool) (gm : Nat → BitVec 8) (mac : Nat → BitVec 8) (gbl : Nat → BitVec 8) (gco : Nat → BitVec 8) (gch : Nat → BitVec 8) (gke : Nat → BitVec 8) (gli : Nat → BitVec 8) (gwk : Nat → BitVec 8) (gah : Nat → BitVec 8) (gou : Nat → BitVec 8) (ru : Nat → Nat) (le : Nat → Nat) (lv : Nat → Nat) (cn : Nat → Nat) (n8 : Nat) (hn8 : n8 ≤ 300) (hru : ru 1 = 2) (hlv : lv 1 < 256) (hcn : cn 1 + 1 < 2147483648) (sz : Nat) : CT ll yX10_opened cX10_opened 5 (some .int) ({ frames := 6, cells := 0, slots := 0, locals := 154 } : Room) D ta G [.ref h0, .int (nI n8)] [(h0, oM a ar mn tp osz lsz ns ct), (a 0, aK ta 64 tIP), (a 1, aK ta 48 tSPR), (a 2, aK ta 32 tMIX), (a 3, aK ta 56 tCH), (a 4, aK ta 48 tSEC), (a 5, aK ta 512 tSBX), (a 10, aB ta 64 bi), (a 11, aB ta 64 tu), (a 12, aB ta 56 cd), (a 13, aB ta 768 sk), (a 14, aB ta 32 hf), (a 15, aB ta 48 wd), (a 22, aS ta 700 gm), (a 24, aS ta 16 mac), (a 53, aS ta 16 gbl), (a 55, aS ta 16 gco), (a 45, aS ta 32 gch), (a 41, aS ta 256 gke), (a 36, aK ta 2 ru), (a 37, aK ta 2 le), (a 31, aS ta 300 gli), (a 40, aK ta 2 lv), (a 47, aK ta 2 cn), (a 54, aS ta 300 gwk), (a 56, aS ta 16 gah), (a 29, aS ta 416 gou)] sz (S := Int32 × Bool × (Nat → Bool) × (Nat → Bool) × (Nat → Bool) × (Nat → Bool) × (Nat → Bool) × (Nat → Bool) × (Nat → BitVec 8) × (Nat → BitVec 8) × (Nat → BitVec 8) × (Nat → BitVec 8) × (Nat → BitVec 8) × (Nat → BitVec 8) × (Nat → BitVec 8) × (Nat → BitVec 8) × (Nat → Nat) × Nat × Nat) (fun u => some (.int u.1)) (fun u => (open2 (seg gke 128 16) (seg gke 160 16) (cn 1 + 1) (lv 1) (seg gch 16 8) (qL gli n8) = if u.2.1 then some (qL u.2.2.2.2.2.2.2.2.2.2.2.2.2.2.2.1 u.2.2.2.2.2.2.2.2.2.2.2.2.2.2.2.2.2.2, seg u.2.2.2.2.2.2.2.2.2.2.2.1 0 8) else none) ∧ ((u.1 : Int32) = if u.2.1 then nI u.2.2.2.2.2.2.2.2.2.2.2.2.2.2.2.2.2.2 else -1) ∧ (u.2.1 = true → u.2.2.2.2.2.2.2.2.2.2.2.2.2.2.2.2.1 = qU cn 1 (cn 1 + 1) ∧ seg u.2.2.2.2.2.2.2.2.2.2.2.2.1 16 16 = seg u.2.2.2.2.2.2.2.2.2.2.2.1 0 16 ∧ 4 ≤ u.2.2.2.2.2.2.2.2.2.2.2.2.2.2.2.2.2.2 ∧ u.2.2.2.2.2.2.2.2.2.2.2.2.2.2.2.2.2.2 ≤ 204) ∧ (u.2.1 = false → u.2.2.2.2.2.2.2.2.2.2.2.2.2.2.2.1 = gou) ∧ (∀ j, j < 16 → u.2.2.2.2.2.2.2.2.2.2.2.2.1 j = gch j) ∧ (u.2.2.2.2.2.2.2.2.2.2.2.2.2.2.2.2.1 0 = cn 0)) (fun u => [(h0, oM a ar u.2.2.2.2.2.2.2.2.2.2.2.2.2.2.2.2.2.1 tp osz lsz ns ct), (a 0, aK ta 64 tIP), (a 1, aK ta 48 tSPR), (a 2, aK ta 32 tMIX), (a 3, aK ta 56 tCH), (a 4, aK ta 48 tSEC), (a 5, aK ta 512 tSBX), (a 10, aB ta 64 u.2.2.1), (a 11, aB ta 64 u.2.2.2.1), (a 12, aB ta 56 u.2.2.2.2.1), (a 13, aB ta 768 u.2.2.2.2.2.1), (a 14, aB ta 32 u.2.2.2.2.2.2.1), (a 15, aB ta 48 u.2.2.2.2.2.2.2.1), (a 22, aS ta 700 u.2.2.2.2.2.2.2.2.1), (a 24, aS ta 16 u.2.2.2.2.2.2.2.2.2.1), (a 53, aS ta 16 u.2.2.2.2.2.2.2.2.2.2.1), (a 55, aS ta 16 u.2.2.2.2.2.2.2.2.2.2.2.1), (a 45, aS ta 32 u.2.2.2.2.2.2.2.2.2.2.2.2.1), (a 41, aS ta 256 gke), (a 36, aK ta 2 ru), (a 37, aK ta 2 le), (a 31, aS ta 300 gli), (a 40, aK ta 2 lv), (a 47, aK ta 2 u.2.2.2.2.2.2.2.2.2.2.2.2.2.2.2.2.1), (a 54, aS ta 300 u.2.2.2.2.2.2.2.2.2.2.2.2.2.1), (a 56, aS ta 16 u.2.2.2.2.2.2.2.2.2.2.2.2.2.2.1), (a 29, aS ta 416 u.2.2.2.2.2.2.2.2.2.2.2.2.2.2.2.1)]) 0 0 := by
  refine CT.of_i (r := fun u => u.1) rfl (by decide) (Nat.le_of_ble_eq_true rfl) ?_
  intro pp ee ss mm below meth kc A Q hx hb hml hown hin hts hK hA hsz hG hret H locs hP hD hS ls hl
  have hl : lv_has ls 5 [(0, .ref h0), (1, .int (nI n8))] := hl
  refine lv_iload_n (pc := 0) hx hb dX10_opened_0 rfl (lv_at hl 1 rfl) ?_
  refine lv_bipush (pc := 1) (v := nI 12) hx hb dX10_opened_1 (by decide +kernel) ?_
  refine lv_icmp_lt (pc := 3) (tgt := 17) hx hb dX10_opened_3 (by decide) (fun c_1 => ?_) (fun c_1 => ?_)
  · skip
    rw [nI_ltI (by omega) (by omega)] at c_1
    have h12 := c_1
    refine lv_iconst (pc := 17) (v := (-1)) hx hb dX10_opened_17 (by decide +kernel) ?_
    refine q_top (y := (-1)) (by first | rfl | decide +kernel | (simp; done)) ?_
    have hq_2 : (open2 (seg gke 128 16) (seg gke 160 16) (cn 1 + 1) (lv 1) (seg gch 16 8) (qL gli n8) = if false then some (qL gou 0, seg gco 0 8) else none) ∧ (((-1) : Int32) = if false then nI 0 else -1) ∧ (false = true → cn = qU cn 1 (cn 1 + 1) ∧ seg gch 16 16 = seg gco 0 16 ∧ 4 ≤ 0 ∧ 0 ≤ 204) ∧ (false = false → gou = gou) ∧ (∀ j, j < 16 → gch j = gch j) ∧ (cn 0 = cn 0) := by
      have hsp : splB (qL gli n8) = false := by first | exact splB_no (by omega) | (rw [splB_of (by omega)]; exact decide_eq_false (fun q => by omega))
      exact ⟨open2_a hsp, rfl, fun q => (by cases q), fun _ => rfl, fun _ _ => rfl, rfl⟩
    exact hret (⟨(-1), (false), (bi), (tu), (cd), (sk), (hf), (wd), (gm), (mac), (gbl), (gco), (gch), (gwk), (gah), (gou), (cn), (mn), (0)⟩ : Int32 × Bool × (Nat → Bool) × (Nat → Bool) × (Nat → Bool) × (Nat → Bool) × (Nat → Bool) × (Nat → Bool) × (Nat → BitVec 8) × (Nat → BitVec 8) × (Nat → BitVec 8) × (Nat → BitVec 8) × (Nat → BitVec 8) × (Nat → BitVec 8) × (Nat → BitVec 8) × (Nat → BitVec 8) × (Nat → Nat) × Nat × Nat) _ _ _ _ dX10_opened_18 hq_2 (hP.sub [0, 1, 2, 3, 4, 5, 6, 7, 8, 9, 10, 11, 12, 13, 14, 15, 16, 17, 18, 19, 20, 21, 22, 23, 24, 25, 26] rfl) (hD.sub [0, 1, 2, 3, 4, 5, 6, 7, 8, 9, 10, 11, 12, 13, 14, 15, 16, 17, 18, 19, 20, 21, 22, 23, 24, 25, 26] (by decide) rfl) hS
  · skip
    rw [nI_ltI (by omega) (by omega)] at c_1
    have h12 := c_1
    refine lv_aload_n (pc := 6) hx hb dX10_opened_6 rfl (lv_at hl 0 rfl) ?_
    refine va_get (pc := 7) (D := D) (ci := 8) (v := .ref (a 31)) (C := RX10) (T := TX10) (N := 57) hx hb hts iu10 hown hK hP 0 rfl rfl 31 (by decide) (hts _ tw_1076) (fun _ h9 => h9) rfl dX10_opened_7 ?_
    refine lv_iconst (pc := 10) (v := nI 0) hx hb dX10_opened_10 (by decide +kernel) ?_
    refine q_bald (pc := 11) hx hb hK hP 21 2 rfl rfl (k := 0) (v := qs (gli 0)) rfl (by omega) (by omega) rfl dX10_opened_11 ?_
    refine lv_iconst (pc := 12) (v := nI 4) hx hb dX10_opened_12 (by decide +kernel) ?_
    have hlm : (gli 0).toNat &&& 4 ≤ 4 := Nat.and_le_right
    refine lv_iand (pc := 13) hx hb dX10_opened_13 ?_
    refine q_top (y := nI ((gli 0).toNat &&& 4)) (qs_bit4 _) ?_
    refine lv_if_ne (pc := 14) (tgt := 19) hx hb dX10_opened_14 (by decide) (fun c_3 => ?_) (fun c_3 => ?_)
    · skip
      rw [q_eq0 (by omega)] at c_3
      have hb4 := c_3
      refine lv_iload_n (pc := 19) hx hb dX10_opened_19 rfl (lv_at hl 1 rfl) ?_
      refine lv_bipush (pc := 20) (v := nI 12) hx hb dX10_opened_20 (by decide +kernel) ?_
      refine lv_isub (pc := 22) hx hb dX10_opened_22 ?_
      refine q_top (y := nI (n8 - 12)) (pk_sub (a := n8) (b := 12) (by omega)) ?_
      refine lv_istore_n (pc := 23) (lv' := [(2, .int (nI (n8 - 12))), (0, .ref h0), (1, .int (nI n8))]) hx hb dX10_opened_23 rfl hl (by decide) rfl (fun ls hl => ?_)
      have JN44 : ∀ (hd9 : Nat), ((hd9 = 1 ∧ 0 < lv 1 &&& 2 ∧ 0 < n8 - 12) ∨ (hd9 = 0 ∧ ¬ (0 < lv 1 &&& 2 ∧ 0 < n8 - 12))) → ∀ (H : Heap) (locs : List Loc), va_P D vwCl [(h0, oM a ar mn tp osz lsz ns ct), (a 0, aK ta 64 tIP), (a 1, aK ta 48 tSPR), (a 2, aK ta 32 tMIX), (a 3, aK ta 56 tCH), (a 4, aK ta 48 tSEC), (a 5, aK ta 512 tSBX), (a 10, aB ta 64 bi), (a 11, aB ta 64 tu), (a 12, aB ta 56 cd), (a 13, aB ta 768 sk), (a 14, aB ta 32 hf), (a 15, aB ta 48 wd), (a 22, aS ta 700 gm), (a 24, aS ta 16 mac), (a 53, aS ta 16 gbl), (a 55, aS ta 16 gco), (a 45, aS ta 32 gch), (a 41, aS ta 256 gke), (a 36, aK ta 2 ru), (a 37, aK ta 2 le), (a 31, aS ta 300 gli), (a 40, aK ta 2 lv), (a 47, aK ta 2 cn), (a 54, aS ta 300 gwk), (a 56, aS ta 16 gah), (a 29, aS ta 416 gou)] H → va_D A [(h0, oM a ar mn tp osz lsz ns ct), (a 0, aK ta 64 tIP), (a 1, aK ta 48 tSPR), (a 2, aK ta 32 tMIX), (a 3, aK ta 56 tCH), (a 4, aK ta 48 tSEC), (a 5, aK ta 512 tSBX), (a 10, aB ta 64 bi), (a 11, aB ta 64 tu), (a 12, aB ta 56 cd), (a 13, aB ta 768 sk), (a 14, aB ta 32 hf), (a 15, aB ta 48 wd), (a 22, aS ta 700 gm), (a 24, aS ta 16 mac), (a 53, aS ta 16 gbl), (a 55, aS ta 16 gco), (a 45, aS ta 32 gch), (a 41, aS ta 256 gke), (a 36, aK ta 2 ru), (a 37, aK ta 2 le), (a 31, aS ta 300 gli), (a 40, aK ta 2 lv), (a 47, aK ta 2 cn), (a 54, aS ta 300 gwk), (a 56, aS ta 16 gah), (a 29, aS ta 416 gou)] → va_S A ss.heap H locs → ∀ ls : Array Slot, lv_has ls 5 [(2, .int (nI (n8 - 12))), (0, .ref h0), (1, .int (nI n8))] → W pp ll ee ({ frames := 6, cells := 0, slots := 0, locals := 154 } : Room) ss mm (([.ref h0, .int (nI n8)] : List Value).toArray) below meth kc H locs 0 0 Q (F0 mm 44 ls [.int (nI hd9)]) := by
        intro hd9 hhd H locs hP hD hS ls hl
        refine lv_istore_n (pc := 44) (lv' := [(3, .int (nI hd9)), (2, .int (nI (n8 - 12))), (0, .ref h0), (1, .int (nI n8))]) hx hb dX10_opened_44 rfl hl (by decide) rfl (fun ls hl => ?_)
        refine lv_aload_n (pc := 45) hx hb dX10_opened_45 rfl (lv_at hl 2 rfl) ?_
        refine va_get (pc := 46) (D := D) (ci := 8) (v := .ref (a 47)) (C := RX10) (T := TX10) (N := 57) hx hb hts iu10 hown hK hP 0 rfl rfl 47 (by decide) (hts _ tw_1092) (fun _ h9 => h9) rfl dX10_opened_46 ?_
        refine lv_iconst (pc := 49) (v := nI 1) hx hb dX10_opened_49 (by decide +kernel) ?_
        refine lv_dup2_11 (pc := 50) hx hb dX10_opened_50 rfl rfl ?_
        refine q_iald (pc := 51) hx hb hK hP 23 0 rfl rfl (k := 1) (v := nI (cn 1)) rfl (by omega) (by omega) rfl dX10_opened_51 ?_
        refine lv_iconst (pc := 52) (v := nI 1) hx hb dX10_opened_52 (by decide +kernel) ?_
        refine lv_iadd (pc := 53) hx hb dX10_opened_53 ?_
        refine q_top (y := nI (cn 1 + 1)) (nI_add (cn 1) 1) ?_
        refine q_iastK (pc := 54) hx hb hK hP hD hS 23 0 rfl rfl (k := 1) rfl (by omega) (by omega) (b := cn 1 + 1) rfl dX10_opened_54 (fun H locs hP hD hS => ?_)
        have hP : va_P D vwCl [(h0, oM a ar mn tp osz lsz ns ct), (a 0, aK ta 64 tIP), (a 1, aK ta 48 tSPR), (a 2, aK ta 32 tMIX), (a 3, aK ta 56 tCH), (a 4, aK ta 48 tSEC), (a 5, aK ta 512 tSBX), (a 10, aB ta 64 bi), (a 11, aB ta 64 tu), (a 12, aB ta 56 cd), (a 13, aB ta 768 sk), (a 14, aB ta 32 hf), (a 15, aB ta 48 wd), (a 22, aS ta 700 gm), (a 24, aS ta 16 mac), (a 53, aS ta 16 gbl), (a 55, aS ta 16 gco), (a 45, aS ta 32 gch), (a 41, aS ta 256 gke), (a 36, aK ta 2 ru), (a 37, aK ta 2 le), (a 31, aS ta 300 gli), (a 40, aK ta 2 lv), (a 47, aK ta 2 (qU cn 1 (cn 1 + 1))), (a 54, aS ta 300 gwk), (a 56, aS ta 16 gah), (a 29, aS ta 416 gou)] H := hP
        have hD : va_D A [(h0, oM a ar mn tp osz lsz ns ct), (a 0, aK ta 64 tIP), (a 1, aK ta 48 tSPR), (a 2, aK ta 32 tMIX), (a 3, aK ta 56 tCH), (a 4, aK ta 48 tSEC), (a 5, aK ta 512 tSBX), (a 10, aB ta 64 bi), (a 11, aB ta 64 tu), (a 12, aB ta 56 cd), (a 13, aB ta 768 sk), (a 14, aB ta 32 hf), (a 15, aB ta 48 wd), (a 22, aS ta 700 gm), (a 24, aS ta 16 mac), (a 53, aS ta 16 gbl), (a 55, aS ta 16 gco), (a 45, aS ta 32 gch), (a 41, aS ta 256 gke), (a 36, aK ta 2 ru), (a 37, aK ta 2 le), (a 31, aS ta 300 gli), (a 40, aK ta 2 lv), (a 47, aK ta 2 (qU cn 1 (cn 1 + 1))), (a 54, aS ta 300 gwk), (a 56, aS ta 16 gah), (a 29, aS ta 416 gou)] := hD
        refine lv_aload_n (pc := 55) hx hb dX10_opened_55 rfl (lv_at hl 2 rfl) ?_
        refine va_get (pc := 56) (D := D) (ci := 8) (v := .ref (a 36)) (C := RX10) (T := TX10) (N := 57) hx hb hts iu10 hown hK hP 0 rfl rfl 36 (by decide) (hts _ tw_1081) (fun _ h9 => h9) rfl dX10_opened_56 ?_
        refine lv_iconst (pc := 59) (v := nI 1) hx hb dX10_opened_59 (by decide +kernel) ?_
        refine q_iald (pc := 60) hx hb hK hP 19 0 rfl rfl (k := 1) (v := nI (ru 1)) rfl (by omega) (by omega) rfl dX10_opened_60 ?_
        refine lv_iconst (pc := 61) (v := nI 3) hx hb dX10_opened_61 (by decide +kernel) ?_
        refine lv_icmp_ne (pc := 62) (tgt := 95) hx hb dX10_opened_62 (by decide) (fun c_4 => ?_) (fun c_4 => ?_)
        · skip
          rw [nI_eq (by omega) (by omega)] at c_4
          refine lv_iconst (pc := 95) (v := nI 0) hx hb dX10_opened_95 (by decide +kernel) ?_
          refine lv_istore (pc := 96) (lv' := [(4, .int (nI 0)), (3, .int (nI hd9)), (2, .int (nI (n8 - 12))), (0, .ref h0), (1, .int (nI n8))]) hx hb dX10_opened_96 hl (by decide) rfl (fun ls hl => ?_)
          have LP98 : ∀ (nn98 : Nat) (k1x : Nat) (k' : Nat → BitVec 8), (k1x ≤ n8 - 12) → (qSeg k' gwk 0 k1x ((fun j => gli (4 + j)))) → (n8 - 12 - k1x < nn98) → ∀ (H : Heap) (locs : List Loc), va_P D vwCl [(h0, oM a ar mn tp osz lsz ns ct), (a 0, aK ta 64 tIP), (a 1, aK ta 48 tSPR), (a 2, aK ta 32 tMIX), (a 3, aK ta 56 tCH), (a 4, aK ta 48 tSEC), (a 5, aK ta 512 tSBX), (a 10, aB ta 64 bi), (a 11, aB ta 64 tu), (a 12, aB ta 56 cd), (a 13, aB ta 768 sk), (a 14, aB ta 32 hf), (a 15, aB ta 48 wd), (a 22, aS ta 700 gm), (a 24, aS ta 16 mac), (a 53, aS ta 16 gbl), (a 55, aS ta 16 gco), (a 45, aS ta 32 gch), (a 41, aS ta 256 gke), (a 36, aK ta 2 ru), (a 37, aK ta 2 le), (a 31, aS ta 300 gli), (a 40, aK ta 2 lv), (a 47, aK ta 2 (qU cn 1 (cn 1 + 1))), (a 54, aS ta 300 k'), (a 56, aS ta 16 gah), (a 29, aS ta 416 gou)] H → va_D A [(h0, oM a ar mn tp osz lsz ns ct), (a 0, aK ta 64 tIP), (a 1, aK ta 48 tSPR), (a 2, aK ta 32 tMIX), (a 3, aK ta 56 tCH), (a 4, aK ta 48 tSEC), (a 5, aK ta 512 tSBX), (a 10, aB ta 64 bi), (a 11, aB ta 64 tu), (a 12, aB ta 56 cd), (a 13, aB ta 768 sk), (a 14, aB ta 32 hf), (a 15, aB ta 48 wd), (a 22, aS ta 700 gm), (a 24, aS ta 16 mac), (a 53, aS ta 16 gbl), (a 55, aS ta 16 gco), (a 45, aS ta 32 gch), (a 41, aS ta 256 gke), (a 36, aK ta 2 ru), (a 37, aK ta 2 le), (a 31, aS ta 300 gli), (a 40, aK ta 2 lv), (a 47, aK ta 2 (qU cn 1 (cn 1 + 1))), (a 54, aS ta 300 k'), (a 56, aS ta 16 gah), (a 29, aS ta 416 gou)] → va_S A ss.heap H locs → ∀ ls : Array Slot, lv_has ls 5 [(4, .int (nI k1x)), (3, .int (nI hd9)), (2, .int (nI (n8 - 12))), (0, .ref h0), (1, .int (nI n8))] → W pp ll ee ({ frames := 6, cells := 0, slots := 0, locals := 154 } : Room) ss mm (([.ref h0, .int (nI n8)] : List Value).toArray) below meth kc H locs 0 0 Q (F0 mm 98 ls []) := by
            intro nn98
            induction nn98 with
            | zero => intro k1x k' hkk1 hs1 hmu; exact absurd hmu (Nat.not_lt_zero _)
            | succ nn98 ih98 =>
              intro k1x k' hkk1 hs1 hmu98 H locs hP hD hS ls hl
              refine lv_iload (pc := 98) hx hb dX10_opened_98 (lv_at hl 0 rfl) ?_
              refine lv_iload_n (pc := 100) hx hb dX10_opened_100 rfl (lv_at hl 2 rfl) ?_
              refine lv_icmp_ge (pc := 101) (tgt := 126) hx hb dX10_opened_101 (by decide) (fun c_5 => ?_) (fun c_5 => ?_)
              · skip
                rw [nI_leI (by omega) (by omega)] at c_5
                have hwk : qL k' (n8 - 12) = seg gli 4 (n8 - 12) := by rw [← seg_0, seg_copy hs1 (by omega)]
                have JN138 : ∀ (x9 : Int32) (y9 : Bool) (m9 : Nat) (w9 : Nat → BitVec 8) (b9 : Nat → BitVec 8) (a9 : Nat → BitVec 8) (zb : Nat → Bool) (zt : Nat → Bool) (zc : Nat → Bool) (zs : Nat → Bool) (zh : Nat → Bool) (zw : Nat → Bool), (x9 = if y9 then nI m9 else -1) → ((if hidB (lv 1) 2 (midL (qL gli n8)) then show2 (seg gke 128 16) (midL (qL gli n8)) else some (midL (qL gli n8))) = if y9 then some (qL w9 m9) else none) → (m9 ≤ 288) → ∀ (H : Heap) (locs : List Loc), va_P D vwCl [(h0, oM a ar mn tp osz lsz ns ct), (a 0, aK ta 64 tIP), (a 1, aK ta 48 tSPR), (a 2, aK ta 32 tMIX), (a 3, aK ta 56 tCH), (a 4, aK ta 48 tSEC), (a 5, aK ta 512 tSBX), (a 10, aB ta 64 zb), (a 11, aB ta 64 zt), (a 12, aB ta 56 zc), (a 13, aB ta 768 zs), (a 14, aB ta 32 zh), (a 15, aB ta 48 zw), (a 22, aS ta 700 gm), (a 24, aS ta 16 mac), (a 53, aS ta 16 b9), (a 55, aS ta 16 gco), (a 45, aS ta 32 gch), (a 41, aS ta 256 gke), (a 36, aK ta 2 ru), (a 37, aK ta 2 le), (a 31, aS ta 300 gli), (a 40, aK ta 2 lv), (a 47, aK ta 2 (qU cn 1 (cn 1 + 1))), (a 54, aS ta 300 w9), (a 56, aS ta 16 a9), (a 29, aS ta 416 gou)] H → va_D A [(h0, oM a ar mn tp osz lsz ns ct), (a 0, aK ta 64 tIP), (a 1, aK ta 48 tSPR), (a 2, aK ta 32 tMIX), (a 3, aK ta 56 tCH), (a 4, aK ta 48 tSEC), (a 5, aK ta 512 tSBX), (a 10, aB ta 64 zb), (a 11, aB ta 64 zt), (a 12, aB ta 56 zc), (a 13, aB ta 768 zs), (a 14, aB ta 32 zh), (a 15, aB ta 48 zw), (a 22, aS ta 700 gm), (a 24, aS ta 16 mac), (a 53, aS ta 16 b9), (a 55, aS ta 16 gco), (a 45, aS ta 32 gch), (a 41, aS ta 256 gke), (a 36, aK ta 2 ru), (a 37, aK ta 2 le), (a 31, aS ta 300 gli), (a 40, aK ta 2 lv), (a 47, aK ta 2 (qU cn 1 (cn 1 + 1))), (a 54, aS ta 300 w9), (a 56, aS ta 16 a9), (a 29, aS ta 416 gou)] → va_S A ss.heap H locs → ∀ ls : Array Slot, lv_has ls 5 [(4, .int (nI k1x)), (3, .int (nI hd9)), (2, .int x9), (0, .ref h0), (1, .int (nI n8))] → W pp ll ee ({ frames := 6, cells := 0, slots := 0, locals := 154 } : Room) ss mm (([.ref h0, .int (nI n8)] : List Value).toArray) below meth kc H locs 0 0 Q (F0 mm 138 ls []) := by
                  intro x9 y9 m9 w9 b9 a9 zb zt zc zs zh zw hx9e hD9 hm9 H locs hP hD hS ls hl
                  refine lv_iload_n (pc := 138) hx hb dX10_opened_138 rfl (lv_at hl 2 rfl) ?_
                  by_cases hy9 : y9 = true
                  · skip
                    subst hy9
                    have hx8 : x9 = nI m9 := hx9e
                    subst hx8
                    have hD8 : (if hidB (lv 1) 2 (midL (qL gli n8)) then show2 (seg gke 128 16) (midL (qL gli n8)) else some (midL (qL gli n8))) = some (qL w9 m9) := hD9
                    refine lv_iconst (pc := 139) (v := (-1)) hx hb dX10_opened_139 (by decide +kernel) ?_
                    refine lv_icmp_eq (pc := 140) (tgt := 150) hx hb dX10_opened_140 (by decide) (fun c_6 => ?_) (fun c_6 => ?_)
                    · skip
                      exact absurd c_6 (nI_nm1 (by omega))
                    · skip
                      refine lv_iload_n (pc := 143) hx hb dX10_opened_143 rfl (lv_at hl 2 rfl) ?_
                      refine lv_sipush (pc := 144) (v := nI 200) hx hb dX10_opened_144 (by decide +kernel) ?_
                      refine lv_icmp_le (pc := 147) (tgt := 152) hx hb dX10_opened_147 (by decide) (fun c_7 => ?_) (fun c_7 => ?_)
                      · skip
                        rw [nI_leI (by omega) (by omega)] at c_7
                        refine lv_aload_n (pc := 152) hx hb dX10_opened_152 rfl (lv_at hl 3 rfl) ?_
                        refine va_get (pc := 153) (D := D) (ci := 8) (v := .ref (a 36)) (C := RX10) (T := TX10) (N := 57) hx hb hts iu10 hown hK hP 0 rfl rfl 36 (by decide) (hts _ tw_1081) (fun _ h9 => h9) rfl dX10_opened_153 ?_
                        refine lv_iconst (pc := 156) (v := nI 1) hx hb dX10_opened_156 (by decide +kernel) ?_
                        refine q_iald (pc := 157) hx hb hK hP 19 0 rfl rfl (k := 1) (v := nI (ru 1)) rfl (by omega) (by omega) rfl dX10_opened_157 ?_
                        refine lv_iconst (pc := 158) (v := nI 2) hx hb dX10_opened_158 (by decide +kernel) ?_
                        refine lv_icmp_ne (pc := 159) (tgt := 192) hx hb dX10_opened_159 (by decide) (fun c_8 => ?_) (fun c_8 => ?_)
                        · skip
                          rw [nI_eq (by omega) (by omega)] at c_8
                          exfalso; omega
                        · skip
                          rw [nI_eq (by omega) (by omega)] at c_8
                          refine lv_aload_n (pc := 162) hx hb dX10_opened_162 rfl (lv_at hl 3 rfl) ?_
                          refine lv_iconst (pc := 163) (v := nI 1) hx hb dX10_opened_163 (by decide +kernel) ?_
                          refine lv_aload_n (pc := 164) hx hb dX10_opened_164 rfl (lv_at hl 3 rfl) ?_
                          refine va_get (pc := 165) (D := D) (ci := 8) (v := .ref (a 31)) (C := RX10) (T := TX10) (N := 57) hx hb hts iu10 hown hK hP 0 rfl rfl 31 (by decide) (hts _ tw_1076) (fun _ h9 => h9) rfl dX10_opened_165 ?_
                          refine lv_iconst (pc := 168) (v := nI 0) hx hb dX10_opened_168 (by decide +kernel) ?_
                          refine lv_aload_n (pc := 169) hx hb dX10_opened_169 rfl (lv_at hl 3 rfl) ?_
                          refine va_get (pc := 170) (D := D) (ci := 8) (v := .ref (a 54)) (C := RX10) (T := TX10) (N := 57) hx hb hts iu10 hown hK hP 0 rfl rfl 54 (by decide) (hts _ tw_1099) (fun _ h9 => h9) rfl dX10_opened_170 ?_
                          refine lv_iconst (pc := 173) (v := nI 0) hx hb dX10_opened_173 (by decide +kernel) ?_
                          refine lv_iload_n (pc := 174) hx hb dX10_opened_174 rfl (lv_at hl 2 rfl) ?_
                          refine lv_iconst (pc := 175) (v := nI 0) hx hb dX10_opened_175 (by decide +kernel) ?_
                          refine cs_V (pc := 176) (idx := 360) (n := 7) (wr := [(a 40, aK ta 2 lv), (a 47, aK ta 2 (qU cn 1 (cn 1 + 1))), (a 56, aS ta 16 a9), (a 29, aS ta 416 gou)]) (As := [.int (nI 1), .ref (a 31), .int (nI 0), .ref (a 54), .int (nI 0), .int (nI m9), .int (nI 0)]) (rest := []) (ci := 8) hx hb hml hown hts hGok hK hA hG hl.1 hP hD hS (ct_X10_commandMac_200 ll D ta hGok h0 a ar mn tp osz lsz ns ct zb zt zc zs zh zw gm mac b9 gco gch gke ru le 1 (a 31) 300 gli (a 54) 300 w9 0 m9 (by first | assumption | omega | rfl | decide) (by first | assumption | omega | rfl | decide) (by first | assumption | omega | rfl | decide) (by first | assumption | omega | rfl | decide) (by first | assumption | omega | rfl | decide) (by first | assumption | omega | rfl | decide) H.size) tw_1368 tw_1365 tw_1367 tw_49 tw_75 hdX10_commandMac rfl ⟨rfl, rfl, Nat.le_of_ble_eq_true rfl, Nat.le_of_ble_eq_true rfl, Nat.le_of_ble_eq_true rfl, Nat.le_of_ble_eq_true rfl⟩ rfl rfl (q0 := 0) rfl [0, 1, 2, 3, 4, 5, 6, 7, 8, 9, 10, 11, 12, 13, 14, 15, 16, 17, 18, 19, 20, 21, 24] [22, 23, 25, 26] rfl rfl (by decide) rfl (Nat.le_of_ble_eq_true rfl) dX10_opened_176 (fun u H locs hq hP hD hS => ?_)
                          obtain ⟨bi1_176, tu1_176, cd1_176, sk1_176, hf1_176, wd1_176, gm1_176, mac1_176, gbl1_176, gco1_176, gch1_176, mn1_176⟩ := u
                          have hq : (seg gco1_176 0 8 = retailL (seg gke (128 * 1 + 32) 16) (desL (seg gke (128 * 1 + 32) 8) false (seg gch (16 * 1) 8)) (headL (seg gli 0 4) m9 ++ seg w9 0 m9)) ∧ (seg gch1_176 (16 * 1) 16 = seg gco1_176 0 16) ∧ (∀ jz, (jz < 16 * 1 ∨ 16 * 1 + 16 ≤ jz) → gch1_176 jz = gch jz) := hq
                          obtain ⟨hs_176, hc_176, hfc_176⟩ := hq
                          refine W.eq (g2 := F0 mm 179 ls []) rfl ?_
                          have hP : va_P D vwCl [(a 40, aK ta 2 lv), (a 47, aK ta 2 (qU cn 1 (cn 1 + 1))), (a 56, aS ta 16 a9), (a 29, aS ta 416 gou), (h0, oM a ar mn1_176 tp osz lsz ns ct), (a 0, aK ta 64 tIP), (a 1, aK ta 48 tSPR), (a 2, aK ta 32 tMIX), (a 3, aK ta 56 tCH), (a 4, aK ta 48 tSEC), (a 5, aK ta 512 tSBX), (a 10, aB ta 64 bi1_176), (a 11, aB ta 64 tu1_176), (a 12, aB ta 56 cd1_176), (a 13, aB ta 768 sk1_176), (a 14, aB ta 32 hf1_176), (a 15, aB ta 48 wd1_176), (a 22, aS ta 700 gm1_176), (a 24, aS ta 16 mac1_176), (a 53, aS ta 16 gbl1_176), (a 55, aS ta 16 gco1_176), (a 45, aS ta 32 gch1_176), (a 41, aS ta 256 gke), (a 36, aK ta 2 ru), (a 37, aK ta 2 le), (a 31, aS ta 300 gli), (a 54, aS ta 300 w9)] H := hP
                          have hD : va_D A [(a 40, aK ta 2 lv), (a 47, aK ta 2 (qU cn 1 (cn 1 + 1))), (a 56, aS ta 16 a9), (a 29, aS ta 416 gou), (h0, oM a ar mn1_176 tp osz lsz ns ct), (a 0, aK ta 64 tIP), (a 1, aK ta 48 tSPR), (a 2, aK ta 32 tMIX), (a 3, aK ta 56 tCH), (a 4, aK ta 48 tSEC), (a 5, aK ta 512 tSBX), (a 10, aB ta 64 bi1_176), (a 11, aB ta 64 tu1_176), (a 12, aB ta 56 cd1_176), (a 13, aB ta 768 sk1_176), (a 14, aB ta 32 hf1_176), (a 15, aB ta 48 wd1_176), (a 22, aS ta 700 gm1_176), (a 24, aS ta 16 mac1_176), (a 53, aS ta 16 gbl1_176), (a 55, aS ta 16 gco1_176), (a 45, aS ta 32 gch1_176), (a 41, aS ta 256 gke), (a 36, aK ta 2 ru), (a 37, aK ta 2 le), (a 31, aS ta 300 gli), (a 54, aS ta 300 w9)] := hD
                          refine lv_aload_n (pc := 179) hx hb dX10_opened_179 rfl (lv_at hl 3 rfl) ?_
                          refine lv_iload_n (pc := 180) hx hb dX10_opened_180 rfl (lv_at hl 4 rfl) ?_
                          refine lv_bipush (pc := 181) (v := nI 8) hx hb dX10_opened_181 (by decide +kernel) ?_
                          refine lv_isub (pc := 183) hx hb dX10_opened_183 ?_
                          refine q_top (y := nI (n8 - 8)) (pk_sub (a := n8) (b := 8) (by omega)) ?_
                          refine cs_V (pc := 184) (idx := 385) (n := 1) (wr := [(a 40, aK ta 2 lv), (a 47, aK ta 2 (qU cn 1 (cn 1 + 1))), (a 56, aS ta 16 a9), (a 29, aS ta 416 gou), (a 0, aK ta 64 tIP), (a 1, aK ta 48 tSPR), (a 2, aK ta 32 tMIX), (a 3, aK ta 56 tCH), (a 4, aK ta 48 tSEC), (a 5, aK ta 512 tSBX), (a 10, aB ta 64 bi1_176), (a 11, aB ta 64 tu1_176), (a 12, aB ta 56 cd1_176), (a 13, aB ta 768 sk1_176), (a 14, aB ta 32 hf1_176), (a 15, aB ta 48 wd1_176), (a 22, aS ta 700 gm1_176), (a 24, aS ta 16 mac1_176), (a 53, aS ta 16 gbl1_176), (a 45, aS ta 32 gch1_176), (a 41, aS ta 256 gke), (a 36, aK ta 2 ru), (a 37, aK ta 2 le), (a 54, aS ta 300 w9)]) (As := [.int (nI (n8 - 8))]) (rest := []) (ci := 8) hx hb hml hown hts hGok hK hA hG hl.1 hP hD hS (ct_X10_isCode ll D ta hGok h0 a ar mn1_176 tp osz lsz ns ct gli gco1_176 (n8 - 8) (by first | assumption | omega | rfl | decide) H.size) tw_1412 tw_1409 tw_1411 tw_58 tw_75 hdX10_isCode rfl ⟨rfl, rfl, Nat.le_of_ble_eq_true rfl, Nat.le_of_ble_eq_true rfl, Nat.le_of_ble_eq_true rfl, Nat.le_of_ble_eq_true rfl⟩ rfl rfl (q0 := 4) rfl [4, 25, 20] [0, 1, 2, 3, 5, 6, 7, 8, 9, 10, 11, 12, 13, 14, 15, 16, 17, 18, 19, 21, 22, 23, 24, 26] rfl rfl (by decide) rfl (Nat.le_of_ble_eq_true rfl) dX10_opened_184 (fun u H locs hq hP hD hS => ?_)
                          generalize u = z_184 at hq hP hD ⊢
                          have hq : (z_184 = decide (seg gli (n8 - 8) 8 = seg gco1_176 0 8)) := hq
                          have hz_184 := hq
                          refine W.eq (g2 := F0 mm 187 ls [.int (qb z_184)]) rfl ?_
                          have hP : va_P D vwCl [(a 40, aK ta 2 lv), (a 47, aK ta 2 (qU cn 1 (cn 1 + 1))), (a 56, aS ta 16 a9), (a 29, aS ta 416 gou), (a 0, aK ta 64 tIP), (a 1, aK ta 48 tSPR), (a 2, aK ta 32 tMIX), (a 3, aK ta 56 tCH), (a 4, aK ta 48 tSEC), (a 5, aK ta 512 tSBX), (a 10, aB ta 64 bi1_176), (a 11, aB ta 64 tu1_176), (a 12, aB ta 56 cd1_176), (a 13, aB ta 768 sk1_176), (a 14, aB ta 32 hf1_176), (a 15, aB ta 48 wd1_176), (a 22, aS ta 700 gm1_176), (a 24, aS ta 16 mac1_176), (a 53, aS ta 16 gbl1_176), (a 45, aS ta 32 gch1_176), (a 41, aS ta 256 gke), (a 36, aK ta 2 ru), (a 37, aK ta 2 le), (a 54, aS ta 300 w9), (h0, oM a ar mn1_176 tp osz lsz ns ct), (a 31, aS ta 300 gli), (a 55, aS ta 16 gco1_176)] H := hP
                          have hD : va_D A [(a 40, aK ta 2 lv), (a 47, aK ta 2 (qU cn 1 (cn 1 + 1))), (a 56, aS ta 16 a9), (a 29, aS ta 416 gou), (a 0, aK ta 64 tIP), (a 1, aK ta 48 tSPR), (a 2, aK ta 32 tMIX), (a 3, aK ta 56 tCH), (a 4, aK ta 48 tSEC), (a 5, aK ta 512 tSBX), (a 10, aB ta 64 bi1_176), (a 11, aB ta 64 tu1_176), (a 12, aB ta 56 cd1_176), (a 13, aB ta 768 sk1_176), (a 14, aB ta 32 hf1_176), (a 15, aB ta 48 wd1_176), (a 22, aS ta 700 gm1_176), (a 24, aS ta 16 mac1_176), (a 53, aS ta 16 gbl1_176), (a 45, aS ta 32 gch1_176), (a 41, aS ta 256 gke), (a 36, aK ta 2 ru), (a 37, aK ta 2 le), (a 54, aS ta 300 w9), (h0, oM a ar mn1_176 tp osz lsz ns ct), (a 31, aS ta 300 gli), (a 55, aS ta 16 gco1_176)] := hD
                          refine lv_if_ne (pc := 187) (tgt := 192) hx hb dX10_opened_187 (by decide) (fun c_9 => ?_) (fun c_9 => ?_)
                          · skip
                            rw [q_beq] at c_9
                            try rw [Bool.not_eq_false] at c_9
                            have hze := c_9
                            refine lv_aload_n (pc := 192) hx hb dX10_opened_192 rfl (lv_at hl 3 rfl) ?_
                            refine va_get (pc := 193) (D := D) (ci := 8) (v := .ref (a 29)) (C := RX10) (T := TX10) (N := 57) hx hb hts iu10 hown hK hP 24 rfl rfl 29 (by decide) (hts _ tw_1074) (fun _ h9 => h9) rfl dX10_opened_193 ?_
                            refine lv_iconst (pc := 196) (v := nI 0) hx hb dX10_opened_196 (by decide +kernel) ?_
                            refine lv_aload_n (pc := 197) hx hb dX10_opened_197 rfl (lv_at hl 3 rfl) ?_
                            refine va_get (pc := 198) (D := D) (ci := 8) (v := .ref (a 31)) (C := RX10) (T := TX10) (N := 57) hx hb hts iu10 hown hK hP 24 rfl rfl 31 (by decide) (hts _ tw_1076) (fun _ h9 => h9) rfl dX10_opened_198 ?_
                            refine lv_iconst (pc := 201) (v := nI 0) hx hb dX10_opened_201 (by decide +kernel) ?_
                            refine q_bald (pc := 202) hx hb hK hP 25 2 rfl rfl (k := 0) (v := qs (gli 0)) rfl (by omega) (by omega) rfl dX10_opened_202 ?_
                            refine lv_bipush (pc := 203) (v := (-5)) hx hb dX10_opened_203 (by decide +kernel) ?_
                            refine lv_iand (pc := 205) hx hb dX10_opened_205 ?_
                            refine lv_i2b (pc := 206) (v := qs (qlo ((qs (gli 0)) &&& (-5)))) hx hb dX10_opened_206 (q_i2b _) ?_
                            refine q_bastS (pc := 207) hx hb hK hP hD hS 3 2 rfl rfl (k := 0) rfl (by omega) (by omega) (b := qlo ((qs (gli 0)) &&& (-5))) (qlo_qs _) dX10_opened_207 (fun H locs hP hD hS => ?_)
                            have hP : va_P D vwCl [(a 40, aK ta 2 lv), (a 47, aK ta 2 (qU cn 1 (cn 1 + 1))), (a 56, aS ta 16 a9), (a 29, aS ta 416 (qU gou 0 (qlo ((qs (gli 0)) &&& (-5))))), (a 0, aK ta 64 tIP), (a 1, aK ta 48 tSPR), (a 2, aK ta 32 tMIX), (a 3, aK ta 56 tCH), (a 4, aK ta 48 tSEC), (a 5, aK ta 512 tSBX), (a 10, aB ta 64 bi1_176), (a 11, aB ta 64 tu1_176), (a 12, aB ta 56 cd1_176), (a 13, aB ta 768 sk1_176), (a 14, aB ta 32 hf1_176), (a 15, aB ta 48 wd1_176), (a 22, aS ta 700 gm1_176), (a 24, aS ta 16 mac1_176), (a 53, aS ta 16 gbl1_176), (a 45, aS ta 32 gch1_176), (a 41, aS ta 256 gke), (a 36, aK ta 2 ru), (a 37, aK ta 2 le), (a 54, aS ta 300 w9), (h0, oM a ar mn1_176 tp osz lsz ns ct), (a 31, aS ta 300 gli), (a 55, aS ta 16 gco1_176)] H := hP
                            have hD : va_D A [(a 40, aK ta 2 lv), (a 47, aK ta 2 (qU cn 1 (cn 1 + 1))), (a 56, aS ta 16 a9), (a 29, aS ta 416 (qU gou 0 (qlo ((qs (gli 0)) &&& (-5))))), (a 0, aK ta 64 tIP), (a 1, aK ta 48 tSPR), (a 2, aK ta 32 tMIX), (a 3, aK ta 56 tCH), (a 4, aK ta 48 tSEC), (a 5, aK ta 512 tSBX), (a 10, aB ta 64 bi1_176), (a 11, aB ta 64 tu1_176), (a 12, aB ta 56 cd1_176), (a 13, aB ta 768 sk1_176), (a 14, aB ta 32 hf1_176), (a 15, aB ta 48 wd1_176), (a 22, aS ta 700 gm1_176), (a 24, aS ta 16 mac1_176), (a 53, aS ta 16 gbl1_176), (a 45, aS ta 32 gch1_176), (a 41, aS ta 256 gke), (a 36, aK ta 2 ru), (a 37, aK ta 2 le), (a 54, aS ta 300 w9), (h0, oM a ar mn1_176 tp osz lsz ns ct), (a 31, aS ta 300 gli), (a 55, aS ta 16 gco1_176)] := hD
                            refine lv_iconst (pc := 208) (v := nI 1) hx hb dX10_opened_208 (by decide +kernel) ?_
                            refine lv_istore (pc := 209) (lv' := [(4, .int (nI 1)), (3, .int (nI hd9)), (2, .int (nI m9)), (0, .ref h0), (1, .int (nI n8))]) hx hb dX10_opened_209 hl (by decide) rfl (fun ls hl => ?_)
                            have LP211 : ∀ (nn211 : Nat) (k2x : Nat) (p' : Nat → BitVec 8), (1 ≤ k2x ∧ k2x ≤ 4) → ((∀ j, 1 ≤ j → j < k2x → p' j = gli j) ∧ p' 0 = qlo (qs (gli 0) &&& (-5))) → (4 - k2x < nn211) → ∀ (H : Heap) (locs : List Loc), va_P D vwCl [(a 40, aK ta 2 lv), (a 47, aK ta 2 (qU cn 1 (cn 1 + 1))), (a 56, aS ta 16 a9), (a 29, aS ta 416 p'), (a 0, aK ta 64 tIP), (a 1, aK ta 48 tSPR), (a 2, aK ta 32 tMIX), (a 3, aK ta 56 tCH), (a 4, aK ta 48 tSEC), (a 5, aK ta 512 tSBX), (a 10, aB ta 64 bi1_176), (a 11, aB ta 64 tu1_176), (a 12, aB ta 56 cd1_176), (a 13, aB ta 768 sk1_176), (a 14, aB ta 32 hf1_176), (a 15, aB ta 48 wd1_176), (a 22, aS ta 700 gm1_176), (a 24, aS ta 16 mac1_176), (a 53, aS ta 16 gbl1_176), (a 45, aS ta 32 gch1_176), (a 41, aS ta 256 gke), (a 36, aK ta 2 ru), (a 37, aK ta 2 le), (a 54, aS ta 300 w9), (h0, oM a ar mn1_176 tp osz lsz ns ct), (a 31, aS ta 300 gli), (a 55, aS ta 16 gco1_176)] H → va_D A [(a 40, aK ta 2 lv), (a 47, aK ta 2 (qU cn 1 (cn 1 + 1))), (a 56, aS ta 16 a9), (a 29, aS ta 416 p'), (a 0, aK ta 64 tIP), (a 1, aK ta 48 tSPR), (a 2, aK ta 32 tMIX), (a 3, aK ta 56 tCH), (a 4, aK ta 48 tSEC), (a 5, aK ta 512 tSBX), (a 10, aB ta 64 bi1_176), (a 11, aB ta 64 tu1_176), (a 12, aB ta 56 cd1_176), (a 13, aB ta 768 sk1_176), (a 14, aB ta 32 hf1_176), (a 15, aB ta 48 wd1_176), (a 22, aS ta 700 gm1_176), (a 24, aS ta 16 mac1_176), (a 53, aS ta 16 gbl1_176), (a 45, aS ta 32 gch1_176), (a 41, aS ta 256 gke), (a 36, aK ta 2 ru), (a 37, aK ta 2 le), (a 54, aS ta 300 w9), (h0, oM a ar mn1_176 tp osz lsz ns ct), (a 31, aS ta 300 gli), (a 55, aS ta 16 gco1_176)] → va_S A ss.heap H locs → ∀ ls : Array Slot, lv_has ls 5 [(4, .int (nI k2x)), (3, .int (nI hd9)), (2, .int (nI m9)), (0, .ref h0), (1, .int (nI n8))] → W pp ll ee ({ frames := 6, cells := 0, slots := 0, locals := 154 } : Room) ss mm (([.ref h0, .int (nI n8)] : List Value).toArray) below meth kc H locs 0 0 Q (F0 mm 211 ls []) := by
                              intro nn211
                              induction nn211 with
                              | zero => intro k2x p' hk2 hp2 hmu; exact absurd hmu (Nat.not_lt_zero _)
                              | succ nn211 ih211 =>
                                intro k2x p' hk2 hp2 hmu211 H locs hP hD hS ls hl
                                refine lv_iload (pc := 211) hx hb dX10_opened_211 (lv_at hl 0 rfl) ?_
                                refine lv_iconst (pc := 213) (v := nI 4) hx hb dX10_opened_213 (by decide +kernel) ?_
                                refine lv_icmp_ge (pc := 214) (tgt := 237) hx hb dX10_opened_214 (by decide) (fun c_10 => ?_) (fun c_10 => ?_)
                                · skip
                                  rw [nI_leI (by omega) (by omega)] at c_10
                                  refine lv_iconst (pc := 237) (v := nI 0) hx hb dX10_opened_237 (by decide +kernel) ?_
                                  refine lv_istore (pc := 238) (lv' := [(4, .int (nI 0)), (3, .int (nI hd9)), (2, .int (nI m9)), (0, .ref h0), (1, .int (nI n8))]) hx hb dX10_opened_238 hl (by decide) rfl (fun ls hl => ?_)
                                  have LP240 : ∀ (nn240 : Nat) (k3x : Nat) (q' : Nat → BitVec 8), (k3x ≤ m9) → (qSeg q' p' 4 k3x w9) → (m9 - k3x < nn240) → ∀ (H : Heap) (locs : List Loc), va_P D vwCl [(a 40, aK ta 2 lv), (a 47, aK ta 2 (qU cn 1 (cn 1 + 1))), (a 56, aS ta 16 a9), (a 29, aS ta 416 q'), (a 0, aK ta 64 tIP), (a 1, aK ta 48 tSPR), (a 2, aK ta 32 tMIX), (a 3, aK ta 56 tCH), (a 4, aK ta 48 tSEC), (a 5, aK ta 512 tSBX), (a 10, aB ta 64 bi1_176), (a 11, aB ta 64 tu1_176), (a 12, aB ta 56 cd1_176), (a 13, aB ta 768 sk1_176), (a 14, aB ta 32 hf1_176), (a 15, aB ta 48 wd1_176), (a 22, aS ta 700 gm1_176), (a 24, aS ta 16 mac1_176), (a 53, aS ta 16 gbl1_176), (a 45, aS ta 32 gch1_176), (a 41, aS ta 256 gke), (a 36, aK ta 2 ru), (a 37, aK ta 2 le), (a 54, aS ta 300 w9), (h0, oM a ar mn1_176 tp osz lsz ns ct), (a 31, aS ta 300 gli), (a 55, aS ta 16 gco1_176)] H → va_D A [(a 40, aK ta 2 lv), (a 47, aK ta 2 (qU cn 1 (cn 1 + 1))), (a 56, aS ta 16 a9), (a 29, aS ta 416 q'), (a 0, aK ta 64 tIP), (a 1, aK ta 48 tSPR), (a 2, aK ta 32 tMIX), (a 3, aK ta 56 tCH), (a 4, aK ta 48 tSEC), (a 5, aK ta 512 tSBX), (a 10, aB ta 64 bi1_176), (a 11, aB ta 64 tu1_176), (a 12, aB ta 56 cd1_176), (a 13, aB ta 768 sk1_176), (a 14, aB ta 32 hf1_176), (a 15, aB ta 48 wd1_176), (a 22, aS ta 700 gm1_176), (a 24, aS ta 16 mac1_176), (a 53, aS ta 16 gbl1_176), (a 45, aS ta 32 gch1_176), (a 41, aS ta 256 gke), (a 36, aK ta 2 ru), (a 37, aK ta 2 le), (a 54, aS ta 300 w9), (h0, oM a ar mn1_176 tp osz lsz ns ct), (a 31, aS ta 300 gli), (a 55, aS ta 16 gco1_176)] → va_S A ss.heap H locs → ∀ ls : Array Slot, lv_has ls 5 [(4, .int (nI k3x)), (3, .int (nI hd9)), (2, .int (nI m9)), (0, .ref h0), (1, .int (nI n8))] → W pp ll ee ({ frames := 6, cells := 0, slots := 0, locals := 154 } : Room) ss mm (([.ref h0, .int (nI n8)] : List Value).toArray) below meth kc H locs 0 0 Q (F0 mm 240 ls []) := by
                                    intro nn240
                                    induction nn240 with
                                    | zero => intro k3x q' hk3 hs3 hmu; exact absurd hmu (Nat.not_lt_zero _)
                                    | succ nn240 ih240 =>
                                      intro k3x q' hk3 hs3 hmu240 H locs hP hD hS ls hl
                                      refine lv_iload (pc := 240) hx hb dX10_opened_240 (lv_at hl 0 rfl) ?_
                                      refine lv_iload_n (pc := 242) hx hb dX10_opened_242 rfl (lv_at hl 2 rfl) ?_
                                      refine lv_icmp_ge (pc := 243) (tgt := 268) hx hb dX10_opened_243 (by decide) (fun c_11 => ?_) (fun c_11 => ?_)
                                      · skip
                                        rw [nI_leI (by omega) (by omega)] at c_11
                                        refine lv_iconst (pc := 268) (v := nI 4) hx hb dX10_opened_268 (by decide +kernel) ?_
                                        refine lv_iload_n (pc := 269) hx hb dX10_opened_269 rfl (lv_at hl 2 rfl) ?_
                                        refine lv_iadd (pc := 270) hx hb dX10_opened_270 ?_
                                        refine q_top (y := nI (4 + m9)) (nI_add 4 m9) ?_
                                        refine q_top (y := (nI (4 + m9))) (by first | rfl | decide +kernel | (simp; done)) ?_
                                        have hq_12 : (open2 (seg gke 128 16) (seg gke 160 16) (cn 1 + 1) (lv 1) (seg gch 16 8) (qL gli n8) = if true then some (qL q' (4 + m9), seg gco1_176 0 8) else none) ∧ (((nI (4 + m9)) : Int32) = if true then nI (4 + m9) else -1) ∧ (true = true → (qU cn 1 (cn 1 + 1)) = qU cn 1 (cn 1 + 1) ∧ seg gch1_176 16 16 = seg gco1_176 0 16 ∧ 4 ≤ (4 + m9) ∧ (4 + m9) ≤ 204) ∧ (true = false → q' = gou) ∧ (∀ j, j < 16 → gch1_176 j = gch j) ∧ ((qU cn 1 (cn 1 + 1)) 0 = cn 0) := by
                                          have hsp : splB (qL gli n8) = true := by rw [splB_of (by omega)]; exact decide_eq_true ⟨by omega, by omega⟩
                                          have hop := open2_y (Ke := (seg gke 128 16)) (Km := seg gke 160 16) (ch := seg gch 16 8) (cnt := cn 1 + 1) (lv := lv 1) hsp
                                          have hs9 : seg gco1_176 0 8 = retailL (seg gke 160 16) (desL (seg gke 160 8) false (seg gch 16 8)) (headL (seg gli 0 4) m9 ++ seg w9 0 m9) := hs_176
                                          rw [hD8, Option.bind_some, if_pos (by rw [qL_len]; omega), chain2_join (by rw [qL_len]; omega) (by omega), end_seg (by omega), qL_len, seg_take (by decide), seg_take (by decide), ← head_qL (g := gli) (n := n8) (by omega), ← seg_0 (g := w9), ← hs9, seg_take (by decide)] at hop
                                          rw [if_pos (of_decide_eq_true (hz_184.symm.trans hze)), seg_0 (g := w9)] at hop
                                          have hL4 : seg p' 0 4 = [qlo (qs (gli 0) &&& (-5))] ++ seg gli 1 3 := seg_123 (g := gli) gli hp2.1 hp2.2 (by omega)
                                          have hall : qL q' (4 + m9) = [qlo (qs (gli 0) &&& (-5))] ++ seg gli 1 3 ++ qL w9 m9 := by
                                            rw [← seg_0, seg_app, Nat.zero_add, seg_copy0 hs3 (by omega), seg_keep (g' := q') (g := p') (o := 0) (n := 4) (fun j hj => hs3.2 _ (by omega)), hL4]
                                          refine ⟨?_, rfl, fun _ => ⟨rfl, hc_176, by omega, by omega⟩, fun q => (by cases q), fun j hj => hfc_176 j (by omega), qU_ne (by decide)⟩
                                          rw [hop, join_ref (g := gli) (n := n8) (D := qL w9 m9) (by omega) hall]
                                          rfl
                                        exact hret (⟨(nI (4 + m9)), (true), (bi1_176), (tu1_176), (cd1_176), (sk1_176), (hf1_176), (wd1_176), (gm1_176), (mac1_176), (gbl1_176), (gco1_176), (gch1_176), (w9), (a9), (q'), (qU cn 1 (cn 1 + 1)), (mn1_176), (4 + m9)⟩ : Int32 × Bool × (Nat → Bool) × (Nat → Bool) × (Nat → Bool) × (Nat → Bool) × (Nat → Bool) × (Nat → Bool) × (Nat → BitVec 8) × (Nat → BitVec 8) × (Nat → BitVec 8) × (Nat → BitVec 8) × (Nat → BitVec 8) × (Nat → BitVec 8) × (Nat → BitVec 8) × (Nat → BitVec 8) × (Nat → Nat) × Nat × Nat) _ _ _ _ dX10_opened_271 hq_12 (hP.sub [24, 4, 5, 6, 7, 8, 9, 10, 11, 12, 13, 14, 15, 16, 17, 18, 26, 19, 20, 21, 22, 25, 0, 1, 23, 2, 3] rfl) (hD.sub [24, 4, 5, 6, 7, 8, 9, 10, 11, 12, 13, 14, 15, 16, 17, 18, 26, 19, 20, 21, 22, 25, 0, 1, 23, 2, 3] (by decide) rfl) hS
                                      · skip
                                        rw [nI_leI (by omega) (by omega)] at c_11
                                        refine lv_aload_n (pc := 246) hx hb dX10_opened_246 rfl (lv_at hl 3 rfl) ?_
                                        refine va_get (pc := 247) (D := D) (ci := 8) (v := .ref (a 29)) (C := RX10) (T := TX10) (N := 57) hx hb hts iu10 hown hK hP 24 rfl rfl 29 (by decide) (hts _ tw_1074) (fun _ h9 => h9) rfl dX10_opened_247 ?_
                                        refine lv_iconst (pc := 250) (v := nI 4) hx hb dX10_opened_250 (by decide +kernel) ?_
                                        refine lv_iload (pc := 251) hx hb dX10_opened_251 (lv_at hl 0 rfl) ?_
                                        refine lv_iadd (pc := 253) hx hb dX10_opened_253 ?_
                                        refine q_top (y := nI (4 + k3x)) (nI_add 4 k3x) ?_
                                        refine lv_aload_n (pc := 254) hx hb dX10_opened_254 rfl (lv_at hl 3 rfl) ?_
                                        refine va_get (pc := 255) (D := D) (ci := 8) (v := .ref (a 54)) (C := RX10) (T := TX10) (N := 57) hx hb hts iu10 hown hK hP 24 rfl rfl 54 (by decide) (hts _ tw_1099) (fun _ h9 => h9) rfl dX10_opened_255 ?_
                                        refine lv_iload (pc := 258) hx hb dX10_opened_258 (lv_at hl 0 rfl) ?_
                                        refine q_bald (pc := 260) hx hb hK hP 23 2 rfl rfl (k := k3x) (v := qs (w9 k3x)) rfl (by omega) (by omega) rfl dX10_opened_260 ?_
                                        refine q_bastS (pc := 261) hx hb hK hP hD hS 3 2 rfl rfl (k := 4 + k3x) rfl (by omega) (by omega) (b := w9 k3x) (qlo_qs _) dX10_opened_261 (fun H locs hP hD hS => ?_)
                                        have hP : va_P D vwCl [(a 40, aK ta 2 lv), (a 47, aK ta 2 (qU cn 1 (cn 1 + 1))), (a 56, aS ta 16 a9), (a 29, aS ta 416 (qU q' (4 + k3x) (w9 k3x))), (a 0, aK ta 64 tIP), (a 1, aK ta 48 tSPR), (a 2, aK ta 32 tMIX), (a 3, aK ta 56 tCH), (a 4, aK ta 48 tSEC), (a 5, aK ta 512 tSBX), (a 10, aB ta 64 bi1_176), (a 11, aB ta 64 tu1_176), (a 12, aB ta 56 cd1_176), (a 13, aB ta 768 sk1_176), (a 14, aB ta 32 hf1_176), (a 15, aB ta 48 wd1_176), (a 22, aS ta 700 gm1_176), (a 24, aS ta 16 mac1_176), (a 53, aS ta 16 gbl1_176), (a 45, aS ta 32 gch1_176), (a 41, aS ta 256 gke), (a 36, aK ta 2 ru), (a 37, aK ta 2 le), (a 54, aS ta 300 w9), (h0, oM a ar mn1_176 tp osz lsz ns ct), (a 31, aS ta 300 gli), (a 55, aS ta 16 gco1_176)] H := hP
                                        have hD : va_D A [(a 40, aK ta 2 lv), (a 47, aK ta 2 (qU cn 1 (cn 1 + 1))), (a 56, aS ta 16 a9), (a 29, aS ta 416 (qU q' (4 + k3x) (w9 k3x))), (a 0, aK ta 64 tIP), (a 1, aK ta 48 tSPR), (a 2, aK ta 32 tMIX), (a 3, aK ta 56 tCH), (a 4, aK ta 48 tSEC), (a 5, aK ta 512 tSBX), (a 10, aB ta 64 bi1_176), (a 11, aB ta 64 tu1_176), (a 12, aB ta 56 cd1_176), (a 13, aB ta 768 sk1_176), (a 14, aB ta 32 hf1_176), (a 15, aB ta 48 wd1_176), (a 22, aS ta 700 gm1_176), (a 24, aS ta 16 mac1_176), (a 53, aS ta 16 gbl1_176), (a 45, aS ta 32 gch1_176), (a 41, aS ta 256 gke), (a 36, aK ta 2 ru), (a 37, aK ta 2 le), (a 54, aS ta 300 w9), (h0, oM a ar mn1_176 tp osz lsz ns ct), (a 31, aS ta 300 gli), (a 55, aS ta 16 gco1_176)] := hD
                                        refine lv_iinc (pc := 262) (v := nI (k3x + 1)) (lv' := [(4, .int (nI (k3x + 1))), (3, .int (nI hd9)), (2, .int (nI m9)), (0, .ref h0), (1, .int (nI n8))]) hx hb dX10_opened_262 hl (k := 0) rfl (by first | exact nI_add k3x 1 | rfl) (by decide) rfl (fun ls hl => ?_)
                                        refine lv_goto (pc := 265) (tgt := 240) hx hb dX10_opened_265 (by decide) ?_
                                        exact ih240 (k3x + 1) (qU q' (4 + k3x) (w9 k3x)) (by omega) (qSeg_s hs3 (by omega) rfl) (by omega) _ _ (hP.sub [0, 1, 2, 3, 4, 5, 6, 7, 8, 9, 10, 11, 12, 13, 14, 15, 16, 17, 18, 19, 20, 21, 22, 23, 24, 25, 26] rfl) (hD.sub [0, 1, 2, 3, 4, 5, 6, 7, 8, 9, 10, 11, 12, 13, 14, 15, 16, 17, 18, 19, 20, 21, 22, 23, 24, 25, 26] (by decide) rfl) hS ls (lv_sub hl [0, 1, 2, 3, 4] rfl)
                                  exact LP240 _ 0 p' (by omega) (qSeg_0) (Nat.lt_succ_self _) _ _ (hP.sub [0, 1, 2, 3, 4, 5, 6, 7, 8, 9, 10, 11, 12, 13, 14, 15, 16, 17, 18, 19, 20, 21, 22, 23, 24, 25, 26] rfl) (hD.sub [0, 1, 2, 3, 4, 5, 6, 7, 8, 9, 10, 11, 12, 13, 14, 15, 16, 17, 18, 19, 20, 21, 22, 23, 24, 25, 26] (by decide) rfl) hS ls (lv_sub hl [0, 1, 2, 3, 4] rfl)
                                · skip
                                  rw [nI_leI (by omega) (by omega)] at c_10
                                  refine lv_aload_n (pc := 217) hx hb dX10_opened_217 rfl (lv_at hl 3 rfl) ?_
                                  refine va_get (pc := 218) (D := D) (ci := 8) (v := .ref (a 29)) (C := RX10) (T := TX10) (N := 57) hx hb hts iu10 hown hK hP 24 rfl rfl 29 (by decide) (hts _ tw_1074) (fun _ h9 => h9) rfl dX10_opened_218 ?_
                                  refine lv_iload (pc := 221) hx hb dX10_opened_221 (lv_at hl 0 rfl) ?_
                                  refine lv_aload_n (pc := 223) hx hb dX10_opened_223 rfl (lv_at hl 3 rfl) ?_
                                  refine va_get (pc := 224) (D := D) (ci := 8) (v := .ref (a 31)) (C := RX10) (T := TX10) (N := 57) hx hb hts iu10 hown hK hP 24 rfl rfl 31 (by decide) (hts _ tw_1076) (fun _ h9 => h9) rfl dX10_opened_224 ?_
                                  refine lv_iload (pc := 227) hx hb dX10_opened_227 (lv_at hl 0 rfl) ?_
                                  refine q_bald (pc := 229) hx hb hK hP 25 2 rfl rfl (k := k2x) (v := qs (gli k2x)) rfl (by omega) (by omega) rfl dX10_opened_229 ?_
                                  refine q_bastS (pc := 230) hx hb hK hP hD hS 3 2 rfl rfl (k := k2x) rfl (by omega) (by omega) (b := gli k2x) (qlo_qs _) dX10_opened_230 (fun H locs hP hD hS => ?_)
                                  have hP : va_P D vwCl [(a 40, aK ta 2 lv), (a 47, aK ta 2 (qU cn 1 (cn 1 + 1))), (a 56, aS ta 16 a9), (a 29, aS ta 416 (qU p' k2x (gli k2x))), (a 0, aK ta 64 tIP), (a 1, aK ta 48 tSPR), (a 2, aK ta 32 tMIX), (a 3, aK ta 56 tCH), (a 4, aK ta 48 tSEC), (a 5, aK ta 512 tSBX), (a 10, aB ta 64 bi1_176), (a 11, aB ta 64 tu1_176), (a 12, aB ta 56 cd1_176), (a 13, aB ta 768 sk1_176), (a 14, aB ta 32 hf1_176), (a 15, aB ta 48 wd1_176), (a 22, aS ta 700 gm1_176), (a 24, aS ta 16 mac1_176), (a 53, aS ta 16 gbl1_176), (a 45, aS ta 32 gch1_176), (a 41, aS ta 256 gke), (a 36, aK ta 2 ru), (a 37, aK ta 2 le), (a 54, aS ta 300 w9), (h0, oM a ar mn1_176 tp osz lsz ns ct), (a 31, aS ta 300 gli), (a 55, aS ta 16 gco1_176)] H := hP
                                  have hD : va_D A [(a 40, aK ta 2 lv), (a 47, aK ta 2 (qU cn 1 (cn 1 + 1))), (a 56, aS ta 16 a9), (a 29, aS ta 416 (qU p' k2x (gli k2x))), (a 0, aK ta 64 tIP), (a 1, aK ta 48 tSPR), (a 2, aK ta 32 tMIX), (a 3, aK ta 56 tCH), (a 4, aK ta 48 tSEC), (a 5, aK ta 512 tSBX), (a 10, aB ta 64 bi1_176), (a 11, aB ta 64 tu1_176), (a 12, aB ta 56 cd1_176), (a 13, aB ta 768 sk1_176), (a 14, aB ta 32 hf1_176), (a 15, aB ta 48 wd1_176), (a 22, aS ta 700 gm1_176), (a 24, aS ta 16 mac1_176), (a 53, aS ta 16 gbl1_176), (a 45, aS ta 32 gch1_176), (a 41, aS ta 256 gke), (a 36, aK ta 2 ru), (a 37, aK ta 2 le), (a 54, aS ta 300 w9), (h0, oM a ar mn1_176 tp osz lsz ns ct), (a 31, aS ta 300 gli), (a 55, aS ta 16 gco1_176)] := hD
                                  refine lv_iinc (pc := 231) (v := nI (k2x + 1)) (lv' := [(4, .int (nI (k2x + 1))), (3, .int (nI hd9)), (2, .int (nI m9)), (0, .ref h0), (1, .int (nI n8))]) hx hb dX10_opened_231 hl (k := 0) rfl (by first | exact nI_add k2x 1 | rfl) (by decide) rfl (fun ls hl => ?_)
                                  refine lv_goto (pc := 234) (tgt := 211) hx hb dX10_opened_234 (by decide) ?_
                                  exact ih211 (k2x + 1) (qU p' k2x (gli k2x)) (by omega) (⟨by
                                        intro j h1 h2
                                        by_cases q : j = k2x
                                        · subst q; exact qU_same
                                        · rw [qU_ne q]; exact hp2.1 j h1 (by omega), by rw [qU_ne (by omega)]; exact hp2.2⟩) (by omega) _ _ (hP.sub [0, 1, 2, 3, 4, 5, 6, 7, 8, 9, 10, 11, 12, 13, 14, 15, 16, 17, 18, 19, 20, 21, 22, 23, 24, 25, 26] rfl) (hD.sub [0, 1, 2, 3, 4, 5, 6, 7, 8, 9, 10, 11, 12, 13, 14, 15, 16, 17, 18, 19, 20, 21, 22, 23, 24, 25, 26] (by decide) rfl) hS ls (lv_sub hl [0, 1, 2, 3, 4] rfl)
                            exact LP211 _ 1 (qU gou 0 (qlo (qs (gli 0) &&& (-5)))) (by omega) (⟨fun j h1 h2 => by omega, qU_same⟩) (Nat.lt_succ_self _) _ _ (hP.sub [0, 1, 2, 3, 4, 5, 6, 7, 8, 9, 10, 11, 12, 13, 14, 15, 16, 17, 18, 19, 20, 21, 22, 23, 24, 25, 26] rfl) (hD.sub [0, 1, 2, 3, 4, 5, 6, 7, 8, 9, 10, 11, 12, 13, 14, 15, 16, 17, 18, 19, 20, 21, 22, 23, 24, 25, 26] (by decide) rfl) hS ls (lv_sub hl [0, 1, 2, 3, 4] rfl)
                          · skip
                            rw [q_beq] at c_9
                            try rw [Bool.not_eq_false] at c_9
                            have hze := c_9
                            refine lv_iconst (pc := 190) (v := (-1)) hx hb dX10_opened_190 (by decide +kernel) ?_
                            refine q_top (y := (-1)) (by first | rfl | decide +kernel | (simp; done)) ?_
                            have hq_13 : (open2 (seg gke 128 16) (seg gke 160 16) (cn 1 + 1) (lv 1) (seg gch 16 8) (qL gli n8) = if false then some (qL gou 0, seg gco1_176 0 8) else none) ∧ (((-1) : Int32) = if false then nI 0 else -1) ∧ (false = true → (qU cn 1 (cn 1 + 1)) = qU cn 1 (cn 1 + 1) ∧ seg gch1_176 16 16 = seg gco1_176 0 16 ∧ 4 ≤ 0 ∧ 0 ≤ 204) ∧ (false = false → gou = gou) ∧ (∀ j, j < 16 → gch1_176 j = gch j) ∧ ((qU cn 1 (cn 1 + 1)) 0 = cn 0) := by
                              have hsp : splB (qL gli n8) = true := by rw [splB_of (by omega)]; exact decide_eq_true ⟨by omega, by omega⟩
                              have hop := open2_y (Ke := (seg gke 128 16)) (Km := seg gke 160 16) (ch := seg gch 16 8) (cnt := cn 1 + 1) (lv := lv 1) hsp
                              have hs9 : seg gco1_176 0 8 = retailL (seg gke 160 16) (desL (seg gke 160 8) false (seg gch 16 8)) (headL (seg gli 0 4) m9 ++ seg w9 0 m9) := hs_176
                              rw [hD8, Option.bind_some, if_pos (by rw [qL_len]; omega), chain2_join (by rw [qL_len]; omega) (by omega), end_seg (by omega), qL_len, seg_take (by decide), seg_take (by decide), ← head_qL (g := gli) (n := n8) (by omega), ← seg_0 (g := w9), ← hs9, seg_take (by decide)] at hop
                              rw [if_neg (of_decide_eq_false (hz_184.symm.trans hze))] at hop
                              exact ⟨hop, rfl, fun q => (by cases q), fun _ => rfl, fun j hj => hfc_176 j (by omega), qU_ne (by decide)⟩
                            exact hret (⟨(-1), (false), (bi1_176), (tu1_176), (cd1_176), (sk1_176), (hf1_176), (wd1_176), (gm1_176), (mac1_176), (gbl1_176), (gco1_176), (gch1_176), (w9), (a9), (gou), (qU cn 1 (cn 1 + 1)), (mn1_176), (0)⟩ : Int32 × Bool × (Nat → Bool) × (Nat → Bool) × (Nat → Bool) × (Nat → Bool) × (Nat → Bool) × (Nat → Bool) × (Nat → BitVec 8) × (Nat → BitVec 8) × (Nat → BitVec 8) × (Nat → BitVec 8) × (Nat → BitVec 8) × (Nat → BitVec 8) × (Nat → BitVec 8) × (Nat → BitVec 8) × (Nat → Nat) × Nat × Nat) _ _ _ _ dX10_opened_191 hq_13 (hP.sub [24, 4, 5, 6, 7, 8, 9, 10, 11, 12, 13, 14, 15, 16, 17, 18, 26, 19, 20, 21, 22, 25, 0, 1, 23, 2, 3] rfl) (hD.sub [24, 4, 5, 6, 7, 8, 9, 10, 11, 12, 13, 14, 15, 16, 17, 18, 26, 19, 20, 21, 22, 25, 0, 1, 23, 2, 3] (by decide) rfl) hS
                      · skip
                        rw [nI_leI (by omega) (by omega)] at c_7
                        refine lv_iconst (pc := 150) (v := (-1)) hx hb dX10_opened_150 (by decide +kernel) ?_
                        refine q_top (y := (-1)) (by first | rfl | decide +kernel | (simp; done)) ?_
                        have hq_14 : (open2 (seg gke 128 16) (seg gke 160 16) (cn 1 + 1) (lv 1) (seg gch 16 8) (qL gli n8) = if false then some (qL gou 0, seg gco 0 8) else none) ∧ (((-1) : Int32) = if false then nI 0 else -1) ∧ (false = true → (qU cn 1 (cn 1 + 1)) = qU cn 1 (cn 1 + 1) ∧ seg gch 16 16 = seg gco 0 16 ∧ 4 ≤ 0 ∧ 0 ≤ 204) ∧ (false = false → gou = gou) ∧ (∀ j, j < 16 → gch j = gch j) ∧ ((qU cn 1 (cn 1 + 1)) 0 = cn 0) := by
                          have hsp : splB (qL gli n8) = true := by rw [splB_of (by omega)]; exact decide_eq_true ⟨by omega, by omega⟩
                          have hop := open2_y (Ke := (seg gke 128 16)) (Km := seg gke 160 16) (ch := seg gch 16 8) (cnt := cn 1 + 1) (lv := lv 1) hsp
                          rw [hD8] at hop
                          first | (exact ⟨hop, rfl, fun q => (by cases q), fun _ => rfl, fun _ _ => rfl, qU_ne (by decide)⟩) | (rw [Option.bind_some, if_neg (by rw [qL_len]; omega)] at hop; exact ⟨hop, rfl, fun q => (by cases q), fun _ => rfl, fun _ _ => rfl, qU_ne (by decide)⟩)
                        exact hret (⟨(-1), (false), (zb), (zt), (zc), (zs), (zh), (zw), (gm), (mac), (b9), (gco), (gch), (w9), (a9), (gou), (qU cn 1 (cn 1 + 1)), (mn), (0)⟩ : Int32 × Bool × (Nat → Bool) × (Nat → Bool) × (Nat → Bool) × (Nat → Bool) × (Nat → Bool) × (Nat → Bool) × (Nat → BitVec 8) × (Nat → BitVec 8) × (Nat → BitVec 8) × (Nat → BitVec 8) × (Nat → BitVec 8) × (Nat → BitVec 8) × (Nat → BitVec 8) × (Nat → BitVec 8) × (Nat → Nat) × Nat × Nat) _ _ _ _ dX10_opened_151 hq_14 (hP.sub [0, 1, 2, 3, 4, 5, 6, 7, 8, 9, 10, 11, 12, 13, 14, 15, 16, 17, 18, 19, 20, 21, 22, 23, 24, 25, 26] rfl) (hD.sub [0, 1, 2, 3, 4, 5, 6, 7, 8, 9, 10, 11, 12, 13, 14, 15, 16, 17, 18, 19, 20, 21, 22, 23, 24, 25, 26] (by decide) rfl) hS
                  · skip
                    have hy8 : y9 = false := by simpa using hy9
                    subst hy8
                    have hx8 : x9 = -1 := hx9e
                    subst hx8
                    have hD8 : (if hidB (lv 1) 2 (midL (qL gli n8)) then show2 (seg gke 128 16) (midL (qL gli n8)) else some (midL (qL gli n8))) = none := hD9
                    refine lv_iconst (pc := 139) (v := (-1)) hx hb dX10_opened_139 (by decide +kernel) ?_
                    refine lv_icmp_eq (pc := 140) (tgt := 150) hx hb dX10_opened_140 (by decide) (fun c_15 => ?_) (fun c_15 => ?_)
                    · skip
                      refine lv_iconst (pc := 150) (v := (-1)) hx hb dX10_opened_150 (by decide +kernel) ?_
                      refine q_top (y := (-1)) (by first | rfl | decide +kernel | (simp; done)) ?_
                      have hq_16 : (open2 (seg gke 128 16) (seg gke 160 16) (cn 1 + 1) (lv 1) (seg gch 16 8) (qL gli n8) = if false then some (qL gou 0, seg gco 0 8) else none) ∧ (((-1) : Int32) = if false then nI 0 else -1) ∧ (false = true → (qU cn 1 (cn 1 + 1)) = qU cn 1 (cn 1 + 1) ∧ seg gch 16 16 = seg gco 0 16 ∧ 4 ≤ 0 ∧ 0 ≤ 204) ∧ (false = false → gou = gou) ∧ (∀ j, j < 16 → gch j = gch j) ∧ ((qU cn 1 (cn 1 + 1)) 0 = cn 0) := by
                        have hsp : splB (qL gli n8) = true := by rw [splB_of (by omega)]; exact decide_eq_true ⟨by omega, by omega⟩
                        have hop := open2_y (Ke := (seg gke 128 16)) (Km := seg gke 160 16) (ch := seg gch 16 8) (cnt := cn 1 + 1) (lv := lv 1) hsp
                        rw [hD8] at hop
                        first | (exact ⟨hop, rfl, fun q => (by cases q), fun _ => rfl, fun _ _ => rfl, qU_ne (by decide)⟩) | (rw [Option.bind_some, if_neg (by rw [qL_len]; omega)] at hop; exact ⟨hop, rfl, fun q => (by cases q), fun _ => rfl, fun _ _ => rfl, qU_ne (by decide)⟩)
                      exact hret (⟨(-1), (false), (zb), (zt), (zc), (zs), (zh), (zw), (gm), (mac), (b9), (gco), (gch), (w9), (a9), (gou), (qU cn 1 (cn 1 + 1)), (mn), (0)⟩ : Int32 × Bool × (Nat → Bool) × (Nat → Bool) × (Nat → Bool) × (Nat → Bool) × (Nat → Bool) × (Nat → Bool) × (Nat → BitVec 8) × (Nat → BitVec 8) × (Nat → BitVec 8) × (Nat → BitVec 8) × (Nat → BitVec 8) × (Nat → BitVec 8) × (Nat → BitVec 8) × (Nat → BitVec 8) × (Nat → Nat) × Nat × Nat) _ _ _ _ dX10_opened_151 hq_16 (hP.sub [0, 1, 2, 3, 4, 5, 6, 7, 8, 9, 10, 11, 12, 13, 14, 15, 16, 17, 18, 19, 20, 21, 22, 23, 24, 25, 26] rfl) (hD.sub [0, 1, 2, 3, 4, 5, 6, 7, 8, 9, 10, 11, 12, 13, 14, 15, 16, 17, 18, 19, 20, 21, 22, 23, 24, 25, 26] (by decide) rfl) hS
                    · skip
                      exact absurd rfl c_15
                refine lv_iload_n (pc := 126) hx hb dX10_opened_126 rfl (lv_at hl 1 rfl) ?_
                refine lv_if_eq (pc := 127) (tgt := 138) hx hb dX10_opened_127 (by decide) (fun c_17 => ?_) (fun c_17 => ?_)
                · skip
                  rw [q_eq0 (by omega)] at c_17
                  exact JN138 (nI (n8 - 12)) true (n8 - 12) k' gbl gah bi tu cd sk hf wd (rfl) (by rw [hidB_f (by rw [mid_seg (by omega), seg_len]; omega), mid_seg (by omega), ← hwk]; rfl) (by omega) _ _ (hP.sub [0, 1, 2, 3, 4, 5, 6, 7, 8, 9, 10, 11, 12, 13, 14, 15, 16, 17, 18, 19, 20, 21, 22, 23, 24, 25, 26] rfl) (hD.sub [0, 1, 2, 3, 4, 5, 6, 7, 8, 9, 10, 11, 12, 13, 14, 15, 16, 17, 18, 19, 20, 21, 22, 23, 24, 25, 26] (by decide) rfl) hS ls (lv_sub hl [0, 1, 2, 3, 4] rfl)
                · skip
                  rw [q_eq0 (by omega)] at c_17
                  refine lv_aload_n (pc := 130) hx hb dX10_opened_130 rfl (lv_at hl 3 rfl) ?_
                  refine lv_iconst (pc := 131) (v := nI 1) hx hb dX10_opened_131 (by decide +kernel) ?_
                  refine lv_iload_n (pc := 132) hx hb dX10_opened_132 rfl (lv_at hl 2 rfl) ?_
                  refine lv_iconst (pc := 133) (v := nI 0) hx hb dX10_opened_133 (by decide +kernel) ?_
                  refine cs_V (pc := 134) (idx := 388) (n := 3) (wr := [(a 22, aS ta 700 gm), (a 24, aS ta 16 mac), (a 55, aS ta 16 gco), (a 45, aS ta 32 gch), (a 37, aK ta 2 le), (a 31, aS ta 300 gli), (a 40, aK ta 2 lv), (a 47, aK ta 2 (qU cn 1 (cn 1 + 1))), (a 29, aS ta 416 gou)]) (As := [.int (nI 1), .int (nI (n8 - 12)), .int (nI 0)]) (rest := []) (ci := 8) hx hb hml hown hts hGok hK hA hG hl.1 hP hD hS (ct_X10_plain_20 ll D ta hGok h0 a ar mn tp osz lsz ns ct bi tu cd sk hf wd gbl gke k' gah ru 1 (n8 - 12) (by first | assumption | omega | rfl | decide) (by first | assumption | omega | rfl | decide) (by omega) H.size) tw_1421 tw_1418 tw_1420 tw_60 tw_75 hdX10_plain rfl ⟨rfl, rfl, Nat.le_of_ble_eq_true rfl, Nat.le_of_ble_eq_true rfl, Nat.le_of_ble_eq_true rfl, Nat.le_of_ble_eq_true rfl⟩ rfl rfl (q0 := 0) rfl [0, 1, 2, 3, 4, 5, 6, 7, 8, 9, 10, 11, 12, 15, 18, 19, 24, 25] [13, 14, 16, 17, 20, 21, 22, 23, 26] rfl rfl (by decide) rfl (Nat.le_of_ble_eq_true rfl) dX10_opened_134 (fun u H locs hq hP hD hS => ?_)
                  obtain ⟨r_134, z_134, bi1_134, tu1_134, cd1_134, sk1_134, hf1_134, wd1_134, gbl1_134, gwk1_134, gah1_134, n1_134⟩ := u
                  have hq : (show2 (seg gke (128 * 1) 16) (qL k' (n8 - 12)) = if z_134 then some (qL gwk1_134 n1_134) else none) ∧ ((r_134 : Int32) = if z_134 then nI n1_134 else -1) ∧ (n1_134 ≤ (n8 - 12)) := hq
                  obtain ⟨hz_134, hr_134, hn_134⟩ := hq
                  refine W.eq (g2 := F0 mm 137 ls [.int r_134]) rfl ?_
                  have hP : va_P D vwCl [(a 22, aS ta 700 gm), (a 24, aS ta 16 mac), (a 55, aS ta 16 gco), (a 45, aS ta 32 gch), (a 37, aK ta 2 le), (a 31, aS ta 300 gli), (a 40, aK ta 2 lv), (a 47, aK ta 2 (qU cn 1 (cn 1 + 1))), (a 29, aS ta 416 gou), (h0, oM a ar mn tp osz lsz ns ct), (a 0, aK ta 64 tIP), (a 1, aK ta 48 tSPR), (a 2, aK ta 32 tMIX), (a 3, aK ta 56 tCH), (a 4, aK ta 48 tSEC), (a 5, aK ta 512 tSBX), (a 10, aB ta 64 bi1_134), (a 11, aB ta 64 tu1_134), (a 12, aB ta 56 cd1_134), (a 13, aB ta 768 sk1_134), (a 14, aB ta 32 hf1_134), (a 15, aB ta 48 wd1_134), (a 53, aS ta 16 gbl1_134), (a 41, aS ta 256 gke), (a 36, aK ta 2 ru), (a 54, aS ta 300 gwk1_134), (a 56, aS ta 16 gah1_134)] H := hP
                  have hD : va_D A [(a 22, aS ta 700 gm), (a 24, aS ta 16 mac), (a 55, aS ta 16 gco), (a 45, aS ta 32 gch), (a 37, aK ta 2 le), (a 31, aS ta 300 gli), (a 40, aK ta 2 lv), (a 47, aK ta 2 (qU cn 1 (cn 1 + 1))), (a 29, aS ta 416 gou), (h0, oM a ar mn tp osz lsz ns ct), (a 0, aK ta 64 tIP), (a 1, aK ta 48 tSPR), (a 2, aK ta 32 tMIX), (a 3, aK ta 56 tCH), (a 4, aK ta 48 tSEC), (a 5, aK ta 512 tSBX), (a 10, aB ta 64 bi1_134), (a 11, aB ta 64 tu1_134), (a 12, aB ta 56 cd1_134), (a 13, aB ta 768 sk1_134), (a 14, aB ta 32 hf1_134), (a 15, aB ta 48 wd1_134), (a 53, aS ta 16 gbl1_134), (a 41, aS ta 256 gke), (a 36, aK ta 2 ru), (a 54, aS ta 300 gwk1_134), (a 56, aS ta 16 gah1_134)] := hD
                  refine lv_istore_n (pc := 137) (lv' := [(2, .int r_134), (4, .int (nI k1x)), (3, .int (nI hd9)), (0, .ref h0), (1, .int (nI n8))]) hx hb dX10_opened_137 rfl hl (by decide) rfl (fun ls hl => ?_)
                  exact JN138 r_134 z_134 n1_134 gwk1_134 gbl1_134 gah1_134 bi1_134 tu1_134 cd1_134 sk1_134 hf1_134 wd1_134 (hr_134) (by rw [hidB_t (by omega) (by rw [mid_seg (by omega), seg_len]; omega), if_pos rfl, mid_seg (by omega), ← hwk, ← hz_134] <;> rfl) (by omega) _ _ (hP.sub [9, 10, 11, 12, 13, 14, 15, 16, 17, 18, 19, 20, 21, 0, 1, 22, 2, 3, 23, 24, 4, 5, 6, 7, 25, 26, 8] rfl) (hD.sub [9, 10, 11, 12, 13, 14, 15, 16, 17, 18, 19, 20, 21, 0, 1, 22, 2, 3, 23, 24, 4, 5, 6, 7, 25, 26, 8] (by decide) rfl) hS ls (lv_sub hl [1, 2, 0, 3, 4] rfl)
              · skip
                rw [nI_leI (by omega) (by omega)] at c_5
                refine lv_aload_n (pc := 104) hx hb dX10_opened_104 rfl (lv_at hl 3 rfl) ?_
                refine va_get (pc := 105) (D := D) (ci := 8) (v := .ref (a 54)) (C := RX10) (T := TX10) (N := 57) hx hb hts iu10 hown hK hP 0 rfl rfl 54 (by decide) (hts _ tw_1099) (fun _ h9 => h9) rfl dX10_opened_105 ?_
                refine lv_iload (pc := 108) hx hb dX10_opened_108 (lv_at hl 0 rfl) ?_
                refine lv_aload_n (pc := 110) hx hb dX10_opened_110 rfl (lv_at hl 3 rfl) ?_
                refine va_get (pc := 111) (D := D) (ci := 8) (v := .ref (a 31)) (C := RX10) (T := TX10) (N := 57) hx hb hts iu10 hown hK hP 0 rfl rfl 31 (by decide) (hts _ tw_1076) (fun _ h9 => h9) rfl dX10_opened_111 ?_
                refine lv_iconst (pc := 114) (v := nI 4) hx hb dX10_opened_114 (by decide +kernel) ?_
                refine lv_iload (pc := 115) hx hb dX10_opened_115 (lv_at hl 0 rfl) ?_
                refine lv_iadd (pc := 117) hx hb dX10_opened_117 ?_
                refine q_top (y := nI (4 + k1x)) (nI_add 4 k1x) ?_
                refine q_bald (pc := 118) hx hb hK hP 21 2 rfl rfl (k := 4 + k1x) (v := qs (gli (4 + k1x))) rfl (by omega) (by omega) rfl dX10_opened_118 ?_
                refine q_bastS (pc := 119) hx hb hK hP hD hS 24 2 rfl rfl (k := k1x) rfl (by omega) (by omega) (b := gli (4 + k1x)) (qlo_qs _) dX10_opened_119 (fun H locs hP hD hS => ?_)
                have hP : va_P D vwCl [(h0, oM a ar mn tp osz lsz ns ct), (a 0, aK ta 64 tIP), (a 1, aK ta 48 tSPR), (a 2, aK ta 32 tMIX), (a 3, aK ta 56 tCH), (a 4, aK ta 48 tSEC), (a 5, aK ta 512 tSBX), (a 10, aB ta 64 bi), (a 11, aB ta 64 tu), (a 12, aB ta 56 cd), (a 13, aB ta 768 sk), (a 14, aB ta 32 hf), (a 15, aB ta 48 wd), (a 22, aS ta 700 gm), (a 24, aS ta 16 mac), (a 53, aS ta 16 gbl), (a 55, aS ta 16 gco), (a 45, aS ta 32 gch), (a 41, aS ta 256 gke), (a 36, aK ta 2 ru), (a 37, aK ta 2 le), (a 31, aS ta 300 gli), (a 40, aK ta 2 lv), (a 47, aK ta 2 (qU cn 1 (cn 1 + 1))), (a 54, aS ta 300 (qU k' k1x (gli (4 + k1x)))), (a 56, aS ta 16 gah), (a 29, aS ta 416 gou)] H := hP
                have hD : va_D A [(h0, oM a ar mn tp osz lsz ns ct), (a 0, aK ta 64 tIP), (a 1, aK ta 48 tSPR), (a 2, aK ta 32 tMIX), (a 3, aK ta 56 tCH), (a 4, aK ta 48 tSEC), (a 5, aK ta 512 tSBX), (a 10, aB ta 64 bi), (a 11, aB ta 64 tu), (a 12, aB ta 56 cd), (a 13, aB ta 768 sk), (a 14, aB ta 32 hf), (a 15, aB ta 48 wd), (a 22, aS ta 700 gm), (a 24, aS ta 16 mac), (a 53, aS ta 16 gbl), (a 55, aS ta 16 gco), (a 45, aS ta 32 gch), (a 41, aS ta 256 gke), (a 36, aK ta 2 ru), (a 37, aK ta 2 le), (a 31, aS ta 300 gli), (a 40, aK ta 2 lv), (a 47, aK ta 2 (qU cn 1 (cn 1 + 1))), (a 54, aS ta 300 (qU k' k1x (gli (4 + k1x)))), (a 56, aS ta 16 gah), (a 29, aS ta 416 gou)] := hD
                refine lv_iinc (pc := 120) (v := nI (k1x + 1)) (lv' := [(4, .int (nI (k1x + 1))), (3, .int (nI hd9)), (2, .int (nI (n8 - 12))), (0, .ref h0), (1, .int (nI n8))]) hx hb dX10_opened_120 hl (k := 0) rfl (by first | exact nI_add k1x 1 | rfl) (by decide) rfl (fun ls hl => ?_)
                refine lv_goto (pc := 123) (tgt := 98) hx hb dX10_opened_123 (by decide) ?_
                exact ih98 (k1x + 1) (qU k' k1x (gli (4 + k1x))) (by omega) (qSeg_s hs1 (by omega) (by first | rfl | (simp; done))) (by omega) _ _ (hP.sub [0, 1, 2, 3, 4, 5, 6, 7, 8, 9, 10, 11, 12, 13, 14, 15, 16, 17, 18, 19, 20, 21, 22, 23, 24, 25, 26] rfl) (hD.sub [0, 1, 2, 3, 4, 5, 6, 7, 8, 9, 10, 11, 12, 13, 14, 15, 16, 17, 18, 19, 20, 21, 22, 23, 24, 25, 26] (by decide) rfl) hS ls (lv_sub hl [0, 1, 2, 3, 4] rfl)
          exact LP98 _ 0 gwk (by omega) (qSeg_0) (Nat.lt_succ_self _) _ _ (hP.sub [0, 1, 2, 3, 4, 5, 6, 7, 8, 9, 10, 11, 12, 13, 14, 15, 16, 17, 18, 19, 20, 21, 22, 23, 24, 25, 26] rfl) (hD.sub [0, 1, 2, 3, 4, 5, 6, 7, 8, 9, 10, 11, 12, 13, 14, 15, 16, 17, 18, 19, 20, 21, 22, 23, 24, 25, 26] (by decide) rfl) hS ls (lv_sub hl [0, 1, 2, 3, 4] rfl)
        · skip
          rw [nI_eq (by omega) (by omega)] at c_4
          exfalso; omega
      refine lv_aload_n (pc := 24) hx hb dX10_opened_24 rfl (lv_at hl 1 rfl) ?_
      refine va_get (pc := 25) (D := D) (ci := 8) (v := .ref (a 40)) (C := RX10) (T := TX10) (N := 57) hx hb hts iu10 hown hK hP 0 rfl rfl 40 (by decide) (hts _ tw_1085) (fun _ h9 => h9) rfl dX10_opened_25 ?_
      refine lv_iconst (pc := 28) (v := nI 1) hx hb dX10_opened_28 (by decide +kernel) ?_
      refine q_iald (pc := 29) hx hb hK hP 22 0 rfl rfl (k := 1) (v := nI (lv 1)) rfl (by omega) (by omega) rfl dX10_opened_29 ?_
      refine lv_iconst (pc := 30) (v := nI 2) hx hb dX10_opened_30 (by decide +kernel) ?_
      have hlm2 : lv 1 &&& 2 ≤ 2 := Nat.and_le_right
      refine lv_iand (pc := 31) hx hb dX10_opened_31 ?_
      refine q_top (y := nI (lv 1 &&& 2)) (nI_and (by omega) (by omega)) ?_
      refine lv_if_le (pc := 32) (tgt := 43) hx hb dX10_opened_32 (by decide) (fun c_18 => ?_) (fun c_18 => ?_)
      · skip
        rw [q_le0 (by omega)] at c_18
        refine lv_iconst (pc := 43) (v := nI 0) hx hb dX10_opened_43 (by decide +kernel) ?_
        exact JN44 0 (by omega) _ _ (hP.sub [0, 1, 2, 3, 4, 5, 6, 7, 8, 9, 10, 11, 12, 13, 14, 15, 16, 17, 18, 19, 20, 21, 22, 23, 24, 25, 26] rfl) (hD.sub [0, 1, 2, 3, 4, 5, 6, 7, 8, 9, 10, 11, 12, 13, 14, 15, 16, 17, 18, 19, 20, 21, 22, 23, 24, 25, 26] (by decide) rfl) hS ls (lv_sub hl [0, 1, 2] rfl)
      · skip
        rw [q_le0 (by omega)] at c_18
        refine lv_iload_n (pc := 35) hx hb dX10_opened_35 rfl (lv_at hl 0 rfl) ?_
        refine lv_if_le (pc := 36) (tgt := 43) hx hb dX10_opened_36 (by decide) (fun c_19 => ?_) (fun c_19 => ?_)
        · skip
          rw [q_le0 (by omega)] at c_19
          refine lv_iconst (pc := 43) (v := nI 0) hx hb dX10_opened_43 (by decide +kernel) ?_
          exact JN44 0 (by omega) _ _ (hP.sub [0, 1, 2, 3, 4, 5, 6, 7, 8, 9, 10, 11, 12, 13, 14, 15, 16, 17, 18, 19, 20, 21, 22, 23, 24, 25, 26] rfl) (hD.sub [0, 1, 2, 3, 4, 5, 6, 7, 8, 9, 10, 11, 12, 13, 14, 15, 16, 17, 18, 19, 20, 21, 22, 23, 24, 25, 26] (by decide) rfl) hS ls (lv_sub hl [0, 1, 2] rfl)
        · skip
          rw [q_le0 (by omega)] at c_19
          refine lv_iconst (pc := 39) (v := nI 1) hx hb dX10_opened_39 (by decide +kernel) ?_
          refine lv_goto (pc := 40) (tgt := 44) hx hb dX10_opened_40 (by decide) ?_
          exact JN44 1 (by omega) _ _ (hP.sub [0, 1, 2, 3, 4, 5, 6, 7, 8, 9, 10, 11, 12, 13, 14, 15, 16, 17, 18, 19, 20, 21, 22, 23, 24, 25, 26] rfl) (hD.sub [0, 1, 2, 3, 4, 5, 6, 7, 8, 9, 10, 11, 12, 13, 14, 15, 16, 17, 18, 19, 20, 21, 22, 23, 24, 25, 26] (by decide) rfl) hS ls (lv_sub hl [0, 1, 2] rfl)
    · skip
      rw [q_eq0 (by omega)] at c_3
      have hb4 := c_3
      refine lv_iconst (pc := 17) (v := (-1)) hx hb dX10_opened_17 (by decide +kernel) ?_
      refine q_top (y := (-1)) (by first | rfl | decide +kernel | (simp; done)) ?_
      have hq_20 : (open2 (seg gke 128 16) (seg gke 160 16) (cn 1 + 1) (lv 1) (seg gch 16 8) (qL gli n8) = if false then some (qL gou 0, seg gco 0 8) else none) ∧ (((-1) : Int32) = if false then nI 0 else -1) ∧ (false = true → cn = qU cn 1 (cn 1 + 1) ∧ seg gch 16 16 = seg gco 0 16 ∧ 4 ≤ 0 ∧ 0 ≤ 204) ∧ (false = false → gou = gou) ∧ (∀ j, j < 16 → gch j = gch j) ∧ (cn 0 = cn 0) := by
        have hsp : splB (qL gli n8) = false := by first | exact splB_no (by omega) | (rw [splB_of (by omega)]; exact decide_eq_false (fun q => by omega))
        exact ⟨open2_a hsp, rfl, fun q => (by cases q), fun _ => rfl, fun _ _ => rfl, rfl⟩
      exact hret (⟨(-1), (false), (bi), (tu), (cd), (sk), (hf), (wd), (gm), (mac), (gbl), (gco), (gch), (gwk), (gah), (gou), (cn), (mn), (0)⟩ : Int32 × Bool × (Nat → Bool) × (Nat → Bool) × (Nat → Bool) × (Nat → Bool) × (Nat → Bool) × (Nat → Bool) × (Nat → BitVec 8) × (Nat → BitVec 8) × (Nat → BitVec 8) × (Nat → BitVec 8) × (Nat → BitVec 8) × (Nat → BitVec 8) × (Nat → BitVec 8) × (Nat → BitVec 8) × (Nat → Nat) × Nat × Nat) _ _ _ _ dX10_opened_18 hq_20 (hP.sub [0, 1, 2, 3, 4, 5, 6, 7, 8, 9, 10, 11, 12, 13, 14, 15, 16, 17, 18, 19, 20, 21, 22, 23, 24, 25, 26] rfl) (hD.sub [0, 1, 2, 3, 4, 5, 6, 7, 8, 9, 10, 11, 12, 13, 14, 15, 16, 17, 18, 19, 20, 21, 22, 23, 24, 25, 26] (by decide) rfl) hS
set_option maxHeartbeats 4000000 in
set_option maxRecDepth 100000 in
theorem ct_X10_opened_3 (ll : Launch) (D : va_G) (ta : Nat → ClassId) {G : (Nat → Prop) → State → Heap → Prop} (hGok : GOK G) (h0 : Nat) (a : Nat → Nat) (ar : Nat) (mn : Nat) (tp : Nat) (osz : Nat) (lsz : Nat) (ns : Nat) (ct : Nat) (rk : Nat → BitVec 8) (ce : Nat → BitVec 8) (gm : Nat → BitVec 8) (mac : Nat → BitVec 8) (k1 : Nat → BitVec 8) (gbl : Nat → BitVec 8) (gco : Nat → BitVec 8) (gch : Nat → BitVec 8) (gke : Nat → BitVec 8) (gli : Nat → BitVec 8) (gwk : Nat → BitVec 8) (gah : Nat → BitVec 8) (gou : Nat → BitVec 8) (ru : Nat → Nat) (le : Nat → Nat) (lv : Nat → Nat) (cn : Nat → Nat) (n8 : Nat) (hn8 : n8 ≤ 300) (hru : ru 1 = 3) (hlv : lv 1 < 256) (hcn : cn 1 + 1 < 2147483648) (hle : le 1 = 16 ∨ le 1 = 24 ∨ le 1 = 32) (sz : Nat) : CT ll yX10_opened cX10_opened 5 (some .int) ({ frames := 6, cells := 0, slots := 0, locals := 154 } : Room) D ta G [.ref h0, .int (nI n8)] [(h0, oM a ar mn tp osz lsz ns ct), (a 8, aZ ta 256 BOX), (a 9, aZ ta 256 UBOX), (a 16, aS ta 240 rk), (a 18, aS ta 16 ce), (a 22, aS ta 700 gm), (a 24, aS ta 16 mac), (a 25, aS ta 16 k1), (a 53, aS ta 16 gbl), (a 55, aS ta 16 gco), (a 45, aS ta 32 gch), (a 41, aS ta 256 gke), (a 36, aK ta 2 ru), (a 37, aK ta 2 le), (a 31, aS ta 300 gli), (a 40, aK ta 2 lv), (a 47, aK ta 2 cn), (a 54, aS ta 300 gwk), (a 56, aS ta 16 gah), (a 29, aS ta 416 gou)] sz (S := Int32 × Bool × (Nat → BitVec 8) × (Nat → BitVec 8) × (Nat → BitVec 8) × (Nat → BitVec 8) × (Nat → BitVec 8) × (Nat → BitVec 8) × (Nat → BitVec 8) × (Nat → BitVec 8) × (Nat → BitVec 8) × (Nat → BitVec 8) × (Nat → BitVec 8) × (Nat → Nat) × Nat × Nat × Nat) (fun u => some (.int u.1)) (fun u => (open3 (seg gke 128 (le 1)) (seg gke 160 (le 1)) (cn 1 + 1) (lv 1) (seg gch 16 16) (qL gli n8) = if u.2.1 then some (qL u.2.2.2.2.2.2.2.2.2.2.2.2.1 u.2.2.2.2.2.2.2.2.2.2.2.2.2.2.2.1, seg u.2.2.2.2.2.2.2.2.1 0 16) else none) ∧ ((u.1 : Int32) = if u.2.1 then nI u.2.2.2.2.2.2.2.2.2.2.2.2.2.2.2.1 else -1) ∧ (u.2.1 = true → u.2.2.2.2.2.2.2.2.2.2.2.2.2.1 = qU cn 1 (cn 1 + 1) ∧ seg u.2.2.2.2.2.2.2.2.2.1 16 16 = seg u.2.2.2.2.2.2.2.2.1 0 16 ∧ 4 ≤ u.2.2.2.2.2.2.2.2.2.2.2.2.2.2.2.1 ∧ u.2.2.2.2.2.2.2.2.2.2.2.2.2.2.2.1 ≤ 204) ∧ (u.2.1 = false → u.2.2.2.2.2.2.2.2.2.2.2.2.1 = gou) ∧ (∀ j, j < 16 → u.2.2.2.2.2.2.2.2.2.1 j = gch j) ∧ (u.2.2.2.2.2.2.2.2.2.2.2.2.2.1 0 = cn 0)) (fun u => [(h0, oM a u.2.2.2.2.2.2.2.2.2.2.2.2.2.2.2.2 u.2.2.2.2.2.2.2.2.2.2.2.2.2.2.1 tp osz lsz ns ct), (a 8, aZ ta 256 BOX), (a 9, aZ ta 256 UBOX), (a 16, aS ta 240 u.2.2.1), (a 18, aS ta 16 u.2.2.2.1), (a 22, aS ta 700 u.2.2.2.2.1), (a 24, aS ta 16 u.2.2.2.2.2.1), (a 25, aS ta 16 u.2.2.2.2.2.2.1), (a 53, aS ta 16 u.2.2.2.2.2.2.2.1), (a 55, aS ta 16 u.2.2.2.2.2.2.2.2.1), (a 45, aS ta 32 u.2.2.2.2.2.2.2.2.2.1), (a 41, aS ta 256 gke), (a 36, aK ta 2 ru), (a 37, aK ta 2 le), (a 31, aS ta 300 gli), (a 40, aK ta 2 lv), (a 47, aK ta 2 u.2.2.2.2.2.2.2.2.2.2.2.2.2.1), (a 54, aS ta 300 u.2.2.2.2.2.2.2.2.2.2.1), (a 56, aS ta 16 u.2.2.2.2.2.2.2.2.2.2.2.1), (a 29, aS ta 416 u.2.2.2.2.2.2.2.2.2.2.2.2.1)]) 0 0 := by
  refine CT.of_i (r := fun u => u.1) rfl (by decide) (Nat.le_of_ble_eq_true rfl) ?_
  intro pp ee ss mm below meth kc A Q hx hb hml hown hin hts hK hA hsz hG hret H locs hP hD hS ls hl
  have hl : lv_has ls 5 [(0, .ref h0), (1, .int (nI n8))] := hl
  refine lv_iload_n (pc := 0) hx hb dX10_opened_0 rfl (lv_at hl 1 rfl) ?_
  refine lv_bipush (pc := 1) (v := nI 12) hx hb dX10_opened_1 (by decide +kernel) ?_
  refine lv_icmp_lt (pc := 3) (tgt := 17) hx hb dX10_opened_3 (by decide) (fun c_1 => ?_) (fun c_1 => ?_)
  · skip
    rw [nI_ltI (by omega) (by omega)] at c_1
    have h12 := c_1
    refine lv_iconst (pc := 17) (v := (-1)) hx hb dX10_opened_17 (by decide +kernel) ?_
    refine q_top (y := (-1)) (by first | rfl | decide +kernel | (simp; done)) ?_
    have hq_2 : (open3 (seg gke 128 (le 1)) (seg gke 160 (le 1)) (cn 1 + 1) (lv 1) (seg gch 16 16) (qL gli n8) = if false then some (qL gou 0, seg gco 0 16) else none) ∧ (((-1) : Int32) = if false then nI 0 else -1) ∧ (false = true → cn = qU cn 1 (cn 1 + 1) ∧ seg gch 16 16 = seg gco 0 16 ∧ 4 ≤ 0 ∧ 0 ≤ 204) ∧ (false = false → gou = gou) ∧ (∀ j, j < 16 → gch j = gch j) ∧ (cn 0 = cn 0) := by
      have hsp : splB (qL gli n8) = false := by first | exact splB_no (by omega) | (rw [splB_of (by omega)]; exact decide_eq_false (fun q => by omega))
      exact ⟨open3_a hsp, rfl, fun q => (by cases q), fun _ => rfl, fun _ _ => rfl, rfl⟩
    exact hret (⟨(-1), (false), (rk), (ce), (gm), (mac), (k1), (gbl), (gco), (gch), (gwk), (gah), (gou), (cn), (mn), (0), (ar)⟩ : Int32 × Bool × (Nat → BitVec 8) × (Nat → BitVec 8) × (Nat → BitVec 8) × (Nat → BitVec 8) × (Nat → BitVec 8) × (Nat → BitVec 8) × (Nat → BitVec 8) × (Nat → BitVec 8) × (Nat → BitVec 8) × (Nat → BitVec 8) × (Nat → BitVec 8) × (Nat → Nat) × Nat × Nat × Nat) _ _ _ _ dX10_opened_18 hq_2 (hP.sub [0, 1, 2, 3, 4, 5, 6, 7, 8, 9, 10, 11, 12, 13, 14, 15, 16, 17, 18, 19] rfl) (hD.sub [0, 1, 2, 3, 4, 5, 6, 7, 8, 9, 10, 11, 12, 13, 14, 15, 16, 17, 18, 19] (by decide) rfl) hS
  · skip
    rw [nI_ltI (by omega) (by omega)] at c_1
    have h12 := c_1
    refine lv_aload_n (pc := 6) hx hb dX10_opened_6 rfl (lv_at hl 0 rfl) ?_
    refine va_get (pc := 7) (D := D) (ci := 8) (v := .ref (a 31)) (C := RX10) (T := TX10) (N := 57) hx hb hts iu10 hown hK hP 0 rfl rfl 31 (by decide) (hts _ tw_1076) (fun _ h9 => h9) rfl dX10_opened_7 ?_
    refine lv_iconst (pc := 10) (v := nI 0) hx hb dX10_opened_10 (by decide +kernel) ?_
    refine q_bald (pc := 11) hx hb hK hP 14 2 rfl rfl (k := 0) (v := qs (gli 0)) rfl (by omega) (by omega) rfl dX10_opened_11 ?_
    refine lv_iconst (pc := 12) (v := nI 4) hx hb dX10_opened_12 (by decide +kernel) ?_
    have hlm : (gli 0).toNat &&& 4 ≤ 4 := Nat.and_le_right
    refine lv_iand (pc := 13) hx hb dX10_opened_13 ?_
    refine q_top (y := nI ((gli 0).toNat &&& 4)) (qs_bit4 _) ?_
    refine lv_if_ne (pc := 14) (tgt := 19) hx hb dX10_opened_14 (by decide) (fun c_3 => ?_) (fun c_3 => ?_)
    · skip
      rw [q_eq0 (by omega)] at c_3
      have hb4 := c_3
      refine lv_iload_n (pc := 19) hx hb dX10_opened_19 rfl (lv_at hl 1 rfl) ?_
      refine lv_bipush (pc := 20) (v := nI 12) hx hb dX10_opened_20 (by decide +kernel) ?_
      refine lv_isub (pc := 22) hx hb dX10_opened_22 ?_
      refine q_top (y := nI (n8 - 12)) (pk_sub (a := n8) (b := 12) (by omega)) ?_
      refine lv_istore_n (pc := 23) (lv' := [(2, .int (nI (n8 - 12))), (0, .ref h0), (1, .int (nI n8))]) hx hb dX10_opened_23 rfl hl (by decide) rfl (fun ls hl => ?_)
      have JN44 : ∀ (hd9 : Nat), ((hd9 = 1 ∧ 0 < lv 1 &&& 2 ∧ 0 < n8 - 12) ∨ (hd9 = 0 ∧ ¬ (0 < lv 1 &&& 2 ∧ 0 < n8 - 12))) → ∀ (H : Heap) (locs : List Loc), va_P D vwCl [(h0, oM a ar mn tp osz lsz ns ct), (a 8, aZ ta 256 BOX), (a 9, aZ ta 256 UBOX), (a 16, aS ta 240 rk), (a 18, aS ta 16 ce), (a 22, aS ta 700 gm), (a 24, aS ta 16 mac), (a 25, aS ta 16 k1), (a 53, aS ta 16 gbl), (a 55, aS ta 16 gco), (a 45, aS ta 32 gch), (a 41, aS ta 256 gke), (a 36, aK ta 2 ru), (a 37, aK ta 2 le), (a 31, aS ta 300 gli), (a 40, aK ta 2 lv), (a 47, aK ta 2 cn), (a 54, aS ta 300 gwk), (a 56, aS ta 16 gah), (a 29, aS ta 416 gou)] H → va_D A [(h0, oM a ar mn tp osz lsz ns ct), (a 8, aZ ta 256 BOX), (a 9, aZ ta 256 UBOX), (a 16, aS ta 240 rk), (a 18, aS ta 16 ce), (a 22, aS ta 700 gm), (a 24, aS ta 16 mac), (a 25, aS ta 16 k1), (a 53, aS ta 16 gbl), (a 55, aS ta 16 gco), (a 45, aS ta 32 gch), (a 41, aS ta 256 gke), (a 36, aK ta 2 ru), (a 37, aK ta 2 le), (a 31, aS ta 300 gli), (a 40, aK ta 2 lv), (a 47, aK ta 2 cn), (a 54, aS ta 300 gwk), (a 56, aS ta 16 gah), (a 29, aS ta 416 gou)] → va_S A ss.heap H locs → ∀ ls : Array Slot, lv_has ls 5 [(2, .int (nI (n8 - 12))), (0, .ref h0), (1, .int (nI n8))] → W pp ll ee ({ frames := 6, cells := 0, slots := 0, locals := 154 } : Room) ss mm (([.ref h0, .int (nI n8)] : List Value).toArray) below meth kc H locs 0 0 Q (F0 mm 44 ls [.int (nI hd9)]) := by
        intro hd9 hhd H locs hP hD hS ls hl
        refine lv_istore_n (pc := 44) (lv' := [(3, .int (nI hd9)), (2, .int (nI (n8 - 12))), (0, .ref h0), (1, .int (nI n8))]) hx hb dX10_opened_44 rfl hl (by decide) rfl (fun ls hl => ?_)
        refine lv_aload_n (pc := 45) hx hb dX10_opened_45 rfl (lv_at hl 2 rfl) ?_
        refine va_get (pc := 46) (D := D) (ci := 8) (v := .ref (a 47)) (C := RX10) (T := TX10) (N := 57) hx hb hts iu10 hown hK hP 0 rfl rfl 47 (by decide) (hts _ tw_1092) (fun _ h9 => h9) rfl dX10_opened_46 ?_
        refine lv_iconst (pc := 49) (v := nI 1) hx hb dX10_opened_49 (by decide +kernel) ?_
        refine lv_dup2_11 (pc := 50) hx hb dX10_opened_50 rfl rfl ?_
        refine q_iald (pc := 51) hx hb hK hP 16 0 rfl rfl (k := 1) (v := nI (cn 1)) rfl (by omega) (by omega) rfl dX10_opened_51 ?_
        refine lv_iconst (pc := 52) (v := nI 1) hx hb dX10_opened_52 (by decide +kernel) ?_
        refine lv_iadd (pc := 53) hx hb dX10_opened_53 ?_
        refine q_top (y := nI (cn 1 + 1)) (nI_add (cn 1) 1) ?_
        refine q_iastK (pc := 54) hx hb hK hP hD hS 16 0 rfl rfl (k := 1) rfl (by omega) (by omega) (b := cn 1 + 1) rfl dX10_opened_54 (fun H locs hP hD hS => ?_)
        have hP : va_P D vwCl [(h0, oM a ar mn tp osz lsz ns ct), (a 8, aZ ta 256 BOX), (a 9, aZ ta 256 UBOX), (a 16, aS ta 240 rk), (a 18, aS ta 16 ce), (a 22, aS ta 700 gm), (a 24, aS ta 16 mac), (a 25, aS ta 16 k1), (a 53, aS ta 16 gbl), (a 55, aS ta 16 gco), (a 45, aS ta 32 gch), (a 41, aS ta 256 gke), (a 36, aK ta 2 ru), (a 37, aK ta 2 le), (a 31, aS ta 300 gli), (a 40, aK ta 2 lv), (a 47, aK ta 2 (qU cn 1 (cn 1 + 1))), (a 54, aS ta 300 gwk), (a 56, aS ta 16 gah), (a 29, aS ta 416 gou)] H := hP
        have hD : va_D A [(h0, oM a ar mn tp osz lsz ns ct), (a 8, aZ ta 256 BOX), (a 9, aZ ta 256 UBOX), (a 16, aS ta 240 rk), (a 18, aS ta 16 ce), (a 22, aS ta 700 gm), (a 24, aS ta 16 mac), (a 25, aS ta 16 k1), (a 53, aS ta 16 gbl), (a 55, aS ta 16 gco), (a 45, aS ta 32 gch), (a 41, aS ta 256 gke), (a 36, aK ta 2 ru), (a 37, aK ta 2 le), (a 31, aS ta 300 gli), (a 40, aK ta 2 lv), (a 47, aK ta 2 (qU cn 1 (cn 1 + 1))), (a 54, aS ta 300 gwk), (a 56, aS ta 16 gah), (a 29, aS ta 416 gou)] := hD
        refine lv_aload_n (pc := 55) hx hb dX10_opened_55 rfl (lv_at hl 2 rfl) ?_
        refine va_get (pc := 56) (D := D) (ci := 8) (v := .ref (a 36)) (C := RX10) (T := TX10) (N := 57) hx hb hts iu10 hown hK hP 0 rfl rfl 36 (by decide) (hts _ tw_1081) (fun _ h9 => h9) rfl dX10_opened_56 ?_
        refine lv_iconst (pc := 59) (v := nI 1) hx hb dX10_opened_59 (by decide +kernel) ?_
        refine q_iald (pc := 60) hx hb hK hP 12 0 rfl rfl (k := 1) (v := nI (ru 1)) rfl (by omega) (by omega) rfl dX10_opened_60 ?_
        refine lv_iconst (pc := 61) (v := nI 3) hx hb dX10_opened_61 (by decide +kernel) ?_
        refine lv_icmp_ne (pc := 62) (tgt := 95) hx hb dX10_opened_62 (by decide) (fun c_4 => ?_) (fun c_4 => ?_)
        · skip
          rw [nI_eq (by omega) (by omega)] at c_4
          exfalso; omega
        · skip
          rw [nI_eq (by omega) (by omega)] at c_4
          refine lv_aload_n (pc := 65) hx hb dX10_opened_65 rfl (lv_at hl 2 rfl) ?_
          refine lv_iconst (pc := 66) (v := nI 1) hx hb dX10_opened_66 (by decide +kernel) ?_
          refine lv_aload_n (pc := 67) hx hb dX10_opened_67 rfl (lv_at hl 2 rfl) ?_
          refine va_get (pc := 68) (D := D) (ci := 8) (v := .ref (a 31)) (C := RX10) (T := TX10) (N := 57) hx hb hts iu10 hown hK hP 0 rfl rfl 31 (by decide) (hts _ tw_1076) (fun _ h9 => h9) rfl dX10_opened_68 ?_
          refine lv_iconst (pc := 71) (v := nI 0) hx hb dX10_opened_71 (by decide +kernel) ?_
          refine lv_aload_n (pc := 72) hx hb dX10_opened_72 rfl (lv_at hl 2 rfl) ?_
          refine va_get (pc := 73) (D := D) (ci := 8) (v := .ref (a 31)) (C := RX10) (T := TX10) (N := 57) hx hb hts iu10 hown hK hP 0 rfl rfl 31 (by decide) (hts _ tw_1076) (fun _ h9 => h9) rfl dX10_opened_73 ?_
          refine lv_iconst (pc := 76) (v := nI 4) hx hb dX10_opened_76 (by decide +kernel) ?_
          refine lv_iload_n (pc := 77) hx hb dX10_opened_77 rfl (lv_at hl 1 rfl) ?_
          refine lv_iconst (pc := 78) (v := nI 0) hx hb dX10_opened_78 (by decide +kernel) ?_
          refine cs_V (pc := 79) (idx := 360) (n := 7) (wr := [(a 40, aK ta 2 lv), (a 47, aK ta 2 (qU cn 1 (cn 1 + 1))), (a 54, aS ta 300 gwk), (a 56, aS ta 16 gah), (a 29, aS ta 416 gou)]) (As := [.int (nI 1), .ref (a 31), .int (nI 0), .ref (a 31), .int (nI 4), .int (nI (n8 - 12)), .int (nI 0)]) (rest := []) (ci := 8) hx hb hml hown hts hGok hK hA hG hl.1 hP hD hS (ct_X10_commandMac_301 ll D ta hGok h0 a ar mn tp osz lsz ns ct rk ce gm mac k1 gbl gco gch gke ru le 1 (a 31) 300 gli 4 (n8 - 12) (by first | assumption | omega | rfl | decide) (by first | assumption | omega | rfl | decide) (by first | assumption | omega | rfl | decide) (by first | assumption | omega | rfl | decide) (by first | assumption | omega | rfl | decide) (by first | assumption | omega | rfl | decide) H.size) tw_1368 tw_1365 tw_1367 tw_49 tw_75 hdX10_commandMac rfl ⟨rfl, rfl, Nat.le_of_ble_eq_true rfl, Nat.le_of_ble_eq_true rfl, Nat.le_of_ble_eq_true rfl, Nat.le_of_ble_eq_true rfl⟩ rfl rfl (q0 := 0) rfl [0, 1, 2, 3, 4, 5, 6, 7, 8, 9, 10, 11, 12, 13, 14] [15, 16, 17, 18, 19] rfl rfl (by decide) rfl (Nat.le_of_ble_eq_true rfl) dX10_opened_79 (fun u H locs hq hP hD hS => ?_)
          obtain ⟨rk1_79, ce1_79, gm1_79, mac1_79, k11_79, gbl1_79, gco1_79, gch1_79, mn1_79, ar1_79⟩ := u
          have hq : (seg gco1_79 0 16 = cmacL (seg gke (128 * 1 + 32) (le 1)) ((seg gch (16 * 1) 16) ++ (headL (seg gli 0 4) (n8 - 12) ++ seg gli 4 (n8 - 12)))) ∧ (seg gch1_79 (16 * 1) 16 = seg gco1_79 0 16) ∧ (∀ jz, (jz < 16 * 1 ∨ 16 * 1 + 16 ≤ jz) → gch1_79 jz = gch jz) := hq
          obtain ⟨hs_79, hc_79, hfc_79⟩ := hq
          refine W.eq (g2 := F0 mm 82 ls []) rfl ?_
          have hP : va_P D vwCl [(a 40, aK ta 2 lv), (a 47, aK ta 2 (qU cn 1 (cn 1 + 1))), (a 54, aS ta 300 gwk), (a 56, aS ta 16 gah), (a 29, aS ta 416 gou), (h0, oM a ar1_79 mn1_79 tp osz lsz ns ct), (a 8, aZ ta 256 BOX), (a 9, aZ ta 256 UBOX), (a 16, aS ta 240 rk1_79), (a 18, aS ta 16 ce1_79), (a 22, aS ta 700 gm1_79), (a 24, aS ta 16 mac1_79), (a 25, aS ta 16 k11_79), (a 53, aS ta 16 gbl1_79), (a 55, aS ta 16 gco1_79), (a 45, aS ta 32 gch1_79), (a 41, aS ta 256 gke), (a 36, aK ta 2 ru), (a 37, aK ta 2 le), (a 31, aS ta 300 gli)] H := hP
          have hD : va_D A [(a 40, aK ta 2 lv), (a 47, aK ta 2 (qU cn 1 (cn 1 + 1))), (a 54, aS ta 300 gwk), (a 56, aS ta 16 gah), (a 29, aS ta 416 gou), (h0, oM a ar1_79 mn1_79 tp osz lsz ns ct), (a 8, aZ ta 256 BOX), (a 9, aZ ta 256 UBOX), (a 16, aS ta 240 rk1_79), (a 18, aS ta 16 ce1_79), (a 22, aS ta 700 gm1_79), (a 24, aS ta 16 mac1_79), (a 25, aS ta 16 k11_79), (a 53, aS ta 16 gbl1_79), (a 55, aS ta 16 gco1_79), (a 45, aS ta 32 gch1_79), (a 41, aS ta 256 gke), (a 36, aK ta 2 ru), (a 37, aK ta 2 le), (a 31, aS ta 300 gli)] := hD
          refine lv_aload_n (pc := 82) hx hb dX10_opened_82 rfl (lv_at hl 2 rfl) ?_
          refine lv_iload_n (pc := 83) hx hb dX10_opened_83 rfl (lv_at hl 3 rfl) ?_
          refine lv_bipush (pc := 84) (v := nI 8) hx hb dX10_opened_84 (by decide +kernel) ?_
          refine lv_isub (pc := 86) hx hb dX10_opened_86 ?_
          refine q_top (y := nI (n8 - 8)) (pk_sub (a := n8) (b := 8) (by omega)) ?_
          refine cs_V (pc := 87) (idx := 385) (n := 1) (wr := [(a 40, aK ta 2 lv), (a 47, aK ta 2 (qU cn 1 (cn 1 + 1))), (a 54, aS ta 300 gwk), (a 56, aS ta 16 gah), (a 29, aS ta 416 gou), (a 8, aZ ta 256 BOX), (a 9, aZ ta 256 UBOX), (a 16, aS ta 240 rk1_79), (a 18, aS ta 16 ce1_79), (a 22, aS ta 700 gm1_79), (a 24, aS ta 16 mac1_79), (a 25, aS ta 16 k11_79), (a 53, aS ta 16 gbl1_79), (a 45, aS ta 32 gch1_79), (a 41, aS ta 256 gke), (a 36, aK ta 2 ru), (a 37, aK ta 2 le)]) (As := [.int (nI (n8 - 8))]) (rest := []) (ci := 8) hx hb hml hown hts hGok hK hA hG hl.1 hP hD hS (ct_X10_isCode ll D ta hGok h0 a ar1_79 mn1_79 tp osz lsz ns ct gli gco1_79 (n8 - 8) (by first | assumption | omega | rfl | decide) H.size) tw_1412 tw_1409 tw_1411 tw_58 tw_75 hdX10_isCode rfl ⟨rfl, rfl, Nat.le_of_ble_eq_true rfl, Nat.le_of_ble_eq_true rfl, Nat.le_of_ble_eq_true rfl, Nat.le_of_ble_eq_true rfl⟩ rfl rfl (q0 := 5) rfl [5, 19, 14] [0, 1, 2, 3, 4, 6, 7, 8, 9, 10, 11, 12, 13, 15, 16, 17, 18] rfl rfl (by decide) rfl (Nat.le_of_ble_eq_true rfl) dX10_opened_87 (fun u H locs hq hP hD hS => ?_)
          generalize u = z_87 at hq hP hD ⊢
          have hq : (z_87 = decide (seg gli (n8 - 8) 8 = seg gco1_79 0 8)) := hq
          have hz_87 := hq
          refine W.eq (g2 := F0 mm 90 ls [.int (qb z_87)]) rfl ?_
          have hP : va_P D vwCl [(a 40, aK ta 2 lv), (a 47, aK ta 2 (qU cn 1 (cn 1 + 1))), (a 54, aS ta 300 gwk), (a 56, aS ta 16 gah), (a 29, aS ta 416 gou), (a 8, aZ ta 256 BOX), (a 9, aZ ta 256 UBOX), (a 16, aS ta 240 rk1_79), (a 18, aS ta 16 ce1_79), (a 22, aS ta 700 gm1_79), (a 24, aS ta 16 mac1_79), (a 25, aS ta 16 k11_79), (a 53, aS ta 16 gbl1_79), (a 45, aS ta 32 gch1_79), (a 41, aS ta 256 gke), (a 36, aK ta 2 ru), (a 37, aK ta 2 le), (h0, oM a ar1_79 mn1_79 tp osz lsz ns ct), (a 31, aS ta 300 gli), (a 55, aS ta 16 gco1_79)] H := hP
          have hD : va_D A [(a 40, aK ta 2 lv), (a 47, aK ta 2 (qU cn 1 (cn 1 + 1))), (a 54, aS ta 300 gwk), (a 56, aS ta 16 gah), (a 29, aS ta 416 gou), (a 8, aZ ta 256 BOX), (a 9, aZ ta 256 UBOX), (a 16, aS ta 240 rk1_79), (a 18, aS ta 16 ce1_79), (a 22, aS ta 700 gm1_79), (a 24, aS ta 16 mac1_79), (a 25, aS ta 16 k11_79), (a 53, aS ta 16 gbl1_79), (a 45, aS ta 32 gch1_79), (a 41, aS ta 256 gke), (a 36, aK ta 2 ru), (a 37, aK ta 2 le), (h0, oM a ar1_79 mn1_79 tp osz lsz ns ct), (a 31, aS ta 300 gli), (a 55, aS ta 16 gco1_79)] := hD
          refine lv_if_ne (pc := 90) (tgt := 95) hx hb dX10_opened_90 (by decide) (fun c_5 => ?_) (fun c_5 => ?_)
          · skip
            rw [q_beq] at c_5
            try rw [Bool.not_eq_false] at c_5
            have hze := c_5
            refine lv_iconst (pc := 95) (v := nI 0) hx hb dX10_opened_95 (by decide +kernel) ?_
            refine lv_istore (pc := 96) (lv' := [(4, .int (nI 0)), (3, .int (nI hd9)), (2, .int (nI (n8 - 12))), (0, .ref h0), (1, .int (nI n8))]) hx hb dX10_opened_96 hl (by decide) rfl (fun ls hl => ?_)
            have LP98 : ∀ (nn98 : Nat) (k1x : Nat) (k' : Nat → BitVec 8), (k1x ≤ n8 - 12) → (qSeg k' gwk 0 k1x ((fun j => gli (4 + j)))) → (n8 - 12 - k1x < nn98) → ∀ (H : Heap) (locs : List Loc), va_P D vwCl [(a 40, aK ta 2 lv), (a 47, aK ta 2 (qU cn 1 (cn 1 + 1))), (a 54, aS ta 300 k'), (a 56, aS ta 16 gah), (a 29, aS ta 416 gou), (a 8, aZ ta 256 BOX), (a 9, aZ ta 256 UBOX), (a 16, aS ta 240 rk1_79), (a 18, aS ta 16 ce1_79), (a 22, aS ta 700 gm1_79), (a 24, aS ta 16 mac1_79), (a 25, aS ta 16 k11_79), (a 53, aS ta 16 gbl1_79), (a 45, aS ta 32 gch1_79), (a 41, aS ta 256 gke), (a 36, aK ta 2 ru), (a 37, aK ta 2 le), (h0, oM a ar1_79 mn1_79 tp osz lsz ns ct), (a 31, aS ta 300 gli), (a 55, aS ta 16 gco1_79)] H → va_D A [(a 40, aK ta 2 lv), (a 47, aK ta 2 (qU cn 1 (cn 1 + 1))), (a 54, aS ta 300 k'), (a 56, aS ta 16 gah), (a 29, aS ta 416 gou), (a 8, aZ ta 256 BOX), (a 9, aZ ta 256 UBOX), (a 16, aS ta 240 rk1_79), (a 18, aS ta 16 ce1_79), (a 22, aS ta 700 gm1_79), (a 24, aS ta 16 mac1_79), (a 25, aS ta 16 k11_79), (a 53, aS ta 16 gbl1_79), (a 45, aS ta 32 gch1_79), (a 41, aS ta 256 gke), (a 36, aK ta 2 ru), (a 37, aK ta 2 le), (h0, oM a ar1_79 mn1_79 tp osz lsz ns ct), (a 31, aS ta 300 gli), (a 55, aS ta 16 gco1_79)] → va_S A ss.heap H locs → ∀ ls : Array Slot, lv_has ls 5 [(4, .int (nI k1x)), (3, .int (nI hd9)), (2, .int (nI (n8 - 12))), (0, .ref h0), (1, .int (nI n8))] → W pp ll ee ({ frames := 6, cells := 0, slots := 0, locals := 154 } : Room) ss mm (([.ref h0, .int (nI n8)] : List Value).toArray) below meth kc H locs 0 0 Q (F0 mm 98 ls []) := by
              intro nn98
              induction nn98 with
              | zero => intro k1x k' hkk1 hs1 hmu; exact absurd hmu (Nat.not_lt_zero _)
              | succ nn98 ih98 =>
                intro k1x k' hkk1 hs1 hmu98 H locs hP hD hS ls hl
                refine lv_iload (pc := 98) hx hb dX10_opened_98 (lv_at hl 0 rfl) ?_
                refine lv_iload_n (pc := 100) hx hb dX10_opened_100 rfl (lv_at hl 2 rfl) ?_
                refine lv_icmp_ge (pc := 101) (tgt := 126) hx hb dX10_opened_101 (by decide) (fun c_6 => ?_) (fun c_6 => ?_)
                · skip
                  rw [nI_leI (by omega) (by omega)] at c_6
                  have hwk : qL k' (n8 - 12) = seg gli 4 (n8 - 12) := by rw [← seg_0, seg_copy hs1 (by omega)]
                  have JN138 : ∀ (x9 : Int32) (y9 : Bool) (m9 : Nat) (w9 : Nat → BitVec 8) (b9 : Nat → BitVec 8) (a9 : Nat → BitVec 8) (rk9 : Nat → BitVec 8) (ce9 : Nat → BitVec 8) (ar9 : Nat), (x9 = if y9 then nI m9 else -1) → ((if hidB (lv 1) 2 (midL (qL gli n8)) then show3 (seg gke 128 (le 1)) (cn 1 + 1) 0#8 (midL (qL gli n8)) else some (midL (qL gli n8))) = if y9 then some (qL w9 m9) else none) → (m9 ≤ 288) → ∀ (H : Heap) (locs : List Loc), va_P D vwCl [(a 40, aK ta 2 lv), (a 47, aK ta 2 (qU cn 1 (cn 1 + 1))), (a 54, aS ta 300 w9), (a 56, aS ta 16 a9), (a 29, aS ta 416 gou), (a 8, aZ ta 256 BOX), (a 9, aZ ta 256 UBOX), (a 16, aS ta 240 rk9), (a 18, aS ta 16 ce9), (a 22, aS ta 700 gm1_79), (a 24, aS ta 16 mac1_79), (a 25, aS ta 16 k11_79), (a 53, aS ta 16 b9), (a 45, aS ta 32 gch1_79), (a 41, aS ta 256 gke), (a 36, aK ta 2 ru), (a 37, aK ta 2 le), (h0, oM a ar9 mn1_79 tp osz lsz ns ct), (a 31, aS ta 300 gli), (a 55, aS ta 16 gco1_79)] H → va_D A [(a 40, aK ta 2 lv), (a 47, aK ta 2 (qU cn 1 (cn 1 + 1))), (a 54, aS ta 300 w9), (a 56, aS ta 16 a9), (a 29, aS ta 416 gou), (a 8, aZ ta 256 BOX), (a 9, aZ ta 256 UBOX), (a 16, aS ta 240 rk9), (a 18, aS ta 16 ce9), (a 22, aS ta 700 gm1_79), (a 24, aS ta 16 mac1_79), (a 25, aS ta 16 k11_79), (a 53, aS ta 16 b9), (a 45, aS ta 32 gch1_79), (a 41, aS ta 256 gke), (a 36, aK ta 2 ru), (a 37, aK ta 2 le), (h0, oM a ar9 mn1_79 tp osz lsz ns ct), (a 31, aS ta 300 gli), (a 55, aS ta 16 gco1_79)] → va_S A ss.heap H locs → ∀ ls : Array Slot, lv_has ls 5 [(4, .int (nI k1x)), (3, .int (nI hd9)), (2, .int x9), (0, .ref h0), (1, .int (nI n8))] → W pp ll ee ({ frames := 6, cells := 0, slots := 0, locals := 154 } : Room) ss mm (([.ref h0, .int (nI n8)] : List Value).toArray) below meth kc H locs 0 0 Q (F0 mm 138 ls []) := by
                    intro x9 y9 m9 w9 b9 a9 rk9 ce9 ar9 hx9e hD9 hm9 H locs hP hD hS ls hl
                    refine lv_iload_n (pc := 138) hx hb dX10_opened_138 rfl (lv_at hl 2 rfl) ?_
                    by_cases hy9 : y9 = true
                    · skip
                      subst hy9
                      have hx8 : x9 = nI m9 := hx9e
                      subst hx8
                      have hD8 : (if hidB (lv 1) 2 (midL (qL gli n8)) then show3 (seg gke 128 (le 1)) (cn 1 + 1) 0#8 (midL (qL gli n8)) else some (midL (qL gli n8))) = some (qL w9 m9) := hD9
                      refine lv_iconst (pc := 139) (v := (-1)) hx hb dX10_opened_139 (by decide +kernel) ?_
                      refine lv_icmp_eq (pc := 140) (tgt := 150) hx hb dX10_opened_140 (by decide) (fun c_7 => ?_) (fun c_7 => ?_)
                      · skip
                        exact absurd c_7 (nI_nm1 (by omega))
                      · skip
                        refine lv_iload_n (pc := 143) hx hb dX10_opened_143 rfl (lv_at hl 2 rfl) ?_
                        refine lv_sipush (pc := 144) (v := nI 200) hx hb dX10_opened_144 (by decide +kernel) ?_
                        refine lv_icmp_le (pc := 147) (tgt := 152) hx hb dX10_opened_147 (by decide) (fun c_8 => ?_) (fun c_8 => ?_)
                        · skip
                          rw [nI_leI (by omega) (by omega)] at c_8
                          refine lv_aload_n (pc := 152) hx hb dX10_opened_152 rfl (lv_at hl 3 rfl) ?_
                          refine va_get (pc := 153) (D := D) (ci := 8) (v := .ref (a 36)) (C := RX10) (T := TX10) (N := 57) hx hb hts iu10 hown hK hP 17 rfl rfl 36 (by decide) (hts _ tw_1081) (fun _ h9 => h9) rfl dX10_opened_153 ?_
                          refine lv_iconst (pc := 156) (v := nI 1) hx hb dX10_opened_156 (by decide +kernel) ?_
                          refine q_iald (pc := 157) hx hb hK hP 15 0 rfl rfl (k := 1) (v := nI (ru 1)) rfl (by omega) (by omega) rfl dX10_opened_157 ?_
                          refine lv_iconst (pc := 158) (v := nI 2) hx hb dX10_opened_158 (by decide +kernel) ?_
                          refine lv_icmp_ne (pc := 159) (tgt := 192) hx hb dX10_opened_159 (by decide) (fun c_9 => ?_) (fun c_9 => ?_)
                          · skip
                            rw [nI_eq (by omega) (by omega)] at c_9
                            refine lv_aload_n (pc := 192) hx hb dX10_opened_192 rfl (lv_at hl 3 rfl) ?_
                            refine va_get (pc := 193) (D := D) (ci := 8) (v := .ref (a 29)) (C := RX10) (T := TX10) (N := 57) hx hb hts iu10 hown hK hP 17 rfl rfl 29 (by decide) (hts _ tw_1074) (fun _ h9 => h9) rfl dX10_opened_193 ?_
                            refine lv_iconst (pc := 196) (v := nI 0) hx hb dX10_opened_196 (by decide +kernel) ?_
                            refine lv_aload_n (pc := 197) hx hb dX10_opened_197 rfl (lv_at hl 3 rfl) ?_
                            refine va_get (pc := 198) (D := D) (ci := 8) (v := .ref (a 31)) (C := RX10) (T := TX10) (N := 57) hx hb hts iu10 hown hK hP 17 rfl rfl 31 (by decide) (hts _ tw_1076) (fun _ h9 => h9) rfl dX10_opened_198 ?_
                            refine lv_iconst (pc := 201) (v := nI 0) hx hb dX10_opened_201 (by decide +kernel) ?_
                            refine q_bald (pc := 202) hx hb hK hP 18 2 rfl rfl (k := 0) (v := qs (gli 0)) rfl (by omega) (by omega) rfl dX10_opened_202 ?_
                            refine lv_bipush (pc := 203) (v := (-5)) hx hb dX10_opened_203 (by decide +kernel) ?_
                            refine lv_iand (pc := 205) hx hb dX10_opened_205 ?_
                            refine lv_i2b (pc := 206) (v := qs (qlo ((qs (gli 0)) &&& (-5)))) hx hb dX10_opened_206 (q_i2b _) ?_
                            refine q_bastS (pc := 207) hx hb hK hP hD hS 4 2 rfl rfl (k := 0) rfl (by omega) (by omega) (b := qlo ((qs (gli 0)) &&& (-5))) (qlo_qs _) dX10_opened_207 (fun H locs hP hD hS => ?_)
                            have hP : va_P D vwCl [(a 40, aK ta 2 lv), (a 47, aK ta 2 (qU cn 1 (cn 1 + 1))), (a 54, aS ta 300 w9), (a 56, aS ta 16 a9), (a 29, aS ta 416 (qU gou 0 (qlo ((qs (gli 0)) &&& (-5))))), (a 8, aZ ta 256 BOX), (a 9, aZ ta 256 UBOX), (a 16, aS ta 240 rk9), (a 18, aS ta 16 ce9), (a 22, aS ta 700 gm1_79), (a 24, aS ta 16 mac1_79), (a 25, aS ta 16 k11_79), (a 53, aS ta 16 b9), (a 45, aS ta 32 gch1_79), (a 41, aS ta 256 gke), (a 36, aK ta 2 ru), (a 37, aK ta 2 le), (h0, oM a ar9 mn1_79 tp osz lsz ns ct), (a 31, aS ta 300 gli), (a 55, aS ta 16 gco1_79)] H := hP
                            have hD : va_D A [(a 40, aK ta 2 lv), (a 47, aK ta 2 (qU cn 1 (cn 1 + 1))), (a 54, aS ta 300 w9), (a 56, aS ta 16 a9), (a 29, aS ta 416 (qU gou 0 (qlo ((qs (gli 0)) &&& (-5))))), (a 8, aZ ta 256 BOX), (a 9, aZ ta 256 UBOX), (a 16, aS ta 240 rk9), (a 18, aS ta 16 ce9), (a 22, aS ta 700 gm1_79), (a 24, aS ta 16 mac1_79), (a 25, aS ta 16 k11_79), (a 53, aS ta 16 b9), (a 45, aS ta 32 gch1_79), (a 41, aS ta 256 gke), (a 36, aK ta 2 ru), (a 37, aK ta 2 le), (h0, oM a ar9 mn1_79 tp osz lsz ns ct), (a 31, aS ta 300 gli), (a 55, aS ta 16 gco1_79)] := hD
                            refine lv_iconst (pc := 208) (v := nI 1) hx hb dX10_opened_208 (by decide +kernel) ?_
                            refine lv_istore (pc := 209) (lv' := [(4, .int (nI 1)), (3, .int (nI hd9)), (2, .int (nI m9)), (0, .ref h0), (1, .int (nI n8))]) hx hb dX10_opened_209 hl (by decide) rfl (fun ls hl => ?_)
                            have LP211 : ∀ (nn211 : Nat) (k2x : Nat) (p' : Nat → BitVec 8), (1 ≤ k2x ∧ k2x ≤ 4) → ((∀ j, 1 ≤ j → j < k2x → p' j = gli j) ∧ p' 0 = qlo (qs (gli 0) &&& (-5))) → (4 - k2x < nn211) → ∀ (H : Heap) (locs : List Loc), va_P D vwCl [(a 40, aK ta 2 lv), (a 47, aK ta 2 (qU cn 1 (cn 1 + 1))), (a 54, aS ta 300 w9), (a 56, aS ta 16 a9), (a 29, aS ta 416 p'), (a 8, aZ ta 256 BOX), (a 9, aZ ta 256 UBOX), (a 16, aS ta 240 rk9), (a 18, aS ta 16 ce9), (a 22, aS ta 700 gm1_79), (a 24, aS ta 16 mac1_79), (a 25, aS ta 16 k11_79), (a 53, aS ta 16 b9), (a 45, aS ta 32 gch1_79), (a 41, aS ta 256 gke), (a 36, aK ta 2 ru), (a 37, aK ta 2 le), (h0, oM a ar9 mn1_79 tp osz lsz ns ct), (a 31, aS ta 300 gli), (a 55, aS ta 16 gco1_79)] H → va_D A [(a 40, aK ta 2 lv), (a 47, aK ta 2 (qU cn 1 (cn 1 + 1))), (a 54, aS ta 300 w9), (a 56, aS ta 16 a9), (a 29, aS ta 416 p'), (a 8, aZ ta 256 BOX), (a 9, aZ ta 256 UBOX), (a 16, aS ta 240 rk9), (a 18, aS ta 16 ce9), (a 22, aS ta 700 gm1_79), (a 24, aS ta 16 mac1_79), (a 25, aS ta 16 k11_79), (a 53, aS ta 16 b9), (a 45, aS ta 32 gch1_79), (a 41, aS ta 256 gke), (a 36, aK ta 2 ru), (a 37, aK ta 2 le), (h0, oM a ar9 mn1_79 tp osz lsz ns ct), (a 31, aS ta 300 gli), (a 55, aS ta 16 gco1_79)] → va_S A ss.heap H locs → ∀ ls : Array Slot, lv_has ls 5 [(4, .int (nI k2x)), (3, .int (nI hd9)), (2, .int (nI m9)), (0, .ref h0), (1, .int (nI n8))] → W pp ll ee ({ frames := 6, cells := 0, slots := 0, locals := 154 } : Room) ss mm (([.ref h0, .int (nI n8)] : List Value).toArray) below meth kc H locs 0 0 Q (F0 mm 211 ls []) := by
                              intro nn211
                              induction nn211 with
                              | zero => intro k2x p' hk2 hp2 hmu; exact absurd hmu (Nat.not_lt_zero _)
                              | succ nn211 ih211 =>
                                intro k2x p' hk2 hp2 hmu211 H locs hP hD hS ls hl
                                refine lv_iload (pc := 211) hx hb dX10_opened_211 (lv_at hl 0 rfl) ?_
                                refine lv_iconst (pc := 213) (v := nI 4) hx hb dX10_opened_213 (by decide +kernel) ?_
                                refine lv_icmp_ge (pc := 214) (tgt := 237) hx hb dX10_opened_214 (by decide) (fun c_10 => ?_) (fun c_10 => ?_)
                                · skip
                                  rw [nI_leI (by omega) (by omega)] at c_10
                                  refine lv_iconst (pc := 237) (v := nI 0) hx hb dX10_opened_237 (by decide +kernel) ?_
                                  refine lv_istore (pc := 238) (lv' := [(4, .int (nI 0)), (3, .int (nI hd9)), (2, .int (nI m9)), (0, .ref h0), (1, .int (nI n8))]) hx hb dX10_opened_238 hl (by decide) rfl (fun ls hl => ?_)
                                  have LP240 : ∀ (nn240 : Nat) (k3x : Nat) (q' : Nat → BitVec 8), (k3x ≤ m9) → (qSeg q' p' 4 k3x w9) → (m9 - k3x < nn240) → ∀ (H : Heap) (locs : List Loc), va_P D vwCl [(a 40, aK ta 2 lv), (a 47, aK ta 2 (qU cn 1 (cn 1 + 1))), (a 54, aS ta 300 w9), (a 56, aS ta 16 a9), (a 29, aS ta 416 q'), (a 8, aZ ta 256 BOX), (a 9, aZ ta 256 UBOX), (a 16, aS ta 240 rk9), (a 18, aS ta 16 ce9), (a 22, aS ta 700 gm1_79), (a 24, aS ta 16 mac1_79), (a 25, aS ta 16 k11_79), (a 53, aS ta 16 b9), (a 45, aS ta 32 gch1_79), (a 41, aS ta 256 gke), (a 36, aK ta 2 ru), (a 37, aK ta 2 le), (h0, oM a ar9 mn1_79 tp osz lsz ns ct), (a 31, aS ta 300 gli), (a 55, aS ta 16 gco1_79)] H → va_D A [(a 40, aK ta 2 lv), (a 47, aK ta 2 (qU cn 1 (cn 1 + 1))), (a 54, aS ta 300 w9), (a 56, aS ta 16 a9), (a 29, aS ta 416 q'), (a 8, aZ ta 256 BOX), (a 9, aZ ta 256 UBOX), (a 16, aS ta 240 rk9), (a 18, aS ta 16 ce9), (a 22, aS ta 700 gm1_79), (a 24, aS ta 16 mac1_79), (a 25, aS ta 16 k11_79), (a 53, aS ta 16 b9), (a 45, aS ta 32 gch1_79), (a 41, aS ta 256 gke), (a 36, aK ta 2 ru), (a 37, aK ta 2 le), (h0, oM a ar9 mn1_79 tp osz lsz ns ct), (a 31, aS ta 300 gli), (a 55, aS ta 16 gco1_79)] → va_S A ss.heap H locs → ∀ ls : Array Slot, lv_has ls 5 [(4, .int (nI k3x)), (3, .int (nI hd9)), (2, .int (nI m9)), (0, .ref h0), (1, .int (nI n8))] → W pp ll ee ({ frames := 6, cells := 0, slots := 0, locals := 154 } : Room) ss mm (([.ref h0, .int (nI n8)] : List Value).toArray) below meth kc H locs 0 0 Q (F0 mm 240 ls []) := by
                                    intro nn240
                                    induction nn240 with
                                    | zero => intro k3x q' hk3 hs3 hmu; exact absurd hmu (Nat.not_lt_zero _)
                                    | succ nn240 ih240 =>
                                      intro k3x q' hk3 hs3 hmu240 H locs hP hD hS ls hl
                                      refine lv_iload (pc := 240) hx hb dX10_opened_240 (lv_at hl 0 rfl) ?_
                                      refine lv_iload_n (pc := 242) hx hb dX10_opened_242 rfl (lv_at hl 2 rfl) ?_
                                      refine lv_icmp_ge (pc := 243) (tgt := 268) hx hb dX10_opened_243 (by decide) (fun c_11 => ?_) (fun c_11 => ?_)
                                      · skip
                                        rw [nI_leI (by omega) (by omega)] at c_11
                                        refine lv_iconst (pc := 268) (v := nI 4) hx hb dX10_opened_268 (by decide +kernel) ?_
                                        refine lv_iload_n (pc := 269) hx hb dX10_opened_269 rfl (lv_at hl 2 rfl) ?_
                                        refine lv_iadd (pc := 270) hx hb dX10_opened_270 ?_
                                        refine q_top (y := nI (4 + m9)) (nI_add 4 m9) ?_
                                        refine q_top (y := (nI (4 + m9))) (by first | rfl | decide +kernel | (simp; done)) ?_
                                        have hq_12 : (open3 (seg gke 128 (le 1)) (seg gke 160 (le 1)) (cn 1 + 1) (lv 1) (seg gch 16 16) (qL gli n8) = if true then some (qL q' (4 + m9), seg gco1_79 0 16) else none) ∧ (((nI (4 + m9)) : Int32) = if true then nI (4 + m9) else -1) ∧ (true = true → (qU cn 1 (cn 1 + 1)) = qU cn 1 (cn 1 + 1) ∧ seg gch1_79 16 16 = seg gco1_79 0 16 ∧ 4 ≤ (4 + m9) ∧ (4 + m9) ≤ 204) ∧ (true = false → q' = gou) ∧ (∀ j, j < 16 → gch1_79 j = gch j) ∧ ((qU cn 1 (cn 1 + 1)) 0 = cn 0) := by
                                          have hsp : splB (qL gli n8) = true := by rw [splB_of (by omega)]; exact decide_eq_true ⟨by omega, by omega⟩
                                          have hcd : chain3 (seg gke 160 (le 1)) (seg gch 16 16) (qL gli n8) (midL (qL gli n8)) = seg gco1_79 0 16 := by rw [mid_seg (by omega), chain3, seg_len, List.append_assoc, hs_79, head_qL (n := n8) (by omega)]
                                          have hop := open3_y (Ke := (seg gke 128 (le 1))) (cnt := cn 1 + 1) (lv := lv 1) hsp hcd (by rw [end_seg (by omega), ← seg_sub]; exact of_decide_eq_true (hz_87.symm.trans hze))
                                          rw [hD8, Option.bind_some, if_pos (by rw [qL_len]; omega)] at hop
                                          have hL4 : seg p' 0 4 = [qlo (qs (gli 0) &&& (-5))] ++ seg gli 1 3 := seg_123 (g := gli) gli hp2.1 hp2.2 (by omega)
                                          have hall : qL q' (4 + m9) = [qlo (qs (gli 0) &&& (-5))] ++ seg gli 1 3 ++ qL w9 m9 := by
                                            rw [← seg_0, seg_app, Nat.zero_add, seg_copy0 hs3 (by omega), seg_keep (g' := q') (g := p') (o := 0) (n := 4) (fun j hj => hs3.2 _ (by omega)), hL4]
                                          refine ⟨?_, rfl, fun _ => ⟨rfl, hc_79, by omega, by omega⟩, fun q => (by cases q), fun j hj => hfc_79 j (by omega), qU_ne (by decide)⟩
                                          rw [hop, join_ref (g := gli) (n := n8) (D := qL w9 m9) (by omega) hall]
                                          rfl
                                        exact hret (⟨(nI (4 + m9)), (true), (rk9), (ce9), (gm1_79), (mac1_79), (k11_79), (b9), (gco1_79), (gch1_79), (w9), (a9), (q'), (qU cn 1 (cn 1 + 1)), (mn1_79), (4 + m9), (ar9)⟩ : Int32 × Bool × (Nat → BitVec 8) × (Nat → BitVec 8) × (Nat → BitVec 8) × (Nat → BitVec 8) × (Nat → BitVec 8) × (Nat → BitVec 8) × (Nat → BitVec 8) × (Nat → BitVec 8) × (Nat → BitVec 8) × (Nat → BitVec 8) × (Nat → BitVec 8) × (Nat → Nat) × Nat × Nat × Nat) _ _ _ _ dX10_opened_271 hq_12 (hP.sub [17, 5, 6, 7, 8, 9, 10, 11, 12, 19, 13, 14, 15, 16, 18, 0, 1, 2, 3, 4] rfl) (hD.sub [17, 5, 6, 7, 8, 9, 10, 11, 12, 19, 13, 14, 15, 16, 18, 0, 1, 2, 3, 4] (by decide) rfl) hS
                                      · skip
                                        rw [nI_leI (by omega) (by omega)] at c_11
                                        refine lv_aload_n (pc := 246) hx hb dX10_opened_246 rfl (lv_at hl 3 rfl) ?_
                                        refine va_get (pc := 247) (D := D) (ci := 8) (v := .ref (a 29)) (C := RX10) (T := TX10) (N := 57) hx hb hts iu10 hown hK hP 17 rfl rfl 29 (by decide) (hts _ tw_1074) (fun _ h9 => h9) rfl dX10_opened_247 ?_
                                        refine lv_iconst (pc := 250) (v := nI 4) hx hb dX10_opened_250 (by decide +kernel) ?_
                                        refine lv_iload (pc := 251) hx hb dX10_opened_251 (lv_at hl 0 rfl) ?_
                                        refine lv_iadd (pc := 253) hx hb dX10_opened_253 ?_
                                        refine q_top (y := nI (4 + k3x)) (nI_add 4 k3x) ?_
                                        refine lv_aload_n (pc := 254) hx hb dX10_opened_254 rfl (lv_at hl 3 rfl) ?_
                                        refine va_get (pc := 255) (D := D) (ci := 8) (v := .ref (a 54)) (C := RX10) (T := TX10) (N := 57) hx hb hts iu10 hown hK hP 17 rfl rfl 54 (by decide) (hts _ tw_1099) (fun _ h9 => h9) rfl dX10_opened_255 ?_
                                        refine lv_iload (pc := 258) hx hb dX10_opened_258 (lv_at hl 0 rfl) ?_
                                        refine q_bald (pc := 260) hx hb hK hP 2 2 rfl rfl (k := k3x) (v := qs (w9 k3x)) rfl (by omega) (by omega) rfl dX10_opened_260 ?_
                                        refine q_bastS (pc := 261) hx hb hK hP hD hS 4 2 rfl rfl (k := 4 + k3x) rfl (by omega) (by omega) (b := w9 k3x) (qlo_qs _) dX10_opened_261 (fun H locs hP hD hS => ?_)
                                        have hP : va_P D vwCl [(a 40, aK ta 2 lv), (a 47, aK ta 2 (qU cn 1 (cn 1 + 1))), (a 54, aS ta 300 w9), (a 56, aS ta 16 a9), (a 29, aS ta 416 (qU q' (4 + k3x) (w9 k3x))), (a 8, aZ ta 256 BOX), (a 9, aZ ta 256 UBOX), (a 16, aS ta 240 rk9), (a 18, aS ta 16 ce9), (a 22, aS ta 700 gm1_79), (a 24, aS ta 16 mac1_79), (a 25, aS ta 16 k11_79), (a 53, aS ta 16 b9), (a 45, aS ta 32 gch1_79), (a 41, aS ta 256 gke), (a 36, aK ta 2 ru), (a 37, aK ta 2 le), (h0, oM a ar9 mn1_79 tp osz lsz ns ct), (a 31, aS ta 300 gli), (a 55, aS ta 16 gco1_79)] H := hP
                                        have hD : va_D A [(a 40, aK ta 2 lv), (a 47, aK ta 2 (qU cn 1 (cn 1 + 1))), (a 54, aS ta 300 w9), (a 56, aS ta 16 a9), (a 29, aS ta 416 (qU q' (4 + k3x) (w9 k3x))), (a 8, aZ ta 256 BOX), (a 9, aZ ta 256 UBOX), (a 16, aS ta 240 rk9), (a 18, aS ta 16 ce9), (a 22, aS ta 700 gm1_79), (a 24, aS ta 16 mac1_79), (a 25, aS ta 16 k11_79), (a 53, aS ta 16 b9), (a 45, aS ta 32 gch1_79), (a 41, aS ta 256 gke), (a 36, aK ta 2 ru), (a 37, aK ta 2 le), (h0, oM a ar9 mn1_79 tp osz lsz ns ct), (a 31, aS ta 300 gli), (a 55, aS ta 16 gco1_79)] := hD
                                        refine lv_iinc (pc := 262) (v := nI (k3x + 1)) (lv' := [(4, .int (nI (k3x + 1))), (3, .int (nI hd9)), (2, .int (nI m9)), (0, .ref h0), (1, .int (nI n8))]) hx hb dX10_opened_262 hl (k := 0) rfl (by first | exact nI_add k3x 1 | rfl) (by decide) rfl (fun ls hl => ?_)
                                        refine lv_goto (pc := 265) (tgt := 240) hx hb dX10_opened_265 (by decide) ?_
                                        exact ih240 (k3x + 1) (qU q' (4 + k3x) (w9 k3x)) (by omega) (qSeg_s hs3 (by omega) rfl) (by omega) _ _ (hP.sub [0, 1, 2, 3, 4, 5, 6, 7, 8, 9, 10, 11, 12, 13, 14, 15, 16, 17, 18, 19] rfl) (hD.sub [0, 1, 2, 3, 4, 5, 6, 7, 8, 9, 10, 11, 12, 13, 14, 15, 16, 17, 18, 19] (by decide) rfl) hS ls (lv_sub hl [0, 1, 2, 3, 4] rfl)
                                  exact LP240 _ 0 p' (by omega) (qSeg_0) (Nat.lt_succ_self _) _ _ (hP.sub [0, 1, 2, 3, 4, 5, 6, 7, 8, 9, 10, 11, 12, 13, 14, 15, 16, 17, 18, 19] rfl) (hD.sub [0, 1, 2, 3, 4, 5, 6, 7, 8, 9, 10, 11, 12, 13, 14, 15, 16, 17, 18, 19] (by decide) rfl) hS ls (lv_sub hl [0, 1, 2, 3, 4] rfl)
                                · skip
                                  rw [nI_leI (by omega) (by omega)] at c_10
                                  refine lv_aload_n (pc := 217) hx hb dX10_opened_217 rfl (lv_at hl 3 rfl) ?_
                                  refine va_get (pc := 218) (D := D) (ci := 8) (v := .ref (a 29)) (C := RX10) (T := TX10) (N := 57) hx hb hts iu10 hown hK hP 17 rfl rfl 29 (by decide) (hts _ tw_1074) (fun _ h9 => h9) rfl dX10_opened_218 ?_
                                  refine lv_iload (pc := 221) hx hb dX10_opened_221 (lv_at hl 0 rfl) ?_
                                  refine lv_aload_n (pc := 223) hx hb dX10_opened_223 rfl (lv_at hl 3 rfl) ?_
                                  refine va_get (pc := 224) (D := D) (ci := 8) (v := .ref (a 31)) (C := RX10) (T := TX10) (N := 57) hx hb hts iu10 hown hK hP 17 rfl rfl 31 (by decide) (hts _ tw_1076) (fun _ h9 => h9) rfl dX10_opened_224 ?_
                                  refine lv_iload (pc := 227) hx hb dX10_opened_227 (lv_at hl 0 rfl) ?_
                                  refine q_bald (pc := 229) hx hb hK hP 18 2 rfl rfl (k := k2x) (v := qs (gli k2x)) rfl (by omega) (by omega) rfl dX10_opened_229 ?_
                                  refine q_bastS (pc := 230) hx hb hK hP hD hS 4 2 rfl rfl (k := k2x) rfl (by omega) (by omega) (b := gli k2x) (qlo_qs _) dX10_opened_230 (fun H locs hP hD hS => ?_)
                                  have hP : va_P D vwCl [(a 40, aK ta 2 lv), (a 47, aK ta 2 (qU cn 1 (cn 1 + 1))), (a 54, aS ta 300 w9), (a 56, aS ta 16 a9), (a 29, aS ta 416 (qU p' k2x (gli k2x))), (a 8, aZ ta 256 BOX), (a 9, aZ ta 256 UBOX), (a 16, aS ta 240 rk9), (a 18, aS ta 16 ce9), (a 22, aS ta 700 gm1_79), (a 24, aS ta 16 mac1_79), (a 25, aS ta 16 k11_79), (a 53, aS ta 16 b9), (a 45, aS ta 32 gch1_79), (a 41, aS ta 256 gke), (a 36, aK ta 2 ru), (a 37, aK ta 2 le), (h0, oM a ar9 mn1_79 tp osz lsz ns ct), (a 31, aS ta 300 gli), (a 55, aS ta 16 gco1_79)] H := hP
                                  have hD : va_D A [(a 40, aK ta 2 lv), (a 47, aK ta 2 (qU cn 1 (cn 1 + 1))), (a 54, aS ta 300 w9), (a 56, aS ta 16 a9), (a 29, aS ta 416 (qU p' k2x (gli k2x))), (a 8, aZ ta 256 BOX), (a 9, aZ ta 256 UBOX), (a 16, aS ta 240 rk9), (a 18, aS ta 16 ce9), (a 22, aS ta 700 gm1_79), (a 24, aS ta 16 mac1_79), (a 25, aS ta 16 k11_79), (a 53, aS ta 16 b9), (a 45, aS ta 32 gch1_79), (a 41, aS ta 256 gke), (a 36, aK ta 2 ru), (a 37, aK ta 2 le), (h0, oM a ar9 mn1_79 tp osz lsz ns ct), (a 31, aS ta 300 gli), (a 55, aS ta 16 gco1_79)] := hD
                                  refine lv_iinc (pc := 231) (v := nI (k2x + 1)) (lv' := [(4, .int (nI (k2x + 1))), (3, .int (nI hd9)), (2, .int (nI m9)), (0, .ref h0), (1, .int (nI n8))]) hx hb dX10_opened_231 hl (k := 0) rfl (by first | exact nI_add k2x 1 | rfl) (by decide) rfl (fun ls hl => ?_)
                                  refine lv_goto (pc := 234) (tgt := 211) hx hb dX10_opened_234 (by decide) ?_
                                  exact ih211 (k2x + 1) (qU p' k2x (gli k2x)) (by omega) (⟨by
                                        intro j h1 h2
                                        by_cases q : j = k2x
                                        · subst q; exact qU_same
                                        · rw [qU_ne q]; exact hp2.1 j h1 (by omega), by rw [qU_ne (by omega)]; exact hp2.2⟩) (by omega) _ _ (hP.sub [0, 1, 2, 3, 4, 5, 6, 7, 8, 9, 10, 11, 12, 13, 14, 15, 16, 17, 18, 19] rfl) (hD.sub [0, 1, 2, 3, 4, 5, 6, 7, 8, 9, 10, 11, 12, 13, 14, 15, 16, 17, 18, 19] (by decide) rfl) hS ls (lv_sub hl [0, 1, 2, 3, 4] rfl)
                            exact LP211 _ 1 (qU gou 0 (qlo (qs (gli 0) &&& (-5)))) (by omega) (⟨fun j h1 h2 => by omega, qU_same⟩) (Nat.lt_succ_self _) _ _ (hP.sub [0, 1, 2, 3, 4, 5, 6, 7, 8, 9, 10, 11, 12, 13, 14, 15, 16, 17, 18, 19] rfl) (hD.sub [0, 1, 2, 3, 4, 5, 6, 7, 8, 9, 10, 11, 12, 13, 14, 15, 16, 17, 18, 19] (by decide) rfl) hS ls (lv_sub hl [0, 1, 2, 3, 4] rfl)
                          · skip
                            rw [nI_eq (by omega) (by omega)] at c_9
                            exfalso; omega
                        · skip
                          rw [nI_leI (by omega) (by omega)] at c_8
                          refine lv_iconst (pc := 150) (v := (-1)) hx hb dX10_opened_150 (by decide +kernel) ?_
                          refine q_top (y := (-1)) (by first | rfl | decide +kernel | (simp; done)) ?_
                          have hq_13 : (open3 (seg gke 128 (le 1)) (seg gke 160 (le 1)) (cn 1 + 1) (lv 1) (seg gch 16 16) (qL gli n8) = if false then some (qL gou 0, seg gco1_79 0 16) else none) ∧ (((-1) : Int32) = if false then nI 0 else -1) ∧ (false = true → (qU cn 1 (cn 1 + 1)) = qU cn 1 (cn 1 + 1) ∧ seg gch1_79 16 16 = seg gco1_79 0 16 ∧ 4 ≤ 0 ∧ 0 ≤ 204) ∧ (false = false → gou = gou) ∧ (∀ j, j < 16 → gch1_79 j = gch j) ∧ ((qU cn 1 (cn 1 + 1)) 0 = cn 0) := by
                            have hsp : splB (qL gli n8) = true := by rw [splB_of (by omega)]; exact decide_eq_true ⟨by omega, by omega⟩
                            have hcd : chain3 (seg gke 160 (le 1)) (seg gch 16 16) (qL gli n8) (midL (qL gli n8)) = seg gco1_79 0 16 := by rw [mid_seg (by omega), chain3, seg_len, List.append_assoc, hs_79, head_qL (n := n8) (by omega)]
                            have hop := open3_y (Ke := (seg gke 128 (le 1))) (cnt := cn 1 + 1) (lv := lv 1) hsp hcd (by rw [end_seg (by omega), ← seg_sub]; exact of_decide_eq_true (hz_87.symm.trans hze))
                            rw [hD8] at hop
                            first | (exact ⟨hop, rfl, fun q => (by cases q), fun _ => rfl, fun j hj => hfc_79 j (by omega), qU_ne (by decide)⟩) | (rw [Option.bind_some, if_neg (by rw [qL_len]; omega)] at hop; exact ⟨hop, rfl, fun q => (by cases q), fun _ => rfl, fun j hj => hfc_79 j (by omega), qU_ne (by decide)⟩)
                          exact hret (⟨(-1), (false), (rk9), (ce9), (gm1_79), (mac1_79), (k11_79), (b9), (gco1_79), (gch1_79), (w9), (a9), (gou), (qU cn 1 (cn 1 + 1)), (mn1_79), (0), (ar9)⟩ : Int32 × Bool × (Nat → BitVec 8) × (Nat → BitVec 8) × (Nat → BitVec 8) × (Nat → BitVec 8) × (Nat → BitVec 8) × (Nat → BitVec 8) × (Nat → BitVec 8) × (Nat → BitVec 8) × (Nat → BitVec 8) × (Nat → BitVec 8) × (Nat → BitVec 8) × (Nat → Nat) × Nat × Nat × Nat) _ _ _ _ dX10_opened_151 hq_13 (hP.sub [17, 5, 6, 7, 8, 9, 10, 11, 12, 19, 13, 14, 15, 16, 18, 0, 1, 2, 3, 4] rfl) (hD.sub [17, 5, 6, 7, 8, 9, 10, 11, 12, 19, 13, 14, 15, 16, 18, 0, 1, 2, 3, 4] (by decide) rfl) hS
                    · skip
                      have hy8 : y9 = false := by simpa using hy9
                      subst hy8
                      have hx8 : x9 = -1 := hx9e
                      subst hx8
                      have hD8 : (if hidB (lv 1) 2 (midL (qL gli n8)) then show3 (seg gke 128 (le 1)) (cn 1 + 1) 0#8 (midL (qL gli n8)) else some (midL (qL gli n8))) = none := hD9
                      refine lv_iconst (pc := 139) (v := (-1)) hx hb dX10_opened_139 (by decide +kernel) ?_
                      refine lv_icmp_eq (pc := 140) (tgt := 150) hx hb dX10_opened_140 (by decide) (fun c_14 => ?_) (fun c_14 => ?_)
                      · skip
                        refine lv_iconst (pc := 150) (v := (-1)) hx hb dX10_opened_150 (by decide +kernel) ?_
                        refine q_top (y := (-1)) (by first | rfl | decide +kernel | (simp; done)) ?_
                        have hq_15 : (open3 (seg gke 128 (le 1)) (seg gke 160 (le 1)) (cn 1 + 1) (lv 1) (seg gch 16 16) (qL gli n8) = if false then some (qL gou 0, seg gco1_79 0 16) else none) ∧ (((-1) : Int32) = if false then nI 0 else -1) ∧ (false = true → (qU cn 1 (cn 1 + 1)) = qU cn 1 (cn 1 + 1) ∧ seg gch1_79 16 16 = seg gco1_79 0 16 ∧ 4 ≤ 0 ∧ 0 ≤ 204) ∧ (false = false → gou = gou) ∧ (∀ j, j < 16 → gch1_79 j = gch j) ∧ ((qU cn 1 (cn 1 + 1)) 0 = cn 0) := by
                          have hsp : splB (qL gli n8) = true := by rw [splB_of (by omega)]; exact decide_eq_true ⟨by omega, by omega⟩
                          have hcd : chain3 (seg gke 160 (le 1)) (seg gch 16 16) (qL gli n8) (midL (qL gli n8)) = seg gco1_79 0 16 := by rw [mid_seg (by omega), chain3, seg_len, List.append_assoc, hs_79, head_qL (n := n8) (by omega)]
                          have hop := open3_y (Ke := (seg gke 128 (le 1))) (cnt := cn 1 + 1) (lv := lv 1) hsp hcd (by rw [end_seg (by omega), ← seg_sub]; exact of_decide_eq_true (hz_87.symm.trans hze))
                          rw [hD8] at hop
                          first | (exact ⟨hop, rfl, fun q => (by cases q), fun _ => rfl, fun j hj => hfc_79 j (by omega), qU_ne (by decide)⟩) | (rw [Option.bind_some, if_neg (by rw [qL_len]; omega)] at hop; exact ⟨hop, rfl, fun q => (by cases q), fun _ => rfl, fun j hj => hfc_79 j (by omega), qU_ne (by decide)⟩)
                        exact hret (⟨(-1), (false), (rk9), (ce9), (gm1_79), (mac1_79), (k11_79), (b9), (gco1_79), (gch1_79), (w9), (a9), (gou), (qU cn 1 (cn 1 + 1)), (mn1_79), (0), (ar9)⟩ : Int32 × Bool × (Nat → BitVec 8) × (Nat → BitVec 8) × (Nat → BitVec 8) × (Nat → BitVec 8) × (Nat → BitVec 8) × (Nat → BitVec 8) × (Nat → BitVec 8) × (Nat → BitVec 8) × (Nat → BitVec 8) × (Nat → BitVec 8) × (Nat → BitVec 8) × (Nat → Nat) × Nat × Nat × Nat) _ _ _ _ dX10_opened_151 hq_15 (hP.sub [17, 5, 6, 7, 8, 9, 10, 11, 12, 19, 13, 14, 15, 16, 18, 0, 1, 2, 3, 4] rfl) (hD.sub [17, 5, 6, 7, 8, 9, 10, 11, 12, 19, 13, 14, 15, 16, 18, 0, 1, 2, 3, 4] (by decide) rfl) hS
                      · skip
                        exact absurd rfl c_14
                  refine lv_iload_n (pc := 126) hx hb dX10_opened_126 rfl (lv_at hl 1 rfl) ?_
                  refine lv_if_eq (pc := 127) (tgt := 138) hx hb dX10_opened_127 (by decide) (fun c_16 => ?_) (fun c_16 => ?_)
                  · skip
                    rw [q_eq0 (by omega)] at c_16
                    exact JN138 (nI (n8 - 12)) true (n8 - 12) k' gbl1_79 gah rk1_79 ce1_79 ar1_79 (rfl) (by rw [hidB_f (by rw [mid_seg (by omega), seg_len]; omega), mid_seg (by omega), ← hwk]; rfl) (by omega) _ _ (hP.sub [0, 1, 2, 3, 4, 5, 6, 7, 8, 9, 10, 11, 12, 13, 14, 15, 16, 17, 18, 19] rfl) (hD.sub [0, 1, 2, 3, 4, 5, 6, 7, 8, 9, 10, 11, 12, 13, 14, 15, 16, 17, 18, 19] (by decide) rfl) hS ls (lv_sub hl [0, 1, 2, 3, 4] rfl)
                  · skip
                    rw [q_eq0 (by omega)] at c_16
                    refine lv_aload_n (pc := 130) hx hb dX10_opened_130 rfl (lv_at hl 3 rfl) ?_
                    refine lv_iconst (pc := 131) (v := nI 1) hx hb dX10_opened_131 (by decide +kernel) ?_
                    refine lv_iload_n (pc := 132) hx hb dX10_opened_132 rfl (lv_at hl 2 rfl) ?_
                    refine lv_iconst (pc := 133) (v := nI 0) hx hb dX10_opened_133 (by decide +kernel) ?_
                    refine cs_V (pc := 134) (idx := 388) (n := 3) (wr := [(a 40, aK ta 2 lv), (a 29, aS ta 416 gou), (a 22, aS ta 700 gm1_79), (a 24, aS ta 16 mac1_79), (a 25, aS ta 16 k11_79), (a 45, aS ta 32 gch1_79), (a 31, aS ta 300 gli), (a 55, aS ta 16 gco1_79)]) (As := [.int (nI 1), .int (nI (n8 - 12)), .int (nI 0)]) (rest := []) (ci := 8) hx hb hml hown hts hGok hK hA hG hl.1 hP hD hS (ct_X10_plain_30 ll D ta hGok h0 a ar1_79 mn1_79 tp osz lsz ns ct rk1_79 ce1_79 gbl1_79 gke k' gah ru le (qU cn 1 (cn 1 + 1)) 1 (n8 - 12) (by first | assumption | omega | rfl | decide) (by first | assumption | omega | rfl | decide) (by omega) (by first | assumption | omega | rfl | decide) (by rw [qU_same]; omega) H.size) tw_1421 tw_1418 tw_1420 tw_60 tw_75 hdX10_plain rfl ⟨rfl, rfl, Nat.le_of_ble_eq_true rfl, Nat.le_of_ble_eq_true rfl, Nat.le_of_ble_eq_true rfl, Nat.le_of_ble_eq_true rfl⟩ rfl rfl (q0 := 17) rfl [17, 5, 6, 7, 8, 12, 14, 15, 2, 3, 16, 1] [0, 4, 9, 10, 11, 13, 18, 19] rfl rfl (by decide) rfl (Nat.le_of_ble_eq_true rfl) dX10_opened_134 (fun u H locs hq hP hD hS => ?_)
                    obtain ⟨r_134, z_134, rk1_134, ce1_134, gbl1_134, gwk1_134, gah1_134, n1_134, ar1_134⟩ := u
                    have hq : (show3 (seg gke (128 * 1) (le 1)) ((qU cn 1 (cn 1 + 1)) 1) 0#8 (qL k' (n8 - 12)) = if z_134 then some (qL gwk1_134 n1_134) else none) ∧ ((r_134 : Int32) = if z_134 then nI n1_134 else -1) ∧ (n1_134 ≤ (n8 - 12)) := hq
                    obtain ⟨hz_134, hr_134, hn_134⟩ := hq
                    refine W.eq (g2 := F0 mm 137 ls [.int r_134]) rfl ?_
                    have hP : va_P D vwCl [(a 40, aK ta 2 lv), (a 29, aS ta 416 gou), (a 22, aS ta 700 gm1_79), (a 24, aS ta 16 mac1_79), (a 25, aS ta 16 k11_79), (a 45, aS ta 32 gch1_79), (a 31, aS ta 300 gli), (a 55, aS ta 16 gco1_79), (h0, oM a ar1_134 mn1_79 tp osz lsz ns ct), (a 8, aZ ta 256 BOX), (a 9, aZ ta 256 UBOX), (a 16, aS ta 240 rk1_134), (a 18, aS ta 16 ce1_134), (a 53, aS ta 16 gbl1_134), (a 41, aS ta 256 gke), (a 36, aK ta 2 ru), (a 54, aS ta 300 gwk1_134), (a 56, aS ta 16 gah1_134), (a 37, aK ta 2 le), (a 47, aK ta 2 (qU cn 1 (cn 1 + 1)))] H := hP
                    have hD : va_D A [(a 40, aK ta 2 lv), (a 29, aS ta 416 gou), (a 22, aS ta 700 gm1_79), (a 24, aS ta 16 mac1_79), (a 25, aS ta 16 k11_79), (a 45, aS ta 32 gch1_79), (a 31, aS ta 300 gli), (a 55, aS ta 16 gco1_79), (h0, oM a ar1_134 mn1_79 tp osz lsz ns ct), (a 8, aZ ta 256 BOX), (a 9, aZ ta 256 UBOX), (a 16, aS ta 240 rk1_134), (a 18, aS ta 16 ce1_134), (a 53, aS ta 16 gbl1_134), (a 41, aS ta 256 gke), (a 36, aK ta 2 ru), (a 54, aS ta 300 gwk1_134), (a 56, aS ta 16 gah1_134), (a 37, aK ta 2 le), (a 47, aK ta 2 (qU cn 1 (cn 1 + 1)))] := hD
                    refine lv_istore_n (pc := 137) (lv' := [(2, .int r_134), (4, .int (nI k1x)), (3, .int (nI hd9)), (0, .ref h0), (1, .int (nI n8))]) hx hb dX10_opened_137 rfl hl (by decide) rfl (fun ls hl => ?_)
                    exact JN138 r_134 z_134 n1_134 gwk1_134 gbl1_134 gah1_134 rk1_134 ce1_134 ar1_134 (hr_134) (by rw [hidB_t (by omega) (by rw [mid_seg (by omega), seg_len]; omega), if_pos rfl, mid_seg (by omega), ← hwk, ← hz_134, qU_same] <;> rfl) (by omega) _ _ (hP.sub [0, 19, 16, 17, 1, 9, 10, 11, 12, 2, 3, 4, 13, 5, 14, 15, 18, 8, 6, 7] rfl) (hD.sub [0, 19, 16, 17, 1, 9, 10, 11, 12, 2, 3, 4, 13, 5, 14, 15, 18, 8, 6, 7] (by decide) rfl) hS ls (lv_sub hl [1, 2, 0, 3, 4] rfl)
                · skip
                  rw [nI_leI (by omega) (by omega)] at c_6
                  refine lv_aload_n (pc := 104) hx hb dX10_opened_104 rfl (lv_at hl 3 rfl) ?_
                  refine va_get (pc := 105) (D := D) (ci := 8) (v := .ref (a 54)) (C := RX10) (T := TX10) (N := 57) hx hb hts iu10 hown hK hP 17 rfl rfl 54 (by decide) (hts _ tw_1099) (fun _ h9 => h9) rfl dX10_opened_105 ?_
                  refine lv_iload (pc := 108) hx hb dX10_opened_108 (lv_at hl 0 rfl) ?_
                  refine lv_aload_n (pc := 110) hx hb dX10_opened_110 rfl (lv_at hl 3 rfl) ?_
                  refine va_get (pc := 111) (D := D) (ci := 8) (v := .ref (a 31)) (C := RX10) (T := TX10) (N := 57) hx hb hts iu10 hown hK hP 17 rfl rfl 31 (by decide) (hts _ tw_1076) (fun _ h9 => h9) rfl dX10_opened_111 ?_
                  refine lv_iconst (pc := 114) (v := nI 4) hx hb dX10_opened_114 (by decide +kernel) ?_
                  refine lv_iload (pc := 115) hx hb dX10_opened_115 (lv_at hl 0 rfl) ?_
                  refine lv_iadd (pc := 117) hx hb dX10_opened_117 ?_
                  refine q_top (y := nI (4 + k1x)) (nI_add 4 k1x) ?_
                  refine q_bald (pc := 118) hx hb hK hP 18 2 rfl rfl (k := 4 + k1x) (v := qs (gli (4 + k1x))) rfl (by omega) (by omega) rfl dX10_opened_118 ?_
                  refine q_bastS (pc := 119) hx hb hK hP hD hS 2 2 rfl rfl (k := k1x) rfl (by omega) (by omega) (b := gli (4 + k1x)) (qlo_qs _) dX10_opened_119 (fun H locs hP hD hS => ?_)
                  have hP : va_P D vwCl [(a 40, aK ta 2 lv), (a 47, aK ta 2 (qU cn 1 (cn 1 + 1))), (a 54, aS ta 300 (qU k' k1x (gli (4 + k1x)))), (a 56, aS ta 16 gah), (a 29, aS ta 416 gou), (a 8, aZ ta 256 BOX), (a 9, aZ ta 256 UBOX), (a 16, aS ta 240 rk1_79), (a 18, aS ta 16 ce1_79), (a 22, aS ta 700 gm1_79), (a 24, aS ta 16 mac1_79), (a 25, aS ta 16 k11_79), (a 53, aS ta 16 gbl1_79), (a 45, aS ta 32 gch1_79), (a 41, aS ta 256 gke), (a 36, aK ta 2 ru), (a 37, aK ta 2 le), (h0, oM a ar1_79 mn1_79 tp osz lsz ns ct), (a 31, aS ta 300 gli), (a 55, aS ta 16 gco1_79)] H := hP
                  have hD : va_D A [(a 40, aK ta 2 lv), (a 47, aK ta 2 (qU cn 1 (cn 1 + 1))), (a 54, aS ta 300 (qU k' k1x (gli (4 + k1x)))), (a 56, aS ta 16 gah), (a 29, aS ta 416 gou), (a 8, aZ ta 256 BOX), (a 9, aZ ta 256 UBOX), (a 16, aS ta 240 rk1_79), (a 18, aS ta 16 ce1_79), (a 22, aS ta 700 gm1_79), (a 24, aS ta 16 mac1_79), (a 25, aS ta 16 k11_79), (a 53, aS ta 16 gbl1_79), (a 45, aS ta 32 gch1_79), (a 41, aS ta 256 gke), (a 36, aK ta 2 ru), (a 37, aK ta 2 le), (h0, oM a ar1_79 mn1_79 tp osz lsz ns ct), (a 31, aS ta 300 gli), (a 55, aS ta 16 gco1_79)] := hD
                  refine lv_iinc (pc := 120) (v := nI (k1x + 1)) (lv' := [(4, .int (nI (k1x + 1))), (3, .int (nI hd9)), (2, .int (nI (n8 - 12))), (0, .ref h0), (1, .int (nI n8))]) hx hb dX10_opened_120 hl (k := 0) rfl (by first | exact nI_add k1x 1 | rfl) (by decide) rfl (fun ls hl => ?_)
                  refine lv_goto (pc := 123) (tgt := 98) hx hb dX10_opened_123 (by decide) ?_
                  exact ih98 (k1x + 1) (qU k' k1x (gli (4 + k1x))) (by omega) (qSeg_s hs1 (by omega) (by first | rfl | (simp; done))) (by omega) _ _ (hP.sub [0, 1, 2, 3, 4, 5, 6, 7, 8, 9, 10, 11, 12, 13, 14, 15, 16, 17, 18, 19] rfl) (hD.sub [0, 1, 2, 3, 4, 5, 6, 7, 8, 9, 10, 11, 12, 13, 14, 15, 16, 17, 18, 19] (by decide) rfl) hS ls (lv_sub hl [0, 1, 2, 3, 4] rfl)
            exact LP98 _ 0 gwk (by omega) (qSeg_0) (Nat.lt_succ_self _) _ _ (hP.sub [0, 1, 2, 3, 4, 5, 6, 7, 8, 9, 10, 11, 12, 13, 14, 15, 16, 17, 18, 19] rfl) (hD.sub [0, 1, 2, 3, 4, 5, 6, 7, 8, 9, 10, 11, 12, 13, 14, 15, 16, 17, 18, 19] (by decide) rfl) hS ls (lv_sub hl [0, 1, 2, 3, 4] rfl)
          · skip
            rw [q_beq] at c_5
            try rw [Bool.not_eq_false] at c_5
            have hze := c_5
            refine lv_iconst (pc := 93) (v := (-1)) hx hb dX10_opened_93 (by decide +kernel) ?_
            refine q_top (y := (-1)) (by first | rfl | decide +kernel | (simp; done)) ?_
            have hq_17 : (open3 (seg gke 128 (le 1)) (seg gke 160 (le 1)) (cn 1 + 1) (lv 1) (seg gch 16 16) (qL gli n8) = if false then some (qL gou 0, seg gco1_79 0 16) else none) ∧ (((-1) : Int32) = if false then nI 0 else -1) ∧ (false = true → (qU cn 1 (cn 1 + 1)) = qU cn 1 (cn 1 + 1) ∧ seg gch1_79 16 16 = seg gco1_79 0 16 ∧ 4 ≤ 0 ∧ 0 ≤ 204) ∧ (false = false → gou = gou) ∧ (∀ j, j < 16 → gch1_79 j = gch j) ∧ ((qU cn 1 (cn 1 + 1)) 0 = cn 0) := by
              have hsp : splB (qL gli n8) = true := by rw [splB_of (by omega)]; exact decide_eq_true ⟨by omega, by omega⟩
              have hcd : chain3 (seg gke 160 (le 1)) (seg gch 16 16) (qL gli n8) (midL (qL gli n8)) = seg gco1_79 0 16 := by rw [mid_seg (by omega), chain3, seg_len, List.append_assoc, hs_79, head_qL (n := n8) (by omega)]
              refine ⟨open3_x hsp hcd (by rw [end_seg (by omega), ← seg_sub]; exact of_decide_eq_false (hz_87.symm.trans hze)), rfl, fun q => (by cases q), fun _ => rfl, fun j hj => hfc_79 j (by omega), qU_ne (by decide)⟩
            exact hret (⟨(-1), (false), (rk1_79), (ce1_79), (gm1_79), (mac1_79), (k11_79), (gbl1_79), (gco1_79), (gch1_79), (gwk), (gah), (gou), (qU cn 1 (cn 1 + 1)), (mn1_79), (0), (ar1_79)⟩ : Int32 × Bool × (Nat → BitVec 8) × (Nat → BitVec 8) × (Nat → BitVec 8) × (Nat → BitVec 8) × (Nat → BitVec 8) × (Nat → BitVec 8) × (Nat → BitVec 8) × (Nat → BitVec 8) × (Nat → BitVec 8) × (Nat → BitVec 8) × (Nat → BitVec 8) × (Nat → Nat) × Nat × Nat × Nat) _ _ _ _ dX10_opened_94 hq_17 (hP.sub [17, 5, 6, 7, 8, 9, 10, 11, 12, 19, 13, 14, 15, 16, 18, 0, 1, 2, 3, 4] rfl) (hD.sub [17, 5, 6, 7, 8, 9, 10, 11, 12, 19, 13, 14, 15, 16, 18, 0, 1, 2, 3, 4] (by decide) rfl) hS
      refine lv_aload_n (pc := 24) hx hb dX10_opened_24 rfl (lv_at hl 1 rfl) ?_
      refine va_get (pc := 25) (D := D) (ci := 8) (v := .ref (a 40)) (C := RX10) (T := TX10) (N := 57) hx hb hts iu10 hown hK hP 0 rfl rfl 40 (by decide) (hts _ tw_1085) (fun _ h9 => h9) rfl dX10_opened_25 ?_
      refine lv_iconst (pc := 28) (v := nI 1) hx hb dX10_opened_28 (by decide +kernel) ?_
      refine q_iald (pc := 29) hx hb hK hP 15 0 rfl rfl (k := 1) (v := nI (lv 1)) rfl (by omega) (by omega) rfl dX10_opened_29 ?_
      refine lv_iconst (pc := 30) (v := nI 2) hx hb dX10_opened_30 (by decide +kernel) ?_
      have hlm2 : lv 1 &&& 2 ≤ 2 := Nat.and_le_right
      refine lv_iand (pc := 31) hx hb dX10_opened_31 ?_
      refine q_top (y := nI (lv 1 &&& 2)) (nI_and (by omega) (by omega)) ?_
      refine lv_if_le (pc := 32) (tgt := 43) hx hb dX10_opened_32 (by decide) (fun c_18 => ?_) (fun c_18 => ?_)
      · skip
        rw [q_le0 (by omega)] at c_18
        refine lv_iconst (pc := 43) (v := nI 0) hx hb dX10_opened_43 (by decide +kernel) ?_
        exact JN44 0 (by omega) _ _ (hP.sub [0, 1, 2, 3, 4, 5, 6, 7, 8, 9, 10, 11, 12, 13, 14, 15, 16, 17, 18, 19] rfl) (hD.sub [0, 1, 2, 3, 4, 5, 6, 7, 8, 9, 10, 11, 12, 13, 14, 15, 16, 17, 18, 19] (by decide) rfl) hS ls (lv_sub hl [0, 1, 2] rfl)
      · skip
        rw [q_le0 (by omega)] at c_18
        refine lv_iload_n (pc := 35) hx hb dX10_opened_35 rfl (lv_at hl 0 rfl) ?_
        refine lv_if_le (pc := 36) (tgt := 43) hx hb dX10_opened_36 (by decide) (fun c_19 => ?_) (fun c_19 => ?_)
        · skip
          rw [q_le0 (by omega)] at c_19
          refine lv_iconst (pc := 43) (v := nI 0) hx hb dX10_opened_43 (by decide +kernel) ?_
          exact JN44 0 (by omega) _ _ (hP.sub [0, 1, 2, 3, 4, 5, 6, 7, 8, 9, 10, 11, 12, 13, 14, 15, 16, 17, 18, 19] rfl) (hD.sub [0, 1, 2, 3, 4, 5, 6, 7, 8, 9, 10, 11, 12, 13, 14, 15, 16, 17, 18, 19] (by decide) rfl) hS ls (lv_sub hl [0, 1, 2] rfl)
        · skip
          rw [q_le0 (by omega)] at c_19
          refine lv_iconst (pc := 39) (v := nI 1) hx hb dX10_opened_39 (by decide +kernel) ?_
          refine lv_goto (pc := 40) (tgt := 44) hx hb dX10_opened_40 (by decide) ?_
          exact JN44 1 (by omega) _ _ (hP.sub [0, 1, 2, 3, 4, 5, 6, 7, 8, 9, 10, 11, 12, 13, 14, 15, 16, 17, 18, 19] rfl) (hD.sub [0, 1, 2, 3, 4, 5, 6, 7, 8, 9, 10, 11, 12, 13, 14, 15, 16, 17, 18, 19] (by decide) rfl) hS ls (lv_sub hl [0, 1, 2] rfl)
    · skip
      rw [q_eq0 (by omega)] at c_3
      have hb4 := c_3
      refine lv_iconst (pc := 17) (v := (-1)) hx hb dX10_opened_17 (by decide +kernel) ?_
      refine q_top (y := (-1)) (by first | rfl | decide +kernel | (simp; done)) ?_
      have hq_20 : (open3 (seg gke 128 (le 1)) (seg gke 160 (le 1)) (cn 1 + 1) (lv 1) (seg gch 16 16) (qL gli n8) = if false then some (qL gou 0, seg gco 0 16) else none) ∧ (((-1) : Int32) = if false then nI 0 else -1) ∧ (false = true → cn = qU cn 1 (cn 1 + 1) ∧ seg gch 16 16 = seg gco 0 16 ∧ 4 ≤ 0 ∧ 0 ≤ 204) ∧ (false = false → gou = gou) ∧ (∀ j, j < 16 → gch j = gch j) ∧ (cn 0 = cn 0) := by
        have hsp : splB (qL gli n8) = false := by first | exact splB_no (by omega) | (rw [splB_of (by omega)]; exact decide_eq_false (fun q => by omega))
        exact ⟨open3_a hsp, rfl, fun q => (by cases q), fun _ => rfl, fun _ _ => rfl, rfl⟩
      exact hret (⟨(-1), (false), (rk), (ce), (gm), (mac), (k1), (gbl), (gco), (gch), (gwk), (gah), (gou), (cn), (mn), (0), (ar)⟩ : Int32 × Bool × (Nat → BitVec 8) × (Nat → BitVec 8) × (Nat → BitVec 8) × (Nat → BitVec 8) × (Nat → BitVec 8) × (Nat → BitVec 8) × (Nat → BitVec 8) × (Nat → BitVec 8) × (Nat → BitVec 8) × (Nat → BitVec 8) × (Nat → BitVec 8) × (Nat → Nat) × Nat × Nat × Nat) _ _ _ _ dX10_opened_18 hq_20 (hP.sub [0, 1, 2, 3, 4, 5, 6, 7, 8, 9, 10, 11, 12, 13, 14, 15, 16, 17, 18, 19] rfl) (hD.sub [0, 1, 2, 3, 4, 5, 6, 7, 8, 9, 10, 11, 12, 13, 14, 15, 16, 17, 18, 19] (by decide) rfl) hS
