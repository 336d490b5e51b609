theorem hdX10_desKey : yX10_desKey.cls ≠ "java/lang/invoke/MethodHandle" ∧ yX10_desKey.cls ≠ "java/lang/invoke/VarHandle" ∧ (parseMethodDescriptor yX10_desKey.desc).map (fun d => d.parameters.length) = some 2 := ⟨by decide +kernel, by decide +kernel, by decide +kernel⟩
theorem dX10_desKey_0 : decode cX10_desKey 0 = .ok (.iconst 0, 1) := by decide +kernel
theorem dX10_desKey_1 : decode cX10_desKey 1 = .ok (.istore_n 3, 1) := by decide +kernel
theorem dX10_desKey_2 : decode cX10_desKey 2 = .ok (.iload_n 3, 1) := by decide +kernel
theorem dX10_desKey_3 : decode cX10_desKey 3 = .ok (.bipush 56, 2) := by decide +kernel
theorem dX10_desKey_5 : decode cX10_desKey 5 = .ok (.if_icmp .ge 45, 3) := by decide +kernel
theorem dX10_desKey_8 : decode cX10_desKey 8 = .ok (.aload_n 0, 1) := by decide +kernel
theorem dX10_desKey_9 : decode cX10_desKey 9 = .ok (.getfield 1, 3) := by decide +kernel
theorem dX10_desKey_12 : decode cX10_desKey 12 = .ok (.iload_n 3, 1) := by decide +kernel
theorem dX10_desKey_13 : decode cX10_desKey 13 = .ok (.iaload, 1) := by decide +kernel
theorem dX10_desKey_14 : decode cX10_desKey 14 = .ok (.iconst 1, 1) := by decide +kernel
theorem dX10_desKey_15 : decode cX10_desKey 15 = .ok (.isub, 1) := by decide +kernel
theorem dX10_desKey_16 : decode cX10_desKey 16 = .ok (.istore 4, 2) := by decide +kernel
theorem dX10_desKey_18 : decode cX10_desKey 18 = .ok (.aload_n 0, 1) := by decide +kernel
theorem dX10_desKey_19 : decode cX10_desKey 19 = .ok (.getfield 7, 3) := by decide +kernel
theorem dX10_desKey_22 : decode cX10_desKey 22 = .ok (.iload_n 3, 1) := by decide +kernel
theorem dX10_desKey_23 : decode cX10_desKey 23 = .ok (.aload_n 1, 1) := by decide +kernel
theorem dX10_desKey_24 : decode cX10_desKey 24 = .ok (.iload_n 2, 1) := by decide +kernel
theorem dX10_desKey_25 : decode cX10_desKey 25 = .ok (.iload 4, 2) := by decide +kernel
theorem dX10_desKey_27 : decode cX10_desKey 27 = .ok (.bipush 8, 2) := by decide +kernel
theorem dX10_desKey_29 : decode cX10_desKey 29 = .ok (.idiv, 1) := by decide +kernel
theorem dX10_desKey_30 : decode cX10_desKey 30 = .ok (.iadd, 1) := by decide +kernel
theorem dX10_desKey_31 : decode cX10_desKey 31 = .ok (.baload, 1) := by decide +kernel
theorem dX10_desKey_32 : decode cX10_desKey 32 = .ok (.bipush 7, 2) := by decide +kernel
theorem dX10_desKey_34 : decode cX10_desKey 34 = .ok (.iload 4, 2) := by decide +kernel
theorem dX10_desKey_36 : decode cX10_desKey 36 = .ok (.bipush 8, 2) := by decide +kernel
theorem dX10_desKey_38 : decode cX10_desKey 38 = .ok (.irem, 1) := by decide +kernel
theorem dX10_desKey_39 : decode cX10_desKey 39 = .ok (.isub, 1) := by decide +kernel
theorem dX10_desKey_40 : decode cX10_desKey 40 = .ok (.ishr, 1) := by decide +kernel
theorem dX10_desKey_41 : decode cX10_desKey 41 = .ok (.iconst 1, 1) := by decide +kernel
theorem dX10_desKey_42 : decode cX10_desKey 42 = .ok (.iand, 1) := by decide +kernel
theorem dX10_desKey_43 : decode cX10_desKey 43 = .ok (.iastore, 1) := by decide +kernel
theorem dX10_desKey_44 : decode cX10_desKey 44 = .ok (.iinc 3 1, 3) := by decide +kernel
theorem dX10_desKey_47 : decode cX10_desKey 47 = .ok (.goto (-45), 3) := by decide +kernel
theorem dX10_desKey_50 : decode cX10_desKey 50 = .ok (.iconst 0, 1) := by decide +kernel
theorem dX10_desKey_51 : decode cX10_desKey 51 = .ok (.istore_n 3, 1) := by decide +kernel
theorem dX10_desKey_52 : decode cX10_desKey 52 = .ok (.iload_n 3, 1) := by decide +kernel
theorem dX10_desKey_53 : decode cX10_desKey 53 = .ok (.bipush 16, 2) := by decide +kernel
theorem dX10_desKey_55 : decode cX10_desKey 55 = .ok (.if_icmp .ge 182, 3) := by decide +kernel
theorem dX10_desKey_58 : decode cX10_desKey 58 = .ok (.iload_n 3, 1) := by decide +kernel
theorem dX10_desKey_59 : decode cX10_desKey 59 = .ok (.ifCond .eq 20, 3) := by decide +kernel
theorem dX10_desKey_62 : decode cX10_desKey 62 = .ok (.iload_n 3, 1) := by decide +kernel
theorem dX10_desKey_63 : decode cX10_desKey 63 = .ok (.iconst 1, 1) := by decide +kernel
theorem dX10_desKey_64 : decode cX10_desKey 64 = .ok (.if_icmp .eq 15, 3) := by decide +kernel
theorem dX10_desKey_67 : decode cX10_desKey 67 = .ok (.iload_n 3, 1) := by decide +kernel
theorem dX10_desKey_68 : decode cX10_desKey 68 = .ok (.bipush 8, 2) := by decide +kernel
theorem dX10_desKey_70 : decode cX10_desKey 70 = .ok (.if_icmp .eq 9, 3) := by decide +kernel
theorem dX10_desKey_73 : decode cX10_desKey 73 = .ok (.iload_n 3, 1) := by decide +kernel
theorem dX10_desKey_74 : decode cX10_desKey 74 = .ok (.bipush 15, 2) := by decide +kernel
theorem dX10_desKey_76 : decode cX10_desKey 76 = .ok (.if_icmp .ne 7, 3) := by decide +kernel
theorem dX10_desKey_79 : decode cX10_desKey 79 = .ok (.iconst 1, 1) := by decide +kernel
theorem dX10_desKey_80 : decode cX10_desKey 80 = .ok (.goto 4, 3) := by decide +kernel
theorem dX10_desKey_83 : decode cX10_desKey 83 = .ok (.iconst 2, 1) := by decide +kernel
theorem dX10_desKey_84 : decode cX10_desKey 84 = .ok (.istore 4, 2) := by decide +kernel
theorem dX10_desKey_86 : decode cX10_desKey 86 = .ok (.iconst 0, 1) := by decide +kernel
theorem dX10_desKey_87 : decode cX10_desKey 87 = .ok (.istore 5, 2) := by decide +kernel
theorem dX10_desKey_89 : decode cX10_desKey 89 = .ok (.iload 5, 2) := by decide +kernel
theorem dX10_desKey_91 : decode cX10_desKey 91 = .ok (.iload 4, 2) := by decide +kernel
theorem dX10_desKey_93 : decode cX10_desKey 93 = .ok (.if_icmp .ge 96, 3) := by decide +kernel
theorem dX10_desKey_96 : decode cX10_desKey 96 = .ok (.aload_n 0, 1) := by decide +kernel
theorem dX10_desKey_97 : decode cX10_desKey 97 = .ok (.getfield 7, 3) := by decide +kernel
theorem dX10_desKey_100 : decode cX10_desKey 100 = .ok (.iconst 0, 1) := by decide +kernel
theorem dX10_desKey_101 : decode cX10_desKey 101 = .ok (.iaload, 1) := by decide +kernel
theorem dX10_desKey_102 : decode cX10_desKey 102 = .ok (.istore 6, 2) := by decide +kernel
theorem dX10_desKey_104 : decode cX10_desKey 104 = .ok (.aload_n 0, 1) := by decide +kernel
theorem dX10_desKey_105 : decode cX10_desKey 105 = .ok (.getfield 7, 3) := by decide +kernel
theorem dX10_desKey_108 : decode cX10_desKey 108 = .ok (.bipush 28, 2) := by decide +kernel
theorem dX10_desKey_110 : decode cX10_desKey 110 = .ok (.iaload, 1) := by decide +kernel
theorem dX10_desKey_111 : decode cX10_desKey 111 = .ok (.istore 7, 2) := by decide +kernel
theorem dX10_desKey_113 : decode cX10_desKey 113 = .ok (.iconst 0, 1) := by decide +kernel
theorem dX10_desKey_114 : decode cX10_desKey 114 = .ok (.istore 8, 2) := by decide +kernel
theorem dX10_desKey_116 : decode cX10_desKey 116 = .ok (.iload 8, 2) := by decide +kernel
theorem dX10_desKey_118 : decode cX10_desKey 118 = .ok (.bipush 27, 2) := by decide +kernel
theorem dX10_desKey_120 : decode cX10_desKey 120 = .ok (.if_icmp .ge 45, 3) := by decide +kernel
theorem dX10_desKey_123 : decode cX10_desKey 123 = .ok (.aload_n 0, 1) := by decide +kernel
theorem dX10_desKey_124 : decode cX10_desKey 124 = .ok (.getfield 7, 3) := by decide +kernel
theorem dX10_desKey_127 : decode cX10_desKey 127 = .ok (.iload 8, 2) := by decide +kernel
theorem dX10_desKey_129 : decode cX10_desKey 129 = .ok (.aload_n 0, 1) := by decide +kernel
theorem dX10_desKey_130 : decode cX10_desKey 130 = .ok (.getfield 7, 3) := by decide +kernel
theorem dX10_desKey_133 : decode cX10_desKey 133 = .ok (.iload 8, 2) := by decide +kernel
theorem dX10_desKey_135 : decode cX10_desKey 135 = .ok (.iconst 1, 1) := by decide +kernel
theorem dX10_desKey_136 : decode cX10_desKey 136 = .ok (.iadd, 1) := by decide +kernel
theorem dX10_desKey_137 : decode cX10_desKey 137 = .ok (.iaload, 1) := by decide +kernel
theorem dX10_desKey_138 : decode cX10_desKey 138 = .ok (.iastore, 1) := by decide +kernel
theorem dX10_desKey_139 : decode cX10_desKey 139 = .ok (.aload_n 0, 1) := by decide +kernel
theorem dX10_desKey_140 : decode cX10_desKey 140 = .ok (.getfield 7, 3) := by decide +kernel
theorem dX10_desKey_143 : decode cX10_desKey 143 = .ok (.bipush 28, 2) := by decide +kernel
theorem dX10_desKey_145 : decode cX10_desKey 145 = .ok (.iload 8, 2) := by decide +kernel
theorem dX10_desKey_147 : decode cX10_desKey 147 = .ok (.iadd, 1) := by decide +kernel
theorem dX10_desKey_148 : decode cX10_desKey 148 = .ok (.aload_n 0, 1) := by decide +kernel
theorem dX10_desKey_149 : decode cX10_desKey 149 = .ok (.getfield 7, 3) := by decide +kernel
theorem dX10_desKey_152 : decode cX10_desKey 152 = .ok (.bipush 29, 2) := by decide +kernel
theorem dX10_desKey_154 : decode cX10_desKey 154 = .ok (.iload 8, 2) := by decide +kernel
theorem dX10_desKey_156 : decode cX10_desKey 156 = .ok (.iadd, 1) := by decide +kernel
theorem dX10_desKey_157 : decode cX10_desKey 157 = .ok (.iaload, 1) := by decide +kernel
theorem dX10_desKey_158 : decode cX10_desKey 158 = .ok (.iastore, 1) := by decide +kernel
theorem dX10_desKey_159 : decode cX10_desKey 159 = .ok (.iinc 8 1, 3) := by decide +kernel
theorem dX10_desKey_162 : decode cX10_desKey 162 = .ok (.goto (-46), 3) := by decide +kernel
theorem dX10_desKey_165 : decode cX10_desKey 165 = .ok (.aload_n 0, 1) := by decide +kernel
theorem dX10_desKey_166 : decode cX10_desKey 166 = .ok (.getfield 7, 3) := by decide +kernel
theorem dX10_desKey_169 : decode cX10_desKey 169 = .ok (.bipush 27, 2) := by decide +kernel
theorem dX10_desKey_171 : decode cX10_desKey 171 = .ok (.iload 6, 2) := by decide +kernel
theorem dX10_desKey_173 : decode cX10_desKey 173 = .ok (.iastore, 1) := by decide +kernel
theorem dX10_desKey_174 : decode cX10_desKey 174 = .ok (.aload_n 0, 1) := by decide +kernel
theorem dX10_desKey_175 : decode cX10_desKey 175 = .ok (.getfield 7, 3) := by decide +kernel
theorem dX10_desKey_178 : decode cX10_desKey 178 = .ok (.bipush 55, 2) := by decide +kernel
theorem dX10_desKey_180 : decode cX10_desKey 180 = .ok (.iload 7, 2) := by decide +kernel
theorem dX10_desKey_182 : decode cX10_desKey 182 = .ok (.iastore, 1) := by decide +kernel
theorem dX10_desKey_183 : decode cX10_desKey 183 = .ok (.iinc 5 1, 3) := by decide +kernel
theorem dX10_desKey_186 : decode cX10_desKey 186 = .ok (.goto (-97), 3) := by decide +kernel
theorem dX10_desKey_189 : decode cX10_desKey 189 = .ok (.iconst 0, 1) := by decide +kernel
theorem dX10_desKey_190 : decode cX10_desKey 190 = .ok (.istore 5, 2) := by decide +kernel
theorem dX10_desKey_192 : decode cX10_desKey 192 = .ok (.iload 5, 2) := by decide +kernel
theorem dX10_desKey_194 : decode cX10_desKey 194 = .ok (.bipush 48, 2) := by decide +kernel
theorem dX10_desKey_196 : decode cX10_desKey 196 = .ok (.if_icmp .ge 35, 3) := by decide +kernel
theorem dX10_desKey_199 : decode cX10_desKey 199 = .ok (.aload_n 0, 1) := by decide +kernel
theorem dX10_desKey_200 : decode cX10_desKey 200 = .ok (.getfield 10, 3) := by decide +kernel
theorem dX10_desKey_203 : decode cX10_desKey 203 = .ok (.bipush 48, 2) := by decide +kernel
theorem dX10_desKey_205 : decode cX10_desKey 205 = .ok (.iload_n 3, 1) := by decide +kernel
theorem dX10_desKey_206 : decode cX10_desKey 206 = .ok (.imul, 1) := by decide +kernel
theorem dX10_desKey_207 : decode cX10_desKey 207 = .ok (.iload 5, 2) := by decide +kernel
theorem dX10_desKey_209 : decode cX10_desKey 209 = .ok (.iadd, 1) := by decide +kernel
theorem dX10_desKey_210 : decode cX10_desKey 210 = .ok (.aload_n 0, 1) := by decide +kernel
theorem dX10_desKey_211 : decode cX10_desKey 211 = .ok (.getfield 7, 3) := by decide +kernel
theorem dX10_desKey_214 : decode cX10_desKey 214 = .ok (.aload_n 0, 1) := by decide +kernel
theorem dX10_desKey_215 : decode cX10_desKey 215 = .ok (.getfield 13, 3) := by decide +kernel
theorem dX10_desKey_218 : decode cX10_desKey 218 = .ok (.iload 5, 2) := by decide +kernel
theorem dX10_desKey_220 : decode cX10_desKey 220 = .ok (.iaload, 1) := by decide +kernel
theorem dX10_desKey_221 : decode cX10_desKey 221 = .ok (.iconst 1, 1) := by decide +kernel
theorem dX10_desKey_222 : decode cX10_desKey 222 = .ok (.isub, 1) := by decide +kernel
theorem dX10_desKey_223 : decode cX10_desKey 223 = .ok (.iaload, 1) := by decide +kernel
theorem dX10_desKey_224 : decode cX10_desKey 224 = .ok (.iastore, 1) := by decide +kernel
theorem dX10_desKey_225 : decode cX10_desKey 225 = .ok (.iinc 5 1, 3) := by decide +kernel
theorem dX10_desKey_228 : decode cX10_desKey 228 = .ok (.goto (-36), 3) := by decide +kernel
theorem dX10_desKey_231 : decode cX10_desKey 231 = .ok (.iinc 3 1, 3) := by decide +kernel
theorem dX10_desKey_234 : decode cX10_desKey 234 = .ok (.goto (-182), 3) := by decide +kernel
theorem dX10_desKey_237 : decode cX10_desKey 237 = .ok (.return_, 1) := by decide +kernel
set_option maxHeartbeats 4000000 in
set_option maxRecDepth 100000 in
theorem ct_X10_desKey (ll : Launch) (D : va_G) (ta : Nat → ClassId) {G : (Nat → Prop) → State → Heap → Prop} (hGok : GOK G) (h0 : Nat) (a : Nat → Nat) (ar : Nat) (mn : Nat) (tp : Nat) (osz : Nat) (lsz : Nat) (ns : Nat) (ct : Nat) (hk : Nat) (fr : Nat) (capk : Nat) (gk : Nat → BitVec 8) (cd : Nat → Bool) (sk : Nat → Bool) (hf : fr + 8 ≤ capk) (hck : capk < 2147483648) (sz : Nat) : CT ll yX10_desKey cX10_desKey 9 none ({ frames := 0, cells := 0, slots := 0, locals := 0 } : Room) D ta G [.ref h0, .ref hk, .int (nI fr)] [(h0, oM a ar mn tp osz lsz ns ct), (a 3, aK ta 56 tCH), (a 4, aK ta 48 tSEC), (a 12, aB ta 56 cd), (a 13, aB ta 768 sk), (hk, aS ta capk gk)] sz (S := (Nat → Bool) × (Nat → Bool)) (fun _ => none) (fun u => (∀ j, j < 768 → u.2 j = dSub (dBit gk fr) (j / 48) (j % 48))) (fun u => [(h0, oM a ar mn tp osz lsz ns ct), (a 3, aK ta 56 tCH), (a 4, aK ta 48 tSEC), (a 12, aB ta 56 u.1), (a 13, aB ta 768 u.2), (hk, aS ta capk gk)]) 0 0 := by
  refine CT.of_v rfl (by decide) (Nat.le_of_ble_eq_true rfl) ?_
  intro pp ee ss mm below meth kc A Q hx hb hml hown hin hts hK hA hsz hG hret H locs hP hD hS ls hl
  have hl : lv_has ls 9 [(0, .ref h0), (1, .ref hk), (2, .int (nI fr))] := hl
  refine lv_iconst (pc := 0) (v := nI 0) hx hb dX10_desKey_0 (by decide +kernel) ?_
  refine lv_istore_n (pc := 1) (lv' := [(3, .int (nI 0)), (0, .ref h0), (1, .ref hk), (2, .int (nI fr))]) hx hb dX10_desKey_1 rfl hl (by decide) rfl (fun ls hl => ?_)
  have LP2 : ∀ (nn2 : Nat) (k : Nat) (c' : Nat → Bool), (k ≤ 56) → (qSeg c' cd 0 k (dCD (dBit gk fr) 0)) → (56 - k < nn2) → ∀ (H : Heap) (locs : List Loc), va_P D vwCl [(h0, oM a ar mn tp osz lsz ns ct), (a 3, aK ta 56 tCH), (a 4, aK ta 48 tSEC), (a 12, aB ta 56 c'), (a 13, aB ta 768 sk), (hk, aS ta capk gk)] H → va_D A [(h0, oM a ar mn tp osz lsz ns ct), (a 3, aK ta 56 tCH), (a 4, aK ta 48 tSEC), (a 12, aB ta 56 c'), (a 13, aB ta 768 sk), (hk, aS ta capk gk)] → va_S A ss.heap H locs → ∀ ls : Array Slot, lv_has ls 9 [(3, .int (nI k)), (0, .ref h0), (1, .ref hk), (2, .int (nI fr))] → W pp ll ee ({ frames := 0, cells := 0, slots := 0, locals := 0 } : Room) ss mm (([.ref h0, .ref hk, .int (nI fr)] : List Value).toArray) below meth kc H locs 0 0 Q (F0 mm 2 ls []) := by
    intro nn2
    induction nn2 with
    | zero => intro k c' hkk hs hmu; exact absurd hmu (Nat.not_lt_zero _)
    | succ nn2 ih2 =>
      intro k c' hkk hs hmu2 H locs hP hD hS ls hl
      refine lv_iload_n (pc := 2) hx hb dX10_desKey_2 rfl (lv_at hl 0 rfl) ?_
      refine lv_bipush (pc := 3) (v := nI 56) hx hb dX10_desKey_3 (by decide +kernel) ?_
      refine lv_icmp_ge (pc := 5) (tgt := 50) hx hb dX10_desKey_5 (by decide) (fun c_1 => ?_) (fun c_1 => ?_)
      · skip
        rw [nI_leI (by omega) (by omega)] at c_1
        refine lv_iconst (pc := 50) (v := nI 0) hx hb dX10_desKey_50 (by decide +kernel) ?_
        refine lv_istore_n (pc := 51) (lv' := [(3, .int (nI 0)), (0, .ref h0), (1, .ref hk), (2, .int (nI fr))]) hx hb dX10_desKey_51 rfl hl (by decide) rfl (fun ls hl => ?_)
        have LP52 : ∀ (nn52 : Nat) (r : Nat) (c2 : Nat → Bool) (s' : Nat → Bool), (r ≤ 16) → (∀ j, j < 56 → c2 j = dCD (dBit gk fr) r j) → (∀ j, j < 48 * r → s' j = dSub (dBit gk fr) (j / 48) (j % 48)) → (16 - r < nn52) → ∀ (H : Heap) (locs : List Loc), va_P D vwCl [(h0, oM a ar mn tp osz lsz ns ct), (a 3, aK ta 56 tCH), (a 4, aK ta 48 tSEC), (a 12, aB ta 56 c2), (a 13, aB ta 768 s'), (hk, aS ta capk gk)] H → va_D A [(h0, oM a ar mn tp osz lsz ns ct), (a 3, aK ta 56 tCH), (a 4, aK ta 48 tSEC), (a 12, aB ta 56 c2), (a 13, aB ta 768 s'), (hk, aS ta capk gk)] → va_S A ss.heap H locs → ∀ ls : Array Slot, lv_has ls 9 [(3, .int (nI r)), (0, .ref h0), (1, .ref hk), (2, .int (nI fr))] → W pp ll ee ({ frames := 0, cells := 0, slots := 0, locals := 0 } : Room) ss mm (([.ref h0, .ref hk, .int (nI fr)] : List Value).toArray) below meth kc H locs 0 0 Q (F0 mm 52 ls []) := by
          intro nn52
          induction nn52 with
          | zero => intro r c2 s' hrr hc hsk hmu; exact absurd hmu (Nat.not_lt_zero _)
          | succ nn52 ih52 =>
            intro r c2 s' hrr hc hsk hmu52 H locs hP hD hS ls hl
            refine lv_iload_n (pc := 52) hx hb dX10_desKey_52 rfl (lv_at hl 0 rfl) ?_
            refine lv_bipush (pc := 53) (v := nI 16) hx hb dX10_desKey_53 (by decide +kernel) ?_
            refine lv_icmp_ge (pc := 55) (tgt := 237) hx hb dX10_desKey_55 (by decide) (fun c_2 => ?_) (fun c_2 => ?_)
            · skip
              rw [nI_leI (by omega) (by omega)] at c_2
              have hq_3 : (∀ j, j < 768 → s' j = dSub (dBit gk fr) (j / 48) (j % 48)) := by
                intro j hj; exact hsk j (by omega)
              exact hret (⟨(c2), (s')⟩ : (Nat → Bool) × (Nat → Bool)) _ _ _ _ dX10_desKey_237 hq_3 (hP.sub [0, 1, 2, 3, 4, 5] rfl) (hD.sub [0, 1, 2, 3, 4, 5] (by decide) rfl) hS
            · skip
              rw [nI_leI (by omega) (by omega)] at c_2
              have JN84 : ∀ (tm : Nat), (tm = tSHF r) → ∀ (H : Heap) (locs : List Loc), va_P D vwCl [(h0, oM a ar mn tp osz lsz ns ct), (a 3, aK ta 56 tCH), (a 4, aK ta 48 tSEC), (a 12, aB ta 56 c2), (a 13, aB ta 768 s'), (hk, aS ta capk gk)] H → va_D A [(h0, oM a ar mn tp osz lsz ns ct), (a 3, aK ta 56 tCH), (a 4, aK ta 48 tSEC), (a 12, aB ta 56 c2), (a 13, aB ta 768 s'), (hk, aS ta capk gk)] → va_S A ss.heap H locs → ∀ ls : Array Slot, lv_has ls 9 [(3, .int (nI r)), (0, .ref h0), (1, .ref hk), (2, .int (nI fr))] → W pp ll ee ({ frames := 0, cells := 0, slots := 0, locals := 0 } : Room) ss mm (([.ref h0, .ref hk, .int (nI fr)] : List Value).toArray) below meth kc H locs 0 0 Q (F0 mm 84 ls [.int (nI tm)]) := by
                intro tm htm H locs hP hD hS ls hl
                refine lv_istore (pc := 84) (lv' := [(4, .int (nI tm)), (3, .int (nI r)), (0, .ref h0), (1, .ref hk), (2, .int (nI fr))]) hx hb dX10_desKey_84 hl (by decide) rfl (fun ls hl => ?_)
                have hsf := tSHF_b (k := r) (by omega)
                refine lv_iconst (pc := 86) (v := nI 0) hx hb dX10_desKey_86 (by decide +kernel) ?_
                refine lv_istore (pc := 87) (lv' := [(5, .int (nI 0)), (4, .int (nI tm)), (3, .int (nI r)), (0, .ref h0), (1, .ref hk), (2, .int (nI fr))]) hx hb dX10_desKey_87 hl (by decide) rfl (fun ls hl => ?_)
                have LP89 : ∀ (nn89 : Nat) (t : Nat) (c3 : Nat → Bool), (t ≤ tSHF r) → (∀ j, j < 56 → c3 j = dRN (dCD (dBit gk fr) r) t j) → (tSHF r - t < nn89) → ∀ (H : Heap) (locs : List Loc), va_P D vwCl [(h0, oM a ar mn tp osz lsz ns ct), (a 3, aK ta 56 tCH), (a 4, aK ta 48 tSEC), (a 12, aB ta 56 c3), (a 13, aB ta 768 s'), (hk, aS ta capk gk)] H → va_D A [(h0, oM a ar mn tp osz lsz ns ct), (a 3, aK ta 56 tCH), (a 4, aK ta 48 tSEC), (a 12, aB ta 56 c3), (a 13, aB ta 768 s'), (hk, aS ta capk gk)] → va_S A ss.heap H locs → ∀ ls : Array Slot, lv_has ls 9 [(5, .int (nI t)), (4, .int (nI tm)), (3, .int (nI r)), (0, .ref h0), (1, .ref hk), (2, .int (nI fr))] → W pp ll ee ({ frames := 0, cells := 0, slots := 0, locals := 0 } : Room) ss mm (([.ref h0, .ref hk, .int (nI fr)] : List Value).toArray) below meth kc H locs 0 0 Q (F0 mm 89 ls []) := by
                  intro nn89
                  induction nn89 with
                  | zero => intro t c3 htt hc3 hmu; exact absurd hmu (Nat.not_lt_zero _)
                  | succ nn89 ih89 =>
                    intro t c3 htt hc3 hmu89 H locs hP hD hS ls hl
                    refine lv_iload (pc := 89) hx hb dX10_desKey_89 (lv_at hl 0 rfl) ?_
                    refine lv_iload (pc := 91) hx hb dX10_desKey_91 (lv_at hl 1 rfl) ?_
                    refine lv_icmp_ge (pc := 93) (tgt := 189) hx hb dX10_desKey_93 (by decide) (fun c_4 => ?_) (fun c_4 => ?_)
                    · skip
                      rw [nI_leI (by omega) (by omega)] at c_4
                      have en_5 : tSHF r = t := by omega
                      subst en_5
                      refine lv_iconst (pc := 189) (v := nI 0) hx hb dX10_desKey_189 (by decide +kernel) ?_
                      refine lv_istore (pc := 190) (lv' := [(5, .int (nI 0)), (4, .int (nI tm)), (3, .int (nI r)), (0, .ref h0), (1, .ref hk), (2, .int (nI fr))]) hx hb dX10_desKey_190 hl (by decide) rfl (fun ls hl => ?_)
                      have LP192 : ∀ (nn192 : Nat) (d : Nat) (s3 : Nat → Bool), (d ≤ 48) → (∀ j, j < 48 * r + d → s3 j = dSub (dBit gk fr) (j / 48) (j % 48)) → (48 - d < nn192) → ∀ (H : Heap) (locs : List Loc), va_P D vwCl [(h0, oM a ar mn tp osz lsz ns ct), (a 3, aK ta 56 tCH), (a 4, aK ta 48 tSEC), (a 12, aB ta 56 c3), (a 13, aB ta 768 s3), (hk, aS ta capk gk)] H → va_D A [(h0, oM a ar mn tp osz lsz ns ct), (a 3, aK ta 56 tCH), (a 4, aK ta 48 tSEC), (a 12, aB ta 56 c3), (a 13, aB ta 768 s3), (hk, aS ta capk gk)] → va_S A ss.heap H locs → ∀ ls : Array Slot, lv_has ls 9 [(5, .int (nI d)), (4, .int (nI tm)), (3, .int (nI r)), (0, .ref h0), (1, .ref hk), (2, .int (nI fr))] → W pp ll ee ({ frames := 0, cells := 0, slots := 0, locals := 0 } : Room) ss mm (([.ref h0, .ref hk, .int (nI fr)] : List Value).toArray) below meth kc H locs 0 0 Q (F0 mm 192 ls []) := by
                        intro nn192
                        induction nn192 with
                        | zero => intro d s3 hdd hs3 hmu; exact absurd hmu (Nat.not_lt_zero _)
                        | succ nn192 ih192 =>
                          intro d s3 hdd hs3 hmu192 H locs hP hD hS ls hl
                          refine lv_iload (pc := 192) hx hb dX10_desKey_192 (lv_at hl 0 rfl) ?_
                          refine lv_bipush (pc := 194) (v := nI 48) hx hb dX10_desKey_194 (by decide +kernel) ?_
                          refine lv_icmp_ge (pc := 196) (tgt := 231) hx hb dX10_desKey_196 (by decide) (fun c_6 => ?_) (fun c_6 => ?_)
                          · skip
                            rw [nI_leI (by omega) (by omega)] at c_6
                            refine lv_iinc (pc := 231) (v := nI (r + 1)) (lv' := [(3, .int (nI (r + 1))), (5, .int (nI d)), (4, .int (nI tm)), (0, .ref h0), (1, .ref hk), (2, .int (nI fr))]) hx hb dX10_desKey_231 hl (k := 2) rfl (by first | exact nI_add r 1 | rfl) (by decide) rfl (fun ls hl => ?_)
                            refine lv_goto (pc := 234) (tgt := 52) hx hb dX10_desKey_234 (by decide) ?_
                            exact ih52 (r + 1) c3 s3 (by omega) (hc3) (by intro j hj; exact hs3 j (by omega)) (by omega) _ _ (hP.sub [0, 1, 2, 3, 4, 5] rfl) (hD.sub [0, 1, 2, 3, 4, 5] (by decide) rfl) hS ls (lv_sub hl [0, 3, 4, 5] rfl)
                          · skip
                            rw [nI_leI (by omega) (by omega)] at c_6
                            refine lv_aload_n (pc := 199) hx hb dX10_desKey_199 rfl (lv_at hl 3 rfl) ?_
                            refine va_get (pc := 200) (D := D) (ci := 8) (v := .ref (a 13)) (C := RX10) (T := TX10) (N := 57) hx hb hts iu10 hown hK hP 0 rfl rfl 13 (by decide) (hts _ tw_1058) (fun _ h9 => h9) rfl dX10_desKey_200 ?_
                            refine lv_bipush (pc := 203) (v := nI 48) hx hb dX10_desKey_203 (by decide +kernel) ?_
                            refine lv_iload_n (pc := 205) hx hb dX10_desKey_205 rfl (lv_at hl 2 rfl) ?_
                            refine lv_imul (pc := 206) hx hb dX10_desKey_206 ?_
                            refine q_top (y := nI (48 * r)) (pk_mul 48 r) ?_
                            refine lv_iload (pc := 207) hx hb dX10_desKey_207 (lv_at hl 0 rfl) ?_
                            refine lv_iadd (pc := 209) hx hb dX10_desKey_209 ?_
                            refine q_top (y := nI (48 * r + d)) (nI_add (48 * r) d) ?_
                            refine lv_aload_n (pc := 210) hx hb dX10_desKey_210 rfl (lv_at hl 3 rfl) ?_
                            refine va_get (pc := 211) (D := D) (ci := 8) (v := .ref (a 12)) (C := RX10) (T := TX10) (N := 57) hx hb hts iu10 hown hK hP 0 rfl rfl 12 (by decide) (hts _ tw_1057) (fun _ h9 => h9) rfl dX10_desKey_211 ?_
                            refine lv_aload_n (pc := 214) hx hb dX10_desKey_214 rfl (lv_at hl 3 rfl) ?_
                            refine va_get (pc := 215) (D := D) (ci := 8) (v := .ref (a 4)) (C := RX10) (T := TX10) (N := 57) hx hb hts iu10 hown hK hP 0 rfl rfl 4 (by decide) (hts _ tw_1049) (fun _ h9 => h9) rfl dX10_desKey_215 ?_
                            refine lv_iload (pc := 218) hx hb dX10_desKey_218 (lv_at hl 0 rfl) ?_
                            refine q_iald (pc := 220) hx hb hK hP 2 0 rfl rfl (k := d) (v := nI (tSEC d)) rfl (by omega) (by omega) rfl dX10_desKey_220 ?_
                            have hbd := tSEC_b (k := d) (by omega)
                            refine lv_iconst (pc := 221) (v := nI 1) hx hb dX10_desKey_221 (by decide +kernel) ?_
                            refine lv_isub (pc := 222) hx hb dX10_desKey_222 ?_
                            refine q_top (y := nI (tSEC d - 1)) (pk_sub (a := tSEC d) (b := 1) (by omega)) ?_
                            refine q_iald (pc := 223) hx hb hK hP 3 0 rfl rfl (k := tSEC d - 1) (v := qb (c3 (tSEC d - 1))) rfl (by omega) (by omega) rfl dX10_desKey_223 ?_
                            refine q_iastB (pc := 224) hx hb hK hP hD hS 4 0 rfl rfl (k := 48 * r + d) rfl (by omega) (by omega) (b := c3 (tSEC d - 1)) rfl dX10_desKey_224 (fun H locs hP hD hS => ?_)
                            have hP : va_P D vwCl [(h0, oM a ar mn tp osz lsz ns ct), (a 3, aK ta 56 tCH), (a 4, aK ta 48 tSEC), (a 12, aB ta 56 c3), (a 13, aB ta 768 (qU s3 (48 * r + d) (c3 (tSEC d - 1)))), (hk, aS ta capk gk)] H := hP
                            have hD : va_D A [(h0, oM a ar mn tp osz lsz ns ct), (a 3, aK ta 56 tCH), (a 4, aK ta 48 tSEC), (a 12, aB ta 56 c3), (a 13, aB ta 768 (qU s3 (48 * r + d) (c3 (tSEC d - 1)))), (hk, aS ta capk gk)] := hD
                            refine lv_iinc (pc := 225) (v := nI (d + 1)) (lv' := [(5, .int (nI (d + 1))), (4, .int (nI tm)), (3, .int (nI r)), (0, .ref h0), (1, .ref hk), (2, .int (nI fr))]) hx hb dX10_desKey_225 hl (k := 0) rfl (by first | exact nI_add d 1 | rfl) (by decide) rfl (fun ls hl => ?_)
                            refine lv_goto (pc := 228) (tgt := 192) hx hb dX10_desKey_228 (by decide) ?_
                            exact ih192 (d + 1) (qU s3 (48 * r + d) (c3 (tSEC d - 1))) (by omega) (by
                                  intro j hj
                                  rcases Nat.lt_or_ge j (48 * r + d) with q | q
                                  · rw [qU_ne (by omega)]
                                    exact hs3 j q
                                  · obtain rfl : j = 48 * r + d := by omega
                                    rw [qU_same, hc3 _ (by omega)]
                                    simp only [dSub, show (48 * r + d) / 48 = r by omega, show (48 * r + d) % 48 = d by omega]
                                    rfl) (by omega) _ _ (hP.sub [0, 1, 2, 3, 4, 5] rfl) (hD.sub [0, 1, 2, 3, 4, 5] (by decide) rfl) hS ls (lv_sub hl [0, 1, 2, 3, 4, 5] rfl)
                      exact LP192 _ 0 s' (by omega) (hsk) (Nat.lt_succ_self _) _ _ (hP.sub [0, 1, 2, 3, 4, 5] rfl) (hD.sub [0, 1, 2, 3, 4, 5] (by decide) rfl) hS ls (lv_sub hl [0, 1, 2, 3, 4, 5] rfl)
                    · skip
                      rw [nI_leI (by omega) (by omega)] at c_4
                      refine lv_aload_n (pc := 96) hx hb dX10_desKey_96 rfl (lv_at hl 3 rfl) ?_
                      refine va_get (pc := 97) (D := D) (ci := 8) (v := .ref (a 12)) (C := RX10) (T := TX10) (N := 57) hx hb hts iu10 hown hK hP 0 rfl rfl 12 (by decide) (hts _ tw_1057) (fun _ h9 => h9) rfl dX10_desKey_97 ?_
                      refine lv_iconst (pc := 100) (v := nI 0) hx hb dX10_desKey_100 (by decide +kernel) ?_
                      refine q_iald (pc := 101) hx hb hK hP 3 0 rfl rfl (k := 0) (v := qb (c3 0)) rfl (by omega) (by omega) rfl dX10_desKey_101 ?_
                      refine lv_istore (pc := 102) (lv' := [(6, .int (qb (c3 0))), (5, .int (nI t)), (4, .int (nI tm)), (3, .int (nI r)), (0, .ref h0), (1, .ref hk), (2, .int (nI fr))]) hx hb dX10_desKey_102 hl (by decide) rfl (fun ls hl => ?_)
                      refine lv_aload_n (pc := 104) hx hb dX10_desKey_104 rfl (lv_at hl 4 rfl) ?_
                      refine va_get (pc := 105) (D := D) (ci := 8) (v := .ref (a 12)) (C := RX10) (T := TX10) (N := 57) hx hb hts iu10 hown hK hP 0 rfl rfl 12 (by decide) (hts _ tw_1057) (fun _ h9 => h9) rfl dX10_desKey_105 ?_
                      refine lv_bipush (pc := 108) (v := nI 28) hx hb dX10_desKey_108 (by decide +kernel) ?_
                      refine q_iald (pc := 110) hx hb hK hP 3 0 rfl rfl (k := 28) (v := qb (c3 28)) rfl (by omega) (by omega) rfl dX10_desKey_110 ?_
                      refine lv_istore (pc := 111) (lv' := [(7, .int (qb (c3 28))), (6, .int (qb (c3 0))), (5, .int (nI t)), (4, .int (nI tm)), (3, .int (nI r)), (0, .ref h0), (1, .ref hk), (2, .int (nI fr))]) hx hb dX10_desKey_111 hl (by decide) rfl (fun ls hl => ?_)
                      refine lv_iconst (pc := 113) (v := nI 0) hx hb dX10_desKey_113 (by decide +kernel) ?_
                      refine lv_istore (pc := 114) (lv' := [(8, .int (nI 0)), (7, .int (qb (c3 28))), (6, .int (qb (c3 0))), (5, .int (nI t)), (4, .int (nI tm)), (3, .int (nI r)), (0, .ref h0), (1, .ref hk), (2, .int (nI fr))]) hx hb dX10_desKey_114 hl (by decide) rfl (fun ls hl => ?_)
                      have LP116 : ∀ (nn116 : Nat) (k2 : Nat) (c4 : Nat → Bool), (k2 ≤ 27) → (∀ j, j < 56 → c4 j = if j < k2 ∨ (28 ≤ j ∧ j < 28 + k2) then c3 (j + 1) else c3 j) → (27 - k2 < nn116) → ∀ (H : Heap) (locs : List Loc), va_P D vwCl [(h0, oM a ar mn tp osz lsz ns ct), (a 3, aK ta 56 tCH), (a 4, aK ta 48 tSEC), (a 12, aB ta 56 c4), (a 13, aB ta 768 s'), (hk, aS ta capk gk)] H → va_D A [(h0, oM a ar mn tp osz lsz ns ct), (a 3, aK ta 56 tCH), (a 4, aK ta 48 tSEC), (a 12, aB ta 56 c4), (a 13, aB ta 768 s'), (hk, aS ta capk gk)] → va_S A ss.heap H locs → ∀ ls : Array Slot, lv_has ls 9 [(8, .int (nI k2)), (7, .int (qb (c3 28))), (6, .int (qb (c3 0))), (5, .int (nI t)), (4, .int (nI tm)), (3, .int (nI r)), (0, .ref h0), (1, .ref hk), (2, .int (nI fr))] → W pp ll ee ({ frames := 0, cells := 0, slots := 0, locals := 0 } : Room) ss mm (([.ref h0, .ref hk, .int (nI fr)] : List Value).toArray) below meth kc H locs 0 0 Q (F0 mm 116 ls []) := by
                        intro nn116
                        induction nn116 with
                        | zero => intro k2 c4 hk2 h4 hmu; exact absurd hmu (Nat.not_lt_zero _)
                        | succ nn116 ih116 =>
                          intro k2 c4 hk2 h4 hmu116 H locs hP hD hS ls hl
                          refine lv_iload (pc := 116) hx hb dX10_desKey_116 (lv_at hl 0 rfl) ?_
                          refine lv_bipush (pc := 118) (v := nI 27) hx hb dX10_desKey_118 (by decide +kernel) ?_
                          refine lv_icmp_ge (pc := 120) (tgt := 165) hx hb dX10_desKey_120 (by decide) (fun c_7 => ?_) (fun c_7 => ?_)
                          · skip
                            rw [nI_leI (by omega) (by omega)] at c_7
                            have en_8 : 27 = k2 := by omega
                            subst en_8
                            refine lv_aload_n (pc := 165) hx hb dX10_desKey_165 rfl (lv_at hl 6 rfl) ?_
                            refine va_get (pc := 166) (D := D) (ci := 8) (v := .ref (a 12)) (C := RX10) (T := TX10) (N := 57) hx hb hts iu10 hown hK hP 0 rfl rfl 12 (by decide) (hts _ tw_1057) (fun _ h9 => h9) rfl dX10_desKey_166 ?_
                            refine lv_bipush (pc := 169) (v := nI 27) hx hb dX10_desKey_169 (by decide +kernel) ?_
                            refine lv_iload (pc := 171) hx hb dX10_desKey_171 (lv_at hl 2 rfl) ?_
                            refine q_iastB (pc := 173) hx hb hK hP hD hS 3 0 rfl rfl (k := 27) rfl (by omega) (by omega) (b := c3 0) rfl dX10_desKey_173 (fun H locs hP hD hS => ?_)
                            have hP : va_P D vwCl [(h0, oM a ar mn tp osz lsz ns ct), (a 3, aK ta 56 tCH), (a 4, aK ta 48 tSEC), (a 12, aB ta 56 (qU c4 27 (c3 0))), (a 13, aB ta 768 s'), (hk, aS ta capk gk)] H := hP
                            have hD : va_D A [(h0, oM a ar mn tp osz lsz ns ct), (a 3, aK ta 56 tCH), (a 4, aK ta 48 tSEC), (a 12, aB ta 56 (qU c4 27 (c3 0))), (a 13, aB ta 768 s'), (hk, aS ta capk gk)] := hD
                            refine lv_aload_n (pc := 174) hx hb dX10_desKey_174 rfl (lv_at hl 6 rfl) ?_
                            refine va_get (pc := 175) (D := D) (ci := 8) (v := .ref (a 12)) (C := RX10) (T := TX10) (N := 57) hx hb hts iu10 hown hK hP 0 rfl rfl 12 (by decide) (hts _ tw_1057) (fun _ h9 => h9) rfl dX10_desKey_175 ?_
                            refine lv_bipush (pc := 178) (v := nI 55) hx hb dX10_desKey_178 (by decide +kernel) ?_
                            refine lv_iload (pc := 180) hx hb dX10_desKey_180 (lv_at hl 1 rfl) ?_
                            refine q_iastB (pc := 182) hx hb hK hP hD hS 3 0 rfl rfl (k := 55) rfl (by omega) (by omega) (b := c3 28) rfl dX10_desKey_182 (fun H locs hP hD hS => ?_)
                            have hP : va_P D vwCl [(h0, oM a ar mn tp osz lsz ns ct), (a 3, aK ta 56 tCH), (a 4, aK ta 48 tSEC), (a 12, aB ta 56 (qU (qU c4 27 (c3 0)) 55 (c3 28))), (a 13, aB ta 768 s'), (hk, aS ta capk gk)] H := hP
                            have hD : va_D A [(h0, oM a ar mn tp osz lsz ns ct), (a 3, aK ta 56 tCH), (a 4, aK ta 48 tSEC), (a 12, aB ta 56 (qU (qU c4 27 (c3 0)) 55 (c3 28))), (a 13, aB ta 768 s'), (hk, aS ta capk gk)] := hD
                            refine lv_iinc (pc := 183) (v := nI (t + 1)) (lv' := [(5, .int (nI (t + 1))), (8, .int (nI 27)), (7, .int (qb (c3 28))), (6, .int (qb (c3 0))), (4, .int (nI tm)), (3, .int (nI r)), (0, .ref h0), (1, .ref hk), (2, .int (nI fr))]) hx hb dX10_desKey_183 hl (k := 3) rfl (by first | exact nI_add t 1 | rfl) (by decide) rfl (fun ls hl => ?_)
                            refine lv_goto (pc := 186) (tgt := 89) hx hb dX10_desKey_186 (by decide) ?_
                            exact ih89 (t + 1) (qU (qU c4 27 (c3 0)) 55 (c3 28)) (by omega) (fun j hj => (dRot_step h4 rfl j hj).trans (dRot_congr hc3 hj)) (by omega) _ _ (hP.sub [0, 1, 2, 3, 4, 5] rfl) (hD.sub [0, 1, 2, 3, 4, 5] (by decide) rfl) hS ls (lv_sub hl [0, 4, 5, 6, 7, 8] rfl)
                          · skip
                            rw [nI_leI (by omega) (by omega)] at c_7
                            refine lv_aload_n (pc := 123) hx hb dX10_desKey_123 rfl (lv_at hl 6 rfl) ?_
                            refine va_get (pc := 124) (D := D) (ci := 8) (v := .ref (a 12)) (C := RX10) (T := TX10) (N := 57) hx hb hts iu10 hown hK hP 0 rfl rfl 12 (by decide) (hts _ tw_1057) (fun _ h9 => h9) rfl dX10_desKey_124 ?_
                            refine lv_iload (pc := 127) hx hb dX10_desKey_127 (lv_at hl 0 rfl) ?_
                            refine lv_aload_n (pc := 129) hx hb dX10_desKey_129 rfl (lv_at hl 6 rfl) ?_
                            refine va_get (pc := 130) (D := D) (ci := 8) (v := .ref (a 12)) (C := RX10) (T := TX10) (N := 57) hx hb hts iu10 hown hK hP 0 rfl rfl 12 (by decide) (hts _ tw_1057) (fun _ h9 => h9) rfl dX10_desKey_130 ?_
                            refine lv_iload (pc := 133) hx hb dX10_desKey_133 (lv_at hl 0 rfl) ?_
                            refine lv_iconst (pc := 135) (v := nI 1) hx hb dX10_desKey_135 (by decide +kernel) ?_
                            refine lv_iadd (pc := 136) hx hb dX10_desKey_136 ?_
                            refine q_top (y := nI (k2 + 1)) (nI_add k2 1) ?_
                            refine q_iald (pc := 137) hx hb hK hP 3 0 rfl rfl (k := k2 + 1) (v := qb (c4 (k2 + 1))) rfl (by omega) (by omega) rfl dX10_desKey_137 ?_
                            refine q_iastB (pc := 138) hx hb hK hP hD hS 3 0 rfl rfl (k := k2) rfl (by omega) (by omega) (b := c4 (k2 + 1)) rfl dX10_desKey_138 (fun H locs hP hD hS => ?_)
                            have hP : va_P D vwCl [(h0, oM a ar mn tp osz lsz ns ct), (a 3, aK ta 56 tCH), (a 4, aK ta 48 tSEC), (a 12, aB ta 56 (qU c4 k2 (c4 (k2 + 1)))), (a 13, aB ta 768 s'), (hk, aS ta capk gk)] H := hP
                            have hD : va_D A [(h0, oM a ar mn tp osz lsz ns ct), (a 3, aK ta 56 tCH), (a 4, aK ta 48 tSEC), (a 12, aB ta 56 (qU c4 k2 (c4 (k2 + 1)))), (a 13, aB ta 768 s'), (hk, aS ta capk gk)] := hD
                            refine lv_aload_n (pc := 139) hx hb dX10_desKey_139 rfl (lv_at hl 6 rfl) ?_
                            refine va_get (pc := 140) (D := D) (ci := 8) (v := .ref (a 12)) (C := RX10) (T := TX10) (N := 57) hx hb hts iu10 hown hK hP 0 rfl rfl 12 (by decide) (hts _ tw_1057) (fun _ h9 => h9) rfl dX10_desKey_140 ?_
                            refine lv_bipush (pc := 143) (v := nI 28) hx hb dX10_desKey_143 (by decide +kernel) ?_
                            refine lv_iload (pc := 145) hx hb dX10_desKey_145 (lv_at hl 0 rfl) ?_
                            refine lv_iadd (pc := 147) hx hb dX10_desKey_147 ?_
                            refine q_top (y := nI (28 + k2)) (nI_add 28 k2) ?_
                            refine lv_aload_n (pc := 148) hx hb dX10_desKey_148 rfl (lv_at hl 6 rfl) ?_
                            refine va_get (pc := 149) (D := D) (ci := 8) (v := .ref (a 12)) (C := RX10) (T := TX10) (N := 57) hx hb hts iu10 hown hK hP 0 rfl rfl 12 (by decide) (hts _ tw_1057) (fun _ h9 => h9) rfl dX10_desKey_149 ?_
                            refine lv_bipush (pc := 152) (v := nI 29) hx hb dX10_desKey_152 (by decide +kernel) ?_
                            refine lv_iload (pc := 154) hx hb dX10_desKey_154 (lv_at hl 0 rfl) ?_
                            refine lv_iadd (pc := 156) hx hb dX10_desKey_156 ?_
                            refine q_top (y := nI (29 + k2)) (nI_add 29 k2) ?_
                            refine q_iald (pc := 157) hx hb hK hP 3 0 rfl rfl (k := 29 + k2) (v := qb ((qU c4 k2 (c4 (k2 + 1))) (29 + k2))) rfl (by omega) (by omega) rfl dX10_desKey_157 ?_
                            refine q_iastB (pc := 158) hx hb hK hP hD hS 3 0 rfl rfl (k := 28 + k2) rfl (by omega) (by omega) (b := (qU c4 k2 (c4 (k2 + 1))) (29 + k2)) rfl dX10_desKey_158 (fun H locs hP hD hS => ?_)
                            have hP : va_P D vwCl [(h0, oM a ar mn tp osz lsz ns ct), (a 3, aK ta 56 tCH), (a 4, aK ta 48 tSEC), (a 12, aB ta 56 (qU (qU c4 k2 (c4 (k2 + 1))) (28 + k2) ((qU c4 k2 (c4 (k2 + 1))) (29 + k2)))), (a 13, aB ta 768 s'), (hk, aS ta capk gk)] H := hP
                            have hD : va_D A [(h0, oM a ar mn tp osz lsz ns ct), (a 3, aK ta 56 tCH), (a 4, aK ta 48 tSEC), (a 12, aB ta 56 (qU (qU c4 k2 (c4 (k2 + 1))) (28 + k2) ((qU c4 k2 (c4 (k2 + 1))) (29 + k2)))), (a 13, aB ta 768 s'), (hk, aS ta capk gk)] := hD
                            refine lv_iinc (pc := 159) (v := nI (k2 + 1)) (lv' := [(8, .int (nI (k2 + 1))), (7, .int (qb (c3 28))), (6, .int (qb (c3 0))), (5, .int (nI t)), (4, .int (nI tm)), (3, .int (nI r)), (0, .ref h0), (1, .ref hk), (2, .int (nI fr))]) hx hb dX10_desKey_159 hl (k := 0) rfl (by first | exact nI_add k2 1 | rfl) (by decide) rfl (fun ls hl => ?_)
                            refine lv_goto (pc := 162) (tgt := 116) hx hb dX10_desKey_162 (by decide) ?_
                            exact ih116 (k2 + 1) (qU (qU c4 k2 (c4 (k2 + 1))) (28 + k2) ((qU c4 k2 (c4 (k2 + 1))) (29 + k2))) (by omega) (by
                                  intro j hj
                                  have e1 : c4 (k2 + 1) = c3 (k2 + 1) := by rw [h4 _ (by omega), if_neg (by omega)]
                                  have e2 : c4 (29 + k2) = c3 (29 + k2) := by rw [h4 _ (by omega), if_neg (by omega)]
                                  by_cases q1 : j = 28 + k2
                                  · subst q1
                                    rw [qU_same, qU_ne (by omega), if_pos (by omega), e2]
                                    congr 1
                                    omega
                                  · rw [qU_ne q1]
                                    by_cases q2 : j = k2
                                    · subst q2
                                      rw [qU_same, if_pos (by omega), e1]
                                    · rw [qU_ne q2, h4 j hj]
                                      by_cases q3 : j < k2 ∨ (28 ≤ j ∧ j < 28 + k2)
                                      · rw [if_pos q3, if_pos (by omega)]
                                      · rw [if_neg q3, if_neg (by omega)]) (by omega) _ _ (hP.sub [0, 1, 2, 3, 4, 5] rfl) (hD.sub [0, 1, 2, 3, 4, 5] (by decide) rfl) hS ls (lv_sub hl [0, 1, 2, 3, 4, 5, 6, 7, 8] rfl)
                      exact LP116 _ 0 c3 (by omega) (fun j hj => (if_neg (by omega)).symm) (Nat.lt_succ_self _) _ _ (hP.sub [0, 1, 2, 3, 4, 5] rfl) (hD.sub [0, 1, 2, 3, 4, 5] (by decide) rfl) hS ls (lv_sub hl [0, 1, 2, 3, 4, 5, 6, 7, 8] rfl)
                exact LP89 _ 0 c2 (Nat.zero_le _) (hc) (Nat.lt_succ_self _) _ _ (hP.sub [0, 1, 2, 3, 4, 5] rfl) (hD.sub [0, 1, 2, 3, 4, 5] (by decide) rfl) hS ls (lv_sub hl [0, 1, 2, 3, 4, 5] rfl)
              refine lv_iload_n (pc := 58) hx hb dX10_desKey_58 rfl (lv_at hl 0 rfl) ?_
              refine lv_if_eq (pc := 59) (tgt := 79) hx hb dX10_desKey_59 (by decide) (fun c_9 => ?_) (fun c_9 => ?_)
              · skip
                rw [q_eq0 (by omega)] at c_9
                have h0 := c_9
                refine lv_iconst (pc := 79) (v := nI 1) hx hb dX10_desKey_79 (by decide +kernel) ?_
                refine lv_goto (pc := 80) (tgt := 84) hx hb dX10_desKey_80 (by decide) ?_
                exact JN84 1 (by first | (subst_vars; rfl) | exact tSHF_2 (by omega) h0 h1 h8 h15) _ _ (hP.sub [0, 1, 2, 3, 4, 5] rfl) (hD.sub [0, 1, 2, 3, 4, 5] (by decide) rfl) hS ls (lv_sub hl [0, 1, 2, 3] rfl)
              · skip
                rw [q_eq0 (by omega)] at c_9
                have h0 := c_9
                refine lv_iload_n (pc := 62) hx hb dX10_desKey_62 rfl (lv_at hl 0 rfl) ?_
                refine lv_iconst (pc := 63) (v := nI 1) hx hb dX10_desKey_63 (by decide +kernel) ?_
                refine lv_icmp_eq (pc := 64) (tgt := 79) hx hb dX10_desKey_64 (by decide) (fun c_10 => ?_) (fun c_10 => ?_)
                · skip
                  rw [nI_eq (by omega) (by omega)] at c_10
                  have h1 := c_10
                  refine lv_iconst (pc := 79) (v := nI 1) hx hb dX10_desKey_79 (by decide +kernel) ?_
                  refine lv_goto (pc := 80) (tgt := 84) hx hb dX10_desKey_80 (by decide) ?_
                  exact JN84 1 (by first | (subst_vars; rfl) | exact tSHF_2 (by omega) h0 h1 h8 h15) _ _ (hP.sub [0, 1, 2, 3, 4, 5] rfl) (hD.sub [0, 1, 2, 3, 4, 5] (by decide) rfl) hS ls (lv_sub hl [0, 1, 2, 3] rfl)
                · skip
                  rw [nI_eq (by omega) (by omega)] at c_10
                  have h1 := c_10
                  refine lv_iload_n (pc := 67) hx hb dX10_desKey_67 rfl (lv_at hl 0 rfl) ?_
                  refine lv_bipush (pc := 68) (v := nI 8) hx hb dX10_desKey_68 (by decide +kernel) ?_
                  refine lv_icmp_eq (pc := 70) (tgt := 79) hx hb dX10_desKey_70 (by decide) (fun c_11 => ?_) (fun c_11 => ?_)
                  · skip
                    rw [nI_eq (by omega) (by omega)] at c_11
                    have h8 := c_11
                    refine lv_iconst (pc := 79) (v := nI 1) hx hb dX10_desKey_79 (by decide +kernel) ?_
                    refine lv_goto (pc := 80) (tgt := 84) hx hb dX10_desKey_80 (by decide) ?_
                    exact JN84 1 (by first | (subst_vars; rfl) | exact tSHF_2 (by omega) h0 h1 h8 h15) _ _ (hP.sub [0, 1, 2, 3, 4, 5] rfl) (hD.sub [0, 1, 2, 3, 4, 5] (by decide) rfl) hS ls (lv_sub hl [0, 1, 2, 3] rfl)
                  · skip
                    rw [nI_eq (by omega) (by omega)] at c_11
                    have h8 := c_11
                    refine lv_iload_n (pc := 73) hx hb dX10_desKey_73 rfl (lv_at hl 0 rfl) ?_
                    refine lv_bipush (pc := 74) (v := nI 15) hx hb dX10_desKey_74 (by decide +kernel) ?_
                    refine lv_icmp_ne (pc := 76) (tgt := 83) hx hb dX10_desKey_76 (by decide) (fun c_12 => ?_) (fun c_12 => ?_)
                    · skip
                      rw [nI_eq (by omega) (by omega)] at c_12
                      have h15 := c_12
                      refine lv_iconst (pc := 83) (v := nI 2) hx hb dX10_desKey_83 (by decide +kernel) ?_
                      exact JN84 2 (by first | (subst_vars; rfl) | exact tSHF_2 (by omega) h0 h1 h8 h15) _ _ (hP.sub [0, 1, 2, 3, 4, 5] rfl) (hD.sub [0, 1, 2, 3, 4, 5] (by decide) rfl) hS ls (lv_sub hl [0, 1, 2, 3] rfl)
                    · skip
                      rw [nI_eq (by omega) (by omega)] at c_12
                      have h15 := c_12
                      refine lv_iconst (pc := 79) (v := nI 1) hx hb dX10_desKey_79 (by decide +kernel) ?_
                      refine lv_goto (pc := 80) (tgt := 84) hx hb dX10_desKey_80 (by decide) ?_
                      exact JN84 1 (by first | (subst_vars; rfl) | exact tSHF_2 (by omega) h0 h1 h8 h15) _ _ (hP.sub [0, 1, 2, 3, 4, 5] rfl) (hD.sub [0, 1, 2, 3, 4, 5] (by decide) rfl) hS ls (lv_sub hl [0, 1, 2, 3] rfl)
        exact LP52 _ 0 c' sk (by omega) (fun j hj => qSeg_at hs (by omega)) (fun j hj => absurd hj (by omega)) (Nat.lt_succ_self _) _ _ (hP.sub [0, 1, 2, 3, 4, 5] rfl) (hD.sub [0, 1, 2, 3, 4, 5] (by decide) rfl) hS ls (lv_sub hl [0, 1, 2, 3] rfl)
      · skip
        rw [nI_leI (by omega) (by omega)] at c_1
        refine lv_aload_n (pc := 8) hx hb dX10_desKey_8 rfl (lv_at hl 1 rfl) ?_
        refine va_get (pc := 9) (D := D) (ci := 8) (v := .ref (a 3)) (C := RX10) (T := TX10) (N := 57) hx hb hts iu10 hown hK hP 0 rfl rfl 3 (by decide) (hts _ tw_1048) (fun _ h9 => h9) rfl dX10_desKey_9 ?_
        refine lv_iload_n (pc := 12) hx hb dX10_desKey_12 rfl (lv_at hl 0 rfl) ?_
        have hbd := tCH_b (k := k) (by omega)
        refine q_iald (pc := 13) hx hb hK hP 1 0 rfl rfl (k := k) (v := nI (tCH k)) rfl (by omega) (by omega) rfl dX10_desKey_13 ?_
        refine lv_iconst (pc := 14) (v := nI 1) hx hb dX10_desKey_14 (by decide +kernel) ?_
        refine lv_isub (pc := 15) hx hb dX10_desKey_15 ?_
        refine q_top (y := nI (tCH k - 1)) (pk_sub (a := tCH k) (b := 1) (by omega)) ?_
        refine lv_istore (pc := 16) (lv' := [(4, .int (nI (tCH k - 1))), (3, .int (nI k)), (0, .ref h0), (1, .ref hk), (2, .int (nI fr))]) hx hb dX10_desKey_16 hl (by decide) rfl (fun ls hl => ?_)
        refine lv_aload_n (pc := 18) hx hb dX10_desKey_18 rfl (lv_at hl 2 rfl) ?_
        refine va_get (pc := 19) (D := D) (ci := 8) (v := .ref (a 12)) (C := RX10) (T := TX10) (N := 57) hx hb hts iu10 hown hK hP 0 rfl rfl 12 (by decide) (hts _ tw_1057) (fun _ h9 => h9) rfl dX10_desKey_19 ?_
        refine lv_iload_n (pc := 22) hx hb dX10_desKey_22 rfl (lv_at hl 1 rfl) ?_
        refine lv_aload_n (pc := 23) hx hb dX10_desKey_23 rfl (lv_at hl 3 rfl) ?_
        refine lv_iload_n (pc := 24) hx hb dX10_desKey_24 rfl (lv_at hl 4 rfl) ?_
        refine lv_iload (pc := 25) hx hb dX10_desKey_25 (lv_at hl 0 rfl) ?_
        refine lv_bipush (pc := 27) (v := nI 8) hx hb dX10_desKey_27 (by decide +kernel) ?_
        refine lv_idiv (pc := 29) hx hb dX10_desKey_29 (q_ne0 (by omega) (by omega)) ?_
        refine q_top (y := nI ((tCH k - 1) / 8)) (pk_div (by omega) (by omega) (by omega)) ?_
        refine lv_iadd (pc := 30) hx hb dX10_desKey_30 ?_
        refine q_top (y := nI (fr + ((tCH k - 1) / 8))) (nI_add fr ((tCH k - 1) / 8)) ?_
        refine q_bald (pc := 31) hx hb hK hP 5 2 rfl rfl (k := fr + ((tCH k - 1) / 8)) (v := qs (gk (fr + ((tCH k - 1) / 8)))) rfl (by omega) (by omega) rfl dX10_desKey_31 ?_
        refine lv_bipush (pc := 32) (v := nI 7) hx hb dX10_desKey_32 (by decide +kernel) ?_
        refine lv_iload (pc := 34) hx hb dX10_desKey_34 (lv_at hl 0 rfl) ?_
        refine lv_bipush (pc := 36) (v := nI 8) hx hb dX10_desKey_36 (by decide +kernel) ?_
        refine lv_irem (pc := 38) hx hb dX10_desKey_38 (q_ne0 (by omega) (by omega)) ?_
        refine q_top (y := nI ((tCH k - 1) % 8)) (pk_rem (by omega) (by omega) (by omega)) ?_
        refine lv_isub (pc := 39) hx hb dX10_desKey_39 ?_
        refine q_top (y := nI (7 - ((tCH k - 1) % 8))) (pk_sub (a := 7) (b := (tCH k - 1) % 8) (by omega)) ?_
        refine lv_ishr (pc := 40) hx hb dX10_desKey_40 ?_
        refine lv_iconst (pc := 41) (v := nI 1) hx hb dX10_desKey_41 (by decide +kernel) ?_
        refine lv_iand (pc := 42) hx hb dX10_desKey_42 ?_
        refine q_top (y := qb ((gk (fr + ((tCH k - 1) / 8))).getLsbD (7 - ((tCH k - 1) % 8)))) (q_bit_s _ (by omega)) ?_
        refine q_iastB (pc := 43) hx hb hK hP hD hS 3 0 rfl rfl (k := k) rfl (by omega) (by omega) (b := (gk (fr + ((tCH k - 1) / 8))).getLsbD (7 - ((tCH k - 1) % 8))) rfl dX10_desKey_43 (fun H locs hP hD hS => ?_)
        have hP : va_P D vwCl [(h0, oM a ar mn tp osz lsz ns ct), (a 3, aK ta 56 tCH), (a 4, aK ta 48 tSEC), (a 12, aB ta 56 (qU c' k ((gk (fr + ((tCH k - 1) / 8))).getLsbD (7 - ((tCH k - 1) % 8))))), (a 13, aB ta 768 sk), (hk, aS ta capk gk)] H := hP
        have hD : va_D A [(h0, oM a ar mn tp osz lsz ns ct), (a 3, aK ta 56 tCH), (a 4, aK ta 48 tSEC), (a 12, aB ta 56 (qU c' k ((gk (fr + ((tCH k - 1) / 8))).getLsbD (7 - ((tCH k - 1) % 8))))), (a 13, aB ta 768 sk), (hk, aS ta capk gk)] := hD
        refine lv_iinc (pc := 44) (v := nI (k + 1)) (lv' := [(3, .int (nI (k + 1))), (4, .int (nI (tCH k - 1))), (0, .ref h0), (1, .ref hk), (2, .int (nI fr))]) hx hb dX10_desKey_44 hl (k := 1) rfl (by first | exact nI_add k 1 | rfl) (by decide) rfl (fun ls hl => ?_)
        refine lv_goto (pc := 47) (tgt := 2) hx hb dX10_desKey_47 (by decide) ?_
        exact ih2 (k + 1) (qU c' k ((gk (fr + ((tCH k - 1) / 8))).getLsbD (7 - ((tCH k - 1) % 8)))) (by omega) (qSeg_s hs (by omega) rfl) (by omega) _ _ (hP.sub [0, 1, 2, 3, 4, 5] rfl) (hD.sub [0, 1, 2, 3, 4, 5] (by decide) rfl) hS ls (lv_sub hl [0, 2, 3, 4] rfl)
  exact LP2 _ 0 cd (by omega) (qSeg_0) (Nat.lt_succ_self _) _ _ (hP.sub [0, 1, 2, 3, 4, 5] rfl) (hD.sub [0, 1, 2, 3, 4, 5] (by decide) rfl) hS ls (lv_sub hl [0, 1, 2, 3] rfl)
theorem hdX10_des : yX10_des.cls ≠ "java/lang/invoke/MethodHandle" ∧ yX10_des.cls ≠ "java/lang/invoke/VarHandle" ∧ (parseMethodDescriptor yX10_des.desc).map (fun d => d.parameters.length) = some 5 := ⟨by decide +kernel, by decide +kernel, by decide +kernel⟩
theorem dX10_des_0 : decode cX10_des 0 = .ok (.aload_n 0, 1) := by decide +kernel
theorem dX10_des_1 : decode cX10_des 1 = .ok (.aload_n 3, 1) := by decide +kernel
theorem dX10_des_2 : decode cX10_des 2 = .ok (.iload 4, 2) := by decide +kernel
theorem dX10_des_4 : decode cX10_des 4 = .ok (.invokevirtual 16, 3) := by decide +kernel
theorem dX10_des_7 : decode cX10_des 7 = .ok (.iconst 0, 1) := by decide +kernel
theorem dX10_des_8 : decode cX10_des 8 = .ok (.istore 6, 2) := by decide +kernel
theorem dX10_des_10 : decode cX10_des 10 = .ok (.iload 6, 2) := by decide +kernel
theorem dX10_des_12 : decode cX10_des 12 = .ok (.bipush 64, 2) := by decide +kernel
theorem dX10_des_14 : decode cX10_des 14 = .ok (.if_icmp .ge 50, 3) := by decide +kernel
theorem dX10_des_17 : decode cX10_des 17 = .ok (.aload_n 0, 1) := by decide +kernel
theorem dX10_des_18 : decode cX10_des 18 = .ok (.getfield 20, 3) := by decide +kernel
theorem dX10_des_21 : decode cX10_des 21 = .ok (.iload 6, 2) := by decide +kernel
theorem dX10_des_23 : decode cX10_des 23 = .ok (.aload_n 1, 1) := by decide +kernel
theorem dX10_des_24 : decode cX10_des 24 = .ok (.iload_n 2, 1) := by decide +kernel
theorem dX10_des_25 : decode cX10_des 25 = .ok (.aload_n 0, 1) := by decide +kernel
theorem dX10_des_26 : decode cX10_des 26 = .ok (.getfield 23, 3) := by decide +kernel
theorem dX10_des_29 : decode cX10_des 29 = .ok (.iload 6, 2) := by decide +kernel
theorem dX10_des_31 : decode cX10_des 31 = .ok (.iaload, 1) := by decide +kernel
theorem dX10_des_32 : decode cX10_des 32 = .ok (.iconst 1, 1) := by decide +kernel
theorem dX10_des_33 : decode cX10_des 33 = .ok (.isub, 1) := by decide +kernel
theorem dX10_des_34 : decode cX10_des 34 = .ok (.bipush 8, 2) := by decide +kernel
theorem dX10_des_36 : decode cX10_des 36 = .ok (.idiv, 1) := by decide +kernel
theorem dX10_des_37 : decode cX10_des 37 = .ok (.iadd, 1) := by decide +kernel
theorem dX10_des_38 : decode cX10_des 38 = .ok (.baload, 1) := by decide +kernel
theorem dX10_des_39 : decode cX10_des 39 = .ok (.bipush 7, 2) := by decide +kernel
theorem dX10_des_41 : decode cX10_des 41 = .ok (.aload_n 0, 1) := by decide +kernel
theorem dX10_des_42 : decode cX10_des 42 = .ok (.getfield 23, 3) := by decide +kernel
theorem dX10_des_45 : decode cX10_des 45 = .ok (.iload 6, 2) := by decide +kernel
theorem dX10_des_47 : decode cX10_des 47 = .ok (.iaload, 1) := by decide +kernel
theorem dX10_des_48 : decode cX10_des 48 = .ok (.iconst 1, 1) := by decide +kernel
theorem dX10_des_49 : decode cX10_des 49 = .ok (.isub, 1) := by decide +kernel
theorem dX10_des_50 : decode cX10_des 50 = .ok (.bipush 8, 2) := by decide +kernel
theorem dX10_des_52 : decode cX10_des 52 = .ok (.irem, 1) := by decide +kernel
theorem dX10_des_53 : decode cX10_des 53 = .ok (.isub, 1) := by decide +kernel
theorem dX10_des_54 : decode cX10_des 54 = .ok (.ishr, 1) := by decide +kernel
theorem dX10_des_55 : decode cX10_des 55 = .ok (.iconst 1, 1) := by decide +kernel
theorem dX10_des_56 : decode cX10_des 56 = .ok (.iand, 1) := by decide +kernel
theorem dX10_des_57 : decode cX10_des 57 = .ok (.iastore, 1) := by decide +kernel
theorem dX10_des_58 : decode cX10_des 58 = .ok (.iinc 6 1, 3) := by decide +kernel
theorem dX10_des_61 : decode cX10_des 61 = .ok (.goto (-51), 3) := by decide +kernel
theorem dX10_des_64 : decode cX10_des 64 = .ok (.iconst 0, 1) := by decide +kernel
theorem dX10_des_65 : decode cX10_des 65 = .ok (.istore 6, 2) := by decide +kernel
theorem dX10_des_67 : decode cX10_des 67 = .ok (.iload 6, 2) := by decide +kernel
theorem dX10_des_69 : decode cX10_des 69 = .ok (.bipush 16, 2) := by decide +kernel
theorem dX10_des_71 : decode cX10_des 71 = .ok (.if_icmp .ge 335, 3) := by decide +kernel
theorem dX10_des_74 : decode cX10_des 74 = .ok (.bipush 48, 2) := by decide +kernel
theorem dX10_des_76 : decode cX10_des 76 = .ok (.iload 5, 2) := by decide +kernel
theorem dX10_des_78 : decode cX10_des 78 = .ok (.ifCond .eq 11, 3) := by decide +kernel
theorem dX10_des_81 : decode cX10_des 81 = .ok (.bipush 15, 2) := by decide +kernel
theorem dX10_des_83 : decode cX10_des 83 = .ok (.iload 6, 2) := by decide +kernel
theorem dX10_des_85 : decode cX10_des 85 = .ok (.isub, 1) := by decide +kernel
theorem dX10_des_86 : decode cX10_des 86 = .ok (.goto 5, 3) := by decide +kernel
theorem dX10_des_89 : decode cX10_des 89 = .ok (.iload 6, 2) := by decide +kernel
theorem dX10_des_91 : decode cX10_des 91 = .ok (.imul, 1) := by decide +kernel
theorem dX10_des_92 : decode cX10_des 92 = .ok (.istore 7, 2) := by decide +kernel
theorem dX10_des_94 : decode cX10_des 94 = .ok (.iconst 0, 1) := by decide +kernel
theorem dX10_des_95 : decode cX10_des 95 = .ok (.istore 8, 2) := by decide +kernel
theorem dX10_des_97 : decode cX10_des 97 = .ok (.iload 8, 2) := by decide +kernel
theorem dX10_des_99 : decode cX10_des 99 = .ok (.bipush 48, 2) := by decide +kernel
theorem dX10_des_101 : decode cX10_des 101 = .ok (.if_icmp .ge 44, 3) := by decide +kernel
theorem dX10_des_104 : decode cX10_des 104 = .ok (.aload_n 0, 1) := by decide +kernel
theorem dX10_des_105 : decode cX10_des 105 = .ok (.getfield 26, 3) := by decide +kernel
theorem dX10_des_108 : decode cX10_des 108 = .ok (.iload 8, 2) := by decide +kernel
theorem dX10_des_110 : decode cX10_des 110 = .ok (.aload_n 0, 1) := by decide +kernel
theorem dX10_des_111 : decode cX10_des 111 = .ok (.getfield 20, 3) := by decide +kernel
theorem dX10_des_114 : decode cX10_des 114 = .ok (.bipush 32, 2) := by decide +kernel
theorem dX10_des_116 : decode cX10_des 116 = .ok (.aload_n 0, 1) := by decide +kernel
theorem dX10_des_117 : decode cX10_des 117 = .ok (.getfield 29, 3) := by decide +kernel
theorem dX10_des_120 : decode cX10_des 120 = .ok (.iload 8, 2) := by decide +kernel
theorem dX10_des_122 : decode cX10_des 122 = .ok (.iaload, 1) := by decide +kernel
theorem dX10_des_123 : decode cX10_des 123 = .ok (.iadd, 1) := by decide +kernel
theorem dX10_des_124 : decode cX10_des 124 = .ok (.iconst 1, 1) := by decide +kernel
theorem dX10_des_125 : decode cX10_des 125 = .ok (.isub, 1) := by decide +kernel
theorem dX10_des_126 : decode cX10_des 126 = .ok (.iaload, 1) := by decide +kernel
theorem dX10_des_127 : decode cX10_des 127 = .ok (.aload_n 0, 1) := by decide +kernel
theorem dX10_des_128 : decode cX10_des 128 = .ok (.getfield 10, 3) := by decide +kernel
theorem dX10_des_131 : decode cX10_des 131 = .ok (.iload 7, 2) := by decide +kernel
theorem dX10_des_133 : decode cX10_des 133 = .ok (.iload 8, 2) := by decide +kernel
theorem dX10_des_135 : decode cX10_des 135 = .ok (.iadd, 1) := by decide +kernel
theorem dX10_des_136 : decode cX10_des 136 = .ok (.iaload, 1) := by decide +kernel
theorem dX10_des_137 : decode cX10_des 137 = .ok (.ixor, 1) := by decide +kernel
theorem dX10_des_138 : decode cX10_des 138 = .ok (.iastore, 1) := by decide +kernel
theorem dX10_des_139 : decode cX10_des 139 = .ok (.iinc 8 1, 3) := by decide +kernel
theorem dX10_des_142 : decode cX10_des 142 = .ok (.goto (-45), 3) := by decide +kernel
theorem dX10_des_145 : decode cX10_des 145 = .ok (.iconst 0, 1) := by decide +kernel
theorem dX10_des_146 : decode cX10_des 146 = .ok (.istore 8, 2) := by decide +kernel
theorem dX10_des_148 : decode cX10_des 148 = .ok (.iload 8, 2) := by decide +kernel
theorem dX10_des_150 : decode cX10_des 150 = .ok (.bipush 8, 2) := by decide +kernel
theorem dX10_des_152 : decode cX10_des 152 = .ok (.if_icmp .ge 153, 3) := by decide +kernel
theorem dX10_des_155 : decode cX10_des 155 = .ok (.iconst 2, 1) := by decide +kernel
theorem dX10_des_156 : decode cX10_des 156 = .ok (.aload_n 0, 1) := by decide +kernel
theorem dX10_des_157 : decode cX10_des 157 = .ok (.getfield 26, 3) := by decide +kernel
theorem dX10_des_160 : decode cX10_des 160 = .ok (.bipush 6, 2) := by decide +kernel
theorem dX10_des_162 : decode cX10_des 162 = .ok (.iload 8, 2) := by decide +kernel
theorem dX10_des_164 : decode cX10_des 164 = .ok (.imul, 1) := by decide +kernel
theorem dX10_des_165 : decode cX10_des 165 = .ok (.iaload, 1) := by decide +kernel
theorem dX10_des_166 : decode cX10_des 166 = .ok (.imul, 1) := by decide +kernel
theorem dX10_des_167 : decode cX10_des 167 = .ok (.aload_n 0, 1) := by decide +kernel
theorem dX10_des_168 : decode cX10_des 168 = .ok (.getfield 26, 3) := by decide +kernel
theorem dX10_des_171 : decode cX10_des 171 = .ok (.bipush 6, 2) := by decide +kernel
theorem dX10_des_173 : decode cX10_des 173 = .ok (.iload 8, 2) := by decide +kernel
theorem dX10_des_175 : decode cX10_des 175 = .ok (.imul, 1) := by decide +kernel
theorem dX10_des_176 : decode cX10_des 176 = .ok (.iconst 5, 1) := by decide +kernel
theorem dX10_des_177 : decode cX10_des 177 = .ok (.iadd, 1) := by decide +kernel
theorem dX10_des_178 : decode cX10_des 178 = .ok (.iaload, 1) := by decide +kernel
theorem dX10_des_179 : decode cX10_des 179 = .ok (.iadd, 1) := by decide +kernel
theorem dX10_des_180 : decode cX10_des 180 = .ok (.istore 9, 2) := by decide +kernel
theorem dX10_des_182 : decode cX10_des 182 = .ok (.bipush 8, 2) := by decide +kernel
theorem dX10_des_184 : decode cX10_des 184 = .ok (.aload_n 0, 1) := by decide +kernel
theorem dX10_des_185 : decode cX10_des 185 = .ok (.getfield 26, 3) := by decide +kernel
theorem dX10_des_188 : decode cX10_des 188 = .ok (.bipush 6, 2) := by decide +kernel
theorem dX10_des_190 : decode cX10_des 190 = .ok (.iload 8, 2) := by decide +kernel
theorem dX10_des_192 : decode cX10_des 192 = .ok (.imul, 1) := by decide +kernel
theorem dX10_des_193 : decode cX10_des 193 = .ok (.iconst 1, 1) := by decide +kernel
theorem dX10_des_194 : decode cX10_des 194 = .ok (.iadd, 1) := by decide +kernel
theorem dX10_des_195 : decode cX10_des 195 = .ok (.iaload, 1) := by decide +kernel
theorem dX10_des_196 : decode cX10_des 196 = .ok (.imul, 1) := by decide +kernel
theorem dX10_des_197 : decode cX10_des 197 = .ok (.iconst 4, 1) := by decide +kernel
theorem dX10_des_198 : decode cX10_des 198 = .ok (.aload_n 0, 1) := by decide +kernel
theorem dX10_des_199 : decode cX10_des 199 = .ok (.getfield 26, 3) := by decide +kernel
theorem dX10_des_202 : decode cX10_des 202 = .ok (.bipush 6, 2) := by decide +kernel
theorem dX10_des_204 : decode cX10_des 204 = .ok (.iload 8, 2) := by decide +kernel
theorem dX10_des_206 : decode cX10_des 206 = .ok (.imul, 1) := by decide +kernel
theorem dX10_des_207 : decode cX10_des 207 = .ok (.iconst 2, 1) := by decide +kernel
theorem dX10_des_208 : decode cX10_des 208 = .ok (.iadd, 1) := by decide +kernel
theorem dX10_des_209 : decode cX10_des 209 = .ok (.iaload, 1) := by decide +kernel
theorem dX10_des_210 : decode cX10_des 210 = .ok (.imul, 1) := by decide +kernel
theorem dX10_des_211 : decode cX10_des 211 = .ok (.iadd, 1) := by decide +kernel
theorem dX10_des_212 : decode cX10_des 212 = .ok (.iconst 2, 1) := by decide +kernel
theorem dX10_des_213 : decode cX10_des 213 = .ok (.aload_n 0, 1) := by decide +kernel
theorem dX10_des_214 : decode cX10_des 214 = .ok (.getfield 26, 3) := by decide +kernel
theorem dX10_des_217 : decode cX10_des 217 = .ok (.bipush 6, 2) := by decide +kernel
theorem dX10_des_219 : decode cX10_des 219 = .ok (.iload 8, 2) := by decide +kernel
theorem dX10_des_221 : decode cX10_des 221 = .ok (.imul, 1) := by decide +kernel
theorem dX10_des_222 : decode cX10_des 222 = .ok (.iconst 3, 1) := by decide +kernel
theorem dX10_des_223 : decode cX10_des 223 = .ok (.iadd, 1) := by decide +kernel
theorem dX10_des_224 : decode cX10_des 224 = .ok (.iaload, 1) := by decide +kernel
theorem dX10_des_225 : decode cX10_des 225 = .ok (.imul, 1) := by decide +kernel
theorem dX10_des_226 : decode cX10_des 226 = .ok (.iadd, 1) := by decide +kernel
theorem dX10_des_227 : decode cX10_des 227 = .ok (.aload_n 0, 1) := by decide +kernel
theorem dX10_des_228 : decode cX10_des 228 = .ok (.getfield 26, 3) := by decide +kernel
theorem dX10_des_231 : decode cX10_des 231 = .ok (.bipush 6, 2) := by decide +kernel
theorem dX10_des_233 : decode cX10_des 233 = .ok (.iload 8, 2) := by decide +kernel
theorem dX10_des_235 : decode cX10_des 235 = .ok (.imul, 1) := by decide +kernel
theorem dX10_des_236 : decode cX10_des 236 = .ok (.iconst 4, 1) := by decide +kernel
theorem dX10_des_237 : decode cX10_des 237 = .ok (.iadd, 1) := by decide +kernel
theorem dX10_des_238 : decode cX10_des 238 = .ok (.iaload, 1) := by decide +kernel
theorem dX10_des_239 : decode cX10_des 239 = .ok (.iadd, 1) := by decide +kernel
theorem dX10_des_240 : decode cX10_des 240 = .ok (.istore 10, 2) := by decide +kernel
theorem dX10_des_242 : decode cX10_des 242 = .ok (.aload_n 0, 1) := by decide +kernel
theorem dX10_des_243 : decode cX10_des 243 = .ok (.getfield 32, 3) := by decide +kernel
theorem dX10_des_246 : decode cX10_des 246 = .ok (.bipush 64, 2) := by decide +kernel
theorem dX10_des_248 : decode cX10_des 248 = .ok (.iload 8, 2) := by decide +kernel
theorem dX10_des_250 : decode cX10_des 250 = .ok (.imul, 1) := by decide +kernel
theorem dX10_des_251 : decode cX10_des 251 = .ok (.bipush 16, 2) := by decide +kernel
theorem dX10_des_253 : decode cX10_des 253 = .ok (.iload 9, 2) := by decide +kernel
theorem dX10_des_255 : decode cX10_des 255 = .ok (.imul, 1) := by decide +kernel
theorem dX10_des_256 : decode cX10_des 256 = .ok (.iadd, 1) := by decide +kernel
theorem dX10_des_257 : decode cX10_des 257 = .ok (.iload 10, 2) := by decide +kernel
theorem dX10_des_259 : decode cX10_des 259 = .ok (.iadd, 1) := by decide +kernel
theorem dX10_des_260 : decode cX10_des 260 = .ok (.iaload, 1) := by decide +kernel
theorem dX10_des_261 : decode cX10_des 261 = .ok (.istore 11, 2) := by decide +kernel
theorem dX10_des_263 : decode cX10_des 263 = .ok (.iconst 0, 1) := by decide +kernel
theorem dX10_des_264 : decode cX10_des 264 = .ok (.istore 12, 2) := by decide +kernel
theorem dX10_des_266 : decode cX10_des 266 = .ok (.iload 12, 2) := by decide +kernel
theorem dX10_des_268 : decode cX10_des 268 = .ok (.iconst 4, 1) := by decide +kernel
theorem dX10_des_269 : decode cX10_des 269 = .ok (.if_icmp .ge 30, 3) := by decide +kernel
theorem dX10_des_272 : decode cX10_des 272 = .ok (.aload_n 0, 1) := by decide +kernel
theorem dX10_des_273 : decode cX10_des 273 = .ok (.getfield 35, 3) := by decide +kernel
theorem dX10_des_276 : decode cX10_des 276 = .ok (.iconst 4, 1) := by decide +kernel
theorem dX10_des_277 : decode cX10_des 277 = .ok (.iload 8, 2) := by decide +kernel
theorem dX10_des_279 : decode cX10_des 279 = .ok (.imul, 1) := by decide +kernel
theorem dX10_des_280 : decode cX10_des 280 = .ok (.iload 12, 2) := by decide +kernel
theorem dX10_des_282 : decode cX10_des 282 = .ok (.iadd, 1) := by decide +kernel
theorem dX10_des_283 : decode cX10_des 283 = .ok (.iload 11, 2) := by decide +kernel
theorem dX10_des_285 : decode cX10_des 285 = .ok (.iconst 3, 1) := by decide +kernel
theorem dX10_des_286 : decode cX10_des 286 = .ok (.iload 12, 2) := by decide +kernel
theorem dX10_des_288 : decode cX10_des 288 = .ok (.isub, 1) := by decide +kernel
theorem dX10_des_289 : decode cX10_des 289 = .ok (.ishr, 1) := by decide +kernel
theorem dX10_des_290 : decode cX10_des 290 = .ok (.iconst 1, 1) := by decide +kernel
theorem dX10_des_291 : decode cX10_des 291 = .ok (.iand, 1) := by decide +kernel
theorem dX10_des_292 : decode cX10_des 292 = .ok (.iastore, 1) := by decide +kernel
theorem dX10_des_293 : decode cX10_des 293 = .ok (.iinc 12 1, 3) := by decide +kernel
theorem dX10_des_296 : decode cX10_des 296 = .ok (.goto (-30), 3) := by decide +kernel
theorem dX10_des_299 : decode cX10_des 299 = .ok (.iinc 8 1, 3) := by decide +kernel
theorem dX10_des_302 : decode cX10_des 302 = .ok (.goto (-154), 3) := by decide +kernel
theorem dX10_des_305 : decode cX10_des 305 = .ok (.iconst 0, 1) := by decide +kernel
theorem dX10_des_306 : decode cX10_des 306 = .ok (.istore 8, 2) := by decide +kernel
theorem dX10_des_308 : decode cX10_des 308 = .ok (.iload 8, 2) := by decide +kernel
theorem dX10_des_310 : decode cX10_des 310 = .ok (.bipush 32, 2) := by decide +kernel
theorem dX10_des_312 : decode cX10_des 312 = .ok (.if_icmp .ge 38, 3) := by decide +kernel
theorem dX10_des_315 : decode cX10_des 315 = .ok (.aload_n 0, 1) := by decide +kernel
theorem dX10_des_316 : decode cX10_des 316 = .ok (.getfield 38, 3) := by decide +kernel
theorem dX10_des_319 : decode cX10_des 319 = .ok (.iload 8, 2) := by decide +kernel
theorem dX10_des_321 : decode cX10_des 321 = .ok (.aload_n 0, 1) := by decide +kernel
theorem dX10_des_322 : decode cX10_des 322 = .ok (.getfield 20, 3) := by decide +kernel
theorem dX10_des_325 : decode cX10_des 325 = .ok (.iload 8, 2) := by decide +kernel
theorem dX10_des_327 : decode cX10_des 327 = .ok (.iaload, 1) := by decide +kernel
theorem dX10_des_328 : decode cX10_des 328 = .ok (.aload_n 0, 1) := by decide +kernel
theorem dX10_des_329 : decode cX10_des 329 = .ok (.getfield 35, 3) := by decide +kernel
theorem dX10_des_332 : decode cX10_des 332 = .ok (.aload_n 0, 1) := by decide +kernel
theorem dX10_des_333 : decode cX10_des 333 = .ok (.getfield 41, 3) := by decide +kernel
theorem dX10_des_336 : decode cX10_des 336 = .ok (.iload 8, 2) := by decide +kernel
theorem dX10_des_338 : decode cX10_des 338 = .ok (.iaload, 1) := by decide +kernel
theorem dX10_des_339 : decode cX10_des 339 = .ok (.iconst 1, 1) := by decide +kernel
theorem dX10_des_340 : decode cX10_des 340 = .ok (.isub, 1) := by decide +kernel
theorem dX10_des_341 : decode cX10_des 341 = .ok (.iaload, 1) := by decide +kernel
theorem dX10_des_342 : decode cX10_des 342 = .ok (.ixor, 1) := by decide +kernel
theorem dX10_des_343 : decode cX10_des 343 = .ok (.iastore, 1) := by decide +kernel
theorem dX10_des_344 : decode cX10_des 344 = .ok (.iinc 8 1, 3) := by decide +kernel
theorem dX10_des_347 : decode cX10_des 347 = .ok (.goto (-39), 3) := by decide +kernel
theorem dX10_des_350 : decode cX10_des 350 = .ok (.iconst 0, 1) := by decide +kernel
theorem dX10_des_351 : decode cX10_des 351 = .ok (.istore 8, 2) := by decide +kernel
theorem dX10_des_353 : decode cX10_des 353 = .ok (.iload 8, 2) := by decide +kernel
theorem dX10_des_355 : decode cX10_des 355 = .ok (.bipush 32, 2) := by decide +kernel
theorem dX10_des_357 : decode cX10_des 357 = .ok (.if_icmp .ge 43, 3) := by decide +kernel
theorem dX10_des_360 : decode cX10_des 360 = .ok (.aload_n 0, 1) := by decide +kernel
theorem dX10_des_361 : decode cX10_des 361 = .ok (.getfield 20, 3) := by decide +kernel
theorem dX10_des_364 : decode cX10_des 364 = .ok (.iload 8, 2) := by decide +kernel
theorem dX10_des_366 : decode cX10_des 366 = .ok (.aload_n 0, 1) := by decide +kernel
theorem dX10_des_367 : decode cX10_des 367 = .ok (.getfield 20, 3) := by decide +kernel
theorem dX10_des_370 : decode cX10_des 370 = .ok (.bipush 32, 2) := by decide +kernel
theorem dX10_des_372 : decode cX10_des 372 = .ok (.iload 8, 2) := by decide +kernel
theorem dX10_des_374 : decode cX10_des 374 = .ok (.iadd, 1) := by decide +kernel
theorem dX10_des_375 : decode cX10_des 375 = .ok (.iaload, 1) := by decide +kernel
theorem dX10_des_376 : decode cX10_des 376 = .ok (.iastore, 1) := by decide +kernel
theorem dX10_des_377 : decode cX10_des 377 = .ok (.aload_n 0, 1) := by decide +kernel
theorem dX10_des_378 : decode cX10_des 378 = .ok (.getfield 20, 3) := by decide +kernel
theorem dX10_des_381 : decode cX10_des 381 = .ok (.bipush 32, 2) := by decide +kernel
theorem dX10_des_383 : decode cX10_des 383 = .ok (.iload 8, 2) := by decide +kernel
theorem dX10_des_385 : decode cX10_des 385 = .ok (.iadd, 1) := by decide +kernel
theorem dX10_des_386 : decode cX10_des 386 = .ok (.aload_n 0, 1) := by decide +kernel
theorem dX10_des_387 : decode cX10_des 387 = .ok (.getfield 38, 3) := by decide +kernel
theorem dX10_des_390 : decode cX10_des 390 = .ok (.iload 8, 2) := by decide +kernel
theorem dX10_des_392 : decode cX10_des 392 = .ok (.iaload, 1) := by decide +kernel
theorem dX10_des_393 : decode cX10_des 393 = .ok (.iastore, 1) := by decide +kernel
theorem dX10_des_394 : decode cX10_des 394 = .ok (.iinc 8 1, 3) := by decide +kernel
theorem dX10_des_397 : decode cX10_des 397 = .ok (.goto (-44), 3) := by decide +kernel
theorem dX10_des_400 : decode cX10_des 400 = .ok (.iinc 6 1, 3) := by decide +kernel
theorem dX10_des_403 : decode cX10_des 403 = .ok (.goto (-336), 3) := by decide +kernel
theorem dX10_des_406 : decode cX10_des 406 = .ok (.iconst 0, 1) := by decide +kernel
theorem dX10_des_407 : decode cX10_des 407 = .ok (.istore 6, 2) := by decide +kernel
theorem dX10_des_409 : decode cX10_des 409 = .ok (.iload 6, 2) := by decide +kernel
theorem dX10_des_411 : decode cX10_des 411 = .ok (.bipush 8, 2) := by decide +kernel
theorem dX10_des_413 : decode cX10_des 413 = .ok (.if_icmp .ge 16, 3) := by decide +kernel
theorem dX10_des_416 : decode cX10_des 416 = .ok (.aload_n 1, 1) := by decide +kernel
theorem dX10_des_417 : decode cX10_des 417 = .ok (.iload_n 2, 1) := by decide +kernel
theorem dX10_des_418 : decode cX10_des 418 = .ok (.iload 6, 2) := by decide +kernel
theorem dX10_des_420 : decode cX10_des 420 = .ok (.iadd, 1) := by decide +kernel
theorem dX10_des_421 : decode cX10_des 421 = .ok (.iconst 0, 1) := by decide +kernel
theorem dX10_des_422 : decode cX10_des 422 = .ok (.bastore, 1) := by decide +kernel
theorem dX10_des_423 : decode cX10_des 423 = .ok (.iinc 6 1, 3) := by decide +kernel
theorem dX10_des_426 : decode cX10_des 426 = .ok (.goto (-17), 3) := by decide +kernel
theorem dX10_des_429 : decode cX10_des 429 = .ok (.iconst 0, 1) := by decide +kernel
theorem dX10_des_430 : decode cX10_des 430 = .ok (.istore 6, 2) := by decide +kernel
theorem dX10_des_432 : decode cX10_des 432 = .ok (.iload 6, 2) := by decide +kernel
theorem dX10_des_434 : decode cX10_des 434 = .ok (.bipush 64, 2) := by decide +kernel
theorem dX10_des_436 : decode cX10_des 436 = .ok (.if_icmp .ge 75, 3) := by decide +kernel
theorem dX10_des_439 : decode cX10_des 439 = .ok (.aload_n 0, 1) := by decide +kernel
theorem dX10_des_440 : decode cX10_des 440 = .ok (.getfield 20, 3) := by decide +kernel
theorem dX10_des_443 : decode cX10_des 443 = .ok (.iload 6, 2) := by decide +kernel
theorem dX10_des_445 : decode cX10_des 445 = .ok (.bipush 32, 2) := by decide +kernel
theorem dX10_des_447 : decode cX10_des 447 = .ok (.if_icmp .ge 11, 3) := by decide +kernel
theorem dX10_des_450 : decode cX10_des 450 = .ok (.bipush 32, 2) := by decide +kernel
theorem dX10_des_452 : decode cX10_des 452 = .ok (.iload 6, 2) := by decide +kernel
theorem dX10_des_454 : decode cX10_des 454 = .ok (.iadd, 1) := by decide +kernel
theorem dX10_des_455 : decode cX10_des 455 = .ok (.goto 8, 3) := by decide +kernel
theorem dX10_des_458 : decode cX10_des 458 = .ok (.iload 6, 2) := by decide +kernel
theorem dX10_des_460 : decode cX10_des 460 = .ok (.bipush 32, 2) := by decide +kernel
theorem dX10_des_462 : decode cX10_des 462 = .ok (.isub, 1) := by decide +kernel
theorem dX10_des_463 : decode cX10_des 463 = .ok (.iaload, 1) := by decide +kernel
theorem dX10_des_464 : decode cX10_des 464 = .ok (.istore 7, 2) := by decide +kernel
theorem dX10_des_466 : decode cX10_des 466 = .ok (.aload_n 1, 1) := by decide +kernel
theorem dX10_des_467 : decode cX10_des 467 = .ok (.iload_n 2, 1) := by decide +kernel
theorem dX10_des_468 : decode cX10_des 468 = .ok (.aload_n 0, 1) := by decide +kernel
theorem dX10_des_469 : decode cX10_des 469 = .ok (.getfield 23, 3) := by decide +kernel
theorem dX10_des_472 : decode cX10_des 472 = .ok (.iload 6, 2) := by decide +kernel
theorem dX10_des_474 : decode cX10_des 474 = .ok (.iaload, 1) := by decide +kernel
theorem dX10_des_475 : decode cX10_des 475 = .ok (.iconst 1, 1) := by decide +kernel
theorem dX10_des_476 : decode cX10_des 476 = .ok (.isub, 1) := by decide +kernel
theorem dX10_des_477 : decode cX10_des 477 = .ok (.bipush 8, 2) := by decide +kernel
theorem dX10_des_479 : decode cX10_des 479 = .ok (.idiv, 1) := by decide +kernel
theorem dX10_des_480 : decode cX10_des 480 = .ok (.iadd, 1) := by decide +kernel
theorem dX10_des_481 : decode cX10_des 481 = .ok (.dup2, 1) := by decide +kernel
theorem dX10_des_482 : decode cX10_des 482 = .ok (.baload, 1) := by decide +kernel
theorem dX10_des_483 : decode cX10_des 483 = .ok (.iload 7, 2) := by decide +kernel
theorem dX10_des_485 : decode cX10_des 485 = .ok (.bipush 7, 2) := by decide +kernel
theorem dX10_des_487 : decode cX10_des 487 = .ok (.aload_n 0, 1) := by decide +kernel
theorem dX10_des_488 : decode cX10_des 488 = .ok (.getfield 23, 3) := by decide +kernel
theorem dX10_des_491 : decode cX10_des 491 = .ok (.iload 6, 2) := by decide +kernel
theorem dX10_des_493 : decode cX10_des 493 = .ok (.iaload, 1) := by decide +kernel
theorem dX10_des_494 : decode cX10_des 494 = .ok (.iconst 1, 1) := by decide +kernel
theorem dX10_des_495 : decode cX10_des 495 = .ok (.isub, 1) := by decide +kernel
theorem dX10_des_496 : decode cX10_des 496 = .ok (.bipush 8, 2) := by decide +kernel
theorem dX10_des_498 : decode cX10_des 498 = .ok (.irem, 1) := by decide +kernel
theorem dX10_des_499 : decode cX10_des 499 = .ok (.isub, 1) := by decide +kernel
theorem dX10_des_500 : decode cX10_des 500 = .ok (.ishl, 1) := by decide +kernel
theorem dX10_des_501 : decode cX10_des 501 = .ok (.i2b, 1) := by decide +kernel
theorem dX10_des_502 : decode cX10_des 502 = .ok (.ior, 1) := by decide +kernel
theorem dX10_des_503 : decode cX10_des 503 = .ok (.i2b, 1) := by decide +kernel
theorem dX10_des_504 : decode cX10_des 504 = .ok (.bastore, 1) := by decide +kernel
theorem dX10_des_505 : decode cX10_des 505 = .ok (.iinc 6 1, 3) := by decide +kernel
theorem dX10_des_508 : decode cX10_des 508 = .ok (.goto (-76), 3) := by decide +kernel
theorem dX10_des_511 : decode cX10_des 511 = .ok (.return_, 1) := by decide +kernel
set_option maxHeartbeats 4000000 in
set_option maxRecDepth 100000 in
theorem ct_X10_des (ll : Launch) (D : va_G) (ta : Nat → ClassId) {G : (Nat → Prop) → State → Heap → Prop} (hGok : GOK G) (h0 : Nat) (a : Nat → Nat) (ar : Nat) (mn : Nat) (tp : Nat) (osz : Nat) (lsz : Nat) (ns : Nat) (ct : Nat) (hb2 : Nat) (at0 : Nat) (capb : Nat) (gb : Nat → BitVec 8) (hk : Nat) (fr : Nat) (capk : Nat) (gk : Nat → BitVec 8) (bi : Nat → Bool) (tu : Nat → Bool) (cd : Nat → Bool) (sk : Nat → Bool) (hf : Nat → Bool) (wd : Nat → Bool) (β : Bool) (hat : at0 + 8 ≤ capb) (hcb : capb < 2147483648) (hck : capk < 2147483648) (hf8 : fr + 8 ≤ capk) (sz : Nat) : CT ll yX10_des cX10_des 13 none ({ frames := 1, cells := 0, slots := 0, locals := 28 } : Room) D ta G [.ref h0, .ref hb2, .int (nI at0), .ref hk, .int (nI fr), .int (qb β)] [(h0, oM a ar mn tp osz lsz ns ct), (a 0, aK ta 64 tIP), (a 1, aK ta 48 tSPR), (a 2, aK ta 32 tMIX), (a 3, aK ta 56 tCH), (a 4, aK ta 48 tSEC), (a 5, aK ta 512 tSBX), (a 10, aB ta 64 bi), (a 11, aB ta 64 tu), (a 12, aB ta 56 cd), (a 13, aB ta 768 sk), (a 14, aB ta 32 hf), (a 15, aB ta 48 wd), (hb2, aS ta capb gb), (hk, aS ta capk gk)] sz (S := (Nat → BitVec 8) × (Nat → Bool) × (Nat → Bool) × (Nat → Bool) × (Nat → Bool) × (Nat → Bool) × (Nat → Bool)) (fun _ => none) (fun u => (∀ j, j < 64 → dBit u.1 at0 j = DES (dBit gk fr) (dBit gb at0) β j) ∧ (∀ j, (j < at0 ∨ at0 + 8 ≤ j) → u.1 j = gb j)) (fun u => [(h0, oM a ar mn tp osz lsz ns ct), (a 0, aK ta 64 tIP), (a 1, aK ta 48 tSPR), (a 2, aK ta 32 tMIX), (a 3, aK ta 56 tCH), (a 4, aK ta 48 tSEC), (a 5, aK ta 512 tSBX), (a 10, aB ta 64 u.2.1), (a 11, aB ta 64 u.2.2.1), (a 12, aB ta 56 u.2.2.2.1), (a 13, aB ta 768 u.2.2.2.2.1), (a 14, aB ta 32 u.2.2.2.2.2.1), (a 15, aB ta 48 u.2.2.2.2.2.2), (hb2, aS ta capb u.1), (hk, aS ta capk gk)]) 0 0 := by
  refine CT.of_v rfl (by decide) (Nat.le_of_ble_eq_true rfl) ?_
  intro pp ee ss mm below meth kc A Q hx hb hml hown hin hts hK hA hsz hG hret H locs hP hD hS ls hl
  have hl : lv_has ls 13 [(0, .ref h0), (1, .ref hb2), (2, .int (nI at0)), (3, .ref hk), (4, .int (nI fr)), (5, .int (qb β))] := hl
  refine lv_aload_n (pc := 0) hx hb dX10_des_0 rfl (lv_at hl 0 rfl) ?_
  refine lv_aload_n (pc := 1) hx hb dX10_des_1 rfl (lv_at hl 3 rfl) ?_
  refine lv_iload (pc := 2) hx hb dX10_des_2 (lv_at hl 4 rfl) ?_
  refine cs_V (pc := 4) (idx := 16) (n := 2) (wr := [(a 0, aK ta 64 tIP), (a 1, aK ta 48 tSPR), (a 2, aK ta 32 tMIX), (a 5, aK ta 512 tSBX), (a 10, aB ta 64 bi), (a 11, aB ta 64 tu), (a 14, aB ta 32 hf), (a 15, aB ta 48 wd), (hb2, aS ta capb gb)]) (As := [.ref hk, .int (nI fr)]) (rest := []) (ci := 8) hx hb hml hown hts hGok hK hA hG hl.1 hP hD hS (ct_X10_desKey ll D ta hGok h0 a ar mn tp osz lsz ns ct hk fr capk gk cd sk (by first | assumption | omega | rfl | decide) (by first | assumption | omega | rfl | decide) H.size) tw_1298 tw_1295 tw_1297 tw_34 tw_75 hdX10_desKey rfl ⟨rfl, rfl, Nat.le_of_ble_eq_true rfl, Nat.le_of_ble_eq_true rfl, Nat.le_of_ble_eq_true rfl, Nat.le_of_ble_eq_true rfl⟩ rfl rfl (q0 := 0) rfl [0, 4, 5, 9, 10, 14] [1, 2, 3, 6, 7, 8, 11, 12, 13] rfl rfl (by decide) rfl (Nat.le_of_ble_eq_true rfl) dX10_des_4 (fun u H locs hq hP hD hS => ?_)
  obtain ⟨cd1_4, sk1_4⟩ := u
  have hq : (∀ j, j < 768 → sk1_4 j = dSub (dBit gk fr) (j / 48) (j % 48)) := hq
  have hk1_4 := hq
  refine W.eq (g2 := F0 mm 7 ls []) rfl ?_
  have hP : va_P D vwCl [(a 0, aK ta 64 tIP), (a 1, aK ta 48 tSPR), (a 2, aK ta 32 tMIX), (a 5, aK ta 512 tSBX), (a 10, aB ta 64 bi), (a 11, aB ta 64 tu), (a 14, aB ta 32 hf), (a 15, aB ta 48 wd), (hb2, aS ta capb gb), (h0, oM a ar mn tp osz lsz ns ct), (a 3, aK ta 56 tCH), (a 4, aK ta 48 tSEC), (a 12, aB ta 56 cd1_4), (a 13, aB ta 768 sk1_4), (hk, aS ta capk gk)] H := hP
  have hD : va_D A [(a 0, aK ta 64 tIP), (a 1, aK ta 48 tSPR), (a 2, aK ta 32 tMIX), (a 5, aK ta 512 tSBX), (a 10, aB ta 64 bi), (a 11, aB ta 64 tu), (a 14, aB ta 32 hf), (a 15, aB ta 48 wd), (hb2, aS ta capb gb), (h0, oM a ar mn tp osz lsz ns ct), (a 3, aK ta 56 tCH), (a 4, aK ta 48 tSEC), (a 12, aB ta 56 cd1_4), (a 13, aB ta 768 sk1_4), (hk, aS ta capk gk)] := hD
  refine lv_iconst (pc := 7) (v := nI 0) hx hb dX10_des_7 (by decide +kernel) ?_
  refine lv_istore (pc := 8) (lv' := [(6, .int (nI 0)), (0, .ref h0), (1, .ref hb2), (2, .int (nI at0)), (3, .ref hk), (4, .int (nI fr)), (5, .int (qb β))]) hx hb dX10_des_8 hl (by decide) rfl (fun ls hl => ?_)
  have LP10 : ∀ (nn10 : Nat) (k : Nat) (b' : Nat → Bool), (k ≤ 64) → (qSeg b' bi 0 k (dIP (dBit gb at0))) → (64 - k < nn10) → ∀ (H : Heap) (locs : List Loc), va_P D vwCl [(a 0, aK ta 64 tIP), (a 1, aK ta 48 tSPR), (a 2, aK ta 32 tMIX), (a 5, aK ta 512 tSBX), (a 10, aB ta 64 b'), (a 11, aB ta 64 tu), (a 14, aB ta 32 hf), (a 15, aB ta 48 wd), (hb2, aS ta capb gb), (h0, oM a ar mn tp osz lsz ns ct), (a 3, aK ta 56 tCH), (a 4, aK ta 48 tSEC), (a 12, aB ta 56 cd1_4), (a 13, aB ta 768 sk1_4), (hk, aS ta capk gk)] H → va_D A [(a 0, aK ta 64 tIP), (a 1, aK ta 48 tSPR), (a 2, aK ta 32 tMIX), (a 5, aK ta 512 tSBX), (a 10, aB ta 64 b'), (a 11, aB ta 64 tu), (a 14, aB ta 32 hf), (a 15, aB ta 48 wd), (hb2, aS ta capb gb), (h0, oM a ar mn tp osz lsz ns ct), (a 3, aK ta 56 tCH), (a 4, aK ta 48 tSEC), (a 12, aB ta 56 cd1_4), (a 13, aB ta 768 sk1_4), (hk, aS ta capk gk)] → va_S A ss.heap H locs → ∀ ls : Array Slot, lv_has ls 13 [(6, .int (nI k)), (0, .ref h0), (1, .ref hb2), (2, .int (nI at0)), (3, .ref hk), (4, .int (nI fr)), (5, .int (qb β))] → W pp ll ee ({ frames := 1, cells := 0, slots := 0, locals := 28 } : Room) ss mm (([.ref h0, .ref hb2, .int (nI at0), .ref hk, .int (nI fr), .int (qb β)] : List Value).toArray) below meth kc H locs 0 0 Q (F0 mm 10 ls []) := by
    intro nn10
    induction nn10 with
    | zero => intro k b' hkk hs hmu; exact absurd hmu (Nat.not_lt_zero _)
    | succ nn10 ih10 =>
      intro k b' hkk hs hmu10 H locs hP hD hS ls hl
      refine lv_iload (pc := 10) hx hb dX10_des_10 (lv_at hl 0 rfl) ?_
      refine lv_bipush (pc := 12) (v := nI 64) hx hb dX10_des_12 (by decide +kernel) ?_
      refine lv_icmp_ge (pc := 14) (tgt := 64) hx hb dX10_des_14 (by decide) (fun c_1 => ?_) (fun c_1 => ?_)
      · skip
        rw [nI_leI (by omega) (by omega)] at c_1
        refine lv_iconst (pc := 64) (v := nI 0) hx hb dX10_des_64 (by decide +kernel) ?_
        refine lv_istore (pc := 65) (lv' := [(6, .int (nI 0)), (0, .ref h0), (1, .ref hb2), (2, .int (nI at0)), (3, .ref hk), (4, .int (nI fr)), (5, .int (qb β))]) hx hb dX10_des_65 hl (by decide) rfl (fun ls hl => ?_)
        have LP67 : ∀ (nn67 : Nat) (c : Nat) (b2 : Nat → Bool) (t2 : Nat → Bool) (h2 : Nat → Bool) (w2 : Nat → Bool), (c ≤ 16) → (∀ j, j < 64 → b2 j = (dRs (dIP (dBit gb at0)) (dKs (dBit gk fr) β) c) j) → (16 - c < nn67) → ∀ (H : Heap) (locs : List Loc), va_P D vwCl [(a 0, aK ta 64 tIP), (a 1, aK ta 48 tSPR), (a 2, aK ta 32 tMIX), (a 5, aK ta 512 tSBX), (a 10, aB ta 64 b2), (a 11, aB ta 64 t2), (a 14, aB ta 32 h2), (a 15, aB ta 48 w2), (hb2, aS ta capb gb), (h0, oM a ar mn tp osz lsz ns ct), (a 3, aK ta 56 tCH), (a 4, aK ta 48 tSEC), (a 12, aB ta 56 cd1_4), (a 13, aB ta 768 sk1_4), (hk, aS ta capk gk)] H → va_D A [(a 0, aK ta 64 tIP), (a 1, aK ta 48 tSPR), (a 2, aK ta 32 tMIX), (a 5, aK ta 512 tSBX), (a 10, aB ta 64 b2), (a 11, aB ta 64 t2), (a 14, aB ta 32 h2), (a 15, aB ta 48 w2), (hb2, aS ta capb gb), (h0, oM a ar mn tp osz lsz ns ct), (a 3, aK ta 56 tCH), (a 4, aK ta 48 tSEC), (a 12, aB ta 56 cd1_4), (a 13, aB ta 768 sk1_4), (hk, aS ta capk gk)] → va_S A ss.heap H locs → ∀ ls : Array Slot, lv_has ls 13 [(6, .int (nI c)), (0, .ref h0), (1, .ref hb2), (2, .int (nI at0)), (3, .ref hk), (4, .int (nI fr)), (5, .int (qb β))] → W pp ll ee ({ frames := 1, cells := 0, slots := 0, locals := 28 } : Room) ss mm (([.ref h0, .ref hb2, .int (nI at0), .ref hk, .int (nI fr), .int (qb β)] : List Value).toArray) below meth kc H locs 0 0 Q (F0 mm 67 ls []) := by
          intro nn67
          induction nn67 with
          | zero => intro c b2 t2 h2 w2 hcc hX1 hmu; exact absurd hmu (Nat.not_lt_zero _)
          | succ nn67 ih67 =>
            intro c b2 t2 h2 w2 hcc hX1 hmu67 H locs hP hD hS ls hl
            refine lv_iload (pc := 67) hx hb dX10_des_67 (lv_at hl 0 rfl) ?_
            refine lv_bipush (pc := 69) (v := nI 16) hx hb dX10_des_69 (by decide +kernel) ?_
            refine lv_icmp_ge (pc := 71) (tgt := 406) hx hb dX10_des_71 (by decide) (fun c_2 => ?_) (fun c_2 => ?_)
            · skip
              rw [nI_leI (by omega) (by omega)] at c_2
              refine lv_iconst (pc := 406) (v := nI 0) hx hb dX10_des_406 (by decide +kernel) ?_
              refine lv_istore (pc := 407) (lv' := [(6, .int (nI 0)), (0, .ref h0), (1, .ref hb2), (2, .int (nI at0)), (3, .ref hk), (4, .int (nI fr)), (5, .int (qb β))]) hx hb dX10_des_407 hl (by decide) rfl (fun ls hl => ?_)
              have LP409 : ∀ (nn409 : Nat) (k : Nat) (g' : Nat → BitVec 8), (k ≤ 8) → (qSeg g' gb at0 k (fun _ => 0#8)) → (8 - k < nn409) → ∀ (H : Heap) (locs : List Loc), va_P D vwCl [(a 0, aK ta 64 tIP), (a 1, aK ta 48 tSPR), (a 2, aK ta 32 tMIX), (a 5, aK ta 512 tSBX), (a 10, aB ta 64 b2), (a 11, aB ta 64 t2), (a 14, aB ta 32 h2), (a 15, aB ta 48 w2), (hb2, aS ta capb g'), (h0, oM a ar mn tp osz lsz ns ct), (a 3, aK ta 56 tCH), (a 4, aK ta 48 tSEC), (a 12, aB ta 56 cd1_4), (a 13, aB ta 768 sk1_4), (hk, aS ta capk gk)] H → va_D A [(a 0, aK ta 64 tIP), (a 1, aK ta 48 tSPR), (a 2, aK ta 32 tMIX), (a 5, aK ta 512 tSBX), (a 10, aB ta 64 b2), (a 11, aB ta 64 t2), (a 14, aB ta 32 h2), (a 15, aB ta 48 w2), (hb2, aS ta capb g'), (h0, oM a ar mn tp osz lsz ns ct), (a 3, aK ta 56 tCH), (a 4, aK ta 48 tSEC), (a 12, aB ta 56 cd1_4), (a 13, aB ta 768 sk1_4), (hk, aS ta capk gk)] → va_S A ss.heap H locs → ∀ ls : Array Slot, lv_has ls 13 [(6, .int (nI k)), (0, .ref h0), (1, .ref hb2), (2, .int (nI at0)), (3, .ref hk), (4, .int (nI fr)), (5, .int (qb β))] → W pp ll ee ({ frames := 1, cells := 0, slots := 0, locals := 28 } : Room) ss mm (([.ref h0, .ref hb2, .int (nI at0), .ref hk, .int (nI fr), .int (qb β)] : List Value).toArray) below meth kc H locs 0 0 Q (F0 mm 409 ls []) := by
                intro nn409
                induction nn409 with
                | zero => intro k g' hkk2 hg hmu; exact absurd hmu (Nat.not_lt_zero _)
                | succ nn409 ih409 =>
                  intro k g' hkk2 hg hmu409 H locs hP hD hS ls hl
                  refine lv_iload (pc := 409) hx hb dX10_des_409 (lv_at hl 0 rfl) ?_
                  refine lv_bipush (pc := 411) (v := nI 8) hx hb dX10_des_411 (by decide +kernel) ?_
                  refine lv_icmp_ge (pc := 413) (tgt := 429) hx hb dX10_des_413 (by decide) (fun c_3 => ?_) (fun c_3 => ?_)
                  · skip
                    rw [nI_leI (by omega) (by omega)] at c_3
                    refine lv_iconst (pc := 429) (v := nI 0) hx hb dX10_des_429 (by decide +kernel) ?_
                    refine lv_istore (pc := 430) (lv' := [(6, .int (nI 0)), (0, .ref h0), (1, .ref hb2), (2, .int (nI at0)), (3, .ref hk), (4, .int (nI fr)), (5, .int (qb β))]) hx hb dX10_des_430 hl (by decide) rfl (fun ls hl => ?_)
                    have LP432 : ∀ (nn432 : Nat) (q : Nat) (o' : Nat → BitVec 8), (q ≤ 64) → (∀ j, j < 64 → dBit o' at0 (tIP j - 1) = (decide (j < q) && dSw b2 j)) → (∀ j, (j < at0 ∨ at0 + 8 ≤ j) → o' j = gb j) → (64 - q < nn432) → ∀ (H : Heap) (locs : List Loc), va_P D vwCl [(a 0, aK ta 64 tIP), (a 1, aK ta 48 tSPR), (a 2, aK ta 32 tMIX), (a 5, aK ta 512 tSBX), (a 10, aB ta 64 b2), (a 11, aB ta 64 t2), (a 14, aB ta 32 h2), (a 15, aB ta 48 w2), (hb2, aS ta capb o'), (h0, oM a ar mn tp osz lsz ns ct), (a 3, aK ta 56 tCH), (a 4, aK ta 48 tSEC), (a 12, aB ta 56 cd1_4), (a 13, aB ta 768 sk1_4), (hk, aS ta capk gk)] H → va_D A [(a 0, aK ta 64 tIP), (a 1, aK ta 48 tSPR), (a 2, aK ta 32 tMIX), (a 5, aK ta 512 tSBX), (a 10, aB ta 64 b2), (a 11, aB ta 64 t2), (a 14, aB ta 32 h2), (a 15, aB ta 48 w2), (hb2, aS ta capb o'), (h0, oM a ar mn tp osz lsz ns ct), (a 3, aK ta 56 tCH), (a 4, aK ta 48 tSEC), (a 12, aB ta 56 cd1_4), (a 13, aB ta 768 sk1_4), (hk, aS ta capk gk)] → va_S A ss.heap H locs → ∀ ls : Array Slot, lv_has ls 13 [(6, .int (nI q)), (0, .ref h0), (1, .ref hb2), (2, .int (nI at0)), (3, .ref hk), (4, .int (nI fr)), (5, .int (qb β))] → W pp ll ee ({ frames := 1, cells := 0, slots := 0, locals := 28 } : Room) ss mm (([.ref h0, .ref hb2, .int (nI at0), .ref hk, .int (nI fr), .int (qb β)] : List Value).toArray) below meth kc H locs 0 0 Q (F0 mm 432 ls []) := by
                      intro nn432
                      induction nn432 with
                      | zero => intro q o' hqq hou hof hmu; exact absurd hmu (Nat.not_lt_zero _)
                      | succ nn432 ih432 =>
                        intro q o' hqq hou hof hmu432 H locs hP hD hS ls hl
                        refine lv_iload (pc := 432) hx hb dX10_des_432 (lv_at hl 0 rfl) ?_
                        refine lv_bipush (pc := 434) (v := nI 64) hx hb dX10_des_434 (by decide +kernel) ?_
                        refine lv_icmp_ge (pc := 436) (tgt := 511) hx hb dX10_des_436 (by decide) (fun c_4 => ?_) (fun c_4 => ?_)
                        · skip
                          rw [nI_leI (by omega) (by omega)] at c_4
                          have hq_5 : (∀ j, j < 64 → dBit o' at0 j = DES (dBit gk fr) (dBit gb at0) β j) ∧ (∀ j, (j < at0 ∨ at0 + 8 ≤ j) → o' j = gb j) := by
                            refine ⟨fun j hj => ?_, hof⟩
                            have hb := tIPI_b hj
                            have q1 := hou (tIPI j) (by omega)
                            rw [tIP_IPI hj, Nat.add_sub_cancel, decide_eq_true (by omega), Bool.true_and] at q1
                            rw [q1]
                            have ec : c = 16 := by omega
                            subst ec
                            simp only [DES, dFP, dSw]
                            exact hX1 _ (by split <;> omega)
                          exact hret (⟨(o'), (b2), (t2), (cd1_4), (sk1_4), (h2), (w2)⟩ : (Nat → BitVec 8) × (Nat → Bool) × (Nat → Bool) × (Nat → Bool) × (Nat → Bool) × (Nat → Bool) × (Nat → Bool)) _ _ _ _ dX10_des_511 hq_5 (hP.sub [9, 0, 1, 2, 10, 11, 3, 4, 5, 12, 13, 6, 7, 8, 14] rfl) (hD.sub [9, 0, 1, 2, 10, 11, 3, 4, 5, 12, 13, 6, 7, 8, 14] (by decide) rfl) hS
                        · skip
                          rw [nI_leI (by omega) (by omega)] at c_4
                          have hbd := tIP_b (k := q) (by omega)
                          refine lv_aload_n (pc := 439) hx hb dX10_des_439 rfl (lv_at hl 1 rfl) ?_
                          refine va_get (pc := 440) (D := D) (ci := 8) (v := .ref (a 10)) (C := RX10) (T := TX10) (N := 57) hx hb hts iu10 hown hK hP 9 rfl rfl 10 (by decide) (hts _ tw_1055) (fun _ h9 => h9) rfl dX10_des_440 ?_
                          refine lv_iload (pc := 443) hx hb dX10_des_443 (lv_at hl 0 rfl) ?_
                          refine lv_bipush (pc := 445) (v := nI 32) hx hb dX10_des_445 (by decide +kernel) ?_
                          refine lv_icmp_ge (pc := 447) (tgt := 458) hx hb dX10_des_447 (by decide) (fun c_6 => ?_) (fun c_6 => ?_)
                          · skip
                            rw [nI_leI (by omega) (by omega)] at c_6
                            refine lv_iload (pc := 458) hx hb dX10_des_458 (lv_at hl 0 rfl) ?_
                            refine lv_bipush (pc := 460) (v := nI 32) hx hb dX10_des_460 (by decide +kernel) ?_
                            refine lv_isub (pc := 462) hx hb dX10_des_462 ?_
                            refine q_top (y := nI (q - 32)) (pk_sub (a := q) (b := 32) (by omega)) ?_
                            refine q_iald (pc := 463) hx hb hK hP 4 0 rfl rfl (k := q - 32) (v := qb (b2 (q - 32))) rfl (by omega) (by omega) rfl dX10_des_463 ?_
                            refine lv_istore (pc := 464) (lv' := [(7, .int (qb (b2 (q - 32)))), (6, .int (nI q)), (0, .ref h0), (1, .ref hb2), (2, .int (nI at0)), (3, .ref hk), (4, .int (nI fr)), (5, .int (qb β))]) hx hb dX10_des_464 hl (by decide) rfl (fun ls hl => ?_)
                            refine lv_aload_n (pc := 466) hx hb dX10_des_466 rfl (lv_at hl 3 rfl) ?_
                            refine lv_iload_n (pc := 467) hx hb dX10_des_467 rfl (lv_at hl 4 rfl) ?_
                            refine lv_aload_n (pc := 468) hx hb dX10_des_468 rfl (lv_at hl 2 rfl) ?_
                            refine va_get (pc := 469) (D := D) (ci := 8) (v := .ref (a 0)) (C := RX10) (T := TX10) (N := 57) hx hb hts iu10 hown hK hP 9 rfl rfl 0 (by decide) (hts _ tw_1045) (fun _ h9 => h9) rfl dX10_des_469 ?_
                            refine lv_iload (pc := 472) hx hb dX10_des_472 (lv_at hl 1 rfl) ?_
                            refine q_iald (pc := 474) hx hb hK hP 0 0 rfl rfl (k := q) (v := nI (tIP q)) rfl (by omega) (by omega) rfl dX10_des_474 ?_
                            refine lv_iconst (pc := 475) (v := nI 1) hx hb dX10_des_475 (by decide +kernel) ?_
                            refine lv_isub (pc := 476) hx hb dX10_des_476 ?_
                            refine q_top (y := nI (tIP q - 1)) (pk_sub (a := tIP q) (b := 1) (by omega)) ?_
                            refine lv_bipush (pc := 477) (v := nI 8) hx hb dX10_des_477 (by decide +kernel) ?_
                            refine lv_idiv (pc := 479) hx hb dX10_des_479 (q_ne0 (by omega) (by omega)) ?_
                            refine q_top (y := nI ((tIP q - 1) / 8)) (pk_div (by omega) (by omega) (by omega)) ?_
                            refine lv_iadd (pc := 480) hx hb dX10_des_480 ?_
                            refine q_top (y := nI (at0 + ((tIP q - 1) / 8))) (nI_add at0 ((tIP q - 1) / 8)) ?_
                            refine lv_dup2_11 (pc := 481) hx hb dX10_des_481 rfl rfl ?_
                            refine q_bald (pc := 482) hx hb hK hP 8 2 rfl rfl (k := at0 + ((tIP q - 1) / 8)) (v := qs (o' (at0 + ((tIP q - 1) / 8)))) rfl (by omega) (by omega) rfl dX10_des_482 ?_
                            refine lv_iload (pc := 483) hx hb dX10_des_483 (lv_at hl 0 rfl) ?_
                            refine lv_bipush (pc := 485) (v := nI 7) hx hb dX10_des_485 (by decide +kernel) ?_
                            refine lv_aload_n (pc := 487) hx hb dX10_des_487 rfl (lv_at hl 2 rfl) ?_
                            refine va_get (pc := 488) (D := D) (ci := 8) (v := .ref (a 0)) (C := RX10) (T := TX10) (N := 57) hx hb hts iu10 hown hK hP 9 rfl rfl 0 (by decide) (hts _ tw_1045) (fun _ h9 => h9) rfl dX10_des_488 ?_
                            refine lv_iload (pc := 491) hx hb dX10_des_491 (lv_at hl 1 rfl) ?_
                            refine q_iald (pc := 493) hx hb hK hP 0 0 rfl rfl (k := q) (v := nI (tIP q)) rfl (by omega) (by omega) rfl dX10_des_493 ?_
                            refine lv_iconst (pc := 494) (v := nI 1) hx hb dX10_des_494 (by decide +kernel) ?_
                            refine lv_isub (pc := 495) hx hb dX10_des_495 ?_
                            refine q_top (y := nI (tIP q - 1)) (pk_sub (a := tIP q) (b := 1) (by omega)) ?_
                            refine lv_bipush (pc := 496) (v := nI 8) hx hb dX10_des_496 (by decide +kernel) ?_
                            refine lv_irem (pc := 498) hx hb dX10_des_498 (q_ne0 (by omega) (by omega)) ?_
                            refine q_top (y := nI ((tIP q - 1) % 8)) (pk_rem (by omega) (by omega) (by omega)) ?_
                            refine lv_isub (pc := 499) hx hb dX10_des_499 ?_
                            refine q_top (y := nI (7 - ((tIP q - 1) % 8))) (pk_sub (a := 7) (b := (tIP q - 1) % 8) (by omega)) ?_
                            refine lv_ishl (pc := 500) hx hb dX10_des_500 ?_
                            refine lv_i2b (pc := 501) (v := qs (qlo ((qb (b2 (q - 32))) <<< ((nI (7 - ((tIP q - 1) % 8))) &&& 31)))) hx hb dX10_des_501 (q_i2b _) ?_
                            refine lv_ior (pc := 502) hx hb dX10_des_502 ?_
                            refine q_top (y := qs ((o' (at0 + ((tIP q - 1) / 8))) ||| (qlo ((qb (b2 (q - 32))) <<< ((nI (7 - ((tIP q - 1) % 8))) &&& 31))))) (q_or_s _ _) ?_
                            refine lv_i2b (pc := 503) (v := qs ((o' (at0 + ((tIP q - 1) / 8))) ||| (qlo ((qb (b2 (q - 32))) <<< ((nI (7 - ((tIP q - 1) % 8))) &&& 31))))) hx hb dX10_des_503 (q_i2b_s _) ?_
                            refine q_bastS (pc := 504) hx hb hK hP hD hS 8 2 rfl rfl (k := at0 + ((tIP q - 1) / 8)) rfl (by omega) (by omega) (b := (o' (at0 + ((tIP q - 1) / 8))) ||| (qlo ((qb (b2 (q - 32))) <<< ((nI (7 - ((tIP q - 1) % 8))) &&& 31)))) (qlo_qs _) dX10_des_504 (fun H locs hP hD hS => ?_)
                            have hP : va_P D vwCl [(a 0, aK ta 64 tIP), (a 1, aK ta 48 tSPR), (a 2, aK ta 32 tMIX), (a 5, aK ta 512 tSBX), (a 10, aB ta 64 b2), (a 11, aB ta 64 t2), (a 14, aB ta 32 h2), (a 15, aB ta 48 w2), (hb2, aS ta capb (qU o' (at0 + ((tIP q - 1) / 8)) ((o' (at0 + ((tIP q - 1) / 8))) ||| (qlo ((qb (b2 (q - 32))) <<< ((nI (7 - ((tIP q - 1) % 8))) &&& 31)))))), (h0, oM a ar mn tp osz lsz ns ct), (a 3, aK ta 56 tCH), (a 4, aK ta 48 tSEC), (a 12, aB ta 56 cd1_4), (a 13, aB ta 768 sk1_4), (hk, aS ta capk gk)] H := hP
                            have hD : va_D A [(a 0, aK ta 64 tIP), (a 1, aK ta 48 tSPR), (a 2, aK ta 32 tMIX), (a 5, aK ta 512 tSBX), (a 10, aB ta 64 b2), (a 11, aB ta 64 t2), (a 14, aB ta 32 h2), (a 15, aB ta 48 w2), (hb2, aS ta capb (qU o' (at0 + ((tIP q - 1) / 8)) ((o' (at0 + ((tIP q - 1) / 8))) ||| (qlo ((qb (b2 (q - 32))) <<< ((nI (7 - ((tIP q - 1) % 8))) &&& 31)))))), (h0, oM a ar mn tp osz lsz ns ct), (a 3, aK ta 56 tCH), (a 4, aK ta 48 tSEC), (a 12, aB ta 56 cd1_4), (a 13, aB ta 768 sk1_4), (hk, aS ta capk gk)] := hD
                            refine lv_iinc (pc := 505) (v := nI (q + 1)) (lv' := [(6, .int (nI (q + 1))), (7, .int (qb (b2 (q - 32)))), (0, .ref h0), (1, .ref hb2), (2, .int (nI at0)), (3, .ref hk), (4, .int (nI fr)), (5, .int (qb β))]) hx hb dX10_des_505 hl (k := 1) rfl (by first | exact nI_add q 1 | rfl) (by decide) rfl (fun ls hl => ?_)
                            refine lv_goto (pc := 508) (tgt := 432) hx hb dX10_des_508 (by decide) ?_
                            exact ih432 (q + 1) (qU o' (at0 + ((tIP q - 1) / 8)) ((o' (at0 + ((tIP q - 1) / 8))) ||| (qlo ((qb (b2 (q - 32))) <<< ((nI (7 - ((tIP q - 1) % 8))) &&& 31))))) (by omega) (by intro j hj; exact dOut_step (by omega) hj hou (by simp only [dSw]; first | rw [if_pos (by omega)] | rw [if_neg (by omega)])) (by intro j hj; rw [qU_ne (by omega)]; exact hof j hj) (by omega) _ _ (hP.sub [0, 1, 2, 3, 4, 5, 6, 7, 8, 9, 10, 11, 12, 13, 14] rfl) (hD.sub [0, 1, 2, 3, 4, 5, 6, 7, 8, 9, 10, 11, 12, 13, 14] (by decide) rfl) hS ls (lv_sub hl [0, 2, 3, 4, 5, 6, 7] rfl)
                          · skip
                            rw [nI_leI (by omega) (by omega)] at c_6
                            refine lv_bipush (pc := 450) (v := nI 32) hx hb dX10_des_450 (by decide +kernel) ?_
                            refine lv_iload (pc := 452) hx hb dX10_des_452 (lv_at hl 0 rfl) ?_
                            refine lv_iadd (pc := 454) hx hb dX10_des_454 ?_
                            refine q_top (y := nI (32 + q)) (nI_add 32 q) ?_
                            refine lv_goto (pc := 455) (tgt := 463) hx hb dX10_des_455 (by decide) ?_
                            refine q_iald (pc := 463) hx hb hK hP 4 0 rfl rfl (k := 32 + q) (v := qb (b2 (32 + q))) rfl (by omega) (by omega) rfl dX10_des_463 ?_
                            refine lv_istore (pc := 464) (lv' := [(7, .int (qb (b2 (32 + q)))), (6, .int (nI q)), (0, .ref h0), (1, .ref hb2), (2, .int (nI at0)), (3, .ref hk), (4, .int (nI fr)), (5, .int (qb β))]) hx hb dX10_des_464 hl (by decide) rfl (fun ls hl => ?_)
                            refine lv_aload_n (pc := 466) hx hb dX10_des_466 rfl (lv_at hl 3 rfl) ?_
                            refine lv_iload_n (pc := 467) hx hb dX10_des_467 rfl (lv_at hl 4 rfl) ?_
                            refine lv_aload_n (pc := 468) hx hb dX10_des_468 rfl (lv_at hl 2 rfl) ?_
                            refine va_get (pc := 469) (D := D) (ci := 8) (v := .ref (a 0)) (C := RX10) (T := TX10) (N := 57) hx hb hts iu10 hown hK hP 9 rfl rfl 0 (by decide) (hts _ tw_1045) (fun _ h9 => h9) rfl dX10_des_469 ?_
                            refine lv_iload (pc := 472) hx hb dX10_des_472 (lv_at hl 1 rfl) ?_
                            refine q_iald (pc := 474) hx hb hK hP 0 0 rfl rfl (k := q) (v := nI (tIP q)) rfl (by omega) (by omega) rfl dX10_des_474 ?_
                            refine lv_iconst (pc := 475) (v := nI 1) hx hb dX10_des_475 (by decide +kernel) ?_
                            refine lv_isub (pc := 476) hx hb dX10_des_476 ?_
                            refine q_top (y := nI (tIP q - 1)) (pk_sub (a := tIP q) (b := 1) (by omega)) ?_
                            refine lv_bipush (pc := 477) (v := nI 8) hx hb dX10_des_477 (by decide +kernel) ?_
                            refine lv_idiv (pc := 479) hx hb dX10_des_479 (q_ne0 (by omega) (by omega)) ?_
                            refine q_top (y := nI ((tIP q - 1) / 8)) (pk_div (by omega) (by omega) (by omega)) ?_
                            refine lv_iadd (pc := 480) hx hb dX10_des_480 ?_
                            refine q_top (y := nI (at0 + ((tIP q - 1) / 8))) (nI_add at0 ((tIP q - 1) / 8)) ?_
                            refine lv_dup2_11 (pc := 481) hx hb dX10_des_481 rfl rfl ?_
                            refine q_bald (pc := 482) hx hb hK hP 8 2 rfl rfl (k := at0 + ((tIP q - 1) / 8)) (v := qs (o' (at0 + ((tIP q - 1) / 8)))) rfl (by omega) (by omega) rfl dX10_des_482 ?_
                            refine lv_iload (pc := 483) hx hb dX10_des_483 (lv_at hl 0 rfl) ?_
                            refine lv_bipush (pc := 485) (v := nI 7) hx hb dX10_des_485 (by decide +kernel) ?_
                            refine lv_aload_n (pc := 487) hx hb dX10_des_487 rfl (lv_at hl 2 rfl) ?_
                            refine va_get (pc := 488) (D := D) (ci := 8) (v := .ref (a 0)) (C := RX10) (T := TX10) (N := 57) hx hb hts iu10 hown hK hP 9 rfl rfl 0 (by decide) (hts _ tw_1045) (fun _ h9 => h9) rfl dX10_des_488 ?_
                            refine lv_iload (pc := 491) hx hb dX10_des_491 (lv_at hl 1 rfl) ?_
                            refine q_iald (pc := 493) hx hb hK hP 0 0 rfl rfl (k := q) (v := nI (tIP q)) rfl (by omega) (by omega) rfl dX10_des_493 ?_
                            refine lv_iconst (pc := 494) (v := nI 1) hx hb dX10_des_494 (by decide +kernel) ?_
                            refine lv_isub (pc := 495) hx hb dX10_des_495 ?_
                            refine q_top (y := nI (tIP q - 1)) (pk_sub (a := tIP q) (b := 1) (by omega)) ?_
                            refine lv_bipush (pc := 496) (v := nI 8) hx hb dX10_des_496 (by decide +kernel) ?_
                            refine lv_irem (pc := 498) hx hb dX10_des_498 (q_ne0 (by omega) (by omega)) ?_
                            refine q_top (y := nI ((tIP q - 1) % 8)) (pk_rem (by omega) (by omega) (by omega)) ?_
                            refine lv_isub (pc := 499) hx hb dX10_des_499 ?_
                            refine q_top (y := nI (7 - ((tIP q - 1) % 8))) (pk_sub (a := 7) (b := (tIP q - 1) % 8) (by omega)) ?_
                            refine lv_ishl (pc := 500) hx hb dX10_des_500 ?_
                            refine lv_i2b (pc := 501) (v := qs (qlo ((qb (b2 (32 + q))) <<< ((nI (7 - ((tIP q - 1) % 8))) &&& 31)))) hx hb dX10_des_501 (q_i2b _) ?_
                            refine lv_ior (pc := 502) hx hb dX10_des_502 ?_
                            refine q_top (y := qs ((o' (at0 + ((tIP q - 1) / 8))) ||| (qlo ((qb (b2 (32 + q))) <<< ((nI (7 - ((tIP q - 1) % 8))) &&& 31))))) (q_or_s _ _) ?_
                            refine lv_i2b (pc := 503) (v := qs ((o' (at0 + ((tIP q - 1) / 8))) ||| (qlo ((qb (b2 (32 + q))) <<< ((nI (7 - ((tIP q - 1) % 8))) &&& 31))))) hx hb dX10_des_503 (q_i2b_s _) ?_
                            refine q_bastS (pc := 504) hx hb hK hP hD hS 8 2 rfl rfl (k := at0 + ((tIP q - 1) / 8)) rfl (by omega) (by omega) (b := (o' (at0 + ((tIP q - 1) / 8))) ||| (qlo ((qb (b2 (32 + q))) <<< ((nI (7 - ((tIP q - 1) % 8))) &&& 31)))) (qlo_qs _) dX10_des_504 (fun H locs hP hD hS => ?_)
                            have hP : va_P D vwCl [(a 0, aK ta 64 tIP), (a 1, aK ta 48 tSPR), (a 2, aK ta 32 tMIX), (a 5, aK ta 512 tSBX), (a 10, aB ta 64 b2), (a 11, aB ta 64 t2), (a 14, aB ta 32 h2), (a 15, aB ta 48 w2), (hb2, aS ta capb (qU o' (at0 + ((tIP q - 1) / 8)) ((o' (at0 + ((tIP q - 1) / 8))) ||| (qlo ((qb (b2 (32 + q))) <<< ((nI (7 - ((tIP q - 1) % 8))) &&& 31)))))), (h0, oM a ar mn tp osz lsz ns ct), (a 3, aK ta 56 tCH), (a 4, aK ta 48 tSEC), (a 12, aB ta 56 cd1_4), (a 13, aB ta 768 sk1_4), (hk, aS ta capk gk)] H := hP
                            have hD : va_D A [(a 0, aK ta 64 tIP), (a 1, aK ta 48 tSPR), (a 2, aK ta 32 tMIX), (a 5, aK ta 512 tSBX), (a 10, aB ta 64 b2), (a 11, aB ta 64 t2), (a 14, aB ta 32 h2), (a 15, aB ta 48 w2), (hb2, aS ta capb (qU o' (at0 + ((tIP q - 1) / 8)) ((o' (at0 + ((tIP q - 1) / 8))) ||| (qlo ((qb (b2 (32 + q))) <<< ((nI (7 - ((tIP q - 1) % 8))) &&& 31)))))), (h0, oM a ar mn tp osz lsz ns ct), (a 3, aK ta 56 tCH), (a 4, aK ta 48 tSEC), (a 12, aB ta 56 cd1_4), (a 13, aB ta 768 sk1_4), (hk, aS ta capk gk)] := hD
                            refine lv_iinc (pc := 505) (v := nI (q + 1)) (lv' := [(6, .int (nI (q + 1))), (7, .int (qb (b2 (32 + q)))), (0, .ref h0), (1, .ref hb2), (2, .int (nI at0)), (3, .ref hk), (4, .int (nI fr)), (5, .int (qb β))]) hx hb dX10_des_505 hl (k := 1) rfl (by first | exact nI_add q 1 | rfl) (by decide) rfl (fun ls hl => ?_)
                            refine lv_goto (pc := 508) (tgt := 432) hx hb dX10_des_508 (by decide) ?_
                            exact ih432 (q + 1) (qU o' (at0 + ((tIP q - 1) / 8)) ((o' (at0 + ((tIP q - 1) / 8))) ||| (qlo ((qb (b2 (32 + q))) <<< ((nI (7 - ((tIP q - 1) % 8))) &&& 31))))) (by omega) (by intro j hj; exact dOut_step (by omega) hj hou (by simp only [dSw]; first | rw [if_pos (by omega)] | rw [if_neg (by omega)])) (by intro j hj; rw [qU_ne (by omega)]; exact hof j hj) (by omega) _ _ (hP.sub [0, 1, 2, 3, 4, 5, 6, 7, 8, 9, 10, 11, 12, 13, 14] rfl) (hD.sub [0, 1, 2, 3, 4, 5, 6, 7, 8, 9, 10, 11, 12, 13, 14] (by decide) rfl) hS ls (lv_sub hl [0, 2, 3, 4, 5, 6, 7] rfl)
                    exact LP432 _ 0 g' (by omega) (by intro j hj; have hb := tIP_b hj; simp only [dBit]; rw [hg.1 _ (by omega)]; simp) (fun j hj => hg.2 j (by omega)) (Nat.lt_succ_self _) _ _ (hP.sub [0, 1, 2, 3, 4, 5, 6, 7, 8, 9, 10, 11, 12, 13, 14] rfl) (hD.sub [0, 1, 2, 3, 4, 5, 6, 7, 8, 9, 10, 11, 12, 13, 14] (by decide) rfl) hS ls (lv_sub hl [0, 1, 2, 3, 4, 5, 6] rfl)
                  · skip
                    rw [nI_leI (by omega) (by omega)] at c_3
                    refine lv_aload_n (pc := 416) hx hb dX10_des_416 rfl (lv_at hl 2 rfl) ?_
                    refine lv_iload_n (pc := 417) hx hb dX10_des_417 rfl (lv_at hl 3 rfl) ?_
                    refine lv_iload (pc := 418) hx hb dX10_des_418 (lv_at hl 0 rfl) ?_
                    refine lv_iadd (pc := 420) hx hb dX10_des_420 ?_
                    refine q_top (y := nI (at0 + k)) (nI_add at0 k) ?_
                    refine lv_iconst (pc := 421) (v := nI 0) hx hb dX10_des_421 (by decide +kernel) ?_
                    refine q_bastS (pc := 422) hx hb hK hP hD hS 8 2 rfl rfl (k := at0 + k) rfl (by omega) (by omega) (b := BitVec.ofNat 8 0) (qlo_nI _) dX10_des_422 (fun H locs hP hD hS => ?_)
                    have hP : va_P D vwCl [(a 0, aK ta 64 tIP), (a 1, aK ta 48 tSPR), (a 2, aK ta 32 tMIX), (a 5, aK ta 512 tSBX), (a 10, aB ta 64 b2), (a 11, aB ta 64 t2), (a 14, aB ta 32 h2), (a 15, aB ta 48 w2), (hb2, aS ta capb (qU g' (at0 + k) (BitVec.ofNat 8 0))), (h0, oM a ar mn tp osz lsz ns ct), (a 3, aK ta 56 tCH), (a 4, aK ta 48 tSEC), (a 12, aB ta 56 cd1_4), (a 13, aB ta 768 sk1_4), (hk, aS ta capk gk)] H := hP
                    have hD : va_D A [(a 0, aK ta 64 tIP), (a 1, aK ta 48 tSPR), (a 2, aK ta 32 tMIX), (a 5, aK ta 512 tSBX), (a 10, aB ta 64 b2), (a 11, aB ta 64 t2), (a 14, aB ta 32 h2), (a 15, aB ta 48 w2), (hb2, aS ta capb (qU g' (at0 + k) (BitVec.ofNat 8 0))), (h0, oM a ar mn tp osz lsz ns ct), (a 3, aK ta 56 tCH), (a 4, aK ta 48 tSEC), (a 12, aB ta 56 cd1_4), (a 13, aB ta 768 sk1_4), (hk, aS ta capk gk)] := hD
                    refine lv_iinc (pc := 423) (v := nI (k + 1)) (lv' := [(6, .int (nI (k + 1))), (0, .ref h0), (1, .ref hb2), (2, .int (nI at0)), (3, .ref hk), (4, .int (nI fr)), (5, .int (qb β))]) hx hb dX10_des_423 hl (k := 0) rfl (by first | exact nI_add k 1 | rfl) (by decide) rfl (fun ls hl => ?_)
                    refine lv_goto (pc := 426) (tgt := 409) hx hb dX10_des_426 (by decide) ?_
                    exact ih409 (k + 1) (qU g' (at0 + k) (BitVec.ofNat 8 0)) (by omega) (qSeg_s hg rfl rfl) (by omega) _ _ (hP.sub [0, 1, 2, 3, 4, 5, 6, 7, 8, 9, 10, 11, 12, 13, 14] rfl) (hD.sub [0, 1, 2, 3, 4, 5, 6, 7, 8, 9, 10, 11, 12, 13, 14] (by decide) rfl) hS ls (lv_sub hl [0, 1, 2, 3, 4, 5, 6] rfl)
              exact LP409 _ 0 gb (by omega) (qSeg_0) (Nat.lt_succ_self _) _ _ (hP.sub [0, 1, 2, 3, 4, 5, 6, 7, 8, 9, 10, 11, 12, 13, 14] rfl) (hD.sub [0, 1, 2, 3, 4, 5, 6, 7, 8, 9, 10, 11, 12, 13, 14] (by decide) rfl) hS ls (lv_sub hl [0, 1, 2, 3, 4, 5, 6] rfl)
            · skip
              rw [nI_leI (by omega) (by omega)] at c_2
              have JN91 : ∀ (ri : Nat), (ri < 16 ∧ ri = (if β then 15 - c else c)) → ∀ (H : Heap) (locs : List Loc), va_P D vwCl [(a 0, aK ta 64 tIP), (a 1, aK ta 48 tSPR), (a 2, aK ta 32 tMIX), (a 5, aK ta 512 tSBX), (a 10, aB ta 64 b2), (a 11, aB ta 64 t2), (a 14, aB ta 32 h2), (a 15, aB ta 48 w2), (hb2, aS ta capb gb), (h0, oM a ar mn tp osz lsz ns ct), (a 3, aK ta 56 tCH), (a 4, aK ta 48 tSEC), (a 12, aB ta 56 cd1_4), (a 13, aB ta 768 sk1_4), (hk, aS ta capk gk)] H → va_D A [(a 0, aK ta 64 tIP), (a 1, aK ta 48 tSPR), (a 2, aK ta 32 tMIX), (a 5, aK ta 512 tSBX), (a 10, aB ta 64 b2), (a 11, aB ta 64 t2), (a 14, aB ta 32 h2), (a 15, aB ta 48 w2), (hb2, aS ta capb gb), (h0, oM a ar mn tp osz lsz ns ct), (a 3, aK ta 56 tCH), (a 4, aK ta 48 tSEC), (a 12, aB ta 56 cd1_4), (a 13, aB ta 768 sk1_4), (hk, aS ta capk gk)] → va_S A ss.heap H locs → ∀ ls : Array Slot, lv_has ls 13 [(6, .int (nI c)), (0, .ref h0), (1, .ref hb2), (2, .int (nI at0)), (3, .ref hk), (4, .int (nI fr)), (5, .int (qb β))] → W pp ll ee ({ frames := 1, cells := 0, slots := 0, locals := 28 } : Room) ss mm (([.ref h0, .ref hb2, .int (nI at0), .ref hk, .int (nI fr), .int (qb β)] : List Value).toArray) below meth kc H locs 0 0 Q (F0 mm 91 ls [.int (nI ri), .int (nI 48)]) := by
                intro ri hri H locs hP hD hS ls hl
                refine lv_imul (pc := 91) hx hb dX10_des_91 ?_
                refine q_top (y := nI (48 * ri)) (pk_mul 48 ri) ?_
                refine lv_istore (pc := 92) (lv' := [(7, .int (nI (48 * ri))), (6, .int (nI c)), (0, .ref h0), (1, .ref hb2), (2, .int (nI at0)), (3, .ref hk), (4, .int (nI fr)), (5, .int (qb β))]) hx hb dX10_des_92 hl (by decide) rfl (fun ls hl => ?_)
                refine lv_iconst (pc := 94) (v := nI 0) hx hb dX10_des_94 (by decide +kernel) ?_
                refine lv_istore (pc := 95) (lv' := [(8, .int (nI 0)), (7, .int (nI (48 * ri))), (6, .int (nI c)), (0, .ref h0), (1, .ref hb2), (2, .int (nI at0)), (3, .ref hk), (4, .int (nI fr)), (5, .int (qb β))]) hx hb dX10_des_95 hl (by decide) rfl (fun ls hl => ?_)
                have LP97 : ∀ (nn97 : Nat) (d : Nat) (w' : Nat → Bool), (d ≤ 48) → (qSeg w' w2 0 d (dWord (dRs (dIP (dBit gb at0)) (dKs (dBit gk fr) β) c) (dKs (dBit gk fr) β c))) → (48 - d < nn97) → ∀ (H : Heap) (locs : List Loc), va_P D vwCl [(a 0, aK ta 64 tIP), (a 1, aK ta 48 tSPR), (a 2, aK ta 32 tMIX), (a 5, aK ta 512 tSBX), (a 10, aB ta 64 b2), (a 11, aB ta 64 t2), (a 14, aB ta 32 h2), (a 15, aB ta 48 w'), (hb2, aS ta capb gb), (h0, oM a ar mn tp osz lsz ns ct), (a 3, aK ta 56 tCH), (a 4, aK ta 48 tSEC), (a 12, aB ta 56 cd1_4), (a 13, aB ta 768 sk1_4), (hk, aS ta capk gk)] H → va_D A [(a 0, aK ta 64 tIP), (a 1, aK ta 48 tSPR), (a 2, aK ta 32 tMIX), (a 5, aK ta 512 tSBX), (a 10, aB ta 64 b2), (a 11, aB ta 64 t2), (a 14, aB ta 32 h2), (a 15, aB ta 48 w'), (hb2, aS ta capb gb), (h0, oM a ar mn tp osz lsz ns ct), (a 3, aK ta 56 tCH), (a 4, aK ta 48 tSEC), (a 12, aB ta 56 cd1_4), (a 13, aB ta 768 sk1_4), (hk, aS ta capk gk)] → va_S A ss.heap H locs → ∀ ls : Array Slot, lv_has ls 13 [(8, .int (nI d)), (7, .int (nI (48 * ri))), (6, .int (nI c)), (0, .ref h0), (1, .ref hb2), (2, .int (nI at0)), (3, .ref hk), (4, .int (nI fr)), (5, .int (qb β))] → W pp ll ee ({ frames := 1, cells := 0, slots := 0, locals := 28 } : Room) ss mm (([.ref h0, .ref hb2, .int (nI at0), .ref hk, .int (nI fr), .int (qb β)] : List Value).toArray) below meth kc H locs 0 0 Q (F0 mm 97 ls []) := by
                  intro nn97
                  induction nn97 with
                  | zero => intro d w' hdd hw hmu; exact absurd hmu (Nat.not_lt_zero _)
                  | succ nn97 ih97 =>
                    intro d w' hdd hw hmu97 H locs hP hD hS ls hl
                    refine lv_iload (pc := 97) hx hb dX10_des_97 (lv_at hl 0 rfl) ?_
                    refine lv_bipush (pc := 99) (v := nI 48) hx hb dX10_des_99 (by decide +kernel) ?_
                    refine lv_icmp_ge (pc := 101) (tgt := 145) hx hb dX10_des_101 (by decide) (fun c_7 => ?_) (fun c_7 => ?_)
                    · skip
                      rw [nI_leI (by omega) (by omega)] at c_7
                      refine lv_iconst (pc := 145) (v := nI 0) hx hb dX10_des_145 (by decide +kernel) ?_
                      refine lv_istore (pc := 146) (lv' := [(8, .int (nI 0)), (7, .int (nI (48 * ri))), (6, .int (nI c)), (0, .ref h0), (1, .ref hb2), (2, .int (nI at0)), (3, .ref hk), (4, .int (nI fr)), (5, .int (qb β))]) hx hb dX10_des_146 hl (by decide) rfl (fun ls hl => ?_)
                      have LP148 : ∀ (nn148 : Nat) (s : Nat) (h' : Nat → Bool), (s ≤ 8) → (qSeg h' h2 0 (4 * s) (dHalf (dWord (dRs (dIP (dBit gb at0)) (dKs (dBit gk fr) β) c) (dKs (dBit gk fr) β c)))) → (8 - s < nn148) → ∀ (H : Heap) (locs : List Loc), va_P D vwCl [(a 0, aK ta 64 tIP), (a 1, aK ta 48 tSPR), (a 2, aK ta 32 tMIX), (a 5, aK ta 512 tSBX), (a 10, aB ta 64 b2), (a 11, aB ta 64 t2), (a 14, aB ta 32 h'), (a 15, aB ta 48 w'), (hb2, aS ta capb gb), (h0, oM a ar mn tp osz lsz ns ct), (a 3, aK ta 56 tCH), (a 4, aK ta 48 tSEC), (a 12, aB ta 56 cd1_4), (a 13, aB ta 768 sk1_4), (hk, aS ta capk gk)] H → va_D A [(a 0, aK ta 64 tIP), (a 1, aK ta 48 tSPR), (a 2, aK ta 32 tMIX), (a 5, aK ta 512 tSBX), (a 10, aB ta 64 b2), (a 11, aB ta 64 t2), (a 14, aB ta 32 h'), (a 15, aB ta 48 w'), (hb2, aS ta capb gb), (h0, oM a ar mn tp osz lsz ns ct), (a 3, aK ta 56 tCH), (a 4, aK ta 48 tSEC), (a 12, aB ta 56 cd1_4), (a 13, aB ta 768 sk1_4), (hk, aS ta capk gk)] → va_S A ss.heap H locs → ∀ ls : Array Slot, lv_has ls 13 [(8, .int (nI s)), (7, .int (nI (48 * ri))), (6, .int (nI c)), (0, .ref h0), (1, .ref hb2), (2, .int (nI at0)), (3, .ref hk), (4, .int (nI fr)), (5, .int (qb β))] → W pp ll ee ({ frames := 1, cells := 0, slots := 0, locals := 28 } : Room) ss mm (([.ref h0, .ref hb2, .int (nI at0), .ref hk, .int (nI fr), .int (qb β)] : List Value).toArray) below meth kc H locs 0 0 Q (F0 mm 148 ls []) := by
                        intro nn148
                        induction nn148 with
                        | zero => intro s h' hss hh hmu; exact absurd hmu (Nat.not_lt_zero _)
                        | succ nn148 ih148 =>
                          intro s h' hss hh hmu148 H locs hP hD hS ls hl
                          refine lv_iload (pc := 148) hx hb dX10_des_148 (lv_at hl 0 rfl) ?_
                          refine lv_bipush (pc := 150) (v := nI 8) hx hb dX10_des_150 (by decide +kernel) ?_
                          refine lv_icmp_ge (pc := 152) (tgt := 305) hx hb dX10_des_152 (by decide) (fun c_8 => ?_) (fun c_8 => ?_)
                          · skip
                            rw [nI_leI (by omega) (by omega)] at c_8
                            refine lv_iconst (pc := 305) (v := nI 0) hx hb dX10_des_305 (by decide +kernel) ?_
                            refine lv_istore (pc := 306) (lv' := [(8, .int (nI 0)), (7, .int (nI (48 * ri))), (6, .int (nI c)), (0, .ref h0), (1, .ref hb2), (2, .int (nI at0)), (3, .ref hk), (4, .int (nI fr)), (5, .int (qb β))]) hx hb dX10_des_306 hl (by decide) rfl (fun ls hl => ?_)
                            have LP308 : ∀ (nn308 : Nat) (d : Nat) (t' : Nat → Bool), (d ≤ 32) → (qSeg t' t2 0 d (fun k => (dRs (dIP (dBit gb at0)) (dKs (dBit gk fr) β) c) k ^^ dHalf (dWord (dRs (dIP (dBit gb at0)) (dKs (dBit gk fr) β) c) (dKs (dBit gk fr) β c)) (tMIX k - 1))) → (32 - d < nn308) → ∀ (H : Heap) (locs : List Loc), va_P D vwCl [(a 0, aK ta 64 tIP), (a 1, aK ta 48 tSPR), (a 2, aK ta 32 tMIX), (a 5, aK ta 512 tSBX), (a 10, aB ta 64 b2), (a 11, aB ta 64 t'), (a 14, aB ta 32 h'), (a 15, aB ta 48 w'), (hb2, aS ta capb gb), (h0, oM a ar mn tp osz lsz ns ct), (a 3, aK ta 56 tCH), (a 4, aK ta 48 tSEC), (a 12, aB ta 56 cd1_4), (a 13, aB ta 768 sk1_4), (hk, aS ta capk gk)] H → va_D A [(a 0, aK ta 64 tIP), (a 1, aK ta 48 tSPR), (a 2, aK ta 32 tMIX), (a 5, aK ta 512 tSBX), (a 10, aB ta 64 b2), (a 11, aB ta 64 t'), (a 14, aB ta 32 h'), (a 15, aB ta 48 w'), (hb2, aS ta capb gb), (h0, oM a ar mn tp osz lsz ns ct), (a 3, aK ta 56 tCH), (a 4, aK ta 48 tSEC), (a 12, aB ta 56 cd1_4), (a 13, aB ta 768 sk1_4), (hk, aS ta capk gk)] → va_S A ss.heap H locs → ∀ ls : Array Slot, lv_has ls 13 [(8, .int (nI d)), (7, .int (nI (48 * ri))), (6, .int (nI c)), (0, .ref h0), (1, .ref hb2), (2, .int (nI at0)), (3, .ref hk), (4, .int (nI fr)), (5, .int (qb β))] → W pp ll ee ({ frames := 1, cells := 0, slots := 0, locals := 28 } : Room) ss mm (([.ref h0, .ref hb2, .int (nI at0), .ref hk, .int (nI fr), .int (qb β)] : List Value).toArray) below meth kc H locs 0 0 Q (F0 mm 308 ls []) := by
                              intro nn308
                              induction nn308 with
                              | zero => intro d t' hdd2 ht hmu; exact absurd hmu (Nat.not_lt_zero _)
                              | succ nn308 ih308 =>
                                intro d t' hdd2 ht hmu308 H locs hP hD hS ls hl
                                refine lv_iload (pc := 308) hx hb dX10_des_308 (lv_at hl 0 rfl) ?_
                                refine lv_bipush (pc := 310) (v := nI 32) hx hb dX10_des_310 (by decide +kernel) ?_
                                refine lv_icmp_ge (pc := 312) (tgt := 350) hx hb dX10_des_312 (by decide) (fun c_9 => ?_) (fun c_9 => ?_)
                                · skip
                                  rw [nI_leI (by omega) (by omega)] at c_9
                                  refine lv_iconst (pc := 350) (v := nI 0) hx hb dX10_des_350 (by decide +kernel) ?_
                                  refine lv_istore (pc := 351) (lv' := [(8, .int (nI 0)), (7, .int (nI (48 * ri))), (6, .int (nI c)), (0, .ref h0), (1, .ref hb2), (2, .int (nI at0)), (3, .ref hk), (4, .int (nI fr)), (5, .int (qb β))]) hx hb dX10_des_351 hl (by decide) rfl (fun ls hl => ?_)
                                  have LP353 : ∀ (nn353 : Nat) (e : Nat) (b3 : Nat → Bool), (e ≤ 32) → (∀ j, j < 64 → b3 j = if j < 32 then (if j < e then b2 (32 + j) else b2 j) else (if j < 32 + e then t' (j - 32) else b2 j)) → (32 - e < nn353) → ∀ (H : Heap) (locs : List Loc), va_P D vwCl [(a 0, aK ta 64 tIP), (a 1, aK ta 48 tSPR), (a 2, aK ta 32 tMIX), (a 5, aK ta 512 tSBX), (a 10, aB ta 64 b3), (a 11, aB ta 64 t'), (a 14, aB ta 32 h'), (a 15, aB ta 48 w'), (hb2, aS ta capb gb), (h0, oM a ar mn tp osz lsz ns ct), (a 3, aK ta 56 tCH), (a 4, aK ta 48 tSEC), (a 12, aB ta 56 cd1_4), (a 13, aB ta 768 sk1_4), (hk, aS ta capk gk)] H → va_D A [(a 0, aK ta 64 tIP), (a 1, aK ta 48 tSPR), (a 2, aK ta 32 tMIX), (a 5, aK ta 512 tSBX), (a 10, aB ta 64 b3), (a 11, aB ta 64 t'), (a 14, aB ta 32 h'), (a 15, aB ta 48 w'), (hb2, aS ta capb gb), (h0, oM a ar mn tp osz lsz ns ct), (a 3, aK ta 56 tCH), (a 4, aK ta 48 tSEC), (a 12, aB ta 56 cd1_4), (a 13, aB ta 768 sk1_4), (hk, aS ta capk gk)] → va_S A ss.heap H locs → ∀ ls : Array Slot, lv_has ls 13 [(8, .int (nI e)), (7, .int (nI (48 * ri))), (6, .int (nI c)), (0, .ref h0), (1, .ref hb2), (2, .int (nI at0)), (3, .ref hk), (4, .int (nI fr)), (5, .int (qb β))] → W pp ll ee ({ frames := 1, cells := 0, slots := 0, locals := 28 } : Room) ss mm (([.ref h0, .ref hb2, .int (nI at0), .ref hk, .int (nI fr), .int (qb β)] : List Value).toArray) below meth kc H locs 0 0 Q (F0 mm 353 ls []) := by
                                    intro nn353
                                    induction nn353 with
                                    | zero => intro e b3 hee hsw hmu; exact absurd hmu (Nat.not_lt_zero _)
                                    | succ nn353 ih353 =>
                                      intro e b3 hee hsw hmu353 H locs hP hD hS ls hl
                                      refine lv_iload (pc := 353) hx hb dX10_des_353 (lv_at hl 0 rfl) ?_
                                      refine lv_bipush (pc := 355) (v := nI 32) hx hb dX10_des_355 (by decide +kernel) ?_
                                      refine lv_icmp_ge (pc := 357) (tgt := 400) hx hb dX10_des_357 (by decide) (fun c_10 => ?_) (fun c_10 => ?_)
                                      · skip
                                        rw [nI_leI (by omega) (by omega)] at c_10
                                        refine lv_iinc (pc := 400) (v := nI (c + 1)) (lv' := [(6, .int (nI (c + 1))), (8, .int (nI e)), (7, .int (nI (48 * ri))), (0, .ref h0), (1, .ref hb2), (2, .int (nI at0)), (3, .ref hk), (4, .int (nI fr)), (5, .int (qb β))]) hx hb dX10_des_400 hl (k := 2) rfl (by first | exact nI_add c 1 | rfl) (by decide) rfl (fun ls hl => ?_)
                                        refine lv_goto (pc := 403) (tgt := 67) hx hb dX10_des_403 (by decide) ?_
                                        exact ih67 (c + 1) b3 t' h' w' (by omega) (by intro j hj; rw [hsw j hj]; exact dRound_of hX1 (fun i hi => qSeg_at ht (by omega)) hj (by omega)) (by omega) _ _ (hP.sub [0, 1, 2, 3, 4, 5, 6, 7, 8, 9, 10, 11, 12, 13, 14] rfl) (hD.sub [0, 1, 2, 3, 4, 5, 6, 7, 8, 9, 10, 11, 12, 13, 14] (by decide) rfl) hS ls (lv_sub hl [0, 3, 4, 5, 6, 7, 8] rfl)
                                      · skip
                                        rw [nI_leI (by omega) (by omega)] at c_10
                                        refine lv_aload_n (pc := 360) hx hb dX10_des_360 rfl (lv_at hl 3 rfl) ?_
                                        refine va_get (pc := 361) (D := D) (ci := 8) (v := .ref (a 10)) (C := RX10) (T := TX10) (N := 57) hx hb hts iu10 hown hK hP 9 rfl rfl 10 (by decide) (hts _ tw_1055) (fun _ h9 => h9) rfl dX10_des_361 ?_
                                        refine lv_iload (pc := 364) hx hb dX10_des_364 (lv_at hl 0 rfl) ?_
                                        refine lv_aload_n (pc := 366) hx hb dX10_des_366 rfl (lv_at hl 3 rfl) ?_
                                        refine va_get (pc := 367) (D := D) (ci := 8) (v := .ref (a 10)) (C := RX10) (T := TX10) (N := 57) hx hb hts iu10 hown hK hP 9 rfl rfl 10 (by decide) (hts _ tw_1055) (fun _ h9 => h9) rfl dX10_des_367 ?_
                                        refine lv_bipush (pc := 370) (v := nI 32) hx hb dX10_des_370 (by decide +kernel) ?_
                                        refine lv_iload (pc := 372) hx hb dX10_des_372 (lv_at hl 0 rfl) ?_
                                        refine lv_iadd (pc := 374) hx hb dX10_des_374 ?_
                                        refine q_top (y := nI (32 + e)) (nI_add 32 e) ?_
                                        refine q_iald (pc := 375) hx hb hK hP 4 0 rfl rfl (k := 32 + e) (v := qb (b3 (32 + e))) rfl (by omega) (by omega) rfl dX10_des_375 ?_
                                        refine q_iastB (pc := 376) hx hb hK hP hD hS 4 0 rfl rfl (k := e) rfl (by omega) (by omega) (b := b3 (32 + e)) rfl dX10_des_376 (fun H locs hP hD hS => ?_)
                                        have hP : va_P D vwCl [(a 0, aK ta 64 tIP), (a 1, aK ta 48 tSPR), (a 2, aK ta 32 tMIX), (a 5, aK ta 512 tSBX), (a 10, aB ta 64 (qU b3 e (b3 (32 + e)))), (a 11, aB ta 64 t'), (a 14, aB ta 32 h'), (a 15, aB ta 48 w'), (hb2, aS ta capb gb), (h0, oM a ar mn tp osz lsz ns ct), (a 3, aK ta 56 tCH), (a 4, aK ta 48 tSEC), (a 12, aB ta 56 cd1_4), (a 13, aB ta 768 sk1_4), (hk, aS ta capk gk)] H := hP
                                        have hD : va_D A [(a 0, aK ta 64 tIP), (a 1, aK ta 48 tSPR), (a 2, aK ta 32 tMIX), (a 5, aK ta 512 tSBX), (a 10, aB ta 64 (qU b3 e (b3 (32 + e)))), (a 11, aB ta 64 t'), (a 14, aB ta 32 h'), (a 15, aB ta 48 w'), (hb2, aS ta capb gb), (h0, oM a ar mn tp osz lsz ns ct), (a 3, aK ta 56 tCH), (a 4, aK ta 48 tSEC), (a 12, aB ta 56 cd1_4), (a 13, aB ta 768 sk1_4), (hk, aS ta capk gk)] := hD
                                        refine lv_aload_n (pc := 377) hx hb dX10_des_377 rfl (lv_at hl 3 rfl) ?_
                                        refine va_get (pc := 378) (D := D) (ci := 8) (v := .ref (a 10)) (C := RX10) (T := TX10) (N := 57) hx hb hts iu10 hown hK hP 9 rfl rfl 10 (by decide) (hts _ tw_1055) (fun _ h9 => h9) rfl dX10_des_378 ?_
                                        refine lv_bipush (pc := 381) (v := nI 32) hx hb dX10_des_381 (by decide +kernel) ?_
                                        refine lv_iload (pc := 383) hx hb dX10_des_383 (lv_at hl 0 rfl) ?_
                                        refine lv_iadd (pc := 385) hx hb dX10_des_385 ?_
                                        refine q_top (y := nI (32 + e)) (nI_add 32 e) ?_
                                        refine lv_aload_n (pc := 386) hx hb dX10_des_386 rfl (lv_at hl 3 rfl) ?_
                                        refine va_get (pc := 387) (D := D) (ci := 8) (v := .ref (a 11)) (C := RX10) (T := TX10) (N := 57) hx hb hts iu10 hown hK hP 9 rfl rfl 11 (by decide) (hts _ tw_1056) (fun _ h9 => h9) rfl dX10_des_387 ?_
                                        refine lv_iload (pc := 390) hx hb dX10_des_390 (lv_at hl 0 rfl) ?_
                                        refine q_iald (pc := 392) hx hb hK hP 5 0 rfl rfl (k := e) (v := qb (t' e)) rfl (by omega) (by omega) rfl dX10_des_392 ?_
                                        refine q_iastB (pc := 393) hx hb hK hP hD hS 4 0 rfl rfl (k := 32 + e) rfl (by omega) (by omega) (b := t' e) rfl dX10_des_393 (fun H locs hP hD hS => ?_)
                                        have hP : va_P D vwCl [(a 0, aK ta 64 tIP), (a 1, aK ta 48 tSPR), (a 2, aK ta 32 tMIX), (a 5, aK ta 512 tSBX), (a 10, aB ta 64 (qU (qU b3 e (b3 (32 + e))) (32 + e) (t' e))), (a 11, aB ta 64 t'), (a 14, aB ta 32 h'), (a 15, aB ta 48 w'), (hb2, aS ta capb gb), (h0, oM a ar mn tp osz lsz ns ct), (a 3, aK ta 56 tCH), (a 4, aK ta 48 tSEC), (a 12, aB ta 56 cd1_4), (a 13, aB ta 768 sk1_4), (hk, aS ta capk gk)] H := hP
                                        have hD : va_D A [(a 0, aK ta 64 tIP), (a 1, aK ta 48 tSPR), (a 2, aK ta 32 tMIX), (a 5, aK ta 512 tSBX), (a 10, aB ta 64 (qU (qU b3 e (b3 (32 + e))) (32 + e) (t' e))), (a 11, aB ta 64 t'), (a 14, aB ta 32 h'), (a 15, aB ta 48 w'), (hb2, aS ta capb gb), (h0, oM a ar mn tp osz lsz ns ct), (a 3, aK ta 56 tCH), (a 4, aK ta 48 tSEC), (a 12, aB ta 56 cd1_4), (a 13, aB ta 768 sk1_4), (hk, aS ta capk gk)] := hD
                                        refine lv_iinc (pc := 394) (v := nI (e + 1)) (lv' := [(8, .int (nI (e + 1))), (7, .int (nI (48 * ri))), (6, .int (nI c)), (0, .ref h0), (1, .ref hb2), (2, .int (nI at0)), (3, .ref hk), (4, .int (nI fr)), (5, .int (qb β))]) hx hb dX10_des_394 hl (k := 0) rfl (by first | exact nI_add e 1 | rfl) (by decide) rfl (fun ls hl => ?_)
                                        refine lv_goto (pc := 397) (tgt := 353) hx hb dX10_des_397 (by decide) ?_
                                        exact ih353 (e + 1) (qU (qU b3 e (b3 (32 + e))) (32 + e) (t' e)) (by omega) (dSw_step (by omega) hsw) (by omega) _ _ (hP.sub [0, 1, 2, 3, 4, 5, 6, 7, 8, 9, 10, 11, 12, 13, 14] rfl) (hD.sub [0, 1, 2, 3, 4, 5, 6, 7, 8, 9, 10, 11, 12, 13, 14] (by decide) rfl) hS ls (lv_sub hl [0, 1, 2, 3, 4, 5, 6, 7, 8] rfl)
                                  exact LP353 _ 0 b2 (by omega) (by intro j hj; by_cases q : j < 32 <;> simp [q]) (Nat.lt_succ_self _) _ _ (hP.sub [0, 1, 2, 3, 4, 5, 6, 7, 8, 9, 10, 11, 12, 13, 14] rfl) (hD.sub [0, 1, 2, 3, 4, 5, 6, 7, 8, 9, 10, 11, 12, 13, 14] (by decide) rfl) hS ls (lv_sub hl [0, 1, 2, 3, 4, 5, 6, 7, 8] rfl)
                                · skip
                                  rw [nI_leI (by omega) (by omega)] at c_9
                                  have hbd := tMIX_b (k := d) (by omega)
                                  refine lv_aload_n (pc := 315) hx hb dX10_des_315 rfl (lv_at hl 3 rfl) ?_
                                  refine va_get (pc := 316) (D := D) (ci := 8) (v := .ref (a 11)) (C := RX10) (T := TX10) (N := 57) hx hb hts iu10 hown hK hP 9 rfl rfl 11 (by decide) (hts _ tw_1056) (fun _ h9 => h9) rfl dX10_des_316 ?_
                                  refine lv_iload (pc := 319) hx hb dX10_des_319 (lv_at hl 0 rfl) ?_
                                  refine lv_aload_n (pc := 321) hx hb dX10_des_321 rfl (lv_at hl 3 rfl) ?_
                                  refine va_get (pc := 322) (D := D) (ci := 8) (v := .ref (a 10)) (C := RX10) (T := TX10) (N := 57) hx hb hts iu10 hown hK hP 9 rfl rfl 10 (by decide) (hts _ tw_1055) (fun _ h9 => h9) rfl dX10_des_322 ?_
                                  refine lv_iload (pc := 325) hx hb dX10_des_325 (lv_at hl 0 rfl) ?_
                                  refine q_iald (pc := 327) hx hb hK hP 4 0 rfl rfl (k := d) (v := qb (b2 d)) rfl (by omega) (by omega) rfl dX10_des_327 ?_
                                  refine lv_aload_n (pc := 328) hx hb dX10_des_328 rfl (lv_at hl 3 rfl) ?_
                                  refine va_get (pc := 329) (D := D) (ci := 8) (v := .ref (a 14)) (C := RX10) (T := TX10) (N := 57) hx hb hts iu10 hown hK hP 9 rfl rfl 14 (by decide) (hts _ tw_1059) (fun _ h9 => h9) rfl dX10_des_329 ?_
                                  refine lv_aload_n (pc := 332) hx hb dX10_des_332 rfl (lv_at hl 3 rfl) ?_
                                  refine va_get (pc := 333) (D := D) (ci := 8) (v := .ref (a 2)) (C := RX10) (T := TX10) (N := 57) hx hb hts iu10 hown hK hP 9 rfl rfl 2 (by decide) (hts _ tw_1047) (fun _ h9 => h9) rfl dX10_des_333 ?_
                                  refine lv_iload (pc := 336) hx hb dX10_des_336 (lv_at hl 0 rfl) ?_
                                  refine q_iald (pc := 338) hx hb hK hP 2 0 rfl rfl (k := d) (v := nI (tMIX d)) rfl (by omega) (by omega) rfl dX10_des_338 ?_
                                  refine lv_iconst (pc := 339) (v := nI 1) hx hb dX10_des_339 (by decide +kernel) ?_
                                  refine lv_isub (pc := 340) hx hb dX10_des_340 ?_
                                  refine q_top (y := nI (tMIX d - 1)) (pk_sub (a := tMIX d) (b := 1) (by omega)) ?_
                                  refine q_iald (pc := 341) hx hb hK hP 6 0 rfl rfl (k := tMIX d - 1) (v := qb (h' (tMIX d - 1))) rfl (by omega) (by omega) rfl dX10_des_341 ?_
                                  refine lv_ixor (pc := 342) hx hb dX10_des_342 ?_
                                  refine q_top (y := qb ((b2 d ^^ h' (tMIX d - 1)))) (q_bxor _ _) ?_
                                  refine q_iastB (pc := 343) hx hb hK hP hD hS 5 0 rfl rfl (k := d) rfl (by omega) (by omega) (b := (b2 d ^^ h' (tMIX d - 1))) rfl dX10_des_343 (fun H locs hP hD hS => ?_)
                                  have hP : va_P D vwCl [(a 0, aK ta 64 tIP), (a 1, aK ta 48 tSPR), (a 2, aK ta 32 tMIX), (a 5, aK ta 512 tSBX), (a 10, aB ta 64 b2), (a 11, aB ta 64 (qU t' d ((b2 d ^^ h' (tMIX d - 1))))), (a 14, aB ta 32 h'), (a 15, aB ta 48 w'), (hb2, aS ta capb gb), (h0, oM a ar mn tp osz lsz ns ct), (a 3, aK ta 56 tCH), (a 4, aK ta 48 tSEC), (a 12, aB ta 56 cd1_4), (a 13, aB ta 768 sk1_4), (hk, aS ta capk gk)] H := hP
                                  have hD : va_D A [(a 0, aK ta 64 tIP), (a 1, aK ta 48 tSPR), (a 2, aK ta 32 tMIX), (a 5, aK ta 512 tSBX), (a 10, aB ta 64 b2), (a 11, aB ta 64 (qU t' d ((b2 d ^^ h' (tMIX d - 1))))), (a 14, aB ta 32 h'), (a 15, aB ta 48 w'), (hb2, aS ta capb gb), (h0, oM a ar mn tp osz lsz ns ct), (a 3, aK ta 56 tCH), (a 4, aK ta 48 tSEC), (a 12, aB ta 56 cd1_4), (a 13, aB ta 768 sk1_4), (hk, aS ta capk gk)] := hD
                                  refine lv_iinc (pc := 344) (v := nI (d + 1)) (lv' := [(8, .int (nI (d + 1))), (7, .int (nI (48 * ri))), (6, .int (nI c)), (0, .ref h0), (1, .ref hb2), (2, .int (nI at0)), (3, .ref hk), (4, .int (nI fr)), (5, .int (qb β))]) hx hb dX10_des_344 hl (k := 0) rfl (by first | exact nI_add d 1 | rfl) (by decide) rfl (fun ls hl => ?_)
                                  refine lv_goto (pc := 347) (tgt := 308) hx hb dX10_des_347 (by decide) ?_
                                  exact ih308 (d + 1) (qU t' d ((b2 d ^^ h' (tMIX d - 1)))) (by omega) (qSeg_s ht (by omega) (by rw [hX1 _ (by omega), qSeg_at hh (by omega)])) (by omega) _ _ (hP.sub [0, 1, 2, 3, 4, 5, 6, 7, 8, 9, 10, 11, 12, 13, 14] rfl) (hD.sub [0, 1, 2, 3, 4, 5, 6, 7, 8, 9, 10, 11, 12, 13, 14] (by decide) rfl) hS ls (lv_sub hl [0, 1, 2, 3, 4, 5, 6, 7, 8] rfl)
                            exact LP308 _ 0 t2 (by omega) (qSeg_0) (Nat.lt_succ_self _) _ _ (hP.sub [0, 1, 2, 3, 4, 5, 6, 7, 8, 9, 10, 11, 12, 13, 14] rfl) (hD.sub [0, 1, 2, 3, 4, 5, 6, 7, 8, 9, 10, 11, 12, 13, 14] (by decide) rfl) hS ls (lv_sub hl [0, 1, 2, 3, 4, 5, 6, 7, 8] rfl)
                          · skip
                            rw [nI_leI (by omega) (by omega)] at c_8
                            refine lv_iconst (pc := 155) (v := nI 2) hx hb dX10_des_155 (by decide +kernel) ?_
                            refine lv_aload_n (pc := 156) hx hb dX10_des_156 rfl (lv_at hl 3 rfl) ?_
                            refine va_get (pc := 157) (D := D) (ci := 8) (v := .ref (a 15)) (C := RX10) (T := TX10) (N := 57) hx hb hts iu10 hown hK hP 9 rfl rfl 15 (by decide) (hts _ tw_1060) (fun _ h9 => h9) rfl dX10_des_157 ?_
                            refine lv_bipush (pc := 160) (v := nI 6) hx hb dX10_des_160 (by decide +kernel) ?_
                            refine lv_iload (pc := 162) hx hb dX10_des_162 (lv_at hl 0 rfl) ?_
                            refine lv_imul (pc := 164) hx hb dX10_des_164 ?_
                            refine q_top (y := nI (6 * s)) (pk_mul 6 s) ?_
                            refine q_iald (pc := 165) hx hb hK hP 7 0 rfl rfl (k := 6 * s) (v := nI ((w' (6 * s)).toNat)) rfl (by omega) (by omega) (qb_nat _) dX10_des_165 ?_
                            refine lv_imul (pc := 166) hx hb dX10_des_166 ?_
                            refine q_top (y := nI (2 * ((w' (6 * s)).toNat))) (pk_mul 2 ((w' (6 * s)).toNat)) ?_
                            refine lv_aload_n (pc := 167) hx hb dX10_des_167 rfl (lv_at hl 3 rfl) ?_
                            refine va_get (pc := 168) (D := D) (ci := 8) (v := .ref (a 15)) (C := RX10) (T := TX10) (N := 57) hx hb hts iu10 hown hK hP 9 rfl rfl 15 (by decide) (hts _ tw_1060) (fun _ h9 => h9) rfl dX10_des_168 ?_
                            refine lv_bipush (pc := 171) (v := nI 6) hx hb dX10_des_171 (by decide +kernel) ?_
                            refine lv_iload (pc := 173) hx hb dX10_des_173 (lv_at hl 0 rfl) ?_
                            refine lv_imul (pc := 175) hx hb dX10_des_175 ?_
                            refine q_top (y := nI (6 * s)) (pk_mul 6 s) ?_
                            refine lv_iconst (pc := 176) (v := nI 5) hx hb dX10_des_176 (by decide +kernel) ?_
                            refine lv_iadd (pc := 177) hx hb dX10_des_177 ?_
                            refine q_top (y := nI (6 * s + 5)) (nI_add (6 * s) 5) ?_
                            refine q_iald (pc := 178) hx hb hK hP 7 0 rfl rfl (k := 6 * s + 5) (v := nI ((w' (6 * s + 5)).toNat)) rfl (by omega) (by omega) (qb_nat _) dX10_des_178 ?_
                            refine lv_iadd (pc := 179) hx hb dX10_des_179 ?_
                            refine q_top (y := nI (2 * ((w' (6 * s)).toNat) + ((w' (6 * s + 5)).toNat))) (nI_add (2 * ((w' (6 * s)).toNat)) ((w' (6 * s + 5)).toNat)) ?_
                            refine lv_istore (pc := 180) (lv' := [(9, .int (nI (2 * ((w' (6 * s)).toNat) + ((w' (6 * s + 5)).toNat)))), (8, .int (nI s)), (7, .int (nI (48 * ri))), (6, .int (nI c)), (0, .ref h0), (1, .ref hb2), (2, .int (nI at0)), (3, .ref hk), (4, .int (nI fr)), (5, .int (qb β))]) hx hb dX10_des_180 hl (by decide) rfl (fun ls hl => ?_)
                            refine lv_bipush (pc := 182) (v := nI 8) hx hb dX10_des_182 (by decide +kernel) ?_
                            refine lv_aload_n (pc := 184) hx hb dX10_des_184 rfl (lv_at hl 4 rfl) ?_
                            refine va_get (pc := 185) (D := D) (ci := 8) (v := .ref (a 15)) (C := RX10) (T := TX10) (N := 57) hx hb hts iu10 hown hK hP 9 rfl rfl 15 (by decide) (hts _ tw_1060) (fun _ h9 => h9) rfl dX10_des_185 ?_
                            refine lv_bipush (pc := 188) (v := nI 6) hx hb dX10_des_188 (by decide +kernel) ?_
                            refine lv_iload (pc := 190) hx hb dX10_des_190 (lv_at hl 1 rfl) ?_
                            refine lv_imul (pc := 192) hx hb dX10_des_192 ?_
                            refine q_top (y := nI (6 * s)) (pk_mul 6 s) ?_
                            refine lv_iconst (pc := 193) (v := nI 1) hx hb dX10_des_193 (by decide +kernel) ?_
                            refine lv_iadd (pc := 194) hx hb dX10_des_194 ?_
                            refine q_top (y := nI (6 * s + 1)) (nI_add (6 * s) 1) ?_
                            refine q_iald (pc := 195) hx hb hK hP 7 0 rfl rfl (k := 6 * s + 1) (v := nI ((w' (6 * s + 1)).toNat)) rfl (by omega) (by omega) (qb_nat _) dX10_des_195 ?_
                            refine lv_imul (pc := 196) hx hb dX10_des_196 ?_
                            refine q_top (y := nI (8 * ((w' (6 * s + 1)).toNat))) (pk_mul 8 ((w' (6 * s + 1)).toNat)) ?_
                            refine lv_iconst (pc := 197) (v := nI 4) hx hb dX10_des_197 (by decide +kernel) ?_
                            refine lv_aload_n (pc := 198) hx hb dX10_des_198 rfl (lv_at hl 4 rfl) ?_
                            refine va_get (pc := 199) (D := D) (ci := 8) (v := .ref (a 15)) (C := RX10) (T := TX10) (N := 57) hx hb hts iu10 hown hK hP 9 rfl rfl 15 (by decide) (hts _ tw_1060) (fun _ h9 => h9) rfl dX10_des_199 ?_
                            refine lv_bipush (pc := 202) (v := nI 6) hx hb dX10_des_202 (by decide +kernel) ?_
                            refine lv_iload (pc := 204) hx hb dX10_des_204 (lv_at hl 1 rfl) ?_
                            refine lv_imul (pc := 206) hx hb dX10_des_206 ?_
                            refine q_top (y := nI (6 * s)) (pk_mul 6 s) ?_
                            refine lv_iconst (pc := 207) (v := nI 2) hx hb dX10_des_207 (by decide +kernel) ?_
                            refine lv_iadd (pc := 208) hx hb dX10_des_208 ?_
                            refine q_top (y := nI (6 * s + 2)) (nI_add (6 * s) 2) ?_
                            refine q_iald (pc := 209) hx hb hK hP 7 0 rfl rfl (k := 6 * s + 2) (v := nI ((w' (6 * s + 2)).toNat)) rfl (by omega) (by omega) (qb_nat _) dX10_des_209 ?_
                            refine lv_imul (pc := 210) hx hb dX10_des_210 ?_
                            refine q_top (y := nI (4 * ((w' (6 * s + 2)).toNat))) (pk_mul 4 ((w' (6 * s + 2)).toNat)) ?_
                            refine lv_iadd (pc := 211) hx hb dX10_des_211 ?_
                            refine q_top (y := nI (8 * ((w' (6 * s + 1)).toNat) + (4 * ((w' (6 * s + 2)).toNat)))) (nI_add (8 * ((w' (6 * s + 1)).toNat)) (4 * ((w' (6 * s + 2)).toNat))) ?_
                            refine lv_iconst (pc := 212) (v := nI 2) hx hb dX10_des_212 (by decide +kernel) ?_
                            refine lv_aload_n (pc := 213) hx hb dX10_des_213 rfl (lv_at hl 4 rfl) ?_
                            refine va_get (pc := 214) (D := D) (ci := 8) (v := .ref (a 15)) (C := RX10) (T := TX10) (N := 57) hx hb hts iu10 hown hK hP 9 rfl rfl 15 (by decide) (hts _ tw_1060) (fun _ h9 => h9) rfl dX10_des_214 ?_
                            refine lv_bipush (pc := 217) (v := nI 6) hx hb dX10_des_217 (by decide +kernel) ?_
                            refine lv_iload (pc := 219) hx hb dX10_des_219 (lv_at hl 1 rfl) ?_
                            refine lv_imul (pc := 221) hx hb dX10_des_221 ?_
                            refine q_top (y := nI (6 * s)) (pk_mul 6 s) ?_
                            refine lv_iconst (pc := 222) (v := nI 3) hx hb dX10_des_222 (by decide +kernel) ?_
                            refine lv_iadd (pc := 223) hx hb dX10_des_223 ?_
                            refine q_top (y := nI (6 * s + 3)) (nI_add (6 * s) 3) ?_
                            refine q_iald (pc := 224) hx hb hK hP 7 0 rfl rfl (k := 6 * s + 3) (v := nI ((w' (6 * s + 3)).toNat)) rfl (by omega) (by omega) (qb_nat _) dX10_des_224 ?_
                            refine lv_imul (pc := 225) hx hb dX10_des_225 ?_
                            refine q_top (y := nI (2 * ((w' (6 * s + 3)).toNat))) (pk_mul 2 ((w' (6 * s + 3)).toNat)) ?_
                            refine lv_iadd (pc := 226) hx hb dX10_des_226 ?_
                            refine q_top (y := nI (8 * ((w' (6 * s + 1)).toNat) + (4 * ((w' (6 * s + 2)).toNat)) + (2 * ((w' (6 * s + 3)).toNat)))) (nI_add (8 * ((w' (6 * s + 1)).toNat) + (4 * ((w' (6 * s + 2)).toNat))) (2 * ((w' (6 * s + 3)).toNat))) ?_
                            refine lv_aload_n (pc := 227) hx hb dX10_des_227 rfl (lv_at hl 4 rfl) ?_
                            refine va_get (pc := 228) (D := D) (ci := 8) (v := .ref (a 15)) (C := RX10) (T := TX10) (N := 57) hx hb hts iu10 hown hK hP 9 rfl rfl 15 (by decide) (hts _ tw_1060) (fun _ h9 => h9) rfl dX10_des_228 ?_
                            refine lv_bipush (pc := 231) (v := nI 6) hx hb dX10_des_231 (by decide +kernel) ?_
                            refine lv_iload (pc := 233) hx hb dX10_des_233 (lv_at hl 1 rfl) ?_
                            refine lv_imul (pc := 235) hx hb dX10_des_235 ?_
                            refine q_top (y := nI (6 * s)) (pk_mul 6 s) ?_
                            refine lv_iconst (pc := 236) (v := nI 4) hx hb dX10_des_236 (by decide +kernel) ?_
                            refine lv_iadd (pc := 237) hx hb dX10_des_237 ?_
                            refine q_top (y := nI (6 * s + 4)) (nI_add (6 * s) 4) ?_
                            refine q_iald (pc := 238) hx hb hK hP 7 0 rfl rfl (k := 6 * s + 4) (v := nI ((w' (6 * s + 4)).toNat)) rfl (by omega) (by omega) (qb_nat _) dX10_des_238 ?_
                            refine lv_iadd (pc := 239) hx hb dX10_des_239 ?_
                            refine q_top (y := nI (8 * ((w' (6 * s + 1)).toNat) + (4 * ((w' (6 * s + 2)).toNat)) + (2 * ((w' (6 * s + 3)).toNat)) + ((w' (6 * s + 4)).toNat))) (nI_add (8 * ((w' (6 * s + 1)).toNat) + (4 * ((w' (6 * s + 2)).toNat)) + (2 * ((w' (6 * s + 3)).toNat))) ((w' (6 * s + 4)).toNat)) ?_
                            refine lv_istore (pc := 240) (lv' := [(10, .int (nI (8 * ((w' (6 * s + 1)).toNat) + (4 * ((w' (6 * s + 2)).toNat)) + (2 * ((w' (6 * s + 3)).toNat)) + ((w' (6 * s + 4)).toNat)))), (9, .int (nI (2 * ((w' (6 * s)).toNat) + ((w' (6 * s + 5)).toNat)))), (8, .int (nI s)), (7, .int (nI (48 * ri))), (6, .int (nI c)), (0, .ref h0), (1, .ref hb2), (2, .int (nI at0)), (3, .ref hk), (4, .int (nI fr)), (5, .int (qb β))]) hx hb dX10_des_240 hl (by decide) rfl (fun ls hl => ?_)
                            have w0 := Bool.toNat_le (w' (6 * s))
                            have w1 := Bool.toNat_le (w' (6 * s + 1))
                            have w2 := Bool.toNat_le (w' (6 * s + 2))
                            have w3 := Bool.toNat_le (w' (6 * s + 3))
                            have w4 := Bool.toNat_le (w' (6 * s + 4))
                            have w5 := Bool.toNat_le (w' (6 * s + 5))
                            refine lv_aload_n (pc := 242) hx hb dX10_des_242 rfl (lv_at hl 5 rfl) ?_
                            refine va_get (pc := 243) (D := D) (ci := 8) (v := .ref (a 5)) (C := RX10) (T := TX10) (N := 57) hx hb hts iu10 hown hK hP 9 rfl rfl 5 (by decide) (hts _ tw_1050) (fun _ h9 => h9) rfl dX10_des_243 ?_
                            refine lv_bipush (pc := 246) (v := nI 64) hx hb dX10_des_246 (by decide +kernel) ?_
                            refine lv_iload (pc := 248) hx hb dX10_des_248 (lv_at hl 2 rfl) ?_
                            refine lv_imul (pc := 250) hx hb dX10_des_250 ?_
                            refine q_top (y := nI (64 * s)) (pk_mul 64 s) ?_
                            refine lv_bipush (pc := 251) (v := nI 16) hx hb dX10_des_251 (by decide +kernel) ?_
                            refine lv_iload (pc := 253) hx hb dX10_des_253 (lv_at hl 1 rfl) ?_
                            refine lv_imul (pc := 255) hx hb dX10_des_255 ?_
                            refine q_top (y := nI (16 * (2 * ((w' (6 * s)).toNat) + ((w' (6 * s + 5)).toNat)))) (pk_mul 16 (2 * ((w' (6 * s)).toNat) + ((w' (6 * s + 5)).toNat))) ?_
                            refine lv_iadd (pc := 256) hx hb dX10_des_256 ?_
                            refine q_top (y := nI (64 * s + (16 * (2 * ((w' (6 * s)).toNat) + ((w' (6 * s + 5)).toNat))))) (nI_add (64 * s) (16 * (2 * ((w' (6 * s)).toNat) + ((w' (6 * s + 5)).toNat)))) ?_
                            refine lv_iload (pc := 257) hx hb dX10_des_257 (lv_at hl 0 rfl) ?_
                            refine lv_iadd (pc := 259) hx hb dX10_des_259 ?_
                            refine q_top (y := nI (64 * s + (16 * (2 * ((w' (6 * s)).toNat) + ((w' (6 * s + 5)).toNat))) + (8 * ((w' (6 * s + 1)).toNat) + (4 * ((w' (6 * s + 2)).toNat)) + (2 * ((w' (6 * s + 3)).toNat)) + ((w' (6 * s + 4)).toNat)))) (nI_add (64 * s + (16 * (2 * ((w' (6 * s)).toNat) + ((w' (6 * s + 5)).toNat)))) (8 * ((w' (6 * s + 1)).toNat) + (4 * ((w' (6 * s + 2)).toNat)) + (2 * ((w' (6 * s + 3)).toNat)) + ((w' (6 * s + 4)).toNat))) ?_
                            refine q_iald (pc := 260) hx hb hK hP 3 0 rfl rfl (k := 64 * s + (16 * (2 * ((w' (6 * s)).toNat) + ((w' (6 * s + 5)).toNat))) + (8 * ((w' (6 * s + 1)).toNat) + (4 * ((w' (6 * s + 2)).toNat)) + (2 * ((w' (6 * s + 3)).toNat)) + ((w' (6 * s + 4)).toNat))) (v := nI (tSBX (64 * s + (16 * (2 * ((w' (6 * s)).toNat) + ((w' (6 * s + 5)).toNat))) + (8 * ((w' (6 * s + 1)).toNat) + (4 * ((w' (6 * s + 2)).toNat)) + (2 * ((w' (6 * s + 3)).toNat)) + ((w' (6 * s + 4)).toNat))))) rfl (by omega) (by omega) rfl dX10_des_260 ?_
                            refine lv_istore (pc := 261) (lv' := [(11, .int (nI (tSBX (64 * s + (16 * (2 * ((w' (6 * s)).toNat) + ((w' (6 * s + 5)).toNat))) + (8 * ((w' (6 * s + 1)).toNat) + (4 * ((w' (6 * s + 2)).toNat)) + (2 * ((w' (6 * s + 3)).toNat)) + ((w' (6 * s + 4)).toNat)))))), (10, .int (nI (8 * ((w' (6 * s + 1)).toNat) + (4 * ((w' (6 * s + 2)).toNat)) + (2 * ((w' (6 * s + 3)).toNat)) + ((w' (6 * s + 4)).toNat)))), (9, .int (nI (2 * ((w' (6 * s)).toNat) + ((w' (6 * s + 5)).toNat)))), (8, .int (nI s)), (7, .int (nI (48 * ri))), (6, .int (nI c)), (0, .ref h0), (1, .ref hb2), (2, .int (nI at0)), (3, .ref hk), (4, .int (nI fr)), (5, .int (qb β))]) hx hb dX10_des_261 hl (by decide) rfl (fun ls hl => ?_)
                            have hbx := tSBX_b (k := (64 * s + 16 * (2 * (w' (6 * s)).toNat + (w' (6 * s + 5)).toNat) + (8 * (w' (6 * s + 1)).toNat + 4 * (w' (6 * s + 2)).toNat + 2 * (w' (6 * s + 3)).toNat + (w' (6 * s + 4)).toNat))) (by omega)
                            refine lv_iconst (pc := 263) (v := nI 0) hx hb dX10_des_263 (by decide +kernel) ?_
                            refine lv_istore (pc := 264) (lv' := [(12, .int (nI 0)), (11, .int (nI (tSBX (64 * s + (16 * (2 * ((w' (6 * s)).toNat) + ((w' (6 * s + 5)).toNat))) + (8 * ((w' (6 * s + 1)).toNat) + (4 * ((w' (6 * s + 2)).toNat)) + (2 * ((w' (6 * s + 3)).toNat)) + ((w' (6 * s + 4)).toNat)))))), (10, .int (nI (8 * ((w' (6 * s + 1)).toNat) + (4 * ((w' (6 * s + 2)).toNat)) + (2 * ((w' (6 * s + 3)).toNat)) + ((w' (6 * s + 4)).toNat)))), (9, .int (nI (2 * ((w' (6 * s)).toNat) + ((w' (6 * s + 5)).toNat)))), (8, .int (nI s)), (7, .int (nI (48 * ri))), (6, .int (nI c)), (0, .ref h0), (1, .ref hb2), (2, .int (nI at0)), (3, .ref hk), (4, .int (nI fr)), (5, .int (qb β))]) hx hb dX10_des_264 hl (by decide) rfl (fun ls hl => ?_)
                            have LP266 : ∀ (nn266 : Nat) (z : Nat) (z' : Nat → Bool), (z ≤ 4) → (qSeg z' h2 0 (4 * s + z) (dHalf (dWord (dRs (dIP (dBit gb at0)) (dKs (dBit gk fr) β) c) (dKs (dBit gk fr) β c)))) → (4 - z < nn266) → ∀ (H : Heap) (locs : List Loc), va_P D vwCl [(a 0, aK ta 64 tIP), (a 1, aK ta 48 tSPR), (a 2, aK ta 32 tMIX), (a 5, aK ta 512 tSBX), (a 10, aB ta 64 b2), (a 11, aB ta 64 t2), (a 14, aB ta 32 z'), (a 15, aB ta 48 w'), (hb2, aS ta capb gb), (h0, oM a ar mn tp osz lsz ns ct), (a 3, aK ta 56 tCH), (a 4, aK ta 48 tSEC), (a 12, aB ta 56 cd1_4), (a 13, aB ta 768 sk1_4), (hk, aS ta capk gk)] H → va_D A [(a 0, aK ta 64 tIP), (a 1, aK ta 48 tSPR), (a 2, aK ta 32 tMIX), (a 5, aK ta 512 tSBX), (a 10, aB ta 64 b2), (a 11, aB ta 64 t2), (a 14, aB ta 32 z'), (a 15, aB ta 48 w'), (hb2, aS ta capb gb), (h0, oM a ar mn tp osz lsz ns ct), (a 3, aK ta 56 tCH), (a 4, aK ta 48 tSEC), (a 12, aB ta 56 cd1_4), (a 13, aB ta 768 sk1_4), (hk, aS ta capk gk)] → va_S A ss.heap H locs → ∀ ls : Array Slot, lv_has ls 13 [(12, .int (nI z)), (11, .int (nI (tSBX (64 * s + (16 * (2 * ((w' (6 * s)).toNat) + ((w' (6 * s + 5)).toNat))) + (8 * ((w' (6 * s + 1)).toNat) + (4 * ((w' (6 * s + 2)).toNat)) + (2 * ((w' (6 * s + 3)).toNat)) + ((w' (6 * s + 4)).toNat)))))), (10, .int (nI (8 * ((w' (6 * s + 1)).toNat) + (4 * ((w' (6 * s + 2)).toNat)) + (2 * ((w' (6 * s + 3)).toNat)) + ((w' (6 * s + 4)).toNat)))), (9, .int (nI (2 * ((w' (6 * s)).toNat) + ((w' (6 * s + 5)).toNat)))), (8, .int (nI s)), (7, .int (nI (48 * ri))), (6, .int (nI c)), (0, .ref h0), (1, .ref hb2), (2, .int (nI at0)), (3, .ref hk), (4, .int (nI fr)), (5, .int (qb β))] → W pp ll ee ({ frames := 1, cells := 0, slots := 0, locals := 28 } : Room) ss mm (([.ref h0, .ref hb2, .int (nI at0), .ref hk, .int (nI fr), .int (qb β)] : List Value).toArray) below meth kc H locs 0 0 Q (F0 mm 266 ls []) := by
                              intro nn266
                              induction nn266 with
                              | zero => intro z z' hzz hz hmu; exact absurd hmu (Nat.not_lt_zero _)
                              | succ nn266 ih266 =>
                                intro z z' hzz hz hmu266 H locs hP hD hS ls hl
                                refine lv_iload (pc := 266) hx hb dX10_des_266 (lv_at hl 0 rfl) ?_
                                refine lv_iconst (pc := 268) (v := nI 4) hx hb dX10_des_268 (by decide +kernel) ?_
                                refine lv_icmp_ge (pc := 269) (tgt := 299) hx hb dX10_des_269 (by decide) (fun c_11 => ?_) (fun c_11 => ?_)
                                · skip
                                  rw [nI_leI (by omega) (by omega)] at c_11
                                  refine lv_iinc (pc := 299) (v := nI (s + 1)) (lv' := [(8, .int (nI (s + 1))), (12, .int (nI z)), (11, .int (nI (tSBX (64 * s + (16 * (2 * ((w' (6 * s)).toNat) + ((w' (6 * s + 5)).toNat))) + (8 * ((w' (6 * s + 1)).toNat) + (4 * ((w' (6 * s + 2)).toNat)) + (2 * ((w' (6 * s + 3)).toNat)) + ((w' (6 * s + 4)).toNat)))))), (10, .int (nI (8 * ((w' (6 * s + 1)).toNat) + (4 * ((w' (6 * s + 2)).toNat)) + (2 * ((w' (6 * s + 3)).toNat)) + ((w' (6 * s + 4)).toNat)))), (9, .int (nI (2 * ((w' (6 * s)).toNat) + ((w' (6 * s + 5)).toNat)))), (7, .int (nI (48 * ri))), (6, .int (nI c)), (0, .ref h0), (1, .ref hb2), (2, .int (nI at0)), (3, .ref hk), (4, .int (nI fr)), (5, .int (qb β))]) hx hb dX10_des_299 hl (k := 4) rfl (by first | exact nI_add s 1 | rfl) (by decide) rfl (fun ls hl => ?_)
                                  refine lv_goto (pc := 302) (tgt := 148) hx hb dX10_des_302 (by decide) ?_
                                  exact ih148 (s + 1) z' (by omega) (by rw [show 4 * (s + 1) = 4 * s + z by omega]; exact hz) (by omega) _ _ (hP.sub [0, 1, 2, 3, 4, 5, 6, 7, 8, 9, 10, 11, 12, 13, 14] rfl) (hD.sub [0, 1, 2, 3, 4, 5, 6, 7, 8, 9, 10, 11, 12, 13, 14] (by decide) rfl) hS ls (lv_sub hl [0, 5, 6, 7, 8, 9, 10, 11, 12] rfl)
                                · skip
                                  rw [nI_leI (by omega) (by omega)] at c_11
                                  refine lv_aload_n (pc := 272) hx hb dX10_des_272 rfl (lv_at hl 7 rfl) ?_
                                  refine va_get (pc := 273) (D := D) (ci := 8) (v := .ref (a 14)) (C := RX10) (T := TX10) (N := 57) hx hb hts iu10 hown hK hP 9 rfl rfl 14 (by decide) (hts _ tw_1059) (fun _ h9 => h9) rfl dX10_des_273 ?_
                                  refine lv_iconst (pc := 276) (v := nI 4) hx hb dX10_des_276 (by decide +kernel) ?_
                                  refine lv_iload (pc := 277) hx hb dX10_des_277 (lv_at hl 4 rfl) ?_
                                  refine lv_imul (pc := 279) hx hb dX10_des_279 ?_
                                  refine q_top (y := nI (4 * s)) (pk_mul 4 s) ?_
                                  refine lv_iload (pc := 280) hx hb dX10_des_280 (lv_at hl 0 rfl) ?_
                                  refine lv_iadd (pc := 282) hx hb dX10_des_282 ?_
                                  refine q_top (y := nI (4 * s + z)) (nI_add (4 * s) z) ?_
                                  refine lv_iload (pc := 283) hx hb dX10_des_283 (lv_at hl 1 rfl) ?_
                                  refine lv_iconst (pc := 285) (v := nI 3) hx hb dX10_des_285 (by decide +kernel) ?_
                                  refine lv_iload (pc := 286) hx hb dX10_des_286 (lv_at hl 0 rfl) ?_
                                  refine lv_isub (pc := 288) hx hb dX10_des_288 ?_
                                  refine q_top (y := nI (3 - z)) (pk_sub (a := 3) (b := z) (by omega)) ?_
                                  refine lv_ishr (pc := 289) hx hb dX10_des_289 ?_
                                  refine lv_iconst (pc := 290) (v := nI 1) hx hb dX10_des_290 (by decide +kernel) ?_
                                  refine lv_iand (pc := 291) hx hb dX10_des_291 ?_
                                  refine q_top (y := qb ((tSBX (64 * s + (16 * (2 * ((w' (6 * s)).toNat) + ((w' (6 * s + 5)).toNat))) + (8 * ((w' (6 * s + 1)).toNat) + (4 * ((w' (6 * s + 2)).toNat)) + (2 * ((w' (6 * s + 3)).toNat)) + ((w' (6 * s + 4)).toNat)))).testBit (3 - z))) (q_bit_n (by omega) (by omega)) ?_
                                  refine q_iastB (pc := 292) hx hb hK hP hD hS 6 0 rfl rfl (k := 4 * s + z) rfl (by omega) (by omega) (b := (tSBX (64 * s + (16 * (2 * ((w' (6 * s)).toNat) + ((w' (6 * s + 5)).toNat))) + (8 * ((w' (6 * s + 1)).toNat) + (4 * ((w' (6 * s + 2)).toNat)) + (2 * ((w' (6 * s + 3)).toNat)) + ((w' (6 * s + 4)).toNat)))).testBit (3 - z)) rfl dX10_des_292 (fun H locs hP hD hS => ?_)
                                  have hP : va_P D vwCl [(a 0, aK ta 64 tIP), (a 1, aK ta 48 tSPR), (a 2, aK ta 32 tMIX), (a 5, aK ta 512 tSBX), (a 10, aB ta 64 b2), (a 11, aB ta 64 t2), (a 14, aB ta 32 (qU z' (4 * s + z) ((tSBX (64 * s + (16 * (2 * ((w' (6 * s)).toNat) + ((w' (6 * s + 5)).toNat))) + (8 * ((w' (6 * s + 1)).toNat) + (4 * ((w' (6 * s + 2)).toNat)) + (2 * ((w' (6 * s + 3)).toNat)) + ((w' (6 * s + 4)).toNat)))).testBit (3 - z)))), (a 15, aB ta 48 w'), (hb2, aS ta capb gb), (h0, oM a ar mn tp osz lsz ns ct), (a 3, aK ta 56 tCH), (a 4, aK ta 48 tSEC), (a 12, aB ta 56 cd1_4), (a 13, aB ta 768 sk1_4), (hk, aS ta capk gk)] H := hP
                                  have hD : va_D A [(a 0, aK ta 64 tIP), (a 1, aK ta 48 tSPR), (a 2, aK ta 32 tMIX), (a 5, aK ta 512 tSBX), (a 10, aB ta 64 b2), (a 11, aB ta 64 t2), (a 14, aB ta 32 (qU z' (4 * s + z) ((tSBX (64 * s + (16 * (2 * ((w' (6 * s)).toNat) + ((w' (6 * s + 5)).toNat))) + (8 * ((w' (6 * s + 1)).toNat) + (4 * ((w' (6 * s + 2)).toNat)) + (2 * ((w' (6 * s + 3)).toNat)) + ((w' (6 * s + 4)).toNat)))).testBit (3 - z)))), (a 15, aB ta 48 w'), (hb2, aS ta capb gb), (h0, oM a ar mn tp osz lsz ns ct), (a 3, aK ta 56 tCH), (a 4, aK ta 48 tSEC), (a 12, aB ta 56 cd1_4), (a 13, aB ta 768 sk1_4), (hk, aS ta capk gk)] := hD
                                  refine lv_iinc (pc := 293) (v := nI (z + 1)) (lv' := [(12, .int (nI (z + 1))), (11, .int (nI (tSBX (64 * s + (16 * (2 * ((w' (6 * s)).toNat) + ((w' (6 * s + 5)).toNat))) + (8 * ((w' (6 * s + 1)).toNat) + (4 * ((w' (6 * s + 2)).toNat)) + (2 * ((w' (6 * s + 3)).toNat)) + ((w' (6 * s + 4)).toNat)))))), (10, .int (nI (8 * ((w' (6 * s + 1)).toNat) + (4 * ((w' (6 * s + 2)).toNat)) + (2 * ((w' (6 * s + 3)).toNat)) + ((w' (6 * s + 4)).toNat)))), (9, .int (nI (2 * ((w' (6 * s)).toNat) + ((w' (6 * s + 5)).toNat)))), (8, .int (nI s)), (7, .int (nI (48 * ri))), (6, .int (nI c)), (0, .ref h0), (1, .ref hb2), (2, .int (nI at0)), (3, .ref hk), (4, .int (nI fr)), (5, .int (qb β))]) hx hb dX10_des_293 hl (k := 0) rfl (by first | exact nI_add z 1 | rfl) (by decide) rfl (fun ls hl => ?_)
                                  refine lv_goto (pc := 296) (tgt := 266) hx hb dX10_des_296 (by decide) ?_
                                  exact ih266 (z + 1) (qU z' (4 * s + z) ((tSBX (64 * s + (16 * (2 * ((w' (6 * s)).toNat) + ((w' (6 * s + 5)).toNat))) + (8 * ((w' (6 * s + 1)).toNat) + (4 * ((w' (6 * s + 2)).toNat)) + (2 * ((w' (6 * s + 3)).toNat)) + ((w' (6 * s + 4)).toNat)))).testBit (3 - z))) (by omega) (qSeg_s (k := 4 * s + z) hz (by omega) (by simp only [dHalf, show (4 * s + z) / 4 = s by omega, show (4 * s + z) % 4 = z by omega]; rw [← dBox_congr (w := w') (fun j hj => qSeg_at hw (by omega)) (by omega)]; rfl)) (by omega) _ _ (hP.sub [0, 1, 2, 3, 4, 5, 6, 7, 8, 9, 10, 11, 12, 13, 14] rfl) (hD.sub [0, 1, 2, 3, 4, 5, 6, 7, 8, 9, 10, 11, 12, 13, 14] (by decide) rfl) hS ls (lv_sub hl [0, 1, 2, 3, 4, 5, 6, 7, 8, 9, 10, 11, 12] rfl)
                            exact LP266 _ 0 h' (by omega) (hh) (Nat.lt_succ_self _) _ _ (hP.sub [0, 1, 2, 3, 4, 5, 6, 7, 8, 9, 10, 11, 12, 13, 14] rfl) (hD.sub [0, 1, 2, 3, 4, 5, 6, 7, 8, 9, 10, 11, 12, 13, 14] (by decide) rfl) hS ls (lv_sub hl [0, 1, 2, 3, 4, 5, 6, 7, 8, 9, 10, 11, 12] rfl)
                      exact LP148 _ 0 h2 (by omega) (qSeg_0) (Nat.lt_succ_self _) _ _ (hP.sub [0, 1, 2, 3, 4, 5, 6, 7, 8, 9, 10, 11, 12, 13, 14] rfl) (hD.sub [0, 1, 2, 3, 4, 5, 6, 7, 8, 9, 10, 11, 12, 13, 14] (by decide) rfl) hS ls (lv_sub hl [0, 1, 2, 3, 4, 5, 6, 7, 8] rfl)
                    · skip
                      rw [nI_leI (by omega) (by omega)] at c_7
                      have hbd := tSPR_b (k := d) (by omega)
                      refine lv_aload_n (pc := 104) hx hb dX10_des_104 rfl (lv_at hl 3 rfl) ?_
                      refine va_get (pc := 105) (D := D) (ci := 8) (v := .ref (a 15)) (C := RX10) (T := TX10) (N := 57) hx hb hts iu10 hown hK hP 9 rfl rfl 15 (by decide) (hts _ tw_1060) (fun _ h9 => h9) rfl dX10_des_105 ?_
                      refine lv_iload (pc := 108) hx hb dX10_des_108 (lv_at hl 0 rfl) ?_
                      refine lv_aload_n (pc := 110) hx hb dX10_des_110 rfl (lv_at hl 3 rfl) ?_
                      refine va_get (pc := 111) (D := D) (ci := 8) (v := .ref (a 10)) (C := RX10) (T := TX10) (N := 57) hx hb hts iu10 hown hK hP 9 rfl rfl 10 (by decide) (hts _ tw_1055) (fun _ h9 => h9) rfl dX10_des_111 ?_
                      refine lv_bipush (pc := 114) (v := nI 32) hx hb dX10_des_114 (by decide +kernel) ?_
                      refine lv_aload_n (pc := 116) hx hb dX10_des_116 rfl (lv_at hl 3 rfl) ?_
                      refine va_get (pc := 117) (D := D) (ci := 8) (v := .ref (a 1)) (C := RX10) (T := TX10) (N := 57) hx hb hts iu10 hown hK hP 9 rfl rfl 1 (by decide) (hts _ tw_1046) (fun _ h9 => h9) rfl dX10_des_117 ?_
                      refine lv_iload (pc := 120) hx hb dX10_des_120 (lv_at hl 0 rfl) ?_
                      refine q_iald (pc := 122) hx hb hK hP 1 0 rfl rfl (k := d) (v := nI (tSPR d)) rfl (by omega) (by omega) rfl dX10_des_122 ?_
                      refine lv_iadd (pc := 123) hx hb dX10_des_123 ?_
                      refine q_top (y := nI (32 + tSPR d)) (nI_add 32 (tSPR d)) ?_
                      refine lv_iconst (pc := 124) (v := nI 1) hx hb dX10_des_124 (by decide +kernel) ?_
                      refine lv_isub (pc := 125) hx hb dX10_des_125 ?_
                      refine q_top (y := nI (32 + tSPR d - 1)) (pk_sub (a := 32 + tSPR d) (b := 1) (by omega)) ?_
                      refine q_iald (pc := 126) hx hb hK hP 4 0 rfl rfl (k := 32 + tSPR d - 1) (v := qb (b2 (32 + tSPR d - 1))) rfl (by omega) (by omega) rfl dX10_des_126 ?_
                      refine lv_aload_n (pc := 127) hx hb dX10_des_127 rfl (lv_at hl 3 rfl) ?_
                      refine va_get (pc := 128) (D := D) (ci := 8) (v := .ref (a 13)) (C := RX10) (T := TX10) (N := 57) hx hb hts iu10 hown hK hP 9 rfl rfl 13 (by decide) (hts _ tw_1058) (fun _ h9 => h9) rfl dX10_des_128 ?_
                      refine lv_iload (pc := 131) hx hb dX10_des_131 (lv_at hl 1 rfl) ?_
                      refine lv_iload (pc := 133) hx hb dX10_des_133 (lv_at hl 0 rfl) ?_
                      refine lv_iadd (pc := 135) hx hb dX10_des_135 ?_
                      refine q_top (y := nI (48 * ri + d)) (nI_add (48 * ri) d) ?_
                      refine q_iald (pc := 136) hx hb hK hP 13 0 rfl rfl (k := 48 * ri + d) (v := qb (sk1_4 (48 * ri + d))) rfl (by omega) (by omega) rfl dX10_des_136 ?_
                      refine lv_ixor (pc := 137) hx hb dX10_des_137 ?_
                      refine q_top (y := qb ((b2 (32 + tSPR d - 1) ^^ sk1_4 (48 * ri + d)))) (q_bxor _ _) ?_
                      refine q_iastB (pc := 138) hx hb hK hP hD hS 7 0 rfl rfl (k := d) rfl (by omega) (by omega) (b := (b2 (32 + tSPR d - 1) ^^ sk1_4 (48 * ri + d))) rfl dX10_des_138 (fun H locs hP hD hS => ?_)
                      have hP : va_P D vwCl [(a 0, aK ta 64 tIP), (a 1, aK ta 48 tSPR), (a 2, aK ta 32 tMIX), (a 5, aK ta 512 tSBX), (a 10, aB ta 64 b2), (a 11, aB ta 64 t2), (a 14, aB ta 32 h2), (a 15, aB ta 48 (qU w' d ((b2 (32 + tSPR d - 1) ^^ sk1_4 (48 * ri + d))))), (hb2, aS ta capb gb), (h0, oM a ar mn tp osz lsz ns ct), (a 3, aK ta 56 tCH), (a 4, aK ta 48 tSEC), (a 12, aB ta 56 cd1_4), (a 13, aB ta 768 sk1_4), (hk, aS ta capk gk)] H := hP
                      have hD : va_D A [(a 0, aK ta 64 tIP), (a 1, aK ta 48 tSPR), (a 2, aK ta 32 tMIX), (a 5, aK ta 512 tSBX), (a 10, aB ta 64 b2), (a 11, aB ta 64 t2), (a 14, aB ta 32 h2), (a 15, aB ta 48 (qU w' d ((b2 (32 + tSPR d - 1) ^^ sk1_4 (48 * ri + d))))), (hb2, aS ta capb gb), (h0, oM a ar mn tp osz lsz ns ct), (a 3, aK ta 56 tCH), (a 4, aK ta 48 tSEC), (a 12, aB ta 56 cd1_4), (a 13, aB ta 768 sk1_4), (hk, aS ta capk gk)] := hD
                      refine lv_iinc (pc := 139) (v := nI (d + 1)) (lv' := [(8, .int (nI (d + 1))), (7, .int (nI (48 * ri))), (6, .int (nI c)), (0, .ref h0), (1, .ref hb2), (2, .int (nI at0)), (3, .ref hk), (4, .int (nI fr)), (5, .int (qb β))]) hx hb dX10_des_139 hl (k := 0) rfl (by first | exact nI_add d 1 | rfl) (by decide) rfl (fun ls hl => ?_)
                      refine lv_goto (pc := 142) (tgt := 97) hx hb dX10_des_142 (by decide) ?_
                      exact ih97 (d + 1) (qU w' d ((b2 (32 + tSPR d - 1) ^^ sk1_4 (48 * ri + d)))) (by omega) (qSeg_s hw (by omega) (by simp only [dWord, dKs]; rw [hX1 _ (by omega), hk1_4 _ (by omega), show (48 * ri + d) / 48 = ri by omega, show (48 * ri + d) % 48 = d by omega, hri.2])) (by omega) _ _ (hP.sub [0, 1, 2, 3, 4, 5, 6, 7, 8, 9, 10, 11, 12, 13, 14] rfl) (hD.sub [0, 1, 2, 3, 4, 5, 6, 7, 8, 9, 10, 11, 12, 13, 14] (by decide) rfl) hS ls (lv_sub hl [0, 1, 2, 3, 4, 5, 6, 7, 8] rfl)
                exact LP97 _ 0 w2 (by omega) (qSeg_0) (Nat.lt_succ_self _) _ _ (hP.sub [0, 1, 2, 3, 4, 5, 6, 7, 8, 9, 10, 11, 12, 13, 14] rfl) (hD.sub [0, 1, 2, 3, 4, 5, 6, 7, 8, 9, 10, 11, 12, 13, 14] (by decide) rfl) hS ls (lv_sub hl [0, 1, 2, 3, 4, 5, 6, 7, 8] rfl)
              refine lv_bipush (pc := 74) (v := nI 48) hx hb dX10_des_74 (by decide +kernel) ?_
              refine lv_iload (pc := 76) hx hb dX10_des_76 (lv_at hl 6 rfl) ?_
              refine lv_if_eq (pc := 78) (tgt := 89) hx hb dX10_des_78 (by decide) (fun c_12 => ?_) (fun c_12 => ?_)
              · skip
                rw [q_beq] at c_12
                try rw [Bool.not_eq_false] at c_12
                refine lv_iload (pc := 89) hx hb dX10_des_89 (lv_at hl 0 rfl) ?_
                exact JN91 c (by refine ⟨by omega, ?_⟩; simp_all) _ _ (hP.sub [0, 1, 2, 3, 4, 5, 6, 7, 8, 9, 10, 11, 12, 13, 14] rfl) (hD.sub [0, 1, 2, 3, 4, 5, 6, 7, 8, 9, 10, 11, 12, 13, 14] (by decide) rfl) hS ls (lv_sub hl [0, 1, 2, 3, 4, 5, 6] rfl)
              · skip
                rw [q_beq] at c_12
                try rw [Bool.not_eq_false] at c_12
                refine lv_bipush (pc := 81) (v := nI 15) hx hb dX10_des_81 (by decide +kernel) ?_
                refine lv_iload (pc := 83) hx hb dX10_des_83 (lv_at hl 0 rfl) ?_
                refine lv_isub (pc := 85) hx hb dX10_des_85 ?_
                refine q_top (y := nI (15 - c)) (pk_sub (a := 15) (b := c) (by omega)) ?_
                refine lv_goto (pc := 86) (tgt := 91) hx hb dX10_des_86 (by decide) ?_
                exact JN91 (15 - c) (by refine ⟨by omega, ?_⟩; simp_all) _ _ (hP.sub [0, 1, 2, 3, 4, 5, 6, 7, 8, 9, 10, 11, 12, 13, 14] rfl) (hD.sub [0, 1, 2, 3, 4, 5, 6, 7, 8, 9, 10, 11, 12, 13, 14] (by decide) rfl) hS ls (lv_sub hl [0, 1, 2, 3, 4, 5, 6] rfl)
        exact LP67 _ 0 b' tu hf wd (by omega) (fun j hj => qSeg_at hs (by omega)) (Nat.lt_succ_self _) _ _ (hP.sub [0, 1, 2, 3, 4, 5, 6, 7, 8, 9, 10, 11, 12, 13, 14] rfl) (hD.sub [0, 1, 2, 3, 4, 5, 6, 7, 8, 9, 10, 11, 12, 13, 14] (by decide) rfl) hS ls (lv_sub hl [0, 1, 2, 3, 4, 5, 6] rfl)
      · skip
        rw [nI_leI (by omega) (by omega)] at c_1
        have hbd := tIP_b (k := k) (by omega)
        refine lv_aload_n (pc := 17) hx hb dX10_des_17 rfl (lv_at hl 1 rfl) ?_
        refine va_get (pc := 18) (D := D) (ci := 8) (v := .ref (a 10)) (C := RX10) (T := TX10) (N := 57) hx hb hts iu10 hown hK hP 9 rfl rfl 10 (by decide) (hts _ tw_1055) (fun _ h9 => h9) rfl dX10_des_18 ?_
        refine lv_iload (pc := 21) hx hb dX10_des_21 (lv_at hl 0 rfl) ?_
        refine lv_aload_n (pc := 23) hx hb dX10_des_23 rfl (lv_at hl 2 rfl) ?_
        refine lv_iload_n (pc := 24) hx hb dX10_des_24 rfl (lv_at hl 3 rfl) ?_
        refine lv_aload_n (pc := 25) hx hb dX10_des_25 rfl (lv_at hl 1 rfl) ?_
        refine va_get (pc := 26) (D := D) (ci := 8) (v := .ref (a 0)) (C := RX10) (T := TX10) (N := 57) hx hb hts iu10 hown hK hP 9 rfl rfl 0 (by decide) (hts _ tw_1045) (fun _ h9 => h9) rfl dX10_des_26 ?_
        refine lv_iload (pc := 29) hx hb dX10_des_29 (lv_at hl 0 rfl) ?_
        refine q_iald (pc := 31) hx hb hK hP 0 0 rfl rfl (k := k) (v := nI (tIP k)) rfl (by omega) (by omega) rfl dX10_des_31 ?_
        refine lv_iconst (pc := 32) (v := nI 1) hx hb dX10_des_32 (by decide +kernel) ?_
        refine lv_isub (pc := 33) hx hb dX10_des_33 ?_
        refine q_top (y := nI (tIP k - 1)) (pk_sub (a := tIP k) (b := 1) (by omega)) ?_
        refine lv_bipush (pc := 34) (v := nI 8) hx hb dX10_des_34 (by decide +kernel) ?_
        refine lv_idiv (pc := 36) hx hb dX10_des_36 (q_ne0 (by omega) (by omega)) ?_
        refine q_top (y := nI ((tIP k - 1) / 8)) (pk_div (by omega) (by omega) (by omega)) ?_
        refine lv_iadd (pc := 37) hx hb dX10_des_37 ?_
        refine q_top (y := nI (at0 + ((tIP k - 1) / 8))) (nI_add at0 ((tIP k - 1) / 8)) ?_
        refine q_bald (pc := 38) hx hb hK hP 8 2 rfl rfl (k := at0 + ((tIP k - 1) / 8)) (v := qs (gb (at0 + ((tIP k - 1) / 8)))) rfl (by omega) (by omega) rfl dX10_des_38 ?_
        refine lv_bipush (pc := 39) (v := nI 7) hx hb dX10_des_39 (by decide +kernel) ?_
        refine lv_aload_n (pc := 41) hx hb dX10_des_41 rfl (lv_at hl 1 rfl) ?_
        refine va_get (pc := 42) (D := D) (ci := 8) (v := .ref (a 0)) (C := RX10) (T := TX10) (N := 57) hx hb hts iu10 hown hK hP 9 rfl rfl 0 (by decide) (hts _ tw_1045) (fun _ h9 => h9) rfl dX10_des_42 ?_
        refine lv_iload (pc := 45) hx hb dX10_des_45 (lv_at hl 0 rfl) ?_
        refine q_iald (pc := 47) hx hb hK hP 0 0 rfl rfl (k := k) (v := nI (tIP k)) rfl (by omega) (by omega) rfl dX10_des_47 ?_
        refine lv_iconst (pc := 48) (v := nI 1) hx hb dX10_des_48 (by decide +kernel) ?_
        refine lv_isub (pc := 49) hx hb dX10_des_49 ?_
        refine q_top (y := nI (tIP k - 1)) (pk_sub (a := tIP k) (b := 1) (by omega)) ?_
        refine lv_bipush (pc := 50) (v := nI 8) hx hb dX10_des_50 (by decide +kernel) ?_
        refine lv_irem (pc := 52) hx hb dX10_des_52 (q_ne0 (by omega) (by omega)) ?_
        refine q_top (y := nI ((tIP k - 1) % 8)) (pk_rem (by omega) (by omega) (by omega)) ?_
        refine lv_isub (pc := 53) hx hb dX10_des_53 ?_
        refine q_top (y := nI (7 - ((tIP k - 1) % 8))) (pk_sub (a := 7) (b := (tIP k - 1) % 8) (by omega)) ?_
        refine lv_ishr (pc := 54) hx hb dX10_des_54 ?_
        refine lv_iconst (pc := 55) (v := nI 1) hx hb dX10_des_55 (by decide +kernel) ?_
        refine lv_iand (pc := 56) hx hb dX10_des_56 ?_
        refine q_top (y := qb ((gb (at0 + ((tIP k - 1) / 8))).getLsbD (7 - ((tIP k - 1) % 8)))) (q_bit_s _ (by omega)) ?_
        refine q_iastB (pc := 57) hx hb hK hP hD hS 4 0 rfl rfl (k := k) rfl (by omega) (by omega) (b := (gb (at0 + ((tIP k - 1) / 8))).getLsbD (7 - ((tIP k - 1) % 8))) rfl dX10_des_57 (fun H locs hP hD hS => ?_)
        have hP : va_P D vwCl [(a 0, aK ta 64 tIP), (a 1, aK ta 48 tSPR), (a 2, aK ta 32 tMIX), (a 5, aK ta 512 tSBX), (a 10, aB ta 64 (qU b' k ((gb (at0 + ((tIP k - 1) / 8))).getLsbD (7 - ((tIP k - 1) % 8))))), (a 11, aB ta 64 tu), (a 14, aB ta 32 hf), (a 15, aB ta 48 wd), (hb2, aS ta capb gb), (h0, oM a ar mn tp osz lsz ns ct), (a 3, aK ta 56 tCH), (a 4, aK ta 48 tSEC), (a 12, aB ta 56 cd1_4), (a 13, aB ta 768 sk1_4), (hk, aS ta capk gk)] H := hP
        have hD : va_D A [(a 0, aK ta 64 tIP), (a 1, aK ta 48 tSPR), (a 2, aK ta 32 tMIX), (a 5, aK ta 512 tSBX), (a 10, aB ta 64 (qU b' k ((gb (at0 + ((tIP k - 1) / 8))).getLsbD (7 - ((tIP k - 1) % 8))))), (a 11, aB ta 64 tu), (a 14, aB ta 32 hf), (a 15, aB ta 48 wd), (hb2, aS ta capb gb), (h0, oM a ar mn tp osz lsz ns ct), (a 3, aK ta 56 tCH), (a 4, aK ta 48 tSEC), (a 12, aB ta 56 cd1_4), (a 13, aB ta 768 sk1_4), (hk, aS ta capk gk)] := hD
        refine lv_iinc (pc := 58) (v := nI (k + 1)) (lv' := [(6, .int (nI (k + 1))), (0, .ref h0), (1, .ref hb2), (2, .int (nI at0)), (3, .ref hk), (4, .int (nI fr)), (5, .int (qb β))]) hx hb dX10_des_58 hl (k := 0) rfl (by first | exact nI_add k 1 | rfl) (by decide) rfl (fun ls hl => ?_)
        refine lv_goto (pc := 61) (tgt := 10) hx hb dX10_des_61 (by decide) ?_
        exact ih10 (k + 1) (qU b' k ((gb (at0 + ((tIP k - 1) / 8))).getLsbD (7 - ((tIP k - 1) % 8)))) (by omega) (qSeg_s hs (by omega) rfl) (by omega) _ _ (hP.sub [0, 1, 2, 3, 4, 5, 6, 7, 8, 9, 10, 11, 12, 13, 14] rfl) (hD.sub [0, 1, 2, 3, 4, 5, 6, 7, 8, 9, 10, 11, 12, 13, 14] (by decide) rfl) hS ls (lv_sub hl [0, 1, 2, 3, 4, 5, 6] rfl)
  exact LP10 _ 0 bi (by omega) (qSeg_0) (Nat.lt_succ_self _) _ _ (hP.sub [0, 1, 2, 3, 4, 5, 6, 7, 8, 9, 10, 11, 12, 13, 14] rfl) (hD.sub [0, 1, 2, 3, 4, 5, 6, 7, 8, 9, 10, 11, 12, 13, 14] (by decide) rfl) hS ls (lv_sub hl [0, 1, 2, 3, 4, 5, 6] rfl)
theorem hdX10_des3 : yX10_des3.cls ≠ "java/lang/invoke/MethodHandle" ∧ yX10_des3.cls ≠ "java/lang/invoke/VarHandle" ∧ (parseMethodDescriptor yX10_des3.desc).map (fun d => d.parameters.length) = some 5 := ⟨by decide +kernel, by decide +kernel, by decide +kernel⟩
theorem dX10_des3_0 : decode cX10_des3 0 = .ok (.aload_n 0, 1) := by decide +kernel
theorem dX10_des3_1 : decode cX10_des3 1 = .ok (.aload_n 1, 1) := by decide +kernel
theorem dX10_des3_2 : decode cX10_des3 2 = .ok (.iload_n 2, 1) := by decide +kernel
theorem dX10_des3_3 : decode cX10_des3 3 = .ok (.aload_n 3, 1) := by decide +kernel
theorem dX10_des3_4 : decode cX10_des3 4 = .ok (.iload 4, 2) := by decide +kernel
theorem dX10_des3_6 : decode cX10_des3 6 = .ok (.iload 5, 2) := by decide +kernel
theorem dX10_des3_8 : decode cX10_des3 8 = .ok (.invokevirtual 44, 3) := by decide +kernel
theorem dX10_des3_11 : decode cX10_des3 11 = .ok (.aload_n 0, 1) := by decide +kernel
theorem dX10_des3_12 : decode cX10_des3 12 = .ok (.aload_n 1, 1) := by decide +kernel
theorem dX10_des3_13 : decode cX10_des3 13 = .ok (.iload_n 2, 1) := by decide +kernel
theorem dX10_des3_14 : decode cX10_des3 14 = .ok (.aload_n 3, 1) := by decide +kernel
theorem dX10_des3_15 : decode cX10_des3 15 = .ok (.iload 4, 2) := by decide +kernel
theorem dX10_des3_17 : decode cX10_des3 17 = .ok (.bipush 8, 2) := by decide +kernel
theorem dX10_des3_19 : decode cX10_des3 19 = .ok (.iadd, 1) := by decide +kernel
theorem dX10_des3_20 : decode cX10_des3 20 = .ok (.iload 5, 2) := by decide +kernel
theorem dX10_des3_22 : decode cX10_des3 22 = .ok (.ifCond .ne 7, 3) := by decide +kernel
theorem dX10_des3_25 : decode cX10_des3 25 = .ok (.iconst 1, 1) := by decide +kernel
theorem dX10_des3_26 : decode cX10_des3 26 = .ok (.goto 4, 3) := by decide +kernel
theorem dX10_des3_29 : decode cX10_des3 29 = .ok (.iconst 0, 1) := by decide +kernel
theorem dX10_des3_30 : decode cX10_des3 30 = .ok (.invokevirtual 44, 3) := by decide +kernel
theorem dX10_des3_33 : decode cX10_des3 33 = .ok (.aload_n 0, 1) := by decide +kernel
theorem dX10_des3_34 : decode cX10_des3 34 = .ok (.aload_n 1, 1) := by decide +kernel
theorem dX10_des3_35 : decode cX10_des3 35 = .ok (.iload_n 2, 1) := by decide +kernel
theorem dX10_des3_36 : decode cX10_des3 36 = .ok (.aload_n 3, 1) := by decide +kernel
theorem dX10_des3_37 : decode cX10_des3 37 = .ok (.iload 4, 2) := by decide +kernel
theorem dX10_des3_39 : decode cX10_des3 39 = .ok (.iload 5, 2) := by decide +kernel
theorem dX10_des3_41 : decode cX10_des3 41 = .ok (.invokevirtual 44, 3) := by decide +kernel
theorem dX10_des3_44 : decode cX10_des3 44 = .ok (.return_, 1) := by decide +kernel
set_option maxHeartbeats 4000000 in
set_option maxRecDepth 100000 in
theorem ct_X10_des3 (ll : Launch) (D : va_G) (ta : Nat → ClassId) {G : (Nat → Prop) → State → Heap → Prop} (hGok : GOK G) (h0 : Nat) (a : Nat → Nat) (ar : Nat) (mn : Nat) (tp : Nat) (osz : Nat) (lsz : Nat) (ns : Nat) (ct : Nat) (hb2 : Nat) (at0 : Nat) (capb : Nat) (gb : Nat → BitVec 8) (hk : Nat) (fr : Nat) (capk : Nat) (gk : Nat → BitVec 8) (bi : Nat → Bool) (tu : Nat → Bool) (cd : Nat → Bool) (sk : Nat → Bool) (hf : Nat → Bool) (wd : Nat → Bool) (β : Bool) (hat : at0 + 8 ≤ capb) (hcb : capb < 2147483648) (hck : capk < 2147483648) (hf16 : fr + 16 ≤ capk) (sz : Nat) : CT ll yX10_des3 cX10_des3 6 none ({ frames := 2, cells := 0, slots := 0, locals := 60 } : Room) D ta G [.ref h0, .ref hb2, .int (nI at0), .ref hk, .int (nI fr), .int (qb β)] [(h0, oM a ar mn tp osz lsz ns ct), (a 0, aK ta 64 tIP), (a 1, aK ta 48 tSPR), (a 2, aK ta 32 tMIX), (a 3, aK ta 56 tCH), (a 4, aK ta 48 tSEC), (a 5, aK ta 512 tSBX), (a 10, aB ta 64 bi), (a 11, aB ta 64 tu), (a 12, aB ta 56 cd), (a 13, aB ta 768 sk), (a 14, aB ta 32 hf), (a 15, aB ta 48 wd), (hb2, aS ta capb gb), (hk, aS ta capk gk)] sz (S := (Nat → BitVec 8) × (Nat → Bool) × (Nat → Bool) × (Nat → Bool) × (Nat → Bool) × (Nat → Bool) × (Nat → Bool)) (fun _ => none) (fun u => (∀ j, j < 64 → dBit u.1 at0 j = TDES (dBit gk fr) (dBit gk (fr + 8)) (dBit gb at0) β j) ∧ (∀ j, (j < at0 ∨ at0 + 8 ≤ j) → u.1 j = gb j)) (fun u => [(h0, oM a ar mn tp osz lsz ns ct), (a 0, aK ta 64 tIP), (a 1, aK ta 48 tSPR), (a 2, aK ta 32 tMIX), (a 3, aK ta 56 tCH), (a 4, aK ta 48 tSEC), (a 5, aK ta 512 tSBX), (a 10, aB ta 64 u.2.1), (a 11, aB ta 64 u.2.2.1), (a 12, aB ta 56 u.2.2.2.1), (a 13, aB ta 768 u.2.2.2.2.1), (a 14, aB ta 32 u.2.2.2.2.2.1), (a 15, aB ta 48 u.2.2.2.2.2.2), (hb2, aS ta capb u.1), (hk, aS ta capk gk)]) 0 0 := by
  refine CT.of_v rfl (by decide) (Nat.le_of_ble_eq_true rfl) ?_
  intro pp ee ss mm below meth kc A Q hx hb hml hown hin hts hK hA hsz hG hret H locs hP hD hS ls hl
  have hl : lv_has ls 6 [(0, .ref h0), (1, .ref hb2), (2, .int (nI at0)), (3, .ref hk), (4, .int (nI fr)), (5, .int (qb β))] := hl
  refine lv_aload_n (pc := 0) hx hb dX10_des3_0 rfl (lv_at hl 0 rfl) ?_
  refine lv_aload_n (pc := 1) hx hb dX10_des3_1 rfl (lv_at hl 1 rfl) ?_
  refine lv_iload_n (pc := 2) hx hb dX10_des3_2 rfl (lv_at hl 2 rfl) ?_
  refine lv_aload_n (pc := 3) hx hb dX10_des3_3 rfl (lv_at hl 3 rfl) ?_
  refine lv_iload (pc := 4) hx hb dX10_des3_4 (lv_at hl 4 rfl) ?_
  refine lv_iload (pc := 6) hx hb dX10_des3_6 (lv_at hl 5 rfl) ?_
  refine cs_V (pc := 8) (idx := 44) (n := 5) (wr := []) (As := [.ref hb2, .int (nI at0), .ref hk, .int (nI fr), .int (qb β)]) (rest := []) (ci := 8) hx hb hml hown hts hGok hK hA hG hl.1 hP hD hS (ct_X10_des ll D ta hGok h0 a ar mn tp osz lsz ns ct hb2 at0 capb gb hk fr capk gk bi tu cd sk hf wd β (by first | assumption | omega | rfl | decide) (by first | assumption | omega | rfl | decide) (by first | assumption | omega | rfl | decide) (by first | assumption | omega | rfl | decide) H.size) tw_1294 tw_1291 tw_1293 tw_33 tw_75 hdX10_des rfl ⟨rfl, rfl, Nat.le_of_ble_eq_true rfl, Nat.le_of_ble_eq_true rfl, Nat.le_of_ble_eq_true rfl, Nat.le_of_ble_eq_true rfl⟩ rfl rfl (q0 := 0) rfl [0, 1, 2, 3, 4, 5, 6, 7, 8, 9, 10, 11, 12, 13, 14] [] rfl rfl (by decide) rfl (Nat.le_of_ble_eq_true rfl) dX10_des3_8 (fun u H locs hq hP hD hS => ?_)
  obtain ⟨gb1_8, bi1_8, tu1_8, cd1_8, sk1_8, hf1_8, wd1_8⟩ := u
  have hq : (∀ j, j < 64 → dBit gb1_8 at0 j = DES (dBit gk fr) (dBit gb at0) β j) ∧ (∀ j, (j < at0 ∨ at0 + 8 ≤ j) → gb1_8 j = gb j) := hq
  obtain ⟨hs_8, hfr_8⟩ := hq
  refine W.eq (g2 := F0 mm 11 ls []) rfl ?_
  have hP : va_P D vwCl [(h0, oM a ar mn tp osz lsz ns ct), (a 0, aK ta 64 tIP), (a 1, aK ta 48 tSPR), (a 2, aK ta 32 tMIX), (a 3, aK ta 56 tCH), (a 4, aK ta 48 tSEC), (a 5, aK ta 512 tSBX), (a 10, aB ta 64 bi1_8), (a 11, aB ta 64 tu1_8), (a 12, aB ta 56 cd1_8), (a 13, aB ta 768 sk1_8), (a 14, aB ta 32 hf1_8), (a 15, aB ta 48 wd1_8), (hb2, aS ta capb gb1_8), (hk, aS ta capk gk)] H := hP
  have hD : va_D A [(h0, oM a ar mn tp osz lsz ns ct), (a 0, aK ta 64 tIP), (a 1, aK ta 48 tSPR), (a 2, aK ta 32 tMIX), (a 3, aK ta 56 tCH), (a 4, aK ta 48 tSEC), (a 5, aK ta 512 tSBX), (a 10, aB ta 64 bi1_8), (a 11, aB ta 64 tu1_8), (a 12, aB ta 56 cd1_8), (a 13, aB ta 768 sk1_8), (a 14, aB ta 32 hf1_8), (a 15, aB ta 48 wd1_8), (hb2, aS ta capb gb1_8), (hk, aS ta capk gk)] := hD
  refine lv_aload_n (pc := 11) hx hb dX10_des3_11 rfl (lv_at hl 0 rfl) ?_
  refine lv_aload_n (pc := 12) hx hb dX10_des3_12 rfl (lv_at hl 1 rfl) ?_
  refine lv_iload_n (pc := 13) hx hb dX10_des3_13 rfl (lv_at hl 2 rfl) ?_
  refine lv_aload_n (pc := 14) hx hb dX10_des3_14 rfl (lv_at hl 3 rfl) ?_
  refine lv_iload (pc := 15) hx hb dX10_des3_15 (lv_at hl 4 rfl) ?_
  refine lv_bipush (pc := 17) (v := nI 8) hx hb dX10_des3_17 (by decide +kernel) ?_
  refine lv_iadd (pc := 19) hx hb dX10_des3_19 ?_
  refine q_top (y := nI (fr + 8)) (nI_add fr 8) ?_
  refine lv_iload (pc := 20) hx hb dX10_des3_20 (lv_at hl 5 rfl) ?_
  refine lv_if_ne (pc := 22) (tgt := 29) hx hb dX10_des3_22 (by decide) (fun c_1 => ?_) (fun c_1 => ?_)
  · skip
    rw [q_beq] at c_1
    try rw [Bool.not_eq_false] at c_1
    have hβ := c_1
    refine lv_iconst (pc := 29) (v := nI 0) hx hb dX10_des3_29 (by decide +kernel) ?_
    refine cs_V (pc := 30) (idx := 44) (n := 5) (wr := []) (As := [.ref hb2, .int (nI at0), .ref hk, .int (nI (fr + 8)), .int (nI 0)]) (rest := []) (ci := 8) hx hb hml hown hts hGok hK hA hG hl.1 hP hD hS (ct_X10_des ll D ta hGok h0 a ar mn tp osz lsz ns ct hb2 at0 capb gb1_8 hk (fr + 8) capk gk bi1_8 tu1_8 cd1_8 sk1_8 hf1_8 wd1_8 false (by first | assumption | omega | rfl | decide) (by first | assumption | omega | rfl | decide) (by first | assumption | omega | rfl | decide) (by first | assumption | omega | rfl | decide) H.size) tw_1294 tw_1291 tw_1293 tw_33 tw_75 hdX10_des rfl ⟨rfl, rfl, Nat.le_of_ble_eq_true rfl, Nat.le_of_ble_eq_true rfl, Nat.le_of_ble_eq_true rfl, Nat.le_of_ble_eq_true rfl⟩ rfl rfl (q0 := 0) rfl [0, 1, 2, 3, 4, 5, 6, 7, 8, 9, 10, 11, 12, 13, 14] [] rfl rfl (by decide) rfl (Nat.le_of_ble_eq_true rfl) dX10_des3_30 (fun u H locs hq hP hD hS => ?_)
    obtain ⟨gb1_30, bi1_30, tu1_30, cd1_30, sk1_30, hf1_30, wd1_30⟩ := u
    have hq : (∀ j, j < 64 → dBit gb1_30 at0 j = DES (dBit gk (fr + 8)) (dBit gb1_8 at0) false j) ∧ (∀ j, (j < at0 ∨ at0 + 8 ≤ j) → gb1_30 j = gb1_8 j) := hq
    obtain ⟨hs_30, hfr_30⟩ := hq
    refine W.eq (g2 := F0 mm 33 ls []) rfl ?_
    have hP : va_P D vwCl [(h0, oM a ar mn tp osz lsz ns ct), (a 0, aK ta 64 tIP), (a 1, aK ta 48 tSPR), (a 2, aK ta 32 tMIX), (a 3, aK ta 56 tCH), (a 4, aK ta 48 tSEC), (a 5, aK ta 512 tSBX), (a 10, aB ta 64 bi1_30), (a 11, aB ta 64 tu1_30), (a 12, aB ta 56 cd1_30), (a 13, aB ta 768 sk1_30), (a 14, aB ta 32 hf1_30), (a 15, aB ta 48 wd1_30), (hb2, aS ta capb gb1_30), (hk, aS ta capk gk)] H := hP
    have hD : va_D A [(h0, oM a ar mn tp osz lsz ns ct), (a 0, aK ta 64 tIP), (a 1, aK ta 48 tSPR), (a 2, aK ta 32 tMIX), (a 3, aK ta 56 tCH), (a 4, aK ta 48 tSEC), (a 5, aK ta 512 tSBX), (a 10, aB ta 64 bi1_30), (a 11, aB ta 64 tu1_30), (a 12, aB ta 56 cd1_30), (a 13, aB ta 768 sk1_30), (a 14, aB ta 32 hf1_30), (a 15, aB ta 48 wd1_30), (hb2, aS ta capb gb1_30), (hk, aS ta capk gk)] := hD
    refine lv_aload_n (pc := 33) hx hb dX10_des3_33 rfl (lv_at hl 0 rfl) ?_
    refine lv_aload_n (pc := 34) hx hb dX10_des3_34 rfl (lv_at hl 1 rfl) ?_
    refine lv_iload_n (pc := 35) hx hb dX10_des3_35 rfl (lv_at hl 2 rfl) ?_
    refine lv_aload_n (pc := 36) hx hb dX10_des3_36 rfl (lv_at hl 3 rfl) ?_
    refine lv_iload (pc := 37) hx hb dX10_des3_37 (lv_at hl 4 rfl) ?_
    refine lv_iload (pc := 39) hx hb dX10_des3_39 (lv_at hl 5 rfl) ?_
    refine cs_V (pc := 41) (idx := 44) (n := 5) (wr := []) (As := [.ref hb2, .int (nI at0), .ref hk, .int (nI fr), .int (qb β)]) (rest := []) (ci := 8) hx hb hml hown hts hGok hK hA hG hl.1 hP hD hS (ct_X10_des ll D ta hGok h0 a ar mn tp osz lsz ns ct hb2 at0 capb gb1_30 hk fr capk gk bi1_30 tu1_30 cd1_30 sk1_30 hf1_30 wd1_30 β (by first | assumption | omega | rfl | decide) (by first | assumption | omega | rfl | decide) (by first | assumption | omega | rfl | decide) (by first | assumption | omega | rfl | decide) H.size) tw_1294 tw_1291 tw_1293 tw_33 tw_75 hdX10_des rfl ⟨rfl, rfl, Nat.le_of_ble_eq_true rfl, Nat.le_of_ble_eq_true rfl, Nat.le_of_ble_eq_true rfl, Nat.le_of_ble_eq_true rfl⟩ rfl rfl (q0 := 0) rfl [0, 1, 2, 3, 4, 5, 6, 7, 8, 9, 10, 11, 12, 13, 14] [] rfl rfl (by decide) rfl (Nat.le_of_ble_eq_true rfl) dX10_des3_41 (fun u H locs hq hP hD hS => ?_)
    obtain ⟨gb1_41, bi1_41, tu1_41, cd1_41, sk1_41, hf1_41, wd1_41⟩ := u
    have hq : (∀ j, j < 64 → dBit gb1_41 at0 j = DES (dBit gk fr) (dBit gb1_30 at0) β j) ∧ (∀ j, (j < at0 ∨ at0 + 8 ≤ j) → gb1_41 j = gb1_30 j) := hq
    obtain ⟨hs_41, hfr_41⟩ := hq
    refine W.eq (g2 := F0 mm 44 ls []) rfl ?_
    have hP : va_P D vwCl [(h0, oM a ar mn tp osz lsz ns ct), (a 0, aK ta 64 tIP), (a 1, aK ta 48 tSPR), (a 2, aK ta 32 tMIX), (a 3, aK ta 56 tCH), (a 4, aK ta 48 tSEC), (a 5, aK ta 512 tSBX), (a 10, aB ta 64 bi1_41), (a 11, aB ta 64 tu1_41), (a 12, aB ta 56 cd1_41), (a 13, aB ta 768 sk1_41), (a 14, aB ta 32 hf1_41), (a 15, aB ta 48 wd1_41), (hb2, aS ta capb gb1_41), (hk, aS ta capk gk)] H := hP
    have hD : va_D A [(h0, oM a ar mn tp osz lsz ns ct), (a 0, aK ta 64 tIP), (a 1, aK ta 48 tSPR), (a 2, aK ta 32 tMIX), (a 3, aK ta 56 tCH), (a 4, aK ta 48 tSEC), (a 5, aK ta 512 tSBX), (a 10, aB ta 64 bi1_41), (a 11, aB ta 64 tu1_41), (a 12, aB ta 56 cd1_41), (a 13, aB ta 768 sk1_41), (a 14, aB ta 32 hf1_41), (a 15, aB ta 48 wd1_41), (hb2, aS ta capb gb1_41), (hk, aS ta capk gk)] := hD
    have hq_2 : (∀ j, j < 64 → dBit gb1_41 at0 j = TDES (dBit gk fr) (dBit gk (fr + 8)) (dBit gb at0) β j) ∧ (∀ j, (j < at0 ∨ at0 + 8 ≤ j) → gb1_41 j = gb j) := by
      refine ⟨fun j hj => ?_, fun j hj => by rw [hfr_41 j hj, hfr_30 j hj, hfr_8 j hj]⟩
      rw [hs_41 j hj, TDES]
      refine DES_congr (fun k hk => ?_) hj
      rw [hs_30 k hk]
      simp only [hβ, Bool.not_true, Bool.not_false]
      refine DES_congr (fun i hi => ?_) hk
      rw [hs_8 i hi, hβ]
    exact hret (⟨(gb1_41), (bi1_41), (tu1_41), (cd1_41), (sk1_41), (hf1_41), (wd1_41)⟩ : (Nat → BitVec 8) × (Nat → Bool) × (Nat → Bool) × (Nat → Bool) × (Nat → Bool) × (Nat → Bool) × (Nat → Bool)) _ _ _ _ dX10_des3_44 hq_2 (hP.sub [0, 1, 2, 3, 4, 5, 6, 7, 8, 9, 10, 11, 12, 13, 14] rfl) (hD.sub [0, 1, 2, 3, 4, 5, 6, 7, 8, 9, 10, 11, 12, 13, 14] (by decide) rfl) hS
  · skip
    rw [q_beq] at c_1
    try rw [Bool.not_eq_false] at c_1
    have hβ := c_1
    refine lv_iconst (pc := 25) (v := nI 1) hx hb dX10_des3_25 (by decide +kernel) ?_
    refine lv_goto (pc := 26) (tgt := 30) hx hb dX10_des3_26 (by decide) ?_
    refine cs_V (pc := 30) (idx := 44) (n := 5) (wr := []) (As := [.ref hb2, .int (nI at0), .ref hk, .int (nI (fr + 8)), .int (nI 1)]) (rest := []) (ci := 8) hx hb hml hown hts hGok hK hA hG hl.1 hP hD hS (ct_X10_des ll D ta hGok h0 a ar mn tp osz lsz ns ct hb2 at0 capb gb1_8 hk (fr + 8) capk gk bi1_8 tu1_8 cd1_8 sk1_8 hf1_8 wd1_8 true (by first | assumption | omega | rfl | decide) (by first | assumption | omega | rfl | decide) (by first | assumption | omega | rfl | decide) (by first | assumption | omega | rfl | decide) H.size) tw_1294 tw_1291 tw_1293 tw_33 tw_75 hdX10_des rfl ⟨rfl, rfl, Nat.le_of_ble_eq_true rfl, Nat.le_of_ble_eq_true rfl, Nat.le_of_ble_eq_true rfl, Nat.le_of_ble_eq_true rfl⟩ rfl rfl (q0 := 0) rfl [0, 1, 2, 3, 4, 5, 6, 7, 8, 9, 10, 11, 12, 13, 14] [] rfl rfl (by decide) rfl (Nat.le_of_ble_eq_true rfl) dX10_des3_30 (fun u H locs hq hP hD hS => ?_)
    obtain ⟨gb1_30, bi1_30, tu1_30, cd1_30, sk1_30, hf1_30, wd1_30⟩ := u
    have hq : (∀ j, j < 64 → dBit gb1_30 at0 j = DES (dBit gk (fr + 8)) (dBit gb1_8 at0) true j) ∧ (∀ j, (j < at0 ∨ at0 + 8 ≤ j) → gb1_30 j = gb1_8 j) := hq
    obtain ⟨hs_30, hfr_30⟩ := hq
    refine W.eq (g2 := F0 mm 33 ls []) rfl ?_
    have hP : va_P D vwCl [(h0, oM a ar mn tp osz lsz ns ct), (a 0, aK ta 64 tIP), (a 1, aK ta 48 tSPR), (a 2, aK ta 32 tMIX), (a 3, aK ta 56 tCH), (a 4, aK ta 48 tSEC), (a 5, aK ta 512 tSBX), (a 10, aB ta 64 bi1_30), (a 11, aB ta 64 tu1_30), (a 12, aB ta 56 cd1_30), (a 13, aB ta 768 sk1_30), (a 14, aB ta 32 hf1_30), (a 15, aB ta 48 wd1_30), (hb2, aS ta capb gb1_30), (hk, aS ta capk gk)] H := hP
    have hD : va_D A [(h0, oM a ar mn tp osz lsz ns ct), (a 0, aK ta 64 tIP), (a 1, aK ta 48 tSPR), (a 2, aK ta 32 tMIX), (a 3, aK ta 56 tCH), (a 4, aK ta 48 tSEC), (a 5, aK ta 512 tSBX), (a 10, aB ta 64 bi1_30), (a 11, aB ta 64 tu1_30), (a 12, aB ta 56 cd1_30), (a 13, aB ta 768 sk1_30), (a 14, aB ta 32 hf1_30), (a 15, aB ta 48 wd1_30), (hb2, aS ta capb gb1_30), (hk, aS ta capk gk)] := hD
    refine lv_aload_n (pc := 33) hx hb dX10_des3_33 rfl (lv_at hl 0 rfl) ?_
    refine lv_aload_n (pc := 34) hx hb dX10_des3_34 rfl (lv_at hl 1 rfl) ?_
    refine lv_iload_n (pc := 35) hx hb dX10_des3_35 rfl (lv_at hl 2 rfl) ?_
    refine lv_aload_n (pc := 36) hx hb dX10_des3_36 rfl (lv_at hl 3 rfl) ?_
    refine lv_iload (pc := 37) hx hb dX10_des3_37 (lv_at hl 4 rfl) ?_
    refine lv_iload (pc := 39) hx hb dX10_des3_39 (lv_at hl 5 rfl) ?_
    refine cs_V (pc := 41) (idx := 44) (n := 5) (wr := []) (As := [.ref hb2, .int (nI at0), .ref hk, .int (nI fr), .int (qb β)]) (rest := []) (ci := 8) hx hb hml hown hts hGok hK hA hG hl.1 hP hD hS (ct_X10_des ll D ta hGok h0 a ar mn tp osz lsz ns ct hb2 at0 capb gb1_30 hk fr capk gk bi1_30 tu1_30 cd1_30 sk1_30 hf1_30 wd1_30 β (by first | assumption | omega | rfl | decide) (by first | assumption | omega | rfl | decide) (by first | assumption | omega | rfl | decide) (by first | assumption | omega | rfl | decide) H.size) tw_1294 tw_1291 tw_1293 tw_33 tw_75 hdX10_des rfl ⟨rfl, rfl, Nat.le_of_ble_eq_true rfl, Nat.le_of_ble_eq_true rfl, Nat.le_of_ble_eq_true rfl, Nat.le_of_ble_eq_true rfl⟩ rfl rfl (q0 := 0) rfl [0, 1, 2, 3, 4, 5, 6, 7, 8, 9, 10, 11, 12, 13, 14] [] rfl rfl (by decide) rfl (Nat.le_of_ble_eq_true rfl) dX10_des3_41 (fun u H locs hq hP hD hS => ?_)
    obtain ⟨gb1_41, bi1_41, tu1_41, cd1_41, sk1_41, hf1_41, wd1_41⟩ := u
    have hq : (∀ j, j < 64 → dBit gb1_41 at0 j = DES (dBit gk fr) (dBit gb1_30 at0) β j) ∧ (∀ j, (j < at0 ∨ at0 + 8 ≤ j) → gb1_41 j = gb1_30 j) := hq
    obtain ⟨hs_41, hfr_41⟩ := hq
    refine W.eq (g2 := F0 mm 44 ls []) rfl ?_
    have hP : va_P D vwCl [(h0, oM a ar mn tp osz lsz ns ct), (a 0, aK ta 64 tIP), (a 1, aK ta 48 tSPR), (a 2, aK ta 32 tMIX), (a 3, aK ta 56 tCH), (a 4, aK ta 48 tSEC), (a 5, aK ta 512 tSBX), (a 10, aB ta 64 bi1_41), (a 11, aB ta 64 tu1_41), (a 12, aB ta 56 cd1_41), (a 13, aB ta 768 sk1_41), (a 14, aB ta 32 hf1_41), (a 15, aB ta 48 wd1_41), (hb2, aS ta capb gb1_41), (hk, aS ta capk gk)] H := hP
    have hD : va_D A [(h0, oM a ar mn tp osz lsz ns ct), (a 0, aK ta 64 tIP), (a 1, aK ta 48 tSPR), (a 2, aK ta 32 tMIX), (a 3, aK ta 56 tCH), (a 4, aK ta 48 tSEC), (a 5, aK ta 512 tSBX), (a 10, aB ta 64 bi1_41), (a 11, aB ta 64 tu1_41), (a 12, aB ta 56 cd1_41), (a 13, aB ta 768 sk1_41), (a 14, aB ta 32 hf1_41), (a 15, aB ta 48 wd1_41), (hb2, aS ta capb gb1_41), (hk, aS ta capk gk)] := hD
    have hq_3 : (∀ j, j < 64 → dBit gb1_41 at0 j = TDES (dBit gk fr) (dBit gk (fr + 8)) (dBit gb at0) β j) ∧ (∀ j, (j < at0 ∨ at0 + 8 ≤ j) → gb1_41 j = gb j) := by
      refine ⟨fun j hj => ?_, fun j hj => by rw [hfr_41 j hj, hfr_30 j hj, hfr_8 j hj]⟩
      rw [hs_41 j hj, TDES]
      refine DES_congr (fun k hk => ?_) hj
      rw [hs_30 k hk]
      simp only [hβ, Bool.not_true, Bool.not_false]
      refine DES_congr (fun i hi => ?_) hk
      rw [hs_8 i hi, hβ]
    exact hret (⟨(gb1_41), (bi1_41), (tu1_41), (cd1_41), (sk1_41), (hf1_41), (wd1_41)⟩ : (Nat → BitVec 8) × (Nat → Bool) × (Nat → Bool) × (Nat → Bool) × (Nat → Bool) × (Nat → Bool) × (Nat → Bool)) _ _ _ _ dX10_des3_44 hq_3 (hP.sub [0, 1, 2, 3, 4, 5, 6, 7, 8, 9, 10, 11, 12, 13, 14] rfl) (hD.sub [0, 1, 2, 3, 4, 5, 6, 7, 8, 9, 10, 11, 12, 13, 14] (by decide) rfl) hS
