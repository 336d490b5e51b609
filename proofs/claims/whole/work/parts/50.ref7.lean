theorem hdX10_seal : yX10_seal.cls ≠ "java/lang/invoke/MethodHandle" ∧ yX10_seal.cls ≠ "java/lang/invoke/VarHandle" ∧ (parseMethodDescriptor yX10_seal.desc).map (fun d => d.parameters.length) = some 2 := ⟨by decide +kernel, by decide +kernel, by decide +kernel⟩
theorem dX10_seal_0 : decode cX10_seal 0 = .ok (.aload_n 0, 1) := by decide +kernel
theorem dX10_seal_1 : decode cX10_seal 1 = .ok (.invokevirtual 310, 3) := by decide +kernel
theorem dX10_seal_4 : decode cX10_seal 4 = .ok (.istore_n 3, 1) := by decide +kernel
theorem dX10_seal_5 : decode cX10_seal 5 = .ok (.iload_n 1, 1) := by decide +kernel
theorem dX10_seal_6 : decode cX10_seal 6 = .ok (.invokestatic 314, 3) := by decide +kernel
theorem dX10_seal_9 : decode cX10_seal 9 = .ok (.ifCond .eq 26, 3) := by decide +kernel
theorem dX10_seal_12 : decode cX10_seal 12 = .ok (.aload_n 0, 1) := by decide +kernel
theorem dX10_seal_13 : decode cX10_seal 13 = .ok (.getfield 240, 3) := by decide +kernel
theorem dX10_seal_16 : decode cX10_seal 16 = .ok (.iload_n 1, 1) := by decide +kernel
theorem dX10_seal_17 : decode cX10_seal 17 = .ok (.iaload, 1) := by decide +kernel
theorem dX10_seal_18 : decode cX10_seal 18 = .ok (.ifCond .eq 17, 3) := by decide +kernel
theorem dX10_seal_21 : decode cX10_seal 21 = .ok (.iload_n 3, 1) := by decide +kernel
theorem dX10_seal_22 : decode cX10_seal 22 = .ok (.ifCond .eq 13, 3) := by decide +kernel
theorem dX10_seal_25 : decode cX10_seal 25 = .ok (.iload_n 3, 1) := by decide +kernel
theorem dX10_seal_26 : decode cX10_seal 26 = .ok (.aload_n 0, 1) := by decide +kernel
theorem dX10_seal_27 : decode cX10_seal 27 = .ok (.iload_n 1, 1) := by decide +kernel
theorem dX10_seal_28 : decode cX10_seal 28 = .ok (.invokevirtual 368, 3) := by decide +kernel
theorem dX10_seal_31 : decode cX10_seal 31 = .ok (.irem, 1) := by decide +kernel
theorem dX10_seal_32 : decode cX10_seal 32 = .ok (.ifCond .eq 5, 3) := by decide +kernel
theorem dX10_seal_35 : decode cX10_seal 35 = .ok (.iconst (-1), 1) := by decide +kernel
theorem dX10_seal_36 : decode cX10_seal 36 = .ok (.ireturn, 1) := by decide +kernel
theorem dX10_seal_37 : decode cX10_seal 37 = .ok (.aload_n 0, 1) := by decide +kernel
theorem dX10_seal_38 : decode cX10_seal 38 = .ok (.iload_n 1, 1) := by decide +kernel
theorem dX10_seal_39 : decode cX10_seal 39 = .ok (.invokevirtual 368, 3) := by decide +kernel
theorem dX10_seal_42 : decode cX10_seal 42 = .ok (.istore 4, 2) := by decide +kernel
theorem dX10_seal_44 : decode cX10_seal 44 = .ok (.aload_n 0, 1) := by decide +kernel
theorem dX10_seal_45 : decode cX10_seal 45 = .ok (.getfield 231, 3) := by decide +kernel
theorem dX10_seal_48 : decode cX10_seal 48 = .ok (.iload_n 1, 1) := by decide +kernel
theorem dX10_seal_49 : decode cX10_seal 49 = .ok (.iaload, 1) := by decide +kernel
theorem dX10_seal_50 : decode cX10_seal 50 = .ok (.iconst 2, 1) := by decide +kernel
theorem dX10_seal_51 : decode cX10_seal 51 = .ok (.if_icmp .ne 7, 3) := by decide +kernel
theorem dX10_seal_54 : decode cX10_seal 54 = .ok (.iconst 1, 1) := by decide +kernel
theorem dX10_seal_55 : decode cX10_seal 55 = .ok (.goto 4, 3) := by decide +kernel
theorem dX10_seal_58 : decode cX10_seal 58 = .ok (.iconst 0, 1) := by decide +kernel
theorem dX10_seal_59 : decode cX10_seal 59 = .ok (.istore 5, 2) := by decide +kernel
theorem dX10_seal_61 : decode cX10_seal 61 = .ok (.iload 5, 2) := by decide +kernel
theorem dX10_seal_63 : decode cX10_seal 63 = .ok (.ifCond .ne 25, 3) := by decide +kernel
theorem dX10_seal_66 : decode cX10_seal 66 = .ok (.aload_n 0, 1) := by decide +kernel
theorem dX10_seal_67 : decode cX10_seal 67 = .ok (.aload_n 0, 1) := by decide +kernel
theorem dX10_seal_68 : decode cX10_seal 68 = .ok (.getfield 246, 3) := by decide +kernel
theorem dX10_seal_71 : decode cX10_seal 71 = .ok (.sipush 128, 3) := by decide +kernel
theorem dX10_seal_74 : decode cX10_seal 74 = .ok (.iload_n 1, 1) := by decide +kernel
theorem dX10_seal_75 : decode cX10_seal 75 = .ok (.imul, 1) := by decide +kernel
theorem dX10_seal_76 : decode cX10_seal 76 = .ok (.bipush 96, 2) := by decide +kernel
theorem dX10_seal_78 : decode cX10_seal 78 = .ok (.iadd, 1) := by decide +kernel
theorem dX10_seal_79 : decode cX10_seal 79 = .ok (.aload_n 0, 1) := by decide +kernel
theorem dX10_seal_80 : decode cX10_seal 80 = .ok (.getfield 234, 3) := by decide +kernel
theorem dX10_seal_83 : decode cX10_seal 83 = .ok (.iload_n 1, 1) := by decide +kernel
theorem dX10_seal_84 : decode cX10_seal 84 = .ok (.iaload, 1) := by decide +kernel
theorem dX10_seal_85 : decode cX10_seal 85 = .ok (.invokevirtual 100, 3) := by decide +kernel
theorem dX10_seal_88 : decode cX10_seal 88 = .ok (.iconst 0, 1) := by decide +kernel
theorem dX10_seal_89 : decode cX10_seal 89 = .ok (.istore 6, 2) := by decide +kernel
theorem dX10_seal_91 : decode cX10_seal 91 = .ok (.iload 6, 2) := by decide +kernel
theorem dX10_seal_93 : decode cX10_seal 93 = .ok (.iload_n 3, 1) := by decide +kernel
theorem dX10_seal_94 : decode cX10_seal 94 = .ok (.if_icmp .ge 23, 3) := by decide +kernel
theorem dX10_seal_97 : decode cX10_seal 97 = .ok (.aload_n 0, 1) := by decide +kernel
theorem dX10_seal_98 : decode cX10_seal 98 = .ok (.getfield 222, 3) := by decide +kernel
theorem dX10_seal_101 : decode cX10_seal 101 = .ok (.iload 6, 2) := by decide +kernel
theorem dX10_seal_103 : decode cX10_seal 103 = .ok (.aload_n 0, 1) := by decide +kernel
theorem dX10_seal_104 : decode cX10_seal 104 = .ok (.getfield 219, 3) := by decide +kernel
theorem dX10_seal_107 : decode cX10_seal 107 = .ok (.iload 6, 2) := by decide +kernel
theorem dX10_seal_109 : decode cX10_seal 109 = .ok (.baload, 1) := by decide +kernel
theorem dX10_seal_110 : decode cX10_seal 110 = .ok (.bastore, 1) := by decide +kernel
theorem dX10_seal_111 : decode cX10_seal 111 = .ok (.iinc 6 1, 3) := by decide +kernel
theorem dX10_seal_114 : decode cX10_seal 114 = .ok (.goto (-23), 3) := by decide +kernel
theorem dX10_seal_117 : decode cX10_seal 117 = .ok (.iconst 0, 1) := by decide +kernel
theorem dX10_seal_118 : decode cX10_seal 118 = .ok (.istore 6, 2) := by decide +kernel
theorem dX10_seal_120 : decode cX10_seal 120 = .ok (.iload 6, 2) := by decide +kernel
theorem dX10_seal_122 : decode cX10_seal 122 = .ok (.iload_n 3, 1) := by decide +kernel
theorem dX10_seal_123 : decode cX10_seal 123 = .ok (.if_icmp .ge 169, 3) := by decide +kernel
theorem dX10_seal_126 : decode cX10_seal 126 = .ok (.iconst 0, 1) := by decide +kernel
theorem dX10_seal_127 : decode cX10_seal 127 = .ok (.istore 7, 2) := by decide +kernel
theorem dX10_seal_129 : decode cX10_seal 129 = .ok (.iload 7, 2) := by decide +kernel
theorem dX10_seal_131 : decode cX10_seal 131 = .ok (.iload 4, 2) := by decide +kernel
theorem dX10_seal_133 : decode cX10_seal 133 = .ok (.if_icmp .ge 50, 3) := by decide +kernel
theorem dX10_seal_136 : decode cX10_seal 136 = .ok (.iload 5, 2) := by decide +kernel
theorem dX10_seal_138 : decode cX10_seal 138 = .ok (.ifCond .ne 45, 3) := by decide +kernel
theorem dX10_seal_141 : decode cX10_seal 141 = .ok (.iload_n 2, 1) := by decide +kernel
theorem dX10_seal_142 : decode cX10_seal 142 = .ok (.ifCond .ne 41, 3) := by decide +kernel
theorem dX10_seal_145 : decode cX10_seal 145 = .ok (.iload 6, 2) := by decide +kernel
theorem dX10_seal_147 : decode cX10_seal 147 = .ok (.ifCond .le 36, 3) := by decide +kernel
theorem dX10_seal_150 : decode cX10_seal 150 = .ok (.aload_n 0, 1) := by decide +kernel
theorem dX10_seal_151 : decode cX10_seal 151 = .ok (.getfield 222, 3) := by decide +kernel
theorem dX10_seal_154 : decode cX10_seal 154 = .ok (.iload 6, 2) := by decide +kernel
theorem dX10_seal_156 : decode cX10_seal 156 = .ok (.iload 7, 2) := by decide +kernel
theorem dX10_seal_158 : decode cX10_seal 158 = .ok (.iadd, 1) := by decide +kernel
theorem dX10_seal_159 : decode cX10_seal 159 = .ok (.dup2, 1) := by decide +kernel
theorem dX10_seal_160 : decode cX10_seal 160 = .ok (.baload, 1) := by decide +kernel
theorem dX10_seal_161 : decode cX10_seal 161 = .ok (.aload_n 0, 1) := by decide +kernel
theorem dX10_seal_162 : decode cX10_seal 162 = .ok (.getfield 222, 3) := by decide +kernel
theorem dX10_seal_165 : decode cX10_seal 165 = .ok (.iload 6, 2) := by decide +kernel
theorem dX10_seal_167 : decode cX10_seal 167 = .ok (.iload 4, 2) := by decide +kernel
theorem dX10_seal_169 : decode cX10_seal 169 = .ok (.isub, 1) := by decide +kernel
theorem dX10_seal_170 : decode cX10_seal 170 = .ok (.iload 7, 2) := by decide +kernel
theorem dX10_seal_172 : decode cX10_seal 172 = .ok (.iadd, 1) := by decide +kernel
theorem dX10_seal_173 : decode cX10_seal 173 = .ok (.baload, 1) := by decide +kernel
theorem dX10_seal_174 : decode cX10_seal 174 = .ok (.ixor, 1) := by decide +kernel
theorem dX10_seal_175 : decode cX10_seal 175 = .ok (.i2b, 1) := by decide +kernel
theorem dX10_seal_176 : decode cX10_seal 176 = .ok (.bastore, 1) := by decide +kernel
theorem dX10_seal_177 : decode cX10_seal 177 = .ok (.iinc 7 1, 3) := by decide +kernel
theorem dX10_seal_180 : decode cX10_seal 180 = .ok (.goto (-51), 3) := by decide +kernel
theorem dX10_seal_183 : decode cX10_seal 183 = .ok (.iload 5, 2) := by decide +kernel
theorem dX10_seal_185 : decode cX10_seal 185 = .ok (.ifCond .eq 29, 3) := by decide +kernel
theorem dX10_seal_188 : decode cX10_seal 188 = .ok (.aload_n 0, 1) := by decide +kernel
theorem dX10_seal_189 : decode cX10_seal 189 = .ok (.aload_n 0, 1) := by decide +kernel
theorem dX10_seal_190 : decode cX10_seal 190 = .ok (.getfield 222, 3) := by decide +kernel
theorem dX10_seal_193 : decode cX10_seal 193 = .ok (.iload 6, 2) := by decide +kernel
theorem dX10_seal_195 : decode cX10_seal 195 = .ok (.aload_n 0, 1) := by decide +kernel
theorem dX10_seal_196 : decode cX10_seal 196 = .ok (.getfield 246, 3) := by decide +kernel
theorem dX10_seal_199 : decode cX10_seal 199 = .ok (.sipush 128, 3) := by decide +kernel
theorem dX10_seal_202 : decode cX10_seal 202 = .ok (.iload_n 1, 1) := by decide +kernel
theorem dX10_seal_203 : decode cX10_seal 203 = .ok (.imul, 1) := by decide +kernel
theorem dX10_seal_204 : decode cX10_seal 204 = .ok (.bipush 96, 2) := by decide +kernel
theorem dX10_seal_206 : decode cX10_seal 206 = .ok (.iadd, 1) := by decide +kernel
theorem dX10_seal_207 : decode cX10_seal 207 = .ok (.iload_n 2, 1) := by decide +kernel
theorem dX10_seal_208 : decode cX10_seal 208 = .ok (.invokevirtual 97, 3) := by decide +kernel
theorem dX10_seal_211 : decode cX10_seal 211 = .ok (.goto 14, 3) := by decide +kernel
theorem dX10_seal_214 : decode cX10_seal 214 = .ok (.aload_n 0, 1) := by decide +kernel
theorem dX10_seal_215 : decode cX10_seal 215 = .ok (.aload_n 0, 1) := by decide +kernel
theorem dX10_seal_216 : decode cX10_seal 216 = .ok (.getfield 222, 3) := by decide +kernel
theorem dX10_seal_219 : decode cX10_seal 219 = .ok (.iload 6, 2) := by decide +kernel
theorem dX10_seal_221 : decode cX10_seal 221 = .ok (.iload_n 2, 1) := by decide +kernel
theorem dX10_seal_222 : decode cX10_seal 222 = .ok (.invokevirtual 106, 3) := by decide +kernel
theorem dX10_seal_225 : decode cX10_seal 225 = .ok (.iconst 0, 1) := by decide +kernel
theorem dX10_seal_226 : decode cX10_seal 226 = .ok (.istore 7, 2) := by decide +kernel
theorem dX10_seal_228 : decode cX10_seal 228 = .ok (.iload 7, 2) := by decide +kernel
theorem dX10_seal_230 : decode cX10_seal 230 = .ok (.iload 4, 2) := by decide +kernel
theorem dX10_seal_232 : decode cX10_seal 232 = .ok (.if_icmp .ge 50, 3) := by decide +kernel
theorem dX10_seal_235 : decode cX10_seal 235 = .ok (.iload 5, 2) := by decide +kernel
theorem dX10_seal_237 : decode cX10_seal 237 = .ok (.ifCond .ne 45, 3) := by decide +kernel
theorem dX10_seal_240 : decode cX10_seal 240 = .ok (.iload_n 2, 1) := by decide +kernel
theorem dX10_seal_241 : decode cX10_seal 241 = .ok (.ifCond .eq 41, 3) := by decide +kernel
theorem dX10_seal_244 : decode cX10_seal 244 = .ok (.iload 6, 2) := by decide +kernel
theorem dX10_seal_246 : decode cX10_seal 246 = .ok (.ifCond .le 36, 3) := by decide +kernel
theorem dX10_seal_249 : decode cX10_seal 249 = .ok (.aload_n 0, 1) := by decide +kernel
theorem dX10_seal_250 : decode cX10_seal 250 = .ok (.getfield 222, 3) := by decide +kernel
theorem dX10_seal_253 : decode cX10_seal 253 = .ok (.iload 6, 2) := by decide +kernel
theorem dX10_seal_255 : decode cX10_seal 255 = .ok (.iload 7, 2) := by decide +kernel
theorem dX10_seal_257 : decode cX10_seal 257 = .ok (.iadd, 1) := by decide +kernel
theorem dX10_seal_258 : decode cX10_seal 258 = .ok (.dup2, 1) := by decide +kernel
theorem dX10_seal_259 : decode cX10_seal 259 = .ok (.baload, 1) := by decide +kernel
theorem dX10_seal_260 : decode cX10_seal 260 = .ok (.aload_n 0, 1) := by decide +kernel
theorem dX10_seal_261 : decode cX10_seal 261 = .ok (.getfield 219, 3) := by decide +kernel
theorem dX10_seal_264 : decode cX10_seal 264 = .ok (.iload 6, 2) := by decide +kernel
theorem dX10_seal_266 : decode cX10_seal 266 = .ok (.iload 4, 2) := by decide +kernel
theorem dX10_seal_268 : decode cX10_seal 268 = .ok (.isub, 1) := by decide +kernel
theorem dX10_seal_269 : decode cX10_seal 269 = .ok (.iload 7, 2) := by decide +kernel
theorem dX10_seal_271 : decode cX10_seal 271 = .ok (.iadd, 1) := by decide +kernel
theorem dX10_seal_272 : decode cX10_seal 272 = .ok (.baload, 1) := by decide +kernel
theorem dX10_seal_273 : decode cX10_seal 273 = .ok (.ixor, 1) := by decide +kernel
theorem dX10_seal_274 : decode cX10_seal 274 = .ok (.i2b, 1) := by decide +kernel
theorem dX10_seal_275 : decode cX10_seal 275 = .ok (.bastore, 1) := by decide +kernel
theorem dX10_seal_276 : decode cX10_seal 276 = .ok (.iinc 7 1, 3) := by decide +kernel
theorem dX10_seal_279 : decode cX10_seal 279 = .ok (.goto (-51), 3) := by decide +kernel
theorem dX10_seal_282 : decode cX10_seal 282 = .ok (.iload 6, 2) := by decide +kernel
theorem dX10_seal_284 : decode cX10_seal 284 = .ok (.iload 4, 2) := by decide +kernel
theorem dX10_seal_286 : decode cX10_seal 286 = .ok (.iadd, 1) := by decide +kernel
theorem dX10_seal_287 : decode cX10_seal 287 = .ok (.istore 6, 2) := by decide +kernel
theorem dX10_seal_289 : decode cX10_seal 289 = .ok (.goto (-169), 3) := by decide +kernel
theorem dX10_seal_292 : decode cX10_seal 292 = .ok (.aload_n 0, 1) := by decide +kernel
theorem dX10_seal_293 : decode cX10_seal 293 = .ok (.iload_n 3, 1) := by decide +kernel
theorem dX10_seal_294 : decode cX10_seal 294 = .ok (.putfield 304, 3) := by decide +kernel
theorem dX10_seal_297 : decode cX10_seal 297 = .ok (.iload_n 3, 1) := by decide +kernel
theorem dX10_seal_298 : decode cX10_seal 298 = .ok (.ireturn, 1) := by decide +kernel
set_option maxHeartbeats 4000000 in
set_option maxRecDepth 100000 in
theorem ct_X10_seal_noside (ll : Launch) (D : va_G) (ta : Nat → ClassId) {G : (Nat → Prop) → State → Heap → Prop} (hGok : GOK G) (h0 : Nat) (a : Nat → Nat) (ar : Nat) (mn : Nat) (tp : Nat) (osz : Nat) (lsz : Nat) (ns : Nat) (ct : Nat) (s9 : Int32) (β : Bool) (hi0 : ¬ s9 = nI 0) (hi1 : ¬ s9 = nI 1) (sz : Nat) : CT ll yX10_seal cX10_seal 8 (some .int) ({ frames := 4, cells := 0, slots := 0, locals := 98 } : Room) D ta G [.ref h0, .int s9, .int (qb β)] [(h0, oM a ar mn tp osz lsz ns ct)] sz (S := Int32) (fun u => some (.int u)) (fun u => ((u : Int32) = -1)) (fun u => [(h0, oM a ar mn 0 osz lsz ns ct)]) 0 0 := by
  refine CT.of_i (r := fun u => u) rfl (by decide) (Nat.le_of_ble_eq_true rfl) ?_
  intro pp ee ss mm below meth kc A Q hx hb hml hown hin hts hK hA hsz hG hret H locs hP hD hS ls hl
  have hl : lv_has ls 8 [(0, .ref h0), (1, .int s9), (2, .int (qb β))] := hl
  refine lv_aload_n (pc := 0) hx hb dX10_seal_0 rfl (lv_at hl 0 rfl) ?_
  refine cs_V (pc := 1) (idx := 310) (n := 0) (wr := []) (As := []) (rest := []) (ci := 8) hx hb hml hown hts hGok hK hA hG hl.1 hP hD hS (ct_X10_use ll D ta hGok h0 a ar mn tp osz lsz ns ct  H.size) tw_1254 tw_1251 tw_1253 tw_28 tw_75 hdX10_use rfl ⟨rfl, rfl, Nat.le_of_ble_eq_true rfl, Nat.le_of_ble_eq_true rfl, Nat.le_of_ble_eq_true rfl, Nat.le_of_ble_eq_true rfl⟩ rfl rfl (q0 := 0) rfl [0] [] rfl rfl (by decide) rfl (Nat.le_of_ble_eq_true rfl) dX10_seal_1 (fun u H locs hq hP hD hS => ?_)
  refine W.eq (g2 := F0 mm 4 ls [.int (nI tp)]) rfl ?_
  have hP : va_P D vwCl [(h0, oM a ar mn 0 osz lsz ns ct)] H := hP
  have hD : va_D A [(h0, oM a ar mn 0 osz lsz ns ct)] := hD
  refine lv_istore_n (pc := 4) (lv' := [(3, .int (nI tp)), (0, .ref h0), (1, .int s9), (2, .int (qb β))]) hx hb dX10_seal_4 rfl hl (by decide) rfl (fun ls hl => ?_)
  refine lv_iload_n (pc := 5) hx hb dX10_seal_5 rfl (lv_at hl 2 rfl) ?_
  refine cs_S (pc := 6) (idx := 314) (n := 1) (wr := [(h0, oM a ar mn 0 osz lsz ns ct)]) (As := [.int s9]) (rest := []) hx hb hml hown hts hGok hK hA hG hl.1 hP hD hS (ct_X10_isSide_no ll D ta hGok s9 (by first | assumption | omega | rfl | decide) (by first | assumption | omega | rfl | decide) H.size) tw_1261 tw_1259 tw_1260 tw_75 hdX10_isSide rfl ⟨rfl, rfl, Nat.le_of_ble_eq_true rfl, Nat.le_of_ble_eq_true rfl, Nat.le_of_ble_eq_true rfl, Nat.le_of_ble_eq_true rfl⟩ [] [0] rfl rfl (by decide) rfl (Nat.le_of_ble_eq_true rfl) dX10_seal_6 (fun u H locs hq hP hD hS => ?_)
  refine W.eq (g2 := F0 mm 9 ls [.int (qb false)]) rfl ?_
  have hP : va_P D vwCl [(h0, oM a ar mn 0 osz lsz ns ct)] H := hP
  have hD : va_D A [(h0, oM a ar mn 0 osz lsz ns ct)] := hD
  refine lv_if_eq (pc := 9) (tgt := 35) hx hb dX10_seal_9 (by decide) (fun _ => ?_) (fun c_1 => absurd (by decide) c_1)
  refine lv_iconst (pc := 35) (v := (-1)) hx hb dX10_seal_35 (by decide +kernel) ?_
  refine q_top (y := (-1)) (by first | rfl | decide +kernel | (simp; done)) ?_
  have hq_2 : (((-1) : Int32) = -1) := by
    first | rfl | trivial | (refine ⟨?_, ?_⟩ <;> rfl) | (simp; done) | omega
  exact hret (-1) _ _ _ _ dX10_seal_36 hq_2 (hP.sub [0] rfl) (hD.sub [0] (by decide) rfl) hS
set_option maxHeartbeats 4000000 in
set_option maxRecDepth 100000 in
theorem ct_X10_seal_no (ll : Launch) (D : va_G) (ta : Nat → ClassId) {G : (Nat → Prop) → State → Heap → Prop} (hGok : GOK G) (h0 : Nat) (a : Nat → Nat) (ar : Nat) (mn : Nat) (tp : Nat) (osz : Nat) (lsz : Nat) (ns : Nat) (ct : Nat) (se : Nat → Nat) (ru : Nat → Nat) (sd : Nat) (β : Bool) (hsd : sd ≤ 1) (htp : tp ≤ 400) (hse : se sd ≤ 2) (hru : ru sd < 4) (hno : ¬ (se sd ≠ 0 ∧ 0 < tp ∧ tp % (if ru sd = 2 then 8 else 16) = 0)) (sz : Nat) : CT ll yX10_seal cX10_seal 8 (some .int) ({ frames := 4, cells := 0, slots := 0, locals := 98 } : Room) D ta G [.ref h0, .int (nI sd), .int (qb β)] [(h0, oM a ar mn tp osz lsz ns ct), (a 39, aK ta 2 se), (a 36, aK ta 2 ru)] sz (S := Int32) (fun u => some (.int u)) (fun u => ((u : Int32) = -1)) (fun u => [(h0, oM a ar mn 0 osz lsz ns ct), (a 39, aK ta 2 se), (a 36, aK ta 2 ru)]) 0 0 := by
  refine CT.of_i (r := fun u => u) rfl (by decide) (Nat.le_of_ble_eq_true rfl) ?_
  intro pp ee ss mm below meth kc A Q hx hb hml hown hin hts hK hA hsz hG hret H locs hP hD hS ls hl
  have hl : lv_has ls 8 [(0, .ref h0), (1, .int (nI sd)), (2, .int (qb β))] := hl
  refine lv_aload_n (pc := 0) hx hb dX10_seal_0 rfl (lv_at hl 0 rfl) ?_
  refine cs_V (pc := 1) (idx := 310) (n := 0) (wr := [(a 39, aK ta 2 se), (a 36, aK ta 2 ru)]) (As := []) (rest := []) (ci := 8) hx hb hml hown hts hGok hK hA hG hl.1 hP hD hS (ct_X10_use ll D ta hGok h0 a ar mn tp osz lsz ns ct  H.size) tw_1254 tw_1251 tw_1253 tw_28 tw_75 hdX10_use rfl ⟨rfl, rfl, Nat.le_of_ble_eq_true rfl, Nat.le_of_ble_eq_true rfl, Nat.le_of_ble_eq_true rfl, Nat.le_of_ble_eq_true rfl⟩ rfl rfl (q0 := 0) rfl [0] [1, 2] rfl rfl (by decide) rfl (Nat.le_of_ble_eq_true rfl) dX10_seal_1 (fun u H locs hq hP hD hS => ?_)
  refine W.eq (g2 := F0 mm 4 ls [.int (nI tp)]) rfl ?_
  have hP : va_P D vwCl [(a 39, aK ta 2 se), (a 36, aK ta 2 ru), (h0, oM a ar mn 0 osz lsz ns ct)] H := hP
  have hD : va_D A [(a 39, aK ta 2 se), (a 36, aK ta 2 ru), (h0, oM a ar mn 0 osz lsz ns ct)] := hD
  refine lv_istore_n (pc := 4) (lv' := [(3, .int (nI tp)), (0, .ref h0), (1, .int (nI sd)), (2, .int (qb β))]) hx hb dX10_seal_4 rfl hl (by decide) rfl (fun ls hl => ?_)
  refine lv_iload_n (pc := 5) hx hb dX10_seal_5 rfl (lv_at hl 2 rfl) ?_
  refine cs_S (pc := 6) (idx := 314) (n := 1) (wr := [(a 39, aK ta 2 se), (a 36, aK ta 2 ru), (h0, oM a ar mn 0 osz lsz ns ct)]) (As := [.int (nI sd)]) (rest := []) hx hb hml hown hts hGok hK hA hG hl.1 hP hD hS (ct_X10_isSide_s ll D ta hGok sd (by first | assumption | omega | rfl | decide) H.size) tw_1261 tw_1259 tw_1260 tw_75 hdX10_isSide rfl ⟨rfl, rfl, Nat.le_of_ble_eq_true rfl, Nat.le_of_ble_eq_true rfl, Nat.le_of_ble_eq_true rfl, Nat.le_of_ble_eq_true rfl⟩ [] [0, 1, 2] rfl rfl (by decide) rfl (Nat.le_of_ble_eq_true rfl) dX10_seal_6 (fun u H locs hq hP hD hS => ?_)
  refine W.eq (g2 := F0 mm 9 ls [.int (qb true)]) rfl ?_
  have hP : va_P D vwCl [(a 39, aK ta 2 se), (a 36, aK ta 2 ru), (h0, oM a ar mn 0 osz lsz ns ct)] H := hP
  have hD : va_D A [(a 39, aK ta 2 se), (a 36, aK ta 2 ru), (h0, oM a ar mn 0 osz lsz ns ct)] := hD
  refine lv_if_eq (pc := 9) (tgt := 35) hx hb dX10_seal_9 (by decide) (fun c_1 => absurd c_1 (by decide)) (fun _ => ?_)
  refine lv_aload_n (pc := 12) hx hb dX10_seal_12 rfl (lv_at hl 1 rfl) ?_
  refine va_get (pc := 13) (D := D) (ci := 8) (v := .ref (a 39)) (C := RX10) (T := TX10) (N := 57) hx hb hts iu10 hown hK hP 2 rfl rfl 39 (by decide) (hts _ tw_1084) (fun _ h9 => h9) rfl dX10_seal_13 ?_
  refine lv_iload_n (pc := 16) hx hb dX10_seal_16 rfl (lv_at hl 2 rfl) ?_
  refine q_iald (pc := 17) hx hb hK hP 0 0 rfl rfl (k := sd) (v := nI (se sd)) rfl (by omega) (by omega) rfl dX10_seal_17 ?_
  refine lv_if_eq (pc := 18) (tgt := 35) hx hb dX10_seal_18 (by decide) (fun c_2 => ?_) (fun c_2 => ?_)
  · skip
    rw [q_eq0 (by omega)] at c_2
    refine lv_iconst (pc := 35) (v := (-1)) hx hb dX10_seal_35 (by decide +kernel) ?_
    refine q_top (y := (-1)) (by first | rfl | decide +kernel | (simp; done)) ?_
    have hq_3 : (((-1) : Int32) = -1) := by
      first | rfl | trivial | (refine ⟨?_, ?_⟩ <;> rfl) | (simp; done) | omega
    exact hret (-1) _ _ _ _ dX10_seal_36 hq_3 (hP.sub [2, 0, 1] rfl) (hD.sub [2, 0, 1] (by decide) rfl) hS
  · skip
    rw [q_eq0 (by omega)] at c_2
    refine lv_iload_n (pc := 21) hx hb dX10_seal_21 rfl (lv_at hl 0 rfl) ?_
    refine lv_if_eq (pc := 22) (tgt := 35) hx hb dX10_seal_22 (by decide) (fun c_4 => ?_) (fun c_4 => ?_)
    · skip
      rw [q_eq0 (by omega)] at c_4
      refine lv_iconst (pc := 35) (v := (-1)) hx hb dX10_seal_35 (by decide +kernel) ?_
      refine q_top (y := (-1)) (by first | rfl | decide +kernel | (simp; done)) ?_
      have hq_5 : (((-1) : Int32) = -1) := by
        first | rfl | trivial | (refine ⟨?_, ?_⟩ <;> rfl) | (simp; done) | omega
      exact hret (-1) _ _ _ _ dX10_seal_36 hq_5 (hP.sub [2, 0, 1] rfl) (hD.sub [2, 0, 1] (by decide) rfl) hS
    · skip
      rw [q_eq0 (by omega)] at c_4
      refine lv_iload_n (pc := 25) hx hb dX10_seal_25 rfl (lv_at hl 0 rfl) ?_
      refine lv_aload_n (pc := 26) hx hb dX10_seal_26 rfl (lv_at hl 1 rfl) ?_
      refine lv_iload_n (pc := 27) hx hb dX10_seal_27 rfl (lv_at hl 2 rfl) ?_
      refine cs_V (pc := 28) (idx := 368) (n := 1) (wr := [(a 39, aK ta 2 se)]) (As := [.int (nI sd)]) (rest := [.int (nI tp)]) (ci := 8) hx hb hml hown hts hGok hK hA hG hl.1 hP hD hS (ct_X10_blockOf ll D ta hGok h0 a ar mn 0 osz lsz ns ct ru sd (by first | assumption | omega | rfl | decide) (by first | assumption | omega | rfl | decide) H.size) tw_1392 tw_1389 tw_1391 tw_54 tw_75 hdX10_blockOf rfl ⟨rfl, rfl, Nat.le_of_ble_eq_true rfl, Nat.le_of_ble_eq_true rfl, Nat.le_of_ble_eq_true rfl, Nat.le_of_ble_eq_true rfl⟩ rfl rfl (q0 := 2) rfl [2, 1] [0] rfl rfl (by decide) rfl (Nat.le_of_ble_eq_true rfl) dX10_seal_28 (fun u H locs hq hP hD hS => ?_)
      generalize u = w9_28 at hq hP hD ⊢
      have hq : (w9_28 = if ru sd = 2 then 8 else 16) := hq
      have hw_28 := hq
      refine W.eq (g2 := F0 mm 31 ls [.int (nI w9_28), .int (nI tp)]) rfl ?_
      have hP : va_P D vwCl [(a 39, aK ta 2 se), (h0, oM a ar mn 0 osz lsz ns ct), (a 36, aK ta 2 ru)] H := hP
      have hD : va_D A [(a 39, aK ta 2 se), (h0, oM a ar mn 0 osz lsz ns ct), (a 36, aK ta 2 ru)] := hD
      by_cases hr2 : ru sd = 2
      · skip
        rw [if_pos hr2] at hno hw_28
        have en_6 : 8 = w9_28 := by omega
        subst en_6
        refine lv_irem (pc := 31) hx hb dX10_seal_31 (q_ne0 (by omega) (by omega)) ?_
        refine q_top (y := nI (tp % 8)) (pk_rem (by omega) (by omega) (by omega)) ?_
        refine lv_if_eq (pc := 32) (tgt := 37) hx hb dX10_seal_32 (by decide) (fun c_7 => ?_) (fun c_7 => ?_)
        · skip
          rw [q_eq0 (by omega)] at c_7
          exfalso; omega
        · skip
          rw [q_eq0 (by omega)] at c_7
          refine lv_iconst (pc := 35) (v := (-1)) hx hb dX10_seal_35 (by decide +kernel) ?_
          refine q_top (y := (-1)) (by first | rfl | decide +kernel | (simp; done)) ?_
          have hq_8 : (((-1) : Int32) = -1) := by
            first | rfl | trivial | (refine ⟨?_, ?_⟩ <;> rfl) | (simp; done) | omega
          exact hret (-1) _ _ _ _ dX10_seal_36 hq_8 (hP.sub [1, 0, 2] rfl) (hD.sub [1, 0, 2] (by decide) rfl) hS
      · skip
        rw [if_neg hr2] at hno hw_28
        have en_9 : 16 = w9_28 := by omega
        subst en_9
        refine lv_irem (pc := 31) hx hb dX10_seal_31 (q_ne0 (by omega) (by omega)) ?_
        refine q_top (y := nI (tp % 16)) (pk_rem (by omega) (by omega) (by omega)) ?_
        refine lv_if_eq (pc := 32) (tgt := 37) hx hb dX10_seal_32 (by decide) (fun c_10 => ?_) (fun c_10 => ?_)
        · skip
          rw [q_eq0 (by omega)] at c_10
          exfalso; omega
        · skip
          rw [q_eq0 (by omega)] at c_10
          refine lv_iconst (pc := 35) (v := (-1)) hx hb dX10_seal_35 (by decide +kernel) ?_
          refine q_top (y := (-1)) (by first | rfl | decide +kernel | (simp; done)) ?_
          have hq_11 : (((-1) : Int32) = -1) := by
            first | rfl | trivial | (refine ⟨?_, ?_⟩ <;> rfl) | (simp; done) | omega
          exact hret (-1) _ _ _ _ dX10_seal_36 hq_11 (hP.sub [1, 0, 2] rfl) (hD.sub [1, 0, 2] (by decide) rfl) hS
set_option maxHeartbeats 4000000 in
set_option maxRecDepth 100000 in
theorem ct_X10_seal_2 (ll : Launch) (D : va_G) (ta : Nat → ClassId) {G : (Nat → Prop) → State → Heap → Prop} (hGok : GOK G) (h0 : Nat) (a : Nat → Nat) (ar : Nat) (mn : Nat) (tp : Nat) (osz : Nat) (lsz : Nat) (ns : Nat) (ct : Nat) (bi : Nat → Bool) (tu : Nat → Bool) (cd : Nat → Bool) (sk : Nat → Bool) (hf : Nat → Bool) (wd : Nat → Bool) (gtp : Nat → BitVec 8) (gou : Nat → BitVec 8) (gke : Nat → BitVec 8) (ru : Nat → Nat) (se : Nat → Nat) (sd : Nat) (β : Bool) (hsd : sd ≤ 1) (htp : 0 < tp ∧ tp ≤ 400 ∧ tp % 8 = 0) (hse : se sd ≠ 0 ∧ se sd ≤ 2) (hru : ru sd = 2) (sz : Nat) : CT ll yX10_seal cX10_seal 8 (some .int) ({ frames := 4, cells := 0, slots := 0, locals := 98 } : Room) D ta G [.ref h0, .int (nI sd), .int (qb β)] [(h0, oM a ar mn tp osz lsz ns ct), (a 0, aK ta 64 tIP), (a 1, aK ta 48 tSPR), (a 2, aK ta 32 tMIX), (a 3, aK ta 56 tCH), (a 4, aK ta 48 tSEC), (a 5, aK ta 512 tSBX), (a 10, aB ta 64 bi), (a 11, aB ta 64 tu), (a 12, aB ta 56 cd), (a 13, aB ta 768 sk), (a 14, aB ta 32 hf), (a 15, aB ta 48 wd), (a 27, aS ta 400 gtp), (a 29, aS ta 416 gou), (a 41, aS ta 256 gke), (a 36, aK ta 2 ru), (a 39, aK ta 2 se)] sz (S := (Nat → Bool) × (Nat → Bool) × (Nat → Bool) × (Nat → Bool) × (Nat → Bool) × (Nat → Bool) × (Nat → BitVec 8)) (fun u => some (.int (nI tp))) (fun u => (qL u.2.2.2.2.2.2 tp = ecbL (tdesL (seg gke (128 * sd + 96) 16) β) 8 (qL gtp tp))) (fun u => [(h0, oM a ar mn 0 tp lsz ns ct), (a 0, aK ta 64 tIP), (a 1, aK ta 48 tSPR), (a 2, aK ta 32 tMIX), (a 3, aK ta 56 tCH), (a 4, aK ta 48 tSEC), (a 5, aK ta 512 tSBX), (a 10, aB ta 64 u.1), (a 11, aB ta 64 u.2.1), (a 12, aB ta 56 u.2.2.1), (a 13, aB ta 768 u.2.2.2.1), (a 14, aB ta 32 u.2.2.2.2.1), (a 15, aB ta 48 u.2.2.2.2.2.1), (a 27, aS ta 400 gtp), (a 29, aS ta 416 u.2.2.2.2.2.2), (a 41, aS ta 256 gke), (a 36, aK ta 2 ru), (a 39, aK ta 2 se)]) 0 0 := by
  refine CT.of_i (r := fun u => nI tp) rfl (by decide) (Nat.le_of_ble_eq_true rfl) ?_
  intro pp ee ss mm below meth kc A Q hx hb hml hown hin hts hK hA hsz hG hret H locs hP hD hS ls hl
  have hl : lv_has ls 8 [(0, .ref h0), (1, .int (nI sd)), (2, .int (qb β))] := hl
  refine lv_aload_n (pc := 0) hx hb dX10_seal_0 rfl (lv_at hl 0 rfl) ?_
  refine cs_V (pc := 1) (idx := 310) (n := 0) (wr := [(a 0, aK ta 64 tIP), (a 1, aK ta 48 tSPR), (a 2, aK ta 32 tMIX), (a 3, aK ta 56 tCH), (a 4, aK ta 48 tSEC), (a 5, aK ta 512 tSBX), (a 10, aB ta 64 bi), (a 11, aB ta 64 tu), (a 12, aB ta 56 cd), (a 13, aB ta 768 sk), (a 14, aB ta 32 hf), (a 15, aB ta 48 wd), (a 27, aS ta 400 gtp), (a 29, aS ta 416 gou), (a 41, aS ta 256 gke), (a 36, aK ta 2 ru), (a 39, aK ta 2 se)]) (As := []) (rest := []) (ci := 8) hx hb hml hown hts hGok hK hA hG hl.1 hP hD hS (ct_X10_use ll D ta hGok h0 a ar mn tp osz lsz ns ct  H.size) tw_1254 tw_1251 tw_1253 tw_28 tw_75 hdX10_use rfl ⟨rfl, rfl, Nat.le_of_ble_eq_true rfl, Nat.le_of_ble_eq_true rfl, Nat.le_of_ble_eq_true rfl, Nat.le_of_ble_eq_true rfl⟩ rfl rfl (q0 := 0) rfl [0] [1, 2, 3, 4, 5, 6, 7, 8, 9, 10, 11, 12, 13, 14, 15, 16, 17] rfl rfl (by decide) rfl (Nat.le_of_ble_eq_true rfl) dX10_seal_1 (fun u H locs hq hP hD hS => ?_)
  refine W.eq (g2 := F0 mm 4 ls [.int (nI tp)]) rfl ?_
  have hP : va_P D vwCl [(a 0, aK ta 64 tIP), (a 1, aK ta 48 tSPR), (a 2, aK ta 32 tMIX), (a 3, aK ta 56 tCH), (a 4, aK ta 48 tSEC), (a 5, aK ta 512 tSBX), (a 10, aB ta 64 bi), (a 11, aB ta 64 tu), (a 12, aB ta 56 cd), (a 13, aB ta 768 sk), (a 14, aB ta 32 hf), (a 15, aB ta 48 wd), (a 27, aS ta 400 gtp), (a 29, aS ta 416 gou), (a 41, aS ta 256 gke), (a 36, aK ta 2 ru), (a 39, aK ta 2 se), (h0, oM a ar mn 0 osz lsz ns ct)] H := hP
  have hD : va_D A [(a 0, aK ta 64 tIP), (a 1, aK ta 48 tSPR), (a 2, aK ta 32 tMIX), (a 3, aK ta 56 tCH), (a 4, aK ta 48 tSEC), (a 5, aK ta 512 tSBX), (a 10, aB ta 64 bi), (a 11, aB ta 64 tu), (a 12, aB ta 56 cd), (a 13, aB ta 768 sk), (a 14, aB ta 32 hf), (a 15, aB ta 48 wd), (a 27, aS ta 400 gtp), (a 29, aS ta 416 gou), (a 41, aS ta 256 gke), (a 36, aK ta 2 ru), (a 39, aK ta 2 se), (h0, oM a ar mn 0 osz lsz ns ct)] := hD
  refine lv_istore_n (pc := 4) (lv' := [(3, .int (nI tp)), (0, .ref h0), (1, .int (nI sd)), (2, .int (qb β))]) hx hb dX10_seal_4 rfl hl (by decide) rfl (fun ls hl => ?_)
  refine lv_iload_n (pc := 5) hx hb dX10_seal_5 rfl (lv_at hl 2 rfl) ?_
  refine cs_S (pc := 6) (idx := 314) (n := 1) (wr := [(a 0, aK ta 64 tIP), (a 1, aK ta 48 tSPR), (a 2, aK ta 32 tMIX), (a 3, aK ta 56 tCH), (a 4, aK ta 48 tSEC), (a 5, aK ta 512 tSBX), (a 10, aB ta 64 bi), (a 11, aB ta 64 tu), (a 12, aB ta 56 cd), (a 13, aB ta 768 sk), (a 14, aB ta 32 hf), (a 15, aB ta 48 wd), (a 27, aS ta 400 gtp), (a 29, aS ta 416 gou), (a 41, aS ta 256 gke), (a 36, aK ta 2 ru), (a 39, aK ta 2 se), (h0, oM a ar mn 0 osz lsz ns ct)]) (As := [.int (nI sd)]) (rest := []) hx hb hml hown hts hGok hK hA hG hl.1 hP hD hS (ct_X10_isSide_s ll D ta hGok sd (by first | assumption | omega | rfl | decide) H.size) tw_1261 tw_1259 tw_1260 tw_75 hdX10_isSide rfl ⟨rfl, rfl, Nat.le_of_ble_eq_true rfl, Nat.le_of_ble_eq_true rfl, Nat.le_of_ble_eq_true rfl, Nat.le_of_ble_eq_true rfl⟩ [] [0, 1, 2, 3, 4, 5, 6, 7, 8, 9, 10, 11, 12, 13, 14, 15, 16, 17] rfl rfl (by decide) rfl (Nat.le_of_ble_eq_true rfl) dX10_seal_6 (fun u H locs hq hP hD hS => ?_)
  refine W.eq (g2 := F0 mm 9 ls [.int (qb true)]) rfl ?_
  have hP : va_P D vwCl [(a 0, aK ta 64 tIP), (a 1, aK ta 48 tSPR), (a 2, aK ta 32 tMIX), (a 3, aK ta 56 tCH), (a 4, aK ta 48 tSEC), (a 5, aK ta 512 tSBX), (a 10, aB ta 64 bi), (a 11, aB ta 64 tu), (a 12, aB ta 56 cd), (a 13, aB ta 768 sk), (a 14, aB ta 32 hf), (a 15, aB ta 48 wd), (a 27, aS ta 400 gtp), (a 29, aS ta 416 gou), (a 41, aS ta 256 gke), (a 36, aK ta 2 ru), (a 39, aK ta 2 se), (h0, oM a ar mn 0 osz lsz ns ct)] H := hP
  have hD : va_D A [(a 0, aK ta 64 tIP), (a 1, aK ta 48 tSPR), (a 2, aK ta 32 tMIX), (a 3, aK ta 56 tCH), (a 4, aK ta 48 tSEC), (a 5, aK ta 512 tSBX), (a 10, aB ta 64 bi), (a 11, aB ta 64 tu), (a 12, aB ta 56 cd), (a 13, aB ta 768 sk), (a 14, aB ta 32 hf), (a 15, aB ta 48 wd), (a 27, aS ta 400 gtp), (a 29, aS ta 416 gou), (a 41, aS ta 256 gke), (a 36, aK ta 2 ru), (a 39, aK ta 2 se), (h0, oM a ar mn 0 osz lsz ns ct)] := hD
  refine lv_if_eq (pc := 9) (tgt := 35) hx hb dX10_seal_9 (by decide) (fun c_1 => absurd c_1 (by decide)) (fun _ => ?_)
  refine lv_aload_n (pc := 12) hx hb dX10_seal_12 rfl (lv_at hl 1 rfl) ?_
  refine va_get (pc := 13) (D := D) (ci := 8) (v := .ref (a 39)) (C := RX10) (T := TX10) (N := 57) hx hb hts iu10 hown hK hP 17 rfl rfl 39 (by decide) (hts _ tw_1084) (fun _ h9 => h9) rfl dX10_seal_13 ?_
  refine lv_iload_n (pc := 16) hx hb dX10_seal_16 rfl (lv_at hl 2 rfl) ?_
  refine q_iald (pc := 17) hx hb hK hP 16 0 rfl rfl (k := sd) (v := nI (se sd)) rfl (by omega) (by omega) rfl dX10_seal_17 ?_
  refine lv_if_eq (pc := 18) (tgt := 35) hx hb dX10_seal_18 (by decide) (fun c_2 => ?_) (fun c_2 => ?_)
  · skip
    rw [q_eq0 (by omega)] at c_2
    exfalso; omega
  · skip
    rw [q_eq0 (by omega)] at c_2
    refine lv_iload_n (pc := 21) hx hb dX10_seal_21 rfl (lv_at hl 0 rfl) ?_
    refine lv_if_eq (pc := 22) (tgt := 35) hx hb dX10_seal_22 (by decide) (fun c_3 => ?_) (fun c_3 => ?_)
    · skip
      rw [q_eq0 (by omega)] at c_3
      exfalso; omega
    · skip
      rw [q_eq0 (by omega)] at c_3
      refine lv_iload_n (pc := 25) hx hb dX10_seal_25 rfl (lv_at hl 0 rfl) ?_
      refine lv_aload_n (pc := 26) hx hb dX10_seal_26 rfl (lv_at hl 1 rfl) ?_
      refine lv_iload_n (pc := 27) hx hb dX10_seal_27 rfl (lv_at hl 2 rfl) ?_
      refine cs_V (pc := 28) (idx := 368) (n := 1) (wr := [(a 0, aK ta 64 tIP), (a 1, aK ta 48 tSPR), (a 2, aK ta 32 tMIX), (a 3, aK ta 56 tCH), (a 4, aK ta 48 tSEC), (a 5, aK ta 512 tSBX), (a 10, aB ta 64 bi), (a 11, aB ta 64 tu), (a 12, aB ta 56 cd), (a 13, aB ta 768 sk), (a 14, aB ta 32 hf), (a 15, aB ta 48 wd), (a 27, aS ta 400 gtp), (a 29, aS ta 416 gou), (a 41, aS ta 256 gke), (a 39, aK ta 2 se)]) (As := [.int (nI sd)]) (rest := [.int (nI tp)]) (ci := 8) hx hb hml hown hts hGok hK hA hG hl.1 hP hD hS (ct_X10_blockOf_2 ll D ta hGok h0 a ar mn 0 osz lsz ns ct ru sd (by first | assumption | omega | rfl | decide) (by first | assumption | omega | rfl | decide) H.size) tw_1392 tw_1389 tw_1391 tw_54 tw_75 hdX10_blockOf rfl ⟨rfl, rfl, Nat.le_of_ble_eq_true rfl, Nat.le_of_ble_eq_true rfl, Nat.le_of_ble_eq_true rfl, Nat.le_of_ble_eq_true rfl⟩ rfl rfl (q0 := 17) rfl [17, 15] [0, 1, 2, 3, 4, 5, 6, 7, 8, 9, 10, 11, 12, 13, 14, 16] rfl rfl (by decide) rfl (Nat.le_of_ble_eq_true rfl) dX10_seal_28 (fun u H locs hq hP hD hS => ?_)
      refine W.eq (g2 := F0 mm 31 ls [.int (nI 8), .int (nI tp)]) rfl ?_
      have hP : va_P D vwCl [(a 0, aK ta 64 tIP), (a 1, aK ta 48 tSPR), (a 2, aK ta 32 tMIX), (a 3, aK ta 56 tCH), (a 4, aK ta 48 tSEC), (a 5, aK ta 512 tSBX), (a 10, aB ta 64 bi), (a 11, aB ta 64 tu), (a 12, aB ta 56 cd), (a 13, aB ta 768 sk), (a 14, aB ta 32 hf), (a 15, aB ta 48 wd), (a 27, aS ta 400 gtp), (a 29, aS ta 416 gou), (a 41, aS ta 256 gke), (a 39, aK ta 2 se), (h0, oM a ar mn 0 osz lsz ns ct), (a 36, aK ta 2 ru)] H := hP
      have hD : va_D A [(a 0, aK ta 64 tIP), (a 1, aK ta 48 tSPR), (a 2, aK ta 32 tMIX), (a 3, aK ta 56 tCH), (a 4, aK ta 48 tSEC), (a 5, aK ta 512 tSBX), (a 10, aB ta 64 bi), (a 11, aB ta 64 tu), (a 12, aB ta 56 cd), (a 13, aB ta 768 sk), (a 14, aB ta 32 hf), (a 15, aB ta 48 wd), (a 27, aS ta 400 gtp), (a 29, aS ta 416 gou), (a 41, aS ta 256 gke), (a 39, aK ta 2 se), (h0, oM a ar mn 0 osz lsz ns ct), (a 36, aK ta 2 ru)] := hD
      refine lv_irem (pc := 31) hx hb dX10_seal_31 (q_ne0 (by omega) (by omega)) ?_
      refine q_top (y := nI (tp % 8)) (pk_rem (by omega) (by omega) (by omega)) ?_
      refine lv_if_eq (pc := 32) (tgt := 37) hx hb dX10_seal_32 (by decide) (fun c_4 => ?_) (fun c_4 => ?_)
      · skip
        rw [q_eq0 (by omega)] at c_4
        refine lv_aload_n (pc := 37) hx hb dX10_seal_37 rfl (lv_at hl 1 rfl) ?_
        refine lv_iload_n (pc := 38) hx hb dX10_seal_38 rfl (lv_at hl 2 rfl) ?_
        refine cs_V (pc := 39) (idx := 368) (n := 1) (wr := [(a 0, aK ta 64 tIP), (a 1, aK ta 48 tSPR), (a 2, aK ta 32 tMIX), (a 3, aK ta 56 tCH), (a 4, aK ta 48 tSEC), (a 5, aK ta 512 tSBX), (a 10, aB ta 64 bi), (a 11, aB ta 64 tu), (a 12, aB ta 56 cd), (a 13, aB ta 768 sk), (a 14, aB ta 32 hf), (a 15, aB ta 48 wd), (a 27, aS ta 400 gtp), (a 29, aS ta 416 gou), (a 41, aS ta 256 gke), (a 39, aK ta 2 se)]) (As := [.int (nI sd)]) (rest := []) (ci := 8) hx hb hml hown hts hGok hK hA hG hl.1 hP hD hS (ct_X10_blockOf_2 ll D ta hGok h0 a ar mn 0 osz lsz ns ct ru sd (by first | assumption | omega | rfl | decide) (by first | assumption | omega | rfl | decide) H.size) tw_1392 tw_1389 tw_1391 tw_54 tw_75 hdX10_blockOf rfl ⟨rfl, rfl, Nat.le_of_ble_eq_true rfl, Nat.le_of_ble_eq_true rfl, Nat.le_of_ble_eq_true rfl, Nat.le_of_ble_eq_true rfl⟩ rfl rfl (q0 := 16) rfl [16, 17] [0, 1, 2, 3, 4, 5, 6, 7, 8, 9, 10, 11, 12, 13, 14, 15] rfl rfl (by decide) rfl (Nat.le_of_ble_eq_true rfl) dX10_seal_39 (fun u H locs hq hP hD hS => ?_)
        refine W.eq (g2 := F0 mm 42 ls [.int (nI 8)]) rfl ?_
        have hP : va_P D vwCl [(a 0, aK ta 64 tIP), (a 1, aK ta 48 tSPR), (a 2, aK ta 32 tMIX), (a 3, aK ta 56 tCH), (a 4, aK ta 48 tSEC), (a 5, aK ta 512 tSBX), (a 10, aB ta 64 bi), (a 11, aB ta 64 tu), (a 12, aB ta 56 cd), (a 13, aB ta 768 sk), (a 14, aB ta 32 hf), (a 15, aB ta 48 wd), (a 27, aS ta 400 gtp), (a 29, aS ta 416 gou), (a 41, aS ta 256 gke), (a 39, aK ta 2 se), (h0, oM a ar mn 0 osz lsz ns ct), (a 36, aK ta 2 ru)] H := hP
        have hD : va_D A [(a 0, aK ta 64 tIP), (a 1, aK ta 48 tSPR), (a 2, aK ta 32 tMIX), (a 3, aK ta 56 tCH), (a 4, aK ta 48 tSEC), (a 5, aK ta 512 tSBX), (a 10, aB ta 64 bi), (a 11, aB ta 64 tu), (a 12, aB ta 56 cd), (a 13, aB ta 768 sk), (a 14, aB ta 32 hf), (a 15, aB ta 48 wd), (a 27, aS ta 400 gtp), (a 29, aS ta 416 gou), (a 41, aS ta 256 gke), (a 39, aK ta 2 se), (h0, oM a ar mn 0 osz lsz ns ct), (a 36, aK ta 2 ru)] := hD
        refine lv_istore (pc := 42) (lv' := [(4, .int (nI 8)), (3, .int (nI tp)), (0, .ref h0), (1, .int (nI sd)), (2, .int (qb β))]) hx hb dX10_seal_42 hl (by decide) rfl (fun ls hl => ?_)
        refine lv_aload_n (pc := 44) hx hb dX10_seal_44 rfl (lv_at hl 2 rfl) ?_
        refine va_get (pc := 45) (D := D) (ci := 8) (v := .ref (a 36)) (C := RX10) (T := TX10) (N := 57) hx hb hts iu10 hown hK hP 16 rfl rfl 36 (by decide) (hts _ tw_1081) (fun _ h9 => h9) rfl dX10_seal_45 ?_
        refine lv_iload_n (pc := 48) hx hb dX10_seal_48 rfl (lv_at hl 3 rfl) ?_
        refine q_iald (pc := 49) hx hb hK hP 17 0 rfl rfl (k := sd) (v := nI (ru sd)) rfl (by omega) (by omega) rfl dX10_seal_49 ?_
        refine lv_iconst (pc := 50) (v := nI 2) hx hb dX10_seal_50 (by decide +kernel) ?_
        refine lv_icmp_ne (pc := 51) (tgt := 58) hx hb dX10_seal_51 (by decide) (fun c_5 => ?_) (fun c_5 => ?_)
        · skip
          rw [nI_eq (by omega) (by omega)] at c_5
          exfalso; omega
        · skip
          rw [nI_eq (by omega) (by omega)] at c_5
          refine lv_iconst (pc := 54) (v := nI 1) hx hb dX10_seal_54 (by decide +kernel) ?_
          refine lv_goto (pc := 55) (tgt := 59) hx hb dX10_seal_55 (by decide) ?_
          refine lv_istore (pc := 59) (lv' := [(5, .int (nI 1)), (4, .int (nI 8)), (3, .int (nI tp)), (0, .ref h0), (1, .int (nI sd)), (2, .int (qb β))]) hx hb dX10_seal_59 hl (by decide) rfl (fun ls hl => ?_)
          refine lv_iload (pc := 61) hx hb dX10_seal_61 (lv_at hl 0 rfl) ?_
          refine lv_if_ne (pc := 63) (tgt := 88) hx hb dX10_seal_63 (by decide) (fun _ => ?_) (fun c_6 => absurd c_6 (by decide))
          refine lv_iconst (pc := 88) (v := nI 0) hx hb dX10_seal_88 (by decide +kernel) ?_
          refine lv_istore (pc := 89) (lv' := [(6, .int (nI 0)), (5, .int (nI 1)), (4, .int (nI 8)), (3, .int (nI tp)), (0, .ref h0), (1, .int (nI sd)), (2, .int (qb β))]) hx hb dX10_seal_89 hl (by decide) rfl (fun ls hl => ?_)
          have LP91 : ∀ (nn91 : Nat) (k : Nat) (o0 : Nat → BitVec 8), (k ≤ tp) → (qSeg o0 gou 0 k gtp) → (tp - k < nn91) → ∀ (H : Heap) (locs : List Loc), va_P D vwCl [(a 0, aK ta 64 tIP), (a 1, aK ta 48 tSPR), (a 2, aK ta 32 tMIX), (a 3, aK ta 56 tCH), (a 4, aK ta 48 tSEC), (a 5, aK ta 512 tSBX), (a 10, aB ta 64 bi), (a 11, aB ta 64 tu), (a 12, aB ta 56 cd), (a 13, aB ta 768 sk), (a 14, aB ta 32 hf), (a 15, aB ta 48 wd), (a 27, aS ta 400 gtp), (a 29, aS ta 416 o0), (a 41, aS ta 256 gke), (a 39, aK ta 2 se), (h0, oM a ar mn 0 osz lsz ns ct), (a 36, aK ta 2 ru)] H → va_D A [(a 0, aK ta 64 tIP), (a 1, aK ta 48 tSPR), (a 2, aK ta 32 tMIX), (a 3, aK ta 56 tCH), (a 4, aK ta 48 tSEC), (a 5, aK ta 512 tSBX), (a 10, aB ta 64 bi), (a 11, aB ta 64 tu), (a 12, aB ta 56 cd), (a 13, aB ta 768 sk), (a 14, aB ta 32 hf), (a 15, aB ta 48 wd), (a 27, aS ta 400 gtp), (a 29, aS ta 416 o0), (a 41, aS ta 256 gke), (a 39, aK ta 2 se), (h0, oM a ar mn 0 osz lsz ns ct), (a 36, aK ta 2 ru)] → va_S A ss.heap H locs → ∀ ls : Array Slot, lv_has ls 8 [(6, .int (nI k)), (5, .int (nI 1)), (4, .int (nI 8)), (3, .int (nI tp)), (0, .ref h0), (1, .int (nI sd)), (2, .int (qb β))] → W pp ll ee ({ frames := 4, cells := 0, slots := 0, locals := 98 } : Room) ss mm (([.ref h0, .int (nI sd), .int (qb β)] : List Value).toArray) below meth kc H locs 0 0 Q (F0 mm 91 ls []) := by
            intro nn91
            induction nn91 with
            | zero => intro k o0 hkk ho0 hmu; exact absurd hmu (Nat.not_lt_zero _)
            | succ nn91 ih91 =>
              intro k o0 hkk ho0 hmu91 H locs hP hD hS ls hl
              refine lv_iload (pc := 91) hx hb dX10_seal_91 (lv_at hl 0 rfl) ?_
              refine lv_iload_n (pc := 93) hx hb dX10_seal_93 rfl (lv_at hl 3 rfl) ?_
              refine lv_icmp_ge (pc := 94) (tgt := 117) hx hb dX10_seal_94 (by decide) (fun c_7 => ?_) (fun c_7 => ?_)
              · skip
                rw [nI_leI (by omega) (by omega)] at c_7
                refine lv_iconst (pc := 117) (v := nI 0) hx hb dX10_seal_117 (by decide +kernel) ?_
                refine lv_istore (pc := 118) (lv' := [(6, .int (nI 0)), (5, .int (nI 1)), (4, .int (nI 8)), (3, .int (nI tp)), (0, .ref h0), (1, .int (nI sd)), (2, .int (qb β))]) hx hb dX10_seal_118 hl (by decide) rfl (fun ls hl => ?_)
                have LP120 : ∀ (nn120 : Nat) (i : Nat) (x' : Nat → BitVec 8) (zb : Nat → Bool) (zt : Nat → Bool) (zc : Nat → Bool) (zs : Nat → Bool) (zh : Nat → Bool) (zw : Nat → Bool), (8 * i ≤ tp) → (qSeg x' o0 0 (8 * i) (ecbF (tdesL (seg gke (128 * sd + 96) 16) β) 8 (qL o0 tp))) → (tp - 8 * i < nn120) → ∀ (H : Heap) (locs : List Loc), va_P D vwCl [(a 0, aK ta 64 tIP), (a 1, aK ta 48 tSPR), (a 2, aK ta 32 tMIX), (a 3, aK ta 56 tCH), (a 4, aK ta 48 tSEC), (a 5, aK ta 512 tSBX), (a 10, aB ta 64 zb), (a 11, aB ta 64 zt), (a 12, aB ta 56 zc), (a 13, aB ta 768 zs), (a 14, aB ta 32 zh), (a 15, aB ta 48 zw), (a 27, aS ta 400 gtp), (a 29, aS ta 416 x'), (a 41, aS ta 256 gke), (a 39, aK ta 2 se), (h0, oM a ar mn 0 osz lsz ns ct), (a 36, aK ta 2 ru)] H → va_D A [(a 0, aK ta 64 tIP), (a 1, aK ta 48 tSPR), (a 2, aK ta 32 tMIX), (a 3, aK ta 56 tCH), (a 4, aK ta 48 tSEC), (a 5, aK ta 512 tSBX), (a 10, aB ta 64 zb), (a 11, aB ta 64 zt), (a 12, aB ta 56 zc), (a 13, aB ta 768 zs), (a 14, aB ta 32 zh), (a 15, aB ta 48 zw), (a 27, aS ta 400 gtp), (a 29, aS ta 416 x'), (a 41, aS ta 256 gke), (a 39, aK ta 2 se), (h0, oM a ar mn 0 osz lsz ns ct), (a 36, aK ta 2 ru)] → va_S A ss.heap H locs → ∀ ls : Array Slot, lv_has ls 8 [(6, .int (nI (8 * i))), (5, .int (nI 1)), (4, .int (nI 8)), (3, .int (nI tp)), (0, .ref h0), (1, .int (nI sd)), (2, .int (qb β))] → W pp ll ee ({ frames := 4, cells := 0, slots := 0, locals := 98 } : Room) ss mm (([.ref h0, .int (nI sd), .int (qb β)] : List Value).toArray) below meth kc H locs 0 0 Q (F0 mm 120 ls []) := by
                  intro nn120
                  induction nn120 with
                  | zero => intro i x' zb zt zc zs zh zw hii hr hmu; exact absurd hmu (Nat.not_lt_zero _)
                  | succ nn120 ih120 =>
                    intro i x' zb zt zc zs zh zw hii hr hmu120 H locs hP hD hS ls hl
                    refine lv_iload (pc := 120) hx hb dX10_seal_120 (lv_at hl 0 rfl) ?_
                    refine lv_iload_n (pc := 122) hx hb dX10_seal_122 rfl (lv_at hl 3 rfl) ?_
                    refine lv_icmp_ge (pc := 123) (tgt := 292) hx hb dX10_seal_123 (by decide) (fun c_8 => ?_) (fun c_8 => ?_)
                    · skip
                      rw [nI_leI (by omega) (by omega)] at c_8
                      refine lv_aload_n (pc := 292) hx hb dX10_seal_292 rfl (lv_at hl 4 rfl) ?_
                      refine lv_iload_n (pc := 293) hx hb dX10_seal_293 rfl (lv_at hl 3 rfl) ?_
                      refine va_put (pc := 294) (D := D) (ci := 8) (v := .int (nI tp)) (ty := .int) (C := RX10) (T := TX10) (N := 57) hx hb hts iu10 tyX10 tyX10_ok nmX10 hown hK hP hD hS 16 rfl rfl 30 (by decide) (hts _ tw_1075) (fun _ h9 => h9) rfl (by decide +kernel) rfl rfl (Nat.le_of_ble_eq_true rfl) dX10_seal_294 (fun H locs hP hD hS => ?_)
                      have hP : va_P D vwCl [(a 0, aK ta 64 tIP), (a 1, aK ta 48 tSPR), (a 2, aK ta 32 tMIX), (a 3, aK ta 56 tCH), (a 4, aK ta 48 tSEC), (a 5, aK ta 512 tSBX), (a 10, aB ta 64 zb), (a 11, aB ta 64 zt), (a 12, aB ta 56 zc), (a 13, aB ta 768 zs), (a 14, aB ta 32 zh), (a 15, aB ta 48 zw), (a 27, aS ta 400 gtp), (a 29, aS ta 416 x'), (a 41, aS ta 256 gke), (a 39, aK ta 2 se), (h0, oM a ar mn 0 tp lsz ns ct), (a 36, aK ta 2 ru)] H := hP
                      have hD : va_D A [(a 0, aK ta 64 tIP), (a 1, aK ta 48 tSPR), (a 2, aK ta 32 tMIX), (a 3, aK ta 56 tCH), (a 4, aK ta 48 tSEC), (a 5, aK ta 512 tSBX), (a 10, aB ta 64 zb), (a 11, aB ta 64 zt), (a 12, aB ta 56 zc), (a 13, aB ta 768 zs), (a 14, aB ta 32 zh), (a 15, aB ta 48 zw), (a 27, aS ta 400 gtp), (a 29, aS ta 416 x'), (a 41, aS ta 256 gke), (a 39, aK ta 2 se), (h0, oM a ar mn 0 tp lsz ns ct), (a 36, aK ta 2 ru)] := hD
                      refine lv_iload_n (pc := 297) hx hb dX10_seal_297 rfl (lv_at hl 3 rfl) ?_
                      have hq_9 : (qL x' tp = ecbL (tdesL (seg gke (128 * sd + 96) 16) β) 8 (qL gtp tp)) := by
                        have ho9 : qL o0 tp = qL gtp tp := by rw [← seg_0, seg_copy0 ho0 (by omega)]
                        rw [← ho9, ecbL, qL_len, ← seg_0, qSeg_segk hr (by omega)]
                      exact hret (⟨(zb), (zt), (zc), (zs), (zh), (zw), (x')⟩ : (Nat → Bool) × (Nat → Bool) × (Nat → Bool) × (Nat → Bool) × (Nat → Bool) × (Nat → Bool) × (Nat → BitVec 8)) _ _ _ _ dX10_seal_298 hq_9 (hP.sub [16, 0, 1, 2, 3, 4, 5, 6, 7, 8, 9, 10, 11, 12, 13, 14, 17, 15] rfl) (hD.sub [16, 0, 1, 2, 3, 4, 5, 6, 7, 8, 9, 10, 11, 12, 13, 14, 17, 15] (by decide) rfl) hS
                    · skip
                      rw [nI_leI (by omega) (by omega)] at c_8
                      refine lv_iconst (pc := 126) (v := nI 0) hx hb dX10_seal_126 (by decide +kernel) ?_
                      refine lv_istore (pc := 127) (lv' := [(7, .int (nI 0)), (6, .int (nI (8 * i))), (5, .int (nI 1)), (4, .int (nI 8)), (3, .int (nI tp)), (0, .ref h0), (1, .int (nI sd)), (2, .int (qb β))]) hx hb dX10_seal_127 hl (by decide) rfl (fun ls hl => ?_)
                      refine lv_iload (pc := 129) hx hb dX10_seal_129 (lv_at hl 0 rfl) ?_
                      refine lv_iload (pc := 131) hx hb dX10_seal_131 (lv_at hl 3 rfl) ?_
                      refine lv_icmp_ge (pc := 133) (tgt := 183) hx hb dX10_seal_133 (by decide) (fun c_10 => absurd c_10 (by decide)) (fun _ => ?_)
                      refine lv_iload (pc := 136) hx hb dX10_seal_136 (lv_at hl 2 rfl) ?_
                      refine lv_if_ne (pc := 138) (tgt := 183) hx hb dX10_seal_138 (by decide) (fun _ => ?_) (fun c_11 => absurd c_11 (by decide))
                      refine lv_iload (pc := 183) hx hb dX10_seal_183 (lv_at hl 2 rfl) ?_
                      refine lv_if_eq (pc := 185) (tgt := 214) hx hb dX10_seal_185 (by decide) (fun c_12 => absurd c_12 (by decide)) (fun _ => ?_)
                      refine lv_aload_n (pc := 188) hx hb dX10_seal_188 rfl (lv_at hl 5 rfl) ?_
                      refine lv_aload_n (pc := 189) hx hb dX10_seal_189 rfl (lv_at hl 5 rfl) ?_
                      refine va_get (pc := 190) (D := D) (ci := 8) (v := .ref (a 29)) (C := RX10) (T := TX10) (N := 57) hx hb hts iu10 hown hK hP 16 rfl rfl 29 (by decide) (hts _ tw_1074) (fun _ h9 => h9) rfl dX10_seal_190 ?_
                      refine lv_iload (pc := 193) hx hb dX10_seal_193 (lv_at hl 1 rfl) ?_
                      refine lv_aload_n (pc := 195) hx hb dX10_seal_195 rfl (lv_at hl 5 rfl) ?_
                      refine va_get (pc := 196) (D := D) (ci := 8) (v := .ref (a 41)) (C := RX10) (T := TX10) (N := 57) hx hb hts iu10 hown hK hP 16 rfl rfl 41 (by decide) (hts _ tw_1086) (fun _ h9 => h9) rfl dX10_seal_196 ?_
                      refine lv_sipush (pc := 199) (v := nI 128) hx hb dX10_seal_199 (by decide +kernel) ?_
                      refine lv_iload_n (pc := 202) hx hb dX10_seal_202 rfl (lv_at hl 6 rfl) ?_
                      refine lv_imul (pc := 203) hx hb dX10_seal_203 ?_
                      refine q_top (y := nI (128 * sd)) (pk_mul 128 sd) ?_
                      refine lv_bipush (pc := 204) (v := nI 96) hx hb dX10_seal_204 (by decide +kernel) ?_
                      refine lv_iadd (pc := 206) hx hb dX10_seal_206 ?_
                      refine q_top (y := nI (128 * sd + 96)) (nI_add (128 * sd) 96) ?_
                      refine lv_iload_n (pc := 207) hx hb dX10_seal_207 rfl (lv_at hl 7 rfl) ?_
                      refine cs_V (pc := 208) (idx := 97) (n := 5) (wr := [(a 27, aS ta 400 gtp), (a 39, aK ta 2 se), (a 36, aK ta 2 ru)]) (As := [.ref (a 29), .int (nI (8 * i)), .ref (a 41), .int (nI (128 * sd + 96)), .int (qb β)]) (rest := []) (ci := 8) hx hb hml hown hts hGok hK hA hG hl.1 hP hD hS (ct_X10_des3_L ll D ta hGok h0 a ar mn 0 osz lsz ns ct (a 29) (8 * i) 416 x' (a 41) (128 * sd + 96) 256 gke zb zt zc zs zh zw β (by first | assumption | omega | rfl | decide) (by first | assumption | omega | rfl | decide) (by first | assumption | omega | rfl | decide) (by first | assumption | omega | rfl | decide) H.size) tw_1290 tw_1287 tw_1289 tw_32 tw_75 hdX10_des3 rfl ⟨rfl, rfl, Nat.le_of_ble_eq_true rfl, Nat.le_of_ble_eq_true rfl, Nat.le_of_ble_eq_true rfl, Nat.le_of_ble_eq_true rfl⟩ rfl rfl (q0 := 16) rfl [16, 0, 1, 2, 3, 4, 5, 6, 7, 8, 9, 10, 11, 13, 14] [12, 15, 17] rfl rfl (by decide) rfl (Nat.le_of_ble_eq_true rfl) dX10_seal_208 (fun u H locs hq hP hD hS => ?_)
                      obtain ⟨gb1_208, bi1_208, tu1_208, cd1_208, sk1_208, hf1_208, wd1_208⟩ := u
                      have hq : (seg gb1_208 (8 * i) 8 = tdesL (seg gke (128 * sd + 96) 16) β (seg x' (8 * i) 8)) ∧ (∀ jz, (jz < (8 * i) ∨ (8 * i) + 8 ≤ jz) → gb1_208 jz = x' jz) := hq
                      obtain ⟨hs_208, hfr_208⟩ := hq
                      refine W.eq (g2 := F0 mm 211 ls []) rfl ?_
                      have hP : va_P D vwCl [(a 27, aS ta 400 gtp), (a 39, aK ta 2 se), (a 36, aK ta 2 ru), (h0, oM a ar mn 0 osz lsz ns ct), (a 0, aK ta 64 tIP), (a 1, aK ta 48 tSPR), (a 2, aK ta 32 tMIX), (a 3, aK ta 56 tCH), (a 4, aK ta 48 tSEC), (a 5, aK ta 512 tSBX), (a 10, aB ta 64 bi1_208), (a 11, aB ta 64 tu1_208), (a 12, aB ta 56 cd1_208), (a 13, aB ta 768 sk1_208), (a 14, aB ta 32 hf1_208), (a 15, aB ta 48 wd1_208), (a 29, aS ta 416 gb1_208), (a 41, aS ta 256 gke)] H := hP
                      have hD : va_D A [(a 27, aS ta 400 gtp), (a 39, aK ta 2 se), (a 36, aK ta 2 ru), (h0, oM a ar mn 0 osz lsz ns ct), (a 0, aK ta 64 tIP), (a 1, aK ta 48 tSPR), (a 2, aK ta 32 tMIX), (a 3, aK ta 56 tCH), (a 4, aK ta 48 tSEC), (a 5, aK ta 512 tSBX), (a 10, aB ta 64 bi1_208), (a 11, aB ta 64 tu1_208), (a 12, aB ta 56 cd1_208), (a 13, aB ta 768 sk1_208), (a 14, aB ta 32 hf1_208), (a 15, aB ta 48 wd1_208), (a 29, aS ta 416 gb1_208), (a 41, aS ta 256 gke)] := hD
                      refine lv_goto (pc := 211) (tgt := 225) hx hb dX10_seal_211 (by decide) ?_
                      refine lv_iconst (pc := 225) (v := nI 0) hx hb dX10_seal_225 (by decide +kernel) ?_
                      refine lv_istore (pc := 226) (lv' := [(7, .int (nI 0)), (6, .int (nI (8 * i))), (5, .int (nI 1)), (4, .int (nI 8)), (3, .int (nI tp)), (0, .ref h0), (1, .int (nI sd)), (2, .int (qb β))]) hx hb dX10_seal_226 hl (by decide) rfl (fun ls hl => ?_)
                      refine lv_iload (pc := 228) hx hb dX10_seal_228 (lv_at hl 0 rfl) ?_
                      refine lv_iload (pc := 230) hx hb dX10_seal_230 (lv_at hl 3 rfl) ?_
                      refine lv_icmp_ge (pc := 232) (tgt := 282) hx hb dX10_seal_232 (by decide) (fun c_13 => absurd c_13 (by decide)) (fun _ => ?_)
                      refine lv_iload (pc := 235) hx hb dX10_seal_235 (lv_at hl 2 rfl) ?_
                      refine lv_if_ne (pc := 237) (tgt := 282) hx hb dX10_seal_237 (by decide) (fun _ => ?_) (fun c_14 => absurd c_14 (by decide))
                      refine lv_iload (pc := 282) hx hb dX10_seal_282 (lv_at hl 1 rfl) ?_
                      refine lv_iload (pc := 284) hx hb dX10_seal_284 (lv_at hl 3 rfl) ?_
                      refine lv_iadd (pc := 286) hx hb dX10_seal_286 ?_
                      refine q_top (y := nI (8 * i + 8)) (nI_add (8 * i) 8) ?_
                      refine lv_istore (pc := 287) (lv' := [(6, .int (nI (8 * i + 8))), (7, .int (nI 0)), (5, .int (nI 1)), (4, .int (nI 8)), (3, .int (nI tp)), (0, .ref h0), (1, .int (nI sd)), (2, .int (qb β))]) hx hb dX10_seal_287 hl (by decide) rfl (fun ls hl => ?_)
                      refine lv_goto (pc := 289) (tgt := 120) hx hb dX10_seal_289 (by decide) ?_
                      exact ih120 (i + 1) gb1_208 bi1_208 tu1_208 cd1_208 sk1_208 hf1_208 wd1_208 (by omega) (ecb_step (by decide) tdes_Elen (by omega) hr (by rw [hs_208]; congr 1; exact seg_ext.mpr (fun j hj => hr.2 _ (by omega))) hfr_208) (by omega) _ _ (hP.sub [4, 5, 6, 7, 8, 9, 10, 11, 12, 13, 14, 15, 0, 16, 17, 1, 3, 2] rfl) (hD.sub [4, 5, 6, 7, 8, 9, 10, 11, 12, 13, 14, 15, 0, 16, 17, 1, 3, 2] (by decide) rfl) hS ls (lv_sub hl [0, 2, 3, 4, 5, 6, 7] rfl)
                exact LP120 _ 0 o0 bi tu cd sk hf wd (by omega) (qSeg_0) (Nat.lt_succ_self _) _ _ (hP.sub [0, 1, 2, 3, 4, 5, 6, 7, 8, 9, 10, 11, 12, 13, 14, 15, 16, 17] rfl) (hD.sub [0, 1, 2, 3, 4, 5, 6, 7, 8, 9, 10, 11, 12, 13, 14, 15, 16, 17] (by decide) rfl) hS ls (lv_sub hl [0, 1, 2, 3, 4, 5, 6] rfl)
              · skip
                rw [nI_leI (by omega) (by omega)] at c_7
                refine lv_aload_n (pc := 97) hx hb dX10_seal_97 rfl (lv_at hl 4 rfl) ?_
                refine va_get (pc := 98) (D := D) (ci := 8) (v := .ref (a 29)) (C := RX10) (T := TX10) (N := 57) hx hb hts iu10 hown hK hP 16 rfl rfl 29 (by decide) (hts _ tw_1074) (fun _ h9 => h9) rfl dX10_seal_98 ?_
                refine lv_iload (pc := 101) hx hb dX10_seal_101 (lv_at hl 0 rfl) ?_
                refine lv_aload_n (pc := 103) hx hb dX10_seal_103 rfl (lv_at hl 4 rfl) ?_
                refine va_get (pc := 104) (D := D) (ci := 8) (v := .ref (a 27)) (C := RX10) (T := TX10) (N := 57) hx hb hts iu10 hown hK hP 16 rfl rfl 27 (by decide) (hts _ tw_1072) (fun _ h9 => h9) rfl dX10_seal_104 ?_
                refine lv_iload (pc := 107) hx hb dX10_seal_107 (lv_at hl 0 rfl) ?_
                refine q_bald (pc := 109) hx hb hK hP 12 2 rfl rfl (k := k) (v := qs (gtp k)) rfl (by omega) (by omega) rfl dX10_seal_109 ?_
                refine q_bastS (pc := 110) hx hb hK hP hD hS 13 2 rfl rfl (k := k) rfl (by omega) (by omega) (b := gtp k) (qlo_qs _) dX10_seal_110 (fun H locs hP hD hS => ?_)
                have hP : va_P D vwCl [(a 0, aK ta 64 tIP), (a 1, aK ta 48 tSPR), (a 2, aK ta 32 tMIX), (a 3, aK ta 56 tCH), (a 4, aK ta 48 tSEC), (a 5, aK ta 512 tSBX), (a 10, aB ta 64 bi), (a 11, aB ta 64 tu), (a 12, aB ta 56 cd), (a 13, aB ta 768 sk), (a 14, aB ta 32 hf), (a 15, aB ta 48 wd), (a 27, aS ta 400 gtp), (a 29, aS ta 416 (qU o0 k (gtp k))), (a 41, aS ta 256 gke), (a 39, aK ta 2 se), (h0, oM a ar mn 0 osz lsz ns ct), (a 36, aK ta 2 ru)] H := hP
                have hD : va_D A [(a 0, aK ta 64 tIP), (a 1, aK ta 48 tSPR), (a 2, aK ta 32 tMIX), (a 3, aK ta 56 tCH), (a 4, aK ta 48 tSEC), (a 5, aK ta 512 tSBX), (a 10, aB ta 64 bi), (a 11, aB ta 64 tu), (a 12, aB ta 56 cd), (a 13, aB ta 768 sk), (a 14, aB ta 32 hf), (a 15, aB ta 48 wd), (a 27, aS ta 400 gtp), (a 29, aS ta 416 (qU o0 k (gtp k))), (a 41, aS ta 256 gke), (a 39, aK ta 2 se), (h0, oM a ar mn 0 osz lsz ns ct), (a 36, aK ta 2 ru)] := hD
                refine lv_iinc (pc := 111) (v := nI (k + 1)) (lv' := [(6, .int (nI (k + 1))), (5, .int (nI 1)), (4, .int (nI 8)), (3, .int (nI tp)), (0, .ref h0), (1, .int (nI sd)), (2, .int (qb β))]) hx hb dX10_seal_111 hl (k := 0) rfl (by first | exact nI_add k 1 | rfl) (by decide) rfl (fun ls hl => ?_)
                refine lv_goto (pc := 114) (tgt := 91) hx hb dX10_seal_114 (by decide) ?_
                exact ih91 (k + 1) (qU o0 k (gtp k)) (by omega) (qSeg_s ho0 (by omega) rfl) (by omega) _ _ (hP.sub [0, 1, 2, 3, 4, 5, 6, 7, 8, 9, 10, 11, 12, 13, 14, 15, 16, 17] rfl) (hD.sub [0, 1, 2, 3, 4, 5, 6, 7, 8, 9, 10, 11, 12, 13, 14, 15, 16, 17] (by decide) rfl) hS ls (lv_sub hl [0, 1, 2, 3, 4, 5, 6] rfl)
          exact LP91 _ 0 gou (by omega) (qSeg_0) (Nat.lt_succ_self _) _ _ (hP.sub [0, 1, 2, 3, 4, 5, 6, 7, 8, 9, 10, 11, 12, 13, 14, 15, 16, 17] rfl) (hD.sub [0, 1, 2, 3, 4, 5, 6, 7, 8, 9, 10, 11, 12, 13, 14, 15, 16, 17] (by decide) rfl) hS ls (lv_sub hl [0, 1, 2, 3, 4, 5, 6] rfl)
      · skip
        rw [q_eq0 (by omega)] at c_4
        exfalso; omega
set_option maxHeartbeats 4000000 in
set_option maxRecDepth 100000 in
theorem ct_X10_seal_30 (ll : Launch) (D : va_G) (ta : Nat → ClassId) {G : (Nat → Prop) → State → Heap → Prop} (hGok : GOK G) (h0 : Nat) (a : Nat → Nat) (ar : Nat) (mn : Nat) (tp : Nat) (osz : Nat) (lsz : Nat) (ns : Nat) (ct : Nat) (rk : Nat → BitVec 8) (ce : Nat → BitVec 8) (gtp : Nat → BitVec 8) (gou : Nat → BitVec 8) (gke : Nat → BitVec 8) (ru : Nat → Nat) (le : Nat → Nat) (se : Nat → Nat) (sd : Nat) (hsd : sd ≤ 1) (htp : 0 < tp ∧ tp ≤ 400 ∧ tp % 16 = 0) (hse : se sd ≠ 0 ∧ se sd ≤ 2) (hru : ru sd = 3) (hle : le sd = 16 ∨ le sd = 24 ∨ le sd = 32) (sz : Nat) : CT ll yX10_seal cX10_seal 8 (some .int) ({ frames := 4, cells := 0, slots := 0, locals := 98 } : Room) D ta G [.ref h0, .int (nI sd), .int (nI 0)] [(h0, oM a ar mn tp osz lsz ns ct), (a 8, aZ ta 256 BOX), (a 9, aZ ta 256 UBOX), (a 16, aS ta 240 rk), (a 18, aS ta 16 ce), (a 37, aK ta 2 le), (a 27, aS ta 400 gtp), (a 29, aS ta 416 gou), (a 41, aS ta 256 gke), (a 36, aK ta 2 ru), (a 39, aK ta 2 se)] sz (S := (Nat → BitVec 8) × (Nat → BitVec 8) × (Nat → BitVec 8)) (fun u => some (.int (nI tp))) (fun u => (qL u.2.2 tp = encL (aesE (seg gke (128 * sd + 96) (le sd))) 16 (zeroL 16) (qL gtp tp))) (fun u => [(h0, oM a (le sd / 4 + 6) mn 0 tp lsz ns ct), (a 8, aZ ta 256 BOX), (a 9, aZ ta 256 UBOX), (a 16, aS ta 240 u.1), (a 18, aS ta 16 u.2.1), (a 37, aK ta 2 le), (a 27, aS ta 400 gtp), (a 29, aS ta 416 u.2.2), (a 41, aS ta 256 gke), (a 36, aK ta 2 ru), (a 39, aK ta 2 se)]) 0 0 := by
  refine CT.of_i (r := fun u => nI tp) rfl (by decide) (Nat.le_of_ble_eq_true rfl) ?_
  intro pp ee ss mm below meth kc A Q hx hb hml hown hin hts hK hA hsz hG hret H locs hP hD hS ls hl
  have hl : lv_has ls 8 [(0, .ref h0), (1, .int (nI sd)), (2, .int (nI 0))] := hl
  refine lv_aload_n (pc := 0) hx hb dX10_seal_0 rfl (lv_at hl 0 rfl) ?_
  refine cs_V (pc := 1) (idx := 310) (n := 0) (wr := [(a 8, aZ ta 256 BOX), (a 9, aZ ta 256 UBOX), (a 16, aS ta 240 rk), (a 18, aS ta 16 ce), (a 37, aK ta 2 le), (a 27, aS ta 400 gtp), (a 29, aS ta 416 gou), (a 41, aS ta 256 gke), (a 36, aK ta 2 ru), (a 39, aK ta 2 se)]) (As := []) (rest := []) (ci := 8) hx hb hml hown hts hGok hK hA hG hl.1 hP hD hS (ct_X10_use ll D ta hGok h0 a ar mn tp osz lsz ns ct  H.size) tw_1254 tw_1251 tw_1253 tw_28 tw_75 hdX10_use rfl ⟨rfl, rfl, Nat.le_of_ble_eq_true rfl, Nat.le_of_ble_eq_true rfl, Nat.le_of_ble_eq_true rfl, Nat.le_of_ble_eq_true rfl⟩ rfl rfl (q0 := 0) rfl [0] [1, 2, 3, 4, 5, 6, 7, 8, 9, 10] rfl rfl (by decide) rfl (Nat.le_of_ble_eq_true rfl) dX10_seal_1 (fun u H locs hq hP hD hS => ?_)
  refine W.eq (g2 := F0 mm 4 ls [.int (nI tp)]) rfl ?_
  have hP : va_P D vwCl [(a 8, aZ ta 256 BOX), (a 9, aZ ta 256 UBOX), (a 16, aS ta 240 rk), (a 18, aS ta 16 ce), (a 37, aK ta 2 le), (a 27, aS ta 400 gtp), (a 29, aS ta 416 gou), (a 41, aS ta 256 gke), (a 36, aK ta 2 ru), (a 39, aK ta 2 se), (h0, oM a ar mn 0 osz lsz ns ct)] H := hP
  have hD : va_D A [(a 8, aZ ta 256 BOX), (a 9, aZ ta 256 UBOX), (a 16, aS ta 240 rk), (a 18, aS ta 16 ce), (a 37, aK ta 2 le), (a 27, aS ta 400 gtp), (a 29, aS ta 416 gou), (a 41, aS ta 256 gke), (a 36, aK ta 2 ru), (a 39, aK ta 2 se), (h0, oM a ar mn 0 osz lsz ns ct)] := hD
  refine lv_istore_n (pc := 4) (lv' := [(3, .int (nI tp)), (0, .ref h0), (1, .int (nI sd)), (2, .int (nI 0))]) hx hb dX10_seal_4 rfl hl (by decide) rfl (fun ls hl => ?_)
  refine lv_iload_n (pc := 5) hx hb dX10_seal_5 rfl (lv_at hl 2 rfl) ?_
  refine cs_S (pc := 6) (idx := 314) (n := 1) (wr := [(a 8, aZ ta 256 BOX), (a 9, aZ ta 256 UBOX), (a 16, aS ta 240 rk), (a 18, aS ta 16 ce), (a 37, aK ta 2 le), (a 27, aS ta 400 gtp), (a 29, aS ta 416 gou), (a 41, aS ta 256 gke), (a 36, aK ta 2 ru), (a 39, aK ta 2 se), (h0, oM a ar mn 0 osz lsz ns ct)]) (As := [.int (nI sd)]) (rest := []) hx hb hml hown hts hGok hK hA hG hl.1 hP hD hS (ct_X10_isSide_s ll D ta hGok sd (by first | assumption | omega | rfl | decide) H.size) tw_1261 tw_1259 tw_1260 tw_75 hdX10_isSide rfl ⟨rfl, rfl, Nat.le_of_ble_eq_true rfl, Nat.le_of_ble_eq_true rfl, Nat.le_of_ble_eq_true rfl, Nat.le_of_ble_eq_true rfl⟩ [] [0, 1, 2, 3, 4, 5, 6, 7, 8, 9, 10] rfl rfl (by decide) rfl (Nat.le_of_ble_eq_true rfl) dX10_seal_6 (fun u H locs hq hP hD hS => ?_)
  refine W.eq (g2 := F0 mm 9 ls [.int (qb true)]) rfl ?_
  have hP : va_P D vwCl [(a 8, aZ ta 256 BOX), (a 9, aZ ta 256 UBOX), (a 16, aS ta 240 rk), (a 18, aS ta 16 ce), (a 37, aK ta 2 le), (a 27, aS ta 400 gtp), (a 29, aS ta 416 gou), (a 41, aS ta 256 gke), (a 36, aK ta 2 ru), (a 39, aK ta 2 se), (h0, oM a ar mn 0 osz lsz ns ct)] H := hP
  have hD : va_D A [(a 8, aZ ta 256 BOX), (a 9, aZ ta 256 UBOX), (a 16, aS ta 240 rk), (a 18, aS ta 16 ce), (a 37, aK ta 2 le), (a 27, aS ta 400 gtp), (a 29, aS ta 416 gou), (a 41, aS ta 256 gke), (a 36, aK ta 2 ru), (a 39, aK ta 2 se), (h0, oM a ar mn 0 osz lsz ns ct)] := hD
  refine lv_if_eq (pc := 9) (tgt := 35) hx hb dX10_seal_9 (by decide) (fun c_1 => absurd c_1 (by decide)) (fun _ => ?_)
  refine lv_aload_n (pc := 12) hx hb dX10_seal_12 rfl (lv_at hl 1 rfl) ?_
  refine va_get (pc := 13) (D := D) (ci := 8) (v := .ref (a 39)) (C := RX10) (T := TX10) (N := 57) hx hb hts iu10 hown hK hP 10 rfl rfl 39 (by decide) (hts _ tw_1084) (fun _ h9 => h9) rfl dX10_seal_13 ?_
  refine lv_iload_n (pc := 16) hx hb dX10_seal_16 rfl (lv_at hl 2 rfl) ?_
  refine q_iald (pc := 17) hx hb hK hP 9 0 rfl rfl (k := sd) (v := nI (se sd)) rfl (by omega) (by omega) rfl dX10_seal_17 ?_
  refine lv_if_eq (pc := 18) (tgt := 35) hx hb dX10_seal_18 (by decide) (fun c_2 => ?_) (fun c_2 => ?_)
  · skip
    rw [q_eq0 (by omega)] at c_2
    exfalso; omega
  · skip
    rw [q_eq0 (by omega)] at c_2
    refine lv_iload_n (pc := 21) hx hb dX10_seal_21 rfl (lv_at hl 0 rfl) ?_
    refine lv_if_eq (pc := 22) (tgt := 35) hx hb dX10_seal_22 (by decide) (fun c_3 => ?_) (fun c_3 => ?_)
    · skip
      rw [q_eq0 (by omega)] at c_3
      exfalso; omega
    · skip
      rw [q_eq0 (by omega)] at c_3
      refine lv_iload_n (pc := 25) hx hb dX10_seal_25 rfl (lv_at hl 0 rfl) ?_
      refine lv_aload_n (pc := 26) hx hb dX10_seal_26 rfl (lv_at hl 1 rfl) ?_
      refine lv_iload_n (pc := 27) hx hb dX10_seal_27 rfl (lv_at hl 2 rfl) ?_
      refine cs_V (pc := 28) (idx := 368) (n := 1) (wr := [(a 8, aZ ta 256 BOX), (a 9, aZ ta 256 UBOX), (a 16, aS ta 240 rk), (a 18, aS ta 16 ce), (a 37, aK ta 2 le), (a 27, aS ta 400 gtp), (a 29, aS ta 416 gou), (a 41, aS ta 256 gke), (a 39, aK ta 2 se)]) (As := [.int (nI sd)]) (rest := [.int (nI tp)]) (ci := 8) hx hb hml hown hts hGok hK hA hG hl.1 hP hD hS (ct_X10_blockOf_3 ll D ta hGok h0 a ar mn 0 osz lsz ns ct ru sd (by first | assumption | omega | rfl | decide) (by first | assumption | omega | rfl | decide) H.size) tw_1392 tw_1389 tw_1391 tw_54 tw_75 hdX10_blockOf rfl ⟨rfl, rfl, Nat.le_of_ble_eq_true rfl, Nat.le_of_ble_eq_true rfl, Nat.le_of_ble_eq_true rfl, Nat.le_of_ble_eq_true rfl⟩ rfl rfl (q0 := 10) rfl [10, 8] [0, 1, 2, 3, 4, 5, 6, 7, 9] rfl rfl (by decide) rfl (Nat.le_of_ble_eq_true rfl) dX10_seal_28 (fun u H locs hq hP hD hS => ?_)
      refine W.eq (g2 := F0 mm 31 ls [.int (nI 16), .int (nI tp)]) rfl ?_
      have hP : va_P D vwCl [(a 8, aZ ta 256 BOX), (a 9, aZ ta 256 UBOX), (a 16, aS ta 240 rk), (a 18, aS ta 16 ce), (a 37, aK ta 2 le), (a 27, aS ta 400 gtp), (a 29, aS ta 416 gou), (a 41, aS ta 256 gke), (a 39, aK ta 2 se), (h0, oM a ar mn 0 osz lsz ns ct), (a 36, aK ta 2 ru)] H := hP
      have hD : va_D A [(a 8, aZ ta 256 BOX), (a 9, aZ ta 256 UBOX), (a 16, aS ta 240 rk), (a 18, aS ta 16 ce), (a 37, aK ta 2 le), (a 27, aS ta 400 gtp), (a 29, aS ta 416 gou), (a 41, aS ta 256 gke), (a 39, aK ta 2 se), (h0, oM a ar mn 0 osz lsz ns ct), (a 36, aK ta 2 ru)] := hD
      refine lv_irem (pc := 31) hx hb dX10_seal_31 (q_ne0 (by omega) (by omega)) ?_
      refine q_top (y := nI (tp % 16)) (pk_rem (by omega) (by omega) (by omega)) ?_
      refine lv_if_eq (pc := 32) (tgt := 37) hx hb dX10_seal_32 (by decide) (fun c_4 => ?_) (fun c_4 => ?_)
      · skip
        rw [q_eq0 (by omega)] at c_4
        refine lv_aload_n (pc := 37) hx hb dX10_seal_37 rfl (lv_at hl 1 rfl) ?_
        refine lv_iload_n (pc := 38) hx hb dX10_seal_38 rfl (lv_at hl 2 rfl) ?_
        refine cs_V (pc := 39) (idx := 368) (n := 1) (wr := [(a 8, aZ ta 256 BOX), (a 9, aZ ta 256 UBOX), (a 16, aS ta 240 rk), (a 18, aS ta 16 ce), (a 37, aK ta 2 le), (a 27, aS ta 400 gtp), (a 29, aS ta 416 gou), (a 41, aS ta 256 gke), (a 39, aK ta 2 se)]) (As := [.int (nI sd)]) (rest := []) (ci := 8) hx hb hml hown hts hGok hK hA hG hl.1 hP hD hS (ct_X10_blockOf_3 ll D ta hGok h0 a ar mn 0 osz lsz ns ct ru sd (by first | assumption | omega | rfl | decide) (by first | assumption | omega | rfl | decide) H.size) tw_1392 tw_1389 tw_1391 tw_54 tw_75 hdX10_blockOf rfl ⟨rfl, rfl, Nat.le_of_ble_eq_true rfl, Nat.le_of_ble_eq_true rfl, Nat.le_of_ble_eq_true rfl, Nat.le_of_ble_eq_true rfl⟩ rfl rfl (q0 := 9) rfl [9, 10] [0, 1, 2, 3, 4, 5, 6, 7, 8] rfl rfl (by decide) rfl (Nat.le_of_ble_eq_true rfl) dX10_seal_39 (fun u H locs hq hP hD hS => ?_)
        refine W.eq (g2 := F0 mm 42 ls [.int (nI 16)]) rfl ?_
        have hP : va_P D vwCl [(a 8, aZ ta 256 BOX), (a 9, aZ ta 256 UBOX), (a 16, aS ta 240 rk), (a 18, aS ta 16 ce), (a 37, aK ta 2 le), (a 27, aS ta 400 gtp), (a 29, aS ta 416 gou), (a 41, aS ta 256 gke), (a 39, aK ta 2 se), (h0, oM a ar mn 0 osz lsz ns ct), (a 36, aK ta 2 ru)] H := hP
        have hD : va_D A [(a 8, aZ ta 256 BOX), (a 9, aZ ta 256 UBOX), (a 16, aS ta 240 rk), (a 18, aS ta 16 ce), (a 37, aK ta 2 le), (a 27, aS ta 400 gtp), (a 29, aS ta 416 gou), (a 41, aS ta 256 gke), (a 39, aK ta 2 se), (h0, oM a ar mn 0 osz lsz ns ct), (a 36, aK ta 2 ru)] := hD
        refine lv_istore (pc := 42) (lv' := [(4, .int (nI 16)), (3, .int (nI tp)), (0, .ref h0), (1, .int (nI sd)), (2, .int (nI 0))]) hx hb dX10_seal_42 hl (by decide) rfl (fun ls hl => ?_)
        refine lv_aload_n (pc := 44) hx hb dX10_seal_44 rfl (lv_at hl 2 rfl) ?_
        refine va_get (pc := 45) (D := D) (ci := 8) (v := .ref (a 36)) (C := RX10) (T := TX10) (N := 57) hx hb hts iu10 hown hK hP 9 rfl rfl 36 (by decide) (hts _ tw_1081) (fun _ h9 => h9) rfl dX10_seal_45 ?_
        refine lv_iload_n (pc := 48) hx hb dX10_seal_48 rfl (lv_at hl 3 rfl) ?_
        refine q_iald (pc := 49) hx hb hK hP 10 0 rfl rfl (k := sd) (v := nI (ru sd)) rfl (by omega) (by omega) rfl dX10_seal_49 ?_
        refine lv_iconst (pc := 50) (v := nI 2) hx hb dX10_seal_50 (by decide +kernel) ?_
        refine lv_icmp_ne (pc := 51) (tgt := 58) hx hb dX10_seal_51 (by decide) (fun c_5 => ?_) (fun c_5 => ?_)
        · skip
          rw [nI_eq (by omega) (by omega)] at c_5
          refine lv_iconst (pc := 58) (v := nI 0) hx hb dX10_seal_58 (by decide +kernel) ?_
          refine lv_istore (pc := 59) (lv' := [(5, .int (nI 0)), (4, .int (nI 16)), (3, .int (nI tp)), (0, .ref h0), (1, .int (nI sd)), (2, .int (nI 0))]) hx hb dX10_seal_59 hl (by decide) rfl (fun ls hl => ?_)
          refine lv_iload (pc := 61) hx hb dX10_seal_61 (lv_at hl 0 rfl) ?_
          refine lv_if_ne (pc := 63) (tgt := 88) hx hb dX10_seal_63 (by decide) (fun c_6 => absurd (by decide) c_6) (fun _ => ?_)
          refine lv_aload_n (pc := 66) hx hb dX10_seal_66 rfl (lv_at hl 3 rfl) ?_
          refine lv_aload_n (pc := 67) hx hb dX10_seal_67 rfl (lv_at hl 3 rfl) ?_
          refine va_get (pc := 68) (D := D) (ci := 8) (v := .ref (a 41)) (C := RX10) (T := TX10) (N := 57) hx hb hts iu10 hown hK hP 9 rfl rfl 41 (by decide) (hts _ tw_1086) (fun _ h9 => h9) rfl dX10_seal_68 ?_
          refine lv_sipush (pc := 71) (v := nI 128) hx hb dX10_seal_71 (by decide +kernel) ?_
          refine lv_iload_n (pc := 74) hx hb dX10_seal_74 rfl (lv_at hl 4 rfl) ?_
          refine lv_imul (pc := 75) hx hb dX10_seal_75 ?_
          refine q_top (y := nI (128 * sd)) (pk_mul 128 sd) ?_
          refine lv_bipush (pc := 76) (v := nI 96) hx hb dX10_seal_76 (by decide +kernel) ?_
          refine lv_iadd (pc := 78) hx hb dX10_seal_78 ?_
          refine q_top (y := nI (128 * sd + 96)) (nI_add (128 * sd) 96) ?_
          refine lv_aload_n (pc := 79) hx hb dX10_seal_79 rfl (lv_at hl 3 rfl) ?_
          refine va_get (pc := 80) (D := D) (ci := 8) (v := .ref (a 37)) (C := RX10) (T := TX10) (N := 57) hx hb hts iu10 hown hK hP 9 rfl rfl 37 (by decide) (hts _ tw_1082) (fun _ h9 => h9) rfl dX10_seal_80 ?_
          refine lv_iload_n (pc := 83) hx hb dX10_seal_83 rfl (lv_at hl 4 rfl) ?_
          refine q_iald (pc := 84) hx hb hK hP 4 0 rfl rfl (k := sd) (v := nI (le sd)) rfl (by omega) (by omega) rfl dX10_seal_84 ?_
          refine cs_V (pc := 85) (idx := 100) (n := 3) (wr := [(a 9, aZ ta 256 UBOX), (a 18, aS ta 16 ce), (a 37, aK ta 2 le), (a 27, aS ta 400 gtp), (a 29, aS ta 416 gou), (a 39, aK ta 2 se), (a 36, aK ta 2 ru)]) (As := [.ref (a 41), .int (nI (128 * sd + 96)), .int (nI (le sd))]) (rest := []) (ci := 8) hx hb hml hown hts hGok hK hA hG hl.1 hP hD hS (ct_X10_aesKeyL ll D ta hGok h0 a ar mn 0 osz lsz ns ct (a 41) (128 * sd + 96) 256 gke rk (le sd) (by first | assumption | omega | rfl | decide) (by first | assumption | omega | rfl | decide) (by first | assumption | omega | rfl | decide) H.size) tw_1338 tw_1335 tw_1337 tw_44 tw_75 hdX10_aesKey rfl ⟨rfl, rfl, Nat.le_of_ble_eq_true rfl, Nat.le_of_ble_eq_true rfl, Nat.le_of_ble_eq_true rfl, Nat.le_of_ble_eq_true rfl⟩ rfl rfl (q0 := 9) rfl [9, 0, 2, 7] [1, 3, 4, 5, 6, 8, 10] rfl rfl (by decide) rfl (Nat.le_of_ble_eq_true rfl) dX10_seal_85 (fun u H locs hq hP hD hS => ?_)
          generalize u = rk1_85 at hq hP hD ⊢
          have hq : (rkOK rk1_85 (seg gke (128 * sd + 96) (le sd))) := hq
          have hs_85 := hq
          refine W.eq (g2 := F0 mm 88 ls []) rfl ?_
          have hP : va_P D vwCl [(a 9, aZ ta 256 UBOX), (a 18, aS ta 16 ce), (a 37, aK ta 2 le), (a 27, aS ta 400 gtp), (a 29, aS ta 416 gou), (a 39, aK ta 2 se), (a 36, aK ta 2 ru), (h0, oM a ((le sd) / 4 + 6) mn 0 osz lsz ns ct), (a 8, aZ ta 256 BOX), (a 16, aS ta 240 rk1_85), (a 41, aS ta 256 gke)] H := hP
          have hD : va_D A [(a 9, aZ ta 256 UBOX), (a 18, aS ta 16 ce), (a 37, aK ta 2 le), (a 27, aS ta 400 gtp), (a 29, aS ta 416 gou), (a 39, aK ta 2 se), (a 36, aK ta 2 ru), (h0, oM a ((le sd) / 4 + 6) mn 0 osz lsz ns ct), (a 8, aZ ta 256 BOX), (a 16, aS ta 240 rk1_85), (a 41, aS ta 256 gke)] := hD
          refine lv_iconst (pc := 88) (v := nI 0) hx hb dX10_seal_88 (by decide +kernel) ?_
          refine lv_istore (pc := 89) (lv' := [(6, .int (nI 0)), (5, .int (nI 0)), (4, .int (nI 16)), (3, .int (nI tp)), (0, .ref h0), (1, .int (nI sd)), (2, .int (nI 0))]) hx hb dX10_seal_89 hl (by decide) rfl (fun ls hl => ?_)
          have LP91 : ∀ (nn91 : Nat) (k : Nat) (o0 : Nat → BitVec 8), (k ≤ tp) → (qSeg o0 gou 0 k gtp) → (tp - k < nn91) → ∀ (H : Heap) (locs : List Loc), va_P D vwCl [(a 9, aZ ta 256 UBOX), (a 18, aS ta 16 ce), (a 37, aK ta 2 le), (a 27, aS ta 400 gtp), (a 29, aS ta 416 o0), (a 39, aK ta 2 se), (a 36, aK ta 2 ru), (h0, oM a ((le sd) / 4 + 6) mn 0 osz lsz ns ct), (a 8, aZ ta 256 BOX), (a 16, aS ta 240 rk1_85), (a 41, aS ta 256 gke)] H → va_D A [(a 9, aZ ta 256 UBOX), (a 18, aS ta 16 ce), (a 37, aK ta 2 le), (a 27, aS ta 400 gtp), (a 29, aS ta 416 o0), (a 39, aK ta 2 se), (a 36, aK ta 2 ru), (h0, oM a ((le sd) / 4 + 6) mn 0 osz lsz ns ct), (a 8, aZ ta 256 BOX), (a 16, aS ta 240 rk1_85), (a 41, aS ta 256 gke)] → va_S A ss.heap H locs → ∀ ls : Array Slot, lv_has ls 8 [(6, .int (nI k)), (5, .int (nI 0)), (4, .int (nI 16)), (3, .int (nI tp)), (0, .ref h0), (1, .int (nI sd)), (2, .int (nI 0))] → W pp ll ee ({ frames := 4, cells := 0, slots := 0, locals := 98 } : Room) ss mm (([.ref h0, .int (nI sd), .int (nI 0)] : List Value).toArray) below meth kc H locs 0 0 Q (F0 mm 91 ls []) := by
            intro nn91
            induction nn91 with
            | zero => intro k o0 hkk ho0 hmu; exact absurd hmu (Nat.not_lt_zero _)
            | succ nn91 ih91 =>
              intro k o0 hkk ho0 hmu91 H locs hP hD hS ls hl
              refine lv_iload (pc := 91) hx hb dX10_seal_91 (lv_at hl 0 rfl) ?_
              refine lv_iload_n (pc := 93) hx hb dX10_seal_93 rfl (lv_at hl 3 rfl) ?_
              refine lv_icmp_ge (pc := 94) (tgt := 117) hx hb dX10_seal_94 (by decide) (fun c_7 => ?_) (fun c_7 => ?_)
              · skip
                rw [nI_leI (by omega) (by omega)] at c_7
                refine lv_iconst (pc := 117) (v := nI 0) hx hb dX10_seal_117 (by decide +kernel) ?_
                refine lv_istore (pc := 118) (lv' := [(6, .int (nI 0)), (5, .int (nI 0)), (4, .int (nI 16)), (3, .int (nI tp)), (0, .ref h0), (1, .int (nI sd)), (2, .int (nI 0))]) hx hb dX10_seal_118 hl (by decide) rfl (fun ls hl => ?_)
                have LP120 : ∀ (nn120 : Nat) (i : Nat) (x' : Nat → BitVec 8) (e' : Nat → BitVec 8), (16 * i ≤ tp) → (qSeg x' o0 0 (16 * i) (encF (aesE (seg gke (128 * sd + 96) (le sd))) 16 (zeroL 16) (qL o0 tp))) → (qL (fun j => if i = 0 then 0#8 else x' (16 * i - 16 + j)) 16 = cbcM (aesE (seg gke (128 * sd + 96) (le sd))) 16 (zeroL 16) (qL o0 tp) i) → (tp - 16 * i < nn120) → ∀ (H : Heap) (locs : List Loc), va_P D vwCl [(a 9, aZ ta 256 UBOX), (a 18, aS ta 16 e'), (a 37, aK ta 2 le), (a 27, aS ta 400 gtp), (a 29, aS ta 416 x'), (a 39, aK ta 2 se), (a 36, aK ta 2 ru), (h0, oM a ((le sd) / 4 + 6) mn 0 osz lsz ns ct), (a 8, aZ ta 256 BOX), (a 16, aS ta 240 rk1_85), (a 41, aS ta 256 gke)] H → va_D A [(a 9, aZ ta 256 UBOX), (a 18, aS ta 16 e'), (a 37, aK ta 2 le), (a 27, aS ta 400 gtp), (a 29, aS ta 416 x'), (a 39, aK ta 2 se), (a 36, aK ta 2 ru), (h0, oM a ((le sd) / 4 + 6) mn 0 osz lsz ns ct), (a 8, aZ ta 256 BOX), (a 16, aS ta 240 rk1_85), (a 41, aS ta 256 gke)] → va_S A ss.heap H locs → ∀ ls : Array Slot, lv_has ls 8 [(6, .int (nI (16 * i))), (5, .int (nI 0)), (4, .int (nI 16)), (3, .int (nI tp)), (0, .ref h0), (1, .int (nI sd)), (2, .int (nI 0))] → W pp ll ee ({ frames := 4, cells := 0, slots := 0, locals := 98 } : Room) ss mm (([.ref h0, .int (nI sd), .int (nI 0)] : List Value).toArray) below meth kc H locs 0 0 Q (F0 mm 120 ls []) := by
                  intro nn120
                  induction nn120 with
                  | zero => intro i x' e' hii hr hb1 hmu; exact absurd hmu (Nat.not_lt_zero _)
                  | succ nn120 ih120 =>
                    intro i x' e' hii hr hb1 hmu120 H locs hP hD hS ls hl
                    refine lv_iload (pc := 120) hx hb dX10_seal_120 (lv_at hl 0 rfl) ?_
                    refine lv_iload_n (pc := 122) hx hb dX10_seal_122 rfl (lv_at hl 3 rfl) ?_
                    refine lv_icmp_ge (pc := 123) (tgt := 292) hx hb dX10_seal_123 (by decide) (fun c_8 => ?_) (fun c_8 => ?_)
                    · skip
                      rw [nI_leI (by omega) (by omega)] at c_8
                      refine lv_aload_n (pc := 292) hx hb dX10_seal_292 rfl (lv_at hl 4 rfl) ?_
                      refine lv_iload_n (pc := 293) hx hb dX10_seal_293 rfl (lv_at hl 3 rfl) ?_
                      refine va_put (pc := 294) (D := D) (ci := 8) (v := .int (nI tp)) (ty := .int) (C := RX10) (T := TX10) (N := 57) hx hb hts iu10 tyX10 tyX10_ok nmX10 hown hK hP hD hS 7 rfl rfl 30 (by decide) (hts _ tw_1075) (fun _ h9 => h9) rfl (by decide +kernel) rfl rfl (Nat.le_of_ble_eq_true rfl) dX10_seal_294 (fun H locs hP hD hS => ?_)
                      have hP : va_P D vwCl [(a 9, aZ ta 256 UBOX), (a 18, aS ta 16 e'), (a 37, aK ta 2 le), (a 27, aS ta 400 gtp), (a 29, aS ta 416 x'), (a 39, aK ta 2 se), (a 36, aK ta 2 ru), (h0, oM a ((le sd) / 4 + 6) mn 0 tp lsz ns ct), (a 8, aZ ta 256 BOX), (a 16, aS ta 240 rk1_85), (a 41, aS ta 256 gke)] H := hP
                      have hD : va_D A [(a 9, aZ ta 256 UBOX), (a 18, aS ta 16 e'), (a 37, aK ta 2 le), (a 27, aS ta 400 gtp), (a 29, aS ta 416 x'), (a 39, aK ta 2 se), (a 36, aK ta 2 ru), (h0, oM a ((le sd) / 4 + 6) mn 0 tp lsz ns ct), (a 8, aZ ta 256 BOX), (a 16, aS ta 240 rk1_85), (a 41, aS ta 256 gke)] := hD
                      refine lv_iload_n (pc := 297) hx hb dX10_seal_297 rfl (lv_at hl 3 rfl) ?_
                      have hq_9 : (qL x' tp = encL (aesE (seg gke (128 * sd + 96) (le sd))) 16 (zeroL 16) (qL gtp tp)) := by
                        have ho9 : qL o0 tp = qL gtp tp := by rw [← seg_0, seg_copy0 ho0 (by omega)]
                        rw [← ho9, encL, qL_len, ← seg_0, qSeg_segk hr (by omega)]
                      exact hret (⟨(rk1_85), (e'), (x')⟩ : (Nat → BitVec 8) × (Nat → BitVec 8) × (Nat → BitVec 8)) _ _ _ _ dX10_seal_298 hq_9 (hP.sub [7, 8, 0, 9, 1, 2, 3, 4, 10, 6, 5] rfl) (hD.sub [7, 8, 0, 9, 1, 2, 3, 4, 10, 6, 5] (by decide) rfl) hS
                    · skip
                      rw [nI_leI (by omega) (by omega)] at c_8
                      refine lv_iconst (pc := 126) (v := nI 0) hx hb dX10_seal_126 (by decide +kernel) ?_
                      refine lv_istore (pc := 127) (lv' := [(7, .int (nI 0)), (6, .int (nI (16 * i))), (5, .int (nI 0)), (4, .int (nI 16)), (3, .int (nI tp)), (0, .ref h0), (1, .int (nI sd)), (2, .int (nI 0))]) hx hb dX10_seal_127 hl (by decide) rfl (fun ls hl => ?_)
                      have LP129 : ∀ (nn129 : Nat) (d : Nat) (y' : Nat → BitVec 8), (d ≤ 16 ∧ (i = 0 → d = 0)) → (qSeg y' x' (16 * i) d (fun j => x' (16 * i + j) ^^^ x' (16 * i - 16 + j))) → (16 - d < nn129) → ∀ (H : Heap) (locs : List Loc), va_P D vwCl [(a 9, aZ ta 256 UBOX), (a 18, aS ta 16 e'), (a 37, aK ta 2 le), (a 27, aS ta 400 gtp), (a 29, aS ta 416 y'), (a 39, aK ta 2 se), (a 36, aK ta 2 ru), (h0, oM a ((le sd) / 4 + 6) mn 0 osz lsz ns ct), (a 8, aZ ta 256 BOX), (a 16, aS ta 240 rk1_85), (a 41, aS ta 256 gke)] H → va_D A [(a 9, aZ ta 256 UBOX), (a 18, aS ta 16 e'), (a 37, aK ta 2 le), (a 27, aS ta 400 gtp), (a 29, aS ta 416 y'), (a 39, aK ta 2 se), (a 36, aK ta 2 ru), (h0, oM a ((le sd) / 4 + 6) mn 0 osz lsz ns ct), (a 8, aZ ta 256 BOX), (a 16, aS ta 240 rk1_85), (a 41, aS ta 256 gke)] → va_S A ss.heap H locs → ∀ ls : Array Slot, lv_has ls 8 [(7, .int (nI d)), (6, .int (nI (16 * i))), (5, .int (nI 0)), (4, .int (nI 16)), (3, .int (nI tp)), (0, .ref h0), (1, .int (nI sd)), (2, .int (nI 0))] → W pp ll ee ({ frames := 4, cells := 0, slots := 0, locals := 98 } : Room) ss mm (([.ref h0, .int (nI sd), .int (nI 0)] : List Value).toArray) below meth kc H locs 0 0 Q (F0 mm 129 ls []) := by
                        intro nn129
                        induction nn129 with
                        | zero => intro d y' hdd hd hmu; exact absurd hmu (Nat.not_lt_zero _)
                        | succ nn129 ih129 =>
                          intro d y' hdd hd hmu129 H locs hP hD hS ls hl
                          refine lv_iload (pc := 129) hx hb dX10_seal_129 (lv_at hl 0 rfl) ?_
                          refine lv_iload (pc := 131) hx hb dX10_seal_131 (lv_at hl 3 rfl) ?_
                          refine lv_icmp_ge (pc := 133) (tgt := 183) hx hb dX10_seal_133 (by decide) (fun c_10 => ?_) (fun c_10 => ?_)
                          · skip
                            rw [nI_leI (by omega) (by omega)] at c_10
                            have hX : qSeg y' x' (16 * i) 16 (fun j => x' (16 * i + j) ^^^ (if i = 0 then 0#8 else x' (16 * i - 16 + j))) := xor_prev (d := d) (by omega) hd
                            refine lv_iload (pc := 183) hx hb dX10_seal_183 (lv_at hl 2 rfl) ?_
                            refine lv_if_eq (pc := 185) (tgt := 214) hx hb dX10_seal_185 (by decide) (fun _ => ?_) (fun c_11 => absurd (by decide) c_11)
                            refine lv_aload_n (pc := 214) hx hb dX10_seal_214 rfl (lv_at hl 5 rfl) ?_
                            refine lv_aload_n (pc := 215) hx hb dX10_seal_215 rfl (lv_at hl 5 rfl) ?_
                            refine va_get (pc := 216) (D := D) (ci := 8) (v := .ref (a 29)) (C := RX10) (T := TX10) (N := 57) hx hb hts iu10 hown hK hP 7 rfl rfl 29 (by decide) (hts _ tw_1074) (fun _ h9 => h9) rfl dX10_seal_216 ?_
                            refine lv_iload (pc := 219) hx hb dX10_seal_219 (lv_at hl 1 rfl) ?_
                            refine lv_iload_n (pc := 221) hx hb dX10_seal_221 rfl (lv_at hl 7 rfl) ?_
                            refine cs_V (pc := 222) (idx := 106) (n := 3) (wr := [(a 37, aK ta 2 le), (a 27, aS ta 400 gtp), (a 39, aK ta 2 se), (a 36, aK ta 2 ru), (a 41, aS ta 256 gke)]) (As := [.ref (a 29), .int (nI (16 * i)), .int (nI 0)]) (rest := []) (ci := 8) hx hb hml hown hts hGok hK hA hG hl.1 hP hD hS (ct_X10_aes_fL ll D ta hGok h0 a mn 0 osz lsz ns ct (a 29) (16 * i) 416 y' e' rk1_85 (le sd) ((seg gke (128 * sd + 96) (le sd))) (by first | assumption | omega | rfl | decide) (by first | assumption | omega | rfl | decide) (hle) (seg_len) (hs_85) H.size) tw_1342 tw_1339 tw_1341 tw_45 tw_75 hdX10_aes rfl ⟨rfl, rfl, Nat.le_of_ble_eq_true rfl, Nat.le_of_ble_eq_true rfl, Nat.le_of_ble_eq_true rfl, Nat.le_of_ble_eq_true rfl⟩ rfl rfl (q0 := 7) rfl [7, 8, 0, 9, 1, 4] [2, 3, 5, 6, 10] rfl rfl (by decide) rfl (Nat.le_of_ble_eq_true rfl) dX10_seal_222 (fun u H locs hq hP hD hS => ?_)
                            obtain ⟨gb1_222, ce1_222⟩ := u
                            have hq : (seg gb1_222 (16 * i) 16 = aesE ((seg gke (128 * sd + 96) (le sd))) (seg y' (16 * i) 16)) ∧ (∀ jz, (jz < (16 * i) ∨ (16 * i) + 16 ≤ jz) → gb1_222 jz = y' jz) := hq
                            obtain ⟨hs_222, hfr_222⟩ := hq
                            refine W.eq (g2 := F0 mm 225 ls []) rfl ?_
                            have hP : va_P D vwCl [(a 37, aK ta 2 le), (a 27, aS ta 400 gtp), (a 39, aK ta 2 se), (a 36, aK ta 2 ru), (a 41, aS ta 256 gke), (h0, oM a ((le sd) / 4 + 6) mn 0 osz lsz ns ct), (a 8, aZ ta 256 BOX), (a 9, aZ ta 256 UBOX), (a 16, aS ta 240 rk1_85), (a 18, aS ta 16 ce1_222), (a 29, aS ta 416 gb1_222)] H := hP
                            have hD : va_D A [(a 37, aK ta 2 le), (a 27, aS ta 400 gtp), (a 39, aK ta 2 se), (a 36, aK ta 2 ru), (a 41, aS ta 256 gke), (h0, oM a ((le sd) / 4 + 6) mn 0 osz lsz ns ct), (a 8, aZ ta 256 BOX), (a 9, aZ ta 256 UBOX), (a 16, aS ta 240 rk1_85), (a 18, aS ta 16 ce1_222), (a 29, aS ta 416 gb1_222)] := hD
                            refine lv_iconst (pc := 225) (v := nI 0) hx hb dX10_seal_225 (by decide +kernel) ?_
                            refine lv_istore (pc := 226) (lv' := [(7, .int (nI 0)), (6, .int (nI (16 * i))), (5, .int (nI 0)), (4, .int (nI 16)), (3, .int (nI tp)), (0, .ref h0), (1, .int (nI sd)), (2, .int (nI 0))]) hx hb dX10_seal_226 hl (by decide) rfl (fun ls hl => ?_)
                            refine lv_iload (pc := 228) hx hb dX10_seal_228 (lv_at hl 0 rfl) ?_
                            refine lv_iload (pc := 230) hx hb dX10_seal_230 (lv_at hl 3 rfl) ?_
                            refine lv_icmp_ge (pc := 232) (tgt := 282) hx hb dX10_seal_232 (by decide) (fun c_12 => absurd c_12 (by decide)) (fun _ => ?_)
                            refine lv_iload (pc := 235) hx hb dX10_seal_235 (lv_at hl 2 rfl) ?_
                            refine lv_if_ne (pc := 237) (tgt := 282) hx hb dX10_seal_237 (by decide) (fun c_13 => absurd (by decide) c_13) (fun _ => ?_)
                            refine lv_iload_n (pc := 240) hx hb dX10_seal_240 rfl (lv_at hl 7 rfl) ?_
                            refine lv_if_eq (pc := 241) (tgt := 282) hx hb dX10_seal_241 (by decide) (fun _ => ?_) (fun c_14 => absurd (by decide) c_14)
                            refine lv_iload (pc := 282) hx hb dX10_seal_282 (lv_at hl 1 rfl) ?_
                            refine lv_iload (pc := 284) hx hb dX10_seal_284 (lv_at hl 3 rfl) ?_
                            refine lv_iadd (pc := 286) hx hb dX10_seal_286 ?_
                            refine q_top (y := nI (16 * i + 16)) (nI_add (16 * i) 16) ?_
                            refine lv_istore (pc := 287) (lv' := [(6, .int (nI (16 * i + 16))), (7, .int (nI 0)), (5, .int (nI 0)), (4, .int (nI 16)), (3, .int (nI tp)), (0, .ref h0), (1, .int (nI sd)), (2, .int (nI 0))]) hx hb dX10_seal_287 hl (by decide) rfl (fun ls hl => ?_)
                            refine lv_goto (pc := 289) (tgt := 120) hx hb dX10_seal_289 (by decide) ?_
                            exact ih120 (i + 1) gb1_222 ce1_222 (by omega) ((enc_stepY (by decide) (n := tp) (m := tp / 16) (by omega) (by omega) hr hb1 hX hs_222 hfr_222 aes_Elen).1) (by rw [← (enc_stepY (by decide) (n := tp) (m := tp / 16) (by omega) (by omega) hr hb1 hX hs_222 hfr_222 aes_Elen).2, qL_ext]; intro j hj; rw [if_neg (by omega), show 16 * (i + 1) - 16 + j = 16 * i + j by omega]) (by omega) _ _ (hP.sub [7, 9, 0, 1, 10, 2, 3, 5, 6, 8, 4] rfl) (hD.sub [7, 9, 0, 1, 10, 2, 3, 5, 6, 8, 4] (by decide) rfl) hS ls (lv_sub hl [0, 2, 3, 4, 5, 6, 7] rfl)
                          · skip
                            rw [nI_leI (by omega) (by omega)] at c_10
                            refine lv_iload (pc := 136) hx hb dX10_seal_136 (lv_at hl 2 rfl) ?_
                            refine lv_if_ne (pc := 138) (tgt := 183) hx hb dX10_seal_138 (by decide) (fun c_15 => absurd (by decide) c_15) (fun _ => ?_)
                            refine lv_iload_n (pc := 141) hx hb dX10_seal_141 rfl (lv_at hl 7 rfl) ?_
                            refine lv_if_ne (pc := 142) (tgt := 183) hx hb dX10_seal_142 (by decide) (fun c_16 => absurd (by decide) c_16) (fun _ => ?_)
                            refine lv_iload (pc := 145) hx hb dX10_seal_145 (lv_at hl 1 rfl) ?_
                            refine lv_if_le (pc := 147) (tgt := 183) hx hb dX10_seal_147 (by decide) (fun c_17 => ?_) (fun c_17 => ?_)
                            · skip
                              rw [q_le0 (by omega)] at c_17
                              have hX : qSeg y' x' (16 * i) 16 (fun j => x' (16 * i + j) ^^^ (if i = 0 then 0#8 else x' (16 * i - 16 + j))) := xor_prev (d := d) (by omega) hd
                              refine lv_iload (pc := 183) hx hb dX10_seal_183 (lv_at hl 2 rfl) ?_
                              refine lv_if_eq (pc := 185) (tgt := 214) hx hb dX10_seal_185 (by decide) (fun _ => ?_) (fun c_18 => absurd (by decide) c_18)
                              refine lv_aload_n (pc := 214) hx hb dX10_seal_214 rfl (lv_at hl 5 rfl) ?_
                              refine lv_aload_n (pc := 215) hx hb dX10_seal_215 rfl (lv_at hl 5 rfl) ?_
                              refine va_get (pc := 216) (D := D) (ci := 8) (v := .ref (a 29)) (C := RX10) (T := TX10) (N := 57) hx hb hts iu10 hown hK hP 7 rfl rfl 29 (by decide) (hts _ tw_1074) (fun _ h9 => h9) rfl dX10_seal_216 ?_
                              refine lv_iload (pc := 219) hx hb dX10_seal_219 (lv_at hl 1 rfl) ?_
                              refine lv_iload_n (pc := 221) hx hb dX10_seal_221 rfl (lv_at hl 7 rfl) ?_
                              refine cs_V (pc := 222) (idx := 106) (n := 3) (wr := [(a 37, aK ta 2 le), (a 27, aS ta 400 gtp), (a 39, aK ta 2 se), (a 36, aK ta 2 ru), (a 41, aS ta 256 gke)]) (As := [.ref (a 29), .int (nI (16 * i)), .int (nI 0)]) (rest := []) (ci := 8) hx hb hml hown hts hGok hK hA hG hl.1 hP hD hS (ct_X10_aes_fL ll D ta hGok h0 a mn 0 osz lsz ns ct (a 29) (16 * i) 416 y' e' rk1_85 (le sd) ((seg gke (128 * sd + 96) (le sd))) (by first | assumption | omega | rfl | decide) (by first | assumption | omega | rfl | decide) (hle) (seg_len) (hs_85) H.size) tw_1342 tw_1339 tw_1341 tw_45 tw_75 hdX10_aes rfl ⟨rfl, rfl, Nat.le_of_ble_eq_true rfl, Nat.le_of_ble_eq_true rfl, Nat.le_of_ble_eq_true rfl, Nat.le_of_ble_eq_true rfl⟩ rfl rfl (q0 := 7) rfl [7, 8, 0, 9, 1, 4] [2, 3, 5, 6, 10] rfl rfl (by decide) rfl (Nat.le_of_ble_eq_true rfl) dX10_seal_222 (fun u H locs hq hP hD hS => ?_)
                              obtain ⟨gb1_222, ce1_222⟩ := u
                              have hq : (seg gb1_222 (16 * i) 16 = aesE ((seg gke (128 * sd + 96) (le sd))) (seg y' (16 * i) 16)) ∧ (∀ jz, (jz < (16 * i) ∨ (16 * i) + 16 ≤ jz) → gb1_222 jz = y' jz) := hq
                              obtain ⟨hs_222, hfr_222⟩ := hq
                              refine W.eq (g2 := F0 mm 225 ls []) rfl ?_
                              have hP : va_P D vwCl [(a 37, aK ta 2 le), (a 27, aS ta 400 gtp), (a 39, aK ta 2 se), (a 36, aK ta 2 ru), (a 41, aS ta 256 gke), (h0, oM a ((le sd) / 4 + 6) mn 0 osz lsz ns ct), (a 8, aZ ta 256 BOX), (a 9, aZ ta 256 UBOX), (a 16, aS ta 240 rk1_85), (a 18, aS ta 16 ce1_222), (a 29, aS ta 416 gb1_222)] H := hP
                              have hD : va_D A [(a 37, aK ta 2 le), (a 27, aS ta 400 gtp), (a 39, aK ta 2 se), (a 36, aK ta 2 ru), (a 41, aS ta 256 gke), (h0, oM a ((le sd) / 4 + 6) mn 0 osz lsz ns ct), (a 8, aZ ta 256 BOX), (a 9, aZ ta 256 UBOX), (a 16, aS ta 240 rk1_85), (a 18, aS ta 16 ce1_222), (a 29, aS ta 416 gb1_222)] := hD
                              refine lv_iconst (pc := 225) (v := nI 0) hx hb dX10_seal_225 (by decide +kernel) ?_
                              refine lv_istore (pc := 226) (lv' := [(7, .int (nI 0)), (6, .int (nI (16 * i))), (5, .int (nI 0)), (4, .int (nI 16)), (3, .int (nI tp)), (0, .ref h0), (1, .int (nI sd)), (2, .int (nI 0))]) hx hb dX10_seal_226 hl (by decide) rfl (fun ls hl => ?_)
                              refine lv_iload (pc := 228) hx hb dX10_seal_228 (lv_at hl 0 rfl) ?_
                              refine lv_iload (pc := 230) hx hb dX10_seal_230 (lv_at hl 3 rfl) ?_
                              refine lv_icmp_ge (pc := 232) (tgt := 282) hx hb dX10_seal_232 (by decide) (fun c_19 => absurd c_19 (by decide)) (fun _ => ?_)
                              refine lv_iload (pc := 235) hx hb dX10_seal_235 (lv_at hl 2 rfl) ?_
                              refine lv_if_ne (pc := 237) (tgt := 282) hx hb dX10_seal_237 (by decide) (fun c_20 => absurd (by decide) c_20) (fun _ => ?_)
                              refine lv_iload_n (pc := 240) hx hb dX10_seal_240 rfl (lv_at hl 7 rfl) ?_
                              refine lv_if_eq (pc := 241) (tgt := 282) hx hb dX10_seal_241 (by decide) (fun _ => ?_) (fun c_21 => absurd (by decide) c_21)
                              refine lv_iload (pc := 282) hx hb dX10_seal_282 (lv_at hl 1 rfl) ?_
                              refine lv_iload (pc := 284) hx hb dX10_seal_284 (lv_at hl 3 rfl) ?_
                              refine lv_iadd (pc := 286) hx hb dX10_seal_286 ?_
                              refine q_top (y := nI (16 * i + 16)) (nI_add (16 * i) 16) ?_
                              refine lv_istore (pc := 287) (lv' := [(6, .int (nI (16 * i + 16))), (7, .int (nI 0)), (5, .int (nI 0)), (4, .int (nI 16)), (3, .int (nI tp)), (0, .ref h0), (1, .int (nI sd)), (2, .int (nI 0))]) hx hb dX10_seal_287 hl (by decide) rfl (fun ls hl => ?_)
                              refine lv_goto (pc := 289) (tgt := 120) hx hb dX10_seal_289 (by decide) ?_
                              exact ih120 (i + 1) gb1_222 ce1_222 (by omega) ((enc_stepY (by decide) (n := tp) (m := tp / 16) (by omega) (by omega) hr hb1 hX hs_222 hfr_222 aes_Elen).1) (by rw [← (enc_stepY (by decide) (n := tp) (m := tp / 16) (by omega) (by omega) hr hb1 hX hs_222 hfr_222 aes_Elen).2, qL_ext]; intro j hj; rw [if_neg (by omega), show 16 * (i + 1) - 16 + j = 16 * i + j by omega]) (by omega) _ _ (hP.sub [7, 9, 0, 1, 10, 2, 3, 5, 6, 8, 4] rfl) (hD.sub [7, 9, 0, 1, 10, 2, 3, 5, 6, 8, 4] (by decide) rfl) hS ls (lv_sub hl [0, 2, 3, 4, 5, 6, 7] rfl)
                            · skip
                              rw [q_le0 (by omega)] at c_17
                              refine lv_aload_n (pc := 150) hx hb dX10_seal_150 rfl (lv_at hl 5 rfl) ?_
                              refine va_get (pc := 151) (D := D) (ci := 8) (v := .ref (a 29)) (C := RX10) (T := TX10) (N := 57) hx hb hts iu10 hown hK hP 7 rfl rfl 29 (by decide) (hts _ tw_1074) (fun _ h9 => h9) rfl dX10_seal_151 ?_
                              refine lv_iload (pc := 154) hx hb dX10_seal_154 (lv_at hl 1 rfl) ?_
                              refine lv_iload (pc := 156) hx hb dX10_seal_156 (lv_at hl 0 rfl) ?_
                              refine lv_iadd (pc := 158) hx hb dX10_seal_158 ?_
                              refine q_top (y := nI (16 * i + d)) (nI_add (16 * i) d) ?_
                              refine lv_dup2_11 (pc := 159) hx hb dX10_seal_159 rfl rfl ?_
                              refine q_bald (pc := 160) hx hb hK hP 4 2 rfl rfl (k := 16 * i + d) (v := qs (y' (16 * i + d))) rfl (by omega) (by omega) rfl dX10_seal_160 ?_
                              refine lv_aload_n (pc := 161) hx hb dX10_seal_161 rfl (lv_at hl 5 rfl) ?_
                              refine va_get (pc := 162) (D := D) (ci := 8) (v := .ref (a 29)) (C := RX10) (T := TX10) (N := 57) hx hb hts iu10 hown hK hP 7 rfl rfl 29 (by decide) (hts _ tw_1074) (fun _ h9 => h9) rfl dX10_seal_162 ?_
                              refine lv_iload (pc := 165) hx hb dX10_seal_165 (lv_at hl 1 rfl) ?_
                              refine lv_iload (pc := 167) hx hb dX10_seal_167 (lv_at hl 3 rfl) ?_
                              refine lv_isub (pc := 169) hx hb dX10_seal_169 ?_
                              refine q_top (y := nI (16 * i - 16)) (pk_sub (a := 16 * i) (b := 16) (by omega)) ?_
                              refine lv_iload (pc := 170) hx hb dX10_seal_170 (lv_at hl 0 rfl) ?_
                              refine lv_iadd (pc := 172) hx hb dX10_seal_172 ?_
                              refine q_top (y := nI (16 * i - 16 + d)) (nI_add (16 * i - 16) d) ?_
                              refine q_bald (pc := 173) hx hb hK hP 4 2 rfl rfl (k := 16 * i - 16 + d) (v := qs (y' (16 * i - 16 + d))) rfl (by omega) (by omega) rfl dX10_seal_173 ?_
                              refine lv_ixor (pc := 174) hx hb dX10_seal_174 ?_
                              refine q_top (y := qs ((y' (16 * i + d)) ^^^ (y' (16 * i - 16 + d)))) (q_xor_s _ _) ?_
                              refine lv_i2b (pc := 175) (v := qs ((y' (16 * i + d)) ^^^ (y' (16 * i - 16 + d)))) hx hb dX10_seal_175 (q_i2b_s _) ?_
                              refine q_bastS (pc := 176) hx hb hK hP hD hS 4 2 rfl rfl (k := 16 * i + d) rfl (by omega) (by omega) (b := (y' (16 * i + d)) ^^^ (y' (16 * i - 16 + d))) (qlo_qs _) dX10_seal_176 (fun H locs hP hD hS => ?_)
                              have hP : va_P D vwCl [(a 9, aZ ta 256 UBOX), (a 18, aS ta 16 e'), (a 37, aK ta 2 le), (a 27, aS ta 400 gtp), (a 29, aS ta 416 (qU y' (16 * i + d) ((y' (16 * i + d)) ^^^ (y' (16 * i - 16 + d))))), (a 39, aK ta 2 se), (a 36, aK ta 2 ru), (h0, oM a ((le sd) / 4 + 6) mn 0 osz lsz ns ct), (a 8, aZ ta 256 BOX), (a 16, aS ta 240 rk1_85), (a 41, aS ta 256 gke)] H := hP
                              have hD : va_D A [(a 9, aZ ta 256 UBOX), (a 18, aS ta 16 e'), (a 37, aK ta 2 le), (a 27, aS ta 400 gtp), (a 29, aS ta 416 (qU y' (16 * i + d) ((y' (16 * i + d)) ^^^ (y' (16 * i - 16 + d))))), (a 39, aK ta 2 se), (a 36, aK ta 2 ru), (h0, oM a ((le sd) / 4 + 6) mn 0 osz lsz ns ct), (a 8, aZ ta 256 BOX), (a 16, aS ta 240 rk1_85), (a 41, aS ta 256 gke)] := hD
                              refine lv_iinc (pc := 177) (v := nI (d + 1)) (lv' := [(7, .int (nI (d + 1))), (6, .int (nI (16 * i))), (5, .int (nI 0)), (4, .int (nI 16)), (3, .int (nI tp)), (0, .ref h0), (1, .int (nI sd)), (2, .int (nI 0))]) hx hb dX10_seal_177 hl (k := 0) rfl (by first | exact nI_add d 1 | rfl) (by decide) rfl (fun ls hl => ?_)
                              refine lv_goto (pc := 180) (tgt := 129) hx hb dX10_seal_180 (by decide) ?_
                              exact ih129 (d + 1) (qU y' (16 * i + d) ((y' (16 * i + d)) ^^^ (y' (16 * i - 16 + d)))) (by omega) (qSeg_s hd rfl (by rw [hd.2 _ (by omega), hd.2 _ (by omega)])) (by omega) _ _ (hP.sub [0, 1, 2, 3, 4, 5, 6, 7, 8, 9, 10] rfl) (hD.sub [0, 1, 2, 3, 4, 5, 6, 7, 8, 9, 10] (by decide) rfl) hS ls (lv_sub hl [0, 1, 2, 3, 4, 5, 6, 7] rfl)
                      exact LP129 _ 0 x' (by omega) (qSeg_0) (Nat.lt_succ_self _) _ _ (hP.sub [0, 1, 2, 3, 4, 5, 6, 7, 8, 9, 10] rfl) (hD.sub [0, 1, 2, 3, 4, 5, 6, 7, 8, 9, 10] (by decide) rfl) hS ls (lv_sub hl [0, 1, 2, 3, 4, 5, 6, 7] rfl)
                exact LP120 _ 0 o0 ce (by omega) (qSeg_0) (zero_row) (Nat.lt_succ_self _) _ _ (hP.sub [0, 1, 2, 3, 4, 5, 6, 7, 8, 9, 10] rfl) (hD.sub [0, 1, 2, 3, 4, 5, 6, 7, 8, 9, 10] (by decide) rfl) hS ls (lv_sub hl [0, 1, 2, 3, 4, 5, 6] rfl)
              · skip
                rw [nI_leI (by omega) (by omega)] at c_7
                refine lv_aload_n (pc := 97) hx hb dX10_seal_97 rfl (lv_at hl 4 rfl) ?_
                refine va_get (pc := 98) (D := D) (ci := 8) (v := .ref (a 29)) (C := RX10) (T := TX10) (N := 57) hx hb hts iu10 hown hK hP 7 rfl rfl 29 (by decide) (hts _ tw_1074) (fun _ h9 => h9) rfl dX10_seal_98 ?_
                refine lv_iload (pc := 101) hx hb dX10_seal_101 (lv_at hl 0 rfl) ?_
                refine lv_aload_n (pc := 103) hx hb dX10_seal_103 rfl (lv_at hl 4 rfl) ?_
                refine va_get (pc := 104) (D := D) (ci := 8) (v := .ref (a 27)) (C := RX10) (T := TX10) (N := 57) hx hb hts iu10 hown hK hP 7 rfl rfl 27 (by decide) (hts _ tw_1072) (fun _ h9 => h9) rfl dX10_seal_104 ?_
                refine lv_iload (pc := 107) hx hb dX10_seal_107 (lv_at hl 0 rfl) ?_
                refine q_bald (pc := 109) hx hb hK hP 3 2 rfl rfl (k := k) (v := qs (gtp k)) rfl (by omega) (by omega) rfl dX10_seal_109 ?_
                refine q_bastS (pc := 110) hx hb hK hP hD hS 4 2 rfl rfl (k := k) rfl (by omega) (by omega) (b := gtp k) (qlo_qs _) dX10_seal_110 (fun H locs hP hD hS => ?_)
                have hP : va_P D vwCl [(a 9, aZ ta 256 UBOX), (a 18, aS ta 16 ce), (a 37, aK ta 2 le), (a 27, aS ta 400 gtp), (a 29, aS ta 416 (qU o0 k (gtp k))), (a 39, aK ta 2 se), (a 36, aK ta 2 ru), (h0, oM a ((le sd) / 4 + 6) mn 0 osz lsz ns ct), (a 8, aZ ta 256 BOX), (a 16, aS ta 240 rk1_85), (a 41, aS ta 256 gke)] H := hP
                have hD : va_D A [(a 9, aZ ta 256 UBOX), (a 18, aS ta 16 ce), (a 37, aK ta 2 le), (a 27, aS ta 400 gtp), (a 29, aS ta 416 (qU o0 k (gtp k))), (a 39, aK ta 2 se), (a 36, aK ta 2 ru), (h0, oM a ((le sd) / 4 + 6) mn 0 osz lsz ns ct), (a 8, aZ ta 256 BOX), (a 16, aS ta 240 rk1_85), (a 41, aS ta 256 gke)] := hD
                refine lv_iinc (pc := 111) (v := nI (k + 1)) (lv' := [(6, .int (nI (k + 1))), (5, .int (nI 0)), (4, .int (nI 16)), (3, .int (nI tp)), (0, .ref h0), (1, .int (nI sd)), (2, .int (nI 0))]) hx hb dX10_seal_111 hl (k := 0) rfl (by first | exact nI_add k 1 | rfl) (by decide) rfl (fun ls hl => ?_)
                refine lv_goto (pc := 114) (tgt := 91) hx hb dX10_seal_114 (by decide) ?_
                exact ih91 (k + 1) (qU o0 k (gtp k)) (by omega) (qSeg_s ho0 (by omega) rfl) (by omega) _ _ (hP.sub [0, 1, 2, 3, 4, 5, 6, 7, 8, 9, 10] rfl) (hD.sub [0, 1, 2, 3, 4, 5, 6, 7, 8, 9, 10] (by decide) rfl) hS ls (lv_sub hl [0, 1, 2, 3, 4, 5, 6] rfl)
          exact LP91 _ 0 gou (by omega) (qSeg_0) (Nat.lt_succ_self _) _ _ (hP.sub [0, 1, 2, 3, 4, 5, 6, 7, 8, 9, 10] rfl) (hD.sub [0, 1, 2, 3, 4, 5, 6, 7, 8, 9, 10] (by decide) rfl) hS ls (lv_sub hl [0, 1, 2, 3, 4, 5, 6] rfl)
        · skip
          rw [nI_eq (by omega) (by omega)] at c_5
          exfalso; omega
      · skip
        rw [q_eq0 (by omega)] at c_4
        exfalso; omega
set_option maxHeartbeats 4000000 in
set_option maxRecDepth 100000 in
theorem ct_X10_seal_31 (ll : Launch) (D : va_G) (ta : Nat → ClassId) {G : (Nat → Prop) → State → Heap → Prop} (hGok : GOK G) (h0 : Nat) (a : Nat → Nat) (ar : Nat) (mn : Nat) (tp : Nat) (osz : Nat) (lsz : Nat) (ns : Nat) (ct : Nat) (rk : Nat → BitVec 8) (ce : Nat → BitVec 8) (gtp : Nat → BitVec 8) (gou : Nat → BitVec 8) (gke : Nat → BitVec 8) (ru : Nat → Nat) (le : Nat → Nat) (se : Nat → Nat) (sd : Nat) (hsd : sd ≤ 1) (htp : 0 < tp ∧ tp ≤ 400 ∧ tp % 16 = 0) (hse : se sd ≠ 0 ∧ se sd ≤ 2) (hru : ru sd = 3) (hle : le sd = 16 ∨ le sd = 24 ∨ le sd = 32) (sz : Nat) : CT ll yX10_seal cX10_seal 8 (some .int) ({ frames := 4, cells := 0, slots := 0, locals := 98 } : Room) D ta G [.ref h0, .int (nI sd), .int (nI 1)] [(h0, oM a ar mn tp osz lsz ns ct), (a 8, aZ ta 256 BOX), (a 9, aZ ta 256 UBOX), (a 16, aS ta 240 rk), (a 18, aS ta 16 ce), (a 37, aK ta 2 le), (a 27, aS ta 400 gtp), (a 29, aS ta 416 gou), (a 41, aS ta 256 gke), (a 36, aK ta 2 ru), (a 39, aK ta 2 se)] sz (S := (Nat → BitVec 8) × (Nat → BitVec 8) × (Nat → BitVec 8)) (fun u => some (.int (nI tp))) (fun u => (qL u.2.2 tp = decL (aesD (seg gke (128 * sd + 96) (le sd))) 16 (zeroL 16) (qL gtp tp))) (fun u => [(h0, oM a (le sd / 4 + 6) mn 0 tp lsz ns ct), (a 8, aZ ta 256 BOX), (a 9, aZ ta 256 UBOX), (a 16, aS ta 240 u.1), (a 18, aS ta 16 u.2.1), (a 37, aK ta 2 le), (a 27, aS ta 400 gtp), (a 29, aS ta 416 u.2.2), (a 41, aS ta 256 gke), (a 36, aK ta 2 ru), (a 39, aK ta 2 se)]) 0 0 := by
  refine CT.of_i (r := fun u => nI tp) rfl (by decide) (Nat.le_of_ble_eq_true rfl) ?_
  intro pp ee ss mm below meth kc A Q hx hb hml hown hin hts hK hA hsz hG hret H locs hP hD hS ls hl
  have hl : lv_has ls 8 [(0, .ref h0), (1, .int (nI sd)), (2, .int (nI 1))] := hl
  refine lv_aload_n (pc := 0) hx hb dX10_seal_0 rfl (lv_at hl 0 rfl) ?_
  refine cs_V (pc := 1) (idx := 310) (n := 0) (wr := [(a 8, aZ ta 256 BOX), (a 9, aZ ta 256 UBOX), (a 16, aS ta 240 rk), (a 18, aS ta 16 ce), (a 37, aK ta 2 le), (a 27, aS ta 400 gtp), (a 29, aS ta 416 gou), (a 41, aS ta 256 gke), (a 36, aK ta 2 ru), (a 39, aK ta 2 se)]) (As := []) (rest := []) (ci := 8) hx hb hml hown hts hGok hK hA hG hl.1 hP hD hS (ct_X10_use ll D ta hGok h0 a ar mn tp osz lsz ns ct  H.size) tw_1254 tw_1251 tw_1253 tw_28 tw_75 hdX10_use rfl ⟨rfl, rfl, Nat.le_of_ble_eq_true rfl, Nat.le_of_ble_eq_true rfl, Nat.le_of_ble_eq_true rfl, Nat.le_of_ble_eq_true rfl⟩ rfl rfl (q0 := 0) rfl [0] [1, 2, 3, 4, 5, 6, 7, 8, 9, 10] rfl rfl (by decide) rfl (Nat.le_of_ble_eq_true rfl) dX10_seal_1 (fun u H locs hq hP hD hS => ?_)
  refine W.eq (g2 := F0 mm 4 ls [.int (nI tp)]) rfl ?_
  have hP : va_P D vwCl [(a 8, aZ ta 256 BOX), (a 9, aZ ta 256 UBOX), (a 16, aS ta 240 rk), (a 18, aS ta 16 ce), (a 37, aK ta 2 le), (a 27, aS ta 400 gtp), (a 29, aS ta 416 gou), (a 41, aS ta 256 gke), (a 36, aK ta 2 ru), (a 39, aK ta 2 se), (h0, oM a ar mn 0 osz lsz ns ct)] H := hP
  have hD : va_D A [(a 8, aZ ta 256 BOX), (a 9, aZ ta 256 UBOX), (a 16, aS ta 240 rk), (a 18, aS ta 16 ce), (a 37, aK ta 2 le), (a 27, aS ta 400 gtp), (a 29, aS ta 416 gou), (a 41, aS ta 256 gke), (a 36, aK ta 2 ru), (a 39, aK ta 2 se), (h0, oM a ar mn 0 osz lsz ns ct)] := hD
  refine lv_istore_n (pc := 4) (lv' := [(3, .int (nI tp)), (0, .ref h0), (1, .int (nI sd)), (2, .int (nI 1))]) hx hb dX10_seal_4 rfl hl (by decide) rfl (fun ls hl => ?_)
  refine lv_iload_n (pc := 5) hx hb dX10_seal_5 rfl (lv_at hl 2 rfl) ?_
  refine cs_S (pc := 6) (idx := 314) (n := 1) (wr := [(a 8, aZ ta 256 BOX), (a 9, aZ ta 256 UBOX), (a 16, aS ta 240 rk), (a 18, aS ta 16 ce), (a 37, aK ta 2 le), (a 27, aS ta 400 gtp), (a 29, aS ta 416 gou), (a 41, aS ta 256 gke), (a 36, aK ta 2 ru), (a 39, aK ta 2 se), (h0, oM a ar mn 0 osz lsz ns ct)]) (As := [.int (nI sd)]) (rest := []) hx hb hml hown hts hGok hK hA hG hl.1 hP hD hS (ct_X10_isSide_s ll D ta hGok sd (by first | assumption | omega | rfl | decide) H.size) tw_1261 tw_1259 tw_1260 tw_75 hdX10_isSide rfl ⟨rfl, rfl, Nat.le_of_ble_eq_true rfl, Nat.le_of_ble_eq_true rfl, Nat.le_of_ble_eq_true rfl, Nat.le_of_ble_eq_true rfl⟩ [] [0, 1, 2, 3, 4, 5, 6, 7, 8, 9, 10] rfl rfl (by decide) rfl (Nat.le_of_ble_eq_true rfl) dX10_seal_6 (fun u H locs hq hP hD hS => ?_)
  refine W.eq (g2 := F0 mm 9 ls [.int (qb true)]) rfl ?_
  have hP : va_P D vwCl [(a 8, aZ ta 256 BOX), (a 9, aZ ta 256 UBOX), (a 16, aS ta 240 rk), (a 18, aS ta 16 ce), (a 37, aK ta 2 le), (a 27, aS ta 400 gtp), (a 29, aS ta 416 gou), (a 41, aS ta 256 gke), (a 36, aK ta 2 ru), (a 39, aK ta 2 se), (h0, oM a ar mn 0 osz lsz ns ct)] H := hP
  have hD : va_D A [(a 8, aZ ta 256 BOX), (a 9, aZ ta 256 UBOX), (a 16, aS ta 240 rk), (a 18, aS ta 16 ce), (a 37, aK ta 2 le), (a 27, aS ta 400 gtp), (a 29, aS ta 416 gou), (a 41, aS ta 256 gke), (a 36, aK ta 2 ru), (a 39, aK ta 2 se), (h0, oM a ar mn 0 osz lsz ns ct)] := hD
  refine lv_if_eq (pc := 9) (tgt := 35) hx hb dX10_seal_9 (by decide) (fun c_1 => absurd c_1 (by decide)) (fun _ => ?_)
  refine lv_aload_n (pc := 12) hx hb dX10_seal_12 rfl (lv_at hl 1 rfl) ?_
  refine va_get (pc := 13) (D := D) (ci := 8) (v := .ref (a 39)) (C := RX10) (T := TX10) (N := 57) hx hb hts iu10 hown hK hP 10 rfl rfl 39 (by decide) (hts _ tw_1084) (fun _ h9 => h9) rfl dX10_seal_13 ?_
  refine lv_iload_n (pc := 16) hx hb dX10_seal_16 rfl (lv_at hl 2 rfl) ?_
  refine q_iald (pc := 17) hx hb hK hP 9 0 rfl rfl (k := sd) (v := nI (se sd)) rfl (by omega) (by omega) rfl dX10_seal_17 ?_
  refine lv_if_eq (pc := 18) (tgt := 35) hx hb dX10_seal_18 (by decide) (fun c_2 => ?_) (fun c_2 => ?_)
  · skip
    rw [q_eq0 (by omega)] at c_2
    exfalso; omega
  · skip
    rw [q_eq0 (by omega)] at c_2
    refine lv_iload_n (pc := 21) hx hb dX10_seal_21 rfl (lv_at hl 0 rfl) ?_
    refine lv_if_eq (pc := 22) (tgt := 35) hx hb dX10_seal_22 (by decide) (fun c_3 => ?_) (fun c_3 => ?_)
    · skip
      rw [q_eq0 (by omega)] at c_3
      exfalso; omega
    · skip
      rw [q_eq0 (by omega)] at c_3
      refine lv_iload_n (pc := 25) hx hb dX10_seal_25 rfl (lv_at hl 0 rfl) ?_
      refine lv_aload_n (pc := 26) hx hb dX10_seal_26 rfl (lv_at hl 1 rfl) ?_
      refine lv_iload_n (pc := 27) hx hb dX10_seal_27 rfl (lv_at hl 2 rfl) ?_
      refine cs_V (pc := 28) (idx := 368) (n := 1) (wr := [(a 8, aZ ta 256 BOX), (a 9, aZ ta 256 UBOX), (a 16, aS ta 240 rk), (a 18, aS ta 16 ce), (a 37, aK ta 2 le), (a 27, aS ta 400 gtp), (a 29, aS ta 416 gou), (a 41, aS ta 256 gke), (a 39, aK ta 2 se)]) (As := [.int (nI sd)]) (rest := [.int (nI tp)]) (ci := 8) hx hb hml hown hts hGok hK hA hG hl.1 hP hD hS (ct_X10_blockOf_3 ll D ta hGok h0 a ar mn 0 osz lsz ns ct ru sd (by first | assumption | omega | rfl | decide) (by first | assumption | omega | rfl | decide) H.size) tw_1392 tw_1389 tw_1391 tw_54 tw_75 hdX10_blockOf rfl ⟨rfl, rfl, Nat.le_of_ble_eq_true rfl, Nat.le_of_ble_eq_true rfl, Nat.le_of_ble_eq_true rfl, Nat.le_of_ble_eq_true rfl⟩ rfl rfl (q0 := 10) rfl [10, 8] [0, 1, 2, 3, 4, 5, 6, 7, 9] rfl rfl (by decide) rfl (Nat.le_of_ble_eq_true rfl) dX10_seal_28 (fun u H locs hq hP hD hS => ?_)
      refine W.eq (g2 := F0 mm 31 ls [.int (nI 16), .int (nI tp)]) rfl ?_
      have hP : va_P D vwCl [(a 8, aZ ta 256 BOX), (a 9, aZ ta 256 UBOX), (a 16, aS ta 240 rk), (a 18, aS ta 16 ce), (a 37, aK ta 2 le), (a 27, aS ta 400 gtp), (a 29, aS ta 416 gou), (a 41, aS ta 256 gke), (a 39, aK ta 2 se), (h0, oM a ar mn 0 osz lsz ns ct), (a 36, aK ta 2 ru)] H := hP
      have hD : va_D A [(a 8, aZ ta 256 BOX), (a 9, aZ ta 256 UBOX), (a 16, aS ta 240 rk), (a 18, aS ta 16 ce), (a 37, aK ta 2 le), (a 27, aS ta 400 gtp), (a 29, aS ta 416 gou), (a 41, aS ta 256 gke), (a 39, aK ta 2 se), (h0, oM a ar mn 0 osz lsz ns ct), (a 36, aK ta 2 ru)] := hD
      refine lv_irem (pc := 31) hx hb dX10_seal_31 (q_ne0 (by omega) (by omega)) ?_
      refine q_top (y := nI (tp % 16)) (pk_rem (by omega) (by omega) (by omega)) ?_
      refine lv_if_eq (pc := 32) (tgt := 37) hx hb dX10_seal_32 (by decide) (fun c_4 => ?_) (fun c_4 => ?_)
      · skip
        rw [q_eq0 (by omega)] at c_4
        refine lv_aload_n (pc := 37) hx hb dX10_seal_37 rfl (lv_at hl 1 rfl) ?_
        refine lv_iload_n (pc := 38) hx hb dX10_seal_38 rfl (lv_at hl 2 rfl) ?_
        refine cs_V (pc := 39) (idx := 368) (n := 1) (wr := [(a 8, aZ ta 256 BOX), (a 9, aZ ta 256 UBOX), (a 16, aS ta 240 rk), (a 18, aS ta 16 ce), (a 37, aK ta 2 le), (a 27, aS ta 400 gtp), (a 29, aS ta 416 gou), (a 41, aS ta 256 gke), (a 39, aK ta 2 se)]) (As := [.int (nI sd)]) (rest := []) (ci := 8) hx hb hml hown hts hGok hK hA hG hl.1 hP hD hS (ct_X10_blockOf_3 ll D ta hGok h0 a ar mn 0 osz lsz ns ct ru sd (by first | assumption | omega | rfl | decide) (by first | assumption | omega | rfl | decide) H.size) tw_1392 tw_1389 tw_1391 tw_54 tw_75 hdX10_blockOf rfl ⟨rfl, rfl, Nat.le_of_ble_eq_true rfl, Nat.le_of_ble_eq_true rfl, Nat.le_of_ble_eq_true rfl, Nat.le_of_ble_eq_true rfl⟩ rfl rfl (q0 := 9) rfl [9, 10] [0, 1, 2, 3, 4, 5, 6, 7, 8] rfl rfl (by decide) rfl (Nat.le_of_ble_eq_true rfl) dX10_seal_39 (fun u H locs hq hP hD hS => ?_)
        refine W.eq (g2 := F0 mm 42 ls [.int (nI 16)]) rfl ?_
        have hP : va_P D vwCl [(a 8, aZ ta 256 BOX), (a 9, aZ ta 256 UBOX), (a 16, aS ta 240 rk), (a 18, aS ta 16 ce), (a 37, aK ta 2 le), (a 27, aS ta 400 gtp), (a 29, aS ta 416 gou), (a 41, aS ta 256 gke), (a 39, aK ta 2 se), (h0, oM a ar mn 0 osz lsz ns ct), (a 36, aK ta 2 ru)] H := hP
        have hD : va_D A [(a 8, aZ ta 256 BOX), (a 9, aZ ta 256 UBOX), (a 16, aS ta 240 rk), (a 18, aS ta 16 ce), (a 37, aK ta 2 le), (a 27, aS ta 400 gtp), (a 29, aS ta 416 gou), (a 41, aS ta 256 gke), (a 39, aK ta 2 se), (h0, oM a ar mn 0 osz lsz ns ct), (a 36, aK ta 2 ru)] := hD
        refine lv_istore (pc := 42) (lv' := [(4, .int (nI 16)), (3, .int (nI tp)), (0, .ref h0), (1, .int (nI sd)), (2, .int (nI 1))]) hx hb dX10_seal_42 hl (by decide) rfl (fun ls hl => ?_)
        refine lv_aload_n (pc := 44) hx hb dX10_seal_44 rfl (lv_at hl 2 rfl) ?_
        refine va_get (pc := 45) (D := D) (ci := 8) (v := .ref (a 36)) (C := RX10) (T := TX10) (N := 57) hx hb hts iu10 hown hK hP 9 rfl rfl 36 (by decide) (hts _ tw_1081) (fun _ h9 => h9) rfl dX10_seal_45 ?_
        refine lv_iload_n (pc := 48) hx hb dX10_seal_48 rfl (lv_at hl 3 rfl) ?_
        refine q_iald (pc := 49) hx hb hK hP 10 0 rfl rfl (k := sd) (v := nI (ru sd)) rfl (by omega) (by omega) rfl dX10_seal_49 ?_
        refine lv_iconst (pc := 50) (v := nI 2) hx hb dX10_seal_50 (by decide +kernel) ?_
        refine lv_icmp_ne (pc := 51) (tgt := 58) hx hb dX10_seal_51 (by decide) (fun c_5 => ?_) (fun c_5 => ?_)
        · skip
          rw [nI_eq (by omega) (by omega)] at c_5
          refine lv_iconst (pc := 58) (v := nI 0) hx hb dX10_seal_58 (by decide +kernel) ?_
          refine lv_istore (pc := 59) (lv' := [(5, .int (nI 0)), (4, .int (nI 16)), (3, .int (nI tp)), (0, .ref h0), (1, .int (nI sd)), (2, .int (nI 1))]) hx hb dX10_seal_59 hl (by decide) rfl (fun ls hl => ?_)
          refine lv_iload (pc := 61) hx hb dX10_seal_61 (lv_at hl 0 rfl) ?_
          refine lv_if_ne (pc := 63) (tgt := 88) hx hb dX10_seal_63 (by decide) (fun c_6 => absurd (by decide) c_6) (fun _ => ?_)
          refine lv_aload_n (pc := 66) hx hb dX10_seal_66 rfl (lv_at hl 3 rfl) ?_
          refine lv_aload_n (pc := 67) hx hb dX10_seal_67 rfl (lv_at hl 3 rfl) ?_
          refine va_get (pc := 68) (D := D) (ci := 8) (v := .ref (a 41)) (C := RX10) (T := TX10) (N := 57) hx hb hts iu10 hown hK hP 9 rfl rfl 41 (by decide) (hts _ tw_1086) (fun _ h9 => h9) rfl dX10_seal_68 ?_
          refine lv_sipush (pc := 71) (v := nI 128) hx hb dX10_seal_71 (by decide +kernel) ?_
          refine lv_iload_n (pc := 74) hx hb dX10_seal_74 rfl (lv_at hl 4 rfl) ?_
          refine lv_imul (pc := 75) hx hb dX10_seal_75 ?_
          refine q_top (y := nI (128 * sd)) (pk_mul 128 sd) ?_
          refine lv_bipush (pc := 76) (v := nI 96) hx hb dX10_seal_76 (by decide +kernel) ?_
          refine lv_iadd (pc := 78) hx hb dX10_seal_78 ?_
          refine q_top (y := nI (128 * sd + 96)) (nI_add (128 * sd) 96) ?_
          refine lv_aload_n (pc := 79) hx hb dX10_seal_79 rfl (lv_at hl 3 rfl) ?_
          refine va_get (pc := 80) (D := D) (ci := 8) (v := .ref (a 37)) (C := RX10) (T := TX10) (N := 57) hx hb hts iu10 hown hK hP 9 rfl rfl 37 (by decide) (hts _ tw_1082) (fun _ h9 => h9) rfl dX10_seal_80 ?_
          refine lv_iload_n (pc := 83) hx hb dX10_seal_83 rfl (lv_at hl 4 rfl) ?_
          refine q_iald (pc := 84) hx hb hK hP 4 0 rfl rfl (k := sd) (v := nI (le sd)) rfl (by omega) (by omega) rfl dX10_seal_84 ?_
          refine cs_V (pc := 85) (idx := 100) (n := 3) (wr := [(a 9, aZ ta 256 UBOX), (a 18, aS ta 16 ce), (a 37, aK ta 2 le), (a 27, aS ta 400 gtp), (a 29, aS ta 416 gou), (a 39, aK ta 2 se), (a 36, aK ta 2 ru)]) (As := [.ref (a 41), .int (nI (128 * sd + 96)), .int (nI (le sd))]) (rest := []) (ci := 8) hx hb hml hown hts hGok hK hA hG hl.1 hP hD hS (ct_X10_aesKeyL ll D ta hGok h0 a ar mn 0 osz lsz ns ct (a 41) (128 * sd + 96) 256 gke rk (le sd) (by first | assumption | omega | rfl | decide) (by first | assumption | omega | rfl | decide) (by first | assumption | omega | rfl | decide) H.size) tw_1338 tw_1335 tw_1337 tw_44 tw_75 hdX10_aesKey rfl ⟨rfl, rfl, Nat.le_of_ble_eq_true rfl, Nat.le_of_ble_eq_true rfl, Nat.le_of_ble_eq_true rfl, Nat.le_of_ble_eq_true rfl⟩ rfl rfl (q0 := 9) rfl [9, 0, 2, 7] [1, 3, 4, 5, 6, 8, 10] rfl rfl (by decide) rfl (Nat.le_of_ble_eq_true rfl) dX10_seal_85 (fun u H locs hq hP hD hS => ?_)
          generalize u = rk1_85 at hq hP hD ⊢
          have hq : (rkOK rk1_85 (seg gke (128 * sd + 96) (le sd))) := hq
          have hs_85 := hq
          refine W.eq (g2 := F0 mm 88 ls []) rfl ?_
          have hP : va_P D vwCl [(a 9, aZ ta 256 UBOX), (a 18, aS ta 16 ce), (a 37, aK ta 2 le), (a 27, aS ta 400 gtp), (a 29, aS ta 416 gou), (a 39, aK ta 2 se), (a 36, aK ta 2 ru), (h0, oM a ((le sd) / 4 + 6) mn 0 osz lsz ns ct), (a 8, aZ ta 256 BOX), (a 16, aS ta 240 rk1_85), (a 41, aS ta 256 gke)] H := hP
          have hD : va_D A [(a 9, aZ ta 256 UBOX), (a 18, aS ta 16 ce), (a 37, aK ta 2 le), (a 27, aS ta 400 gtp), (a 29, aS ta 416 gou), (a 39, aK ta 2 se), (a 36, aK ta 2 ru), (h0, oM a ((le sd) / 4 + 6) mn 0 osz lsz ns ct), (a 8, aZ ta 256 BOX), (a 16, aS ta 240 rk1_85), (a 41, aS ta 256 gke)] := hD
          refine lv_iconst (pc := 88) (v := nI 0) hx hb dX10_seal_88 (by decide +kernel) ?_
          refine lv_istore (pc := 89) (lv' := [(6, .int (nI 0)), (5, .int (nI 0)), (4, .int (nI 16)), (3, .int (nI tp)), (0, .ref h0), (1, .int (nI sd)), (2, .int (nI 1))]) hx hb dX10_seal_89 hl (by decide) rfl (fun ls hl => ?_)
          have LP91 : ∀ (nn91 : Nat) (k : Nat) (o0 : Nat → BitVec 8), (k ≤ tp) → (qSeg o0 gou 0 k gtp) → (tp - k < nn91) → ∀ (H : Heap) (locs : List Loc), va_P D vwCl [(a 9, aZ ta 256 UBOX), (a 18, aS ta 16 ce), (a 37, aK ta 2 le), (a 27, aS ta 400 gtp), (a 29, aS ta 416 o0), (a 39, aK ta 2 se), (a 36, aK ta 2 ru), (h0, oM a ((le sd) / 4 + 6) mn 0 osz lsz ns ct), (a 8, aZ ta 256 BOX), (a 16, aS ta 240 rk1_85), (a 41, aS ta 256 gke)] H → va_D A [(a 9, aZ ta 256 UBOX), (a 18, aS ta 16 ce), (a 37, aK ta 2 le), (a 27, aS ta 400 gtp), (a 29, aS ta 416 o0), (a 39, aK ta 2 se), (a 36, aK ta 2 ru), (h0, oM a ((le sd) / 4 + 6) mn 0 osz lsz ns ct), (a 8, aZ ta 256 BOX), (a 16, aS ta 240 rk1_85), (a 41, aS ta 256 gke)] → va_S A ss.heap H locs → ∀ ls : Array Slot, lv_has ls 8 [(6, .int (nI k)), (5, .int (nI 0)), (4, .int (nI 16)), (3, .int (nI tp)), (0, .ref h0), (1, .int (nI sd)), (2, .int (nI 1))] → W pp ll ee ({ frames := 4, cells := 0, slots := 0, locals := 98 } : Room) ss mm (([.ref h0, .int (nI sd), .int (nI 1)] : List Value).toArray) below meth kc H locs 0 0 Q (F0 mm 91 ls []) := by
            intro nn91
            induction nn91 with
            | zero => intro k o0 hkk ho0 hmu; exact absurd hmu (Nat.not_lt_zero _)
            | succ nn91 ih91 =>
              intro k o0 hkk ho0 hmu91 H locs hP hD hS ls hl
              refine lv_iload (pc := 91) hx hb dX10_seal_91 (lv_at hl 0 rfl) ?_
              refine lv_iload_n (pc := 93) hx hb dX10_seal_93 rfl (lv_at hl 3 rfl) ?_
              refine lv_icmp_ge (pc := 94) (tgt := 117) hx hb dX10_seal_94 (by decide) (fun c_7 => ?_) (fun c_7 => ?_)
              · skip
                rw [nI_leI (by omega) (by omega)] at c_7
                refine lv_iconst (pc := 117) (v := nI 0) hx hb dX10_seal_117 (by decide +kernel) ?_
                refine lv_istore (pc := 118) (lv' := [(6, .int (nI 0)), (5, .int (nI 0)), (4, .int (nI 16)), (3, .int (nI tp)), (0, .ref h0), (1, .int (nI sd)), (2, .int (nI 1))]) hx hb dX10_seal_118 hl (by decide) rfl (fun ls hl => ?_)
                have LP120 : ∀ (nn120 : Nat) (i : Nat) (x' : Nat → BitVec 8) (e' : Nat → BitVec 8), (16 * i ≤ tp) → (qSeg x' o0 0 (16 * i) (decF (aesD (seg gke (128 * sd + 96) (le sd))) 16 (zeroL 16) (qL o0 tp))) → (qL (fun j => if i = 0 then 0#8 else gtp (16 * i - 16 + j)) 16 = if i = 0 then zeroL 16 else seg o0 (16 * (i - 1)) 16) → (tp - 16 * i < nn120) → ∀ (H : Heap) (locs : List Loc), va_P D vwCl [(a 9, aZ ta 256 UBOX), (a 18, aS ta 16 e'), (a 37, aK ta 2 le), (a 27, aS ta 400 gtp), (a 29, aS ta 416 x'), (a 39, aK ta 2 se), (a 36, aK ta 2 ru), (h0, oM a ((le sd) / 4 + 6) mn 0 osz lsz ns ct), (a 8, aZ ta 256 BOX), (a 16, aS ta 240 rk1_85), (a 41, aS ta 256 gke)] H → va_D A [(a 9, aZ ta 256 UBOX), (a 18, aS ta 16 e'), (a 37, aK ta 2 le), (a 27, aS ta 400 gtp), (a 29, aS ta 416 x'), (a 39, aK ta 2 se), (a 36, aK ta 2 ru), (h0, oM a ((le sd) / 4 + 6) mn 0 osz lsz ns ct), (a 8, aZ ta 256 BOX), (a 16, aS ta 240 rk1_85), (a 41, aS ta 256 gke)] → va_S A ss.heap H locs → ∀ ls : Array Slot, lv_has ls 8 [(6, .int (nI (16 * i))), (5, .int (nI 0)), (4, .int (nI 16)), (3, .int (nI tp)), (0, .ref h0), (1, .int (nI sd)), (2, .int (nI 1))] → W pp ll ee ({ frames := 4, cells := 0, slots := 0, locals := 98 } : Room) ss mm (([.ref h0, .int (nI sd), .int (nI 1)] : List Value).toArray) below meth kc H locs 0 0 Q (F0 mm 120 ls []) := by
                  intro nn120
                  induction nn120 with
                  | zero => intro i x' e' hii hr hb1 hmu; exact absurd hmu (Nat.not_lt_zero _)
                  | succ nn120 ih120 =>
                    intro i x' e' hii hr hb1 hmu120 H locs hP hD hS ls hl
                    refine lv_iload (pc := 120) hx hb dX10_seal_120 (lv_at hl 0 rfl) ?_
                    refine lv_iload_n (pc := 122) hx hb dX10_seal_122 rfl (lv_at hl 3 rfl) ?_
                    refine lv_icmp_ge (pc := 123) (tgt := 292) hx hb dX10_seal_123 (by decide) (fun c_8 => ?_) (fun c_8 => ?_)
                    · skip
                      rw [nI_leI (by omega) (by omega)] at c_8
                      refine lv_aload_n (pc := 292) hx hb dX10_seal_292 rfl (lv_at hl 4 rfl) ?_
                      refine lv_iload_n (pc := 293) hx hb dX10_seal_293 rfl (lv_at hl 3 rfl) ?_
                      refine va_put (pc := 294) (D := D) (ci := 8) (v := .int (nI tp)) (ty := .int) (C := RX10) (T := TX10) (N := 57) hx hb hts iu10 tyX10 tyX10_ok nmX10 hown hK hP hD hS 7 rfl rfl 30 (by decide) (hts _ tw_1075) (fun _ h9 => h9) rfl (by decide +kernel) rfl rfl (Nat.le_of_ble_eq_true rfl) dX10_seal_294 (fun H locs hP hD hS => ?_)
                      have hP : va_P D vwCl [(a 9, aZ ta 256 UBOX), (a 18, aS ta 16 e'), (a 37, aK ta 2 le), (a 27, aS ta 400 gtp), (a 29, aS ta 416 x'), (a 39, aK ta 2 se), (a 36, aK ta 2 ru), (h0, oM a ((le sd) / 4 + 6) mn 0 tp lsz ns ct), (a 8, aZ ta 256 BOX), (a 16, aS ta 240 rk1_85), (a 41, aS ta 256 gke)] H := hP
                      have hD : va_D A [(a 9, aZ ta 256 UBOX), (a 18, aS ta 16 e'), (a 37, aK ta 2 le), (a 27, aS ta 400 gtp), (a 29, aS ta 416 x'), (a 39, aK ta 2 se), (a 36, aK ta 2 ru), (h0, oM a ((le sd) / 4 + 6) mn 0 tp lsz ns ct), (a 8, aZ ta 256 BOX), (a 16, aS ta 240 rk1_85), (a 41, aS ta 256 gke)] := hD
                      refine lv_iload_n (pc := 297) hx hb dX10_seal_297 rfl (lv_at hl 3 rfl) ?_
                      have hq_9 : (qL x' tp = decL (aesD (seg gke (128 * sd + 96) (le sd))) 16 (zeroL 16) (qL gtp tp)) := by
                        have ho9 : qL o0 tp = qL gtp tp := by rw [← seg_0, seg_copy0 ho0 (by omega)]
                        rw [← ho9, decL, qL_len, ← seg_0, qSeg_segk hr (by omega)]
                      exact hret (⟨(rk1_85), (e'), (x')⟩ : (Nat → BitVec 8) × (Nat → BitVec 8) × (Nat → BitVec 8)) _ _ _ _ dX10_seal_298 hq_9 (hP.sub [7, 8, 0, 9, 1, 2, 3, 4, 10, 6, 5] rfl) (hD.sub [7, 8, 0, 9, 1, 2, 3, 4, 10, 6, 5] (by decide) rfl) hS
                    · skip
                      rw [nI_leI (by omega) (by omega)] at c_8
                      refine lv_iconst (pc := 126) (v := nI 0) hx hb dX10_seal_126 (by decide +kernel) ?_
                      refine lv_istore (pc := 127) (lv' := [(7, .int (nI 0)), (6, .int (nI (16 * i))), (5, .int (nI 0)), (4, .int (nI 16)), (3, .int (nI tp)), (0, .ref h0), (1, .int (nI sd)), (2, .int (nI 1))]) hx hb dX10_seal_127 hl (by decide) rfl (fun ls hl => ?_)
                      refine lv_iload (pc := 129) hx hb dX10_seal_129 (lv_at hl 0 rfl) ?_
                      refine lv_iload (pc := 131) hx hb dX10_seal_131 (lv_at hl 3 rfl) ?_
                      refine lv_icmp_ge (pc := 133) (tgt := 183) hx hb dX10_seal_133 (by decide) (fun c_10 => absurd c_10 (by decide)) (fun _ => ?_)
                      refine lv_iload (pc := 136) hx hb dX10_seal_136 (lv_at hl 2 rfl) ?_
                      refine lv_if_ne (pc := 138) (tgt := 183) hx hb dX10_seal_138 (by decide) (fun c_11 => absurd (by decide) c_11) (fun _ => ?_)
                      refine lv_iload_n (pc := 141) hx hb dX10_seal_141 rfl (lv_at hl 7 rfl) ?_
                      refine lv_if_ne (pc := 142) (tgt := 183) hx hb dX10_seal_142 (by decide) (fun _ => ?_) (fun c_12 => absurd c_12 (by decide))
                      refine lv_iload (pc := 183) hx hb dX10_seal_183 (lv_at hl 2 rfl) ?_
                      refine lv_if_eq (pc := 185) (tgt := 214) hx hb dX10_seal_185 (by decide) (fun _ => ?_) (fun c_13 => absurd (by decide) c_13)
                      refine lv_aload_n (pc := 214) hx hb dX10_seal_214 rfl (lv_at hl 5 rfl) ?_
                      refine lv_aload_n (pc := 215) hx hb dX10_seal_215 rfl (lv_at hl 5 rfl) ?_
                      refine va_get (pc := 216) (D := D) (ci := 8) (v := .ref (a 29)) (C := RX10) (T := TX10) (N := 57) hx hb hts iu10 hown hK hP 7 rfl rfl 29 (by decide) (hts _ tw_1074) (fun _ h9 => h9) rfl dX10_seal_216 ?_
                      refine lv_iload (pc := 219) hx hb dX10_seal_219 (lv_at hl 1 rfl) ?_
                      refine lv_iload_n (pc := 221) hx hb dX10_seal_221 rfl (lv_at hl 7 rfl) ?_
                      refine cs_V (pc := 222) (idx := 106) (n := 3) (wr := [(a 37, aK ta 2 le), (a 27, aS ta 400 gtp), (a 39, aK ta 2 se), (a 36, aK ta 2 ru), (a 41, aS ta 256 gke)]) (As := [.ref (a 29), .int (nI (16 * i)), .int (nI 1)]) (rest := []) (ci := 8) hx hb hml hown hts hGok hK hA hG hl.1 hP hD hS (ct_X10_aes_bL ll D ta hGok h0 a mn 0 osz lsz ns ct (a 29) (16 * i) 416 x' e' rk1_85 (le sd) ((seg gke (128 * sd + 96) (le sd))) (by first | assumption | omega | rfl | decide) (by first | assumption | omega | rfl | decide) (hle) (seg_len) (hs_85) H.size) tw_1342 tw_1339 tw_1341 tw_45 tw_75 hdX10_aes rfl ⟨rfl, rfl, Nat.le_of_ble_eq_true rfl, Nat.le_of_ble_eq_true rfl, Nat.le_of_ble_eq_true rfl, Nat.le_of_ble_eq_true rfl⟩ rfl rfl (q0 := 7) rfl [7, 8, 0, 9, 1, 4] [2, 3, 5, 6, 10] rfl rfl (by decide) rfl (Nat.le_of_ble_eq_true rfl) dX10_seal_222 (fun u H locs hq hP hD hS => ?_)
                      obtain ⟨gb1_222, ce1_222⟩ := u
                      have hq : (seg gb1_222 (16 * i) 16 = aesD ((seg gke (128 * sd + 96) (le sd))) (seg x' (16 * i) 16)) ∧ (∀ jz, (jz < (16 * i) ∨ (16 * i) + 16 ≤ jz) → gb1_222 jz = x' jz) := hq
                      obtain ⟨hs_222, hfr_222⟩ := hq
                      refine W.eq (g2 := F0 mm 225 ls []) rfl ?_
                      have hP : va_P D vwCl [(a 37, aK ta 2 le), (a 27, aS ta 400 gtp), (a 39, aK ta 2 se), (a 36, aK ta 2 ru), (a 41, aS ta 256 gke), (h0, oM a ((le sd) / 4 + 6) mn 0 osz lsz ns ct), (a 8, aZ ta 256 BOX), (a 9, aZ ta 256 UBOX), (a 16, aS ta 240 rk1_85), (a 18, aS ta 16 ce1_222), (a 29, aS ta 416 gb1_222)] H := hP
                      have hD : va_D A [(a 37, aK ta 2 le), (a 27, aS ta 400 gtp), (a 39, aK ta 2 se), (a 36, aK ta 2 ru), (a 41, aS ta 256 gke), (h0, oM a ((le sd) / 4 + 6) mn 0 osz lsz ns ct), (a 8, aZ ta 256 BOX), (a 9, aZ ta 256 UBOX), (a 16, aS ta 240 rk1_85), (a 18, aS ta 16 ce1_222), (a 29, aS ta 416 gb1_222)] := hD
                      refine lv_iconst (pc := 225) (v := nI 0) hx hb dX10_seal_225 (by decide +kernel) ?_
                      refine lv_istore (pc := 226) (lv' := [(7, .int (nI 0)), (6, .int (nI (16 * i))), (5, .int (nI 0)), (4, .int (nI 16)), (3, .int (nI tp)), (0, .ref h0), (1, .int (nI sd)), (2, .int (nI 1))]) hx hb dX10_seal_226 hl (by decide) rfl (fun ls hl => ?_)
                      have LP228 : ∀ (nn228 : Nat) (d : Nat) (y' : Nat → BitVec 8), (d ≤ 16 ∧ (i = 0 → d = 0)) → (qSeg y' gb1_222 (16 * i) d (fun j => gb1_222 (16 * i + j) ^^^ gtp (16 * i - 16 + j))) → (16 - d < nn228) → ∀ (H : Heap) (locs : List Loc), va_P D vwCl [(a 37, aK ta 2 le), (a 27, aS ta 400 gtp), (a 39, aK ta 2 se), (a 36, aK ta 2 ru), (a 41, aS ta 256 gke), (h0, oM a ((le sd) / 4 + 6) mn 0 osz lsz ns ct), (a 8, aZ ta 256 BOX), (a 9, aZ ta 256 UBOX), (a 16, aS ta 240 rk1_85), (a 18, aS ta 16 ce1_222), (a 29, aS ta 416 y')] H → va_D A [(a 37, aK ta 2 le), (a 27, aS ta 400 gtp), (a 39, aK ta 2 se), (a 36, aK ta 2 ru), (a 41, aS ta 256 gke), (h0, oM a ((le sd) / 4 + 6) mn 0 osz lsz ns ct), (a 8, aZ ta 256 BOX), (a 9, aZ ta 256 UBOX), (a 16, aS ta 240 rk1_85), (a 18, aS ta 16 ce1_222), (a 29, aS ta 416 y')] → va_S A ss.heap H locs → ∀ ls : Array Slot, lv_has ls 8 [(7, .int (nI d)), (6, .int (nI (16 * i))), (5, .int (nI 0)), (4, .int (nI 16)), (3, .int (nI tp)), (0, .ref h0), (1, .int (nI sd)), (2, .int (nI 1))] → W pp ll ee ({ frames := 4, cells := 0, slots := 0, locals := 98 } : Room) ss mm (([.ref h0, .int (nI sd), .int (nI 1)] : List Value).toArray) below meth kc H locs 0 0 Q (F0 mm 228 ls []) := by
                        intro nn228
                        induction nn228 with
                        | zero => intro d y' hdd hd hmu; exact absurd hmu (Nat.not_lt_zero _)
                        | succ nn228 ih228 =>
                          intro d y' hdd hd hmu228 H locs hP hD hS ls hl
                          refine lv_iload (pc := 228) hx hb dX10_seal_228 (lv_at hl 0 rfl) ?_
                          refine lv_iload (pc := 230) hx hb dX10_seal_230 (lv_at hl 3 rfl) ?_
                          refine lv_icmp_ge (pc := 232) (tgt := 282) hx hb dX10_seal_232 (by decide) (fun c_14 => ?_) (fun c_14 => ?_)
                          · skip
                            rw [nI_leI (by omega) (by omega)] at c_14
                            have hZ : qSeg y' gb1_222 (16 * i) 16 (fun j => gb1_222 (16 * i + j) ^^^ (if i = 0 then 0#8 else gtp (16 * i - 16 + j))) := xor_prev (d := d) (by omega) hd
                            refine lv_iload (pc := 282) hx hb dX10_seal_282 (lv_at hl 1 rfl) ?_
                            refine lv_iload (pc := 284) hx hb dX10_seal_284 (lv_at hl 3 rfl) ?_
                            refine lv_iadd (pc := 286) hx hb dX10_seal_286 ?_
                            refine q_top (y := nI (16 * i + 16)) (nI_add (16 * i) 16) ?_
                            refine lv_istore (pc := 287) (lv' := [(6, .int (nI (16 * i + 16))), (7, .int (nI d)), (5, .int (nI 0)), (4, .int (nI 16)), (3, .int (nI tp)), (0, .ref h0), (1, .int (nI sd)), (2, .int (nI 1))]) hx hb dX10_seal_287 hl (by decide) rfl (fun ls hl => ?_)
                            refine lv_goto (pc := 289) (tgt := 120) hx hb dX10_seal_289 (by decide) ?_
                            exact ih120 (i + 1) y' ce1_222 (by omega) (dec_stepY (by decide) (n := tp) (m := tp / 16) (by omega) (by omega) hr hb1 hs_222 hfr_222 hZ aesD_Elen) (by rw [if_neg (by omega), Nat.add_sub_cancel, seg, qL_ext]; intro j hj; rw [if_neg (by omega), show 16 * (i + 1) - 16 + j = 16 * i + j by omega]; exact (qSeg_at ho0 (by omega)).symm) (by omega) _ _ (hP.sub [7, 9, 0, 1, 10, 2, 3, 5, 6, 8, 4] rfl) (hD.sub [7, 9, 0, 1, 10, 2, 3, 5, 6, 8, 4] (by decide) rfl) hS ls (lv_sub hl [0, 2, 3, 4, 5, 6, 7] rfl)
                          · skip
                            rw [nI_leI (by omega) (by omega)] at c_14
                            refine lv_iload (pc := 235) hx hb dX10_seal_235 (lv_at hl 2 rfl) ?_
                            refine lv_if_ne (pc := 237) (tgt := 282) hx hb dX10_seal_237 (by decide) (fun c_15 => absurd (by decide) c_15) (fun _ => ?_)
                            refine lv_iload_n (pc := 240) hx hb dX10_seal_240 rfl (lv_at hl 7 rfl) ?_
                            refine lv_if_eq (pc := 241) (tgt := 282) hx hb dX10_seal_241 (by decide) (fun c_16 => absurd c_16 (by decide)) (fun _ => ?_)
                            refine lv_iload (pc := 244) hx hb dX10_seal_244 (lv_at hl 1 rfl) ?_
                            refine lv_if_le (pc := 246) (tgt := 282) hx hb dX10_seal_246 (by decide) (fun c_17 => ?_) (fun c_17 => ?_)
                            · skip
                              rw [q_le0 (by omega)] at c_17
                              have hZ : qSeg y' gb1_222 (16 * i) 16 (fun j => gb1_222 (16 * i + j) ^^^ (if i = 0 then 0#8 else gtp (16 * i - 16 + j))) := xor_prev (d := d) (by omega) hd
                              refine lv_iload (pc := 282) hx hb dX10_seal_282 (lv_at hl 1 rfl) ?_
                              refine lv_iload (pc := 284) hx hb dX10_seal_284 (lv_at hl 3 rfl) ?_
                              refine lv_iadd (pc := 286) hx hb dX10_seal_286 ?_
                              refine q_top (y := nI (16 * i + 16)) (nI_add (16 * i) 16) ?_
                              refine lv_istore (pc := 287) (lv' := [(6, .int (nI (16 * i + 16))), (7, .int (nI d)), (5, .int (nI 0)), (4, .int (nI 16)), (3, .int (nI tp)), (0, .ref h0), (1, .int (nI sd)), (2, .int (nI 1))]) hx hb dX10_seal_287 hl (by decide) rfl (fun ls hl => ?_)
                              refine lv_goto (pc := 289) (tgt := 120) hx hb dX10_seal_289 (by decide) ?_
                              exact ih120 (i + 1) y' ce1_222 (by omega) (dec_stepY (by decide) (n := tp) (m := tp / 16) (by omega) (by omega) hr hb1 hs_222 hfr_222 hZ aesD_Elen) (by rw [if_neg (by omega), Nat.add_sub_cancel, seg, qL_ext]; intro j hj; rw [if_neg (by omega), show 16 * (i + 1) - 16 + j = 16 * i + j by omega]; exact (qSeg_at ho0 (by omega)).symm) (by omega) _ _ (hP.sub [7, 9, 0, 1, 10, 2, 3, 5, 6, 8, 4] rfl) (hD.sub [7, 9, 0, 1, 10, 2, 3, 5, 6, 8, 4] (by decide) rfl) hS ls (lv_sub hl [0, 2, 3, 4, 5, 6, 7] rfl)
                            · skip
                              rw [q_le0 (by omega)] at c_17
                              refine lv_aload_n (pc := 249) hx hb dX10_seal_249 rfl (lv_at hl 5 rfl) ?_
                              refine va_get (pc := 250) (D := D) (ci := 8) (v := .ref (a 29)) (C := RX10) (T := TX10) (N := 57) hx hb hts iu10 hown hK hP 5 rfl rfl 29 (by decide) (hts _ tw_1074) (fun _ h9 => h9) rfl dX10_seal_250 ?_
                              refine lv_iload (pc := 253) hx hb dX10_seal_253 (lv_at hl 1 rfl) ?_
                              refine lv_iload (pc := 255) hx hb dX10_seal_255 (lv_at hl 0 rfl) ?_
                              refine lv_iadd (pc := 257) hx hb dX10_seal_257 ?_
                              refine q_top (y := nI (16 * i + d)) (nI_add (16 * i) d) ?_
                              refine lv_dup2_11 (pc := 258) hx hb dX10_seal_258 rfl rfl ?_
                              refine q_bald (pc := 259) hx hb hK hP 10 2 rfl rfl (k := 16 * i + d) (v := qs (y' (16 * i + d))) rfl (by omega) (by omega) rfl dX10_seal_259 ?_
                              refine lv_aload_n (pc := 260) hx hb dX10_seal_260 rfl (lv_at hl 5 rfl) ?_
                              refine va_get (pc := 261) (D := D) (ci := 8) (v := .ref (a 27)) (C := RX10) (T := TX10) (N := 57) hx hb hts iu10 hown hK hP 5 rfl rfl 27 (by decide) (hts _ tw_1072) (fun _ h9 => h9) rfl dX10_seal_261 ?_
                              refine lv_iload (pc := 264) hx hb dX10_seal_264 (lv_at hl 1 rfl) ?_
                              refine lv_iload (pc := 266) hx hb dX10_seal_266 (lv_at hl 3 rfl) ?_
                              refine lv_isub (pc := 268) hx hb dX10_seal_268 ?_
                              refine q_top (y := nI (16 * i - 16)) (pk_sub (a := 16 * i) (b := 16) (by omega)) ?_
                              refine lv_iload (pc := 269) hx hb dX10_seal_269 (lv_at hl 0 rfl) ?_
                              refine lv_iadd (pc := 271) hx hb dX10_seal_271 ?_
                              refine q_top (y := nI (16 * i - 16 + d)) (nI_add (16 * i - 16) d) ?_
                              refine q_bald (pc := 272) hx hb hK hP 1 2 rfl rfl (k := 16 * i - 16 + d) (v := qs (gtp (16 * i - 16 + d))) rfl (by omega) (by omega) rfl dX10_seal_272 ?_
                              refine lv_ixor (pc := 273) hx hb dX10_seal_273 ?_
                              refine q_top (y := qs ((y' (16 * i + d)) ^^^ (gtp (16 * i - 16 + d)))) (q_xor_s _ _) ?_
                              refine lv_i2b (pc := 274) (v := qs ((y' (16 * i + d)) ^^^ (gtp (16 * i - 16 + d)))) hx hb dX10_seal_274 (q_i2b_s _) ?_
                              refine q_bastS (pc := 275) hx hb hK hP hD hS 10 2 rfl rfl (k := 16 * i + d) rfl (by omega) (by omega) (b := (y' (16 * i + d)) ^^^ (gtp (16 * i - 16 + d))) (qlo_qs _) dX10_seal_275 (fun H locs hP hD hS => ?_)
                              have hP : va_P D vwCl [(a 37, aK ta 2 le), (a 27, aS ta 400 gtp), (a 39, aK ta 2 se), (a 36, aK ta 2 ru), (a 41, aS ta 256 gke), (h0, oM a ((le sd) / 4 + 6) mn 0 osz lsz ns ct), (a 8, aZ ta 256 BOX), (a 9, aZ ta 256 UBOX), (a 16, aS ta 240 rk1_85), (a 18, aS ta 16 ce1_222), (a 29, aS ta 416 (qU y' (16 * i + d) ((y' (16 * i + d)) ^^^ (gtp (16 * i - 16 + d)))))] H := hP
                              have hD : va_D A [(a 37, aK ta 2 le), (a 27, aS ta 400 gtp), (a 39, aK ta 2 se), (a 36, aK ta 2 ru), (a 41, aS ta 256 gke), (h0, oM a ((le sd) / 4 + 6) mn 0 osz lsz ns ct), (a 8, aZ ta 256 BOX), (a 9, aZ ta 256 UBOX), (a 16, aS ta 240 rk1_85), (a 18, aS ta 16 ce1_222), (a 29, aS ta 416 (qU y' (16 * i + d) ((y' (16 * i + d)) ^^^ (gtp (16 * i - 16 + d)))))] := hD
                              refine lv_iinc (pc := 276) (v := nI (d + 1)) (lv' := [(7, .int (nI (d + 1))), (6, .int (nI (16 * i))), (5, .int (nI 0)), (4, .int (nI 16)), (3, .int (nI tp)), (0, .ref h0), (1, .int (nI sd)), (2, .int (nI 1))]) hx hb dX10_seal_276 hl (k := 0) rfl (by first | exact nI_add d 1 | rfl) (by decide) rfl (fun ls hl => ?_)
                              refine lv_goto (pc := 279) (tgt := 228) hx hb dX10_seal_279 (by decide) ?_
                              exact ih228 (d + 1) (qU y' (16 * i + d) ((y' (16 * i + d)) ^^^ (gtp (16 * i - 16 + d)))) (by omega) (qSeg_s hd rfl (by rw [hd.2 _ (by omega)])) (by omega) _ _ (hP.sub [0, 1, 2, 3, 4, 5, 6, 7, 8, 9, 10] rfl) (hD.sub [0, 1, 2, 3, 4, 5, 6, 7, 8, 9, 10] (by decide) rfl) hS ls (lv_sub hl [0, 1, 2, 3, 4, 5, 6, 7] rfl)
                      exact LP228 _ 0 gb1_222 (by omega) (qSeg_0) (Nat.lt_succ_self _) _ _ (hP.sub [0, 1, 2, 3, 4, 5, 6, 7, 8, 9, 10] rfl) (hD.sub [0, 1, 2, 3, 4, 5, 6, 7, 8, 9, 10] (by decide) rfl) hS ls (lv_sub hl [0, 1, 2, 3, 4, 5, 6, 7] rfl)
                exact LP120 _ 0 o0 ce (by omega) (qSeg_0) (zero_row.trans (if_pos rfl).symm) (Nat.lt_succ_self _) _ _ (hP.sub [0, 1, 2, 3, 4, 5, 6, 7, 8, 9, 10] rfl) (hD.sub [0, 1, 2, 3, 4, 5, 6, 7, 8, 9, 10] (by decide) rfl) hS ls (lv_sub hl [0, 1, 2, 3, 4, 5, 6] rfl)
              · skip
                rw [nI_leI (by omega) (by omega)] at c_7
                refine lv_aload_n (pc := 97) hx hb dX10_seal_97 rfl (lv_at hl 4 rfl) ?_
                refine va_get (pc := 98) (D := D) (ci := 8) (v := .ref (a 29)) (C := RX10) (T := TX10) (N := 57) hx hb hts iu10 hown hK hP 7 rfl rfl 29 (by decide) (hts _ tw_1074) (fun _ h9 => h9) rfl dX10_seal_98 ?_
                refine lv_iload (pc := 101) hx hb dX10_seal_101 (lv_at hl 0 rfl) ?_
                refine lv_aload_n (pc := 103) hx hb dX10_seal_103 rfl (lv_at hl 4 rfl) ?_
                refine va_get (pc := 104) (D := D) (ci := 8) (v := .ref (a 27)) (C := RX10) (T := TX10) (N := 57) hx hb hts iu10 hown hK hP 7 rfl rfl 27 (by decide) (hts _ tw_1072) (fun _ h9 => h9) rfl dX10_seal_104 ?_
                refine lv_iload (pc := 107) hx hb dX10_seal_107 (lv_at hl 0 rfl) ?_
                refine q_bald (pc := 109) hx hb hK hP 3 2 rfl rfl (k := k) (v := qs (gtp k)) rfl (by omega) (by omega) rfl dX10_seal_109 ?_
                refine q_bastS (pc := 110) hx hb hK hP hD hS 4 2 rfl rfl (k := k) rfl (by omega) (by omega) (b := gtp k) (qlo_qs _) dX10_seal_110 (fun H locs hP hD hS => ?_)
                have hP : va_P D vwCl [(a 9, aZ ta 256 UBOX), (a 18, aS ta 16 ce), (a 37, aK ta 2 le), (a 27, aS ta 400 gtp), (a 29, aS ta 416 (qU o0 k (gtp k))), (a 39, aK ta 2 se), (a 36, aK ta 2 ru), (h0, oM a ((le sd) / 4 + 6) mn 0 osz lsz ns ct), (a 8, aZ ta 256 BOX), (a 16, aS ta 240 rk1_85), (a 41, aS ta 256 gke)] H := hP
                have hD : va_D A [(a 9, aZ ta 256 UBOX), (a 18, aS ta 16 ce), (a 37, aK ta 2 le), (a 27, aS ta 400 gtp), (a 29, aS ta 416 (qU o0 k (gtp k))), (a 39, aK ta 2 se), (a 36, aK ta 2 ru), (h0, oM a ((le sd) / 4 + 6) mn 0 osz lsz ns ct), (a 8, aZ ta 256 BOX), (a 16, aS ta 240 rk1_85), (a 41, aS ta 256 gke)] := hD
                refine lv_iinc (pc := 111) (v := nI (k + 1)) (lv' := [(6, .int (nI (k + 1))), (5, .int (nI 0)), (4, .int (nI 16)), (3, .int (nI tp)), (0, .ref h0), (1, .int (nI sd)), (2, .int (nI 1))]) hx hb dX10_seal_111 hl (k := 0) rfl (by first | exact nI_add k 1 | rfl) (by decide) rfl (fun ls hl => ?_)
                refine lv_goto (pc := 114) (tgt := 91) hx hb dX10_seal_114 (by decide) ?_
                exact ih91 (k + 1) (qU o0 k (gtp k)) (by omega) (qSeg_s ho0 (by omega) rfl) (by omega) _ _ (hP.sub [0, 1, 2, 3, 4, 5, 6, 7, 8, 9, 10] rfl) (hD.sub [0, 1, 2, 3, 4, 5, 6, 7, 8, 9, 10] (by decide) rfl) hS ls (lv_sub hl [0, 1, 2, 3, 4, 5, 6] rfl)
          exact LP91 _ 0 gou (by omega) (qSeg_0) (Nat.lt_succ_self _) _ _ (hP.sub [0, 1, 2, 3, 4, 5, 6, 7, 8, 9, 10] rfl) (hD.sub [0, 1, 2, 3, 4, 5, 6, 7, 8, 9, 10] (by decide) rfl) hS ls (lv_sub hl [0, 1, 2, 3, 4, 5, 6] rfl)
        · skip
          rw [nI_eq (by omega) (by omega)] at c_5
          exfalso; omega
      · skip
        rw [q_eq0 (by omega)] at c_4
        exfalso; omega
theorem hdX10_secret : yX10_secret.cls ≠ "java/lang/invoke/MethodHandle" ∧ yX10_secret.cls ≠ "java/lang/invoke/VarHandle" ∧ (parseMethodDescriptor yX10_secret.desc).map (fun d => d.parameters.length) = some 3 := ⟨by decide +kernel, by decide +kernel, by decide +kernel⟩
theorem dX10_secret_0 : decode cX10_secret 0 = .ok (.iload_n 1, 1) := by decide +kernel
theorem dX10_secret_1 : decode cX10_secret 1 = .ok (.invokestatic 314, 3) := by decide +kernel
theorem dX10_secret_4 : decode cX10_secret 4 = .ok (.ifCond .eq 26, 3) := by decide +kernel
theorem dX10_secret_7 : decode cX10_secret 7 = .ok (.aload_n 0, 1) := by decide +kernel
theorem dX10_secret_8 : decode cX10_secret 8 = .ok (.getfield 240, 3) := by decide +kernel
theorem dX10_secret_11 : decode cX10_secret 11 = .ok (.iload_n 1, 1) := by decide +kernel
theorem dX10_secret_12 : decode cX10_secret 12 = .ok (.iaload, 1) := by decide +kernel
theorem dX10_secret_13 : decode cX10_secret 13 = .ok (.ifCond .eq 17, 3) := by decide +kernel
theorem dX10_secret_16 : decode cX10_secret 16 = .ok (.iload_n 2, 1) := by decide +kernel
theorem dX10_secret_17 : decode cX10_secret 17 = .ok (.ifCond .lt 13, 3) := by decide +kernel
theorem dX10_secret_20 : decode cX10_secret 20 = .ok (.iload_n 2, 1) := by decide +kernel
theorem dX10_secret_21 : decode cX10_secret 21 = .ok (.bipush 6, 2) := by decide +kernel
theorem dX10_secret_23 : decode cX10_secret 23 = .ok (.if_icmp .gt 7, 3) := by decide +kernel
theorem dX10_secret_26 : decode cX10_secret 26 = .ok (.iload_n 3, 1) := by decide +kernel
theorem dX10_secret_27 : decode cX10_secret 27 = .ok (.ifCond .ge 5, 3) := by decide +kernel
theorem dX10_secret_30 : decode cX10_secret 30 = .ok (.iconst (-1), 1) := by decide +kernel
theorem dX10_secret_31 : decode cX10_secret 31 = .ok (.ireturn, 1) := by decide +kernel
theorem dX10_secret_32 : decode cX10_secret 32 = .ok (.iload_n 2, 1) := by decide +kernel
theorem dX10_secret_33 : decode cX10_secret 33 = .ok (.iconst 4, 1) := by decide +kernel
theorem dX10_secret_34 : decode cX10_secret 34 = .ok (.if_icmp .ge 12, 3) := by decide +kernel
theorem dX10_secret_37 : decode cX10_secret 37 = .ok (.aload_n 0, 1) := by decide +kernel
theorem dX10_secret_38 : decode cX10_secret 38 = .ok (.getfield 234, 3) := by decide +kernel
theorem dX10_secret_41 : decode cX10_secret 41 = .ok (.iload_n 1, 1) := by decide +kernel
theorem dX10_secret_42 : decode cX10_secret 42 = .ok (.iaload, 1) := by decide +kernel
theorem dX10_secret_43 : decode cX10_secret 43 = .ok (.goto 19, 3) := by decide +kernel
theorem dX10_secret_46 : decode cX10_secret 46 = .ok (.iload_n 2, 1) := by decide +kernel
theorem dX10_secret_47 : decode cX10_secret 47 = .ok (.bipush 6, 2) := by decide +kernel
theorem dX10_secret_49 : decode cX10_secret 49 = .ok (.if_icmp .ge 8, 3) := by decide +kernel
theorem dX10_secret_52 : decode cX10_secret 52 = .ok (.bipush 8, 2) := by decide +kernel
theorem dX10_secret_54 : decode cX10_secret 54 = .ok (.goto 8, 3) := by decide +kernel
theorem dX10_secret_57 : decode cX10_secret 57 = .ok (.aload_n 0, 1) := by decide +kernel
theorem dX10_secret_58 : decode cX10_secret 58 = .ok (.iload_n 1, 1) := by decide +kernel
theorem dX10_secret_59 : decode cX10_secret 59 = .ok (.invokevirtual 406, 3) := by decide +kernel
theorem dX10_secret_62 : decode cX10_secret 62 = .ok (.istore 4, 2) := by decide +kernel
theorem dX10_secret_64 : decode cX10_secret 64 = .ok (.iload_n 3, 1) := by decide +kernel
theorem dX10_secret_65 : decode cX10_secret 65 = .ok (.iload 4, 2) := by decide +kernel
theorem dX10_secret_67 : decode cX10_secret 67 = .ok (.if_icmp .lt 5, 3) := by decide +kernel
theorem dX10_secret_70 : decode cX10_secret 70 = .ok (.iconst (-1), 1) := by decide +kernel
theorem dX10_secret_71 : decode cX10_secret 71 = .ok (.ireturn, 1) := by decide +kernel
theorem dX10_secret_72 : decode cX10_secret 72 = .ok (.iload_n 2, 1) := by decide +kernel
theorem dX10_secret_73 : decode cX10_secret 73 = .ok (.tableswitch 75 4 6 #[27, 43, 59], 27) := by decide +kernel
theorem dX10_secret_100 : decode cX10_secret 100 = .ok (.aload_n 0, 1) := by decide +kernel
theorem dX10_secret_101 : decode cX10_secret 101 = .ok (.getfield 249, 3) := by decide +kernel
theorem dX10_secret_104 : decode cX10_secret 104 = .ok (.bipush 8, 2) := by decide +kernel
theorem dX10_secret_106 : decode cX10_secret 106 = .ok (.iload_n 1, 1) := by decide +kernel
theorem dX10_secret_107 : decode cX10_secret 107 = .ok (.imul, 1) := by decide +kernel
theorem dX10_secret_108 : decode cX10_secret 108 = .ok (.iload_n 3, 1) := by decide +kernel
theorem dX10_secret_109 : decode cX10_secret 109 = .ok (.iadd, 1) := by decide +kernel
theorem dX10_secret_110 : decode cX10_secret 110 = .ok (.baload, 1) := by decide +kernel
theorem dX10_secret_111 : decode cX10_secret 111 = .ok (.sipush 255, 3) := by decide +kernel
theorem dX10_secret_114 : decode cX10_secret 114 = .ok (.iand, 1) := by decide +kernel
theorem dX10_secret_115 : decode cX10_secret 115 = .ok (.ireturn, 1) := by decide +kernel
theorem dX10_secret_116 : decode cX10_secret 116 = .ok (.aload_n 0, 1) := by decide +kernel
theorem dX10_secret_117 : decode cX10_secret 117 = .ok (.getfield 252, 3) := by decide +kernel
theorem dX10_secret_120 : decode cX10_secret 120 = .ok (.bipush 8, 2) := by decide +kernel
theorem dX10_secret_122 : decode cX10_secret 122 = .ok (.iload_n 1, 1) := by decide +kernel
theorem dX10_secret_123 : decode cX10_secret 123 = .ok (.imul, 1) := by decide +kernel
theorem dX10_secret_124 : decode cX10_secret 124 = .ok (.iload_n 3, 1) := by decide +kernel
theorem dX10_secret_125 : decode cX10_secret 125 = .ok (.iadd, 1) := by decide +kernel
theorem dX10_secret_126 : decode cX10_secret 126 = .ok (.baload, 1) := by decide +kernel
theorem dX10_secret_127 : decode cX10_secret 127 = .ok (.sipush 255, 3) := by decide +kernel
theorem dX10_secret_130 : decode cX10_secret 130 = .ok (.iand, 1) := by decide +kernel
theorem dX10_secret_131 : decode cX10_secret 131 = .ok (.ireturn, 1) := by decide +kernel
theorem dX10_secret_132 : decode cX10_secret 132 = .ok (.aload_n 0, 1) := by decide +kernel
theorem dX10_secret_133 : decode cX10_secret 133 = .ok (.getfield 255, 3) := by decide +kernel
theorem dX10_secret_136 : decode cX10_secret 136 = .ok (.bipush 8, 2) := by decide +kernel
theorem dX10_secret_138 : decode cX10_secret 138 = .ok (.iload_n 1, 1) := by decide +kernel
theorem dX10_secret_139 : decode cX10_secret 139 = .ok (.imul, 1) := by decide +kernel
theorem dX10_secret_140 : decode cX10_secret 140 = .ok (.iload_n 3, 1) := by decide +kernel
theorem dX10_secret_141 : decode cX10_secret 141 = .ok (.iadd, 1) := by decide +kernel
theorem dX10_secret_142 : decode cX10_secret 142 = .ok (.baload, 1) := by decide +kernel
theorem dX10_secret_143 : decode cX10_secret 143 = .ok (.sipush 255, 3) := by decide +kernel
theorem dX10_secret_146 : decode cX10_secret 146 = .ok (.iand, 1) := by decide +kernel
theorem dX10_secret_147 : decode cX10_secret 147 = .ok (.ireturn, 1) := by decide +kernel
theorem dX10_secret_148 : decode cX10_secret 148 = .ok (.aload_n 0, 1) := by decide +kernel
theorem dX10_secret_149 : decode cX10_secret 149 = .ok (.getfield 246, 3) := by decide +kernel
theorem dX10_secret_152 : decode cX10_secret 152 = .ok (.sipush 128, 3) := by decide +kernel
theorem dX10_secret_155 : decode cX10_secret 155 = .ok (.iload_n 1, 1) := by decide +kernel
theorem dX10_secret_156 : decode cX10_secret 156 = .ok (.imul, 1) := by decide +kernel
theorem dX10_secret_157 : decode cX10_secret 157 = .ok (.bipush 32, 2) := by decide +kernel
theorem dX10_secret_159 : decode cX10_secret 159 = .ok (.iload_n 2, 1) := by decide +kernel
theorem dX10_secret_160 : decode cX10_secret 160 = .ok (.imul, 1) := by decide +kernel
theorem dX10_secret_161 : decode cX10_secret 161 = .ok (.iadd, 1) := by decide +kernel
theorem dX10_secret_162 : decode cX10_secret 162 = .ok (.iload_n 3, 1) := by decide +kernel
theorem dX10_secret_163 : decode cX10_secret 163 = .ok (.iadd, 1) := by decide +kernel
theorem dX10_secret_164 : decode cX10_secret 164 = .ok (.baload, 1) := by decide +kernel
theorem dX10_secret_165 : decode cX10_secret 165 = .ok (.sipush 255, 3) := by decide +kernel
theorem dX10_secret_168 : decode cX10_secret 168 = .ok (.iand, 1) := by decide +kernel
theorem dX10_secret_169 : decode cX10_secret 169 = .ok (.ireturn, 1) := by decide +kernel
set_option maxHeartbeats 4000000 in
set_option maxRecDepth 100000 in
theorem ct_X10_secret_noside (ll : Launch) (D : va_G) (ta : Nat → ClassId) {G : (Nat → Prop) → State → Heap → Prop} (hGok : GOK G) (h0 : Nat) (a : Nat → Nat) (ar : Nat) (mn : Nat) (tp : Nat) (osz : Nat) (lsz : Nat) (ns : Nat) (ct : Nat) (s9 : Int32) (i : Int32) (j : Int32) (hi0 : ¬ s9 = nI 0) (hi1 : ¬ s9 = nI 1) (sz : Nat) : CT ll yX10_secret cX10_secret 5 (some .int) ({ frames := 1, cells := 0, slots := 0, locals := 21 } : Room) D ta G [.ref h0, .int s9, .int i, .int j] [(h0, oM a ar mn tp osz lsz ns ct)] sz (S := Int32) (fun u => some (.int u)) (fun u => ((u : Int32) = -1)) (fun u => [(h0, oM a ar mn tp osz lsz ns ct)]) 0 0 := by
  refine CT.of_i (r := fun u => u) rfl (by decide) (Nat.le_of_ble_eq_true rfl) ?_
  intro pp ee ss mm below meth kc A Q hx hb hml hown hin hts hK hA hsz hG hret H locs hP hD hS ls hl
  have hl : lv_has ls 5 [(0, .ref h0), (1, .int s9), (2, .int i), (3, .int j)] := hl
  refine lv_iload_n (pc := 0) hx hb dX10_secret_0 rfl (lv_at hl 1 rfl) ?_
  refine cs_S (pc := 1) (idx := 314) (n := 1) (wr := [(h0, oM a ar mn tp osz lsz ns ct)]) (As := [.int s9]) (rest := []) hx hb hml hown hts hGok hK hA hG hl.1 hP hD hS (ct_X10_isSide_no ll D ta hGok s9 (by first | assumption | omega | rfl | decide) (by first | assumption | omega | rfl | decide) H.size) tw_1261 tw_1259 tw_1260 tw_75 hdX10_isSide rfl ⟨rfl, rfl, Nat.le_of_ble_eq_true rfl, Nat.le_of_ble_eq_true rfl, Nat.le_of_ble_eq_true rfl, Nat.le_of_ble_eq_true rfl⟩ [] [0] rfl rfl (by decide) rfl (Nat.le_of_ble_eq_true rfl) dX10_secret_1 (fun u H locs hq hP hD hS => ?_)
  refine W.eq (g2 := F0 mm 4 ls [.int (qb false)]) rfl ?_
  have hP : va_P D vwCl [(h0, oM a ar mn tp osz lsz ns ct)] H := hP
  have hD : va_D A [(h0, oM a ar mn tp osz lsz ns ct)] := hD
  refine lv_if_eq (pc := 4) (tgt := 30) hx hb dX10_secret_4 (by decide) (fun _ => ?_) (fun c_1 => absurd (by decide) c_1)
  refine lv_iconst (pc := 30) (v := (-1)) hx hb dX10_secret_30 (by decide +kernel) ?_
  refine q_top (y := (-1)) (by first | rfl | decide +kernel | (simp; done)) ?_
  have hq_2 : (((-1) : Int32) = -1) := by
    first | rfl | trivial | (refine ⟨?_, ?_⟩ <;> rfl) | (simp; done) | omega
  exact hret (-1) _ _ _ _ dX10_secret_31 hq_2 (hP.sub [0] rfl) (hD.sub [0] (by decide) rfl) hS
set_option maxHeartbeats 4000000 in
set_option maxRecDepth 100000 in
theorem ct_X10_secret (ll : Launch) (D : va_G) (ta : Nat → ClassId) {G : (Nat → Prop) → State → Heap → Prop} (hGok : GOK G) (h0 : Nat) (a : Nat → Nat) (ar : Nat) (mn : Nat) (tp : Nat) (osz : Nat) (lsz : Nat) (ns : Nat) (ct : Nat) (gke : Nat → BitVec 8) (gow : Nat → BitVec 8) (gth : Nat → BitVec 8) (gck : Nat → BitVec 8) (le : Nat → Nat) (ru : Nat → Nat) (se : Nat → Nat) (sd : Nat) (wh : Int32) (j : Int32) (hsd : sd ≤ 1) (hse : se sd ≤ 2) (hru : ru sd < 4) (hle : le sd ≤ 32) (sz : Nat) : CT ll yX10_secret cX10_secret 5 (some .int) ({ frames := 1, cells := 0, slots := 0, locals := 21 } : Room) D ta G [.ref h0, .int (nI sd), .int wh, .int j] [(h0, oM a ar mn tp osz lsz ns ct), (a 41, aS ta 256 gke), (a 42, aS ta 16 gow), (a 43, aS ta 16 gth), (a 44, aS ta 16 gck), (a 37, aK ta 2 le), (a 36, aK ta 2 ru), (a 39, aK ta 2 se)] sz (S := Int32) (fun u => some (.int u)) (fun u => ((u : Int32) = if se sd = 0 then -1 else secF (seg gke (128 * sd) (le sd)) (seg gke (128 * sd + 32) (le sd)) (seg gke (128 * sd + 64) (le sd)) (seg gke (128 * sd + 96) (le sd)) (seg gow (8 * sd) 8) (seg gth (8 * sd) 8) (seg gck (8 * sd) (if ru sd = 2 then 6 else 8)) wh j)) (fun u => [(h0, oM a ar mn tp osz lsz ns ct), (a 41, aS ta 256 gke), (a 42, aS ta 16 gow), (a 43, aS ta 16 gth), (a 44, aS ta 16 gck), (a 37, aK ta 2 le), (a 36, aK ta 2 ru), (a 39, aK ta 2 se)]) 0 0 := by
  refine CT.of_i (r := fun u => u) rfl (by decide) (Nat.le_of_ble_eq_true rfl) ?_
  intro pp ee ss mm below meth kc A Q hx hb hml hown hin hts hK hA hsz hG hret H locs hP hD hS ls hl
  have hl : lv_has ls 5 [(0, .ref h0), (1, .int (nI sd)), (2, .int wh), (3, .int j)] := hl
  refine lv_iload_n (pc := 0) hx hb dX10_secret_0 rfl (lv_at hl 1 rfl) ?_
  refine cs_S (pc := 1) (idx := 314) (n := 1) (wr := [(h0, oM a ar mn tp osz lsz ns ct), (a 41, aS ta 256 gke), (a 42, aS ta 16 gow), (a 43, aS ta 16 gth), (a 44, aS ta 16 gck), (a 37, aK ta 2 le), (a 36, aK ta 2 ru), (a 39, aK ta 2 se)]) (As := [.int (nI sd)]) (rest := []) hx hb hml hown hts hGok hK hA hG hl.1 hP hD hS (ct_X10_isSide_s ll D ta hGok sd (by first | assumption | omega | rfl | decide) H.size) tw_1261 tw_1259 tw_1260 tw_75 hdX10_isSide rfl ⟨rfl, rfl, Nat.le_of_ble_eq_true rfl, Nat.le_of_ble_eq_true rfl, Nat.le_of_ble_eq_true rfl, Nat.le_of_ble_eq_true rfl⟩ [] [0, 1, 2, 3, 4, 5, 6, 7] rfl rfl (by decide) rfl (Nat.le_of_ble_eq_true rfl) dX10_secret_1 (fun u H locs hq hP hD hS => ?_)
  refine W.eq (g2 := F0 mm 4 ls [.int (qb true)]) rfl ?_
  have hP : va_P D vwCl [(h0, oM a ar mn tp osz lsz ns ct), (a 41, aS ta 256 gke), (a 42, aS ta 16 gow), (a 43, aS ta 16 gth), (a 44, aS ta 16 gck), (a 37, aK ta 2 le), (a 36, aK ta 2 ru), (a 39, aK ta 2 se)] H := hP
  have hD : va_D A [(h0, oM a ar mn tp osz lsz ns ct), (a 41, aS ta 256 gke), (a 42, aS ta 16 gow), (a 43, aS ta 16 gth), (a 44, aS ta 16 gck), (a 37, aK ta 2 le), (a 36, aK ta 2 ru), (a 39, aK ta 2 se)] := hD
  refine lv_if_eq (pc := 4) (tgt := 30) hx hb dX10_secret_4 (by decide) (fun c_1 => absurd c_1 (by decide)) (fun _ => ?_)
  by_cases hk0 : wh = nI 0
  · skip
    subst hk0
    refine lv_aload_n (pc := 7) hx hb dX10_secret_7 rfl (lv_at hl 0 rfl) ?_
    refine va_get (pc := 8) (D := D) (ci := 8) (v := .ref (a 39)) (C := RX10) (T := TX10) (N := 57) hx hb hts iu10 hown hK hP 0 rfl rfl 39 (by decide) (hts _ tw_1084) (fun _ h9 => h9) rfl dX10_secret_8 ?_
    refine lv_iload_n (pc := 11) hx hb dX10_secret_11 rfl (lv_at hl 1 rfl) ?_
    refine q_iald (pc := 12) hx hb hK hP 7 0 rfl rfl (k := sd) (v := nI (se sd)) rfl (by omega) (by omega) rfl dX10_secret_12 ?_
    refine lv_if_eq (pc := 13) (tgt := 30) hx hb dX10_secret_13 (by decide) (fun c_2 => ?_) (fun c_2 => ?_)
    · skip
      rw [q_eq0 (by omega)] at c_2
      have hs0 := c_2
      refine lv_iconst (pc := 30) (v := (-1)) hx hb dX10_secret_30 (by decide +kernel) ?_
      refine q_top (y := (-1)) (by first | rfl | decide +kernel | (simp; done)) ?_
      have hq_3 : (((-1) : Int32) = if se sd = 0 then -1 else secF (seg gke (128 * sd) (le sd)) (seg gke (128 * sd + 32) (le sd)) (seg gke (128 * sd + 64) (le sd)) (seg gke (128 * sd + 96) (le sd)) (seg gow (8 * sd) 8) (seg gth (8 * sd) 8) (seg gck (8 * sd) (if ru sd = 2 then 6 else 8)) (nI 0) j) := by
        first | (rw [if_pos (by omega)]; done) | (rw [if_neg (by omega)]; first | exact hsn.symm | exact (sec_neg (Int32.not_le.mp hj0)).symm)
      exact hret (-1) _ _ _ _ dX10_secret_31 hq_3 (hP.sub [0, 1, 2, 3, 4, 5, 6, 7] rfl) (hD.sub [0, 1, 2, 3, 4, 5, 6, 7] (by decide) rfl) hS
    · skip
      rw [q_eq0 (by omega)] at c_2
      have hs0 := c_2
      refine lv_iload_n (pc := 16) hx hb dX10_secret_16 rfl (lv_at hl 2 rfl) ?_
      refine lv_if_lt (pc := 17) (tgt := 30) hx hb dX10_secret_17 (by decide) (fun c_4 => absurd c_4 (by decide)) (fun _ => ?_)
      refine lv_iload_n (pc := 20) hx hb dX10_secret_20 rfl (lv_at hl 2 rfl) ?_
      refine lv_bipush (pc := 21) (v := nI 6) hx hb dX10_secret_21 (by decide +kernel) ?_
      refine lv_icmp_gt (pc := 23) (tgt := 30) hx hb dX10_secret_23 (by decide) (fun c_5 => absurd c_5 (by decide)) (fun _ => ?_)
      refine lv_iload_n (pc := 26) hx hb dX10_secret_26 rfl (lv_at hl 3 rfl) ?_
      refine lv_if_ge (pc := 27) (tgt := 32) hx hb dX10_secret_27 (by decide) (fun c_6 => ?_) (fun c_6 => ?_)
      · skip
        have hj0 := c_6
        refine lv_iload_n (pc := 32) hx hb dX10_secret_32 rfl (lv_at hl 2 rfl) ?_
        refine lv_iconst (pc := 33) (v := nI 4) hx hb dX10_secret_33 (by decide +kernel) ?_
        refine lv_icmp_ge (pc := 34) (tgt := 46) hx hb dX10_secret_34 (by decide) (fun c_7 => absurd c_7 (by decide)) (fun _ => ?_)
        refine lv_aload_n (pc := 37) hx hb dX10_secret_37 rfl (lv_at hl 0 rfl) ?_
        refine va_get (pc := 38) (D := D) (ci := 8) (v := .ref (a 37)) (C := RX10) (T := TX10) (N := 57) hx hb hts iu10 hown hK hP 0 rfl rfl 37 (by decide) (hts _ tw_1082) (fun _ h9 => h9) rfl dX10_secret_38 ?_
        refine lv_iload_n (pc := 41) hx hb dX10_secret_41 rfl (lv_at hl 1 rfl) ?_
        refine q_iald (pc := 42) hx hb hK hP 5 0 rfl rfl (k := sd) (v := nI (le sd)) rfl (by omega) (by omega) rfl dX10_secret_42 ?_
        refine lv_goto (pc := 43) (tgt := 62) hx hb dX10_secret_43 (by decide) ?_
        try have hw8 : w9_59 ≤ 8 := by rw [hw_59]; split <;> omega
        refine lv_istore (pc := 62) (lv' := [(4, .int (nI (le sd))), (0, .ref h0), (1, .int (nI sd)), (2, .int (nI 0)), (3, .int j)]) hx hb dX10_secret_62 hl (by decide) rfl (fun ls hl => ?_)
        refine lv_iload_n (pc := 64) hx hb dX10_secret_64 rfl (lv_at hl 4 rfl) ?_
        refine lv_iload (pc := 65) hx hb dX10_secret_65 (lv_at hl 0 rfl) ?_
        refine lv_icmp_lt (pc := 67) (tgt := 72) hx hb dX10_secret_67 (by decide) (fun c_8 => ?_) (fun c_8 => ?_)
        · skip
          obtain ⟨j9, hj9, rfl⟩ := q_ix (Int32.not_lt.mpr hj0) (Int32.not_le.mpr c_8) (by omega)
          refine lv_iload_n (pc := 72) hx hb dX10_secret_72 rfl (lv_at hl 3 rfl) ?_
          refine lv_tableOut (pc := 73) (tgt := 148) hx hb dX10_secret_73 (Or.inl (by decide)) (by decide) ?_
          refine lv_aload_n (pc := 148) hx hb dX10_secret_148 rfl (lv_at hl 1 rfl) ?_
          refine va_get (pc := 149) (D := D) (ci := 8) (v := .ref (a 41)) (C := RX10) (T := TX10) (N := 57) hx hb hts iu10 hown hK hP 0 rfl rfl 41 (by decide) (hts _ tw_1086) (fun _ h9 => h9) rfl dX10_secret_149 ?_
          refine lv_sipush (pc := 152) (v := nI 128) hx hb dX10_secret_152 (by decide +kernel) ?_
          refine lv_iload_n (pc := 155) hx hb dX10_secret_155 rfl (lv_at hl 2 rfl) ?_
          refine lv_imul (pc := 156) hx hb dX10_secret_156 ?_
          refine q_top (y := nI (128 * sd)) (pk_mul 128 sd) ?_
          refine lv_bipush (pc := 157) (v := nI 32) hx hb dX10_secret_157 (by decide +kernel) ?_
          refine lv_iload_n (pc := 159) hx hb dX10_secret_159 rfl (lv_at hl 3 rfl) ?_
          refine lv_imul (pc := 160) hx hb dX10_secret_160 ?_
          refine q_top (y := nI 0) (by decide +kernel) ?_
          refine lv_iadd (pc := 161) hx hb dX10_secret_161 ?_
          refine q_top (y := nI (128 * sd)) ((nI_add (128 * sd) 0).trans (congrArg nI (by omega))) ?_
          refine lv_iload_n (pc := 162) hx hb dX10_secret_162 rfl (lv_at hl 4 rfl) ?_
          refine lv_iadd (pc := 163) hx hb dX10_secret_163 ?_
          refine q_top (y := nI (128 * sd + j9)) (nI_add (128 * sd) j9) ?_
          refine q_bald (pc := 164) hx hb hK hP 1 2 rfl rfl (k := 128 * sd + j9) (v := qs (gke (128 * sd + j9))) rfl (by omega) (by omega) rfl dX10_secret_164 ?_
          refine lv_sipush (pc := 165) (v := nI 255) hx hb dX10_secret_165 (by decide +kernel) ?_
          refine lv_iand (pc := 168) hx hb dX10_secret_168 ?_
          refine q_top (y := qz (gke (128 * sd + j9))) ((q_m255 _).trans (congrArg qz (qlo_qs _))) ?_
          refine q_top (y := (qz (gke (128 * sd + j9)))) (by first | rfl | decide +kernel | (simp; done)) ?_
          have hq_9 : (((qz (gke (128 * sd + j9))) : Int32) = if se sd = 0 then -1 else secF (seg gke (128 * sd) (le sd)) (seg gke (128 * sd + 32) (le sd)) (seg gke (128 * sd + 64) (le sd)) (seg gke (128 * sd + 96) (le sd)) (seg gow (8 * sd) 8) (seg gth (8 * sd) 8) (seg gck (8 * sd) (if ru sd = 2 then 6 else 8)) (nI 0) (nI j9)) := by
            rw [if_neg (by omega)]
            symm
            first | rw [sec_0] | rw [sec_1] | rw [sec_2] | rw [sec_3] | rw [sec_4] | rw [sec_5] | rw [sec_6]
            first | exact at_big hge (by omega) seg_len | exact at_big hge (by omega) (by rw [seg_len, hw_59]) | exact at_seg (by omega) (by omega) | exact at_seg (by rw [← hw_59]; exact hj9) (by rw [← hw_59]; omega)
          exact hret (qz (gke (128 * sd + j9))) _ _ _ _ dX10_secret_169 hq_9 (hP.sub [0, 1, 2, 3, 4, 5, 6, 7] rfl) (hD.sub [0, 1, 2, 3, 4, 5, 6, 7] (by decide) rfl) hS
        · skip
          have hge := Int32.not_lt.mp c_8
          refine lv_iconst (pc := 70) (v := (-1)) hx hb dX10_secret_70 (by decide +kernel) ?_
          refine q_top (y := (-1)) (by first | rfl | decide +kernel | (simp; done)) ?_
          have hq_10 : (((-1) : Int32) = if se sd = 0 then -1 else secF (seg gke (128 * sd) (le sd)) (seg gke (128 * sd + 32) (le sd)) (seg gke (128 * sd + 64) (le sd)) (seg gke (128 * sd + 96) (le sd)) (seg gow (8 * sd) 8) (seg gth (8 * sd) 8) (seg gck (8 * sd) (if ru sd = 2 then 6 else 8)) (nI 0) j) := by
            rw [if_neg (by omega)]
            symm
            first | rw [sec_0] | rw [sec_1] | rw [sec_2] | rw [sec_3] | rw [sec_4] | rw [sec_5] | rw [sec_6]
            first | exact at_big hge (by omega) seg_len | exact at_big hge (by omega) (by rw [seg_len, hw_59]) | exact at_seg (by omega) (by omega) | exact at_seg (by rw [← hw_59]; exact hj9) (by rw [← hw_59]; omega)
          exact hret (-1) _ _ _ _ dX10_secret_71 hq_10 (hP.sub [0, 1, 2, 3, 4, 5, 6, 7] rfl) (hD.sub [0, 1, 2, 3, 4, 5, 6, 7] (by decide) rfl) hS
      · skip
        have hj0 := c_6
        refine lv_iconst (pc := 30) (v := (-1)) hx hb dX10_secret_30 (by decide +kernel) ?_
        refine q_top (y := (-1)) (by first | rfl | decide +kernel | (simp; done)) ?_
        have hq_11 : (((-1) : Int32) = if se sd = 0 then -1 else secF (seg gke (128 * sd) (le sd)) (seg gke (128 * sd + 32) (le sd)) (seg gke (128 * sd + 64) (le sd)) (seg gke (128 * sd + 96) (le sd)) (seg gow (8 * sd) 8) (seg gth (8 * sd) 8) (seg gck (8 * sd) (if ru sd = 2 then 6 else 8)) (nI 0) j) := by
          first | (rw [if_pos (by omega)]; done) | (rw [if_neg (by omega)]; first | exact hsn.symm | exact (sec_neg (Int32.not_le.mp hj0)).symm)
        exact hret (-1) _ _ _ _ dX10_secret_31 hq_11 (hP.sub [0, 1, 2, 3, 4, 5, 6, 7] rfl) (hD.sub [0, 1, 2, 3, 4, 5, 6, 7] (by decide) rfl) hS
  · skip
    by_cases hk1 : wh = nI 1
    · skip
      subst hk1
      refine lv_aload_n (pc := 7) hx hb dX10_secret_7 rfl (lv_at hl 0 rfl) ?_
      refine va_get (pc := 8) (D := D) (ci := 8) (v := .ref (a 39)) (C := RX10) (T := TX10) (N := 57) hx hb hts iu10 hown hK hP 0 rfl rfl 39 (by decide) (hts _ tw_1084) (fun _ h9 => h9) rfl dX10_secret_8 ?_
      refine lv_iload_n (pc := 11) hx hb dX10_secret_11 rfl (lv_at hl 1 rfl) ?_
      refine q_iald (pc := 12) hx hb hK hP 7 0 rfl rfl (k := sd) (v := nI (se sd)) rfl (by omega) (by omega) rfl dX10_secret_12 ?_
      refine lv_if_eq (pc := 13) (tgt := 30) hx hb dX10_secret_13 (by decide) (fun c_12 => ?_) (fun c_12 => ?_)
      · skip
        rw [q_eq0 (by omega)] at c_12
        have hs0 := c_12
        refine lv_iconst (pc := 30) (v := (-1)) hx hb dX10_secret_30 (by decide +kernel) ?_
        refine q_top (y := (-1)) (by first | rfl | decide +kernel | (simp; done)) ?_
        have hq_13 : (((-1) : Int32) = if se sd = 0 then -1 else secF (seg gke (128 * sd) (le sd)) (seg gke (128 * sd + 32) (le sd)) (seg gke (128 * sd + 64) (le sd)) (seg gke (128 * sd + 96) (le sd)) (seg gow (8 * sd) 8) (seg gth (8 * sd) 8) (seg gck (8 * sd) (if ru sd = 2 then 6 else 8)) (nI 1) j) := by
          first | (rw [if_pos (by omega)]; done) | (rw [if_neg (by omega)]; first | exact hsn.symm | exact (sec_neg (Int32.not_le.mp hj0)).symm)
        exact hret (-1) _ _ _ _ dX10_secret_31 hq_13 (hP.sub [0, 1, 2, 3, 4, 5, 6, 7] rfl) (hD.sub [0, 1, 2, 3, 4, 5, 6, 7] (by decide) rfl) hS
      · skip
        rw [q_eq0 (by omega)] at c_12
        have hs0 := c_12
        refine lv_iload_n (pc := 16) hx hb dX10_secret_16 rfl (lv_at hl 2 rfl) ?_
        refine lv_if_lt (pc := 17) (tgt := 30) hx hb dX10_secret_17 (by decide) (fun c_14 => absurd c_14 (by decide)) (fun _ => ?_)
        refine lv_iload_n (pc := 20) hx hb dX10_secret_20 rfl (lv_at hl 2 rfl) ?_
        refine lv_bipush (pc := 21) (v := nI 6) hx hb dX10_secret_21 (by decide +kernel) ?_
        refine lv_icmp_gt (pc := 23) (tgt := 30) hx hb dX10_secret_23 (by decide) (fun c_15 => absurd c_15 (by decide)) (fun _ => ?_)
        refine lv_iload_n (pc := 26) hx hb dX10_secret_26 rfl (lv_at hl 3 rfl) ?_
        refine lv_if_ge (pc := 27) (tgt := 32) hx hb dX10_secret_27 (by decide) (fun c_16 => ?_) (fun c_16 => ?_)
        · skip
          have hj0 := c_16
          refine lv_iload_n (pc := 32) hx hb dX10_secret_32 rfl (lv_at hl 2 rfl) ?_
          refine lv_iconst (pc := 33) (v := nI 4) hx hb dX10_secret_33 (by decide +kernel) ?_
          refine lv_icmp_ge (pc := 34) (tgt := 46) hx hb dX10_secret_34 (by decide) (fun c_17 => absurd c_17 (by decide)) (fun _ => ?_)
          refine lv_aload_n (pc := 37) hx hb dX10_secret_37 rfl (lv_at hl 0 rfl) ?_
          refine va_get (pc := 38) (D := D) (ci := 8) (v := .ref (a 37)) (C := RX10) (T := TX10) (N := 57) hx hb hts iu10 hown hK hP 0 rfl rfl 37 (by decide) (hts _ tw_1082) (fun _ h9 => h9) rfl dX10_secret_38 ?_
          refine lv_iload_n (pc := 41) hx hb dX10_secret_41 rfl (lv_at hl 1 rfl) ?_
          refine q_iald (pc := 42) hx hb hK hP 5 0 rfl rfl (k := sd) (v := nI (le sd)) rfl (by omega) (by omega) rfl dX10_secret_42 ?_
          refine lv_goto (pc := 43) (tgt := 62) hx hb dX10_secret_43 (by decide) ?_
          try have hw8 : w9_59 ≤ 8 := by rw [hw_59]; split <;> omega
          refine lv_istore (pc := 62) (lv' := [(4, .int (nI (le sd))), (0, .ref h0), (1, .int (nI sd)), (2, .int (nI 1)), (3, .int j)]) hx hb dX10_secret_62 hl (by decide) rfl (fun ls hl => ?_)
          refine lv_iload_n (pc := 64) hx hb dX10_secret_64 rfl (lv_at hl 4 rfl) ?_
          refine lv_iload (pc := 65) hx hb dX10_secret_65 (lv_at hl 0 rfl) ?_
          refine lv_icmp_lt (pc := 67) (tgt := 72) hx hb dX10_secret_67 (by decide) (fun c_18 => ?_) (fun c_18 => ?_)
          · skip
            obtain ⟨j9, hj9, rfl⟩ := q_ix (Int32.not_lt.mpr hj0) (Int32.not_le.mpr c_18) (by omega)
            refine lv_iload_n (pc := 72) hx hb dX10_secret_72 rfl (lv_at hl 3 rfl) ?_
            refine lv_tableOut (pc := 73) (tgt := 148) hx hb dX10_secret_73 (Or.inl (by decide)) (by decide) ?_
            refine lv_aload_n (pc := 148) hx hb dX10_secret_148 rfl (lv_at hl 1 rfl) ?_
            refine va_get (pc := 149) (D := D) (ci := 8) (v := .ref (a 41)) (C := RX10) (T := TX10) (N := 57) hx hb hts iu10 hown hK hP 0 rfl rfl 41 (by decide) (hts _ tw_1086) (fun _ h9 => h9) rfl dX10_secret_149 ?_
            refine lv_sipush (pc := 152) (v := nI 128) hx hb dX10_secret_152 (by decide +kernel) ?_
            refine lv_iload_n (pc := 155) hx hb dX10_secret_155 rfl (lv_at hl 2 rfl) ?_
            refine lv_imul (pc := 156) hx hb dX10_secret_156 ?_
            refine q_top (y := nI (128 * sd)) (pk_mul 128 sd) ?_
            refine lv_bipush (pc := 157) (v := nI 32) hx hb dX10_secret_157 (by decide +kernel) ?_
            refine lv_iload_n (pc := 159) hx hb dX10_secret_159 rfl (lv_at hl 3 rfl) ?_
            refine lv_imul (pc := 160) hx hb dX10_secret_160 ?_
            refine q_top (y := nI 32) (by decide +kernel) ?_
            refine lv_iadd (pc := 161) hx hb dX10_secret_161 ?_
            refine q_top (y := nI (128 * sd + 32)) (nI_add (128 * sd) 32) ?_
            refine lv_iload_n (pc := 162) hx hb dX10_secret_162 rfl (lv_at hl 4 rfl) ?_
            refine lv_iadd (pc := 163) hx hb dX10_secret_163 ?_
            refine q_top (y := nI (128 * sd + 32 + j9)) (nI_add (128 * sd + 32) j9) ?_
            refine q_bald (pc := 164) hx hb hK hP 1 2 rfl rfl (k := 128 * sd + 32 + j9) (v := qs (gke (128 * sd + 32 + j9))) rfl (by omega) (by omega) rfl dX10_secret_164 ?_
            refine lv_sipush (pc := 165) (v := nI 255) hx hb dX10_secret_165 (by decide +kernel) ?_
            refine lv_iand (pc := 168) hx hb dX10_secret_168 ?_
            refine q_top (y := qz (gke (128 * sd + 32 + j9))) ((q_m255 _).trans (congrArg qz (qlo_qs _))) ?_
            refine q_top (y := (qz (gke (128 * sd + 32 + j9)))) (by first | rfl | decide +kernel | (simp; done)) ?_
            have hq_19 : (((qz (gke (128 * sd + 32 + j9))) : Int32) = if se sd = 0 then -1 else secF (seg gke (128 * sd) (le sd)) (seg gke (128 * sd + 32) (le sd)) (seg gke (128 * sd + 64) (le sd)) (seg gke (128 * sd + 96) (le sd)) (seg gow (8 * sd) 8) (seg gth (8 * sd) 8) (seg gck (8 * sd) (if ru sd = 2 then 6 else 8)) (nI 1) (nI j9)) := by
              rw [if_neg (by omega)]
              symm
              first | rw [sec_0] | rw [sec_1] | rw [sec_2] | rw [sec_3] | rw [sec_4] | rw [sec_5] | rw [sec_6]
              first | exact at_big hge (by omega) seg_len | exact at_big hge (by omega) (by rw [seg_len, hw_59]) | exact at_seg (by omega) (by omega) | exact at_seg (by rw [← hw_59]; exact hj9) (by rw [← hw_59]; omega)
            exact hret (qz (gke (128 * sd + 32 + j9))) _ _ _ _ dX10_secret_169 hq_19 (hP.sub [0, 1, 2, 3, 4, 5, 6, 7] rfl) (hD.sub [0, 1, 2, 3, 4, 5, 6, 7] (by decide) rfl) hS
          · skip
            have hge := Int32.not_lt.mp c_18
            refine lv_iconst (pc := 70) (v := (-1)) hx hb dX10_secret_70 (by decide +kernel) ?_
            refine q_top (y := (-1)) (by first | rfl | decide +kernel | (simp; done)) ?_
            have hq_20 : (((-1) : Int32) = if se sd = 0 then -1 else secF (seg gke (128 * sd) (le sd)) (seg gke (128 * sd + 32) (le sd)) (seg gke (128 * sd + 64) (le sd)) (seg gke (128 * sd + 96) (le sd)) (seg gow (8 * sd) 8) (seg gth (8 * sd) 8) (seg gck (8 * sd) (if ru sd = 2 then 6 else 8)) (nI 1) j) := by
              rw [if_neg (by omega)]
              symm
              first | rw [sec_0] | rw [sec_1] | rw [sec_2] | rw [sec_3] | rw [sec_4] | rw [sec_5] | rw [sec_6]
              first | exact at_big hge (by omega) seg_len | exact at_big hge (by omega) (by rw [seg_len, hw_59]) | exact at_seg (by omega) (by omega) | exact at_seg (by rw [← hw_59]; exact hj9) (by rw [← hw_59]; omega)
            exact hret (-1) _ _ _ _ dX10_secret_71 hq_20 (hP.sub [0, 1, 2, 3, 4, 5, 6, 7] rfl) (hD.sub [0, 1, 2, 3, 4, 5, 6, 7] (by decide) rfl) hS
        · skip
          have hj0 := c_16
          refine lv_iconst (pc := 30) (v := (-1)) hx hb dX10_secret_30 (by decide +kernel) ?_
          refine q_top (y := (-1)) (by first | rfl | decide +kernel | (simp; done)) ?_
          have hq_21 : (((-1) : Int32) = if se sd = 0 then -1 else secF (seg gke (128 * sd) (le sd)) (seg gke (128 * sd + 32) (le sd)) (seg gke (128 * sd + 64) (le sd)) (seg gke (128 * sd + 96) (le sd)) (seg gow (8 * sd) 8) (seg gth (8 * sd) 8) (seg gck (8 * sd) (if ru sd = 2 then 6 else 8)) (nI 1) j) := by
            first | (rw [if_pos (by omega)]; done) | (rw [if_neg (by omega)]; first | exact hsn.symm | exact (sec_neg (Int32.not_le.mp hj0)).symm)
          exact hret (-1) _ _ _ _ dX10_secret_31 hq_21 (hP.sub [0, 1, 2, 3, 4, 5, 6, 7] rfl) (hD.sub [0, 1, 2, 3, 4, 5, 6, 7] (by decide) rfl) hS
    · skip
      by_cases hk2 : wh = nI 2
      · skip
        subst hk2
        refine lv_aload_n (pc := 7) hx hb dX10_secret_7 rfl (lv_at hl 0 rfl) ?_
        refine va_get (pc := 8) (D := D) (ci := 8) (v := .ref (a 39)) (C := RX10) (T := TX10) (N := 57) hx hb hts iu10 hown hK hP 0 rfl rfl 39 (by decide) (hts _ tw_1084) (fun _ h9 => h9) rfl dX10_secret_8 ?_
        refine lv_iload_n (pc := 11) hx hb dX10_secret_11 rfl (lv_at hl 1 rfl) ?_
        refine q_iald (pc := 12) hx hb hK hP 7 0 rfl rfl (k := sd) (v := nI (se sd)) rfl (by omega) (by omega) rfl dX10_secret_12 ?_
        refine lv_if_eq (pc := 13) (tgt := 30) hx hb dX10_secret_13 (by decide) (fun c_22 => ?_) (fun c_22 => ?_)
        · skip
          rw [q_eq0 (by omega)] at c_22
          have hs0 := c_22
          refine lv_iconst (pc := 30) (v := (-1)) hx hb dX10_secret_30 (by decide +kernel) ?_
          refine q_top (y := (-1)) (by first | rfl | decide +kernel | (simp; done)) ?_
          have hq_23 : (((-1) : Int32) = if se sd = 0 then -1 else secF (seg gke (128 * sd) (le sd)) (seg gke (128 * sd + 32) (le sd)) (seg gke (128 * sd + 64) (le sd)) (seg gke (128 * sd + 96) (le sd)) (seg gow (8 * sd) 8) (seg gth (8 * sd) 8) (seg gck (8 * sd) (if ru sd = 2 then 6 else 8)) (nI 2) j) := by
            first | (rw [if_pos (by omega)]; done) | (rw [if_neg (by omega)]; first | exact hsn.symm | exact (sec_neg (Int32.not_le.mp hj0)).symm)
          exact hret (-1) _ _ _ _ dX10_secret_31 hq_23 (hP.sub [0, 1, 2, 3, 4, 5, 6, 7] rfl) (hD.sub [0, 1, 2, 3, 4, 5, 6, 7] (by decide) rfl) hS
        · skip
          rw [q_eq0 (by omega)] at c_22
          have hs0 := c_22
          refine lv_iload_n (pc := 16) hx hb dX10_secret_16 rfl (lv_at hl 2 rfl) ?_
          refine lv_if_lt (pc := 17) (tgt := 30) hx hb dX10_secret_17 (by decide) (fun c_24 => absurd c_24 (by decide)) (fun _ => ?_)
          refine lv_iload_n (pc := 20) hx hb dX10_secret_20 rfl (lv_at hl 2 rfl) ?_
          refine lv_bipush (pc := 21) (v := nI 6) hx hb dX10_secret_21 (by decide +kernel) ?_
          refine lv_icmp_gt (pc := 23) (tgt := 30) hx hb dX10_secret_23 (by decide) (fun c_25 => absurd c_25 (by decide)) (fun _ => ?_)
          refine lv_iload_n (pc := 26) hx hb dX10_secret_26 rfl (lv_at hl 3 rfl) ?_
          refine lv_if_ge (pc := 27) (tgt := 32) hx hb dX10_secret_27 (by decide) (fun c_26 => ?_) (fun c_26 => ?_)
          · skip
            have hj0 := c_26
            refine lv_iload_n (pc := 32) hx hb dX10_secret_32 rfl (lv_at hl 2 rfl) ?_
            refine lv_iconst (pc := 33) (v := nI 4) hx hb dX10_secret_33 (by decide +kernel) ?_
            refine lv_icmp_ge (pc := 34) (tgt := 46) hx hb dX10_secret_34 (by decide) (fun c_27 => absurd c_27 (by decide)) (fun _ => ?_)
            refine lv_aload_n (pc := 37) hx hb dX10_secret_37 rfl (lv_at hl 0 rfl) ?_
            refine va_get (pc := 38) (D := D) (ci := 8) (v := .ref (a 37)) (C := RX10) (T := TX10) (N := 57) hx hb hts iu10 hown hK hP 0 rfl rfl 37 (by decide) (hts _ tw_1082) (fun _ h9 => h9) rfl dX10_secret_38 ?_
            refine lv_iload_n (pc := 41) hx hb dX10_secret_41 rfl (lv_at hl 1 rfl) ?_
            refine q_iald (pc := 42) hx hb hK hP 5 0 rfl rfl (k := sd) (v := nI (le sd)) rfl (by omega) (by omega) rfl dX10_secret_42 ?_
            refine lv_goto (pc := 43) (tgt := 62) hx hb dX10_secret_43 (by decide) ?_
            try have hw8 : w9_59 ≤ 8 := by rw [hw_59]; split <;> omega
            refine lv_istore (pc := 62) (lv' := [(4, .int (nI (le sd))), (0, .ref h0), (1, .int (nI sd)), (2, .int (nI 2)), (3, .int j)]) hx hb dX10_secret_62 hl (by decide) rfl (fun ls hl => ?_)
            refine lv_iload_n (pc := 64) hx hb dX10_secret_64 rfl (lv_at hl 4 rfl) ?_
            refine lv_iload (pc := 65) hx hb dX10_secret_65 (lv_at hl 0 rfl) ?_
            refine lv_icmp_lt (pc := 67) (tgt := 72) hx hb dX10_secret_67 (by decide) (fun c_28 => ?_) (fun c_28 => ?_)
            · skip
              obtain ⟨j9, hj9, rfl⟩ := q_ix (Int32.not_lt.mpr hj0) (Int32.not_le.mpr c_28) (by omega)
              refine lv_iload_n (pc := 72) hx hb dX10_secret_72 rfl (lv_at hl 3 rfl) ?_
              refine lv_tableOut (pc := 73) (tgt := 148) hx hb dX10_secret_73 (Or.inl (by decide)) (by decide) ?_
              refine lv_aload_n (pc := 148) hx hb dX10_secret_148 rfl (lv_at hl 1 rfl) ?_
              refine va_get (pc := 149) (D := D) (ci := 8) (v := .ref (a 41)) (C := RX10) (T := TX10) (N := 57) hx hb hts iu10 hown hK hP 0 rfl rfl 41 (by decide) (hts _ tw_1086) (fun _ h9 => h9) rfl dX10_secret_149 ?_
              refine lv_sipush (pc := 152) (v := nI 128) hx hb dX10_secret_152 (by decide +kernel) ?_
              refine lv_iload_n (pc := 155) hx hb dX10_secret_155 rfl (lv_at hl 2 rfl) ?_
              refine lv_imul (pc := 156) hx hb dX10_secret_156 ?_
              refine q_top (y := nI (128 * sd)) (pk_mul 128 sd) ?_
              refine lv_bipush (pc := 157) (v := nI 32) hx hb dX10_secret_157 (by decide +kernel) ?_
              refine lv_iload_n (pc := 159) hx hb dX10_secret_159 rfl (lv_at hl 3 rfl) ?_
              refine lv_imul (pc := 160) hx hb dX10_secret_160 ?_
              refine q_top (y := nI 64) (by decide +kernel) ?_
              refine lv_iadd (pc := 161) hx hb dX10_secret_161 ?_
              refine q_top (y := nI (128 * sd + 64)) (nI_add (128 * sd) 64) ?_
              refine lv_iload_n (pc := 162) hx hb dX10_secret_162 rfl (lv_at hl 4 rfl) ?_
              refine lv_iadd (pc := 163) hx hb dX10_secret_163 ?_
              refine q_top (y := nI (128 * sd + 64 + j9)) (nI_add (128 * sd + 64) j9) ?_
              refine q_bald (pc := 164) hx hb hK hP 1 2 rfl rfl (k := 128 * sd + 64 + j9) (v := qs (gke (128 * sd + 64 + j9))) rfl (by omega) (by omega) rfl dX10_secret_164 ?_
              refine lv_sipush (pc := 165) (v := nI 255) hx hb dX10_secret_165 (by decide +kernel) ?_
              refine lv_iand (pc := 168) hx hb dX10_secret_168 ?_
              refine q_top (y := qz (gke (128 * sd + 64 + j9))) ((q_m255 _).trans (congrArg qz (qlo_qs _))) ?_
              refine q_top (y := (qz (gke (128 * sd + 64 + j9)))) (by first | rfl | decide +kernel | (simp; done)) ?_
              have hq_29 : (((qz (gke (128 * sd + 64 + j9))) : Int32) = if se sd = 0 then -1 else secF (seg gke (128 * sd) (le sd)) (seg gke (128 * sd + 32) (le sd)) (seg gke (128 * sd + 64) (le sd)) (seg gke (128 * sd + 96) (le sd)) (seg gow (8 * sd) 8) (seg gth (8 * sd) 8) (seg gck (8 * sd) (if ru sd = 2 then 6 else 8)) (nI 2) (nI j9)) := by
                rw [if_neg (by omega)]
                symm
                first | rw [sec_0] | rw [sec_1] | rw [sec_2] | rw [sec_3] | rw [sec_4] | rw [sec_5] | rw [sec_6]
                first | exact at_big hge (by omega) seg_len | exact at_big hge (by omega) (by rw [seg_len, hw_59]) | exact at_seg (by omega) (by omega) | exact at_seg (by rw [← hw_59]; exact hj9) (by rw [← hw_59]; omega)
              exact hret (qz (gke (128 * sd + 64 + j9))) _ _ _ _ dX10_secret_169 hq_29 (hP.sub [0, 1, 2, 3, 4, 5, 6, 7] rfl) (hD.sub [0, 1, 2, 3, 4, 5, 6, 7] (by decide) rfl) hS
            · skip
              have hge := Int32.not_lt.mp c_28
              refine lv_iconst (pc := 70) (v := (-1)) hx hb dX10_secret_70 (by decide +kernel) ?_
              refine q_top (y := (-1)) (by first | rfl | decide +kernel | (simp; done)) ?_
              have hq_30 : (((-1) : Int32) = if se sd = 0 then -1 else secF (seg gke (128 * sd) (le sd)) (seg gke (128 * sd + 32) (le sd)) (seg gke (128 * sd + 64) (le sd)) (seg gke (128 * sd + 96) (le sd)) (seg gow (8 * sd) 8) (seg gth (8 * sd) 8) (seg gck (8 * sd) (if ru sd = 2 then 6 else 8)) (nI 2) j) := by
                rw [if_neg (by omega)]
                symm
                first | rw [sec_0] | rw [sec_1] | rw [sec_2] | rw [sec_3] | rw [sec_4] | rw [sec_5] | rw [sec_6]
                first | exact at_big hge (by omega) seg_len | exact at_big hge (by omega) (by rw [seg_len, hw_59]) | exact at_seg (by omega) (by omega) | exact at_seg (by rw [← hw_59]; exact hj9) (by rw [← hw_59]; omega)
              exact hret (-1) _ _ _ _ dX10_secret_71 hq_30 (hP.sub [0, 1, 2, 3, 4, 5, 6, 7] rfl) (hD.sub [0, 1, 2, 3, 4, 5, 6, 7] (by decide) rfl) hS
          · skip
            have hj0 := c_26
            refine lv_iconst (pc := 30) (v := (-1)) hx hb dX10_secret_30 (by decide +kernel) ?_
            refine q_top (y := (-1)) (by first | rfl | decide +kernel | (simp; done)) ?_
            have hq_31 : (((-1) : Int32) = if se sd = 0 then -1 else secF (seg gke (128 * sd) (le sd)) (seg gke (128 * sd + 32) (le sd)) (seg gke (128 * sd + 64) (le sd)) (seg gke (128 * sd + 96) (le sd)) (seg gow (8 * sd) 8) (seg gth (8 * sd) 8) (seg gck (8 * sd) (if ru sd = 2 then 6 else 8)) (nI 2) j) := by
              first | (rw [if_pos (by omega)]; done) | (rw [if_neg (by omega)]; first | exact hsn.symm | exact (sec_neg (Int32.not_le.mp hj0)).symm)
            exact hret (-1) _ _ _ _ dX10_secret_31 hq_31 (hP.sub [0, 1, 2, 3, 4, 5, 6, 7] rfl) (hD.sub [0, 1, 2, 3, 4, 5, 6, 7] (by decide) rfl) hS
      · skip
        by_cases hk3 : wh = nI 3
        · skip
          subst hk3
          refine lv_aload_n (pc := 7) hx hb dX10_secret_7 rfl (lv_at hl 0 rfl) ?_
          refine va_get (pc := 8) (D := D) (ci := 8) (v := .ref (a 39)) (C := RX10) (T := TX10) (N := 57) hx hb hts iu10 hown hK hP 0 rfl rfl 39 (by decide) (hts _ tw_1084) (fun _ h9 => h9) rfl dX10_secret_8 ?_
          refine lv_iload_n (pc := 11) hx hb dX10_secret_11 rfl (lv_at hl 1 rfl) ?_
          refine q_iald (pc := 12) hx hb hK hP 7 0 rfl rfl (k := sd) (v := nI (se sd)) rfl (by omega) (by omega) rfl dX10_secret_12 ?_
          refine lv_if_eq (pc := 13) (tgt := 30) hx hb dX10_secret_13 (by decide) (fun c_32 => ?_) (fun c_32 => ?_)
          · skip
            rw [q_eq0 (by omega)] at c_32
            have hs0 := c_32
            refine lv_iconst (pc := 30) (v := (-1)) hx hb dX10_secret_30 (by decide +kernel) ?_
            refine q_top (y := (-1)) (by first | rfl | decide +kernel | (simp; done)) ?_
            have hq_33 : (((-1) : Int32) = if se sd = 0 then -1 else secF (seg gke (128 * sd) (le sd)) (seg gke (128 * sd + 32) (le sd)) (seg gke (128 * sd + 64) (le sd)) (seg gke (128 * sd + 96) (le sd)) (seg gow (8 * sd) 8) (seg gth (8 * sd) 8) (seg gck (8 * sd) (if ru sd = 2 then 6 else 8)) (nI 3) j) := by
              first | (rw [if_pos (by omega)]; done) | (rw [if_neg (by omega)]; first | exact hsn.symm | exact (sec_neg (Int32.not_le.mp hj0)).symm)
            exact hret (-1) _ _ _ _ dX10_secret_31 hq_33 (hP.sub [0, 1, 2, 3, 4, 5, 6, 7] rfl) (hD.sub [0, 1, 2, 3, 4, 5, 6, 7] (by decide) rfl) hS
          · skip
            rw [q_eq0 (by omega)] at c_32
            have hs0 := c_32
            refine lv_iload_n (pc := 16) hx hb dX10_secret_16 rfl (lv_at hl 2 rfl) ?_
            refine lv_if_lt (pc := 17) (tgt := 30) hx hb dX10_secret_17 (by decide) (fun c_34 => absurd c_34 (by decide)) (fun _ => ?_)
            refine lv_iload_n (pc := 20) hx hb dX10_secret_20 rfl (lv_at hl 2 rfl) ?_
            refine lv_bipush (pc := 21) (v := nI 6) hx hb dX10_secret_21 (by decide +kernel) ?_
            refine lv_icmp_gt (pc := 23) (tgt := 30) hx hb dX10_secret_23 (by decide) (fun c_35 => absurd c_35 (by decide)) (fun _ => ?_)
            refine lv_iload_n (pc := 26) hx hb dX10_secret_26 rfl (lv_at hl 3 rfl) ?_
            refine lv_if_ge (pc := 27) (tgt := 32) hx hb dX10_secret_27 (by decide) (fun c_36 => ?_) (fun c_36 => ?_)
            · skip
              have hj0 := c_36
              refine lv_iload_n (pc := 32) hx hb dX10_secret_32 rfl (lv_at hl 2 rfl) ?_
              refine lv_iconst (pc := 33) (v := nI 4) hx hb dX10_secret_33 (by decide +kernel) ?_
              refine lv_icmp_ge (pc := 34) (tgt := 46) hx hb dX10_secret_34 (by decide) (fun c_37 => absurd c_37 (by decide)) (fun _ => ?_)
              refine lv_aload_n (pc := 37) hx hb dX10_secret_37 rfl (lv_at hl 0 rfl) ?_
              refine va_get (pc := 38) (D := D) (ci := 8) (v := .ref (a 37)) (C := RX10) (T := TX10) (N := 57) hx hb hts iu10 hown hK hP 0 rfl rfl 37 (by decide) (hts _ tw_1082) (fun _ h9 => h9) rfl dX10_secret_38 ?_
              refine lv_iload_n (pc := 41) hx hb dX10_secret_41 rfl (lv_at hl 1 rfl) ?_
              refine q_iald (pc := 42) hx hb hK hP 5 0 rfl rfl (k := sd) (v := nI (le sd)) rfl (by omega) (by omega) rfl dX10_secret_42 ?_
              refine lv_goto (pc := 43) (tgt := 62) hx hb dX10_secret_43 (by decide) ?_
              try have hw8 : w9_59 ≤ 8 := by rw [hw_59]; split <;> omega
              refine lv_istore (pc := 62) (lv' := [(4, .int (nI (le sd))), (0, .ref h0), (1, .int (nI sd)), (2, .int (nI 3)), (3, .int j)]) hx hb dX10_secret_62 hl (by decide) rfl (fun ls hl => ?_)
              refine lv_iload_n (pc := 64) hx hb dX10_secret_64 rfl (lv_at hl 4 rfl) ?_
              refine lv_iload (pc := 65) hx hb dX10_secret_65 (lv_at hl 0 rfl) ?_
              refine lv_icmp_lt (pc := 67) (tgt := 72) hx hb dX10_secret_67 (by decide) (fun c_38 => ?_) (fun c_38 => ?_)
              · skip
                obtain ⟨j9, hj9, rfl⟩ := q_ix (Int32.not_lt.mpr hj0) (Int32.not_le.mpr c_38) (by omega)
                refine lv_iload_n (pc := 72) hx hb dX10_secret_72 rfl (lv_at hl 3 rfl) ?_
                refine lv_tableOut (pc := 73) (tgt := 148) hx hb dX10_secret_73 (Or.inl (by decide)) (by decide) ?_
                refine lv_aload_n (pc := 148) hx hb dX10_secret_148 rfl (lv_at hl 1 rfl) ?_
                refine va_get (pc := 149) (D := D) (ci := 8) (v := .ref (a 41)) (C := RX10) (T := TX10) (N := 57) hx hb hts iu10 hown hK hP 0 rfl rfl 41 (by decide) (hts _ tw_1086) (fun _ h9 => h9) rfl dX10_secret_149 ?_
                refine lv_sipush (pc := 152) (v := nI 128) hx hb dX10_secret_152 (by decide +kernel) ?_
                refine lv_iload_n (pc := 155) hx hb dX10_secret_155 rfl (lv_at hl 2 rfl) ?_
                refine lv_imul (pc := 156) hx hb dX10_secret_156 ?_
                refine q_top (y := nI (128 * sd)) (pk_mul 128 sd) ?_
                refine lv_bipush (pc := 157) (v := nI 32) hx hb dX10_secret_157 (by decide +kernel) ?_
                refine lv_iload_n (pc := 159) hx hb dX10_secret_159 rfl (lv_at hl 3 rfl) ?_
                refine lv_imul (pc := 160) hx hb dX10_secret_160 ?_
                refine q_top (y := nI 96) (by decide +kernel) ?_
                refine lv_iadd (pc := 161) hx hb dX10_secret_161 ?_
                refine q_top (y := nI (128 * sd + 96)) (nI_add (128 * sd) 96) ?_
                refine lv_iload_n (pc := 162) hx hb dX10_secret_162 rfl (lv_at hl 4 rfl) ?_
                refine lv_iadd (pc := 163) hx hb dX10_secret_163 ?_
                refine q_top (y := nI (128 * sd + 96 + j9)) (nI_add (128 * sd + 96) j9) ?_
                refine q_bald (pc := 164) hx hb hK hP 1 2 rfl rfl (k := 128 * sd + 96 + j9) (v := qs (gke (128 * sd + 96 + j9))) rfl (by omega) (by omega) rfl dX10_secret_164 ?_
                refine lv_sipush (pc := 165) (v := nI 255) hx hb dX10_secret_165 (by decide +kernel) ?_
                refine lv_iand (pc := 168) hx hb dX10_secret_168 ?_
                refine q_top (y := qz (gke (128 * sd + 96 + j9))) ((q_m255 _).trans (congrArg qz (qlo_qs _))) ?_
                refine q_top (y := (qz (gke (128 * sd + 96 + j9)))) (by first | rfl | decide +kernel | (simp; done)) ?_
                have hq_39 : (((qz (gke (128 * sd + 96 + j9))) : Int32) = if se sd = 0 then -1 else secF (seg gke (128 * sd) (le sd)) (seg gke (128 * sd + 32) (le sd)) (seg gke (128 * sd + 64) (le sd)) (seg gke (128 * sd + 96) (le sd)) (seg gow (8 * sd) 8) (seg gth (8 * sd) 8) (seg gck (8 * sd) (if ru sd = 2 then 6 else 8)) (nI 3) (nI j9)) := by
                  rw [if_neg (by omega)]
                  symm
                  first | rw [sec_0] | rw [sec_1] | rw [sec_2] | rw [sec_3] | rw [sec_4] | rw [sec_5] | rw [sec_6]
                  first | exact at_big hge (by omega) seg_len | exact at_big hge (by omega) (by rw [seg_len, hw_59]) | exact at_seg (by omega) (by omega) | exact at_seg (by rw [← hw_59]; exact hj9) (by rw [← hw_59]; omega)
                exact hret (qz (gke (128 * sd + 96 + j9))) _ _ _ _ dX10_secret_169 hq_39 (hP.sub [0, 1, 2, 3, 4, 5, 6, 7] rfl) (hD.sub [0, 1, 2, 3, 4, 5, 6, 7] (by decide) rfl) hS
              · skip
                have hge := Int32.not_lt.mp c_38
                refine lv_iconst (pc := 70) (v := (-1)) hx hb dX10_secret_70 (by decide +kernel) ?_
                refine q_top (y := (-1)) (by first | rfl | decide +kernel | (simp; done)) ?_
                have hq_40 : (((-1) : Int32) = if se sd = 0 then -1 else secF (seg gke (128 * sd) (le sd)) (seg gke (128 * sd + 32) (le sd)) (seg gke (128 * sd + 64) (le sd)) (seg gke (128 * sd + 96) (le sd)) (seg gow (8 * sd) 8) (seg gth (8 * sd) 8) (seg gck (8 * sd) (if ru sd = 2 then 6 else 8)) (nI 3) j) := by
                  rw [if_neg (by omega)]
                  symm
                  first | rw [sec_0] | rw [sec_1] | rw [sec_2] | rw [sec_3] | rw [sec_4] | rw [sec_5] | rw [sec_6]
                  first | exact at_big hge (by omega) seg_len | exact at_big hge (by omega) (by rw [seg_len, hw_59]) | exact at_seg (by omega) (by omega) | exact at_seg (by rw [← hw_59]; exact hj9) (by rw [← hw_59]; omega)
                exact hret (-1) _ _ _ _ dX10_secret_71 hq_40 (hP.sub [0, 1, 2, 3, 4, 5, 6, 7] rfl) (hD.sub [0, 1, 2, 3, 4, 5, 6, 7] (by decide) rfl) hS
            · skip
              have hj0 := c_36
              refine lv_iconst (pc := 30) (v := (-1)) hx hb dX10_secret_30 (by decide +kernel) ?_
              refine q_top (y := (-1)) (by first | rfl | decide +kernel | (simp; done)) ?_
              have hq_41 : (((-1) : Int32) = if se sd = 0 then -1 else secF (seg gke (128 * sd) (le sd)) (seg gke (128 * sd + 32) (le sd)) (seg gke (128 * sd + 64) (le sd)) (seg gke (128 * sd + 96) (le sd)) (seg gow (8 * sd) 8) (seg gth (8 * sd) 8) (seg gck (8 * sd) (if ru sd = 2 then 6 else 8)) (nI 3) j) := by
                first | (rw [if_pos (by omega)]; done) | (rw [if_neg (by omega)]; first | exact hsn.symm | exact (sec_neg (Int32.not_le.mp hj0)).symm)
              exact hret (-1) _ _ _ _ dX10_secret_31 hq_41 (hP.sub [0, 1, 2, 3, 4, 5, 6, 7] rfl) (hD.sub [0, 1, 2, 3, 4, 5, 6, 7] (by decide) rfl) hS
        · skip
          by_cases hk4 : wh = nI 4
          · skip
            subst hk4
            refine lv_aload_n (pc := 7) hx hb dX10_secret_7 rfl (lv_at hl 0 rfl) ?_
            refine va_get (pc := 8) (D := D) (ci := 8) (v := .ref (a 39)) (C := RX10) (T := TX10) (N := 57) hx hb hts iu10 hown hK hP 0 rfl rfl 39 (by decide) (hts _ tw_1084) (fun _ h9 => h9) rfl dX10_secret_8 ?_
            refine lv_iload_n (pc := 11) hx hb dX10_secret_11 rfl (lv_at hl 1 rfl) ?_
            refine q_iald (pc := 12) hx hb hK hP 7 0 rfl rfl (k := sd) (v := nI (se sd)) rfl (by omega) (by omega) rfl dX10_secret_12 ?_
            refine lv_if_eq (pc := 13) (tgt := 30) hx hb dX10_secret_13 (by decide) (fun c_42 => ?_) (fun c_42 => ?_)
            · skip
              rw [q_eq0 (by omega)] at c_42
              have hs0 := c_42
              refine lv_iconst (pc := 30) (v := (-1)) hx hb dX10_secret_30 (by decide +kernel) ?_
              refine q_top (y := (-1)) (by first | rfl | decide +kernel | (simp; done)) ?_
              have hq_43 : (((-1) : Int32) = if se sd = 0 then -1 else secF (seg gke (128 * sd) (le sd)) (seg gke (128 * sd + 32) (le sd)) (seg gke (128 * sd + 64) (le sd)) (seg gke (128 * sd + 96) (le sd)) (seg gow (8 * sd) 8) (seg gth (8 * sd) 8) (seg gck (8 * sd) (if ru sd = 2 then 6 else 8)) (nI 4) j) := by
                first | (rw [if_pos (by omega)]; done) | (rw [if_neg (by omega)]; first | exact hsn.symm | exact (sec_neg (Int32.not_le.mp hj0)).symm)
              exact hret (-1) _ _ _ _ dX10_secret_31 hq_43 (hP.sub [0, 1, 2, 3, 4, 5, 6, 7] rfl) (hD.sub [0, 1, 2, 3, 4, 5, 6, 7] (by decide) rfl) hS
            · skip
              rw [q_eq0 (by omega)] at c_42
              have hs0 := c_42
              refine lv_iload_n (pc := 16) hx hb dX10_secret_16 rfl (lv_at hl 2 rfl) ?_
              refine lv_if_lt (pc := 17) (tgt := 30) hx hb dX10_secret_17 (by decide) (fun c_44 => absurd c_44 (by decide)) (fun _ => ?_)
              refine lv_iload_n (pc := 20) hx hb dX10_secret_20 rfl (lv_at hl 2 rfl) ?_
              refine lv_bipush (pc := 21) (v := nI 6) hx hb dX10_secret_21 (by decide +kernel) ?_
              refine lv_icmp_gt (pc := 23) (tgt := 30) hx hb dX10_secret_23 (by decide) (fun c_45 => absurd c_45 (by decide)) (fun _ => ?_)
              refine lv_iload_n (pc := 26) hx hb dX10_secret_26 rfl (lv_at hl 3 rfl) ?_
              refine lv_if_ge (pc := 27) (tgt := 32) hx hb dX10_secret_27 (by decide) (fun c_46 => ?_) (fun c_46 => ?_)
              · skip
                have hj0 := c_46
                refine lv_iload_n (pc := 32) hx hb dX10_secret_32 rfl (lv_at hl 2 rfl) ?_
                refine lv_iconst (pc := 33) (v := nI 4) hx hb dX10_secret_33 (by decide +kernel) ?_
                refine lv_icmp_ge (pc := 34) (tgt := 46) hx hb dX10_secret_34 (by decide) (fun _ => ?_) (fun c_47 => absurd (by decide) c_47)
                refine lv_iload_n (pc := 46) hx hb dX10_secret_46 rfl (lv_at hl 2 rfl) ?_
                refine lv_bipush (pc := 47) (v := nI 6) hx hb dX10_secret_47 (by decide +kernel) ?_
                refine lv_icmp_ge (pc := 49) (tgt := 57) hx hb dX10_secret_49 (by decide) (fun c_48 => absurd c_48 (by decide)) (fun _ => ?_)
                refine lv_bipush (pc := 52) (v := nI 8) hx hb dX10_secret_52 (by decide +kernel) ?_
                refine lv_goto (pc := 54) (tgt := 62) hx hb dX10_secret_54 (by decide) ?_
                try have hw8 : w9_59 ≤ 8 := by rw [hw_59]; split <;> omega
                refine lv_istore (pc := 62) (lv' := [(4, .int (nI 8)), (0, .ref h0), (1, .int (nI sd)), (2, .int (nI 4)), (3, .int j)]) hx hb dX10_secret_62 hl (by decide) rfl (fun ls hl => ?_)
                refine lv_iload_n (pc := 64) hx hb dX10_secret_64 rfl (lv_at hl 4 rfl) ?_
                refine lv_iload (pc := 65) hx hb dX10_secret_65 (lv_at hl 0 rfl) ?_
                refine lv_icmp_lt (pc := 67) (tgt := 72) hx hb dX10_secret_67 (by decide) (fun c_49 => ?_) (fun c_49 => ?_)
                · skip
                  obtain ⟨j9, hj9, rfl⟩ := q_ix (Int32.not_lt.mpr hj0) (Int32.not_le.mpr c_49) (by omega)
                  refine lv_iload_n (pc := 72) hx hb dX10_secret_72 rfl (lv_at hl 3 rfl) ?_
                  refine lv_tableIn (pc := 73) (tgt := 100) hx hb dX10_secret_73 (off := 27) (by decide) (by decide) (by decide) (by decide) ?_
                  refine lv_aload_n (pc := 100) hx hb dX10_secret_100 rfl (lv_at hl 1 rfl) ?_
                  refine va_get (pc := 101) (D := D) (ci := 8) (v := .ref (a 42)) (C := RX10) (T := TX10) (N := 57) hx hb hts iu10 hown hK hP 0 rfl rfl 42 (by decide) (hts _ tw_1087) (fun _ h9 => h9) rfl dX10_secret_101 ?_
                  refine lv_bipush (pc := 104) (v := nI 8) hx hb dX10_secret_104 (by decide +kernel) ?_
                  refine lv_iload_n (pc := 106) hx hb dX10_secret_106 rfl (lv_at hl 2 rfl) ?_
                  refine lv_imul (pc := 107) hx hb dX10_secret_107 ?_
                  refine q_top (y := nI (8 * sd)) (pk_mul 8 sd) ?_
                  refine lv_iload_n (pc := 108) hx hb dX10_secret_108 rfl (lv_at hl 4 rfl) ?_
                  refine lv_iadd (pc := 109) hx hb dX10_secret_109 ?_
                  refine q_top (y := nI (8 * sd + j9)) (nI_add (8 * sd) j9) ?_
                  refine q_bald (pc := 110) hx hb hK hP 2 2 rfl rfl (k := 8 * sd + j9) (v := qs (gow (8 * sd + j9))) rfl (by omega) (by omega) rfl dX10_secret_110 ?_
                  refine lv_sipush (pc := 111) (v := nI 255) hx hb dX10_secret_111 (by decide +kernel) ?_
                  refine lv_iand (pc := 114) hx hb dX10_secret_114 ?_
                  refine q_top (y := qz (gow (8 * sd + j9))) ((q_m255 _).trans (congrArg qz (qlo_qs _))) ?_
                  refine q_top (y := (qz (gow (8 * sd + j9)))) (by first | rfl | decide +kernel | (simp; done)) ?_
                  have hq_50 : (((qz (gow (8 * sd + j9))) : Int32) = if se sd = 0 then -1 else secF (seg gke (128 * sd) (le sd)) (seg gke (128 * sd + 32) (le sd)) (seg gke (128 * sd + 64) (le sd)) (seg gke (128 * sd + 96) (le sd)) (seg gow (8 * sd) 8) (seg gth (8 * sd) 8) (seg gck (8 * sd) (if ru sd = 2 then 6 else 8)) (nI 4) (nI j9)) := by
                    rw [if_neg (by omega)]
                    symm
                    first | rw [sec_0] | rw [sec_1] | rw [sec_2] | rw [sec_3] | rw [sec_4] | rw [sec_5] | rw [sec_6]
                    first | exact at_big hge (by omega) seg_len | exact at_big hge (by omega) (by rw [seg_len, hw_59]) | exact at_seg (by omega) (by omega) | exact at_seg (by rw [← hw_59]; exact hj9) (by rw [← hw_59]; omega)
                  exact hret (qz (gow (8 * sd + j9))) _ _ _ _ dX10_secret_115 hq_50 (hP.sub [0, 1, 2, 3, 4, 5, 6, 7] rfl) (hD.sub [0, 1, 2, 3, 4, 5, 6, 7] (by decide) rfl) hS
                · skip
                  have hge := Int32.not_lt.mp c_49
                  refine lv_iconst (pc := 70) (v := (-1)) hx hb dX10_secret_70 (by decide +kernel) ?_
                  refine q_top (y := (-1)) (by first | rfl | decide +kernel | (simp; done)) ?_
                  have hq_51 : (((-1) : Int32) = if se sd = 0 then -1 else secF (seg gke (128 * sd) (le sd)) (seg gke (128 * sd + 32) (le sd)) (seg gke (128 * sd + 64) (le sd)) (seg gke (128 * sd + 96) (le sd)) (seg gow (8 * sd) 8) (seg gth (8 * sd) 8) (seg gck (8 * sd) (if ru sd = 2 then 6 else 8)) (nI 4) j) := by
                    rw [if_neg (by omega)]
                    symm
                    first | rw [sec_0] | rw [sec_1] | rw [sec_2] | rw [sec_3] | rw [sec_4] | rw [sec_5] | rw [sec_6]
                    first | exact at_big hge (by omega) seg_len | exact at_big hge (by omega) (by rw [seg_len, hw_59]) | exact at_seg (by omega) (by omega) | exact at_seg (by rw [← hw_59]; exact hj9) (by rw [← hw_59]; omega)
                  exact hret (-1) _ _ _ _ dX10_secret_71 hq_51 (hP.sub [0, 1, 2, 3, 4, 5, 6, 7] rfl) (hD.sub [0, 1, 2, 3, 4, 5, 6, 7] (by decide) rfl) hS
              · skip
                have hj0 := c_46
                refine lv_iconst (pc := 30) (v := (-1)) hx hb dX10_secret_30 (by decide +kernel) ?_
                refine q_top (y := (-1)) (by first | rfl | decide +kernel | (simp; done)) ?_
                have hq_52 : (((-1) : Int32) = if se sd = 0 then -1 else secF (seg gke (128 * sd) (le sd)) (seg gke (128 * sd + 32) (le sd)) (seg gke (128 * sd + 64) (le sd)) (seg gke (128 * sd + 96) (le sd)) (seg gow (8 * sd) 8) (seg gth (8 * sd) 8) (seg gck (8 * sd) (if ru sd = 2 then 6 else 8)) (nI 4) j) := by
                  first | (rw [if_pos (by omega)]; done) | (rw [if_neg (by omega)]; first | exact hsn.symm | exact (sec_neg (Int32.not_le.mp hj0)).symm)
                exact hret (-1) _ _ _ _ dX10_secret_31 hq_52 (hP.sub [0, 1, 2, 3, 4, 5, 6, 7] rfl) (hD.sub [0, 1, 2, 3, 4, 5, 6, 7] (by decide) rfl) hS
          · skip
            by_cases hk5 : wh = nI 5
            · skip
              subst hk5
              refine lv_aload_n (pc := 7) hx hb dX10_secret_7 rfl (lv_at hl 0 rfl) ?_
              refine va_get (pc := 8) (D := D) (ci := 8) (v := .ref (a 39)) (C := RX10) (T := TX10) (N := 57) hx hb hts iu10 hown hK hP 0 rfl rfl 39 (by decide) (hts _ tw_1084) (fun _ h9 => h9) rfl dX10_secret_8 ?_
              refine lv_iload_n (pc := 11) hx hb dX10_secret_11 rfl (lv_at hl 1 rfl) ?_
              refine q_iald (pc := 12) hx hb hK hP 7 0 rfl rfl (k := sd) (v := nI (se sd)) rfl (by omega) (by omega) rfl dX10_secret_12 ?_
              refine lv_if_eq (pc := 13) (tgt := 30) hx hb dX10_secret_13 (by decide) (fun c_53 => ?_) (fun c_53 => ?_)
              · skip
                rw [q_eq0 (by omega)] at c_53
                have hs0 := c_53
                refine lv_iconst (pc := 30) (v := (-1)) hx hb dX10_secret_30 (by decide +kernel) ?_
                refine q_top (y := (-1)) (by first | rfl | decide +kernel | (simp; done)) ?_
                have hq_54 : (((-1) : Int32) = if se sd = 0 then -1 else secF (seg gke (128 * sd) (le sd)) (seg gke (128 * sd + 32) (le sd)) (seg gke (128 * sd + 64) (le sd)) (seg gke (128 * sd + 96) (le sd)) (seg gow (8 * sd) 8) (seg gth (8 * sd) 8) (seg gck (8 * sd) (if ru sd = 2 then 6 else 8)) (nI 5) j) := by
                  first | (rw [if_pos (by omega)]; done) | (rw [if_neg (by omega)]; first | exact hsn.symm | exact (sec_neg (Int32.not_le.mp hj0)).symm)
                exact hret (-1) _ _ _ _ dX10_secret_31 hq_54 (hP.sub [0, 1, 2, 3, 4, 5, 6, 7] rfl) (hD.sub [0, 1, 2, 3, 4, 5, 6, 7] (by decide) rfl) hS
              · skip
                rw [q_eq0 (by omega)] at c_53
                have hs0 := c_53
                refine lv_iload_n (pc := 16) hx hb dX10_secret_16 rfl (lv_at hl 2 rfl) ?_
                refine lv_if_lt (pc := 17) (tgt := 30) hx hb dX10_secret_17 (by decide) (fun c_55 => absurd c_55 (by decide)) (fun _ => ?_)
                refine lv_iload_n (pc := 20) hx hb dX10_secret_20 rfl (lv_at hl 2 rfl) ?_
                refine lv_bipush (pc := 21) (v := nI 6) hx hb dX10_secret_21 (by decide +kernel) ?_
                refine lv_icmp_gt (pc := 23) (tgt := 30) hx hb dX10_secret_23 (by decide) (fun c_56 => absurd c_56 (by decide)) (fun _ => ?_)
                refine lv_iload_n (pc := 26) hx hb dX10_secret_26 rfl (lv_at hl 3 rfl) ?_
                refine lv_if_ge (pc := 27) (tgt := 32) hx hb dX10_secret_27 (by decide) (fun c_57 => ?_) (fun c_57 => ?_)
                · skip
                  have hj0 := c_57
                  refine lv_iload_n (pc := 32) hx hb dX10_secret_32 rfl (lv_at hl 2 rfl) ?_
                  refine lv_iconst (pc := 33) (v := nI 4) hx hb dX10_secret_33 (by decide +kernel) ?_
                  refine lv_icmp_ge (pc := 34) (tgt := 46) hx hb dX10_secret_34 (by decide) (fun _ => ?_) (fun c_58 => absurd (by decide) c_58)
                  refine lv_iload_n (pc := 46) hx hb dX10_secret_46 rfl (lv_at hl 2 rfl) ?_
                  refine lv_bipush (pc := 47) (v := nI 6) hx hb dX10_secret_47 (by decide +kernel) ?_
                  refine lv_icmp_ge (pc := 49) (tgt := 57) hx hb dX10_secret_49 (by decide) (fun c_59 => absurd c_59 (by decide)) (fun _ => ?_)
                  refine lv_bipush (pc := 52) (v := nI 8) hx hb dX10_secret_52 (by decide +kernel) ?_
                  refine lv_goto (pc := 54) (tgt := 62) hx hb dX10_secret_54 (by decide) ?_
                  try have hw8 : w9_59 ≤ 8 := by rw [hw_59]; split <;> omega
                  refine lv_istore (pc := 62) (lv' := [(4, .int (nI 8)), (0, .ref h0), (1, .int (nI sd)), (2, .int (nI 5)), (3, .int j)]) hx hb dX10_secret_62 hl (by decide) rfl (fun ls hl => ?_)
                  refine lv_iload_n (pc := 64) hx hb dX10_secret_64 rfl (lv_at hl 4 rfl) ?_
                  refine lv_iload (pc := 65) hx hb dX10_secret_65 (lv_at hl 0 rfl) ?_
                  refine lv_icmp_lt (pc := 67) (tgt := 72) hx hb dX10_secret_67 (by decide) (fun c_60 => ?_) (fun c_60 => ?_)
                  · skip
                    obtain ⟨j9, hj9, rfl⟩ := q_ix (Int32.not_lt.mpr hj0) (Int32.not_le.mpr c_60) (by omega)
                    refine lv_iload_n (pc := 72) hx hb dX10_secret_72 rfl (lv_at hl 3 rfl) ?_
                    refine lv_tableIn (pc := 73) (tgt := 116) hx hb dX10_secret_73 (off := 43) (by decide) (by decide) (by decide) (by decide) ?_
                    refine lv_aload_n (pc := 116) hx hb dX10_secret_116 rfl (lv_at hl 1 rfl) ?_
                    refine va_get (pc := 117) (D := D) (ci := 8) (v := .ref (a 43)) (C := RX10) (T := TX10) (N := 57) hx hb hts iu10 hown hK hP 0 rfl rfl 43 (by decide) (hts _ tw_1088) (fun _ h9 => h9) rfl dX10_secret_117 ?_
                    refine lv_bipush (pc := 120) (v := nI 8) hx hb dX10_secret_120 (by decide +kernel) ?_
                    refine lv_iload_n (pc := 122) hx hb dX10_secret_122 rfl (lv_at hl 2 rfl) ?_
                    refine lv_imul (pc := 123) hx hb dX10_secret_123 ?_
                    refine q_top (y := nI (8 * sd)) (pk_mul 8 sd) ?_
                    refine lv_iload_n (pc := 124) hx hb dX10_secret_124 rfl (lv_at hl 4 rfl) ?_
                    refine lv_iadd (pc := 125) hx hb dX10_secret_125 ?_
                    refine q_top (y := nI (8 * sd + j9)) (nI_add (8 * sd) j9) ?_
                    refine q_bald (pc := 126) hx hb hK hP 3 2 rfl rfl (k := 8 * sd + j9) (v := qs (gth (8 * sd + j9))) rfl (by omega) (by omega) rfl dX10_secret_126 ?_
                    refine lv_sipush (pc := 127) (v := nI 255) hx hb dX10_secret_127 (by decide +kernel) ?_
                    refine lv_iand (pc := 130) hx hb dX10_secret_130 ?_
                    refine q_top (y := qz (gth (8 * sd + j9))) ((q_m255 _).trans (congrArg qz (qlo_qs _))) ?_
                    refine q_top (y := (qz (gth (8 * sd + j9)))) (by first | rfl | decide +kernel | (simp; done)) ?_
                    have hq_61 : (((qz (gth (8 * sd + j9))) : Int32) = if se sd = 0 then -1 else secF (seg gke (128 * sd) (le sd)) (seg gke (128 * sd + 32) (le sd)) (seg gke (128 * sd + 64) (le sd)) (seg gke (128 * sd + 96) (le sd)) (seg gow (8 * sd) 8) (seg gth (8 * sd) 8) (seg gck (8 * sd) (if ru sd = 2 then 6 else 8)) (nI 5) (nI j9)) := by
                      rw [if_neg (by omega)]
                      symm
                      first | rw [sec_0] | rw [sec_1] | rw [sec_2] | rw [sec_3] | rw [sec_4] | rw [sec_5] | rw [sec_6]
                      first | exact at_big hge (by omega) seg_len | exact at_big hge (by omega) (by rw [seg_len, hw_59]) | exact at_seg (by omega) (by omega) | exact at_seg (by rw [← hw_59]; exact hj9) (by rw [← hw_59]; omega)
                    exact hret (qz (gth (8 * sd + j9))) _ _ _ _ dX10_secret_131 hq_61 (hP.sub [0, 1, 2, 3, 4, 5, 6, 7] rfl) (hD.sub [0, 1, 2, 3, 4, 5, 6, 7] (by decide) rfl) hS
                  · skip
                    have hge := Int32.not_lt.mp c_60
                    refine lv_iconst (pc := 70) (v := (-1)) hx hb dX10_secret_70 (by decide +kernel) ?_
                    refine q_top (y := (-1)) (by first | rfl | decide +kernel | (simp; done)) ?_
                    have hq_62 : (((-1) : Int32) = if se sd = 0 then -1 else secF (seg gke (128 * sd) (le sd)) (seg gke (128 * sd + 32) (le sd)) (seg gke (128 * sd + 64) (le sd)) (seg gke (128 * sd + 96) (le sd)) (seg gow (8 * sd) 8) (seg gth (8 * sd) 8) (seg gck (8 * sd) (if ru sd = 2 then 6 else 8)) (nI 5) j) := by
                      rw [if_neg (by omega)]
                      symm
                      first | rw [sec_0] | rw [sec_1] | rw [sec_2] | rw [sec_3] | rw [sec_4] | rw [sec_5] | rw [sec_6]
                      first | exact at_big hge (by omega) seg_len | exact at_big hge (by omega) (by rw [seg_len, hw_59]) | exact at_seg (by omega) (by omega) | exact at_seg (by rw [← hw_59]; exact hj9) (by rw [← hw_59]; omega)
                    exact hret (-1) _ _ _ _ dX10_secret_71 hq_62 (hP.sub [0, 1, 2, 3, 4, 5, 6, 7] rfl) (hD.sub [0, 1, 2, 3, 4, 5, 6, 7] (by decide) rfl) hS
                · skip
                  have hj0 := c_57
                  refine lv_iconst (pc := 30) (v := (-1)) hx hb dX10_secret_30 (by decide +kernel) ?_
                  refine q_top (y := (-1)) (by first | rfl | decide +kernel | (simp; done)) ?_
                  have hq_63 : (((-1) : Int32) = if se sd = 0 then -1 else secF (seg gke (128 * sd) (le sd)) (seg gke (128 * sd + 32) (le sd)) (seg gke (128 * sd + 64) (le sd)) (seg gke (128 * sd + 96) (le sd)) (seg gow (8 * sd) 8) (seg gth (8 * sd) 8) (seg gck (8 * sd) (if ru sd = 2 then 6 else 8)) (nI 5) j) := by
                    first | (rw [if_pos (by omega)]; done) | (rw [if_neg (by omega)]; first | exact hsn.symm | exact (sec_neg (Int32.not_le.mp hj0)).symm)
                  exact hret (-1) _ _ _ _ dX10_secret_31 hq_63 (hP.sub [0, 1, 2, 3, 4, 5, 6, 7] rfl) (hD.sub [0, 1, 2, 3, 4, 5, 6, 7] (by decide) rfl) hS
            · skip
              by_cases hk6 : wh = nI 6
              · skip
                subst hk6
                refine lv_aload_n (pc := 7) hx hb dX10_secret_7 rfl (lv_at hl 0 rfl) ?_
                refine va_get (pc := 8) (D := D) (ci := 8) (v := .ref (a 39)) (C := RX10) (T := TX10) (N := 57) hx hb hts iu10 hown hK hP 0 rfl rfl 39 (by decide) (hts _ tw_1084) (fun _ h9 => h9) rfl dX10_secret_8 ?_
                refine lv_iload_n (pc := 11) hx hb dX10_secret_11 rfl (lv_at hl 1 rfl) ?_
                refine q_iald (pc := 12) hx hb hK hP 7 0 rfl rfl (k := sd) (v := nI (se sd)) rfl (by omega) (by omega) rfl dX10_secret_12 ?_
                refine lv_if_eq (pc := 13) (tgt := 30) hx hb dX10_secret_13 (by decide) (fun c_64 => ?_) (fun c_64 => ?_)
                · skip
                  rw [q_eq0 (by omega)] at c_64
                  have hs0 := c_64
                  refine lv_iconst (pc := 30) (v := (-1)) hx hb dX10_secret_30 (by decide +kernel) ?_
                  refine q_top (y := (-1)) (by first | rfl | decide +kernel | (simp; done)) ?_
                  have hq_65 : (((-1) : Int32) = if se sd = 0 then -1 else secF (seg gke (128 * sd) (le sd)) (seg gke (128 * sd + 32) (le sd)) (seg gke (128 * sd + 64) (le sd)) (seg gke (128 * sd + 96) (le sd)) (seg gow (8 * sd) 8) (seg gth (8 * sd) 8) (seg gck (8 * sd) (if ru sd = 2 then 6 else 8)) (nI 6) j) := by
                    first | (rw [if_pos (by omega)]; done) | (rw [if_neg (by omega)]; first | exact hsn.symm | exact (sec_neg (Int32.not_le.mp hj0)).symm)
                  exact hret (-1) _ _ _ _ dX10_secret_31 hq_65 (hP.sub [0, 1, 2, 3, 4, 5, 6, 7] rfl) (hD.sub [0, 1, 2, 3, 4, 5, 6, 7] (by decide) rfl) hS
                · skip
                  rw [q_eq0 (by omega)] at c_64
                  have hs0 := c_64
                  refine lv_iload_n (pc := 16) hx hb dX10_secret_16 rfl (lv_at hl 2 rfl) ?_
                  refine lv_if_lt (pc := 17) (tgt := 30) hx hb dX10_secret_17 (by decide) (fun c_66 => absurd c_66 (by decide)) (fun _ => ?_)
                  refine lv_iload_n (pc := 20) hx hb dX10_secret_20 rfl (lv_at hl 2 rfl) ?_
                  refine lv_bipush (pc := 21) (v := nI 6) hx hb dX10_secret_21 (by decide +kernel) ?_
                  refine lv_icmp_gt (pc := 23) (tgt := 30) hx hb dX10_secret_23 (by decide) (fun c_67 => absurd c_67 (by decide)) (fun _ => ?_)
                  refine lv_iload_n (pc := 26) hx hb dX10_secret_26 rfl (lv_at hl 3 rfl) ?_
                  refine lv_if_ge (pc := 27) (tgt := 32) hx hb dX10_secret_27 (by decide) (fun c_68 => ?_) (fun c_68 => ?_)
                  · skip
                    have hj0 := c_68
                    refine lv_iload_n (pc := 32) hx hb dX10_secret_32 rfl (lv_at hl 2 rfl) ?_
                    refine lv_iconst (pc := 33) (v := nI 4) hx hb dX10_secret_33 (by decide +kernel) ?_
                    refine lv_icmp_ge (pc := 34) (tgt := 46) hx hb dX10_secret_34 (by decide) (fun _ => ?_) (fun c_69 => absurd (by decide) c_69)
                    refine lv_iload_n (pc := 46) hx hb dX10_secret_46 rfl (lv_at hl 2 rfl) ?_
                    refine lv_bipush (pc := 47) (v := nI 6) hx hb dX10_secret_47 (by decide +kernel) ?_
                    refine lv_icmp_ge (pc := 49) (tgt := 57) hx hb dX10_secret_49 (by decide) (fun _ => ?_) (fun c_70 => absurd (by decide) c_70)
                    refine lv_aload_n (pc := 57) hx hb dX10_secret_57 rfl (lv_at hl 0 rfl) ?_
                    refine lv_iload_n (pc := 58) hx hb dX10_secret_58 rfl (lv_at hl 1 rfl) ?_
                    refine cs_V (pc := 59) (idx := 406) (n := 1) (wr := [(a 41, aS ta 256 gke), (a 42, aS ta 16 gow), (a 43, aS ta 16 gth), (a 44, aS ta 16 gck), (a 37, aK ta 2 le), (a 39, aK ta 2 se)]) (As := [.int (nI sd)]) (rest := []) (ci := 8) hx hb hml hown hts hGok hK hA hG hl.1 hP hD hS (ct_X10_wide ll D ta hGok h0 a ar mn tp osz lsz ns ct ru sd (by first | assumption | omega | rfl | decide) (by first | assumption | omega | rfl | decide) H.size) tw_1450 tw_1447 tw_1449 tw_63 tw_75 hdX10_wide rfl ⟨rfl, rfl, Nat.le_of_ble_eq_true rfl, Nat.le_of_ble_eq_true rfl, Nat.le_of_ble_eq_true rfl, Nat.le_of_ble_eq_true rfl⟩ rfl rfl (q0 := 0) rfl [0, 6] [1, 2, 3, 4, 5, 7] rfl rfl (by decide) rfl (Nat.le_of_ble_eq_true rfl) dX10_secret_59 (fun u H locs hq hP hD hS => ?_)
                    generalize u = w9_59 at hq hP hD ⊢
                    have hq : (w9_59 = if ru sd = 2 then 6 else 8) := hq
                    have hw_59 := hq
                    refine W.eq (g2 := F0 mm 62 ls [.int (nI w9_59)]) rfl ?_
                    have hP : va_P D vwCl [(a 41, aS ta 256 gke), (a 42, aS ta 16 gow), (a 43, aS ta 16 gth), (a 44, aS ta 16 gck), (a 37, aK ta 2 le), (a 39, aK ta 2 se), (h0, oM a ar mn tp osz lsz ns ct), (a 36, aK ta 2 ru)] H := hP
                    have hD : va_D A [(a 41, aS ta 256 gke), (a 42, aS ta 16 gow), (a 43, aS ta 16 gth), (a 44, aS ta 16 gck), (a 37, aK ta 2 le), (a 39, aK ta 2 se), (h0, oM a ar mn tp osz lsz ns ct), (a 36, aK ta 2 ru)] := hD
                    try have hw8 : w9_59 ≤ 8 := by rw [hw_59]; split <;> omega
                    refine lv_istore (pc := 62) (lv' := [(4, .int (nI w9_59)), (0, .ref h0), (1, .int (nI sd)), (2, .int (nI 6)), (3, .int j)]) hx hb dX10_secret_62 hl (by decide) rfl (fun ls hl => ?_)
                    refine lv_iload_n (pc := 64) hx hb dX10_secret_64 rfl (lv_at hl 4 rfl) ?_
                    refine lv_iload (pc := 65) hx hb dX10_secret_65 (lv_at hl 0 rfl) ?_
                    refine lv_icmp_lt (pc := 67) (tgt := 72) hx hb dX10_secret_67 (by decide) (fun c_71 => ?_) (fun c_71 => ?_)
                    · skip
                      obtain ⟨j9, hj9, rfl⟩ := q_ix (Int32.not_lt.mpr hj0) (Int32.not_le.mpr c_71) (by omega)
                      refine lv_iload_n (pc := 72) hx hb dX10_secret_72 rfl (lv_at hl 3 rfl) ?_
                      refine lv_tableIn (pc := 73) (tgt := 132) hx hb dX10_secret_73 (off := 59) (by decide) (by decide) (by decide) (by decide) ?_
                      refine lv_aload_n (pc := 132) hx hb dX10_secret_132 rfl (lv_at hl 1 rfl) ?_
                      refine va_get (pc := 133) (D := D) (ci := 8) (v := .ref (a 44)) (C := RX10) (T := TX10) (N := 57) hx hb hts iu10 hown hK hP 6 rfl rfl 44 (by decide) (hts _ tw_1089) (fun _ h9 => h9) rfl dX10_secret_133 ?_
                      refine lv_bipush (pc := 136) (v := nI 8) hx hb dX10_secret_136 (by decide +kernel) ?_
                      refine lv_iload_n (pc := 138) hx hb dX10_secret_138 rfl (lv_at hl 2 rfl) ?_
                      refine lv_imul (pc := 139) hx hb dX10_secret_139 ?_
                      refine q_top (y := nI (8 * sd)) (pk_mul 8 sd) ?_
                      refine lv_iload_n (pc := 140) hx hb dX10_secret_140 rfl (lv_at hl 4 rfl) ?_
                      refine lv_iadd (pc := 141) hx hb dX10_secret_141 ?_
                      refine q_top (y := nI (8 * sd + j9)) (nI_add (8 * sd) j9) ?_
                      refine q_bald (pc := 142) hx hb hK hP 3 2 rfl rfl (k := 8 * sd + j9) (v := qs (gck (8 * sd + j9))) rfl (by omega) (by omega) rfl dX10_secret_142 ?_
                      refine lv_sipush (pc := 143) (v := nI 255) hx hb dX10_secret_143 (by decide +kernel) ?_
                      refine lv_iand (pc := 146) hx hb dX10_secret_146 ?_
                      refine q_top (y := qz (gck (8 * sd + j9))) ((q_m255 _).trans (congrArg qz (qlo_qs _))) ?_
                      refine q_top (y := (qz (gck (8 * sd + j9)))) (by first | rfl | decide +kernel | (simp; done)) ?_
                      have hq_72 : (((qz (gck (8 * sd + j9))) : Int32) = if se sd = 0 then -1 else secF (seg gke (128 * sd) (le sd)) (seg gke (128 * sd + 32) (le sd)) (seg gke (128 * sd + 64) (le sd)) (seg gke (128 * sd + 96) (le sd)) (seg gow (8 * sd) 8) (seg gth (8 * sd) 8) (seg gck (8 * sd) (if ru sd = 2 then 6 else 8)) (nI 6) (nI j9)) := by
                        rw [if_neg (by omega)]
                        symm
                        first | rw [sec_0] | rw [sec_1] | rw [sec_2] | rw [sec_3] | rw [sec_4] | rw [sec_5] | rw [sec_6]
                        first | exact at_big hge (by omega) seg_len | exact at_big hge (by omega) (by rw [seg_len, hw_59]) | exact at_seg (by omega) (by omega) | exact at_seg (by rw [← hw_59]; exact hj9) (by rw [← hw_59]; omega)
                      exact hret (qz (gck (8 * sd + j9))) _ _ _ _ dX10_secret_147 hq_72 (hP.sub [6, 0, 1, 2, 3, 4, 7, 5] rfl) (hD.sub [6, 0, 1, 2, 3, 4, 7, 5] (by decide) rfl) hS
                    · skip
                      have hge := Int32.not_lt.mp c_71
                      refine lv_iconst (pc := 70) (v := (-1)) hx hb dX10_secret_70 (by decide +kernel) ?_
                      refine q_top (y := (-1)) (by first | rfl | decide +kernel | (simp; done)) ?_
                      have hq_73 : (((-1) : Int32) = if se sd = 0 then -1 else secF (seg gke (128 * sd) (le sd)) (seg gke (128 * sd + 32) (le sd)) (seg gke (128 * sd + 64) (le sd)) (seg gke (128 * sd + 96) (le sd)) (seg gow (8 * sd) 8) (seg gth (8 * sd) 8) (seg gck (8 * sd) (if ru sd = 2 then 6 else 8)) (nI 6) j) := by
                        rw [if_neg (by omega)]
                        symm
                        first | rw [sec_0] | rw [sec_1] | rw [sec_2] | rw [sec_3] | rw [sec_4] | rw [sec_5] | rw [sec_6]
                        first | exact at_big hge (by omega) seg_len | exact at_big hge (by omega) (by rw [seg_len, hw_59]) | exact at_seg (by omega) (by omega) | exact at_seg (by rw [← hw_59]; exact hj9) (by rw [← hw_59]; omega)
                      exact hret (-1) _ _ _ _ dX10_secret_71 hq_73 (hP.sub [6, 0, 1, 2, 3, 4, 7, 5] rfl) (hD.sub [6, 0, 1, 2, 3, 4, 7, 5] (by decide) rfl) hS
                  · skip
                    have hj0 := c_68
                    refine lv_iconst (pc := 30) (v := (-1)) hx hb dX10_secret_30 (by decide +kernel) ?_
                    refine q_top (y := (-1)) (by first | rfl | decide +kernel | (simp; done)) ?_
                    have hq_74 : (((-1) : Int32) = if se sd = 0 then -1 else secF (seg gke (128 * sd) (le sd)) (seg gke (128 * sd + 32) (le sd)) (seg gke (128 * sd + 64) (le sd)) (seg gke (128 * sd + 96) (le sd)) (seg gow (8 * sd) 8) (seg gth (8 * sd) 8) (seg gck (8 * sd) (if ru sd = 2 then 6 else 8)) (nI 6) j) := by
                      first | (rw [if_pos (by omega)]; done) | (rw [if_neg (by omega)]; first | exact hsn.symm | exact (sec_neg (Int32.not_le.mp hj0)).symm)
                    exact hret (-1) _ _ _ _ dX10_secret_31 hq_74 (hP.sub [0, 1, 2, 3, 4, 5, 6, 7] rfl) (hD.sub [0, 1, 2, 3, 4, 5, 6, 7] (by decide) rfl) hS
              · skip
                have hsn := sec_no (E := seg gke (128 * sd) (le sd)) (M := seg gke (128 * sd + 32) (le sd)) (B := seg gke (128 * sd + 64) (le sd)) (S := seg gke (128 * sd + 96) (le sd)) (HP := seg gow (8 * sd) 8) (CP := seg gth (8 * sd) 8) (CH := seg gck (8 * sd) (if ru sd = 2 then 6 else 8)) (j := j) hk0 hk1 hk2 hk3 hk4 hk5 hk6
                have hrg := sec_rng (wh := wh) hk0 hk1 hk2 hk3 hk4 hk5 hk6
                refine lv_aload_n (pc := 7) hx hb dX10_secret_7 rfl (lv_at hl 0 rfl) ?_
                refine va_get (pc := 8) (D := D) (ci := 8) (v := .ref (a 39)) (C := RX10) (T := TX10) (N := 57) hx hb hts iu10 hown hK hP 0 rfl rfl 39 (by decide) (hts _ tw_1084) (fun _ h9 => h9) rfl dX10_secret_8 ?_
                refine lv_iload_n (pc := 11) hx hb dX10_secret_11 rfl (lv_at hl 1 rfl) ?_
                refine q_iald (pc := 12) hx hb hK hP 7 0 rfl rfl (k := sd) (v := nI (se sd)) rfl (by omega) (by omega) rfl dX10_secret_12 ?_
                refine lv_if_eq (pc := 13) (tgt := 30) hx hb dX10_secret_13 (by decide) (fun c_75 => ?_) (fun c_75 => ?_)
                · skip
                  rw [q_eq0 (by omega)] at c_75
                  have hs0 := c_75
                  refine lv_iconst (pc := 30) (v := (-1)) hx hb dX10_secret_30 (by decide +kernel) ?_
                  refine q_top (y := (-1)) (by first | rfl | decide +kernel | (simp; done)) ?_
                  have hq_76 : (((-1) : Int32) = if se sd = 0 then -1 else secF (seg gke (128 * sd) (le sd)) (seg gke (128 * sd + 32) (le sd)) (seg gke (128 * sd + 64) (le sd)) (seg gke (128 * sd + 96) (le sd)) (seg gow (8 * sd) 8) (seg gth (8 * sd) 8) (seg gck (8 * sd) (if ru sd = 2 then 6 else 8)) wh j) := by
                    first | (rw [if_pos (by omega)]; done) | (rw [if_neg (by omega)]; first | exact hsn.symm | exact (sec_neg (Int32.not_le.mp hj0)).symm)
                  exact hret (-1) _ _ _ _ dX10_secret_31 hq_76 (hP.sub [0, 1, 2, 3, 4, 5, 6, 7] rfl) (hD.sub [0, 1, 2, 3, 4, 5, 6, 7] (by decide) rfl) hS
                · skip
                  rw [q_eq0 (by omega)] at c_75
                  have hs0 := c_75
                  refine lv_iload_n (pc := 16) hx hb dX10_secret_16 rfl (lv_at hl 2 rfl) ?_
                  refine lv_if_lt (pc := 17) (tgt := 30) hx hb dX10_secret_17 (by decide) (fun c_77 => ?_) (fun c_77 => ?_)
                  · skip
                    have hw0 := c_77
                    refine lv_iconst (pc := 30) (v := (-1)) hx hb dX10_secret_30 (by decide +kernel) ?_
                    refine q_top (y := (-1)) (by first | rfl | decide +kernel | (simp; done)) ?_
                    have hq_78 : (((-1) : Int32) = if se sd = 0 then -1 else secF (seg gke (128 * sd) (le sd)) (seg gke (128 * sd + 32) (le sd)) (seg gke (128 * sd + 64) (le sd)) (seg gke (128 * sd + 96) (le sd)) (seg gow (8 * sd) 8) (seg gth (8 * sd) 8) (seg gck (8 * sd) (if ru sd = 2 then 6 else 8)) wh j) := by
                      first | (rw [if_pos (by omega)]; done) | (rw [if_neg (by omega)]; first | exact hsn.symm | exact (sec_neg (Int32.not_le.mp hj0)).symm)
                    exact hret (-1) _ _ _ _ dX10_secret_31 hq_78 (hP.sub [0, 1, 2, 3, 4, 5, 6, 7] rfl) (hD.sub [0, 1, 2, 3, 4, 5, 6, 7] (by decide) rfl) hS
                  · skip
                    have hw0 := c_77
                    refine lv_iload_n (pc := 20) hx hb dX10_secret_20 rfl (lv_at hl 2 rfl) ?_
                    refine lv_bipush (pc := 21) (v := nI 6) hx hb dX10_secret_21 (by decide +kernel) ?_
                    refine lv_icmp_gt (pc := 23) (tgt := 30) hx hb dX10_secret_23 (by decide) (fun c_79 => ?_) (fun c_79 => ?_)
                    · skip
                      refine lv_iconst (pc := 30) (v := (-1)) hx hb dX10_secret_30 (by decide +kernel) ?_
                      refine q_top (y := (-1)) (by first | rfl | decide +kernel | (simp; done)) ?_
                      have hq_80 : (((-1) : Int32) = if se sd = 0 then -1 else secF (seg gke (128 * sd) (le sd)) (seg gke (128 * sd + 32) (le sd)) (seg gke (128 * sd + 64) (le sd)) (seg gke (128 * sd + 96) (le sd)) (seg gow (8 * sd) 8) (seg gth (8 * sd) 8) (seg gck (8 * sd) (if ru sd = 2 then 6 else 8)) wh j) := by
                        first | (rw [if_pos (by omega)]; done) | (rw [if_neg (by omega)]; first | exact hsn.symm | exact (sec_neg (Int32.not_le.mp hj0)).symm)
                      exact hret (-1) _ _ _ _ dX10_secret_31 hq_80 (hP.sub [0, 1, 2, 3, 4, 5, 6, 7] rfl) (hD.sub [0, 1, 2, 3, 4, 5, 6, 7] (by decide) rfl) hS
                    · skip
                      exact absurd (hrg hw0) c_79
theorem hdX10_about : yX10_about.cls ≠ "java/lang/invoke/MethodHandle" ∧ yX10_about.cls ≠ "java/lang/invoke/VarHandle" ∧ (parseMethodDescriptor yX10_about.desc).map (fun d => d.parameters.length) = some 2 := ⟨by decide +kernel, by decide +kernel, by decide +kernel⟩
theorem dX10_about_0 : decode cX10_about 0 = .ok (.iload_n 1, 1) := by decide +kernel
theorem dX10_about_1 : decode cX10_about 1 = .ok (.invokestatic 314, 3) := by decide +kernel
theorem dX10_about_4 : decode cX10_about 4 = .ok (.ifCond .ne 5, 3) := by decide +kernel
theorem dX10_about_7 : decode cX10_about 7 = .ok (.iconst (-1), 1) := by decide +kernel
theorem dX10_about_8 : decode cX10_about 8 = .ok (.ireturn, 1) := by decide +kernel
theorem dX10_about_9 : decode cX10_about 9 = .ok (.iload_n 2, 1) := by decide +kernel
theorem dX10_about_10 : decode cX10_about 10 = .ok (.tableswitch 99 0 6 #[42, 49, 70, 77, 84, 89, 94], 42) := by decide +kernel
theorem dX10_about_52 : decode cX10_about 52 = .ok (.aload_n 0, 1) := by decide +kernel
theorem dX10_about_53 : decode cX10_about 53 = .ok (.getfield 240, 3) := by decide +kernel
theorem dX10_about_56 : decode cX10_about 56 = .ok (.iload_n 1, 1) := by decide +kernel
theorem dX10_about_57 : decode cX10_about 57 = .ok (.iaload, 1) := by decide +kernel
theorem dX10_about_58 : decode cX10_about 58 = .ok (.ireturn, 1) := by decide +kernel
theorem dX10_about_59 : decode cX10_about 59 = .ok (.aload_n 0, 1) := by decide +kernel
theorem dX10_about_60 : decode cX10_about 60 = .ok (.getfield 240, 3) := by decide +kernel
theorem dX10_about_63 : decode cX10_about 63 = .ok (.iload_n 1, 1) := by decide +kernel
theorem dX10_about_64 : decode cX10_about 64 = .ok (.iaload, 1) := by decide +kernel
theorem dX10_about_65 : decode cX10_about 65 = .ok (.iconst 2, 1) := by decide +kernel
theorem dX10_about_66 : decode cX10_about 66 = .ok (.if_icmp .ne 12, 3) := by decide +kernel
theorem dX10_about_69 : decode cX10_about 69 = .ok (.aload_n 0, 1) := by decide +kernel
theorem dX10_about_70 : decode cX10_about 70 = .ok (.getfield 243, 3) := by decide +kernel
theorem dX10_about_73 : decode cX10_about 73 = .ok (.iload_n 1, 1) := by decide +kernel
theorem dX10_about_74 : decode cX10_about 74 = .ok (.iaload, 1) := by decide +kernel
theorem dX10_about_75 : decode cX10_about 75 = .ok (.goto 4, 3) := by decide +kernel
theorem dX10_about_78 : decode cX10_about 78 = .ok (.iconst 0, 1) := by decide +kernel
theorem dX10_about_79 : decode cX10_about 79 = .ok (.ireturn, 1) := by decide +kernel
theorem dX10_about_80 : decode cX10_about 80 = .ok (.aload_n 0, 1) := by decide +kernel
theorem dX10_about_81 : decode cX10_about 81 = .ok (.getfield 231, 3) := by decide +kernel
theorem dX10_about_84 : decode cX10_about 84 = .ok (.iload_n 1, 1) := by decide +kernel
theorem dX10_about_85 : decode cX10_about 85 = .ok (.iaload, 1) := by decide +kernel
theorem dX10_about_86 : decode cX10_about 86 = .ok (.ireturn, 1) := by decide +kernel
theorem dX10_about_87 : decode cX10_about 87 = .ok (.aload_n 0, 1) := by decide +kernel
theorem dX10_about_88 : decode cX10_about 88 = .ok (.getfield 234, 3) := by decide +kernel
theorem dX10_about_91 : decode cX10_about 91 = .ok (.iload_n 1, 1) := by decide +kernel
theorem dX10_about_92 : decode cX10_about 92 = .ok (.iaload, 1) := by decide +kernel
theorem dX10_about_93 : decode cX10_about 93 = .ok (.ireturn, 1) := by decide +kernel
theorem dX10_about_94 : decode cX10_about 94 = .ok (.aload_n 0, 1) := by decide +kernel
theorem dX10_about_95 : decode cX10_about 95 = .ok (.getfield 325, 3) := by decide +kernel
theorem dX10_about_98 : decode cX10_about 98 = .ok (.ireturn, 1) := by decide +kernel
theorem dX10_about_99 : decode cX10_about 99 = .ok (.aload_n 0, 1) := by decide +kernel
theorem dX10_about_100 : decode cX10_about 100 = .ok (.getfield 307, 3) := by decide +kernel
theorem dX10_about_103 : decode cX10_about 103 = .ok (.ireturn, 1) := by decide +kernel
theorem dX10_about_104 : decode cX10_about 104 = .ok (.aload_n 0, 1) := by decide +kernel
theorem dX10_about_105 : decode cX10_about 105 = .ok (.getfield 304, 3) := by decide +kernel
theorem dX10_about_108 : decode cX10_about 108 = .ok (.ireturn, 1) := by decide +kernel
theorem dX10_about_109 : decode cX10_about 109 = .ok (.iconst (-1), 1) := by decide +kernel
theorem dX10_about_110 : decode cX10_about 110 = .ok (.ireturn, 1) := by decide +kernel
set_option maxHeartbeats 4000000 in
set_option maxRecDepth 100000 in
theorem ct_X10_about_noside (ll : Launch) (D : va_G) (ta : Nat → ClassId) {G : (Nat → Prop) → State → Heap → Prop} (hGok : GOK G) (h0 : Nat) (a : Nat → Nat) (ar : Nat) (mn : Nat) (tp : Nat) (osz : Nat) (lsz : Nat) (ns : Nat) (ct : Nat) (s9 : Int32) (i : Int32) (hi0 : ¬ s9 = nI 0) (hi1 : ¬ s9 = nI 1) (sz : Nat) : CT ll yX10_about cX10_about 3 (some .int) ({ frames := 1, cells := 0, slots := 0, locals := 20 } : Room) D ta G [.ref h0, .int s9, .int i] [(h0, oM a ar mn tp osz lsz ns ct)] sz (S := Int32) (fun u => some (.int u)) (fun u => ((u : Int32) = -1)) (fun u => [(h0, oM a ar mn tp osz lsz ns ct)]) 0 0 := by
  refine CT.of_i (r := fun u => u) rfl (by decide) (Nat.le_of_ble_eq_true rfl) ?_
  intro pp ee ss mm below meth kc A Q hx hb hml hown hin hts hK hA hsz hG hret H locs hP hD hS ls hl
  have hl : lv_has ls 3 [(0, .ref h0), (1, .int s9), (2, .int i)] := hl
  refine lv_iload_n (pc := 0) hx hb dX10_about_0 rfl (lv_at hl 1 rfl) ?_
  refine cs_S (pc := 1) (idx := 314) (n := 1) (wr := [(h0, oM a ar mn tp osz lsz ns ct)]) (As := [.int s9]) (rest := []) hx hb hml hown hts hGok hK hA hG hl.1 hP hD hS (ct_X10_isSide_no ll D ta hGok s9 (by first | assumption | omega | rfl | decide) (by first | assumption | omega | rfl | decide) H.size) tw_1261 tw_1259 tw_1260 tw_75 hdX10_isSide rfl ⟨rfl, rfl, Nat.le_of_ble_eq_true rfl, Nat.le_of_ble_eq_true rfl, Nat.le_of_ble_eq_true rfl, Nat.le_of_ble_eq_true rfl⟩ [] [0] rfl rfl (by decide) rfl (Nat.le_of_ble_eq_true rfl) dX10_about_1 (fun u H locs hq hP hD hS => ?_)
  refine W.eq (g2 := F0 mm 4 ls [.int (qb false)]) rfl ?_
  have hP : va_P D vwCl [(h0, oM a ar mn tp osz lsz ns ct)] H := hP
  have hD : va_D A [(h0, oM a ar mn tp osz lsz ns ct)] := hD
  refine lv_if_ne (pc := 4) (tgt := 9) hx hb dX10_about_4 (by decide) (fun c_1 => absurd (by decide) c_1) (fun _ => ?_)
  refine lv_iconst (pc := 7) (v := (-1)) hx hb dX10_about_7 (by decide +kernel) ?_
  refine q_top (y := (-1)) (by first | rfl | decide +kernel | (simp; done)) ?_
  have hq_2 : (((-1) : Int32) = -1) := by
    first | rfl | trivial | (refine ⟨?_, ?_⟩ <;> rfl) | (simp; done) | omega
  exact hret (-1) _ _ _ _ dX10_about_8 hq_2 (hP.sub [0] rfl) (hD.sub [0] (by decide) rfl) hS
set_option maxHeartbeats 4000000 in
set_option maxRecDepth 100000 in
theorem ct_X10_about (ll : Launch) (D : va_G) (ta : Nat → ClassId) {G : (Nat → Prop) → State → Heap → Prop} (hGok : GOK G) (h0 : Nat) (a : Nat → Nat) (ar : Nat) (mn : Nat) (tp : Nat) (osz : Nat) (lsz : Nat) (ns : Nat) (ct : Nat) (le : Nat → Nat) (ru : Nat → Nat) (se : Nat → Nat) (lv : Nat → Nat) (sd : Nat) (i : Int32) (hsd : sd ≤ 1) (hse : se sd ≤ 2) (sz : Nat) : CT ll yX10_about cX10_about 3 (some .int) ({ frames := 1, cells := 0, slots := 0, locals := 20 } : Room) D ta G [.ref h0, .int (nI sd), .int i] [(h0, oM a ar mn tp osz lsz ns ct), (a 39, aK ta 2 se), (a 40, aK ta 2 lv), (a 36, aK ta 2 ru), (a 37, aK ta 2 le)] sz (S := Int32) (fun u => some (.int u)) (fun u => ((u : Int32) = aboutF (se sd) (if se sd = 2 then lv sd else 0) (ru sd) (le sd) ct lsz osz i)) (fun u => [(h0, oM a ar mn tp osz lsz ns ct), (a 39, aK ta 2 se), (a 40, aK ta 2 lv), (a 36, aK ta 2 ru), (a 37, aK ta 2 le)]) 0 0 := by
  refine CT.of_i (r := fun u => u) rfl (by decide) (Nat.le_of_ble_eq_true rfl) ?_
  intro pp ee ss mm below meth kc A Q hx hb hml hown hin hts hK hA hsz hG hret H locs hP hD hS ls hl
  have hl : lv_has ls 3 [(0, .ref h0), (1, .int (nI sd)), (2, .int i)] := hl
  refine lv_iload_n (pc := 0) hx hb dX10_about_0 rfl (lv_at hl 1 rfl) ?_
  refine cs_S (pc := 1) (idx := 314) (n := 1) (wr := [(h0, oM a ar mn tp osz lsz ns ct), (a 39, aK ta 2 se), (a 40, aK ta 2 lv), (a 36, aK ta 2 ru), (a 37, aK ta 2 le)]) (As := [.int (nI sd)]) (rest := []) hx hb hml hown hts hGok hK hA hG hl.1 hP hD hS (ct_X10_isSide_s ll D ta hGok sd (by first | assumption | omega | rfl | decide) H.size) tw_1261 tw_1259 tw_1260 tw_75 hdX10_isSide rfl ⟨rfl, rfl, Nat.le_of_ble_eq_true rfl, Nat.le_of_ble_eq_true rfl, Nat.le_of_ble_eq_true rfl, Nat.le_of_ble_eq_true rfl⟩ [] [0, 1, 2, 3, 4] rfl rfl (by decide) rfl (Nat.le_of_ble_eq_true rfl) dX10_about_1 (fun u H locs hq hP hD hS => ?_)
  refine W.eq (g2 := F0 mm 4 ls [.int (qb true)]) rfl ?_
  have hP : va_P D vwCl [(h0, oM a ar mn tp osz lsz ns ct), (a 39, aK ta 2 se), (a 40, aK ta 2 lv), (a 36, aK ta 2 ru), (a 37, aK ta 2 le)] H := hP
  have hD : va_D A [(h0, oM a ar mn tp osz lsz ns ct), (a 39, aK ta 2 se), (a 40, aK ta 2 lv), (a 36, aK ta 2 ru), (a 37, aK ta 2 le)] := hD
  refine lv_if_ne (pc := 4) (tgt := 9) hx hb dX10_about_4 (by decide) (fun _ => ?_) (fun c_1 => absurd c_1 (by decide))
  refine lv_iload_n (pc := 9) hx hb dX10_about_9 rfl (lv_at hl 2 rfl) ?_
  by_cases c_2 : i = nI 0
  · subst c_2
    refine lv_tableIn (pc := 10) (tgt := 52) hx hb dX10_about_10 (off := 42) (by decide) (by decide) (by decide) (by decide) ?_
    refine lv_aload_n (pc := 52) hx hb dX10_about_52 rfl (lv_at hl 0 rfl) ?_
    refine va_get (pc := 53) (D := D) (ci := 8) (v := .ref (a 39)) (C := RX10) (T := TX10) (N := 57) hx hb hts iu10 hown hK hP 0 rfl rfl 39 (by decide) (hts _ tw_1084) (fun _ h9 => h9) rfl dX10_about_53 ?_
    refine lv_iload_n (pc := 56) hx hb dX10_about_56 rfl (lv_at hl 1 rfl) ?_
    refine q_iald (pc := 57) hx hb hK hP 1 0 rfl rfl (k := sd) (v := nI (se sd)) rfl (by omega) (by omega) rfl dX10_about_57 ?_
    refine q_top (y := (nI (se sd))) (by first | rfl | decide +kernel | (simp; done)) ?_
    have hq_3 : (((nI (se sd)) : Int32) = aboutF (se sd) (if se sd = 2 then lv sd else 0) (ru sd) (le sd) ct lsz osz (nI 0)) := by
      rfl
    exact hret (nI (se sd)) _ _ _ _ dX10_about_58 hq_3 (hP.sub [0, 1, 2, 3, 4] rfl) (hD.sub [0, 1, 2, 3, 4] (by decide) rfl) hS
  by_cases c_4 : i = nI 1
  · subst c_4
    refine lv_tableIn (pc := 10) (tgt := 59) hx hb dX10_about_10 (off := 49) (by decide) (by decide) (by decide) (by decide) ?_
    refine lv_aload_n (pc := 59) hx hb dX10_about_59 rfl (lv_at hl 0 rfl) ?_
    refine va_get (pc := 60) (D := D) (ci := 8) (v := .ref (a 39)) (C := RX10) (T := TX10) (N := 57) hx hb hts iu10 hown hK hP 0 rfl rfl 39 (by decide) (hts _ tw_1084) (fun _ h9 => h9) rfl dX10_about_60 ?_
    refine lv_iload_n (pc := 63) hx hb dX10_about_63 rfl (lv_at hl 1 rfl) ?_
    refine q_iald (pc := 64) hx hb hK hP 1 0 rfl rfl (k := sd) (v := nI (se sd)) rfl (by omega) (by omega) rfl dX10_about_64 ?_
    refine lv_iconst (pc := 65) (v := nI 2) hx hb dX10_about_65 (by decide +kernel) ?_
    refine lv_icmp_ne (pc := 66) (tgt := 78) hx hb dX10_about_66 (by decide) (fun c_5 => ?_) (fun c_5 => ?_)
    · skip
      rw [nI_eq (by omega) (by omega)] at c_5
      have h2 := c_5
      refine lv_iconst (pc := 78) (v := nI 0) hx hb dX10_about_78 (by decide +kernel) ?_
      refine q_top (y := (nI 0)) (by first | rfl | decide +kernel | (simp; done)) ?_
      have hq_6 : (((nI 0) : Int32) = aboutF (se sd) (if se sd = 2 then lv sd else 0) (ru sd) (le sd) ct lsz osz (nI 1)) := by
        first | (rw [if_pos h2]; rfl) | (rw [if_neg h2]; rfl)
      exact hret (nI 0) _ _ _ _ dX10_about_79 hq_6 (hP.sub [0, 1, 2, 3, 4] rfl) (hD.sub [0, 1, 2, 3, 4] (by decide) rfl) hS
    · skip
      rw [nI_eq (by omega) (by omega)] at c_5
      have h2 := c_5
      refine lv_aload_n (pc := 69) hx hb dX10_about_69 rfl (lv_at hl 0 rfl) ?_
      refine va_get (pc := 70) (D := D) (ci := 8) (v := .ref (a 40)) (C := RX10) (T := TX10) (N := 57) hx hb hts iu10 hown hK hP 0 rfl rfl 40 (by decide) (hts _ tw_1085) (fun _ h9 => h9) rfl dX10_about_70 ?_
      refine lv_iload_n (pc := 73) hx hb dX10_about_73 rfl (lv_at hl 1 rfl) ?_
      refine q_iald (pc := 74) hx hb hK hP 2 0 rfl rfl (k := sd) (v := nI (lv sd)) rfl (by omega) (by omega) rfl dX10_about_74 ?_
      refine lv_goto (pc := 75) (tgt := 79) hx hb dX10_about_75 (by decide) ?_
      refine q_top (y := (nI (lv sd))) (by first | rfl | decide +kernel | (simp; done)) ?_
      have hq_7 : (((nI (lv sd)) : Int32) = aboutF (se sd) (if se sd = 2 then lv sd else 0) (ru sd) (le sd) ct lsz osz (nI 1)) := by
        first | (rw [if_pos h2]; rfl) | (rw [if_neg h2]; rfl)
      exact hret (nI (lv sd)) _ _ _ _ dX10_about_79 hq_7 (hP.sub [0, 1, 2, 3, 4] rfl) (hD.sub [0, 1, 2, 3, 4] (by decide) rfl) hS
  by_cases c_8 : i = nI 2
  · subst c_8
    refine lv_tableIn (pc := 10) (tgt := 80) hx hb dX10_about_10 (off := 70) (by decide) (by decide) (by decide) (by decide) ?_
    refine lv_aload_n (pc := 80) hx hb dX10_about_80 rfl (lv_at hl 0 rfl) ?_
    refine va_get (pc := 81) (D := D) (ci := 8) (v := .ref (a 36)) (C := RX10) (T := TX10) (N := 57) hx hb hts iu10 hown hK hP 0 rfl rfl 36 (by decide) (hts _ tw_1081) (fun _ h9 => h9) rfl dX10_about_81 ?_
    refine lv_iload_n (pc := 84) hx hb dX10_about_84 rfl (lv_at hl 1 rfl) ?_
    refine q_iald (pc := 85) hx hb hK hP 3 0 rfl rfl (k := sd) (v := nI (ru sd)) rfl (by omega) (by omega) rfl dX10_about_85 ?_
    refine q_top (y := (nI (ru sd))) (by first | rfl | decide +kernel | (simp; done)) ?_
    have hq_9 : (((nI (ru sd)) : Int32) = aboutF (se sd) (if se sd = 2 then lv sd else 0) (ru sd) (le sd) ct lsz osz (nI 2)) := by
      rfl
    exact hret (nI (ru sd)) _ _ _ _ dX10_about_86 hq_9 (hP.sub [0, 1, 2, 3, 4] rfl) (hD.sub [0, 1, 2, 3, 4] (by decide) rfl) hS
  by_cases c_10 : i = nI 3
  · subst c_10
    refine lv_tableIn (pc := 10) (tgt := 87) hx hb dX10_about_10 (off := 77) (by decide) (by decide) (by decide) (by decide) ?_
    refine lv_aload_n (pc := 87) hx hb dX10_about_87 rfl (lv_at hl 0 rfl) ?_
    refine va_get (pc := 88) (D := D) (ci := 8) (v := .ref (a 37)) (C := RX10) (T := TX10) (N := 57) hx hb hts iu10 hown hK hP 0 rfl rfl 37 (by decide) (hts _ tw_1082) (fun _ h9 => h9) rfl dX10_about_88 ?_
    refine lv_iload_n (pc := 91) hx hb dX10_about_91 rfl (lv_at hl 1 rfl) ?_
    refine q_iald (pc := 92) hx hb hK hP 4 0 rfl rfl (k := sd) (v := nI (le sd)) rfl (by omega) (by omega) rfl dX10_about_92 ?_
    refine q_top (y := (nI (le sd))) (by first | rfl | decide +kernel | (simp; done)) ?_
    have hq_11 : (((nI (le sd)) : Int32) = aboutF (se sd) (if se sd = 2 then lv sd else 0) (ru sd) (le sd) ct lsz osz (nI 3)) := by
      rfl
    exact hret (nI (le sd)) _ _ _ _ dX10_about_93 hq_11 (hP.sub [0, 1, 2, 3, 4] rfl) (hD.sub [0, 1, 2, 3, 4] (by decide) rfl) hS
  by_cases c_12 : i = nI 4
  · subst c_12
    refine lv_tableIn (pc := 10) (tgt := 94) hx hb dX10_about_10 (off := 84) (by decide) (by decide) (by decide) (by decide) ?_
    refine lv_aload_n (pc := 94) hx hb dX10_about_94 rfl (lv_at hl 0 rfl) ?_
    refine va_get (pc := 95) (D := D) (ci := 8) (v := .int (nI ct)) (C := RX10) (T := TX10) (N := 57) hx hb hts iu10 hown hK hP 0 rfl rfl 35 (by decide) (hts _ tw_1080) (fun _ h9 => h9) rfl dX10_about_95 ?_
    refine q_top (y := (nI ct)) (by first | rfl | decide +kernel | (simp; done)) ?_
    have hq_13 : (((nI ct) : Int32) = aboutF (se sd) (if se sd = 2 then lv sd else 0) (ru sd) (le sd) ct lsz osz (nI 4)) := by
      rfl
    exact hret (nI ct) _ _ _ _ dX10_about_98 hq_13 (hP.sub [0, 1, 2, 3, 4] rfl) (hD.sub [0, 1, 2, 3, 4] (by decide) rfl) hS
  by_cases c_14 : i = nI 5
  · subst c_14
    refine lv_tableIn (pc := 10) (tgt := 99) hx hb dX10_about_10 (off := 89) (by decide) (by decide) (by decide) (by decide) ?_
    refine lv_aload_n (pc := 99) hx hb dX10_about_99 rfl (lv_at hl 0 rfl) ?_
    refine va_get (pc := 100) (D := D) (ci := 8) (v := .int (nI lsz)) (C := RX10) (T := TX10) (N := 57) hx hb hts iu10 hown hK hP 0 rfl rfl 32 (by decide) (hts _ tw_1077) (fun _ h9 => h9) rfl dX10_about_100 ?_
    refine q_top (y := (nI lsz)) (by first | rfl | decide +kernel | (simp; done)) ?_
    have hq_15 : (((nI lsz) : Int32) = aboutF (se sd) (if se sd = 2 then lv sd else 0) (ru sd) (le sd) ct lsz osz (nI 5)) := by
      rfl
    exact hret (nI lsz) _ _ _ _ dX10_about_103 hq_15 (hP.sub [0, 1, 2, 3, 4] rfl) (hD.sub [0, 1, 2, 3, 4] (by decide) rfl) hS
  by_cases c_16 : i = nI 6
  · subst c_16
    refine lv_tableIn (pc := 10) (tgt := 104) hx hb dX10_about_10 (off := 94) (by decide) (by decide) (by decide) (by decide) ?_
    refine lv_aload_n (pc := 104) hx hb dX10_about_104 rfl (lv_at hl 0 rfl) ?_
    refine va_get (pc := 105) (D := D) (ci := 8) (v := .int (nI osz)) (C := RX10) (T := TX10) (N := 57) hx hb hts iu10 hown hK hP 0 rfl rfl 30 (by decide) (hts _ tw_1075) (fun _ h9 => h9) rfl dX10_about_105 ?_
    refine q_top (y := (nI osz)) (by first | rfl | decide +kernel | (simp; done)) ?_
    have hq_17 : (((nI osz) : Int32) = aboutF (se sd) (if se sd = 2 then lv sd else 0) (ru sd) (le sd) ct lsz osz (nI 6)) := by
      rfl
    exact hret (nI osz) _ _ _ _ dX10_about_108 hq_17 (hP.sub [0, 1, 2, 3, 4] rfl) (hD.sub [0, 1, 2, 3, 4] (by decide) rfl) hS
  refine lv_tableOut (pc := 10) (tgt := 109) hx hb dX10_about_10 (q_out (n := 6) (fun k hk => match k, hk with | 0, _ => c_2 | 1, _ => c_4 | 2, _ => c_8 | 3, _ => c_10 | 4, _ => c_12 | 5, _ => c_14 | 6, _ => c_16 | k + 7, h => absurd h (by omega)) (by decide)) (by decide) ?_
  refine lv_iconst (pc := 109) (v := (-1)) hx hb dX10_about_109 (by decide +kernel) ?_
  refine q_top (y := (-1)) (by first | rfl | decide +kernel | (simp; done)) ?_
  have hq_18 : (((-1) : Int32) = aboutF (se sd) (if se sd = 2 then lv sd else 0) (ru sd) (le sd) ct lsz osz i) := by
    symm; simp only [aboutF]; simp_all
  exact hret (-1) _ _ _ _ dX10_about_110 hq_18 (hP.sub [0, 1, 2, 3, 4] rfl) (hD.sub [0, 1, 2, 3, 4] (by decide) rfl) hS
