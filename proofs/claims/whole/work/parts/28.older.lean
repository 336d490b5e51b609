theorem hdX5_sessionKey : yX5_sessionKey.cls ≠ "java/lang/invoke/MethodHandle" ∧ yX5_sessionKey.cls ≠ "java/lang/invoke/VarHandle" ∧ (parseMethodDescriptor yX5_sessionKey.desc).map (fun d => d.parameters.length) = some 4 := ⟨by decide +kernel, by decide +kernel, by decide +kernel⟩
theorem dX5_sessionKey_0 : decode cX5_sessionKey 0 = .ok (.aload 4, 2) := by decide +kernel
theorem dX5_sessionKey_2 : decode cX5_sessionKey 2 = .ok (.invokevirtual 65, 3) := by decide +kernel
theorem dX5_sessionKey_5 : decode cX5_sessionKey 5 = .ok (.aload 4, 2) := by decide +kernel
theorem dX5_sessionKey_7 : decode cX5_sessionKey 7 = .ok (.iload_n 2, 1) := by decide +kernel
theorem dX5_sessionKey_8 : decode cX5_sessionKey 8 = .ok (.i2l, 1) := by decide +kernel
theorem dX5_sessionKey_9 : decode cX5_sessionKey 9 = .ok (.iconst 2, 1) := by decide +kernel
theorem dX5_sessionKey_10 : decode cX5_sessionKey 10 = .ok (.invokevirtual 68, 3) := by decide +kernel
theorem dX5_sessionKey_13 : decode cX5_sessionKey 13 = .ok (.aload 4, 2) := by decide +kernel
theorem dX5_sessionKey_15 : decode cX5_sessionKey 15 = .ok (.iload_n 3, 1) := by decide +kernel
theorem dX5_sessionKey_16 : decode cX5_sessionKey 16 = .ok (.i2l, 1) := by decide +kernel
theorem dX5_sessionKey_17 : decode cX5_sessionKey 17 = .ok (.iconst 2, 1) := by decide +kernel
theorem dX5_sessionKey_18 : decode cX5_sessionKey 18 = .ok (.invokevirtual 68, 3) := by decide +kernel
theorem dX5_sessionKey_21 : decode cX5_sessionKey 21 = .ok (.aload 4, 2) := by decide +kernel
theorem dX5_sessionKey_23 : decode cX5_sessionKey 23 = .ok (.bipush 12, 2) := by decide +kernel
theorem dX5_sessionKey_25 : decode cX5_sessionKey 25 = .ok (.invokevirtual 160, 3) := by decide +kernel
theorem dX5_sessionKey_28 : decode cX5_sessionKey 28 = .ok (.aload_n 0, 1) := by decide +kernel
theorem dX5_sessionKey_29 : decode cX5_sessionKey 29 = .ok (.getfield 12, 3) := by decide +kernel
theorem dX5_sessionKey_32 : decode cX5_sessionKey 32 = .ok (.aload_n 1, 1) := by decide +kernel
theorem dX5_sessionKey_33 : decode cX5_sessionKey 33 = .ok (.invokevirtual 111, 3) := by decide +kernel
theorem dX5_sessionKey_36 : decode cX5_sessionKey 36 = .ok (.aload_n 0, 1) := by decide +kernel
theorem dX5_sessionKey_37 : decode cX5_sessionKey 37 = .ok (.getfield 12, 3) := by decide +kernel
theorem dX5_sessionKey_40 : decode cX5_sessionKey 40 = .ok (.aload_n 0, 1) := by decide +kernel
theorem dX5_sessionKey_41 : decode cX5_sessionKey 41 = .ok (.getfield 40, 3) := by decide +kernel
theorem dX5_sessionKey_44 : decode cX5_sessionKey 44 = .ok (.invokevirtual 114, 3) := by decide +kernel
theorem dX5_sessionKey_47 : decode cX5_sessionKey 47 = .ok (.aload_n 0, 1) := by decide +kernel
theorem dX5_sessionKey_48 : decode cX5_sessionKey 48 = .ok (.getfield 12, 3) := by decide +kernel
theorem dX5_sessionKey_51 : decode cX5_sessionKey 51 = .ok (.aload 4, 2) := by decide +kernel
theorem dX5_sessionKey_53 : decode cX5_sessionKey 53 = .ok (.iconst 0, 1) := by decide +kernel
theorem dX5_sessionKey_54 : decode cX5_sessionKey 54 = .ok (.aload 4, 2) := by decide +kernel
theorem dX5_sessionKey_56 : decode cX5_sessionKey 56 = .ok (.invokevirtual 95, 3) := by decide +kernel
theorem dX5_sessionKey_59 : decode cX5_sessionKey 59 = .ok (.invokevirtual 117, 3) := by decide +kernel
theorem dX5_sessionKey_62 : decode cX5_sessionKey 62 = .ok (.return_, 1) := by decide +kernel
set_option maxHeartbeats 4000000 in
set_option maxRecDepth 100000 in
theorem ct_X5_sessionKey (ll : Launch) (D : va_G) (ta : Nat → ClassId) (gs : Nat → Nat) (o : Nat → Nat) (gz : Nat → BitVec 8) (tri : Bool) (gb : Nat → BitVec 8) (bf : Nat → BitVec 8) (f : Nat → Int64) (s : Nat → Int64) (spb : Nat → Int32) (hk : Nat) (bk : Nat) (capk : Nat) (gk : Nat → BitVec 8) (c : Nat) (n : Nat) (hr : Nat) (br : Nat) (capr : Nat) (gr : Nat → BitVec 8) (nr : Nat) (hz : qL gz 16 = zeroL 16) (hsp : spbOK spb) (hck : 16 ≤ capk ∧ capk < 2147483648) (hcr : 16 ≤ capr ∧ capr < 2147483648) (sz : Nat) : CT ll yX5_sessionKey cX5_sessionKey 5 none ({ frames := 3, cells := 0, slots := 0, locals := 81 } : Room) D ta ((GC gs)) [.ref (o 0), .ref hk, .int (nI c), .int (nI n), .ref hr] [(o 0, oO o), (o 9, oR (o 10) 16), (o 10, aZ ta 16 gz), (o 11, oD (o 12) (o 13) (o 14) (o 15) (o 16) tri), (o 12, aZ ta 8 gb), (o 13, aZ ta 8 bf), (o 14, aI ta 512 spb), (o 15, aJ ta 16 f), (o 16, aJ ta 16 s), (hk, oR bk 16), (bk, aZ ta capk gk), (hr, oR br nr), (br, aZ ta capr gr)] sz (S := (Nat → BitVec 8) × Bool × (Nat → BitVec 8) × (Nat → BitVec 8) × (Nat → Int64) × (Nat → Int64)) (fun _ => none) (fun u => (qL u.1 16 = skeyL (qL gk 16) c n)) (fun u => [(o 0, oO o), (o 9, oR (o 10) 16), (o 10, aZ ta 16 gz), (o 11, oD (o 12) (o 13) (o 14) (o 15) (o 16) u.2.1), (o 12, aZ ta 8 u.2.2.1), (o 13, aZ ta 8 u.2.2.2.1), (o 14, aI ta 512 spb), (o 15, aJ ta 16 u.2.2.2.2.1), (o 16, aJ ta 16 u.2.2.2.2.2), (hk, oR bk 16), (bk, aZ ta capk gk), (hr, oR br 16), (br, aZ ta capr u.1)]) 0 0 := by
  refine CT.of_v rfl (by decide) (Nat.le_of_ble_eq_true rfl) ?_
  have hGok := GC_ok gs
  intro pp ee ss mm below meth kc A Q hx hb hml hown hin hts hK hA hsz hG hret H locs hP hD hS ls hl
  have hl : lv_has ls 5 [(0, .ref (o 0)), (1, .ref hk), (2, .int (nI c)), (3, .int (nI n)), (4, .ref hr)] := hl
  refine lv_aload (pc := 0) hx hb dX5_sessionKey_0 (lv_at hl 4 rfl) ?_
  refine cs_V (pc := 2) (idx := 65) (n := 0) (wr := [(o 0, oO o), (o 9, oR (o 10) 16), (o 10, aZ ta 16 gz), (o 11, oD (o 12) (o 13) (o 14) (o 15) (o 16) tri), (o 12, aZ ta 8 gb), (o 13, aZ ta 8 bf), (o 14, aI ta 512 spb), (o 15, aJ ta 16 f), (o 16, aJ ta 16 s), (hk, oR bk 16), (bk, aZ ta capk gk)]) (As := []) (rest := []) (ci := 5) hx hb hml hown hts hGok hK hA hG hl.1 hP hD hS (ct_X6_clear ll D ta hGok hr br capr gr nr  H.size) tw_441 tw_621 tw_439 tw_440 tw_66 hdX6_clear rfl ⟨rfl, rfl, Nat.le_of_ble_eq_true rfl, Nat.le_of_ble_eq_true rfl, Nat.le_of_ble_eq_true rfl, Nat.le_of_ble_eq_true rfl⟩ rfl rfl (q0 := 11) rfl [11, 12] [0, 1, 2, 3, 4, 5, 6, 7, 8, 9, 10] rfl rfl (by decide) rfl (Nat.le_of_ble_eq_true rfl) dX5_sessionKey_2 (fun u H locs hq hP hD hS => ?_)
  refine W.eq (g2 := F0 mm 5 ls []) rfl ?_
  have hP : va_P D vwCl [(o 0, oO o), (o 9, oR (o 10) 16), (o 10, aZ ta 16 gz), (o 11, oD (o 12) (o 13) (o 14) (o 15) (o 16) tri), (o 12, aZ ta 8 gb), (o 13, aZ ta 8 bf), (o 14, aI ta 512 spb), (o 15, aJ ta 16 f), (o 16, aJ ta 16 s), (hk, oR bk 16), (bk, aZ ta capk gk), (hr, oR br 0), (br, aZ ta capr gr)] H := hP
  have hD : va_D A [(o 0, oO o), (o 9, oR (o 10) 16), (o 10, aZ ta 16 gz), (o 11, oD (o 12) (o 13) (o 14) (o 15) (o 16) tri), (o 12, aZ ta 8 gb), (o 13, aZ ta 8 bf), (o 14, aI ta 512 spb), (o 15, aJ ta 16 f), (o 16, aJ ta 16 s), (hk, oR bk 16), (bk, aZ ta capk gk), (hr, oR br 0), (br, aZ ta capr gr)] := hD
  refine lv_aload (pc := 5) hx hb dX5_sessionKey_5 (lv_at hl 4 rfl) ?_
  refine lv_iload_n (pc := 7) hx hb dX5_sessionKey_7 rfl (lv_at hl 2 rfl) ?_
  refine lv_i2l (pc := 8) (v := (nI c).toInt64) hx hb dX5_sessionKey_8 rfl ?_
  refine lv_iconst (pc := 9) (v := nI 2) hx hb dX5_sessionKey_9 (by decide +kernel) ?_
  refine cs_V (pc := 10) (idx := 68) (n := 2) (wr := [(o 0, oO o), (o 9, oR (o 10) 16), (o 10, aZ ta 16 gz), (o 11, oD (o 12) (o 13) (o 14) (o 15) (o 16) tri), (o 12, aZ ta 8 gb), (o 13, aZ ta 8 bf), (o 14, aI ta 512 spb), (o 15, aJ ta 16 f), (o 16, aJ ta 16 s), (hk, oR bk 16), (bk, aZ ta capk gk)]) (As := [.long ((nI c).toInt64), .int (nI 2)]) (rest := []) (ci := 5) hx hb hml hown hts hGok hK hA hG hl.1 hP hD hS (ct_X6_addNumber ll D ta hGok hr br capr gr 0 ((nI c).toInt64) 2 (by first | assumption | omega | rfl | decide) (by first | assumption | omega | rfl | decide) (by first | assumption | omega | rfl | decide) H.size) tw_397 tw_622 tw_395 tw_396 tw_66 hdX6_addNumber rfl ⟨rfl, rfl, Nat.le_of_ble_eq_true rfl, Nat.le_of_ble_eq_true rfl, Nat.le_of_ble_eq_true rfl, Nat.le_of_ble_eq_true rfl⟩ rfl rfl (q0 := 11) rfl [11, 12] [0, 1, 2, 3, 4, 5, 6, 7, 8, 9, 10] rfl rfl (by decide) rfl (Nat.le_of_ble_eq_true rfl) dX5_sessionKey_10 (fun u H locs hq hP hD hS => ?_)
  generalize u = g1_10 at hq hP hD ⊢
  have hq : (qL g1_10 (0 + 2) = qL gr 0 ++ qNum ((nI c).toInt64) 2) := hq
  have hL_10 := hq
  refine W.eq (g2 := F0 mm 13 ls []) rfl ?_
  have hP : va_P D vwCl [(o 0, oO o), (o 9, oR (o 10) 16), (o 10, aZ ta 16 gz), (o 11, oD (o 12) (o 13) (o 14) (o 15) (o 16) tri), (o 12, aZ ta 8 gb), (o 13, aZ ta 8 bf), (o 14, aI ta 512 spb), (o 15, aJ ta 16 f), (o 16, aJ ta 16 s), (hk, oR bk 16), (bk, aZ ta capk gk), (hr, oR br (0 + 2)), (br, aZ ta capr g1_10)] H := hP
  have hD : va_D A [(o 0, oO o), (o 9, oR (o 10) 16), (o 10, aZ ta 16 gz), (o 11, oD (o 12) (o 13) (o 14) (o 15) (o 16) tri), (o 12, aZ ta 8 gb), (o 13, aZ ta 8 bf), (o 14, aI ta 512 spb), (o 15, aJ ta 16 f), (o 16, aJ ta 16 s), (hk, oR bk 16), (bk, aZ ta capk gk), (hr, oR br (0 + 2)), (br, aZ ta capr g1_10)] := hD
  refine lv_aload (pc := 13) hx hb dX5_sessionKey_13 (lv_at hl 4 rfl) ?_
  refine lv_iload_n (pc := 15) hx hb dX5_sessionKey_15 rfl (lv_at hl 3 rfl) ?_
  refine lv_i2l (pc := 16) (v := (nI n).toInt64) hx hb dX5_sessionKey_16 rfl ?_
  refine lv_iconst (pc := 17) (v := nI 2) hx hb dX5_sessionKey_17 (by decide +kernel) ?_
  refine cs_V (pc := 18) (idx := 68) (n := 2) (wr := [(o 0, oO o), (o 9, oR (o 10) 16), (o 10, aZ ta 16 gz), (o 11, oD (o 12) (o 13) (o 14) (o 15) (o 16) tri), (o 12, aZ ta 8 gb), (o 13, aZ ta 8 bf), (o 14, aI ta 512 spb), (o 15, aJ ta 16 f), (o 16, aJ ta 16 s), (hk, oR bk 16), (bk, aZ ta capk gk)]) (As := [.long ((nI n).toInt64), .int (nI 2)]) (rest := []) (ci := 5) hx hb hml hown hts hGok hK hA hG hl.1 hP hD hS (ct_X6_addNumber ll D ta hGok hr br capr g1_10 (0 + 2) ((nI n).toInt64) 2 (by first | assumption | omega | rfl | decide) (by first | assumption | omega | rfl | decide) (by first | assumption | omega | rfl | decide) H.size) tw_397 tw_622 tw_395 tw_396 tw_66 hdX6_addNumber rfl ⟨rfl, rfl, Nat.le_of_ble_eq_true rfl, Nat.le_of_ble_eq_true rfl, Nat.le_of_ble_eq_true rfl, Nat.le_of_ble_eq_true rfl⟩ rfl rfl (q0 := 11) rfl [11, 12] [0, 1, 2, 3, 4, 5, 6, 7, 8, 9, 10] rfl rfl (by decide) rfl (Nat.le_of_ble_eq_true rfl) dX5_sessionKey_18 (fun u H locs hq hP hD hS => ?_)
  generalize u = g1_18 at hq hP hD ⊢
  have hq : (qL g1_18 ((0 + 2) + 2) = qL g1_10 (0 + 2) ++ qNum ((nI n).toInt64) 2) := hq
  have hL_18 := hq
  refine W.eq (g2 := F0 mm 21 ls []) rfl ?_
  have hP : va_P D vwCl [(o 0, oO o), (o 9, oR (o 10) 16), (o 10, aZ ta 16 gz), (o 11, oD (o 12) (o 13) (o 14) (o 15) (o 16) tri), (o 12, aZ ta 8 gb), (o 13, aZ ta 8 bf), (o 14, aI ta 512 spb), (o 15, aJ ta 16 f), (o 16, aJ ta 16 s), (hk, oR bk 16), (bk, aZ ta capk gk), (hr, oR br ((0 + 2) + 2)), (br, aZ ta capr g1_18)] H := hP
  have hD : va_D A [(o 0, oO o), (o 9, oR (o 10) 16), (o 10, aZ ta 16 gz), (o 11, oD (o 12) (o 13) (o 14) (o 15) (o 16) tri), (o 12, aZ ta 8 gb), (o 13, aZ ta 8 bf), (o 14, aI ta 512 spb), (o 15, aJ ta 16 f), (o 16, aJ ta 16 s), (hk, oR bk 16), (bk, aZ ta capk gk), (hr, oR br ((0 + 2) + 2)), (br, aZ ta capr g1_18)] := hD
  refine lv_aload (pc := 21) hx hb dX5_sessionKey_21 (lv_at hl 4 rfl) ?_
  refine lv_bipush (pc := 23) (v := nI 12) hx hb dX5_sessionKey_23 (by decide +kernel) ?_
  refine cs_V (pc := 25) (idx := 160) (n := 1) (wr := [(o 0, oO o), (o 9, oR (o 10) 16), (o 10, aZ ta 16 gz), (o 11, oD (o 12) (o 13) (o 14) (o 15) (o 16) tri), (o 12, aZ ta 8 gb), (o 13, aZ ta 8 bf), (o 14, aI ta 512 spb), (o 15, aJ ta 16 f), (o 16, aJ ta 16 s), (hk, oR bk 16), (bk, aZ ta capk gk)]) (As := [.int (nI 12)]) (rest := []) (ci := 5) hx hb hml hown hts hGok hK hA hG hl.1 hP hD hS (ct_X6_addZeros ll D ta hGok hr br capr g1_18 ((0 + 2) + 2) 12 (by first | assumption | omega | rfl | decide) (by first | assumption | omega | rfl | decide) H.size) tw_227 tw_623 tw_225 tw_226 tw_66 hdX6_addZeros rfl ⟨rfl, rfl, Nat.le_of_ble_eq_true rfl, Nat.le_of_ble_eq_true rfl, Nat.le_of_ble_eq_true rfl, Nat.le_of_ble_eq_true rfl⟩ rfl rfl (q0 := 11) rfl [11, 12] [0, 1, 2, 3, 4, 5, 6, 7, 8, 9, 10] rfl rfl (by decide) rfl (Nat.le_of_ble_eq_true rfl) dX5_sessionKey_25 (fun u H locs hq hP hD hS => ?_)
  generalize u = g1_25 at hq hP hD ⊢
  have hq : (qL g1_25 (((0 + 2) + 2) + 12) = qL g1_18 ((0 + 2) + 2) ++ List.replicate 12 0#8) := hq
  have hL_25 := hq
  refine W.eq (g2 := F0 mm 28 ls []) rfl ?_
  have hP : va_P D vwCl [(o 0, oO o), (o 9, oR (o 10) 16), (o 10, aZ ta 16 gz), (o 11, oD (o 12) (o 13) (o 14) (o 15) (o 16) tri), (o 12, aZ ta 8 gb), (o 13, aZ ta 8 bf), (o 14, aI ta 512 spb), (o 15, aJ ta 16 f), (o 16, aJ ta 16 s), (hk, oR bk 16), (bk, aZ ta capk gk), (hr, oR br (((0 + 2) + 2) + 12)), (br, aZ ta capr g1_25)] H := hP
  have hD : va_D A [(o 0, oO o), (o 9, oR (o 10) 16), (o 10, aZ ta 16 gz), (o 11, oD (o 12) (o 13) (o 14) (o 15) (o 16) tri), (o 12, aZ ta 8 gb), (o 13, aZ ta 8 bf), (o 14, aI ta 512 spb), (o 15, aJ ta 16 f), (o 16, aJ ta 16 s), (hk, oR bk 16), (bk, aZ ta capk gk), (hr, oR br (((0 + 2) + 2) + 12)), (br, aZ ta capr g1_25)] := hD
  refine lv_aload_n (pc := 28) hx hb dX5_sessionKey_28 rfl (lv_at hl 0 rfl) ?_
  refine va_get (pc := 29) (D := D) (ci := 4) (v := .ref (o 11)) (C := RX5) (T := TX5) (N := 6) hx hb hts iu5 hown hK hP 0 rfl rfl 5 (by decide) (hts _ tw_269) (fun _ h9 => h9) rfl dX5_sessionKey_29 ?_
  refine lv_aload_n (pc := 32) hx hb dX5_sessionKey_32 rfl (lv_at hl 1 rfl) ?_
  refine cs_V (pc := 33) (idx := 111) (n := 1) (wr := [(o 0, oO o), (o 9, oR (o 10) 16), (o 10, aZ ta 16 gz), (o 12, aZ ta 8 gb), (o 13, aZ ta 8 bf), (o 14, aI ta 512 spb), (hr, oR br (((0 + 2) + 2) + 12)), (br, aZ ta capr g1_25)]) (As := [.ref hk]) (rest := []) (ci := 1) hx hb hml hown hts hGok hK hA hG hl.1 hP hD hS (ct_X2_setTriple ll D ta gs (o 11) (o 12) (o 13) (o 14) (o 15) (o 16) tri hk bk capk gk 16 f s (by first | assumption | omega | rfl | decide) (by first | assumption | omega | rfl | decide) (by first | assumption | omega | rfl | decide) H.size) tw_627 tw_624 tw_625 tw_626 tw_72 hdX2_setTriple rfl ⟨rfl, rfl, Nat.le_of_ble_eq_true rfl, Nat.le_of_ble_eq_true rfl, Nat.le_of_ble_eq_true rfl, Nat.le_of_ble_eq_true rfl⟩ rfl rfl (q0 := 3) rfl [3, 9, 10, 7, 8] [0, 1, 2, 4, 5, 6, 11, 12] rfl rfl (by decide) rfl (Nat.le_of_ble_eq_true rfl) dX5_sessionKey_33 (fun u H locs hq hP hD hS => ?_)
  obtain ⟨f1_33, s1_33⟩ := u
  have hq : (∀ rz, rz < 16 → f1_33 rz = skL (fun jz => gk (0 + jz)) rz) ∧ (∀ rz, rz < 16 → s1_33 rz = skL (fun jz => gk (8 + jz)) rz) := hq
  obtain ⟨hs_33, hs2_33⟩ := hq
  refine W.eq (g2 := F0 mm 36 ls []) rfl ?_
  have hP : va_P D vwCl [(o 0, oO o), (o 9, oR (o 10) 16), (o 10, aZ ta 16 gz), (o 12, aZ ta 8 gb), (o 13, aZ ta 8 bf), (o 14, aI ta 512 spb), (hr, oR br (((0 + 2) + 2) + 12)), (br, aZ ta capr g1_25), (o 11, oD (o 12) (o 13) (o 14) (o 15) (o 16) true), (hk, oR bk 16), (bk, aZ ta capk gk), (o 15, aJ ta 16 f1_33), (o 16, aJ ta 16 s1_33)] H := hP
  have hD : va_D A [(o 0, oO o), (o 9, oR (o 10) 16), (o 10, aZ ta 16 gz), (o 12, aZ ta 8 gb), (o 13, aZ ta 8 bf), (o 14, aI ta 512 spb), (hr, oR br (((0 + 2) + 2) + 12)), (br, aZ ta capr g1_25), (o 11, oD (o 12) (o 13) (o 14) (o 15) (o 16) true), (hk, oR bk 16), (bk, aZ ta capk gk), (o 15, aJ ta 16 f1_33), (o 16, aJ ta 16 s1_33)] := hD
  refine lv_aload_n (pc := 36) hx hb dX5_sessionKey_36 rfl (lv_at hl 0 rfl) ?_
  refine va_get (pc := 37) (D := D) (ci := 4) (v := .ref (o 11)) (C := RX5) (T := TX5) (N := 6) hx hb hts iu5 hown hK hP 0 rfl rfl 5 (by decide) (hts _ tw_269) (fun _ h9 => h9) rfl dX5_sessionKey_37 ?_
  refine lv_aload_n (pc := 40) hx hb dX5_sessionKey_40 rfl (lv_at hl 0 rfl) ?_
  refine va_get (pc := 41) (D := D) (ci := 4) (v := .ref (o 9)) (C := RX5) (T := TX5) (N := 6) hx hb hts iu5 hown hK hP 0 rfl rfl 4 (by decide) (hts _ tw_291) (fun x h9 => u_same (hts _ tw_292) x h9) rfl dX5_sessionKey_41 ?_
  refine cs_U (pc := 44) (idx := 114) (n := 1) (wr := [(o 0, oO o), (o 12, aZ ta 8 gb), (o 14, aI ta 512 spb), (hr, oR br (((0 + 2) + 2) + 12)), (br, aZ ta capr g1_25), (hk, oR bk 16), (bk, aZ ta capk gk), (o 15, aJ ta 16 f1_33), (o 16, aJ ta 16 s1_33)]) (As := [.ref (o 9)]) (rest := []) (ci := 1) (x := ⟨"LineGuard$Des", "startFrom", "(LLineGuard$Row;)V"⟩) (owner := "LineGuard$BlockCipher") hx hb hml hown hts hGok hK hA hG hl.1 hP hD hS (ct_X1_startFrom_D ll D ta hGok (o 11) (o 12) (o 13) (o 14) (o 15) (o 16) true bf (o 9) (o 10) 16 gz 16 (by first | assumption | omega | rfl | decide) (by first | assumption | omega | rfl | decide) (by first | assumption | omega | rfl | decide) H.size) tw_527 tw_642 tw_526 tw_644 tw_71 tw_643 (va_Decl.of (hts _ tw_526) (hts _ tw_527)) ⟨by decide +kernel, by decide +kernel, by decide +kernel⟩ rfl ⟨rfl, rfl, Nat.le_of_ble_eq_true rfl, Nat.le_of_ble_eq_true rfl, Nat.le_of_ble_eq_true rfl, Nat.le_of_ble_eq_true rfl⟩ rfl (q0 := 8) rfl [8, 4, 1, 2] [0, 3, 5, 6, 7, 9, 10, 11, 12] rfl rfl (by decide) rfl (Nat.le_of_ble_eq_true rfl) dX5_sessionKey_44 (fun u H locs hq hP hD hS => ?_)
  generalize u = bf1_44 at hq hP hD ⊢
  have hq : (qL bf1_44 8 = qL gz 8) := hq
  have hs_44 := hq
  refine W.eq (g2 := F0 mm 47 ls []) rfl ?_
  have hP : va_P D vwCl [(o 0, oO o), (o 12, aZ ta 8 gb), (o 14, aI ta 512 spb), (hr, oR br (((0 + 2) + 2) + 12)), (br, aZ ta capr g1_25), (hk, oR bk 16), (bk, aZ ta capk gk), (o 15, aJ ta 16 f1_33), (o 16, aJ ta 16 s1_33), (o 11, oD (o 12) (o 13) (o 14) (o 15) (o 16) true), (o 13, aZ ta 8 bf1_44), (o 9, oR (o 10) 16), (o 10, aZ ta 16 gz)] H := hP
  have hD : va_D A [(o 0, oO o), (o 12, aZ ta 8 gb), (o 14, aI ta 512 spb), (hr, oR br (((0 + 2) + 2) + 12)), (br, aZ ta capr g1_25), (hk, oR bk 16), (bk, aZ ta capk gk), (o 15, aJ ta 16 f1_33), (o 16, aJ ta 16 s1_33), (o 11, oD (o 12) (o 13) (o 14) (o 15) (o 16) true), (o 13, aZ ta 8 bf1_44), (o 9, oR (o 10) 16), (o 10, aZ ta 16 gz)] := hD
  refine lv_aload_n (pc := 47) hx hb dX5_sessionKey_47 rfl (lv_at hl 0 rfl) ?_
  refine va_get (pc := 48) (D := D) (ci := 4) (v := .ref (o 11)) (C := RX5) (T := TX5) (N := 6) hx hb hts iu5 hown hK hP 0 rfl rfl 5 (by decide) (hts _ tw_269) (fun _ h9 => h9) rfl dX5_sessionKey_48 ?_
  refine lv_aload (pc := 51) hx hb dX5_sessionKey_51 (lv_at hl 4 rfl) ?_
  refine lv_iconst (pc := 53) (v := nI 0) hx hb dX5_sessionKey_53 (by decide +kernel) ?_
  refine lv_aload (pc := 54) hx hb dX5_sessionKey_54 (lv_at hl 4 rfl) ?_
  refine cs_V (pc := 56) (idx := 95) (n := 0) (wr := [(o 0, oO o), (o 12, aZ ta 8 gb), (o 14, aI ta 512 spb), (hk, oR bk 16), (bk, aZ ta capk gk), (o 15, aJ ta 16 f1_33), (o 16, aJ ta 16 s1_33), (o 11, oD (o 12) (o 13) (o 14) (o 15) (o 16) true), (o 13, aZ ta 8 bf1_44), (o 9, oR (o 10) 16), (o 10, aZ ta 16 gz)]) (As := []) (rest := [.int (nI 0), .ref hr, .ref (o 11)]) (ci := 5) hx hb hml hown hts hGok hK hA hG hl.1 hP hD hS (ct_X6_size ll D ta hGok hr br capr g1_25 (((0 + 2) + 2) + 12)  H.size) tw_393 tw_645 tw_391 tw_392 tw_66 hdX6_size rfl ⟨rfl, rfl, Nat.le_of_ble_eq_true rfl, Nat.le_of_ble_eq_true rfl, Nat.le_of_ble_eq_true rfl, Nat.le_of_ble_eq_true rfl⟩ rfl rfl (q0 := 3) rfl [3, 4] [0, 1, 2, 5, 6, 7, 8, 9, 10, 11, 12] rfl rfl (by decide) rfl (Nat.le_of_ble_eq_true rfl) dX5_sessionKey_56 (fun u H locs hq hP hD hS => ?_)
  refine W.eq (g2 := F0 mm 59 ls [.int (nI (((0 + 2) + 2) + 12)), .int (nI 0), .ref hr, .ref (o 11)]) rfl ?_
  have hP : va_P D vwCl [(o 0, oO o), (o 12, aZ ta 8 gb), (o 14, aI ta 512 spb), (hk, oR bk 16), (bk, aZ ta capk gk), (o 15, aJ ta 16 f1_33), (o 16, aJ ta 16 s1_33), (o 11, oD (o 12) (o 13) (o 14) (o 15) (o 16) true), (o 13, aZ ta 8 bf1_44), (o 9, oR (o 10) 16), (o 10, aZ ta 16 gz), (hr, oR br (((0 + 2) + 2) + 12)), (br, aZ ta capr g1_25)] H := hP
  have hD : va_D A [(o 0, oO o), (o 12, aZ ta 8 gb), (o 14, aI ta 512 spb), (hk, oR bk 16), (bk, aZ ta capk gk), (o 15, aJ ta 16 f1_33), (o 16, aJ ta 16 s1_33), (o 11, oD (o 12) (o 13) (o 14) (o 15) (o 16) true), (o 13, aZ ta 8 bf1_44), (o 9, oR (o 10) 16), (o 10, aZ ta 16 gz), (hr, oR br (((0 + 2) + 2) + 12)), (br, aZ ta capr g1_25)] := hD
  refine cs_U (pc := 59) (idx := 117) (n := 3) (wr := [(o 0, oO o), (hk, oR bk 16), (bk, aZ ta capk gk), (o 9, oR (o 10) 16), (o 10, aZ ta 16 gz)]) (As := [.ref hr, .int (nI 0), .int (nI (((0 + 2) + 2) + 12))]) (rest := []) (ci := 1) (x := ⟨"LineGuard$Des", "chainThere", "(LLineGuard$Row;II)V"⟩) (owner := "LineGuard$BlockCipher") hx hb hml hown hts hGok hK hA hG hl.1 hP hD hS (ct_X1_chainThere_D ll D ta gs (o 11) (o 12) (o 13) (o 14) (o 15) (o 16) true gb bf1_44 f1_33 s1_33 spb (qL gk 16) hr br capr g1_25 (((0 + 2) + 2) + 12) 0 (((0 + 2) + 2) + 12) 2 (by first | assumption | omega | rfl | decide) (dkS_take (by decide) hs_33) (fun _ => dkS_drop (by decide) hs2_33) (by first | assumption | omega | rfl | decide) (by first | assumption | omega | rfl | decide) (by first | assumption | omega | rfl | decide) (by first | assumption | omega | rfl | decide) H.size) tw_534 tw_646 tw_533 tw_648 tw_71 tw_647 (va_Decl.of (hts _ tw_533) (hts _ tw_534)) ⟨by decide +kernel, by decide +kernel, by decide +kernel⟩ rfl ⟨rfl, rfl, Nat.le_of_ble_eq_true rfl, Nat.le_of_ble_eq_true rfl, Nat.le_of_ble_eq_true rfl, Nat.le_of_ble_eq_true rfl⟩ rfl (q0 := 7) rfl [7, 1, 8, 2, 5, 6, 11, 12] [0, 3, 4, 9, 10] rfl rfl (by decide) rfl (Nat.le_of_ble_eq_true rfl) dX5_sessionKey_59 (fun u H locs hq hP hD hS => ?_)
  obtain ⟨gb1_59, bf1_59, gr1_59⟩ := u
  have hq : (qSeg gr1_59 g1_25 0 (8 * 2) (encF (cE true (qL gk 16) false) 8 (qL bf1_44 8) (seg g1_25 0 (8 * 2)))) ∧ (qL bf1_59 8 = cbcM (cE true (qL gk 16) false) 8 (qL bf1_44 8) (seg g1_25 0 (8 * 2)) 2) := hq
  obtain ⟨hs_59, hbf_59⟩ := hq
  refine W.eq (g2 := F0 mm 62 ls []) rfl ?_
  have hP : va_P D vwCl [(o 0, oO o), (hk, oR bk 16), (bk, aZ ta capk gk), (o 9, oR (o 10) 16), (o 10, aZ ta 16 gz), (o 11, oD (o 12) (o 13) (o 14) (o 15) (o 16) true), (o 12, aZ ta 8 gb1_59), (o 13, aZ ta 8 bf1_59), (o 14, aI ta 512 spb), (o 15, aJ ta 16 f1_33), (o 16, aJ ta 16 s1_33), (hr, oR br (((0 + 2) + 2) + 12)), (br, aZ ta capr gr1_59)] H := hP
  have hD : va_D A [(o 0, oO o), (hk, oR bk 16), (bk, aZ ta capk gk), (o 9, oR (o 10) 16), (o 10, aZ ta 16 gz), (o 11, oD (o 12) (o 13) (o 14) (o 15) (o 16) true), (o 12, aZ ta 8 gb1_59), (o 13, aZ ta 8 bf1_59), (o 14, aI ta 512 spb), (o 15, aJ ta 16 f1_33), (o 16, aJ ta 16 s1_33), (hr, oR br (((0 + 2) + 2) + 12)), (br, aZ ta capr gr1_59)] := hD
  have hq_1 : (qL gr1_59 16 = skeyL (qL gk 16) c n) := by
    have hT : qL g1_25 (0 + 2 + 2 + 12) = qNum (nI c).toInt64 2 ++ qNum (nI n).toInt64 2 ++ zeroL 12 := by
      rw [hL_25, hL_18, hL_10]
      rfl
    have hs9 := hs_59
    rw [seg_0, show 8 * 2 = 0 + 2 + 2 + 12 from rfl, hT, cE_t, hs_44, qL_zero hz (by decide)] at hs9
    rw [skeyL, ← seg_0, qSeg_segk hs9 rfl]
  exact hret (⟨(gr1_59), (true), (gb1_59), (bf1_59), (f1_33), (s1_33)⟩ : (Nat → BitVec 8) × Bool × (Nat → BitVec 8) × (Nat → BitVec 8) × (Nat → Int64) × (Nat → Int64)) _ _ _ _ dX5_sessionKey_62 hq_1 (hP.sub [0, 3, 4, 5, 6, 7, 8, 9, 10, 1, 2, 11, 12] rfl) (hD.sub [0, 3, 4, 5, 6, 7, 8, 9, 10, 1, 2, 11, 12] (by decide) rfl) hS
theorem hdX5_mac3 : yX5_mac3.cls ≠ "java/lang/invoke/MethodHandle" ∧ yX5_mac3.cls ≠ "java/lang/invoke/VarHandle" ∧ (parseMethodDescriptor yX5_mac3.desc).map (fun d => d.parameters.length) = some 2 := ⟨by decide +kernel, by decide +kernel, by decide +kernel⟩
theorem dX5_mac3_0 : decode cX5_mac3 0 = .ok (.aload_n 0, 1) := by decide +kernel
theorem dX5_mac3_1 : decode cX5_mac3 1 = .ok (.getfield 31, 3) := by decide +kernel
theorem dX5_mac3_4 : decode cX5_mac3 4 = .ok (.bipush 8, 2) := by decide +kernel
theorem dX5_mac3_6 : decode cX5_mac3 6 = .ok (.invokevirtual 107, 3) := by decide +kernel
theorem dX5_mac3_9 : decode cX5_mac3 9 = .ok (.aload_n 0, 1) := by decide +kernel
theorem dX5_mac3_10 : decode cX5_mac3 10 = .ok (.getfield 12, 3) := by decide +kernel
theorem dX5_mac3_13 : decode cX5_mac3 13 = .ok (.aload_n 1, 1) := by decide +kernel
theorem dX5_mac3_14 : decode cX5_mac3 14 = .ok (.invokevirtual 111, 3) := by decide +kernel
theorem dX5_mac3_17 : decode cX5_mac3 17 = .ok (.aload_n 0, 1) := by decide +kernel
theorem dX5_mac3_18 : decode cX5_mac3 18 = .ok (.getfield 12, 3) := by decide +kernel
theorem dX5_mac3_21 : decode cX5_mac3 21 = .ok (.aload_n 0, 1) := by decide +kernel
theorem dX5_mac3_22 : decode cX5_mac3 22 = .ok (.getfield 40, 3) := by decide +kernel
theorem dX5_mac3_25 : decode cX5_mac3 25 = .ok (.invokevirtual 114, 3) := by decide +kernel
theorem dX5_mac3_28 : decode cX5_mac3 28 = .ok (.aload_n 0, 1) := by decide +kernel
theorem dX5_mac3_29 : decode cX5_mac3 29 = .ok (.getfield 12, 3) := by decide +kernel
theorem dX5_mac3_32 : decode cX5_mac3 32 = .ok (.aload_n 0, 1) := by decide +kernel
theorem dX5_mac3_33 : decode cX5_mac3 33 = .ok (.getfield 31, 3) := by decide +kernel
theorem dX5_mac3_36 : decode cX5_mac3 36 = .ok (.iconst 0, 1) := by decide +kernel
theorem dX5_mac3_37 : decode cX5_mac3 37 = .ok (.aload_n 0, 1) := by decide +kernel
theorem dX5_mac3_38 : decode cX5_mac3 38 = .ok (.getfield 31, 3) := by decide +kernel
theorem dX5_mac3_41 : decode cX5_mac3 41 = .ok (.invokevirtual 95, 3) := by decide +kernel
theorem dX5_mac3_44 : decode cX5_mac3 44 = .ok (.invokevirtual 117, 3) := by decide +kernel
theorem dX5_mac3_47 : decode cX5_mac3 47 = .ok (.aload_n 2, 1) := by decide +kernel
theorem dX5_mac3_48 : decode cX5_mac3 48 = .ok (.aload_n 0, 1) := by decide +kernel
theorem dX5_mac3_49 : decode cX5_mac3 49 = .ok (.getfield 31, 3) := by decide +kernel
theorem dX5_mac3_52 : decode cX5_mac3 52 = .ok (.aload_n 0, 1) := by decide +kernel
theorem dX5_mac3_53 : decode cX5_mac3 53 = .ok (.getfield 31, 3) := by decide +kernel
theorem dX5_mac3_56 : decode cX5_mac3 56 = .ok (.invokevirtual 95, 3) := by decide +kernel
theorem dX5_mac3_59 : decode cX5_mac3 59 = .ok (.bipush 8, 2) := by decide +kernel
theorem dX5_mac3_61 : decode cX5_mac3 61 = .ok (.isub, 1) := by decide +kernel
theorem dX5_mac3_62 : decode cX5_mac3 62 = .ok (.aload_n 0, 1) := by decide +kernel
theorem dX5_mac3_63 : decode cX5_mac3 63 = .ok (.getfield 31, 3) := by decide +kernel
theorem dX5_mac3_66 : decode cX5_mac3 66 = .ok (.invokevirtual 95, 3) := by decide +kernel
theorem dX5_mac3_69 : decode cX5_mac3 69 = .ok (.invokevirtual 99, 3) := by decide +kernel
theorem dX5_mac3_72 : decode cX5_mac3 72 = .ok (.return_, 1) := by decide +kernel
set_option maxHeartbeats 4000000 in
set_option maxRecDepth 100000 in
theorem ct_X5_mac3 (ll : Launch) (D : va_G) (ta : Nat → ClassId) (gs : Nat → Nat) (o : Nat → Nat) (gz : Nat → BitVec 8) (tri : Bool) (gb : Nat → BitVec 8) (bf : Nat → BitVec 8) (f : Nat → Int64) (s : Nat → Int64) (spb : Nat → Int32) (gt : Nat → BitVec 8) (nt : Nat) (hk : Nat) (bk : Nat) (capk : Nat) (gk : Nat → BitVec 8) (hr : Nat) (br : Nat) (capr : Nat) (gr : Nat → BitVec 8) (nr : Nat) (hz : qL gz 16 = zeroL 16) (hsp : spbOK spb) (hck : 16 ≤ capk ∧ capk < 2147483648) (hcr : 8 ≤ capr ∧ capr < 2147483648) (hnt : nt ≤ 512) (sz : Nat) : CT ll yX5_mac3 cX5_mac3 3 none ({ frames := 3, cells := 0, slots := 0, locals := 81 } : Room) D ta ((GC gs)) [.ref (o 0), .ref hk, .ref hr] [(o 0, oO o), (o 1, oR (o 2) nt), (o 2, aZ ta 528 gt), (o 9, oR (o 10) 16), (o 10, aZ ta 16 gz), (o 11, oD (o 12) (o 13) (o 14) (o 15) (o 16) tri), (o 12, aZ ta 8 gb), (o 13, aZ ta 8 bf), (o 14, aI ta 512 spb), (o 15, aJ ta 16 f), (o 16, aJ ta 16 s), (hk, oR bk 16), (bk, aZ ta capk gk), (hr, oR br nr), (br, aZ ta capr gr)] sz (S := (Nat → BitVec 8) × Nat × (Nat → BitVec 8) × Bool × (Nat → BitVec 8) × (Nat → BitVec 8) × (Nat → Int64) × (Nat → Int64)) (fun _ => none) (fun u => (qL u.2.2.1 8 = mac3L (qL gk 16) (qL gt nt))) (fun u => [(o 0, oO o), (o 1, oR (o 2) u.2.1), (o 2, aZ ta 528 u.1), (o 9, oR (o 10) 16), (o 10, aZ ta 16 gz), (o 11, oD (o 12) (o 13) (o 14) (o 15) (o 16) u.2.2.2.1), (o 12, aZ ta 8 u.2.2.2.2.1), (o 13, aZ ta 8 u.2.2.2.2.2.1), (o 14, aI ta 512 spb), (o 15, aJ ta 16 u.2.2.2.2.2.2.1), (o 16, aJ ta 16 u.2.2.2.2.2.2.2), (hk, oR bk 16), (bk, aZ ta capk gk), (hr, oR br 8), (br, aZ ta capr u.2.2.1)]) 0 0 := by
  refine CT.of_v rfl (by decide) (Nat.le_of_ble_eq_true rfl) ?_
  have hGok := GC_ok gs
  intro pp ee ss mm below meth kc A Q hx hb hml hown hin hts hK hA hsz hG hret H locs hP hD hS ls hl
  have hl : lv_has ls 3 [(0, .ref (o 0)), (1, .ref hk), (2, .ref hr)] := hl
  refine lv_aload_n (pc := 0) hx hb dX5_mac3_0 rfl (lv_at hl 0 rfl) ?_
  refine va_get (pc := 1) (D := D) (ci := 4) (v := .ref (o 1)) (C := RX5) (T := TX5) (N := 6) hx hb hts iu5 hown hK hP 0 rfl rfl 0 (by decide) (hts _ tw_271) (fun x h9 => u_same (hts _ tw_272) x h9) rfl dX5_mac3_1 ?_
  refine lv_bipush (pc := 4) (v := nI 8) hx hb dX5_mac3_4 (by decide +kernel) ?_
  refine cs_V (pc := 6) (idx := 107) (n := 1) (wr := [(o 0, oO o), (o 9, oR (o 10) 16), (o 10, aZ ta 16 gz), (o 11, oD (o 12) (o 13) (o 14) (o 15) (o 16) tri), (o 12, aZ ta 8 gb), (o 13, aZ ta 8 bf), (o 14, aI ta 512 spb), (o 15, aJ ta 16 f), (o 16, aJ ta 16 s), (hk, oR bk 16), (bk, aZ ta capk gk), (hr, oR br nr), (br, aZ ta capr gr)]) (As := [.int (nI 8)]) (rest := []) (ci := 5) hx hb hml hown hts hGok hK hA hG hl.1 hP hD hS (ct_X6_pad8 ll D ta hGok (o 1) (o 2) 528 gt nt (by first | assumption | omega | rfl | decide) (by first | assumption | omega | rfl | decide) H.size) tw_610 tw_654 tw_608 tw_609 tw_66 hdX6_pad rfl ⟨rfl, rfl, Nat.le_of_ble_eq_true rfl, Nat.le_of_ble_eq_true rfl, Nat.le_of_ble_eq_true rfl, Nat.le_of_ble_eq_true rfl⟩ rfl rfl (q0 := 1) rfl [1, 2] [0, 3, 4, 5, 6, 7, 8, 9, 10, 11, 12, 13, 14] rfl rfl (by decide) rfl (Nat.le_of_ble_eq_true rfl) dX5_mac3_6 (fun u H locs hq hP hD hS => ?_)
  obtain ⟨g1_6, n1_6⟩ := u
  have hq : (n1_6 = (nt / 8 + 1) * 8) ∧ (qL g1_6 n1_6 = qpad 8 (qL gt nt)) := hq
  obtain ⟨hm_6, hL_6⟩ := hq
  refine W.eq (g2 := F0 mm 9 ls []) rfl ?_
  have hP : va_P D vwCl [(o 0, oO o), (o 9, oR (o 10) 16), (o 10, aZ ta 16 gz), (o 11, oD (o 12) (o 13) (o 14) (o 15) (o 16) tri), (o 12, aZ ta 8 gb), (o 13, aZ ta 8 bf), (o 14, aI ta 512 spb), (o 15, aJ ta 16 f), (o 16, aJ ta 16 s), (hk, oR bk 16), (bk, aZ ta capk gk), (hr, oR br nr), (br, aZ ta capr gr), (o 1, oR (o 2) n1_6), (o 2, aZ ta 528 g1_6)] H := hP
  have hD : va_D A [(o 0, oO o), (o 9, oR (o 10) 16), (o 10, aZ ta 16 gz), (o 11, oD (o 12) (o 13) (o 14) (o 15) (o 16) tri), (o 12, aZ ta 8 gb), (o 13, aZ ta 8 bf), (o 14, aI ta 512 spb), (o 15, aJ ta 16 f), (o 16, aJ ta 16 s), (hk, oR bk 16), (bk, aZ ta capk gk), (hr, oR br nr), (br, aZ ta capr gr), (o 1, oR (o 2) n1_6), (o 2, aZ ta 528 g1_6)] := hD
  refine lv_aload_n (pc := 9) hx hb dX5_mac3_9 rfl (lv_at hl 0 rfl) ?_
  refine va_get (pc := 10) (D := D) (ci := 4) (v := .ref (o 11)) (C := RX5) (T := TX5) (N := 6) hx hb hts iu5 hown hK hP 0 rfl rfl 5 (by decide) (hts _ tw_269) (fun _ h9 => h9) rfl dX5_mac3_10 ?_
  refine lv_aload_n (pc := 13) hx hb dX5_mac3_13 rfl (lv_at hl 1 rfl) ?_
  refine cs_V (pc := 14) (idx := 111) (n := 1) (wr := [(o 0, oO o), (o 9, oR (o 10) 16), (o 10, aZ ta 16 gz), (o 12, aZ ta 8 gb), (o 13, aZ ta 8 bf), (o 14, aI ta 512 spb), (hr, oR br nr), (br, aZ ta capr gr), (o 1, oR (o 2) n1_6), (o 2, aZ ta 528 g1_6)]) (As := [.ref hk]) (rest := []) (ci := 1) hx hb hml hown hts hGok hK hA hG hl.1 hP hD hS (ct_X2_setTriple ll D ta gs (o 11) (o 12) (o 13) (o 14) (o 15) (o 16) tri hk bk capk gk 16 f s (by first | assumption | omega | rfl | decide) (by first | assumption | omega | rfl | decide) (by first | assumption | omega | rfl | decide) H.size) tw_627 tw_624 tw_625 tw_626 tw_72 hdX2_setTriple rfl ⟨rfl, rfl, Nat.le_of_ble_eq_true rfl, Nat.le_of_ble_eq_true rfl, Nat.le_of_ble_eq_true rfl, Nat.le_of_ble_eq_true rfl⟩ rfl rfl (q0 := 3) rfl [3, 9, 10, 7, 8] [0, 1, 2, 4, 5, 6, 11, 12, 13, 14] rfl rfl (by decide) rfl (Nat.le_of_ble_eq_true rfl) dX5_mac3_14 (fun u H locs hq hP hD hS => ?_)
  obtain ⟨f1_14, s1_14⟩ := u
  have hq : (∀ rz, rz < 16 → f1_14 rz = skL (fun jz => gk (0 + jz)) rz) ∧ (∀ rz, rz < 16 → s1_14 rz = skL (fun jz => gk (8 + jz)) rz) := hq
  obtain ⟨hs_14, hs2_14⟩ := hq
  refine W.eq (g2 := F0 mm 17 ls []) rfl ?_
  have hP : va_P D vwCl [(o 0, oO o), (o 9, oR (o 10) 16), (o 10, aZ ta 16 gz), (o 12, aZ ta 8 gb), (o 13, aZ ta 8 bf), (o 14, aI ta 512 spb), (hr, oR br nr), (br, aZ ta capr gr), (o 1, oR (o 2) n1_6), (o 2, aZ ta 528 g1_6), (o 11, oD (o 12) (o 13) (o 14) (o 15) (o 16) true), (hk, oR bk 16), (bk, aZ ta capk gk), (o 15, aJ ta 16 f1_14), (o 16, aJ ta 16 s1_14)] H := hP
  have hD : va_D A [(o 0, oO o), (o 9, oR (o 10) 16), (o 10, aZ ta 16 gz), (o 12, aZ ta 8 gb), (o 13, aZ ta 8 bf), (o 14, aI ta 512 spb), (hr, oR br nr), (br, aZ ta capr gr), (o 1, oR (o 2) n1_6), (o 2, aZ ta 528 g1_6), (o 11, oD (o 12) (o 13) (o 14) (o 15) (o 16) true), (hk, oR bk 16), (bk, aZ ta capk gk), (o 15, aJ ta 16 f1_14), (o 16, aJ ta 16 s1_14)] := hD
  refine lv_aload_n (pc := 17) hx hb dX5_mac3_17 rfl (lv_at hl 0 rfl) ?_
  refine va_get (pc := 18) (D := D) (ci := 4) (v := .ref (o 11)) (C := RX5) (T := TX5) (N := 6) hx hb hts iu5 hown hK hP 0 rfl rfl 5 (by decide) (hts _ tw_269) (fun _ h9 => h9) rfl dX5_mac3_18 ?_
  refine lv_aload_n (pc := 21) hx hb dX5_mac3_21 rfl (lv_at hl 0 rfl) ?_
  refine va_get (pc := 22) (D := D) (ci := 4) (v := .ref (o 9)) (C := RX5) (T := TX5) (N := 6) hx hb hts iu5 hown hK hP 0 rfl rfl 4 (by decide) (hts _ tw_291) (fun x h9 => u_same (hts _ tw_292) x h9) rfl dX5_mac3_22 ?_
  refine cs_U (pc := 25) (idx := 114) (n := 1) (wr := [(o 0, oO o), (o 12, aZ ta 8 gb), (o 14, aI ta 512 spb), (hr, oR br nr), (br, aZ ta capr gr), (o 1, oR (o 2) n1_6), (o 2, aZ ta 528 g1_6), (hk, oR bk 16), (bk, aZ ta capk gk), (o 15, aJ ta 16 f1_14), (o 16, aJ ta 16 s1_14)]) (As := [.ref (o 9)]) (rest := []) (ci := 1) (x := ⟨"LineGuard$Des", "startFrom", "(LLineGuard$Row;)V"⟩) (owner := "LineGuard$BlockCipher") hx hb hml hown hts hGok hK hA hG hl.1 hP hD hS (ct_X1_startFrom_D ll D ta hGok (o 11) (o 12) (o 13) (o 14) (o 15) (o 16) true bf (o 9) (o 10) 16 gz 16 (by first | assumption | omega | rfl | decide) (by first | assumption | omega | rfl | decide) (by first | assumption | omega | rfl | decide) H.size) tw_527 tw_642 tw_526 tw_644 tw_71 tw_643 (va_Decl.of (hts _ tw_526) (hts _ tw_527)) ⟨by decide +kernel, by decide +kernel, by decide +kernel⟩ rfl ⟨rfl, rfl, Nat.le_of_ble_eq_true rfl, Nat.le_of_ble_eq_true rfl, Nat.le_of_ble_eq_true rfl, Nat.le_of_ble_eq_true rfl⟩ rfl (q0 := 10) rfl [10, 4, 1, 2] [0, 3, 5, 6, 7, 8, 9, 11, 12, 13, 14] rfl rfl (by decide) rfl (Nat.le_of_ble_eq_true rfl) dX5_mac3_25 (fun u H locs hq hP hD hS => ?_)
  generalize u = bf1_25 at hq hP hD ⊢
  have hq : (qL bf1_25 8 = qL gz 8) := hq
  have hs_25 := hq
  refine W.eq (g2 := F0 mm 28 ls []) rfl ?_
  have hP : va_P D vwCl [(o 0, oO o), (o 12, aZ ta 8 gb), (o 14, aI ta 512 spb), (hr, oR br nr), (br, aZ ta capr gr), (o 1, oR (o 2) n1_6), (o 2, aZ ta 528 g1_6), (hk, oR bk 16), (bk, aZ ta capk gk), (o 15, aJ ta 16 f1_14), (o 16, aJ ta 16 s1_14), (o 11, oD (o 12) (o 13) (o 14) (o 15) (o 16) true), (o 13, aZ ta 8 bf1_25), (o 9, oR (o 10) 16), (o 10, aZ ta 16 gz)] H := hP
  have hD : va_D A [(o 0, oO o), (o 12, aZ ta 8 gb), (o 14, aI ta 512 spb), (hr, oR br nr), (br, aZ ta capr gr), (o 1, oR (o 2) n1_6), (o 2, aZ ta 528 g1_6), (hk, oR bk 16), (bk, aZ ta capk gk), (o 15, aJ ta 16 f1_14), (o 16, aJ ta 16 s1_14), (o 11, oD (o 12) (o 13) (o 14) (o 15) (o 16) true), (o 13, aZ ta 8 bf1_25), (o 9, oR (o 10) 16), (o 10, aZ ta 16 gz)] := hD
  refine lv_aload_n (pc := 28) hx hb dX5_mac3_28 rfl (lv_at hl 0 rfl) ?_
  refine va_get (pc := 29) (D := D) (ci := 4) (v := .ref (o 11)) (C := RX5) (T := TX5) (N := 6) hx hb hts iu5 hown hK hP 0 rfl rfl 5 (by decide) (hts _ tw_269) (fun _ h9 => h9) rfl dX5_mac3_29 ?_
  refine lv_aload_n (pc := 32) hx hb dX5_mac3_32 rfl (lv_at hl 0 rfl) ?_
  refine va_get (pc := 33) (D := D) (ci := 4) (v := .ref (o 1)) (C := RX5) (T := TX5) (N := 6) hx hb hts iu5 hown hK hP 0 rfl rfl 0 (by decide) (hts _ tw_271) (fun x h9 => u_same (hts _ tw_272) x h9) rfl dX5_mac3_33 ?_
  refine lv_iconst (pc := 36) (v := nI 0) hx hb dX5_mac3_36 (by decide +kernel) ?_
  refine lv_aload_n (pc := 37) hx hb dX5_mac3_37 rfl (lv_at hl 0 rfl) ?_
  refine va_get (pc := 38) (D := D) (ci := 4) (v := .ref (o 1)) (C := RX5) (T := TX5) (N := 6) hx hb hts iu5 hown hK hP 0 rfl rfl 0 (by decide) (hts _ tw_271) (fun x h9 => u_same (hts _ tw_272) x h9) rfl dX5_mac3_38 ?_
  refine cs_V (pc := 41) (idx := 95) (n := 0) (wr := [(o 0, oO o), (o 12, aZ ta 8 gb), (o 14, aI ta 512 spb), (hr, oR br nr), (br, aZ ta capr gr), (hk, oR bk 16), (bk, aZ ta capk gk), (o 15, aJ ta 16 f1_14), (o 16, aJ ta 16 s1_14), (o 11, oD (o 12) (o 13) (o 14) (o 15) (o 16) true), (o 13, aZ ta 8 bf1_25), (o 9, oR (o 10) 16), (o 10, aZ ta 16 gz)]) (As := []) (rest := [.int (nI 0), .ref (o 1), .ref (o 11)]) (ci := 5) hx hb hml hown hts hGok hK hA hG hl.1 hP hD hS (ct_X6_size ll D ta hGok (o 1) (o 2) 528 g1_6 n1_6  H.size) tw_393 tw_645 tw_391 tw_392 tw_66 hdX6_size rfl ⟨rfl, rfl, Nat.le_of_ble_eq_true rfl, Nat.le_of_ble_eq_true rfl, Nat.le_of_ble_eq_true rfl, Nat.le_of_ble_eq_true rfl⟩ rfl rfl (q0 := 5) rfl [5, 6] [0, 1, 2, 3, 4, 7, 8, 9, 10, 11, 12, 13, 14] rfl rfl (by decide) rfl (Nat.le_of_ble_eq_true rfl) dX5_mac3_41 (fun u H locs hq hP hD hS => ?_)
  refine W.eq (g2 := F0 mm 44 ls [.int (nI n1_6), .int (nI 0), .ref (o 1), .ref (o 11)]) rfl ?_
  have hP : va_P D vwCl [(o 0, oO o), (o 12, aZ ta 8 gb), (o 14, aI ta 512 spb), (hr, oR br nr), (br, aZ ta capr gr), (hk, oR bk 16), (bk, aZ ta capk gk), (o 15, aJ ta 16 f1_14), (o 16, aJ ta 16 s1_14), (o 11, oD (o 12) (o 13) (o 14) (o 15) (o 16) true), (o 13, aZ ta 8 bf1_25), (o 9, oR (o 10) 16), (o 10, aZ ta 16 gz), (o 1, oR (o 2) n1_6), (o 2, aZ ta 528 g1_6)] H := hP
  have hD : va_D A [(o 0, oO o), (o 12, aZ ta 8 gb), (o 14, aI ta 512 spb), (hr, oR br nr), (br, aZ ta capr gr), (hk, oR bk 16), (bk, aZ ta capk gk), (o 15, aJ ta 16 f1_14), (o 16, aJ ta 16 s1_14), (o 11, oD (o 12) (o 13) (o 14) (o 15) (o 16) true), (o 13, aZ ta 8 bf1_25), (o 9, oR (o 10) 16), (o 10, aZ ta 16 gz), (o 1, oR (o 2) n1_6), (o 2, aZ ta 528 g1_6)] := hD
  refine cs_U (pc := 44) (idx := 117) (n := 3) (wr := [(o 0, oO o), (hr, oR br nr), (br, aZ ta capr gr), (hk, oR bk 16), (bk, aZ ta capk gk), (o 9, oR (o 10) 16), (o 10, aZ ta 16 gz)]) (As := [.ref (o 1), .int (nI 0), .int (nI n1_6)]) (rest := []) (ci := 1) (x := ⟨"LineGuard$Des", "chainThere", "(LLineGuard$Row;II)V"⟩) (owner := "LineGuard$BlockCipher") hx hb hml hown hts hGok hK hA hG hl.1 hP hD hS (ct_X1_chainThere_D ll D ta gs (o 11) (o 12) (o 13) (o 14) (o 15) (o 16) true gb bf1_25 f1_14 s1_14 spb (qL gk 16) (o 1) (o 2) 528 g1_6 n1_6 0 n1_6 (nt / 8 + 1) (by first | assumption | omega | rfl | decide) (dkS_take (by decide) hs_14) (fun _ => dkS_drop (by decide) hs2_14) (by first | assumption | omega | rfl | decide) (by first | assumption | omega | rfl | decide) (by first | assumption | omega | rfl | decide) (by first | assumption | omega | rfl | decide) H.size) tw_534 tw_646 tw_533 tw_648 tw_71 tw_647 (va_Decl.of (hts _ tw_533) (hts _ tw_534)) ⟨by decide +kernel, by decide +kernel, by decide +kernel⟩ rfl ⟨rfl, rfl, Nat.le_of_ble_eq_true rfl, Nat.le_of_ble_eq_true rfl, Nat.le_of_ble_eq_true rfl, Nat.le_of_ble_eq_true rfl⟩ rfl (q0 := 9) rfl [9, 1, 10, 2, 7, 8, 13, 14] [0, 3, 4, 5, 6, 11, 12] rfl rfl (by decide) rfl (Nat.le_of_ble_eq_true rfl) dX5_mac3_44 (fun u H locs hq hP hD hS => ?_)
  obtain ⟨gb1_44, bf1_44, gr1_44⟩ := u
  have hq : (qSeg gr1_44 g1_6 0 (8 * (nt / 8 + 1)) (encF (cE true (qL gk 16) false) 8 (qL bf1_25 8) (seg g1_6 0 (8 * (nt / 8 + 1))))) ∧ (qL bf1_44 8 = cbcM (cE true (qL gk 16) false) 8 (qL bf1_25 8) (seg g1_6 0 (8 * (nt / 8 + 1))) (nt / 8 + 1)) := hq
  obtain ⟨hs_44, hbf_44⟩ := hq
  refine W.eq (g2 := F0 mm 47 ls []) rfl ?_
  have hP : va_P D vwCl [(o 0, oO o), (hr, oR br nr), (br, aZ ta capr gr), (hk, oR bk 16), (bk, aZ ta capk gk), (o 9, oR (o 10) 16), (o 10, aZ ta 16 gz), (o 11, oD (o 12) (o 13) (o 14) (o 15) (o 16) true), (o 12, aZ ta 8 gb1_44), (o 13, aZ ta 8 bf1_44), (o 14, aI ta 512 spb), (o 15, aJ ta 16 f1_14), (o 16, aJ ta 16 s1_14), (o 1, oR (o 2) n1_6), (o 2, aZ ta 528 gr1_44)] H := hP
  have hD : va_D A [(o 0, oO o), (hr, oR br nr), (br, aZ ta capr gr), (hk, oR bk 16), (bk, aZ ta capk gk), (o 9, oR (o 10) 16), (o 10, aZ ta 16 gz), (o 11, oD (o 12) (o 13) (o 14) (o 15) (o 16) true), (o 12, aZ ta 8 gb1_44), (o 13, aZ ta 8 bf1_44), (o 14, aI ta 512 spb), (o 15, aJ ta 16 f1_14), (o 16, aJ ta 16 s1_14), (o 1, oR (o 2) n1_6), (o 2, aZ ta 528 gr1_44)] := hD
  refine lv_aload_n (pc := 47) hx hb dX5_mac3_47 rfl (lv_at hl 2 rfl) ?_
  refine lv_aload_n (pc := 48) hx hb dX5_mac3_48 rfl (lv_at hl 0 rfl) ?_
  refine va_get (pc := 49) (D := D) (ci := 4) (v := .ref (o 1)) (C := RX5) (T := TX5) (N := 6) hx hb hts iu5 hown hK hP 0 rfl rfl 0 (by decide) (hts _ tw_271) (fun x h9 => u_same (hts _ tw_272) x h9) rfl dX5_mac3_49 ?_
  refine lv_aload_n (pc := 52) hx hb dX5_mac3_52 rfl (lv_at hl 0 rfl) ?_
  refine va_get (pc := 53) (D := D) (ci := 4) (v := .ref (o 1)) (C := RX5) (T := TX5) (N := 6) hx hb hts iu5 hown hK hP 0 rfl rfl 0 (by decide) (hts _ tw_271) (fun x h9 => u_same (hts _ tw_272) x h9) rfl dX5_mac3_53 ?_
  refine cs_V (pc := 56) (idx := 95) (n := 0) (wr := [(o 0, oO o), (hr, oR br nr), (br, aZ ta capr gr), (hk, oR bk 16), (bk, aZ ta capk gk), (o 9, oR (o 10) 16), (o 10, aZ ta 16 gz), (o 11, oD (o 12) (o 13) (o 14) (o 15) (o 16) true), (o 12, aZ ta 8 gb1_44), (o 13, aZ ta 8 bf1_44), (o 14, aI ta 512 spb), (o 15, aJ ta 16 f1_14), (o 16, aJ ta 16 s1_14)]) (As := []) (rest := [.ref (o 1), .ref hr]) (ci := 5) hx hb hml hown hts hGok hK hA hG hl.1 hP hD hS (ct_X6_size ll D ta hGok (o 1) (o 2) 528 gr1_44 n1_6  H.size) tw_393 tw_645 tw_391 tw_392 tw_66 hdX6_size rfl ⟨rfl, rfl, Nat.le_of_ble_eq_true rfl, Nat.le_of_ble_eq_true rfl, Nat.le_of_ble_eq_true rfl, Nat.le_of_ble_eq_true rfl⟩ rfl rfl (q0 := 13) rfl [13, 14] [0, 1, 2, 3, 4, 5, 6, 7, 8, 9, 10, 11, 12] rfl rfl (by decide) rfl (Nat.le_of_ble_eq_true rfl) dX5_mac3_56 (fun u H locs hq hP hD hS => ?_)
  refine W.eq (g2 := F0 mm 59 ls [.int (nI n1_6), .ref (o 1), .ref hr]) rfl ?_
  have hP : va_P D vwCl [(o 0, oO o), (hr, oR br nr), (br, aZ ta capr gr), (hk, oR bk 16), (bk, aZ ta capk gk), (o 9, oR (o 10) 16), (o 10, aZ ta 16 gz), (o 11, oD (o 12) (o 13) (o 14) (o 15) (o 16) true), (o 12, aZ ta 8 gb1_44), (o 13, aZ ta 8 bf1_44), (o 14, aI ta 512 spb), (o 15, aJ ta 16 f1_14), (o 16, aJ ta 16 s1_14), (o 1, oR (o 2) n1_6), (o 2, aZ ta 528 gr1_44)] H := hP
  have hD : va_D A [(o 0, oO o), (hr, oR br nr), (br, aZ ta capr gr), (hk, oR bk 16), (bk, aZ ta capk gk), (o 9, oR (o 10) 16), (o 10, aZ ta 16 gz), (o 11, oD (o 12) (o 13) (o 14) (o 15) (o 16) true), (o 12, aZ ta 8 gb1_44), (o 13, aZ ta 8 bf1_44), (o 14, aI ta 512 spb), (o 15, aJ ta 16 f1_14), (o 16, aJ ta 16 s1_14), (o 1, oR (o 2) n1_6), (o 2, aZ ta 528 gr1_44)] := hD
  refine lv_bipush (pc := 59) (v := nI 8) hx hb dX5_mac3_59 (by decide +kernel) ?_
  refine lv_isub (pc := 61) hx hb dX5_mac3_61 ?_
  refine q_top (y := nI (n1_6 - 8)) (pk_sub (a := n1_6) (b := 8) (by omega)) ?_
  refine lv_aload_n (pc := 62) hx hb dX5_mac3_62 rfl (lv_at hl 0 rfl) ?_
  refine va_get (pc := 63) (D := D) (ci := 4) (v := .ref (o 1)) (C := RX5) (T := TX5) (N := 6) hx hb hts iu5 hown hK hP 0 rfl rfl 0 (by decide) (hts _ tw_271) (fun x h9 => u_same (hts _ tw_272) x h9) rfl dX5_mac3_63 ?_
  refine cs_V (pc := 66) (idx := 95) (n := 0) (wr := [(o 0, oO o), (hr, oR br nr), (br, aZ ta capr gr), (hk, oR bk 16), (bk, aZ ta capk gk), (o 9, oR (o 10) 16), (o 10, aZ ta 16 gz), (o 11, oD (o 12) (o 13) (o 14) (o 15) (o 16) true), (o 12, aZ ta 8 gb1_44), (o 13, aZ ta 8 bf1_44), (o 14, aI ta 512 spb), (o 15, aJ ta 16 f1_14), (o 16, aJ ta 16 s1_14)]) (As := []) (rest := [.int (nI (n1_6 - 8)), .ref (o 1), .ref hr]) (ci := 5) hx hb hml hown hts hGok hK hA hG hl.1 hP hD hS (ct_X6_size ll D ta hGok (o 1) (o 2) 528 gr1_44 n1_6  H.size) tw_393 tw_645 tw_391 tw_392 tw_66 hdX6_size rfl ⟨rfl, rfl, Nat.le_of_ble_eq_true rfl, Nat.le_of_ble_eq_true rfl, Nat.le_of_ble_eq_true rfl, Nat.le_of_ble_eq_true rfl⟩ rfl rfl (q0 := 13) rfl [13, 14] [0, 1, 2, 3, 4, 5, 6, 7, 8, 9, 10, 11, 12] rfl rfl (by decide) rfl (Nat.le_of_ble_eq_true rfl) dX5_mac3_66 (fun u H locs hq hP hD hS => ?_)
  refine W.eq (g2 := F0 mm 69 ls [.int (nI n1_6), .int (nI (n1_6 - 8)), .ref (o 1), .ref hr]) rfl ?_
  have hP : va_P D vwCl [(o 0, oO o), (hr, oR br nr), (br, aZ ta capr gr), (hk, oR bk 16), (bk, aZ ta capk gk), (o 9, oR (o 10) 16), (o 10, aZ ta 16 gz), (o 11, oD (o 12) (o 13) (o 14) (o 15) (o 16) true), (o 12, aZ ta 8 gb1_44), (o 13, aZ ta 8 bf1_44), (o 14, aI ta 512 spb), (o 15, aJ ta 16 f1_14), (o 16, aJ ta 16 s1_14), (o 1, oR (o 2) n1_6), (o 2, aZ ta 528 gr1_44)] H := hP
  have hD : va_D A [(o 0, oO o), (hr, oR br nr), (br, aZ ta capr gr), (hk, oR bk 16), (bk, aZ ta capk gk), (o 9, oR (o 10) 16), (o 10, aZ ta 16 gz), (o 11, oD (o 12) (o 13) (o 14) (o 15) (o 16) true), (o 12, aZ ta 8 gb1_44), (o 13, aZ ta 8 bf1_44), (o 14, aI ta 512 spb), (o 15, aJ ta 16 f1_14), (o 16, aJ ta 16 s1_14), (o 1, oR (o 2) n1_6), (o 2, aZ ta 528 gr1_44)] := hD
  refine cs_V (pc := 69) (idx := 99) (n := 3) (wr := [(o 0, oO o), (hk, oR bk 16), (bk, aZ ta capk gk), (o 9, oR (o 10) 16), (o 10, aZ ta 16 gz), (o 11, oD (o 12) (o 13) (o 14) (o 15) (o 16) true), (o 12, aZ ta 8 gb1_44), (o 13, aZ ta 8 bf1_44), (o 14, aI ta 512 spb), (o 15, aJ ta 16 f1_14), (o 16, aJ ta 16 s1_14)]) (As := [.ref (o 1), .int (nI (n1_6 - 8)), .int (nI n1_6)]) (rest := []) (ci := 5) hx hb hml hown hts hGok hK hA hG hl.1 hP hD hS (ct_X6_copyPart ll D ta hGok hr br capr gr nr (o 1) (o 2) 528 gr1_44 n1_6 (n1_6 - 8) n1_6 (by first | assumption | omega | rfl | decide) (by first | assumption | omega | rfl | decide) (by first | assumption | omega | rfl | decide) (by first | assumption | omega | rfl | decide) (by first | assumption | omega | rfl | decide) (by first | assumption | omega | rfl | decide) H.size) tw_464 tw_659 tw_462 tw_463 tw_66 hdX6_copyPart rfl ⟨rfl, rfl, Nat.le_of_ble_eq_true rfl, Nat.le_of_ble_eq_true rfl, Nat.le_of_ble_eq_true rfl, Nat.le_of_ble_eq_true rfl⟩ rfl rfl (q0 := 1) rfl [1, 2, 13, 14] [0, 3, 4, 5, 6, 7, 8, 9, 10, 11, 12] rfl rfl (by decide) rfl (Nat.le_of_ble_eq_true rfl) dX5_mac3_69 (fun u H locs hq hP hD hS => ?_)
  obtain ⟨g1_69, n1_69⟩ := u
  have hq : (n1_69 = min n1_6 n1_6 - (n1_6 - 8)) ∧ (qL g1_69 n1_69 = ((qL gr1_44 n1_6).take n1_6).drop (n1_6 - 8)) := hq
  obtain ⟨hm_69, hL_69⟩ := hq
  refine W.eq (g2 := F0 mm 72 ls []) rfl ?_
  have hP : va_P D vwCl [(o 0, oO o), (hk, oR bk 16), (bk, aZ ta capk gk), (o 9, oR (o 10) 16), (o 10, aZ ta 16 gz), (o 11, oD (o 12) (o 13) (o 14) (o 15) (o 16) true), (o 12, aZ ta 8 gb1_44), (o 13, aZ ta 8 bf1_44), (o 14, aI ta 512 spb), (o 15, aJ ta 16 f1_14), (o 16, aJ ta 16 s1_14), (hr, oR br n1_69), (br, aZ ta capr g1_69), (o 1, oR (o 2) n1_6), (o 2, aZ ta 528 gr1_44)] H := hP
  have hD : va_D A [(o 0, oO o), (hk, oR bk 16), (bk, aZ ta capk gk), (o 9, oR (o 10) 16), (o 10, aZ ta 16 gz), (o 11, oD (o 12) (o 13) (o 14) (o 15) (o 16) true), (o 12, aZ ta 8 gb1_44), (o 13, aZ ta 8 bf1_44), (o 14, aI ta 512 spb), (o 15, aJ ta 16 f1_14), (o 16, aJ ta 16 s1_14), (hr, oR br n1_69), (br, aZ ta capr g1_69), (o 1, oR (o 2) n1_6), (o 2, aZ ta 528 gr1_44)] := hD
  have en_1 : 8 = n1_69 := by omega
  subst en_1
  have hq_2 : (qL g1_69 8 = mac3L (qL gk 16) (qL gt nt)) := by
    have hs9 := hs_44
    rw [cE_t] at hs9
    rw [hL_69, List.take_of_length_le (by rw [qL_len]; omega), qL_drop, show n1_6 - (n1_6 - 8) = 8 by omega]
    exact mac3_of hm_6 hL_6 (by rw [hs_25, qL_zero hz (by decide)]) hs9
  exact hret (⟨(gr1_44), (n1_6), (g1_69), (true), (gb1_44), (bf1_44), (f1_14), (s1_14)⟩ : (Nat → BitVec 8) × Nat × (Nat → BitVec 8) × Bool × (Nat → BitVec 8) × (Nat → BitVec 8) × (Nat → Int64) × (Nat → Int64)) _ _ _ _ dX5_mac3_72 hq_2 (hP.sub [0, 13, 14, 3, 4, 5, 6, 7, 8, 9, 10, 1, 2, 11, 12] rfl) (hD.sub [0, 13, 14, 3, 4, 5, 6, 7, 8, 9, 10, 1, 2, 11, 12] (by decide) rfl) hS
theorem hdX5_retail : yX5_retail.cls ≠ "java/lang/invoke/MethodHandle" ∧ yX5_retail.cls ≠ "java/lang/invoke/VarHandle" ∧ (parseMethodDescriptor yX5_retail.desc).map (fun d => d.parameters.length) = some 3 := ⟨by decide +kernel, by decide +kernel, by decide +kernel⟩
theorem dX5_retail_0 : decode cX5_retail 0 = .ok (.aload_n 0, 1) := by decide +kernel
theorem dX5_retail_1 : decode cX5_retail 1 = .ok (.getfield 31, 3) := by decide +kernel
theorem dX5_retail_4 : decode cX5_retail 4 = .ok (.bipush 8, 2) := by decide +kernel
theorem dX5_retail_6 : decode cX5_retail 6 = .ok (.invokevirtual 107, 3) := by decide +kernel
theorem dX5_retail_9 : decode cX5_retail 9 = .ok (.aload_n 0, 1) := by decide +kernel
theorem dX5_retail_10 : decode cX5_retail 10 = .ok (.getfield 31, 3) := by decide +kernel
theorem dX5_retail_13 : decode cX5_retail 13 = .ok (.invokevirtual 95, 3) := by decide +kernel
theorem dX5_retail_16 : decode cX5_retail 16 = .ok (.bipush 8, 2) := by decide +kernel
theorem dX5_retail_18 : decode cX5_retail 18 = .ok (.isub, 1) := by decide +kernel
theorem dX5_retail_19 : decode cX5_retail 19 = .ok (.istore 4, 2) := by decide +kernel
theorem dX5_retail_21 : decode cX5_retail 21 = .ok (.aload_n 0, 1) := by decide +kernel
theorem dX5_retail_22 : decode cX5_retail 22 = .ok (.getfield 12, 3) := by decide +kernel
theorem dX5_retail_25 : decode cX5_retail 25 = .ok (.aload_n 2, 1) := by decide +kernel
theorem dX5_retail_26 : decode cX5_retail 26 = .ok (.invokevirtual 114, 3) := by decide +kernel
theorem dX5_retail_29 : decode cX5_retail 29 = .ok (.aload_n 0, 1) := by decide +kernel
theorem dX5_retail_30 : decode cX5_retail 30 = .ok (.getfield 12, 3) := by decide +kernel
theorem dX5_retail_33 : decode cX5_retail 33 = .ok (.aload_n 1, 1) := by decide +kernel
theorem dX5_retail_34 : decode cX5_retail 34 = .ok (.invokevirtual 170, 3) := by decide +kernel
theorem dX5_retail_37 : decode cX5_retail 37 = .ok (.aload_n 0, 1) := by decide +kernel
theorem dX5_retail_38 : decode cX5_retail 38 = .ok (.getfield 12, 3) := by decide +kernel
theorem dX5_retail_41 : decode cX5_retail 41 = .ok (.aload_n 0, 1) := by decide +kernel
theorem dX5_retail_42 : decode cX5_retail 42 = .ok (.getfield 31, 3) := by decide +kernel
theorem dX5_retail_45 : decode cX5_retail 45 = .ok (.iconst 0, 1) := by decide +kernel
theorem dX5_retail_46 : decode cX5_retail 46 = .ok (.iload 4, 2) := by decide +kernel
theorem dX5_retail_48 : decode cX5_retail 48 = .ok (.invokevirtual 117, 3) := by decide +kernel
theorem dX5_retail_51 : decode cX5_retail 51 = .ok (.aload_n 0, 1) := by decide +kernel
theorem dX5_retail_52 : decode cX5_retail 52 = .ok (.getfield 12, 3) := by decide +kernel
theorem dX5_retail_55 : decode cX5_retail 55 = .ok (.aload_n 1, 1) := by decide +kernel
theorem dX5_retail_56 : decode cX5_retail 56 = .ok (.invokevirtual 111, 3) := by decide +kernel
theorem dX5_retail_59 : decode cX5_retail 59 = .ok (.aload_n 0, 1) := by decide +kernel
theorem dX5_retail_60 : decode cX5_retail 60 = .ok (.getfield 12, 3) := by decide +kernel
theorem dX5_retail_63 : decode cX5_retail 63 = .ok (.aload_n 0, 1) := by decide +kernel
theorem dX5_retail_64 : decode cX5_retail 64 = .ok (.getfield 31, 3) := by decide +kernel
theorem dX5_retail_67 : decode cX5_retail 67 = .ok (.iload 4, 2) := by decide +kernel
theorem dX5_retail_69 : decode cX5_retail 69 = .ok (.aload_n 0, 1) := by decide +kernel
theorem dX5_retail_70 : decode cX5_retail 70 = .ok (.getfield 31, 3) := by decide +kernel
theorem dX5_retail_73 : decode cX5_retail 73 = .ok (.invokevirtual 95, 3) := by decide +kernel
theorem dX5_retail_76 : decode cX5_retail 76 = .ok (.invokevirtual 117, 3) := by decide +kernel
theorem dX5_retail_79 : decode cX5_retail 79 = .ok (.aload_n 3, 1) := by decide +kernel
theorem dX5_retail_80 : decode cX5_retail 80 = .ok (.aload_n 0, 1) := by decide +kernel
theorem dX5_retail_81 : decode cX5_retail 81 = .ok (.getfield 31, 3) := by decide +kernel
theorem dX5_retail_84 : decode cX5_retail 84 = .ok (.iload 4, 2) := by decide +kernel
theorem dX5_retail_86 : decode cX5_retail 86 = .ok (.aload_n 0, 1) := by decide +kernel
theorem dX5_retail_87 : decode cX5_retail 87 = .ok (.getfield 31, 3) := by decide +kernel
theorem dX5_retail_90 : decode cX5_retail 90 = .ok (.invokevirtual 95, 3) := by decide +kernel
theorem dX5_retail_93 : decode cX5_retail 93 = .ok (.invokevirtual 99, 3) := by decide +kernel
theorem dX5_retail_96 : decode cX5_retail 96 = .ok (.return_, 1) := by decide +kernel
set_option maxHeartbeats 4000000 in
set_option maxRecDepth 100000 in
theorem ct_X5_retail (ll : Launch) (D : va_G) (ta : Nat → ClassId) (gs : Nat → Nat) (o : Nat → Nat) (gz : Nat → BitVec 8) (tri : Bool) (gb : Nat → BitVec 8) (bf : Nat → BitVec 8) (f : Nat → Int64) (s : Nat → Int64) (spb : Nat → Int32) (gt : Nat → BitVec 8) (nt : Nat) (hk : Nat) (bk : Nat) (capk : Nat) (gk : Nat → BitVec 8) (hv : Nat) (bv : Nat) (capv : Nat) (gv : Nat → BitVec 8) (nv : Nat) (hr : Nat) (br : Nat) (capr : Nat) (gr : Nat → BitVec 8) (nr : Nat) (hz : qL gz 16 = zeroL 16) (hsp : spbOK spb) (hck : 16 ≤ capk ∧ capk < 2147483648) (hcv : 8 ≤ nv ∧ nv ≤ capv ∧ capv < 2147483648) (hcr : 8 ≤ capr ∧ capr < 2147483648) (hnt : nt ≤ 512) (sz : Nat) : CT ll yX5_retail cX5_retail 5 none ({ frames := 3, cells := 0, slots := 0, locals := 81 } : Room) D ta ((GC gs)) [.ref (o 0), .ref hk, .ref hv, .ref hr] [(o 0, oO o), (o 1, oR (o 2) nt), (o 2, aZ ta 528 gt), (o 11, oD (o 12) (o 13) (o 14) (o 15) (o 16) tri), (o 12, aZ ta 8 gb), (o 13, aZ ta 8 bf), (o 14, aI ta 512 spb), (o 15, aJ ta 16 f), (o 16, aJ ta 16 s), (hk, oR bk 16), (bk, aZ ta capk gk), (hv, oR bv nv), (bv, aZ ta capv gv), (hr, oR br nr), (br, aZ ta capr gr)] sz (S := (Nat → BitVec 8) × Nat × (Nat → BitVec 8) × Bool × (Nat → BitVec 8) × (Nat → BitVec 8) × (Nat → Int64) × (Nat → Int64)) (fun _ => none) (fun u => (qL u.2.2.1 8 = retailL (qL gk 16) (qL gv 8) (qL gt nt))) (fun u => [(o 0, oO o), (o 1, oR (o 2) u.2.1), (o 2, aZ ta 528 u.1), (o 11, oD (o 12) (o 13) (o 14) (o 15) (o 16) u.2.2.2.1), (o 12, aZ ta 8 u.2.2.2.2.1), (o 13, aZ ta 8 u.2.2.2.2.2.1), (o 14, aI ta 512 spb), (o 15, aJ ta 16 u.2.2.2.2.2.2.1), (o 16, aJ ta 16 u.2.2.2.2.2.2.2), (hk, oR bk 16), (bk, aZ ta capk gk), (hv, oR bv nv), (bv, aZ ta capv gv), (hr, oR br 8), (br, aZ ta capr u.2.2.1)]) 0 0 := by
  refine CT.of_v rfl (by decide) (Nat.le_of_ble_eq_true rfl) ?_
  have hGok := GC_ok gs
  intro pp ee ss mm below meth kc A Q hx hb hml hown hin hts hK hA hsz hG hret H locs hP hD hS ls hl
  have hl : lv_has ls 5 [(0, .ref (o 0)), (1, .ref hk), (2, .ref hv), (3, .ref hr)] := hl
  refine lv_aload_n (pc := 0) hx hb dX5_retail_0 rfl (lv_at hl 0 rfl) ?_
  refine va_get (pc := 1) (D := D) (ci := 4) (v := .ref (o 1)) (C := RX5) (T := TX5) (N := 6) hx hb hts iu5 hown hK hP 0 rfl rfl 0 (by decide) (hts _ tw_271) (fun x h9 => u_same (hts _ tw_272) x h9) rfl dX5_retail_1 ?_
  refine lv_bipush (pc := 4) (v := nI 8) hx hb dX5_retail_4 (by decide +kernel) ?_
  refine cs_V (pc := 6) (idx := 107) (n := 1) (wr := [(o 0, oO o), (o 11, oD (o 12) (o 13) (o 14) (o 15) (o 16) tri), (o 12, aZ ta 8 gb), (o 13, aZ ta 8 bf), (o 14, aI ta 512 spb), (o 15, aJ ta 16 f), (o 16, aJ ta 16 s), (hk, oR bk 16), (bk, aZ ta capk gk), (hv, oR bv nv), (bv, aZ ta capv gv), (hr, oR br nr), (br, aZ ta capr gr)]) (As := [.int (nI 8)]) (rest := []) (ci := 5) hx hb hml hown hts hGok hK hA hG hl.1 hP hD hS (ct_X6_pad8 ll D ta hGok (o 1) (o 2) 528 gt nt (by first | assumption | omega | rfl | decide) (by first | assumption | omega | rfl | decide) H.size) tw_610 tw_654 tw_608 tw_609 tw_66 hdX6_pad rfl ⟨rfl, rfl, Nat.le_of_ble_eq_true rfl, Nat.le_of_ble_eq_true rfl, Nat.le_of_ble_eq_true rfl, Nat.le_of_ble_eq_true rfl⟩ rfl rfl (q0 := 1) rfl [1, 2] [0, 3, 4, 5, 6, 7, 8, 9, 10, 11, 12, 13, 14] rfl rfl (by decide) rfl (Nat.le_of_ble_eq_true rfl) dX5_retail_6 (fun u H locs hq hP hD hS => ?_)
  obtain ⟨g1_6, n1_6⟩ := u
  have hq : (n1_6 = (nt / 8 + 1) * 8) ∧ (qL g1_6 n1_6 = qpad 8 (qL gt nt)) := hq
  obtain ⟨hm_6, hL_6⟩ := hq
  refine W.eq (g2 := F0 mm 9 ls []) rfl ?_
  have hP : va_P D vwCl [(o 0, oO o), (o 11, oD (o 12) (o 13) (o 14) (o 15) (o 16) tri), (o 12, aZ ta 8 gb), (o 13, aZ ta 8 bf), (o 14, aI ta 512 spb), (o 15, aJ ta 16 f), (o 16, aJ ta 16 s), (hk, oR bk 16), (bk, aZ ta capk gk), (hv, oR bv nv), (bv, aZ ta capv gv), (hr, oR br nr), (br, aZ ta capr gr), (o 1, oR (o 2) n1_6), (o 2, aZ ta 528 g1_6)] H := hP
  have hD : va_D A [(o 0, oO o), (o 11, oD (o 12) (o 13) (o 14) (o 15) (o 16) tri), (o 12, aZ ta 8 gb), (o 13, aZ ta 8 bf), (o 14, aI ta 512 spb), (o 15, aJ ta 16 f), (o 16, aJ ta 16 s), (hk, oR bk 16), (bk, aZ ta capk gk), (hv, oR bv nv), (bv, aZ ta capv gv), (hr, oR br nr), (br, aZ ta capr gr), (o 1, oR (o 2) n1_6), (o 2, aZ ta 528 g1_6)] := hD
  refine lv_aload_n (pc := 9) hx hb dX5_retail_9 rfl (lv_at hl 0 rfl) ?_
  refine va_get (pc := 10) (D := D) (ci := 4) (v := .ref (o 1)) (C := RX5) (T := TX5) (N := 6) hx hb hts iu5 hown hK hP 0 rfl rfl 0 (by decide) (hts _ tw_271) (fun x h9 => u_same (hts _ tw_272) x h9) rfl dX5_retail_10 ?_
  refine cs_V (pc := 13) (idx := 95) (n := 0) (wr := [(o 0, oO o), (o 11, oD (o 12) (o 13) (o 14) (o 15) (o 16) tri), (o 12, aZ ta 8 gb), (o 13, aZ ta 8 bf), (o 14, aI ta 512 spb), (o 15, aJ ta 16 f), (o 16, aJ ta 16 s), (hk, oR bk 16), (bk, aZ ta capk gk), (hv, oR bv nv), (bv, aZ ta capv gv), (hr, oR br nr), (br, aZ ta capr gr)]) (As := []) (rest := []) (ci := 5) hx hb hml hown hts hGok hK hA hG hl.1 hP hD hS (ct_X6_size ll D ta hGok (o 1) (o 2) 528 g1_6 n1_6  H.size) tw_393 tw_645 tw_391 tw_392 tw_66 hdX6_size rfl ⟨rfl, rfl, Nat.le_of_ble_eq_true rfl, Nat.le_of_ble_eq_true rfl, Nat.le_of_ble_eq_true rfl, Nat.le_of_ble_eq_true rfl⟩ rfl rfl (q0 := 13) rfl [13, 14] [0, 1, 2, 3, 4, 5, 6, 7, 8, 9, 10, 11, 12] rfl rfl (by decide) rfl (Nat.le_of_ble_eq_true rfl) dX5_retail_13 (fun u H locs hq hP hD hS => ?_)
  refine W.eq (g2 := F0 mm 16 ls [.int (nI n1_6)]) rfl ?_
  have hP : va_P D vwCl [(o 0, oO o), (o 11, oD (o 12) (o 13) (o 14) (o 15) (o 16) tri), (o 12, aZ ta 8 gb), (o 13, aZ ta 8 bf), (o 14, aI ta 512 spb), (o 15, aJ ta 16 f), (o 16, aJ ta 16 s), (hk, oR bk 16), (bk, aZ ta capk gk), (hv, oR bv nv), (bv, aZ ta capv gv), (hr, oR br nr), (br, aZ ta capr gr), (o 1, oR (o 2) n1_6), (o 2, aZ ta 528 g1_6)] H := hP
  have hD : va_D A [(o 0, oO o), (o 11, oD (o 12) (o 13) (o 14) (o 15) (o 16) tri), (o 12, aZ ta 8 gb), (o 13, aZ ta 8 bf), (o 14, aI ta 512 spb), (o 15, aJ ta 16 f), (o 16, aJ ta 16 s), (hk, oR bk 16), (bk, aZ ta capk gk), (hv, oR bv nv), (bv, aZ ta capv gv), (hr, oR br nr), (br, aZ ta capr gr), (o 1, oR (o 2) n1_6), (o 2, aZ ta 528 g1_6)] := hD
  refine lv_bipush (pc := 16) (v := nI 8) hx hb dX5_retail_16 (by decide +kernel) ?_
  refine lv_isub (pc := 18) hx hb dX5_retail_18 ?_
  refine q_top (y := nI (n1_6 - 8)) (pk_sub (a := n1_6) (b := 8) (by omega)) ?_
  refine lv_istore (pc := 19) (lv' := [(4, .int (nI (n1_6 - 8))), (0, .ref (o 0)), (1, .ref hk), (2, .ref hv), (3, .ref hr)]) hx hb dX5_retail_19 hl (by decide) rfl (fun ls hl => ?_)
  refine lv_aload_n (pc := 21) hx hb dX5_retail_21 rfl (lv_at hl 1 rfl) ?_
  refine va_get (pc := 22) (D := D) (ci := 4) (v := .ref (o 11)) (C := RX5) (T := TX5) (N := 6) hx hb hts iu5 hown hK hP 0 rfl rfl 5 (by decide) (hts _ tw_269) (fun _ h9 => h9) rfl dX5_retail_22 ?_
  refine lv_aload_n (pc := 25) hx hb dX5_retail_25 rfl (lv_at hl 3 rfl) ?_
  refine cs_U (pc := 26) (idx := 114) (n := 1) (wr := [(o 0, oO o), (o 12, aZ ta 8 gb), (o 14, aI ta 512 spb), (o 15, aJ ta 16 f), (o 16, aJ ta 16 s), (hk, oR bk 16), (bk, aZ ta capk gk), (hr, oR br nr), (br, aZ ta capr gr), (o 1, oR (o 2) n1_6), (o 2, aZ ta 528 g1_6)]) (As := [.ref hv]) (rest := []) (ci := 1) (x := ⟨"LineGuard$Des", "startFrom", "(LLineGuard$Row;)V"⟩) (owner := "LineGuard$BlockCipher") hx hb hml hown hts hGok hK hA hG hl.1 hP hD hS (ct_X1_startFrom_D ll D ta hGok (o 11) (o 12) (o 13) (o 14) (o 15) (o 16) tri bf hv bv capv gv nv (by first | assumption | omega | rfl | decide) (by first | assumption | omega | rfl | decide) (by first | assumption | omega | rfl | decide) H.size) tw_527 tw_642 tw_526 tw_644 tw_71 tw_643 (va_Decl.of (hts _ tw_526) (hts _ tw_527)) ⟨by decide +kernel, by decide +kernel, by decide +kernel⟩ rfl ⟨rfl, rfl, Nat.le_of_ble_eq_true rfl, Nat.le_of_ble_eq_true rfl, Nat.le_of_ble_eq_true rfl, Nat.le_of_ble_eq_true rfl⟩ rfl (q0 := 1) rfl [1, 3, 9, 10] [0, 2, 4, 5, 6, 7, 8, 11, 12, 13, 14] rfl rfl (by decide) rfl (Nat.le_of_ble_eq_true rfl) dX5_retail_26 (fun u H locs hq hP hD hS => ?_)
  generalize u = bf1_26 at hq hP hD ⊢
  have hq : (qL bf1_26 8 = qL gv 8) := hq
  have hs_26 := hq
  refine W.eq (g2 := F0 mm 29 ls []) rfl ?_
  have hP : va_P D vwCl [(o 0, oO o), (o 12, aZ ta 8 gb), (o 14, aI ta 512 spb), (o 15, aJ ta 16 f), (o 16, aJ ta 16 s), (hk, oR bk 16), (bk, aZ ta capk gk), (hr, oR br nr), (br, aZ ta capr gr), (o 1, oR (o 2) n1_6), (o 2, aZ ta 528 g1_6), (o 11, oD (o 12) (o 13) (o 14) (o 15) (o 16) tri), (o 13, aZ ta 8 bf1_26), (hv, oR bv nv), (bv, aZ ta capv gv)] H := hP
  have hD : va_D A [(o 0, oO o), (o 12, aZ ta 8 gb), (o 14, aI ta 512 spb), (o 15, aJ ta 16 f), (o 16, aJ ta 16 s), (hk, oR bk 16), (bk, aZ ta capk gk), (hr, oR br nr), (br, aZ ta capr gr), (o 1, oR (o 2) n1_6), (o 2, aZ ta 528 g1_6), (o 11, oD (o 12) (o 13) (o 14) (o 15) (o 16) tri), (o 13, aZ ta 8 bf1_26), (hv, oR bv nv), (bv, aZ ta capv gv)] := hD
  refine lv_aload_n (pc := 29) hx hb dX5_retail_29 rfl (lv_at hl 1 rfl) ?_
  refine va_get (pc := 30) (D := D) (ci := 4) (v := .ref (o 11)) (C := RX5) (T := TX5) (N := 6) hx hb hts iu5 hown hK hP 0 rfl rfl 5 (by decide) (hts _ tw_269) (fun _ h9 => h9) rfl dX5_retail_30 ?_
  refine lv_aload_n (pc := 33) hx hb dX5_retail_33 rfl (lv_at hl 2 rfl) ?_
  refine cs_V (pc := 34) (idx := 170) (n := 1) (wr := [(o 0, oO o), (o 12, aZ ta 8 gb), (o 14, aI ta 512 spb), (o 16, aJ ta 16 s), (hr, oR br nr), (br, aZ ta capr gr), (o 1, oR (o 2) n1_6), (o 2, aZ ta 528 g1_6), (o 13, aZ ta 8 bf1_26), (hv, oR bv nv), (bv, aZ ta capv gv)]) (As := [.ref hk]) (rest := []) (ci := 1) hx hb hml hown hts hGok hK hA hG hl.1 hP hD hS (ct_X2_setSingle ll D ta gs (o 11) (o 12) (o 13) (o 14) (o 15) (o 16) tri hk bk capk gk 16 f (by first | assumption | omega | rfl | decide) (by first | assumption | omega | rfl | decide) (by first | assumption | omega | rfl | decide) H.size) tw_658 tw_655 tw_656 tw_657 tw_72 hdX2_setSingle rfl ⟨rfl, rfl, Nat.le_of_ble_eq_true rfl, Nat.le_of_ble_eq_true rfl, Nat.le_of_ble_eq_true rfl, Nat.le_of_ble_eq_true rfl⟩ rfl rfl (q0 := 11) rfl [11, 5, 6, 3] [0, 1, 2, 4, 7, 8, 9, 10, 12, 13, 14] rfl rfl (by decide) rfl (Nat.le_of_ble_eq_true rfl) dX5_retail_34 (fun u H locs hq hP hD hS => ?_)
  generalize u = f1_34 at hq hP hD ⊢
  have hq : (∀ rz, rz < 16 → f1_34 rz = skL (fun jz => gk (0 + jz)) rz) := hq
  have hs_34 := hq
  refine W.eq (g2 := F0 mm 37 ls []) rfl ?_
  have hP : va_P D vwCl [(o 0, oO o), (o 12, aZ ta 8 gb), (o 14, aI ta 512 spb), (o 16, aJ ta 16 s), (hr, oR br nr), (br, aZ ta capr gr), (o 1, oR (o 2) n1_6), (o 2, aZ ta 528 g1_6), (o 13, aZ ta 8 bf1_26), (hv, oR bv nv), (bv, aZ ta capv gv), (o 11, oD (o 12) (o 13) (o 14) (o 15) (o 16) false), (hk, oR bk 16), (bk, aZ ta capk gk), (o 15, aJ ta 16 f1_34)] H := hP
  have hD : va_D A [(o 0, oO o), (o 12, aZ ta 8 gb), (o 14, aI ta 512 spb), (o 16, aJ ta 16 s), (hr, oR br nr), (br, aZ ta capr gr), (o 1, oR (o 2) n1_6), (o 2, aZ ta 528 g1_6), (o 13, aZ ta 8 bf1_26), (hv, oR bv nv), (bv, aZ ta capv gv), (o 11, oD (o 12) (o 13) (o 14) (o 15) (o 16) false), (hk, oR bk 16), (bk, aZ ta capk gk), (o 15, aJ ta 16 f1_34)] := hD
  refine lv_aload_n (pc := 37) hx hb dX5_retail_37 rfl (lv_at hl 1 rfl) ?_
  refine va_get (pc := 38) (D := D) (ci := 4) (v := .ref (o 11)) (C := RX5) (T := TX5) (N := 6) hx hb hts iu5 hown hK hP 0 rfl rfl 5 (by decide) (hts _ tw_269) (fun _ h9 => h9) rfl dX5_retail_38 ?_
  refine lv_aload_n (pc := 41) hx hb dX5_retail_41 rfl (lv_at hl 1 rfl) ?_
  refine va_get (pc := 42) (D := D) (ci := 4) (v := .ref (o 1)) (C := RX5) (T := TX5) (N := 6) hx hb hts iu5 hown hK hP 0 rfl rfl 0 (by decide) (hts _ tw_271) (fun x h9 => u_same (hts _ tw_272) x h9) rfl dX5_retail_42 ?_
  refine lv_iconst (pc := 45) (v := nI 0) hx hb dX5_retail_45 (by decide +kernel) ?_
  refine lv_iload (pc := 46) hx hb dX5_retail_46 (lv_at hl 0 rfl) ?_
  refine cs_U (pc := 48) (idx := 117) (n := 3) (wr := [(o 0, oO o), (hr, oR br nr), (br, aZ ta capr gr), (hv, oR bv nv), (bv, aZ ta capv gv), (hk, oR bk 16), (bk, aZ ta capk gk)]) (As := [.ref (o 1), .int (nI 0), .int (nI (n1_6 - 8))]) (rest := []) (ci := 1) (x := ⟨"LineGuard$Des", "chainThere", "(LLineGuard$Row;II)V"⟩) (owner := "LineGuard$BlockCipher") hx hb hml hown hts hGok hK hA hG hl.1 hP hD hS (ct_X1_chainThere_D ll D ta gs (o 11) (o 12) (o 13) (o 14) (o 15) (o 16) false gb bf1_26 f1_34 s spb (qL gk 16) (o 1) (o 2) 528 g1_6 n1_6 0 (n1_6 - 8) (nt / 8) (by first | assumption | omega | rfl | decide) (dkS_take (by decide) hs_34) (fun q => absurd q (by decide)) (by first | assumption | omega | rfl | decide) (by first | assumption | omega | rfl | decide) (by first | assumption | omega | rfl | decide) (by first | assumption | omega | rfl | decide) H.size) tw_534 tw_646 tw_533 tw_648 tw_71 tw_647 (va_Decl.of (hts _ tw_533) (hts _ tw_534)) ⟨by decide +kernel, by decide +kernel, by decide +kernel⟩ rfl ⟨rfl, rfl, Nat.le_of_ble_eq_true rfl, Nat.le_of_ble_eq_true rfl, Nat.le_of_ble_eq_true rfl, Nat.le_of_ble_eq_true rfl⟩ rfl (q0 := 11) rfl [11, 1, 8, 2, 14, 3, 6, 7] [0, 4, 5, 9, 10, 12, 13] rfl rfl (by decide) rfl (Nat.le_of_ble_eq_true rfl) dX5_retail_48 (fun u H locs hq hP hD hS => ?_)
  obtain ⟨gb1_48, bf1_48, gr1_48⟩ := u
  have hq : (qSeg gr1_48 g1_6 0 (8 * (nt / 8)) (encF (cE false (qL gk 16) false) 8 (qL bf1_26 8) (seg g1_6 0 (8 * (nt / 8))))) ∧ (qL bf1_48 8 = cbcM (cE false (qL gk 16) false) 8 (qL bf1_26 8) (seg g1_6 0 (8 * (nt / 8))) (nt / 8)) := hq
  obtain ⟨hs_48, hbf_48⟩ := hq
  refine W.eq (g2 := F0 mm 51 ls []) rfl ?_
  have hP : va_P D vwCl [(o 0, oO o), (hr, oR br nr), (br, aZ ta capr gr), (hv, oR bv nv), (bv, aZ ta capv gv), (hk, oR bk 16), (bk, aZ ta capk gk), (o 11, oD (o 12) (o 13) (o 14) (o 15) (o 16) false), (o 12, aZ ta 8 gb1_48), (o 13, aZ ta 8 bf1_48), (o 14, aI ta 512 spb), (o 15, aJ ta 16 f1_34), (o 16, aJ ta 16 s), (o 1, oR (o 2) n1_6), (o 2, aZ ta 528 gr1_48)] H := hP
  have hD : va_D A [(o 0, oO o), (hr, oR br nr), (br, aZ ta capr gr), (hv, oR bv nv), (bv, aZ ta capv gv), (hk, oR bk 16), (bk, aZ ta capk gk), (o 11, oD (o 12) (o 13) (o 14) (o 15) (o 16) false), (o 12, aZ ta 8 gb1_48), (o 13, aZ ta 8 bf1_48), (o 14, aI ta 512 spb), (o 15, aJ ta 16 f1_34), (o 16, aJ ta 16 s), (o 1, oR (o 2) n1_6), (o 2, aZ ta 528 gr1_48)] := hD
  refine lv_aload_n (pc := 51) hx hb dX5_retail_51 rfl (lv_at hl 1 rfl) ?_
  refine va_get (pc := 52) (D := D) (ci := 4) (v := .ref (o 11)) (C := RX5) (T := TX5) (N := 6) hx hb hts iu5 hown hK hP 0 rfl rfl 5 (by decide) (hts _ tw_269) (fun _ h9 => h9) rfl dX5_retail_52 ?_
  refine lv_aload_n (pc := 55) hx hb dX5_retail_55 rfl (lv_at hl 2 rfl) ?_
  refine cs_V (pc := 56) (idx := 111) (n := 1) (wr := [(o 0, oO o), (hr, oR br nr), (br, aZ ta capr gr), (hv, oR bv nv), (bv, aZ ta capv gv), (o 12, aZ ta 8 gb1_48), (o 13, aZ ta 8 bf1_48), (o 14, aI ta 512 spb), (o 1, oR (o 2) n1_6), (o 2, aZ ta 528 gr1_48)]) (As := [.ref hk]) (rest := []) (ci := 1) hx hb hml hown hts hGok hK hA hG hl.1 hP hD hS (ct_X2_setTriple ll D ta gs (o 11) (o 12) (o 13) (o 14) (o 15) (o 16) false hk bk capk gk 16 f1_34 s (by first | assumption | omega | rfl | decide) (by first | assumption | omega | rfl | decide) (by first | assumption | omega | rfl | decide) H.size) tw_627 tw_624 tw_625 tw_626 tw_72 hdX2_setTriple rfl ⟨rfl, rfl, Nat.le_of_ble_eq_true rfl, Nat.le_of_ble_eq_true rfl, Nat.le_of_ble_eq_true rfl, Nat.le_of_ble_eq_true rfl⟩ rfl rfl (q0 := 7) rfl [7, 5, 6, 11, 12] [0, 1, 2, 3, 4, 8, 9, 10, 13, 14] rfl rfl (by decide) rfl (Nat.le_of_ble_eq_true rfl) dX5_retail_56 (fun u H locs hq hP hD hS => ?_)
  obtain ⟨f1_56, s1_56⟩ := u
  have hq : (∀ rz, rz < 16 → f1_56 rz = skL (fun jz => gk (0 + jz)) rz) ∧ (∀ rz, rz < 16 → s1_56 rz = skL (fun jz => gk (8 + jz)) rz) := hq
  obtain ⟨hs_56, hs2_56⟩ := hq
  refine W.eq (g2 := F0 mm 59 ls []) rfl ?_
  have hP : va_P D vwCl [(o 0, oO o), (hr, oR br nr), (br, aZ ta capr gr), (hv, oR bv nv), (bv, aZ ta capv gv), (o 12, aZ ta 8 gb1_48), (o 13, aZ ta 8 bf1_48), (o 14, aI ta 512 spb), (o 1, oR (o 2) n1_6), (o 2, aZ ta 528 gr1_48), (o 11, oD (o 12) (o 13) (o 14) (o 15) (o 16) true), (hk, oR bk 16), (bk, aZ ta capk gk), (o 15, aJ ta 16 f1_56), (o 16, aJ ta 16 s1_56)] H := hP
  have hD : va_D A [(o 0, oO o), (hr, oR br nr), (br, aZ ta capr gr), (hv, oR bv nv), (bv, aZ ta capv gv), (o 12, aZ ta 8 gb1_48), (o 13, aZ ta 8 bf1_48), (o 14, aI ta 512 spb), (o 1, oR (o 2) n1_6), (o 2, aZ ta 528 gr1_48), (o 11, oD (o 12) (o 13) (o 14) (o 15) (o 16) true), (hk, oR bk 16), (bk, aZ ta capk gk), (o 15, aJ ta 16 f1_56), (o 16, aJ ta 16 s1_56)] := hD
  refine lv_aload_n (pc := 59) hx hb dX5_retail_59 rfl (lv_at hl 1 rfl) ?_
  refine va_get (pc := 60) (D := D) (ci := 4) (v := .ref (o 11)) (C := RX5) (T := TX5) (N := 6) hx hb hts iu5 hown hK hP 0 rfl rfl 5 (by decide) (hts _ tw_269) (fun _ h9 => h9) rfl dX5_retail_60 ?_
  refine lv_aload_n (pc := 63) hx hb dX5_retail_63 rfl (lv_at hl 1 rfl) ?_
  refine va_get (pc := 64) (D := D) (ci := 4) (v := .ref (o 1)) (C := RX5) (T := TX5) (N := 6) hx hb hts iu5 hown hK hP 0 rfl rfl 0 (by decide) (hts _ tw_271) (fun x h9 => u_same (hts _ tw_272) x h9) rfl dX5_retail_64 ?_
  refine lv_iload (pc := 67) hx hb dX5_retail_67 (lv_at hl 0 rfl) ?_
  refine lv_aload_n (pc := 69) hx hb dX5_retail_69 rfl (lv_at hl 1 rfl) ?_
  refine va_get (pc := 70) (D := D) (ci := 4) (v := .ref (o 1)) (C := RX5) (T := TX5) (N := 6) hx hb hts iu5 hown hK hP 0 rfl rfl 0 (by decide) (hts _ tw_271) (fun x h9 => u_same (hts _ tw_272) x h9) rfl dX5_retail_70 ?_
  refine cs_V (pc := 73) (idx := 95) (n := 0) (wr := [(o 0, oO o), (hr, oR br nr), (br, aZ ta capr gr), (hv, oR bv nv), (bv, aZ ta capv gv), (o 12, aZ ta 8 gb1_48), (o 13, aZ ta 8 bf1_48), (o 14, aI ta 512 spb), (o 11, oD (o 12) (o 13) (o 14) (o 15) (o 16) true), (hk, oR bk 16), (bk, aZ ta capk gk), (o 15, aJ ta 16 f1_56), (o 16, aJ ta 16 s1_56)]) (As := []) (rest := [.int (nI (n1_6 - 8)), .ref (o 1), .ref (o 11)]) (ci := 5) hx hb hml hown hts hGok hK hA hG hl.1 hP hD hS (ct_X6_size ll D ta hGok (o 1) (o 2) 528 gr1_48 n1_6  H.size) tw_393 tw_645 tw_391 tw_392 tw_66 hdX6_size rfl ⟨rfl, rfl, Nat.le_of_ble_eq_true rfl, Nat.le_of_ble_eq_true rfl, Nat.le_of_ble_eq_true rfl, Nat.le_of_ble_eq_true rfl⟩ rfl rfl (q0 := 8) rfl [8, 9] [0, 1, 2, 3, 4, 5, 6, 7, 10, 11, 12, 13, 14] rfl rfl (by decide) rfl (Nat.le_of_ble_eq_true rfl) dX5_retail_73 (fun u H locs hq hP hD hS => ?_)
  refine W.eq (g2 := F0 mm 76 ls [.int (nI n1_6), .int (nI (n1_6 - 8)), .ref (o 1), .ref (o 11)]) rfl ?_
  have hP : va_P D vwCl [(o 0, oO o), (hr, oR br nr), (br, aZ ta capr gr), (hv, oR bv nv), (bv, aZ ta capv gv), (o 12, aZ ta 8 gb1_48), (o 13, aZ ta 8 bf1_48), (o 14, aI ta 512 spb), (o 11, oD (o 12) (o 13) (o 14) (o 15) (o 16) true), (hk, oR bk 16), (bk, aZ ta capk gk), (o 15, aJ ta 16 f1_56), (o 16, aJ ta 16 s1_56), (o 1, oR (o 2) n1_6), (o 2, aZ ta 528 gr1_48)] H := hP
  have hD : va_D A [(o 0, oO o), (hr, oR br nr), (br, aZ ta capr gr), (hv, oR bv nv), (bv, aZ ta capv gv), (o 12, aZ ta 8 gb1_48), (o 13, aZ ta 8 bf1_48), (o 14, aI ta 512 spb), (o 11, oD (o 12) (o 13) (o 14) (o 15) (o 16) true), (hk, oR bk 16), (bk, aZ ta capk gk), (o 15, aJ ta 16 f1_56), (o 16, aJ ta 16 s1_56), (o 1, oR (o 2) n1_6), (o 2, aZ ta 528 gr1_48)] := hD
  refine cs_U (pc := 76) (idx := 117) (n := 3) (wr := [(o 0, oO o), (hr, oR br nr), (br, aZ ta capr gr), (hv, oR bv nv), (bv, aZ ta capv gv), (hk, oR bk 16), (bk, aZ ta capk gk)]) (As := [.ref (o 1), .int (nI (n1_6 - 8)), .int (nI n1_6)]) (rest := []) (ci := 1) (x := ⟨"LineGuard$Des", "chainThere", "(LLineGuard$Row;II)V"⟩) (owner := "LineGuard$BlockCipher") hx hb hml hown hts hGok hK hA hG hl.1 hP hD hS (ct_X1_chainThere_D ll D ta gs (o 11) (o 12) (o 13) (o 14) (o 15) (o 16) true gb1_48 bf1_48 f1_56 s1_56 spb (qL gk 16) (o 1) (o 2) 528 gr1_48 n1_6 (n1_6 - 8) n1_6 1 (by first | assumption | omega | rfl | decide) (dkS_take (by decide) hs_56) (fun _ => dkS_drop (by decide) hs2_56) (by first | assumption | omega | rfl | decide) (by first | assumption | omega | rfl | decide) (by first | assumption | omega | rfl | decide) (by first | assumption | omega | rfl | decide) H.size) tw_534 tw_646 tw_533 tw_648 tw_71 tw_647 (va_Decl.of (hts _ tw_533) (hts _ tw_534)) ⟨by decide +kernel, by decide +kernel, by decide +kernel⟩ rfl ⟨rfl, rfl, Nat.le_of_ble_eq_true rfl, Nat.le_of_ble_eq_true rfl, Nat.le_of_ble_eq_true rfl, Nat.le_of_ble_eq_true rfl⟩ rfl (q0 := 8) rfl [8, 5, 6, 7, 11, 12, 13, 14] [0, 1, 2, 3, 4, 9, 10] rfl rfl (by decide) rfl (Nat.le_of_ble_eq_true rfl) dX5_retail_76 (fun u H locs hq hP hD hS => ?_)
  obtain ⟨gb1_76, bf1_76, gr1_76⟩ := u
  have hq : (qSeg gr1_76 gr1_48 (n1_6 - 8) (8 * 1) (encF (cE true (qL gk 16) false) 8 (qL bf1_48 8) (seg gr1_48 (n1_6 - 8) (8 * 1)))) ∧ (qL bf1_76 8 = cbcM (cE true (qL gk 16) false) 8 (qL bf1_48 8) (seg gr1_48 (n1_6 - 8) (8 * 1)) 1) := hq
  obtain ⟨hs_76, hbf_76⟩ := hq
  refine W.eq (g2 := F0 mm 79 ls []) rfl ?_
  have hP : va_P D vwCl [(o 0, oO o), (hr, oR br nr), (br, aZ ta capr gr), (hv, oR bv nv), (bv, aZ ta capv gv), (hk, oR bk 16), (bk, aZ ta capk gk), (o 11, oD (o 12) (o 13) (o 14) (o 15) (o 16) true), (o 12, aZ ta 8 gb1_76), (o 13, aZ ta 8 bf1_76), (o 14, aI ta 512 spb), (o 15, aJ ta 16 f1_56), (o 16, aJ ta 16 s1_56), (o 1, oR (o 2) n1_6), (o 2, aZ ta 528 gr1_76)] H := hP
  have hD : va_D A [(o 0, oO o), (hr, oR br nr), (br, aZ ta capr gr), (hv, oR bv nv), (bv, aZ ta capv gv), (hk, oR bk 16), (bk, aZ ta capk gk), (o 11, oD (o 12) (o 13) (o 14) (o 15) (o 16) true), (o 12, aZ ta 8 gb1_76), (o 13, aZ ta 8 bf1_76), (o 14, aI ta 512 spb), (o 15, aJ ta 16 f1_56), (o 16, aJ ta 16 s1_56), (o 1, oR (o 2) n1_6), (o 2, aZ ta 528 gr1_76)] := hD
  refine lv_aload_n (pc := 79) hx hb dX5_retail_79 rfl (lv_at hl 4 rfl) ?_
  refine lv_aload_n (pc := 80) hx hb dX5_retail_80 rfl (lv_at hl 1 rfl) ?_
  refine va_get (pc := 81) (D := D) (ci := 4) (v := .ref (o 1)) (C := RX5) (T := TX5) (N := 6) hx hb hts iu5 hown hK hP 0 rfl rfl 0 (by decide) (hts _ tw_271) (fun x h9 => u_same (hts _ tw_272) x h9) rfl dX5_retail_81 ?_
  refine lv_iload (pc := 84) hx hb dX5_retail_84 (lv_at hl 0 rfl) ?_
  refine lv_aload_n (pc := 86) hx hb dX5_retail_86 rfl (lv_at hl 1 rfl) ?_
  refine va_get (pc := 87) (D := D) (ci := 4) (v := .ref (o 1)) (C := RX5) (T := TX5) (N := 6) hx hb hts iu5 hown hK hP 0 rfl rfl 0 (by decide) (hts _ tw_271) (fun x h9 => u_same (hts _ tw_272) x h9) rfl dX5_retail_87 ?_
  refine cs_V (pc := 90) (idx := 95) (n := 0) (wr := [(o 0, oO o), (hr, oR br nr), (br, aZ ta capr gr), (hv, oR bv nv), (bv, aZ ta capv gv), (hk, oR bk 16), (bk, aZ ta capk gk), (o 11, oD (o 12) (o 13) (o 14) (o 15) (o 16) true), (o 12, aZ ta 8 gb1_76), (o 13, aZ ta 8 bf1_76), (o 14, aI ta 512 spb), (o 15, aJ ta 16 f1_56), (o 16, aJ ta 16 s1_56)]) (As := []) (rest := [.int (nI (n1_6 - 8)), .ref (o 1), .ref hr]) (ci := 5) hx hb hml hown hts hGok hK hA hG hl.1 hP hD hS (ct_X6_size ll D ta hGok (o 1) (o 2) 528 gr1_76 n1_6  H.size) tw_393 tw_645 tw_391 tw_392 tw_66 hdX6_size rfl ⟨rfl, rfl, Nat.le_of_ble_eq_true rfl, Nat.le_of_ble_eq_true rfl, Nat.le_of_ble_eq_true rfl, Nat.le_of_ble_eq_true rfl⟩ rfl rfl (q0 := 13) rfl [13, 14] [0, 1, 2, 3, 4, 5, 6, 7, 8, 9, 10, 11, 12] rfl rfl (by decide) rfl (Nat.le_of_ble_eq_true rfl) dX5_retail_90 (fun u H locs hq hP hD hS => ?_)
  refine W.eq (g2 := F0 mm 93 ls [.int (nI n1_6), .int (nI (n1_6 - 8)), .ref (o 1), .ref hr]) rfl ?_
  have hP : va_P D vwCl [(o 0, oO o), (hr, oR br nr), (br, aZ ta capr gr), (hv, oR bv nv), (bv, aZ ta capv gv), (hk, oR bk 16), (bk, aZ ta capk gk), (o 11, oD (o 12) (o 13) (o 14) (o 15) (o 16) true), (o 12, aZ ta 8 gb1_76), (o 13, aZ ta 8 bf1_76), (o 14, aI ta 512 spb), (o 15, aJ ta 16 f1_56), (o 16, aJ ta 16 s1_56), (o 1, oR (o 2) n1_6), (o 2, aZ ta 528 gr1_76)] H := hP
  have hD : va_D A [(o 0, oO o), (hr, oR br nr), (br, aZ ta capr gr), (hv, oR bv nv), (bv, aZ ta capv gv), (hk, oR bk 16), (bk, aZ ta capk gk), (o 11, oD (o 12) (o 13) (o 14) (o 15) (o 16) true), (o 12, aZ ta 8 gb1_76), (o 13, aZ ta 8 bf1_76), (o 14, aI ta 512 spb), (o 15, aJ ta 16 f1_56), (o 16, aJ ta 16 s1_56), (o 1, oR (o 2) n1_6), (o 2, aZ ta 528 gr1_76)] := hD
  refine cs_V (pc := 93) (idx := 99) (n := 3) (wr := [(o 0, oO o), (hv, oR bv nv), (bv, aZ ta capv gv), (hk, oR bk 16), (bk, aZ ta capk gk), (o 11, oD (o 12) (o 13) (o 14) (o 15) (o 16) true), (o 12, aZ ta 8 gb1_76), (o 13, aZ ta 8 bf1_76), (o 14, aI ta 512 spb), (o 15, aJ ta 16 f1_56), (o 16, aJ ta 16 s1_56)]) (As := [.ref (o 1), .int (nI (n1_6 - 8)), .int (nI n1_6)]) (rest := []) (ci := 5) hx hb hml hown hts hGok hK hA hG hl.1 hP hD hS (ct_X6_copyPart ll D ta hGok hr br capr gr nr (o 1) (o 2) 528 gr1_76 n1_6 (n1_6 - 8) n1_6 (by first | assumption | omega | rfl | decide) (by first | assumption | omega | rfl | decide) (by first | assumption | omega | rfl | decide) (by first | assumption | omega | rfl | decide) (by first | assumption | omega | rfl | decide) (by first | assumption | omega | rfl | decide) H.size) tw_464 tw_659 tw_462 tw_463 tw_66 hdX6_copyPart rfl ⟨rfl, rfl, Nat.le_of_ble_eq_true rfl, Nat.le_of_ble_eq_true rfl, Nat.le_of_ble_eq_true rfl, Nat.le_of_ble_eq_true rfl⟩ rfl rfl (q0 := 1) rfl [1, 2, 13, 14] [0, 3, 4, 5, 6, 7, 8, 9, 10, 11, 12] rfl rfl (by decide) rfl (Nat.le_of_ble_eq_true rfl) dX5_retail_93 (fun u H locs hq hP hD hS => ?_)
  obtain ⟨g1_93, n1_93⟩ := u
  have hq : (n1_93 = min n1_6 n1_6 - (n1_6 - 8)) ∧ (qL g1_93 n1_93 = ((qL gr1_76 n1_6).take n1_6).drop (n1_6 - 8)) := hq
  obtain ⟨hm_93, hL_93⟩ := hq
  refine W.eq (g2 := F0 mm 96 ls []) rfl ?_
  have hP : va_P D vwCl [(o 0, oO o), (hv, oR bv nv), (bv, aZ ta capv gv), (hk, oR bk 16), (bk, aZ ta capk gk), (o 11, oD (o 12) (o 13) (o 14) (o 15) (o 16) true), (o 12, aZ ta 8 gb1_76), (o 13, aZ ta 8 bf1_76), (o 14, aI ta 512 spb), (o 15, aJ ta 16 f1_56), (o 16, aJ ta 16 s1_56), (hr, oR br n1_93), (br, aZ ta capr g1_93), (o 1, oR (o 2) n1_6), (o 2, aZ ta 528 gr1_76)] H := hP
  have hD : va_D A [(o 0, oO o), (hv, oR bv nv), (bv, aZ ta capv gv), (hk, oR bk 16), (bk, aZ ta capk gk), (o 11, oD (o 12) (o 13) (o 14) (o 15) (o 16) true), (o 12, aZ ta 8 gb1_76), (o 13, aZ ta 8 bf1_76), (o 14, aI ta 512 spb), (o 15, aJ ta 16 f1_56), (o 16, aJ ta 16 s1_56), (hr, oR br n1_93), (br, aZ ta capr g1_93), (o 1, oR (o 2) n1_6), (o 2, aZ ta 528 gr1_76)] := hD
  have en_1 : 8 = n1_93 := by omega
  subst en_1
  have hq_2 : (qL g1_93 8 = retailL (qL gk 16) (qL gv 8) (qL gt nt)) := by
    have hs9 := hs_48
    have hb9 := hbf_48
    have hs8 := hs_76
    rw [cE_f, hs_26] at hs9 hb9
    rw [cE_t] at hs8
    rw [hL_93, List.take_of_length_le (by rw [qL_len]; omega), qL_drop, show n1_6 - (n1_6 - 8) = 8 by omega]
    exact retail_of hm_6 hL_6 hs9 hb9 hs8
  exact hret (⟨(gr1_76), (n1_6), (g1_93), (true), (gb1_76), (bf1_76), (f1_56), (s1_56)⟩ : (Nat → BitVec 8) × Nat × (Nat → BitVec 8) × Bool × (Nat → BitVec 8) × (Nat → BitVec 8) × (Nat → Int64) × (Nat → Int64)) _ _ _ _ dX5_retail_96 hq_2 (hP.sub [0, 13, 14, 5, 6, 7, 8, 9, 10, 3, 4, 1, 2, 11, 12] rfl) (hD.sub [0, 13, 14, 5, 6, 7, 8, 9, 10, 3, 4, 1, 2, 11, 12] (by decide) rfl) hS
