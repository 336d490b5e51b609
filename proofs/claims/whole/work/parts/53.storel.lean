/-! a new array filled with a table, element by element -/
def rdPush (cc : ByteArray) (pc : Nat) : Option (Int32 × Nat) := match decode cc pc with
  | .ok (.iconst n, 1) => some (Int32.ofInt n, pc + 1)
  | .ok (.bipush n, 2) => some ((Int8.ofInt n).toInt32, pc + 2)
  | .ok (.sipush n, 3) => some ((Int16.ofInt n).toInt32, pc + 3)
  | _ => none
def isDup (cc : ByteArray) (pc : Nat) : Bool := match decode cc pc with
  | .ok (.dup, 1) => true
  | _ => false
def isIast (cc : ByteArray) (pc : Nat) : Bool := match decode cc pc with
  | .ok (.iastore, 1) => true
  | _ => false
def rdSt (cc : ByteArray) : List Nat → Nat → Nat → Option Nat
  | [], _, pc => some pc
  | v :: vs, k, pc => if isDup cc pc then (match rdPush cc (pc + 1) with
    | some (i, p1) => (match rdPush cc p1 with
      | some (x, p2) => if i = nI k ∧ x = nI v ∧ isIast cc p2 = true then rdSt cc vs (k + 1) (p2 + 1) else none
      | none => none)
    | none => none) else none
def stF (g : Nat → Nat) : Nat → List Nat → Nat → Nat
  | _, [] => g
  | k, v :: vs => stF (qU g k v) (k + 1) vs
theorem stF_get : ∀ {vs : List Nat} {g : Nat → Nat} {k j : Nat}, stF g k vs j = if k ≤ j ∧ j < k + vs.length then vs.getD (j - k) 0 else g j
  | [], g, k, j => by
    rw [stF, if_neg (by simp only [List.length_nil]; omega)]
  | v :: vs, g, k, j => by
    rw [stF, stF_get]
    by_cases h : k + 1 ≤ j ∧ j < k + 1 + vs.length
    · rw [if_pos h, if_pos (by simp; omega), show j - k = (j - (k + 1)) + 1 by omega]
      rfl
    · rw [if_neg h]
      by_cases q : j = k
      · subst q
        rw [qU_same, if_pos (by simp), Nat.sub_self]
        rfl
      · rw [qU_ne q, if_neg (by simp; omega)]
theorem stF_0 {vs : List Nat} {j : Nat} : stF (fun _ => 0) 0 vs j = vs.getD j 0 := by
  rw [stF_get]
  by_cases h : j < vs.length
  · rw [if_pos ⟨Nat.zero_le _, by omega⟩, Nat.sub_zero]
  · rw [if_neg (by omega), List.getD_eq_getElem?_getD, List.getElem?_eq_none (by omega)]
    rfl
theorem isDup_t {cc : ByteArray} {pc : Nat} (h : isDup cc pc = true) : decode cc pc = .ok (.dup, 1) := by
  unfold isDup at h
  split at h
  · assumption
  · cases h
theorem isIast_t {cc : ByteArray} {pc : Nat} (h : isIast cc pc = true) : decode cc pc = .ok (.iastore, 1) := by
  unfold isIast at h
  split at h
  · assumption
  · cases h
section Stores
variable {p : Program} {l : Launch} {e : Env} {R : Room} {s : State} {m : MethodId} {args : Array Value} {below : List Frame} {meth : Method} {c : Code} {H H0 : Heap} {locs : List Loc} {cells slots : Nat} {Q : State → Prop} {pc : Nat} {ls : Array Slot} {rest : List Value} {A : Nat → Prop} {D : va_G} {ws : va_W} {cc : ByteArray} {ta : Nat → ClassId} {st0 : List Value}
theorem W_push (hx : p.tables.exec = Jvm.exec) (hb : c.code = cc) {v : Int32} {pc' : Nat} (h : rdPush cc pc = some (v, pc')) (k : W p l e R s m args below meth c H locs cells slots Q (F0 m pc' ls (.int v :: rest))) : W p l e R s m args below meth c H locs cells slots Q (F0 m pc ls rest) := by
  unfold rdPush at h
  split at h
  · rename_i n hd
    cases h
    exact lv_iconst hx hb hd rfl k
  · rename_i n hd
    cases h
    exact lv_bipush hx hb hd rfl k
  · rename_i n hd
    cases h
    exact lv_sipush hx hb hd rfl k
  · cases h
theorem W_st (hx : p.tables.exec = Jvm.exec) (hb : c.code = cc) (hK : va_K D vwCl (TY ta) s) (q0 : Nat) {a N : Nat} (hN : N < 2 ^ 31) {pc' : Nat} (hq : q0 < ws.length) : ∀ (vs : List Nat) (k pc : Nat) (g : Nat → Nat) (H : Heap) (locs : List Loc), rdSt cc vs k pc = some pc' → k + vs.length ≤ N → va_P D vwCl (ws.set q0 (a, .inl (ta 0, N, .inl (fun j => nI (g j))))) H → va_D A (ws.set q0 (a, .inl (ta 0, N, .inl (fun j => nI (g j))))) → va_S A H0 H locs →
    (∀ (H : Heap) (locs : List Loc), va_P D vwCl (ws.set q0 (a, .inl (ta 0, N, .inl (fun j => nI (stF g k vs j))))) H → va_D A (ws.set q0 (a, .inl (ta 0, N, .inl (fun j => nI (stF g k vs j))))) → va_S A H0 H locs → W p l e R s m args below meth c H locs cells slots Q (F0 m pc' ls (.ref a :: rest))) →
    W p l e R s m args below meth c H locs cells slots Q (F0 m pc ls (.ref a :: rest))
  | [], k, pc, g, H, locs, hr, hn, hP, hD, hS, kk => by
    cases hr
    exact kk H locs hP hD hS
  | v :: vs, k, pc, g, H, locs, hr, hn, hP, hD, hS, kk => by
    rw [rdSt] at hr
    split at hr
    · rename_i hd
      split at hr
      · rename_i i p1 h1
        split at hr
        · rename_i x p2 h2
          split at hr
          · rename_i h3
            obtain ⟨rfl, rfl, h4⟩ := h3
            refine lv_dup hx hb (isDup_t hd) rfl ?_
            refine W_push hx hb h1 ?_
            refine W_push hx hb h2 ?_
            have hg : (ws.set q0 (a, (.inl (ta 0, N, .inl (fun j => nI (g j))) : va_E)))[q0]? = some (a, .inl (ta 0, N, .inl (fun j => nI (g j)))) := by
              rw [List.getElem?_set]
              simp [hq]
            refine q_iastK hx hb hK hP hD hS q0 0 hg rfl (k := k) rfl (by simp at hn; omega) hN (b := v) rfl (isIast_t h4) (fun H1 locs1 hP1 hD1 hS1 => ?_)
            rw [List.set_set] at hP1 hD1
            refine W_st hx hb hK q0 hN hq vs (k + 1) (p2 + 1) (qU g k v) H1 locs1 hr (by simp at hn; omega) hP1 hD1 hS1 (fun H2 locs2 hP2 hD2 hS2 => ?_)
            exact kk H2 locs2 hP2 hD2 hS2
          · cases hr
        · cases hr
      · cases hr
    · cases hr
end Stores
theorem rd_IP : rdSt cX10_init IPn 0 9 = some 382 := by decide +kernel
theorem rd_SPR : rdSt cX10_init SPRn 0 390 = some 664 := by decide +kernel
theorem rd_MIX : rdSt cX10_init MIXn 0 672 = some 853 := by decide +kernel
theorem rd_CH : rdSt cX10_init CHn 0 861 = some 1186 := by decide +kernel
theorem rd_SEC : rdSt cX10_init SECn 0 1194 = some 1471 := by decide +kernel
theorem rdSt_app {cc : ByteArray} : ∀ {vs us : List Nat} {k k' pc pc1 pc2 : Nat}, k + vs.length = k' → rdSt cc vs k pc = some pc1 → rdSt cc us k' pc1 = some pc2 → rdSt cc (vs ++ us) k pc = some pc2
  | [], us, k, k', pc, pc1, pc2, hk, h1, h2 => by
    cases h1
    cases hk
    exact h2
  | v :: vs, us, k, k', pc, pc1, pc2, hk, h1, h2 => by
    rw [rdSt] at h1
    rw [List.cons_append, rdSt]
    split at h1
    · rename_i hd
      rw [if_pos hd]
      split at h1
      · rename_i i p1 e1
        try rw [e1]
        try dsimp only
        split at h1
        · rename_i x p2 e2
          try rw [e2]
          try dsimp only
          split at h1
          · rename_i h3
            try rw [if_pos h3]
            exact rdSt_app (by rw [List.length_cons] at hk; omega) h1 h2
          · cases h1
        · cases h1
      · cases h1
    · cases h1
def SX0 : List Nat := [14, 4, 13, 1, 2, 15, 11, 8, 3, 10, 6, 12, 5, 9, 0, 7, 0, 15, 7, 4, 14, 2, 13, 1, 10, 6, 12, 11, 9, 5, 3, 8]
theorem rd_S0 : rdSt cX10_init SX0 0 1480 = some 1654 := by decide +kernel
theorem len_S0 : 0 + SX0.length = 32 := by decide
def SX1 : List Nat := [4, 1, 14, 8, 13, 6, 2, 11, 15, 12, 9, 7, 3, 10, 5, 0, 15, 12, 8, 2, 4, 9, 1, 7, 5, 11, 3, 14, 10, 0, 6, 13]
theorem rd_S1 : rdSt cX10_init SX1 32 1654 = some 1834 := by decide +kernel
theorem len_S1 : 32 + SX1.length = 64 := by decide
def SX2 : List Nat := [15, 1, 8, 14, 6, 11, 3, 4, 9, 7, 2, 13, 12, 0, 5, 10, 3, 13, 4, 7, 15, 2, 8, 14, 12, 0, 1, 10, 6, 9, 11, 5]
theorem rd_S2 : rdSt cX10_init SX2 64 1834 = some 2014 := by decide +kernel
theorem len_S2 : 64 + SX2.length = 96 := by decide
def SX3 : List Nat := [0, 14, 7, 11, 10, 4, 13, 1, 5, 8, 12, 6, 9, 3, 2, 15, 13, 8, 10, 1, 3, 15, 4, 2, 11, 6, 7, 12, 0, 5, 14, 9]
theorem rd_S3 : rdSt cX10_init SX3 96 2014 = some 2194 := by decide +kernel
theorem len_S3 : 96 + SX3.length = 128 := by decide
def SX4 : List Nat := [10, 0, 9, 14, 6, 3, 15, 5, 1, 13, 12, 7, 11, 4, 2, 8, 13, 7, 0, 9, 3, 4, 6, 10, 2, 8, 5, 14, 12, 11, 15, 1]
theorem rd_S4 : rdSt cX10_init SX4 128 2194 = some 2406 := by decide +kernel
theorem len_S4 : 128 + SX4.length = 160 := by decide
def SX5 : List Nat := [13, 6, 4, 9, 8, 15, 3, 0, 11, 1, 2, 12, 5, 10, 14, 7, 1, 10, 13, 0, 6, 9, 8, 7, 4, 15, 14, 3, 11, 5, 2, 12]
theorem rd_S5 : rdSt cX10_init SX5 160 2406 = some 2618 := by decide +kernel
theorem len_S5 : 160 + SX5.length = 192 := by decide
def SX6 : List Nat := [7, 13, 14, 3, 0, 6, 9, 10, 1, 2, 8, 5, 11, 12, 4, 15, 13, 8, 11, 5, 6, 15, 0, 3, 4, 7, 2, 12, 1, 10, 14, 9]
theorem rd_S6 : rdSt cX10_init SX6 192 2618 = some 2830 := by decide +kernel
theorem len_S6 : 192 + SX6.length = 224 := by decide
def SX7 : List Nat := [10, 6, 9, 0, 12, 11, 7, 13, 15, 1, 3, 14, 5, 2, 8, 4, 3, 15, 0, 6, 10, 1, 13, 8, 9, 4, 5, 11, 12, 7, 2, 14]
theorem rd_S7 : rdSt cX10_init SX7 224 2830 = some 3042 := by decide +kernel
theorem len_S7 : 224 + SX7.length = 256 := by decide
def SX8 : List Nat := [2, 12, 4, 1, 7, 10, 11, 6, 8, 5, 3, 15, 13, 0, 14, 9, 14, 11, 2, 12, 4, 7, 13, 1, 5, 0, 15, 10, 3, 9, 8, 6]
theorem rd_S8 : rdSt cX10_init SX8 256 3042 = some 3254 := by decide +kernel
theorem len_S8 : 256 + SX8.length = 288 := by decide
def SX9 : List Nat := [4, 2, 1, 11, 10, 13, 7, 8, 15, 9, 12, 5, 6, 3, 0, 14, 11, 8, 12, 7, 1, 14, 2, 13, 6, 15, 0, 9, 10, 4, 5, 3]
theorem rd_S9 : rdSt cX10_init SX9 288 3254 = some 3466 := by decide +kernel
theorem len_S9 : 288 + SX9.length = 320 := by decide
def SX10 : List Nat := [12, 1, 10, 15, 9, 2, 6, 8, 0, 13, 3, 4, 14, 7, 5, 11, 10, 15, 4, 2, 7, 12, 9, 5, 6, 1, 13, 14, 0, 11, 3, 8]
theorem rd_S10 : rdSt cX10_init SX10 320 3466 = some 3678 := by decide +kernel
theorem len_S10 : 320 + SX10.length = 352 := by decide
def SX11 : List Nat := [9, 14, 15, 5, 2, 8, 12, 3, 7, 0, 4, 10, 1, 13, 11, 6, 4, 3, 2, 12, 9, 5, 15, 10, 11, 14, 1, 7, 6, 0, 8, 13]
theorem rd_S11 : rdSt cX10_init SX11 352 3678 = some 3890 := by decide +kernel
theorem len_S11 : 352 + SX11.length = 384 := by decide
def SX12 : List Nat := [4, 11, 2, 14, 15, 0, 8, 13, 3, 12, 9, 7, 5, 10, 6, 1, 13, 0, 11, 7, 4, 9, 1, 10, 14, 3, 5, 12, 2, 15, 8, 6]
theorem rd_S12 : rdSt cX10_init SX12 384 3890 = some 4102 := by decide +kernel
theorem len_S12 : 384 + SX12.length = 416 := by decide
def SX13 : List Nat := [1, 4, 11, 13, 12, 3, 7, 14, 10, 15, 6, 8, 0, 5, 9, 2, 6, 11, 13, 8, 1, 4, 10, 7, 9, 5, 0, 15, 14, 2, 3, 12]
theorem rd_S13 : rdSt cX10_init SX13 416 4102 = some 4314 := by decide +kernel
theorem len_S13 : 416 + SX13.length = 448 := by decide
def SX14 : List Nat := [13, 2, 8, 4, 6, 15, 11, 1, 10, 9, 3, 14, 5, 0, 12, 7, 1, 15, 13, 8, 10, 3, 7, 4, 12, 5, 6, 11, 0, 14, 9, 2]
theorem rd_S14 : rdSt cX10_init SX14 448 4314 = some 4526 := by decide +kernel
theorem len_S14 : 448 + SX14.length = 480 := by decide
def SX15 : List Nat := [7, 11, 4, 1, 9, 12, 14, 2, 0, 6, 10, 13, 15, 3, 5, 8, 2, 1, 14, 7, 4, 10, 8, 13, 15, 12, 9, 0, 3, 5, 6, 11]
theorem rd_S15 : rdSt cX10_init SX15 480 4526 = some 4738 := by decide +kernel
theorem len_S15 : 480 + SX15.length = 512 := by decide
theorem rd_T15 : rdSt cX10_init SX15 480 4526 = some 4738 := rd_S15
theorem rd_T14 : rdSt cX10_init (SX14 ++ SX15) 448 4314 = some 4738 := rdSt_app len_S14 rd_S14 rd_T15
theorem rd_T13 : rdSt cX10_init (SX13 ++ (SX14 ++ SX15)) 416 4102 = some 4738 := rdSt_app len_S13 rd_S13 rd_T14
theorem rd_T12 : rdSt cX10_init (SX12 ++ (SX13 ++ (SX14 ++ SX15))) 384 3890 = some 4738 := rdSt_app len_S12 rd_S12 rd_T13
theorem rd_T11 : rdSt cX10_init (SX11 ++ (SX12 ++ (SX13 ++ (SX14 ++ SX15)))) 352 3678 = some 4738 := rdSt_app len_S11 rd_S11 rd_T12
theorem rd_T10 : rdSt cX10_init (SX10 ++ (SX11 ++ (SX12 ++ (SX13 ++ (SX14 ++ SX15))))) 320 3466 = some 4738 := rdSt_app len_S10 rd_S10 rd_T11
theorem rd_T9 : rdSt cX10_init (SX9 ++ (SX10 ++ (SX11 ++ (SX12 ++ (SX13 ++ (SX14 ++ SX15)))))) 288 3254 = some 4738 := rdSt_app len_S9 rd_S9 rd_T10
theorem rd_T8 : rdSt cX10_init (SX8 ++ (SX9 ++ (SX10 ++ (SX11 ++ (SX12 ++ (SX13 ++ (SX14 ++ SX15))))))) 256 3042 = some 4738 := rdSt_app len_S8 rd_S8 rd_T9
theorem rd_T7 : rdSt cX10_init (SX7 ++ (SX8 ++ (SX9 ++ (SX10 ++ (SX11 ++ (SX12 ++ (SX13 ++ (SX14 ++ SX15)))))))) 224 2830 = some 4738 := rdSt_app len_S7 rd_S7 rd_T8
theorem rd_T6 : rdSt cX10_init (SX6 ++ (SX7 ++ (SX8 ++ (SX9 ++ (SX10 ++ (SX11 ++ (SX12 ++ (SX13 ++ (SX14 ++ SX15))))))))) 192 2618 = some 4738 := rdSt_app len_S6 rd_S6 rd_T7
theorem rd_T5 : rdSt cX10_init (SX5 ++ (SX6 ++ (SX7 ++ (SX8 ++ (SX9 ++ (SX10 ++ (SX11 ++ (SX12 ++ (SX13 ++ (SX14 ++ SX15)))))))))) 160 2406 = some 4738 := rdSt_app len_S5 rd_S5 rd_T6
theorem rd_T4 : rdSt cX10_init (SX4 ++ (SX5 ++ (SX6 ++ (SX7 ++ (SX8 ++ (SX9 ++ (SX10 ++ (SX11 ++ (SX12 ++ (SX13 ++ (SX14 ++ SX15))))))))))) 128 2194 = some 4738 := rdSt_app len_S4 rd_S4 rd_T5
theorem rd_T3 : rdSt cX10_init (SX3 ++ (SX4 ++ (SX5 ++ (SX6 ++ (SX7 ++ (SX8 ++ (SX9 ++ (SX10 ++ (SX11 ++ (SX12 ++ (SX13 ++ (SX14 ++ SX15)))))))))))) 96 2014 = some 4738 := rdSt_app len_S3 rd_S3 rd_T4
theorem rd_T2 : rdSt cX10_init (SX2 ++ (SX3 ++ (SX4 ++ (SX5 ++ (SX6 ++ (SX7 ++ (SX8 ++ (SX9 ++ (SX10 ++ (SX11 ++ (SX12 ++ (SX13 ++ (SX14 ++ SX15))))))))))))) 64 1834 = some 4738 := rdSt_app len_S2 rd_S2 rd_T3
theorem rd_T1 : rdSt cX10_init (SX1 ++ (SX2 ++ (SX3 ++ (SX4 ++ (SX5 ++ (SX6 ++ (SX7 ++ (SX8 ++ (SX9 ++ (SX10 ++ (SX11 ++ (SX12 ++ (SX13 ++ (SX14 ++ SX15)))))))))))))) 32 1654 = some 4738 := rdSt_app len_S1 rd_S1 rd_T2
theorem rd_T0 : rdSt cX10_init (SX0 ++ (SX1 ++ (SX2 ++ (SX3 ++ (SX4 ++ (SX5 ++ (SX6 ++ (SX7 ++ (SX8 ++ (SX9 ++ (SX10 ++ (SX11 ++ (SX12 ++ (SX13 ++ (SX14 ++ SX15))))))))))))))) 0 1480 = some 4738 := rdSt_app len_S0 rd_S0 rd_T1
theorem SBX_app : SBXn = (SX0 ++ (SX1 ++ (SX2 ++ (SX3 ++ (SX4 ++ (SX5 ++ (SX6 ++ (SX7 ++ (SX8 ++ (SX9 ++ (SX10 ++ (SX11 ++ (SX12 ++ (SX13 ++ (SX14 ++ SX15))))))))))))))) := by decide +kernel
theorem rd_SBX : rdSt cX10_init SBXn 0 1480 = some 4738 := by rw [SBX_app]; exact rd_T0
