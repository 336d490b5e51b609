/-! a new array filled with a table, element by element -/
def rdPush (cc : ByteArray) (pc : Nat) : Option (Int32 × Nat) := match decode cc pc with
  | .ok (.iconst n, 1) => some (Int32.ofInt n, pc + 1)
  | .ok (.bipush n, 2) => some ((Int8.ofInt n).toInt32, pc + 2)
  | .ok (.sipush n, 3) => some ((Int16.ofInt n).toInt32, pc + 3)
  | _ => none
def isDup (cc : ByteArray) (pc : Nat) : Bool := match decode cc pc with
  | .ok (.dup, 1) => true
  | _ => false
def isIast (cc : ByteArray) (pc : Nat) : Bool := match decode cc pc with
  | .ok (.iastore, 1) => true
  | _ => false
def rdSt (cc : ByteArray) : List Nat → Nat → Nat → Option Nat
  | [], _, pc => some pc
  | v :: vs, k, pc => if isDup cc pc then (match rdPush cc (pc + 1) with
    | some (i, p1) => (match rdPush cc p1 with
      | some (x, p2) => if i = nI k ∧ x = nI v ∧ isIast cc p2 = true then rdSt cc vs (k + 1) (p2 + 1) else none
      | none => none)
    | none => none) else none
def stF (g : Nat → Nat) : Nat → List Nat → Nat → Nat
  | _, [] => g
  | k, v :: vs => stF (qU g k v) (k + 1) vs
theorem stF_get : ∀ {vs : List Nat} {g : Nat → Nat} {k j : Nat}, stF g k vs j = if k ≤ j ∧ j < k + vs.length then vs.getD (j - k) 0 else g j
  | [], g, k, j => by
    rw [stF, if_neg (by simp; omega)]
  | v :: vs, g, k, j => by
    rw [stF, stF_get]
    by_cases h : k + 1 ≤ j ∧ j < k + 1 + vs.length
    · rw [if_pos h, if_pos (by simp; omega), show j - k = (j - (k + 1)) + 1 by omega]
      rfl
    · rw [if_neg h]
      by_cases q : j = k
      · subst q
        rw [qU_same, if_pos (by simp), Nat.sub_self]
        rfl
      · rw [qU_ne q, if_neg (by simp; omega)]
theorem stF_0 {vs : List Nat} {j : Nat} : stF (fun _ => 0) 0 vs j = vs.getD j 0 := by
  rw [stF_get]
  by_cases h : j < vs.length
  · rw [if_pos ⟨Nat.zero_le _, by omega⟩, Nat.sub_zero]
  · rw [if_neg (by omega), List.getD_eq_getElem?_getD, List.getElem?_eq_none (by omega)]
    rfl
theorem isDup_t {cc : ByteArray} {pc : Nat} (h : isDup cc pc = true) : decode cc pc = .ok (.dup, 1) := by
  unfold isDup at h
  split at h
  · assumption
  · cases h
theorem isIast_t {cc : ByteArray} {pc : Nat} (h : isIast cc pc = true) : decode cc pc = .ok (.iastore, 1) := by
  unfold isIast at h
  split at h
  · assumption
  · cases h
section Stores
variable {p : Program} {l : Launch} {e : Env} {R : Room} {s : State} {m : MethodId} {args : Array Value} {below : List Frame} {meth : Method} {c : Code} {H H0 : Heap} {locs : List Loc} {cells slots : Nat} {Q : State → Prop} {pc : Nat} {ls : Array Slot} {rest : List Value} {A : Nat → Prop} {D : va_G} {ws : va_W} {cc : ByteArray} {ta : Nat → ClassId} {st0 : List Value}
theorem W_push (hx : p.tables.exec = Jvm.exec) (hb : c.code = cc) {v : Int32} {pc' : Nat} (h : rdPush cc pc = some (v, pc')) (k : W p l e R s m args below meth c H locs cells slots Q (F0 m pc' ls (.int v :: rest))) : W p l e R s m args below meth c H locs cells slots Q (F0 m pc ls rest) := by
  unfold rdPush at h
  split at h
  · rename_i n hd
    cases h
    exact lv_iconst hx hb hd rfl k
  · rename_i n hd
    cases h
    exact lv_bipush hx hb hd rfl k
  · rename_i n hd
    cases h
    exact lv_sipush hx hb hd rfl k
  · cases h
theorem W_st (hx : p.tables.exec = Jvm.exec) (hb : c.code = cc) (hK : va_K D vwCl (TY ta) s) (q0 : Nat) {a N : Nat} (hN : N < 2 ^ 31) {pc' : Nat} (hq : q0 < ws.length) : ∀ (vs : List Nat) (k pc : Nat) (g : Nat → Nat) (H : Heap) (locs : List Loc), rdSt cc vs k pc = some pc' → k + vs.length ≤ N → va_P D vwCl (ws.set q0 (a, .inl (ta 0, N, .inl (fun j => nI (g j))))) H → va_D A (ws.set q0 (a, .inl (ta 0, N, .inl (fun j => nI (g j))))) → va_S A H0 H locs →
    (∀ (H : Heap) (locs : List Loc), va_P D vwCl (ws.set q0 (a, .inl (ta 0, N, .inl (fun j => nI (stF g k vs j))))) H → va_D A (ws.set q0 (a, .inl (ta 0, N, .inl (fun j => nI (stF g k vs j))))) → va_S A H0 H locs → W p l e R s m args below meth c H locs cells slots Q (F0 m pc' ls (.ref a :: rest))) →
    W p l e R s m args below meth c H locs cells slots Q (F0 m pc ls (.ref a :: rest))
  | [], k, pc, g, H, locs, hr, hn, hP, hD, hS, kk => by
    cases hr
    exact kk H locs hP hD hS
  | v :: vs, k, pc, g, H, locs, hr, hn, hP, hD, hS, kk => by
    rw [rdSt] at hr
    split at hr
    · rename_i hd
      split at hr
      · rename_i i p1 h1
        split at hr
        · rename_i x p2 h2
          split at hr
          · rename_i h3
            obtain ⟨rfl, rfl, h4⟩ := h3
            refine lv_dup hx hb (isDup_t hd) rfl ?_
            refine W_push hx hb h1 ?_
            refine W_push hx hb h2 ?_
            have hg : (ws.set q0 (a, (.inl (ta 0, N, .inl (fun j => nI (g j))) : va_E)))[q0]? = some (a, .inl (ta 0, N, .inl (fun j => nI (g j)))) := by
              rw [List.getElem?_set]
              simp [hq]
            refine q_iastK hx hb hK hP hD hS q0 0 hg rfl (k := k) rfl (by simp at hn; omega) hN (b := v) rfl (isIast_t h4) (fun H1 locs1 hP1 hD1 hS1 => ?_)
            rw [List.set_set] at hP1 hD1
            refine W_st hx hb hK q0 hN hq vs (k + 1) (p2 + 1) (qU g k v) H1 locs1 hr (by simp at hn; omega) hP1 hD1 hS1 (fun H2 locs2 hP2 hD2 hS2 => ?_)
            exact kk H2 locs2 hP2 hD2 hS2
          · cases hr
        · cases hr
      · cases hr
    · cases hr
end Stores
theorem rd_IP : rdSt cX10_init IPn 0 9 = some 382 := by decide +kernel
theorem rd_SPR : rdSt cX10_init SPRn 0 390 = some 664 := by decide +kernel
theorem rd_MIX : rdSt cX10_init MIXn 0 672 = some 853 := by decide +kernel
theorem rd_CH : rdSt cX10_init CHn 0 861 = some 1186 := by decide +kernel
theorem rd_SEC : rdSt cX10_init SECn 0 1194 = some 1471 := by decide +kernel
theorem rd_SBX : rdSt cX10_init SBXn 0 1480 = some 4738 := by decide +kernel
