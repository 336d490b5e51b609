/-! a new array filled with a table, element by element -/
def rdPush (cc : ByteArray) (pc : Nat) : Option (Int32 × Nat) := match decode cc pc with
  | .ok (.iconst n, 1) => some (Int32.ofInt n, pc + 1)
  | .ok (.bipush n, 2) => some ((Int8.ofInt n).toInt32, pc + 2)
  | .ok (.sipush n, 3) => some ((Int16.ofInt n).toInt32, pc + 3)
  | _ => none
def isDup (cc : ByteArray) (pc : Nat) : Bool := match decode cc pc with
  | .ok (.dup, 1) => true
  | _ => false
def isIast (cc : ByteArray) (pc : Nat) : Bool := match decode cc pc with
  | .ok (.iastore, 1) => true
  | _ => false
def rdSt (cc : ByteArray) : List Nat → Nat → Nat → Option Nat
  | [], _, pc => some pc
  | v :: vs, k, pc => if isDup cc pc then (match rdPush cc (pc + 1) with
    | some (i, p1) => (match rdPush cc p1 with
      | some (x, p2) => if i = nI k ∧ x = nI v ∧ isIast cc p2 = true then rdSt cc vs (k + 1) (p2 + 1) else none
      | none => none)
    | none => none) else none
def stF (g : Nat → Nat) : Nat → List Nat → Nat → Nat
  | _, [] => g
  | k, v :: vs => stF (qU g k v) (k + 1) vs
theorem stF_get : ∀ {vs : List Nat} {g : Nat → Nat} {k j : Nat}, stF g k vs j = if k ≤ j ∧ j < k + vs.length then vs.getD (j - k) 0 else g j
  | [], g, k, j => by
    rw [stF, if_neg (by simp only [List.length_nil]; omega)]
  | v :: vs, g, k, j => by
    rw [stF, stF_get]
    by_cases h : k + 1 ≤ j ∧ j < k + 1 + vs.length
    · rw [if_pos h, if_pos (by simp; omega), show j - k = (j - (k + 1)) + 1 by omega]
      rfl
    · rw [if_neg h]
      by_cases q : j = k
      · subst q
        rw [qU_same, if_pos (by simp), Nat.sub_self]
        rfl
      · rw [qU_ne q, if_neg (by simp; omega)]
theorem stF_0 {vs : List Nat} {j : Nat} : stF (fun _ => 0) 0 vs j = vs.getD j 0 := by
  rw [stF_get]
  by_cases h : j < vs.length
  · rw [if_pos ⟨Nat.zero_le _, by omega⟩, Nat.sub_zero]
  · rw [if_neg (by omega), List.getD_eq_getElem?_getD, List.getElem?_eq_none (by omega)]
    rfl
theorem isDup_t {cc : ByteArray} {pc : Nat} (h : isDup cc pc = true) : decode cc pc = .ok (.dup, 1) := by
  unfold isDup at h
  split at h
  · assumption
  · cases h
theorem isIast_t {cc : ByteArray} {pc : Nat} (h : isIast cc pc = true) : decode cc pc = .ok (.iastore, 1) := by
  unfold isIast at h
  split at h
  · assumption
  · cases h
section Stores
variable {p : Program} {l : Launch} {e : Env} {R : Room} {s : State} {m : MethodId} {args : Array Value} {below : List Frame} {meth : Method} {c : Code} {H H0 : Heap} {locs : List Loc} {cells slots : Nat} {Q : State → Prop} {pc : Nat} {ls : Array Slot} {rest : List Value} {A : Nat → Prop} {D : va_G} {ws : va_W} {cc : ByteArray} {ta : Nat → ClassId} {st0 : List Value}
theorem W_push (hx : p.tables.exec = Jvm.exec) (hb : c.code = cc) {v : Int32} {pc' : Nat} (h : rdPush cc pc = some (v, pc')) (k : W p l e R s m args below meth c H locs cells slots Q (F0 m pc' ls (.int v :: rest))) : W p l e R s m args below meth c H locs cells slots Q (F0 m pc ls rest) := by
  unfold rdPush at h
  split at h
  · rename_i n hd
    cases h
    exact lv_iconst hx hb hd rfl k
  · rename_i n hd
    cases h
    exact lv_bipush hx hb hd rfl k
  · rename_i n hd
    cases h
    exact lv_sipush hx hb hd rfl k
  · cases h
theorem W_st (hx : p.tables.exec = Jvm.exec) (hb : c.code = cc) (hK : va_K D vwCl (TY ta) s) (q0 : Nat) {a N : Nat} (hN : N < 2 ^ 31) {pc' : Nat} (hq : q0 < ws.length) : ∀ (vs : List Nat) (k pc : Nat) (g : Nat → Nat) (H : Heap) (locs : List Loc), rdSt cc vs k pc = some pc' → k + vs.length ≤ N → va_P D vwCl (ws.set q0 (a, .inl (ta 0, N, .inl (fun j => nI (g j))))) H → va_D A (ws.set q0 (a, .inl (ta 0, N, .inl (fun j => nI (g j))))) → va_S A H0 H locs →
    (∀ (H : Heap) (locs : List Loc), va_P D vwCl (ws.set q0 (a, .inl (ta 0, N, .inl (fun j => nI (stF g k vs j))))) H → va_D A (ws.set q0 (a, .inl (ta 0, N, .inl (fun j => nI (stF g k vs j))))) → va_S A H0 H locs → W p l e R s m args below meth c H locs cells slots Q (F0 m pc' ls (.ref a :: rest))) →
    W p l e R s m args below meth c H locs cells slots Q (F0 m pc ls (.ref a :: rest))
  | [], k, pc, g, H, locs, hr, hn, hP, hD, hS, kk => by
    cases hr
    exact kk H locs hP hD hS
  | v :: vs, k, pc, g, H, locs, hr, hn, hP, hD, hS, kk => by
    rw [rdSt] at hr
    split at hr
    · rename_i hd
      split at hr
      · rename_i i p1 h1
        split at hr
        · rename_i x p2 h2
          split at hr
          · rename_i h3
            obtain ⟨rfl, rfl, h4⟩ := h3
            refine lv_dup hx hb (isDup_t hd) rfl ?_
            refine W_push hx hb h1 ?_
            refine W_push hx hb h2 ?_
            have hg : (ws.set q0 (a, (.inl (ta 0, N, .inl (fun j => nI (g j))) : va_E)))[q0]? = some (a, .inl (ta 0, N, .inl (fun j => nI (g j)))) := by
              rw [List.getElem?_set]
              simp [hq]
            refine q_iastK hx hb hK hP hD hS q0 0 hg rfl (k := k) rfl (by simp at hn; omega) hN (b := v) rfl (isIast_t h4) (fun H1 locs1 hP1 hD1 hS1 => ?_)
            rw [List.set_set] at hP1 hD1
            refine W_st hx hb hK q0 hN hq vs (k + 1) (p2 + 1) (qU g k v) H1 locs1 hr (by simp at hn; omega) hP1 hD1 hS1 (fun H2 locs2 hP2 hD2 hS2 => ?_)
            exact kk H2 locs2 hP2 hD2 hS2
          · cases hr
        · cases hr
      · cases hr
    · cases hr
end Stores
theorem u1_at {cc : ByteArray} {pc : Nat} {b : UInt8} (h : cc.data.toList[pc]? = some b) : (ClassFile.Reader.u1 : ClassFile.Reader ClassFile.DecodeError Nat) cc pc = .ok (b.toNat, pc + 1) := by
  obtain ⟨h1, h2⟩ := List.getElem?_eq_some_iff.mp h
  have h3 : pc < cc.size := by
    rw [ByteArray.size, ← Array.length_toList]
    exact h1
  have h4 : cc[pc] = b := by
    rw [← h2]
    rfl
  unfold ClassFile.Reader.u1
  show (if h : pc < cc.size then _ else _ : ClassFile.Reader ClassFile.DecodeError Nat) cc pc = _
  rw [dif_pos h3]
  show Except.ok (cc[pc].toNat, pc + 1) = _
  rw [h4]
theorem dec_at {cc : ByteArray} {pc : Nat} {i : Instr} {n : Nat} (h : (ClassFile.Decoder.instr pc) cc pc = .ok (i, n)) : decode cc pc = .ok (i, n - pc) := by
  unfold decode
  show ((ClassFile.Decoder.instr pc) cc pc >>= fun x => pure (x.1, x.2 - pc)) = _
  rw [h]
  rfl
theorem dec_dup {cc : ByteArray} {pc : Nat} (h : cc.data.toList[pc]? = some 89) : decode cc pc = .ok (.dup, 1) := by
  rw [dec_at (i := .dup) (n := pc + 1)]
  · rw [Nat.add_sub_cancel_left]
  · unfold ClassFile.Decoder.instr
    show ((ClassFile.Reader.u1 : ClassFile.Reader ClassFile.DecodeError Nat) cc pc >>= fun x => _) = _
    rw [u1_at h]
    rfl
theorem dec_iast {cc : ByteArray} {pc : Nat} (h : cc.data.toList[pc]? = some 79) : decode cc pc = .ok (.iastore, 1) := by
  rw [dec_at (i := .iastore) (n := pc + 1)]
  · rw [Nat.add_sub_cancel_left]
  · unfold ClassFile.Decoder.instr
    show ((ClassFile.Reader.u1 : ClassFile.Reader ClassFile.DecodeError Nat) cc pc >>= fun x => _) = _
    rw [u1_at h]
    rfl
theorem dec_ic {cc : ByteArray} {pc : Nat} {b : UInt8} {n : Nat} (h : cc.data.toList[pc]? = some b) (hn : n < 6) (hb : b.toNat = n + 3) : decode cc pc = .ok (.iconst n, 1) := by
  rw [dec_at (i := .iconst n) (n := pc + 1)]
  · rw [Nat.add_sub_cancel_left]
  · unfold ClassFile.Decoder.instr
    show ((ClassFile.Reader.u1 : ClassFile.Reader ClassFile.DecodeError Nat) cc pc >>= fun x => _) = _
    rw [u1_at h, hb]
    have h6 : n = 0 ∨ n = 1 ∨ n = 2 ∨ n = 3 ∨ n = 4 ∨ n = 5 := by omega
    rcases h6 with rfl | rfl | rfl | rfl | rfl | rfl <;> rfl
theorem dec_bip {cc : ByteArray} {pc : Nat} {c : UInt8} (h : cc.data.toList[pc]? = some 16) (h2 : cc.data.toList[pc + 1]? = some c) : decode cc pc = .ok (.bipush (ClassFile.Reader.signed 8 c.toNat), 2) := by
  rw [dec_at (i := .bipush (ClassFile.Reader.signed 8 c.toNat)) (n := pc + 1 + 1)]
  · rw [Nat.add_assoc, Nat.add_sub_cancel_left]
  · unfold ClassFile.Decoder.instr
    show ((ClassFile.Reader.u1 : ClassFile.Reader ClassFile.DecodeError Nat) cc pc >>= fun x => _) = _
    rw [u1_at h]
    exact Eq.trans (b := (((ClassFile.Reader.u1 : ClassFile.Reader ClassFile.DecodeError Nat) cc (pc + 1) >>= fun x => Except.ok (ClassFile.Reader.signed 8 x.1, x.2)) >>= fun y => Except.ok (Instr.bipush y.1, y.2))) rfl (by rw [u1_at h2]; rfl)
theorem dec_sip {cc : ByteArray} {pc : Nat} {c d : UInt8} (h : cc.data.toList[pc]? = some 17) (h2 : cc.data.toList[pc + 1]? = some c) (h3 : cc.data.toList[pc + 1 + 1]? = some d) : decode cc pc = .ok (.sipush (ClassFile.Reader.signed 16 (c.toNat * 256 + d.toNat)), 3) := by
  rw [dec_at (i := .sipush (ClassFile.Reader.signed 16 (c.toNat * 256 + d.toNat))) (n := pc + 1 + 1 + 1)]
  · rw [Nat.add_assoc, Nat.add_assoc, Nat.add_sub_cancel_left]
  · unfold ClassFile.Decoder.instr
    show ((ClassFile.Reader.u1 : ClassFile.Reader ClassFile.DecodeError Nat) cc pc >>= fun x => _) = _
    rw [u1_at h]
    exact Eq.trans (b := ((((ClassFile.Reader.u1 : ClassFile.Reader ClassFile.DecodeError Nat) cc (pc + 1) >>= fun x => ((ClassFile.Reader.u1 : ClassFile.Reader ClassFile.DecodeError Nat) cc x.2 >>= fun y => Except.ok (x.1 * 256 + y.1, y.2))) >>= fun z => Except.ok (ClassFile.Reader.signed 16 z.1, z.2)) >>= fun w => Except.ok (Instr.sipush w.1, w.2))) rfl (by
      rw [u1_at h2]
      exact Eq.trans (b := ((((ClassFile.Reader.u1 : ClassFile.Reader ClassFile.DecodeError Nat) cc (pc + 1 + 1) >>= fun y => Except.ok (c.toNat * 256 + y.1, y.2)) >>= fun z => Except.ok (ClassFile.Reader.signed 16 z.1, z.2)) >>= fun w => Except.ok (Instr.sipush w.1, w.2))) rfl (by rw [u1_at h3]; rfl))
def pushL : List UInt8 → Option (Int32 × Nat × List UInt8)
  | b :: r => if b.toNat = 16 then (match r with
      | c :: r' => some ((Int8.ofInt (ClassFile.Reader.signed 8 c.toNat)).toInt32, 2, r')
      | [] => none)
    else if b.toNat = 17 then (match r with
      | c :: d :: r' => some ((Int16.ofInt (ClassFile.Reader.signed 16 (c.toNat * 256 + d.toNat))).toInt32, 3, r')
      | _ => none)
    else if 3 ≤ b.toNat ∧ b.toNat < 9 then some (Int32.ofInt (Int.ofNat (b.toNat - 3)), 1, r) else none
  | [] => none
theorem drop_at {l : List UInt8} {n : Nat} {b : UInt8} {r : List UInt8} (h : l.drop n = b :: r) : l[n]? = some b ∧ l.drop (n + 1) = r := by
  constructor
  · have := congrArg (fun x => x[0]?) h
    simpa [List.getElem?_drop] using this
  · rw [← List.drop_drop, h]
    rfl
theorem pushL_ok {cc : ByteArray} {pc : Nat} {x : Int32} {n : Nat} {r l : List UInt8} (hl : cc.data.toList.drop pc = l) (h : pushL l = some (x, n, r)) : rdPush cc pc = some (x, pc + n) ∧ cc.data.toList.drop (pc + n) = r := by
  unfold pushL at h
  split at h
  · rename_i b r0
    obtain ⟨h1, h2⟩ := drop_at hl
    split at h
    · rename_i h16
      have hb : b = 16 := by rw [← UInt8.toNat_inj]; exact h16
      subst hb
      split at h
      · rename_i c r'
        obtain ⟨h3, h4⟩ := drop_at h2
        cases h
        exact ⟨by unfold rdPush; rw [dec_bip h1 h3]; rfl, h4⟩
      · cases h
    · split at h
      · rename_i h17
        have hb : b = 17 := by rw [← UInt8.toNat_inj]; exact h17
        subst hb
        split at h
        · rename_i c d r'
          obtain ⟨h3, h4⟩ := drop_at h2
          obtain ⟨h5, h6⟩ := drop_at h4
          cases h
          exact ⟨by unfold rdPush; rw [dec_sip h1 h3 h5]; rfl, h6⟩
        · cases h
      · split at h
        · rename_i h6
          cases h
          exact ⟨by unfold rdPush; rw [dec_ic (n := b.toNat - 3) h1 (by omega) (by omega)]; rfl, h2⟩
        · cases h
  · cases h
def rdBy : List Nat → List UInt8 → Nat → Nat → Option Nat
  | [], _, _, pc => some pc
  | _ :: _, [], _, _ => none
  | v :: vs, b :: l, k, pc => if b.toNat = 89 then (match pushL l with
    | some (i, n1, l1) => (match pushL l1 with
      | some (x, n2, c :: l2) => if i = nI k ∧ x = nI v ∧ c.toNat = 79 then rdBy vs l2 (k + 1) (pc + 1 + n1 + n2 + 1) else none
      | _ => none)
    | none => none) else none
theorem rdBy_ok {cc : ByteArray} : ∀ {vs : List Nat} {l : List UInt8} {k pc pc' : Nat}, cc.data.toList.drop pc = l → rdBy vs l k pc = some pc' → rdSt cc vs k pc = some pc'
  | [], l, k, pc, pc', hl, h => by
    unfold rdBy at h
    exact h
  | v :: vs, [], k, pc, pc', hl, h => by
    unfold rdBy at h
    cases h
  | v :: vs, b :: l, k, pc, pc', hl, h => by
    rw [rdBy] at h
    split at h
    · rename_i hb
      have hb' : b = 89 := by rw [← UInt8.toNat_inj]; exact hb
      subst hb'
      obtain ⟨h1, h2⟩ := drop_at hl
      split at h
      · rename_i i n1 l1 e1
        obtain ⟨a1, a2⟩ := pushL_ok h2 e1
        split at h
        · rename_i x n2 c l2 e2
          obtain ⟨a3, a4⟩ := pushL_ok a2 e2
          split at h
          · rename_i h3
            obtain ⟨h3, h4, h5⟩ := h3
            have hc : c = 79 := by rw [← UInt8.toNat_inj]; exact h5
            subst hc
            obtain ⟨a5, a6⟩ := drop_at a4
            rw [rdSt, if_pos (by unfold isDup; rw [dec_dup h1]; rfl), a1]
            dsimp only
            rw [a3]
            dsimp only
            rw [if_pos ⟨h3, h4, by unfold isIast; rw [dec_iast a5]; rfl⟩]
            exact rdBy_ok a6 h
          · cases h
        · cases h
      · cases h
    · cases h
theorem rd_IP : rdSt cX10_init IPn 0 9 = some 382 := rdBy_ok rfl (by decide +kernel : rdBy IPn (cX10_init.data.toList.drop 9) 0 9 = some 382)
theorem rd_SPR : rdSt cX10_init SPRn 0 390 = some 664 := rdBy_ok rfl (by decide +kernel : rdBy SPRn (cX10_init.data.toList.drop 390) 0 390 = some 664)
theorem rd_MIX : rdSt cX10_init MIXn 0 672 = some 853 := rdBy_ok rfl (by decide +kernel : rdBy MIXn (cX10_init.data.toList.drop 672) 0 672 = some 853)
theorem rd_CH : rdSt cX10_init CHn 0 861 = some 1186 := rdBy_ok rfl (by decide +kernel : rdBy CHn (cX10_init.data.toList.drop 861) 0 861 = some 1186)
theorem rd_SEC : rdSt cX10_init SECn 0 1194 = some 1471 := rdBy_ok rfl (by decide +kernel : rdBy SECn (cX10_init.data.toList.drop 1194) 0 1194 = some 1471)
theorem rd_SBX : rdSt cX10_init SBXn 0 1480 = some 4738 := rdBy_ok rfl (by decide +kernel : rdBy SBXn (cX10_init.data.toList.drop 1480) 0 1480 = some 4738)
theorem dec_al0 {cc : ByteArray} {pc : Nat} (h : cc.data.toList[pc]? = some 42) : decode cc pc = .ok (.aload_n 0, 1) := by
  rw [dec_at (i := .aload_n 0) (n := pc + 1)]
  · rw [Nat.add_sub_cancel_left]
  · unfold ClassFile.Decoder.instr
    show ((ClassFile.Reader.u1 : ClassFile.Reader ClassFile.DecodeError Nat) cc pc >>= fun x => _) = _
    rw [u1_at h]
    rfl
theorem dec_ret {cc : ByteArray} {pc : Nat} (h : cc.data.toList[pc]? = some 177) : decode cc pc = .ok (.return_, 1) := by
  rw [dec_at (i := .return_) (n := pc + 1)]
  · rw [Nat.add_sub_cancel_left]
  · unfold ClassFile.Decoder.instr
    show ((ClassFile.Reader.u1 : ClassFile.Reader ClassFile.DecodeError Nat) cc pc >>= fun x => _) = _
    rw [u1_at h]
    rfl
theorem dec_bipV {cc : ByteArray} {pc : Nat} {c : UInt8} {v : Int} (h : cc.data.toList[pc]? = some 16) (h2 : cc.data.toList[pc + 1]? = some c) (hv : ClassFile.Reader.signed 8 c.toNat = v) : decode cc pc = .ok (.bipush v, 2) := by
  rw [dec_bip h h2, hv]
theorem dec_sipV {cc : ByteArray} {pc : Nat} {c d : UInt8} {v : Int} (h : cc.data.toList[pc]? = some 17) (h2 : cc.data.toList[pc + 1]? = some c) (h3 : cc.data.toList[pc + 1 + 1]? = some d) (hv : ClassFile.Reader.signed 16 (c.toNat * 256 + d.toNat) = v) : decode cc pc = .ok (.sipush v, 3) := by
  rw [dec_sip h h2 h3, hv]
theorem dec_ldc {cc : ByteArray} {pc n : Nat} {c : UInt8} (h : cc.data.toList[pc]? = some 18) (h2 : cc.data.toList[pc + 1]? = some c) (hv : c.toNat = n) : decode cc pc = .ok (.ldc n, 2) := by
  subst hv
  rw [dec_at (i := .ldc c.toNat) (n := pc + 1 + 1)]
  · rw [Nat.add_assoc, Nat.add_sub_cancel_left]
  · unfold ClassFile.Decoder.instr
    show ((ClassFile.Reader.u1 : ClassFile.Reader ClassFile.DecodeError Nat) cc pc >>= fun x => _) = _
    rw [u1_at h]
    exact Eq.trans (b := ((ClassFile.Reader.u1 : ClassFile.Reader ClassFile.DecodeError Nat) cc (pc + 1) >>= fun x => Except.ok (Instr.ldc x.1, x.2))) rfl (by rw [u1_at h2]; rfl)
theorem dec_na {cc : ByteArray} {pc : Nat} {c : UInt8} {i : Instr} (h : cc.data.toList[pc]? = some 188) (h2 : cc.data.toList[pc + 1]? = some c) (hv : ∀ cc : ByteArray, ∀ pc q : Nat, (ClassFile.Reader.u1 : ClassFile.Reader ClassFile.DecodeError Nat) cc q = .ok (c.toNat, q + 1) → (ClassFile.Decoder.newarray pc) cc q = .ok (i, q + 1)) : decode cc pc = .ok (i, 2) := by
  rw [dec_at (i := i) (n := pc + 1 + 1)]
  · rw [Nat.add_assoc, Nat.add_sub_cancel_left]
  · unfold ClassFile.Decoder.instr
    show ((ClassFile.Reader.u1 : ClassFile.Reader ClassFile.DecodeError Nat) cc pc >>= fun x => _) = _
    rw [u1_at h]
    exact Eq.trans (b := (ClassFile.Decoder.newarray pc) cc (pc + 1)) rfl (hv cc pc (pc + 1) (u1_at h2))
theorem dec_na4 {cc : ByteArray} {pc : Nat} (h : cc.data.toList[pc]? = some 188) (h2 : cc.data.toList[pc + 1]? = some 4) : decode cc pc = .ok (.newarray .boolean, 2) := dec_na h h2 (fun cc pc q e => by
  unfold ClassFile.Decoder.newarray
  show ((ClassFile.Reader.u1 : ClassFile.Reader ClassFile.DecodeError Nat) cc q >>= fun x => _) = _
  rw [e]
  rfl)
theorem dec_na8 {cc : ByteArray} {pc : Nat} (h : cc.data.toList[pc]? = some 188) (h2 : cc.data.toList[pc + 1]? = some 8) : decode cc pc = .ok (.newarray .byte, 2) := dec_na h h2 (fun cc pc q e => by
  unfold ClassFile.Decoder.newarray
  show ((ClassFile.Reader.u1 : ClassFile.Reader ClassFile.DecodeError Nat) cc q >>= fun x => _) = _
  rw [e]
  rfl)
theorem dec_na10 {cc : ByteArray} {pc : Nat} (h : cc.data.toList[pc]? = some 188) (h2 : cc.data.toList[pc + 1]? = some 10) : decode cc pc = .ok (.newarray .int, 2) := dec_na h h2 (fun cc pc q e => by
  unfold ClassFile.Decoder.newarray
  show ((ClassFile.Reader.u1 : ClassFile.Reader ClassFile.DecodeError Nat) cc q >>= fun x => _) = _
  rw [e]
  rfl)
theorem dec_na11 {cc : ByteArray} {pc : Nat} (h : cc.data.toList[pc]? = some 188) (h2 : cc.data.toList[pc + 1]? = some 11) : decode cc pc = .ok (.newarray .long, 2) := dec_na h h2 (fun cc pc q e => by
  unfold ClassFile.Decoder.newarray
  show ((ClassFile.Reader.u1 : ClassFile.Reader ClassFile.DecodeError Nat) cc q >>= fun x => _) = _
  rw [e]
  rfl)
theorem dec_pf {cc : ByteArray} {pc n : Nat} {c d : UInt8} (h : cc.data.toList[pc]? = some 181) (h2 : cc.data.toList[pc + 1]? = some c) (h3 : cc.data.toList[pc + 1 + 1]? = some d) (hv : c.toNat * 256 + d.toNat = n) : decode cc pc = .ok (.putfield n, 3) := by
  subst hv
  rw [dec_at (i := .putfield (c.toNat * 256 + d.toNat)) (n := pc + 1 + 1 + 1)]
  · rw [Nat.add_assoc, Nat.add_assoc, Nat.add_sub_cancel_left]
  · unfold ClassFile.Decoder.instr
    show ((ClassFile.Reader.u1 : ClassFile.Reader ClassFile.DecodeError Nat) cc pc >>= fun x => _) = _
    rw [u1_at h]
    exact Eq.trans (b := (((ClassFile.Reader.u1 : ClassFile.Reader ClassFile.DecodeError Nat) cc (pc + 1) >>= fun x => ((ClassFile.Reader.u1 : ClassFile.Reader ClassFile.DecodeError Nat) cc x.2 >>= fun y => Except.ok (x.1 * 256 + y.1, y.2))) >>= fun w => Except.ok (Instr.putfield w.1, w.2))) rfl (by
      rw [u1_at h2]
      exact Eq.trans (b := (((ClassFile.Reader.u1 : ClassFile.Reader ClassFile.DecodeError Nat) cc (pc + 1 + 1) >>= fun y => Except.ok (c.toNat * 256 + y.1, y.2)) >>= fun w => Except.ok (Instr.putfield w.1, w.2))) rfl (by rw [u1_at h3]; rfl))
theorem dec_iv {cc : ByteArray} {pc n : Nat} {c d : UInt8} (h : cc.data.toList[pc]? = some 182) (h2 : cc.data.toList[pc + 1]? = some c) (h3 : cc.data.toList[pc + 1 + 1]? = some d) (hv : c.toNat * 256 + d.toNat = n) : decode cc pc = .ok (.invokevirtual n, 3) := by
  subst hv
  rw [dec_at (i := .invokevirtual (c.toNat * 256 + d.toNat)) (n := pc + 1 + 1 + 1)]
  · rw [Nat.add_assoc, Nat.add_assoc, Nat.add_sub_cancel_left]
  · unfold ClassFile.Decoder.instr
    show ((ClassFile.Reader.u1 : ClassFile.Reader ClassFile.DecodeError Nat) cc pc >>= fun x => _) = _
    rw [u1_at h]
    exact Eq.trans (b := (((ClassFile.Reader.u1 : ClassFile.Reader ClassFile.DecodeError Nat) cc (pc + 1) >>= fun x => ((ClassFile.Reader.u1 : ClassFile.Reader ClassFile.DecodeError Nat) cc x.2 >>= fun y => Except.ok (x.1 * 256 + y.1, y.2))) >>= fun w => Except.ok (Instr.invokevirtual w.1, w.2))) rfl (by
      rw [u1_at h2]
      exact Eq.trans (b := (((ClassFile.Reader.u1 : ClassFile.Reader ClassFile.DecodeError Nat) cc (pc + 1 + 1) >>= fun y => Except.ok (c.toNat * 256 + y.1, y.2)) >>= fun w => Except.ok (Instr.invokevirtual w.1, w.2))) rfl (by rw [u1_at h3]; rfl))
theorem dec_is {cc : ByteArray} {pc n : Nat} {c d : UInt8} (h : cc.data.toList[pc]? = some 183) (h2 : cc.data.toList[pc + 1]? = some c) (h3 : cc.data.toList[pc + 1 + 1]? = some d) (hv : c.toNat * 256 + d.toNat = n) : decode cc pc = .ok (.invokespecial n, 3) := by
  subst hv
  rw [dec_at (i := .invokespecial (c.toNat * 256 + d.toNat)) (n := pc + 1 + 1 + 1)]
  · rw [Nat.add_assoc, Nat.add_assoc, Nat.add_sub_cancel_left]
  · unfold ClassFile.Decoder.instr
    show ((ClassFile.Reader.u1 : ClassFile.Reader ClassFile.DecodeError Nat) cc pc >>= fun x => _) = _
    rw [u1_at h]
    exact Eq.trans (b := (((ClassFile.Reader.u1 : ClassFile.Reader ClassFile.DecodeError Nat) cc (pc + 1) >>= fun x => ((ClassFile.Reader.u1 : ClassFile.Reader ClassFile.DecodeError Nat) cc x.2 >>= fun y => Except.ok (x.1 * 256 + y.1, y.2))) >>= fun w => Except.ok (Instr.invokespecial w.1, w.2))) rfl (by
      rw [u1_at h2]
      exact Eq.trans (b := (((ClassFile.Reader.u1 : ClassFile.Reader ClassFile.DecodeError Nat) cc (pc + 1 + 1) >>= fun y => Except.ok (c.toNat * 256 + y.1, y.2)) >>= fun w => Except.ok (Instr.invokespecial w.1, w.2))) rfl (by rw [u1_at h3]; rfl))
