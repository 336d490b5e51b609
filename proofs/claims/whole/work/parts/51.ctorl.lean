/-! new objects and arrays -/
/-- an array's content may be told otherwise where it stays the same below its length -/
theorem ent_I {cA : ClassId} {n : Nat} {f g : Nat → Int32} (h : ∀ j, j < n → f j = g j) : vp_cell cA (n, .inl f) = vp_cell cA (n, .inl g) := by
  simp only [vp_cell, arrV]
  congr 2
  funext j
  rw [h j.val j.isLt]
theorem ent_J {cA : ClassId} {n : Nat} {f g : Nat → Int64} (h : ∀ j, j < n → f j = g j) : vp_cell cA (n, .inr (.inl f)) = vp_cell cA (n, .inr (.inl g)) := by
  simp only [vp_cell, arrV]
  congr 2
  funext j
  rw [h j.val j.isLt]
theorem va_P.set_inl {D : va_G} {cl : List vw_C} {ws : va_W} {H : Heap} (hP : va_P D cl ws H) (q0 : Nat) {a : Nat} {cA : ClassId} {x y : vp_A} (ha : ws[q0]? = some (a, .inl (cA, x))) (h : vp_cell cA x = vp_cell cA y) : va_P D cl (ws.set q0 (a, .inl (cA, y))) H := by
  intro k q hk
  rw [List.getElem?_set] at hk
  by_cases e : q0 = k
  · subst e
    rw [if_pos rfl] at hk
    split at hk
    · cases hk
      have := hP q0 _ ha
      exact this.trans (congrArg some h)
    · cases hk
  · rw [if_neg e] at hk
    exact hP k q hk
theorem va_D.set_inl {A : Nat → Prop} {ws : va_W} (hD : va_D A ws) (q0 : Nat) {a : Nat} {x y : va_E} (ha : ws[q0]? = some (a, x)) : va_D A (ws.set q0 (a, y)) := by
  have key : ∀ (k : Nat) (q : Nat × va_E), (ws.set q0 (a, y))[k]? = some q → ∃ q' : Nat × va_E, ws[k]? = some q' ∧ q'.1 = q.1 := by
    intro k q hk
    rw [List.getElem?_set] at hk
    by_cases e : q0 = k
    · subst e
      rw [if_pos rfl] at hk
      split at hk
      · cases hk
        exact ⟨_, ha, rfl⟩
      · cases hk
    · rw [if_neg e] at hk
      exact ⟨q, hk, rfl⟩
  refine ⟨fun i j p q h1 h2 e => ?_, fun k q h => ?_⟩
  · obtain ⟨p', h1', e1⟩ := key i p h1
    obtain ⟨q', h2', e2⟩ := key j q h2
    exact hD.1 i j p' q' h1' h2' (by rw [e1, e2, e])
  · obtain ⟨q', h', e⟩ := key k q h
    rw [← e]
    exact hD.2 k q' h'
section Ctor
variable {p : Program} {l : Launch} {e : Env} {R : Room} {s : State} {m : MethodId} {args : Array Value} {below : List Frame} {meth : Method} {c : Code} {H H0 : Heap} {locs : List Loc} {cells slots : Nat} {Q : State → Prop} {pc : Nat} {ls : Array Slot} {rest : List Value} {A : Nat → Prop} {D : va_G} {ws : va_W} {cc : ByteArray} {ta : Nat → ClassId} {st0 : List Value}
theorem ty_I {cA : ClassId} (hK : va_K D vwCl (TY ta ++ [(cA, .int)]) s) : cA = ta 0 := by
  have h1 : s.vm.findClass ("[" ++ FieldType.int.toString) = some cA := (hK.2 4 (cA, .int) rfl).2
  have h2 : s.vm.findClass ("[" ++ FieldType.int.toString) = some (ta 0) := (hK.2 0 (ta 0, .int) rfl).2
  exact Option.some.inj (h1.symm.trans h2)
theorem ty_J {cA : ClassId} (hK : va_K D vwCl (TY ta ++ [(cA, .long)]) s) : cA = ta 1 := by
  have h1 : s.vm.findClass ("[" ++ FieldType.long.toString) = some cA := (hK.2 4 (cA, .long) rfl).2
  have h2 : s.vm.findClass ("[" ++ FieldType.long.toString) = some (ta 1) := (hK.2 1 (ta 1, .long) rfl).2
  exact Option.some.inj (h1.symm.trans h2)
theorem ty_S {cA : ClassId} (hK : va_K D vwCl (TY ta ++ [(cA, .byte)]) s) : cA = ta 2 := by
  have h1 : s.vm.findClass ("[" ++ FieldType.byte.toString) = some cA := (hK.2 4 (cA, .byte) rfl).2
  have h2 : s.vm.findClass ("[" ++ FieldType.byte.toString) = some (ta 2) := (hK.2 2 (ta 2, .byte) rfl).2
  exact Option.some.inj (h1.symm.trans h2)
theorem ty_T {cA : ClassId} (hK : va_K D vwCl (TY ta ++ [(cA, .boolean)]) s) : cA = ta 3 := by
  have h1 : s.vm.findClass ("[" ++ FieldType.boolean.toString) = some cA := (hK.2 4 (cA, .boolean) rfl).2
  have h2 : s.vm.findClass ("[" ++ FieldType.boolean.toString) = some (ta 3) := (hK.2 3 (ta 3, .boolean) rfl).2
  exact Option.some.inj (h1.symm.trans h2)
theorem nw_I {f : Nat → Int32} (hf : ∀ j, f j = 0) {N : Nat} (hN : N < 134217728) (hx : p.tables.exec = Jvm.exec) (hb : c.code = cc) (harr : (Cond.arrayClass .int).before args s = true) (hK : va_K D vwCl (TY ta) s) (hP : va_P D vwCl ws H) (hD : va_D A ws) (hS : va_S A H0 H locs) (hA : ∀ q, H0.size ≤ q → A q) (hcells : cells + 1 ≤ R.cells) (hslots : slots + N ≤ R.slots) (hdg : decode cc pc = .ok (.newarray .int, 2)) (hst : st0 = .int (nI N) :: rest)
    (kk : ∀ (q : Nat) (H1 : Heap), va_P D vwCl (ws ++ [(q, .inl (ta 0, N, .inl f))]) H1 → va_D A (ws ++ [(q, .inl (ta 0, N, .inl f))]) → va_S A H0 H1 locs → W p l e R s m args below meth c H1 locs (cells + 1) (slots + N) Q (F0 m (pc + 2) ls (.ref q :: rest))) : W p l e R s m args below meth c H locs cells slots Q (F0 m pc ls st0) := by
  subst hst
  refine va_newa (atype := .int) (ty := .int) (a0 := (N, .inl f)) hx hb harr rfl hK hP hD hS hA (fun cA => ?_) (nI_pos (by omega)) (nI_clamp (by omega)) (by simp [componentBytes]; omega) hcells hslots hdg (fun q cA H1 hK1 hP1 hD1 hS1 => ?_)
  · rw [show f = fun _ => 0 from funext hf]
    rfl
  · have e := ty_I hK1
    subst e
    exact kk q H1 hP1 hD1 hS1
theorem nw_J {f : Nat → Int64} (hf : ∀ j, f j = 0) {N : Nat} (hN : N < 67108864) (hx : p.tables.exec = Jvm.exec) (hb : c.code = cc) (harr : (Cond.arrayClass .long).before args s = true) (hK : va_K D vwCl (TY ta) s) (hP : va_P D vwCl ws H) (hD : va_D A ws) (hS : va_S A H0 H locs) (hA : ∀ q, H0.size ≤ q → A q) (hcells : cells + 1 ≤ R.cells) (hslots : slots + N ≤ R.slots) (hdg : decode cc pc = .ok (.newarray .long, 2)) (hst : st0 = .int (nI N) :: rest)
    (kk : ∀ (q : Nat) (H1 : Heap), va_P D vwCl (ws ++ [(q, .inl (ta 1, N, .inr (.inl f)))]) H1 → va_D A (ws ++ [(q, .inl (ta 1, N, .inr (.inl f)))]) → va_S A H0 H1 locs → W p l e R s m args below meth c H1 locs (cells + 1) (slots + N) Q (F0 m (pc + 2) ls (.ref q :: rest))) : W p l e R s m args below meth c H locs cells slots Q (F0 m pc ls st0) := by
  subst hst
  refine va_newa (atype := .long) (ty := .long) (a0 := (N, .inr (.inl f))) hx hb harr rfl hK hP hD hS hA (fun cA => ?_) (nI_pos (by omega)) (nI_clamp (by omega)) (by simp [componentBytes]; omega) hcells hslots hdg (fun q cA H1 hK1 hP1 hD1 hS1 => ?_)
  · rw [show f = fun _ => 0 from funext hf]
    rfl
  · have e := ty_J hK1
    subst e
    exact kk q H1 hP1 hD1 hS1
theorem nw_S {f : Nat → Int32} (hf : ∀ j, f j = 0) {N : Nat} (hN : N < 134217728) (hx : p.tables.exec = Jvm.exec) (hb : c.code = cc) (harr : (Cond.arrayClass .byte).before args s = true) (hK : va_K D vwCl (TY ta) s) (hP : va_P D vwCl ws H) (hD : va_D A ws) (hS : va_S A H0 H locs) (hA : ∀ q, H0.size ≤ q → A q) (hcells : cells + 1 ≤ R.cells) (hslots : slots + N ≤ R.slots) (hdg : decode cc pc = .ok (.newarray .byte, 2)) (hst : st0 = .int (nI N) :: rest)
    (kk : ∀ (q : Nat) (H1 : Heap), va_P D vwCl (ws ++ [(q, .inl (ta 2, N, .inl f))]) H1 → va_D A (ws ++ [(q, .inl (ta 2, N, .inl f))]) → va_S A H0 H1 locs → W p l e R s m args below meth c H1 locs (cells + 1) (slots + N) Q (F0 m (pc + 2) ls (.ref q :: rest))) : W p l e R s m args below meth c H locs cells slots Q (F0 m pc ls st0) := by
  subst hst
  refine va_newa (atype := .byte) (ty := .byte) (a0 := (N, .inl f)) hx hb harr rfl hK hP hD hS hA (fun cA => ?_) (nI_pos (by omega)) (nI_clamp (by omega)) (by simp [componentBytes]; omega) hcells hslots hdg (fun q cA H1 hK1 hP1 hD1 hS1 => ?_)
  · rw [show f = fun _ => 0 from funext hf]
    rfl
  · have e := ty_S hK1
    subst e
    exact kk q H1 hP1 hD1 hS1
theorem nw_T {f : Nat → Int32} (hf : ∀ j, f j = 0) {N : Nat} (hN : N < 134217728) (hx : p.tables.exec = Jvm.exec) (hb : c.code = cc) (harr : (Cond.arrayClass .boolean).before args s = true) (hK : va_K D vwCl (TY ta) s) (hP : va_P D vwCl ws H) (hD : va_D A ws) (hS : va_S A H0 H locs) (hA : ∀ q, H0.size ≤ q → A q) (hcells : cells + 1 ≤ R.cells) (hslots : slots + N ≤ R.slots) (hdg : decode cc pc = .ok (.newarray .boolean, 2)) (hst : st0 = .int (nI N) :: rest)
    (kk : ∀ (q : Nat) (H1 : Heap), va_P D vwCl (ws ++ [(q, .inl (ta 3, N, .inl f))]) H1 → va_D A (ws ++ [(q, .inl (ta 3, N, .inl f))]) → va_S A H0 H1 locs → W p l e R s m args below meth c H1 locs (cells + 1) (slots + N) Q (F0 m (pc + 2) ls (.ref q :: rest))) : W p l e R s m args below meth c H locs cells slots Q (F0 m pc ls st0) := by
  subst hst
  refine va_newa (atype := .boolean) (ty := .boolean) (a0 := (N, .inl f)) hx hb harr rfl hK hP hD hS hA (fun cA => ?_) (nI_pos (by omega)) (nI_clamp (by omega)) (by simp [componentBytes]; omega) hcells hslots hdg (fun q cA H1 hK1 hP1 hD1 hS1 => ?_)
  · rw [show f = fun _ => 0 from funext hf]
    rfl
  · have e := ty_T hK1
    subst e
    exact kk q H1 hP1 hD1 hS1
end Ctor
theorem qZ_0 : ∀ j, qZ (fun _ => 0#8) j = 0 := fun _ => rfl
theorem qS_0 : ∀ j, qS (fun _ => 0#8) j = 0 := fun _ => (by decide : qs 0#8 = 0)
theorem qB_0 : ∀ j, qB (fun _ => false) j = 0 := fun _ => rfl
def spbF (b six j : Nat) : Bool := decide ((tMIX j - 1) / 4 = b) && (tSBX (64 * b + sIx six)).testBit (3 - (tMIX j - 1) % 4)
theorem iB_0 {j : Nat} : iB 0 j = false := by simp [iB]
theorem iB_or {x y : Int32} {j : Nat} : iB (x ||| y) j = (iB x j || iB y j) := by simp [iB]
theorem iB_sh {T : Bool} {i j : Nat} (hi : i < 32) (hj : j < 32) : iB (qb T <<< (nI (31 - i) &&& 31)) j = (decide (j = i) && T) := by
  have h : ∀ (T : Bool) (i j : Fin 32), iB (qb T <<< (nI (31 - i.val) &&& 31)) j.val = (decide (j.val = i.val) && T) := by decide +kernel
  exact h T ⟨i, hi⟩ ⟨j, hj⟩
theorem spb_ix {b c : Nat} (hb : b < 8) (hc : c < 64) : (b * 64 ||| c % 2 * 16 ||| (c &&& 32) ||| c / 2 % 16) % 512 = 64 * b + sIx c := by
  have h : ∀ (b : Fin 8) (c : Fin 64), (b.val * 64 ||| c.val % 2 * 16 ||| (c.val &&& 32) ||| c.val / 2 % 16) % 512 = 64 * b.val + sIx c.val := by decide +kernel
  exact h ⟨b, hb⟩ ⟨c, hc⟩
theorem spb_in {b c : Nat} (hb : b < 8) (hc : c < 64) : (b * 64 ||| c) % 512 = b * 64 + c := by
  have h : ∀ (b : Fin 8) (c : Fin 64), (b.val * 64 ||| c.val) % 512 = b.val * 64 + c.val := by decide +kernel
  exact h ⟨b, hb⟩ ⟨c, hc⟩
theorem sIx_lt {c : Nat} (hc : c < 64) : sIx c < 64 := by
  simp only [sIx]
  omega
theorem ush_bit {a k : Nat} (ha : a ≤ 15) (hk : k ≤ 3) : ush (nI a) k &&& nI 1 = qb (a.testBit k) := by
  have h : ∀ (a : Fin 16) (k : Fin 4), ush (nI a.val) k.val &&& nI 1 = qb (a.val.testBit k.val) := by decide +kernel
  exact h ⟨a, by omega⟩ ⟨k, by omega⟩
theorem spb_step {u' : Nat → Int32} {i c : Nat} (hi : i < 32) (hc : c < 64) (h : ∀ b six j, b < 8 → six < 64 → j < 32 → iB (u' (b * 64 + six)) j = (decide (j < i ∨ (j = i ∧ six < c)) && spbF b six j)) : ∀ b six j, b < 8 → six < 64 → j < 32 → iB (qU u' ((tMIX i - 1) / 4 * 64 + c) (u' ((tMIX i - 1) / 4 * 64 + c) ||| qb ((tSBX (64 * ((tMIX i - 1) / 4) + sIx c)).testBit (3 - (tMIX i - 1) % 4)) <<< (nI (31 - i) &&& 31)) (b * 64 + six)) j = (decide (j < i ∨ (j = i ∧ six < c + 1)) && spbF b six j) := by
  intro b six j h1 h2 h3
  have hB := tMIX_b hi
  by_cases e : b = (tMIX i - 1) / 4 ∧ six = c
  · obtain ⟨rfl, rfl⟩ := e
    rw [qU_same, iB_or, h _ _ _ h1 h2 h3, iB_sh hi h3]
    by_cases q : j = i
    · subst q
      simp [spbF]
    · have e1 : decide (j = i) = false := decide_eq_false q
      rw [e1, Bool.false_and, Bool.or_false]
      congr 1
      simp only [decide_eq_decide]
      omega
  · rw [qU_ne (by omega), h b six j h1 h2 h3]
    by_cases q : j = i ∧ six = c
    · obtain ⟨rfl, rfl⟩ := q
      have e2 : spbF b six j = false := by
        rw [spbF, decide_eq_false (fun z => e ⟨z.symm, rfl⟩), Bool.false_and]
      rw [e2, Bool.and_false, Bool.and_false]
    · congr 1
      simp only [decide_eq_decide]
      omega
theorem box_un {j : Nat} (h : j < 256) : UBOX (BOX j).toNat = BitVec.ofNat 8 j := by
  have q : ∀ j : Fin 256, UBOX (BOX j.val).toNat = BitVec.ofNat 8 j.val := by decide +kernel
  exact q ⟨j, h⟩
theorem un_box {j : Nat} (h : j < 256) : BOX (UBOX j).toNat = BitVec.ofNat 8 j := by
  have q : ∀ j : Fin 256, BOX (UBOX j.val).toNat = BitVec.ofNat 8 j.val := by decide +kernel
  exact q ⟨j, h⟩
theorem BOX_inj {i j : Nat} (hi : i < 256) (hj : j < 256) (h : (BOX i).toNat = (BOX j).toNat) : i = j := by
  have e1 := box_un hi
  rw [h, box_un hj] at e1
  have := congrArg BitVec.toNat e1
  simp at this
  omega
theorem ubox_step {u' : Nat → BitVec 8} {i : Nat} (hi : i < 256) (h : ∀ j, j < i → u' (BOX j).toNat = BitVec.ofNat 8 j) : ∀ j, j < i + 1 → qU u' (BOX i).toNat (BitVec.ofNat 8 i) (BOX j).toNat = BitVec.ofNat 8 j := by
  intro j hj
  by_cases q : j = i
  · subst q
    exact qU_same
  · rw [qU_ne (fun e => q (BOX_inj (by omega) hi e))]
    exact h j (by omega)
theorem ubox_all {u' : Nat → BitVec 8} {i : Nat} (hi : i = 256) (h : ∀ j, j < i → u' (BOX j).toNat = BitVec.ofNat 8 j) {k : Nat} (hk : k < 256) : qZ u' k = qZ UBOX k := by
  subst hi
  have e := un_box hk
  have e2 : (BOX (UBOX k).toNat).toNat = k := by
    rw [e]
    simp
    omega
  have := h (UBOX k).toNat (UBOX k).isLt
  rw [e2] at this
  rw [qZ, qZ, this]
  simp
