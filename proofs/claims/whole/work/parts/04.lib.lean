/-! bytes: what an array of bytes holds, in the class (0 .. 255) and in the reference (signed) -/
def qlo (x : Int32) : BitVec 8 := x.toBitVec.setWidth 8
def qz (b : BitVec 8) : Int32 := Int32.ofBitVec (b.setWidth 32)
def qs (b : BitVec 8) : Int32 := Int32.ofBitVec (b.signExtend 32)
def qZ (g : Nat → BitVec 8) : Nat → Int32 := fun j => qz (g j)
def qS (g : Nat → BitVec 8) : Nat → Int32 := fun j => qs (g j)
def qb (b : Bool) : Int32 := if b then 1 else 0
def qU {α : Type} (g : Nat → α) (k : Nat) (b : α) : Nat → α := fun j => if j = k then b else g j
def qL {α : Type} (g : Nat → α) (n : Nat) : List α := (List.range n).map g
theorem qU_same {α : Type} {g : Nat → α} {k : Nat} {b : α} : qU g k b k = b := by simp [qU]
theorem qU_ne {α : Type} {g : Nat → α} {k j : Nat} {b : α} (h : j ≠ k) : qU g k b j = g j := by simp [qU, h]
theorem q_updI {f : Nat → Int32} {k : Nat} {x : Int32} : upd f k x = qU f k x := rfl
theorem q_updZ {g : Nat → BitVec 8} {k : Nat} {b : BitVec 8} : upd (qZ g) k (qz b) = qZ (qU g k b) := by
  funext j
  by_cases h : j = k <;> simp [upd, qZ, qU, h]
theorem q_nb (x : Int32) : vp_nar .byte x = qs (qlo x) := by
  rw [vp_nar_byte]
  apply Int32.toBitVec_inj.mp
  simp [qs, qlo, Int32.toInt8, Int8.toInt32, BitVec.signExtend_eq_setWidth_of_le]
  rfl
theorem q_updS {g : Nat → BitVec 8} {k : Nat} {x : Int32} : upd (qS g) k (vp_nar .byte x) = qS (qU g k (qlo x)) := by
  rw [q_nb]
  funext j
  by_cases h : j = k <;> simp [upd, qS, qU, h]
theorem qlo_qz (b : BitVec 8) : qlo (qz b) = b := by simp [qlo, qz]
theorem qlo_qs (b : BitVec 8) : qlo (qs b) = b := by
  have h : ∀ b : BitVec 8, qlo (qs b) = b := by decide +kernel
  exact h b
theorem q_and255 (x : Int32) : x &&& 255 = qz (qlo x) := by
  apply Int32.toBitVec_inj.mp
  have h : (x &&& 255).toBitVec = x.toBitVec &&& BitVec.ofNat 32 255 := rfl
  rw [h]
  apply BitVec.eq_of_getLsbD_eq
  intro i hi
  have h2 : (BitVec.ofNat 32 255).getLsbD i = decide (i < 8) := by
    have : ∀ i : Fin 32, (BitVec.ofNat 32 255).getLsbD i = decide (i.val < 8) := by decide +kernel
    exact this ⟨i, hi⟩
  rw [BitVec.getLsbD_and, h2]
  simp only [qz, qlo, Int32.toBitVec_ofBitVec, BitVec.getLsbD_setWidth]
  by_cases h8 : i < 8 <;> simp [h8, hi]
theorem qL_len {α : Type} {g : Nat → α} {n : Nat} : (qL g n).length = n := by simp [qL]
theorem qL_get {α : Type} {g : Nat → α} {n j : Nat} (h : j < n) : (qL g n)[j]? = some (g j) := by simp [qL, h]
theorem qL_ext {α : Type} {g g' : Nat → α} {n : Nat} : qL g n = qL g' n ↔ ∀ j, j < n → g j = g' j := by simp [qL]
theorem qL_of {α : Type} {g : Nat → α} {L : List α} (h : ∀ j, j < L.length → L[j]? = some (g j)) : qL g L.length = L := by
  apply List.ext_getElem?
  intro j
  by_cases hj : j < L.length
  · rw [qL_get hj, h j hj]
  · rw [List.getElem?_eq_none (by rw [qL_len]; omega), List.getElem?_eq_none (by omega)]
/-! the classes of arrays -/
abbrev TY (a : Nat → ClassId) : List (ClassId × FieldType) := [(a 0, .int), (a 1, .long), (a 2, .byte), (a 3, .boolean)]
/-- what rests from the start on (statics, words that are not kept by themselves): it goes with a call, and stays over what the method writes -/
def GOK (G : (Nat → Prop) → State → Heap → Prop) : Prop :=
  (∀ (A A' : Nat → Prop) (s U : State) (H : Heap), G A s s.heap → (∀ q, A' q → A q) → s.WarmedH U.vm → (∀ q : Nat, q < s.heap.size → ¬ A q → H[q]? = s.heap[q]?) → G A' U H) ∧
  ∀ (A : Nat → Prop) (U : State) (g : JFrame) (mk : MethodId) (a : Array Value), G A U U.heap → G A (U.calling g mk a) U.heap
def G0 (_ : Nat → Prop) (_ : State) (_ : Heap) : Prop := True
theorem G0_ok : GOK G0 := ⟨fun _ _ _ _ _ _ _ _ _ => trivial, fun _ _ _ _ _ _ => trivial⟩
def CP (D : va_G) (ta : Nat → ClassId) (G : (Nat → Prop) → State → Heap → Prop) (W0 : va_W) (sz : Nat) (U : State) : Prop :=
  U.heap.size = sz ∧ va_P D vwCl W0 U.heap ∧ va_K D vwCl (TY ta) U ∧ va_D (fun _ => True) W0 ∧ G (va_A W0 sz) U U.heap
def QG {S : Type} (D : va_G) (ta : Nat → ClassId) (rv : S → Option Value) (post : S → Prop) (W1 : S → va_W) (A : Nat → Prop) : Array Value → State → Outcome → State → Prop := fun _ st oc t =>
  (∃ u : S, oc = .returned (rv u) ∧ post u ∧ va_P D vwCl (W1 u) t.heap ∧ va_K D vwCl (TY ta) t ∧ va_D A (W1 u)) ∧ va_F A st t
/-- a method's contract -/
def CT (l : Launch) (y : MethodName) (cc : ByteArray) (mL : Nat) (ret : Option FieldType) (rm : Room) (D : va_G) (ta : Nat → ClassId) (G : (Nat → Prop) → State → Heap → Prop) (av : List Value) (W0 : va_W) (sz : Nat) {S : Type} (rv : S → Option Value) (post : S → Prop) (W1 : S → va_W) (mc ms : Nat) : Prop :=
  Met l y (.code y cc mL ret :: uT) rm (va_Pc av (CP D ta G W0 sz)) (QG D ta rv post W1 (va_A W0 sz)) mc ms (va_A W0 sz)
section LibOf
variable {l : Launch} {y : MethodName} {cc : ByteArray} {mL : Nat} {rm : Room} {D : va_G} {ta : Nat → ClassId} {G : (Nat → Prop) → State → Heap → Prop} {av : List Value} {W0 : va_W} {sz : Nat} {S : Type} {post : S → Prop} {W1 : S → va_W} {mc ms : Nat}
theorem CT.of {ret : Option FieldType} {rv : S → Option Value} {ri : Instr} (hy : plainName y.cls = true) (hlen : (lg_sl av).length ≤ mL)
    (hri : ∀ {p : Program} {e : Env} {s : State} {m : MethodId} {below : List Frame} {meth : Method} {c : Code} {A : Nat → Prop} {H : Heap} {locs : List Loc} {pc : Nat} {ls : Array Slot} {u : S}, p.tables.exec = Jvm.exec → c.code = cc → meth.sig.returnType = ret → meth.locks = false → decode cc pc = .ok (ri, 1) →
      (∀ t : State, t.heap = H → s.WarmedH t.vm → QG D ta rv post W1 A av.toArray s (.returned (rv u)) t) → (∀ q ∈ locs, A q.base) → W p l e rm s m av.toArray below meth c H locs mc ms (MQ below (QG D ta rv post W1 A) av.toArray s mc ms A) (F0 m pc ls (rv u).toList))
    (body : ∀ {p : Program} {e : Env} {s : State} {m : MethodId} {below : List Frame} {meth : Method} {c : Code} {A : Nat → Prop} {Q : State → Prop}, p.tables.exec = Jvm.exec → c.code = cc → c.maxLocals = mL → s.vm.findClass y.cls = some m.cls → meth.name = y.name → (∀ w ∈ uT, w.before av.toArray s = true) →
      va_K D vwCl (TY ta) s → (∀ q : Nat, s.heap.size ≤ q → A q) → s.heap.size = sz → G A s s.heap →
      (∀ (u : S) (H : Heap) (locs : List Loc) (pc : Nat) (ls : Array Slot), decode cc pc = .ok (ri, 1) → post u → va_P D vwCl (W1 u) H → va_D A (W1 u) → va_S A s.heap H locs → W p l e rm s m av.toArray below meth c H locs mc ms Q (F0 m pc ls (rv u).toList)) →
      ∀ (H : Heap) (locs : List Loc), va_P D vwCl W0 H → va_D A W0 → va_S A s.heap H locs → ∀ ls : Array Slot, lv_has ls mL (lv_args 0 av) → W p l e rm s m av.toArray below meth c H locs 0 0 Q (F0 m 0 ls [])) :
    CT l y cc mL ret rm D ta G av W0 sz rv post W1 mc ms := by
  refine Met.ofW (cc := cc) (maxL := mL) (ret := ret) hy rfl ?_
  intro p e s m args below meth c s₁ B hml hv
  obtain ⟨rfl, hsz, hP, hK, hD0, hG⟩ := hv
  have hts0 := atoms_spec (ws := Cond.code y cc mL ret :: uT) B.pre
  have hD := hD0.self (sz := s.heap.size)
  subst hsz
  rw [lg_entry_eq]
  exact body B.exec B.bytes hml (findClass_of_methodNamed B.named) (name_of_methodNamed B.named B.method).1 (fun w h => hts0 w (List.mem_cons_of_mem _ h)) hK (A := va_A W0 s.heap.size) (fun q h => Or.inr h) rfl hG
    (fun u H locs pc ls hd hp hP' hD' hS' => hri B.exec B.bytes B.returns B.notSynchronized hd (fun t ht hW => ⟨⟨u, rfl, hp, by rw [ht]; exact hP', va_K.moved hW.alike hK, hD'⟩, hS'.F ht⟩) hS'.2.2)
    _ _ hP hD va_S.rf _ (lv_entry av hlen)
theorem CT.of_v {rv : S → Option Value} (hrv : rv = fun _ => none) (hy : plainName y.cls = true) (hlen : (lg_sl av).length ≤ mL)
    (body : ∀ {p : Program} {e : Env} {s : State} {m : MethodId} {below : List Frame} {meth : Method} {c : Code} {A : Nat → Prop} {Q : State → Prop}, p.tables.exec = Jvm.exec → c.code = cc → c.maxLocals = mL → s.vm.findClass y.cls = some m.cls → meth.name = y.name → (∀ w ∈ uT, w.before av.toArray s = true) →
      va_K D vwCl (TY ta) s → (∀ q : Nat, s.heap.size ≤ q → A q) → s.heap.size = sz → G A s s.heap →
      (∀ (u : S) (H : Heap) (locs : List Loc) (pc : Nat) (ls : Array Slot), decode cc pc = .ok (.return_, 1) → post u → va_P D vwCl (W1 u) H → va_D A (W1 u) → va_S A s.heap H locs → W p l e rm s m av.toArray below meth c H locs mc ms Q (F0 m pc ls [])) →
      ∀ (H : Heap) (locs : List Loc), va_P D vwCl W0 H → va_D A W0 → va_S A s.heap H locs → ∀ ls : Array Slot, lv_has ls mL (lv_args 0 av) → W p l e rm s m av.toArray below meth c H locs 0 0 Q (F0 m 0 ls [])) :
    CT l y cc mL none rm D ta G av W0 sz rv post W1 mc ms := by
  subst hrv
  exact CT.of (ri := .return_) hy hlen (fun hx hb hr hlk hd hq hf => W.vret hx hb hr hq hf hd hlk) body
theorem CT.of_i {r : S → Int32} {rv : S → Option Value} (hrv : rv = fun u => some (.int (r u))) (hy : plainName y.cls = true) (hlen : (lg_sl av).length ≤ mL)
    (body : ∀ {p : Program} {e : Env} {s : State} {m : MethodId} {below : List Frame} {meth : Method} {c : Code} {A : Nat → Prop} {Q : State → Prop}, p.tables.exec = Jvm.exec → c.code = cc → c.maxLocals = mL → s.vm.findClass y.cls = some m.cls → meth.name = y.name → (∀ w ∈ uT, w.before av.toArray s = true) →
      va_K D vwCl (TY ta) s → (∀ q : Nat, s.heap.size ≤ q → A q) → s.heap.size = sz → G A s s.heap →
      (∀ (u : S) (H : Heap) (locs : List Loc) (pc : Nat) (ls : Array Slot), decode cc pc = .ok (.ireturn, 1) → post u → va_P D vwCl (W1 u) H → va_D A (W1 u) → va_S A s.heap H locs → W p l e rm s m av.toArray below meth c H locs mc ms Q (F0 m pc ls [.int (r u)])) →
      ∀ (H : Heap) (locs : List Loc), va_P D vwCl W0 H → va_D A W0 → va_S A s.heap H locs → ∀ ls : Array Slot, lv_has ls mL (lv_args 0 av) → W p l e rm s m av.toArray below meth c H locs 0 0 Q (F0 m 0 ls [])) :
    CT l y cc mL (some .int) rm D ta G av W0 sz rv post W1 mc ms := by
  subst hrv
  exact CT.of (ri := .ireturn) hy hlen (fun hx hb hr hlk hd hq hf => W.iret hx hb hr hq hf hd hlk) body
/-- an answer 0 or 1, of a method that answers boolean -/
theorem CT.of_z {r : S → Bool} {rv : S → Option Value} (hrv : rv = fun u => some (.int (qb (r u)))) (hy : plainName y.cls = true) (hlen : (lg_sl av).length ≤ mL)
    (body : ∀ {p : Program} {e : Env} {s : State} {m : MethodId} {below : List Frame} {meth : Method} {c : Code} {A : Nat → Prop} {Q : State → Prop}, p.tables.exec = Jvm.exec → c.code = cc → c.maxLocals = mL → s.vm.findClass y.cls = some m.cls → meth.name = y.name → (∀ w ∈ uT, w.before av.toArray s = true) →
      va_K D vwCl (TY ta) s → (∀ q : Nat, s.heap.size ≤ q → A q) → s.heap.size = sz → G A s s.heap →
      (∀ (u : S) (H : Heap) (locs : List Loc) (pc : Nat) (ls : Array Slot), decode cc pc = .ok (.ireturn, 1) → post u → va_P D vwCl (W1 u) H → va_D A (W1 u) → va_S A s.heap H locs → W p l e rm s m av.toArray below meth c H locs mc ms Q (F0 m pc ls [.int (qb (r u))])) →
      ∀ (H : Heap) (locs : List Loc), va_P D vwCl W0 H → va_D A W0 → va_S A s.heap H locs → ∀ ls : Array Slot, lv_has ls mL (lv_args 0 av) → W p l e rm s m av.toArray below meth c H locs 0 0 Q (F0 m 0 ls [])) :
    CT l y cc mL (some .boolean) rm D ta G av W0 sz rv post W1 mc ms := by
  subst hrv
  exact CT.of (ri := .ireturn) hy hlen (fun {p e s m below meth c A H locs pc ls u} hx hb hr hlk hd hq hf => W.zret hx hb hr (by cases r u <;> rfl) hq hf hd hlk) body
theorem CT.of_l {r : S → Int64} {rv : S → Option Value} (hrv : rv = fun u => some (.long (r u))) (hy : plainName y.cls = true) (hlen : (lg_sl av).length ≤ mL)
    (body : ∀ {p : Program} {e : Env} {s : State} {m : MethodId} {below : List Frame} {meth : Method} {c : Code} {A : Nat → Prop} {Q : State → Prop}, p.tables.exec = Jvm.exec → c.code = cc → c.maxLocals = mL → s.vm.findClass y.cls = some m.cls → meth.name = y.name → (∀ w ∈ uT, w.before av.toArray s = true) →
      va_K D vwCl (TY ta) s → (∀ q : Nat, s.heap.size ≤ q → A q) → s.heap.size = sz → G A s s.heap →
      (∀ (u : S) (H : Heap) (locs : List Loc) (pc : Nat) (ls : Array Slot), decode cc pc = .ok (.lreturn, 1) → post u → va_P D vwCl (W1 u) H → va_D A (W1 u) → va_S A s.heap H locs → W p l e rm s m av.toArray below meth c H locs mc ms Q (F0 m pc ls [.long (r u)])) →
      ∀ (H : Heap) (locs : List Loc), va_P D vwCl W0 H → va_D A W0 → va_S A s.heap H locs → ∀ ls : Array Slot, lv_has ls mL (lv_args 0 av) → W p l e rm s m av.toArray below meth c H locs 0 0 Q (F0 m 0 ls [])) :
    CT l y cc mL (some .long) rm D ta G av W0 sz rv post W1 mc ms := by
  subst hrv
  exact CT.of (ri := .lreturn) hy hlen (fun hx hb hr hlk hd hq hf => W.lret hx hb hr hq hf hd hlk) body
/-- an answer that is a reference or null -/
theorem CT.of_a {C : String} {r : S → Value} (hrr : ∀ u, r u = .null ∨ ∃ a, r u = .ref a) {rv : S → Option Value} (hrv : rv = fun u => some (r u)) (hy : plainName y.cls = true) (hlen : (lg_sl av).length ≤ mL)
    (body : ∀ {p : Program} {e : Env} {s : State} {m : MethodId} {below : List Frame} {meth : Method} {c : Code} {A : Nat → Prop} {Q : State → Prop}, p.tables.exec = Jvm.exec → c.code = cc → c.maxLocals = mL → s.vm.findClass y.cls = some m.cls → meth.name = y.name → (∀ w ∈ uT, w.before av.toArray s = true) →
      va_K D vwCl (TY ta) s → (∀ q : Nat, s.heap.size ≤ q → A q) → s.heap.size = sz → G A s s.heap →
      (∀ (u : S) (H : Heap) (locs : List Loc) (pc : Nat) (ls : Array Slot), decode cc pc = .ok (.areturn, 1) → post u → va_P D vwCl (W1 u) H → va_D A (W1 u) → va_S A s.heap H locs → W p l e rm s m av.toArray below meth c H locs mc ms Q (F0 m pc ls [r u])) →
      ∀ (H : Heap) (locs : List Loc), va_P D vwCl W0 H → va_D A W0 → va_S A s.heap H locs → ∀ ls : Array Slot, lv_has ls mL (lv_args 0 av) → W p l e rm s m av.toArray below meth c H locs 0 0 Q (F0 m 0 ls [])) :
    CT l y cc mL (some (.object C)) rm D ta G av W0 sz rv post W1 mc ms := by
  subst hrv
  exact CT.of (ri := .areturn) hy hlen (fun {p e s m below meth c A H locs pc ls u} hx hb hr hlk hd hq hf => W.aret hx hb hr (Or.inl ⟨C, rfl⟩) (hrr u) hq hf hd hlk) body
end LibOf
