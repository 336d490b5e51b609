def qB (β : Nat → Bool) : Nat → Int32 := fun j => qb (β j)
theorem q_beq {b : Bool} : qb b = 0 ↔ b = false := by cases b <;> simp [qb]
theorem q_nbo (b : Bool) : narrow .boolean (.int (qb b)) = .int (qb b) := by cases b <;> rfl
theorem q_fbo (b : Bool) : fits .boolean (.int (qb b)) = true := by cases b <;> rfl
theorem q_nb1 (b : Bool) : vp_nar .boolean (qb b) = qb b := by cases b <;> rfl
theorem q_dec {a : Nat} (h : 1 ≤ a) : nI a + Int32.ofInt (-1) = nI (a - 1) := by
  obtain ⟨b, rfl⟩ : ∃ b, a = b + 1 := ⟨a - 1, by omega⟩
  exact pk_m1 b
theorem q_ne0 {a : Nat} (h0 : 0 < a) (h : a < 2 ^ 31) : ¬ nI a = 0 := nI_ne0 h0 h
theorem q_sh {k : Nat} (hk : k < 32) : ((nI k &&& 31).toBitVec.smod 32).toNat = k := by
  have h : ∀ n : Fin 32, ((nI n &&& 31).toBitVec.smod 32).toNat = n := by decide +kernel
  exact h ⟨k, hk⟩
theorem q_su {k : Nat} (hk : k < 32) : (((nI k).toUInt32 &&& Int32.toUInt32 31).toBitVec % 32).toNat = k := by
  have h : ∀ n : Fin 32, (((nI n).toUInt32 &&& Int32.toUInt32 31).toBitVec % 32).toNat = n := by decide +kernel
  exact h ⟨k, hk⟩
theorem q_shl {a k p : Nat} (hk : k < 32 ∧ 2 ^ k = p) (h : a * p < 2 ^ 32) : nI a <<< (nI k &&& 31) = nI (a * p) := by
  obtain ⟨hk, rfl⟩ := hk
  exact pk_shlN _ k (q_sh hk) h
theorem q_shr {a k p : Nat} (hk : k < 32 ∧ 2 ^ k = p) (h : a < 2 ^ 31) : nI a >>> (nI k &&& 31) = nI (a / p) := by
  obtain ⟨hk, rfl⟩ := hk
  exact pk_shrN h _ k (q_sh hk)
theorem q_ushr {a k p : Nat} (hk : k < 32 ∧ 2 ^ k = p) (h : a < 2 ^ 32) : ((nI a).toUInt32 >>> ((nI k).toUInt32 &&& Int32.toUInt32 31)).toInt32 = nI (a / p) := by
  obtain ⟨hk, rfl⟩ := hk
  exact pk_ushrN h _ k (q_su hk)
theorem q_andN {a m k p : Nat} (hk : k < 31 ∧ 2 ^ k = p ∧ m + 1 = p) (h : a < 2 ^ 32) : nI a &&& nI m = nI (a % p) := by
  obtain ⟨hk, rfl, hm⟩ := hk
  have hp : 2 ^ k < 2 ^ 31 := Nat.pow_lt_pow_right (by decide) hk
  exact pk_andN h k (by rw [pk_tn (by omega)]; omega)
theorem q_and255z (b : BitVec 8) : qz b &&& nI 255 = qz b := by
  have h : ∀ b : BitVec 8, qz b &&& nI 255 = qz b := by decide +kernel
  exact h b
theorem q_m255 (x : Int32) : x &&& nI 255 = qz (qlo x) := q_and255 x
theorem qlo_nI (n : Nat) : qlo (nI n) = BitVec.ofNat 8 n := by
  apply BitVec.eq_of_toNat_eq
  show ((nI n).toBitVec.setWidth 8).toNat = _
  have : (nI n).toBitVec = BitVec.ofNat 32 n := rfl
  rw [this]
  simp only [BitVec.toNat_setWidth, BitVec.toNat_ofNat]
  omega
theorem q_i2b (x : Int32) : x.toInt8.toInt32 = qs (qlo x) := by rw [← vp_nar_byte, q_nb]
theorem q_i2b_z (b : BitVec 8) : (qz b).toInt8.toInt32 = qs b := by rw [q_i2b, qlo_qz]
theorem q_i2b_s (b : BitVec 8) : (qs b).toInt8.toInt32 = qs b := by rw [q_i2b, qlo_qs]
theorem q_xor_z (a b : BitVec 8) : qz a ^^^ qz b = qz (a ^^^ b) := by
  apply Int32.toBitVec_inj.mp
  simp [qz]
theorem q_xor_s (a b : BitVec 8) : qs a ^^^ qs b = qs (a ^^^ b) := by
  apply Int32.toBitVec_inj.mp
  simp [qs]
theorem q_s255 (b : BitVec 8) : qs b &&& nI 255 = qz b := by rw [q_m255, qlo_qs]
theorem q_eq0 {a : Nat} (h : a < 2 ^ 31) : nI a = 0 ↔ a = 0 := by
  rw [← nI_0]
  exact nI_eq h (by decide)
theorem q_lt0 {a : Nat} (h : a < 2 ^ 31) : nI a < 0 ↔ False := ⟨fun c => nI_pos h c, False.elim⟩
theorem q_ge0 {a : Nat} (h : a < 2 ^ 31) : 0 ≤ nI a ↔ True := ⟨fun _ => trivial, fun _ => nI_pos' h⟩
theorem q_gt0 {a : Nat} (h : a < 2 ^ 31) : 0 < nI a ↔ 0 < a := by
  rw [← nI_0]
  exact nI_ltI (by decide) h
theorem q_le0 {a : Nat} (h : a < 2 ^ 31) : nI a ≤ 0 ↔ a = 0 := by
  rw [← nI_0, nI_leI h (by decide)]
  omega
theorem q_clamp {k n : Nat} (hk : k < n) (hn : n < 2 ^ 31) : (nI k).toNatClampNeg = k := nI_clamp (by omega)
theorem q_at {own : String} {idx : Nat} {a b : Int32} {args : Array Value} {s : State} (h : (Cond.constant own idx a).before args s = true) (e : a = b) : (Cond.constant own idx b).before args s = true := e ▸ h
/-- kinds of cells -/
abbrev oR (b n : Nat) : va_E := .inr (5, [.ref b, .int (nI n)])
abbrev aZ (ta : Nat → ClassId) (n : Nat) (g : Nat → BitVec 8) : va_E := .inl (ta 0, n, .inl (qZ g))
abbrev aI (ta : Nat → ClassId) (n : Nat) (g : Nat → Int32) : va_E := .inl (ta 0, n, .inl g)
abbrev aB (ta : Nat → ClassId) (n : Nat) (g : Nat → Bool) : va_E := .inl (ta 0, n, .inl (qB g))
abbrev aS (ta : Nat → ClassId) (n : Nat) (g : Nat → BitVec 8) : va_E := .inl (ta 2, n, .inl (qS g))
abbrev aT (ta : Nat → ClassId) (n : Nat) (g : Nat → Bool) : va_E := .inl (ta 3, n, .inl (qB g))
abbrev aJ (ta : Nat → ClassId) (n : Nat) (g : Nat → Int64) : va_E := .inl (ta 1, n, .inr (.inl g))
section LibRows
variable {p : Program} {l : Launch} {e : Env} {R : Room} {s : State} {m : MethodId} {args : Array Value} {below : List Frame} {meth : Method} {c : Code} {H H0 : Heap} {locs : List Loc} {cells slots : Nat} {Q : State → Prop} {pc : Nat} {ls : Array Slot} {rest : List Value} {A : Nat → Prop} {D : va_G} {cl : List vw_C} {tys : List (ClassId × FieldType)} {ws : va_W} {cc : ByteArray} {a : Nat}
theorem q_top {x y : Int32} (h : x = y) (k : W p l e R s m args below meth c H locs cells slots Q (F0 m pc ls (.int y :: rest))) : W p l e R s m args below meth c H locs cells slots Q (F0 m pc ls (.int x :: rest)) := h ▸ k
theorem q_tops {x y : Int32} (h : x = y) (k : W p l e R s m args below meth c H locs cells slots Q (F0 m pc ls (.int y :: rest))) : W p l e R s m args below meth c H locs cells slots Q (F0 m pc ls (.int x :: rest)) := h ▸ k
theorem q_topl {x y : Int64} (h : x = y) (k : W p l e R s m args below meth c H locs cells slots Q (F0 m pc ls (.long y :: rest))) : W p l e R s m args below meth c H locs cells slots Q (F0 m pc ls (.long x :: rest)) := h ▸ k
theorem q_iald (hx : p.tables.exec = Jvm.exec) (hb : c.code = cc) (hK : va_K D cl tys s) (hP : va_P D cl ws H) (q0 t0 : Nat) {cA : ClassId} {n : Nat} {f : Nat → Int32} (ha : ws[q0]? = some (a, .inl (cA, n, .inl f))) (ht : tys[t0]? = some (cA, .int)) {i v : Int32} {k : Nat} (hi : i = nI k) (hk : k < n) (hn : n < 2 ^ 31) (hv : f k = v) (hdg : decode cc pc = .ok (.iaload, 1))
    (kk : W p l e R s m args below meth c H locs cells slots Q (F0 m (pc + 1) ls (.int v :: rest))) : W p l e R s m args below meth c H locs cells slots Q (F0 m pc ls (.int i :: .ref a :: rest)) := by
  subst hi hv
  refine va_iald hx hb hK hP q0 t0 ha ht (vp_in_nI hk hn) hdg ?_
  rw [q_clamp hk hn]
  exact kk
theorem q_bald (hx : p.tables.exec = Jvm.exec) (hb : c.code = cc) (hK : va_K D cl tys s) (hP : va_P D cl ws H) (q0 t0 : Nat) {cA : ClassId} {n : Nat} {f : Nat → Int32} (ha : ws[q0]? = some (a, .inl (cA, n, .inl f))) (ht : tys[t0]? = some (cA, .byte)) {i v : Int32} {k : Nat} (hi : i = nI k) (hk : k < n) (hn : n < 2 ^ 31) (hv : f k = v) (hdg : decode cc pc = .ok (.baload, 1))
    (kk : W p l e R s m args below meth c H locs cells slots Q (F0 m (pc + 1) ls (.int v :: rest))) : W p l e R s m args below meth c H locs cells slots Q (F0 m pc ls (.int i :: .ref a :: rest)) := by
  subst hi hv
  refine va_bald hx hb hK hP q0 t0 ha ht (vp_in_nI hk hn) hdg ?_
  rw [q_clamp hk hn]
  exact kk
theorem q_zald (hx : p.tables.exec = Jvm.exec) (hb : c.code = cc) (hK : va_K D cl tys s) (hP : va_P D cl ws H) (q0 t0 : Nat) {cA : ClassId} {n : Nat} {f : Nat → Int32} (ha : ws[q0]? = some (a, .inl (cA, n, .inl f))) (ht : tys[t0]? = some (cA, .boolean)) {i v : Int32} {k : Nat} (hi : i = nI k) (hk : k < n) (hn : n < 2 ^ 31) (hv : f k = v) (hdg : decode cc pc = .ok (.baload, 1))
    (kk : W p l e R s m args below meth c H locs cells slots Q (F0 m (pc + 1) ls (.int v :: rest))) : W p l e R s m args below meth c H locs cells slots Q (F0 m pc ls (.int i :: .ref a :: rest)) := by
  subst hi hv
  refine va_zald hx hb hK hP q0 t0 ha ht (vp_in_nI hk hn) hdg ?_
  rw [q_clamp hk hn]
  exact kk
theorem q_lald (hx : p.tables.exec = Jvm.exec) (hb : c.code = cc) (hK : va_K D cl tys s) (hP : va_P D cl ws H) (q0 t0 : Nat) {cA : ClassId} {n : Nat} {f : Nat → Int64} (ha : ws[q0]? = some (a, .inl (cA, n, .inr (.inl f)))) (ht : tys[t0]? = some (cA, .long)) {i : Int32} {v : Int64} {k : Nat} (hi : i = nI k) (hk : k < n) (hn : n < 2 ^ 31) (hv : f k = v) (hdg : decode cc pc = .ok (.laload, 1))
    (kk : W p l e R s m args below meth c H locs cells slots Q (F0 m (pc + 1) ls (.long v :: rest))) : W p l e R s m args below meth c H locs cells slots Q (F0 m pc ls (.int i :: .ref a :: rest)) := by
  subst hi hv
  refine va_lald hx hb hK hP q0 t0 ha ht (vp_in_nI hk hn) hdg ?_
  rw [q_clamp hk hn]
  exact kk
theorem q_ti {t N : Nat} {f : Nat → Int32} (hx : p.tables.exec = Jvm.exec) (hb : c.code = cc) (hT : va_T .int t N (fun j => .int (f j)) A s s.heap) (hS : va_S A s.heap H locs) {i : Int32} {k : Nat} (hi : i = nI k) (hk : k < N) (hn : N < 2 ^ 31) (hdg : decode cc pc = .ok (.iaload, 1))
    (kk : W p l e R s m args below meth c H locs cells slots Q (F0 m (pc + 1) ls (.int (f k) :: rest))) : W p l e R s m args below meth c H locs cells slots Q (F0 m pc ls (.int i :: .ref t :: rest)) := by
  subst hi
  refine va_ti hx hb hT hS (vp_in_nI hk hn) rfl hdg ?_
  rw [q_clamp hk hn]
  exact kk
theorem q_tl {t N : Nat} {f : Nat → Int64} (hx : p.tables.exec = Jvm.exec) (hb : c.code = cc) (hT : va_T .long t N (fun j => .long (f j)) A s s.heap) (hS : va_S A s.heap H locs) {i : Int32} {k : Nat} (hi : i = nI k) (hk : k < N) (hn : N < 2 ^ 31) (hdg : decode cc pc = .ok (.laload, 1))
    (kk : W p l e R s m args below meth c H locs cells slots Q (F0 m (pc + 1) ls (.long (f k) :: rest))) : W p l e R s m args below meth c H locs cells slots Q (F0 m pc ls (.int i :: .ref t :: rest)) := by
  subst hi
  refine va_tl hx hb hT hS (vp_in_nI hk hn) rfl hdg ?_
  rw [q_clamp hk hn]
  exact kk
theorem q_iastI (hx : p.tables.exec = Jvm.exec) (hb : c.code = cc) (hK : va_K D cl tys s) (hP : va_P D cl ws H) (hD : va_D A ws) (hS : va_S A H0 H locs) (q0 t0 : Nat) {cA : ClassId} {n : Nat} {f : Nat → Int32} (ha : ws[q0]? = some (a, .inl (cA, n, .inl f))) (ht : tys[t0]? = some (cA, .int)) {i x : Int32} {k : Nat} (hi : i = nI k) (hk : k < n) (hn : n < 2 ^ 31) (hdg : decode cc pc = .ok (.iastore, 1))
    (kk : ∀ (H1 : Heap) (locs1 : List Loc), va_P D cl (ws.set q0 (a, .inl (cA, n, .inl (qU f k x)))) H1 → va_D A (ws.set q0 (a, .inl (cA, n, .inl (qU f k x)))) → va_S A H0 H1 locs1 → W p l e R s m args below meth c H1 locs1 cells slots Q (F0 m (pc + 1) ls rest)) : W p l e R s m args below meth c H locs cells slots Q (F0 m pc ls (.int x :: .int i :: .ref a :: rest)) := by
  subst hi
  refine va_iast hx hb hK hP hD hS q0 t0 ha ht (vp_in_nI hk hn) hdg ?_
  rw [q_clamp hk hn]
  exact kk
theorem q_iastZ (hx : p.tables.exec = Jvm.exec) (hb : c.code = cc) (hK : va_K D cl tys s) (hP : va_P D cl ws H) (hD : va_D A ws) (hS : va_S A H0 H locs) (q0 t0 : Nat) {cA : ClassId} {n : Nat} {g : Nat → BitVec 8} (ha : ws[q0]? = some (a, .inl (cA, n, .inl (qZ g)))) (ht : tys[t0]? = some (cA, .int)) {i x : Int32} {k : Nat} (hi : i = nI k) (hk : k < n) (hn : n < 2 ^ 31) {b : BitVec 8} (hx2 : x = qz b) (hdg : decode cc pc = .ok (.iastore, 1))
    (kk : ∀ (H1 : Heap) (locs1 : List Loc), va_P D cl (ws.set q0 (a, .inl (cA, n, .inl (qZ (qU g k b))))) H1 → va_D A (ws.set q0 (a, .inl (cA, n, .inl (qZ (qU g k b))))) → va_S A H0 H1 locs1 → W p l e R s m args below meth c H1 locs1 cells slots Q (F0 m (pc + 1) ls rest)) : W p l e R s m args below meth c H locs cells slots Q (F0 m pc ls (.int x :: .int i :: .ref a :: rest)) := by
  subst hi hx2
  refine va_iast hx hb hK hP hD hS q0 t0 ha ht (vp_in_nI hk hn) hdg ?_
  rw [q_clamp hk hn, q_updZ]
  exact kk
theorem q_updB {g : Nat → Bool} {k : Nat} {b : Bool} : upd (qB g) k (qb b) = qB (qU g k b) := by
  funext j
  by_cases h : j = k <;> simp [upd, qB, qU, h]
theorem q_iastB (hx : p.tables.exec = Jvm.exec) (hb : c.code = cc) (hK : va_K D cl tys s) (hP : va_P D cl ws H) (hD : va_D A ws) (hS : va_S A H0 H locs) (q0 t0 : Nat) {cA : ClassId} {n : Nat} {g : Nat → Bool} (ha : ws[q0]? = some (a, .inl (cA, n, .inl (qB g)))) (ht : tys[t0]? = some (cA, .int)) {i x : Int32} {k : Nat} (hi : i = nI k) (hk : k < n) (hn : n < 2 ^ 31) {b : Bool} (hx2 : x = qb b) (hdg : decode cc pc = .ok (.iastore, 1))
    (kk : ∀ (H1 : Heap) (locs1 : List Loc), va_P D cl (ws.set q0 (a, .inl (cA, n, .inl (qB (qU g k b))))) H1 → va_D A (ws.set q0 (a, .inl (cA, n, .inl (qB (qU g k b))))) → va_S A H0 H1 locs1 → W p l e R s m args below meth c H1 locs1 cells slots Q (F0 m (pc + 1) ls rest)) : W p l e R s m args below meth c H locs cells slots Q (F0 m pc ls (.int x :: .int i :: .ref a :: rest)) := by
  subst hi hx2
  refine va_iast hx hb hK hP hD hS q0 t0 ha ht (vp_in_nI hk hn) hdg ?_
  rw [q_clamp hk hn, q_updB]
  exact kk
theorem q_bastS (hx : p.tables.exec = Jvm.exec) (hb : c.code = cc) (hK : va_K D cl tys s) (hP : va_P D cl ws H) (hD : va_D A ws) (hS : va_S A H0 H locs) (q0 t0 : Nat) {cA : ClassId} {n : Nat} {g : Nat → BitVec 8} (ha : ws[q0]? = some (a, .inl (cA, n, .inl (qS g)))) (ht : tys[t0]? = some (cA, .byte)) {i x : Int32} {k : Nat} (hi : i = nI k) (hk : k < n) (hn : n < 2 ^ 31) {b : BitVec 8} (hx2 : qlo x = b) (hdg : decode cc pc = .ok (.bastore, 1))
    (kk : ∀ (H1 : Heap) (locs1 : List Loc), va_P D cl (ws.set q0 (a, .inl (cA, n, .inl (qS (qU g k b))))) H1 → va_D A (ws.set q0 (a, .inl (cA, n, .inl (qS (qU g k b))))) → va_S A H0 H1 locs1 → W p l e R s m args below meth c H1 locs1 cells slots Q (F0 m (pc + 1) ls rest)) : W p l e R s m args below meth c H locs cells slots Q (F0 m pc ls (.int x :: .int i :: .ref a :: rest)) := by
  subst hi hx2
  refine va_bast hx hb hK hP hD hS q0 t0 ha ht (vp_in_nI hk hn) hdg ?_
  rw [q_clamp hk hn, q_updS]
  exact kk
theorem q_bastT (hx : p.tables.exec = Jvm.exec) (hb : c.code = cc) (hK : va_K D cl tys s) (hP : va_P D cl ws H) (hD : va_D A ws) (hS : va_S A H0 H locs) (q0 t0 : Nat) {cA : ClassId} {n : Nat} {g : Nat → Bool} (ha : ws[q0]? = some (a, .inl (cA, n, .inl (qB g)))) (ht : tys[t0]? = some (cA, .boolean)) {i x : Int32} {k : Nat} (hi : i = nI k) (hk : k < n) (hn : n < 2 ^ 31) {b : Bool} (hx2 : x = qb b) (hdg : decode cc pc = .ok (.bastore, 1))
    (kk : ∀ (H1 : Heap) (locs1 : List Loc), va_P D cl (ws.set q0 (a, .inl (cA, n, .inl (qB (qU g k b))))) H1 → va_D A (ws.set q0 (a, .inl (cA, n, .inl (qB (qU g k b))))) → va_S A H0 H1 locs1 → W p l e R s m args below meth c H1 locs1 cells slots Q (F0 m (pc + 1) ls rest)) : W p l e R s m args below meth c H locs cells slots Q (F0 m pc ls (.int x :: .int i :: .ref a :: rest)) := by
  subst hi hx2
  refine va_zast hx hb hK hP hD hS q0 t0 ha ht (vp_in_nI hk hn) hdg ?_
  rw [q_clamp hk hn, q_nb1, q_updB]
  exact kk
theorem q_lastJ (hx : p.tables.exec = Jvm.exec) (hb : c.code = cc) (hK : va_K D cl tys s) (hP : va_P D cl ws H) (hD : va_D A ws) (hS : va_S A H0 H locs) (q0 t0 : Nat) {cA : ClassId} {n : Nat} {f : Nat → Int64} (ha : ws[q0]? = some (a, .inl (cA, n, .inr (.inl f)))) (ht : tys[t0]? = some (cA, .long)) {i : Int32} {x : Int64} {k : Nat} (hi : i = nI k) (hk : k < n) (hn : n < 2 ^ 31) (hdg : decode cc pc = .ok (.lastore, 1))
    (kk : ∀ (H1 : Heap) (locs1 : List Loc), va_P D cl (ws.set q0 (a, .inl (cA, n, .inr (.inl (qU f k x))))) H1 → va_D A (ws.set q0 (a, .inl (cA, n, .inr (.inl (qU f k x))))) → va_S A H0 H1 locs1 → W p l e R s m args below meth c H1 locs1 cells slots Q (F0 m (pc + 1) ls rest)) : W p l e R s m args below meth c H locs cells slots Q (F0 m pc ls (.long x :: .int i :: .ref a :: rest)) := by
  subst hi
  refine va_last hx hb hK hP hD hS q0 t0 ha ht (vp_in_nI hk hn) hdg ?_
  rw [q_clamp hk hn]
  exact kk
theorem q_iastK (hx : p.tables.exec = Jvm.exec) (hb : c.code = cc) (hK : va_K D cl tys s) (hP : va_P D cl ws H) (hD : va_D A ws) (hS : va_S A H0 H locs) (q0 t0 : Nat) {cA : ClassId} {n : Nat} {g : Nat → Nat} (ha : ws[q0]? = some (a, .inl (cA, n, .inl (fun j => nI (g j))))) (ht : tys[t0]? = some (cA, .int)) {i x : Int32} {k : Nat} (hi : i = nI k) (hk : k < n) (hn : n < 2 ^ 31) {b : Nat} (hx2 : x = nI b) (hdg : decode cc pc = .ok (.iastore, 1))
    (kk : ∀ (H1 : Heap) (locs1 : List Loc), va_P D cl (ws.set q0 (a, .inl (cA, n, .inl (fun j => nI (qU g k b j))))) H1 → va_D A (ws.set q0 (a, .inl (cA, n, .inl (fun j => nI (qU g k b j))))) → va_S A H0 H1 locs1 → W p l e R s m args below meth c H1 locs1 cells slots Q (F0 m (pc + 1) ls rest)) : W p l e R s m args below meth c H locs cells slots Q (F0 m pc ls (.int x :: .int i :: .ref a :: rest)) := by
  subst hi hx2
  refine va_iast hx hb hK hP hD hS q0 t0 ha ht (vp_in_nI hk hn) hdg ?_
  have e : upd (fun j => nI (g j)) k (nI b) = fun j => nI (qU g k b j) := by
    funext j
    by_cases h : j = k <;> simp [upd, qU, h]
  rw [q_clamp hk hn, e]
  exact kk
end LibRows
