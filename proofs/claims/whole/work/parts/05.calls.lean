section LibCall
variable {p : Program} {l : Launch} {e : Env} {R : Room} {s : State} {m : MethodId} {args : Array Value} {below : List Frame} {meth : Method} {c : Code} {H : Heap} {locs : List Loc} {cells slots : Nat} {Q : State → Prop} {pc : Nat} {ls : Array Slot} {rest st0 : List Value} {A : Nat → Prop} {a : Array Value}
variable {D : va_G} {ta : Nat → ClassId} {G : (Nat → Prop) → State → Heap → Prop} {S : Type} {rv : S → Option Value} {post : S → Prop} {W1 : S → va_W} {mc ms : Nat} {ws wc wr : va_W}
/-- behind a call: the cells that it did not get, then its own -/
theorem cs_go (hr : va_Run p l e R s m args below meth c H locs cells slots mc ms (F0 m pc ls st0) rest (QG D ta rv post W1 (va_A wc H.size) a) (va_A wc H.size))
    (hP : va_P D vwCl ws H) (hD : va_D A ws) (hS : va_S A s.heap H locs) (hA : ∀ q, s.heap.size ≤ q → A q) (isC isR : List Nat) (hC : isC.map (fun i => ws[i]?) = wc.map some) (hR : isR.map (fun i => ws[i]?) = wr.map some) (hn : (va_nd isR && isR.all (fun i => !isC.contains i)) = true)
    (kk : ∀ (u : S) (H1 : Heap) (locs1 : List Loc), post u → va_P D vwCl (wr ++ W1 u) H1 → va_D A (wr ++ W1 u) → va_S A s.heap H1 locs1 → W p l e R s m args below meth c H1 locs1 (cells + mc) (slots + ms) Q (F0 m (pc + 3) ls ((rv u).toList ++ rest))) :
    W p l e R s m args below meth c H locs cells slots Q (F0 m pc ls st0) := by
  have hF := va_free (wc := wc) hD hS hA isC hC
  simp only [Bool.and_eq_true, List.all_eq_true, Bool.not_eq_true', List.contains_eq_mem, decide_eq_false_iff_not] at hn
  intro T hT X
  obtain ⟨v, st₀, t, T', L, h0, X', hL, e1, e2, ⟨⟨u, hv, hp, hP1, hK1, hD1⟩, hz, hk⟩, st⟩ := hr T hT X
  cases hv
  rw [h0] at hz hk
  obtain ⟨hP2, hD2⟩ := va_join (H1 := T'.heap) (wr := wr) (w1 := W1 u) hP hD isC isR hC hR hn.1 hn.2 (fun q h1 h2 => by rw [e1]; exact hk q h1 h2) hF (by rw [e1]; exact hP1) hD1
  obtain ⟨t2, a1, b1⟩ := kk u T'.heap (locs ++ L) hp hP2 hD2
    ⟨Nat.le_trans hS.1 (by rw [e1]; exact hz), fun q h1 h2 => by rw [e1, hk q (Nat.lt_of_lt_of_le h1 hS.1) (fun z => h2 (hF q z))]; exact hS.2.1 q h1 h2, fun q hq => by
      rcases List.mem_append.mp hq with h | h
      · exact hS.2.2 q h
      · exact hF _ (hL q h)⟩ T' rfl X'
  exact ⟨t2, st t2 a1, b1⟩
theorem cs_blind {av : List Value} {sz : Nat} (hGok : GOK G) : FrameBlind (va_Pc av (CP D ta G wc sz)) := fun a U g mk q => by
  obtain ⟨q0, q1, qP, qK, qD, qG⟩ := q
  exact ⟨q0, q1, qP, va_K.moved (u := U) (U := U.calling g mk a) (Vm.Alike.refl U.vm) qK, qD, hGok.2 _ U g mk a qG⟩
theorem cs_pre {av : List Value} (hGok : GOK G) (hK : va_K D vwCl (TY ta) s) (hP : va_P D vwCl ws H) (hD : va_D A ws) (hS : va_S A s.heap H locs) (hA : ∀ q, s.heap.size ≤ q → A q) (hG : G A s s.heap) (isC : List Nat) (hC : isC.map (fun i => ws[i]?) = wc.map some) (hnC : va_nd isC = true) :
    FrameBlind (va_Pc av (CP D ta G wc H.size)) ∧ ∀ U : State, U.heap = H → s.WarmedH U.vm → va_Pc av (CP D ta G wc H.size) av.toArray U := by
  refine ⟨cs_blind hGok, fun U hU hW => ⟨rfl, by rw [hU], ?_, va_K.moved hW.alike hK, (hD.sub isC hnC hC).weaken (fun _ _ _ _ => trivial), ?_⟩⟩
  · rw [hU]
    exact hP.by (fun k => isC.getD k 0) (fun k q hk => by
      have h1 : (wc.map some)[k]? = some (some q) := by simp [hk]
      rw [← hC, List.getElem?_map] at h1
      obtain ⟨i, hi, hq⟩ := Option.map_eq_some_iff.mp h1
      simp only [List.getD_eq_getElem?_getD, hi, Option.getD_some]
      exact hq)
  · rw [hU]
    exact hGok.1 A _ s U H hG (va_free (wc := wc) hD hS hA isC hC) hW (fun q h1 h2 => hS.2.1 q h1 h2)
/-- invokevirtual of a method by its own class -/
theorem cs_V {cc cy : ByteArray} {nL mL idx n ci q0 b : Nat} {rety : Option FieldType} {rm : Room} {own : String} {y : MethodName} {q : vw_C} {As : List Value} {fs : List Value}
    (hx : p.tables.exec = Jvm.exec) (hb : c.code = cc) (hml : c.maxLocals = nL) (hown : s.vm.findClass own = some m.cls) (hts : ∀ w ∈ uT, w.before args s = true) (hGok : GOK G) (hK : va_K D vwCl (TY ta) s) (hA : ∀ q, s.heap.size ≤ q → A q) (hG : G A s s.heap) (hlz : ls.size = nL)
    (hP : va_P D vwCl ws H) (hD : va_D A ws) (hS : va_S A s.heap H locs)
    (hM : CT l y cy mL rety rm D ta G (.ref b :: As) wc H.size rv post W1 mc ms)
    (w0 : .code y cy mL rety ∈ uT) (w1 : .methodLink own idx y ∈ uT) (w2 : .instanceMethod y ∈ uT) (w3 : .selects y.cls y y ∈ uT) (w4 : .initialized y.cls ∈ uT)
    (hd : y.cls ≠ "java/lang/invoke/MethodHandle" ∧ y.cls ≠ "java/lang/invoke/VarHandle" ∧ (parseMethodDescriptor y.desc).map (fun d => d.parameters.length) = some n) (hn : As.length = n)
    (hrm : rm.cells = mc ∧ rm.slots = ms ∧ rm.frames + 1 ≤ R.frames ∧ 8 + (mL + 11) + rm.locals ≤ R.locals ∧ cells + mc ≤ R.cells ∧ slots + ms ≤ R.slots)
    (hci : vwCl[ci]? = some q) (hq1 : q.1 = y.cls) (he : ws[q0]? = some (b, .inr (ci, fs)))
    (isC isR : List Nat) (hC : isC.map (fun i => ws[i]?) = wc.map some) (hR : isR.map (fun i => ws[i]?) = wr.map some) (hnd : (va_nd isC && (va_nd isR && isR.all (fun i => !isC.contains i))) = true)
    (hst : st0 = As.reverse ++ .ref b :: rest) (hcat : (rest.map fun v => v.category).sum ≤ 8) (hdg : decode cc pc = .ok (.invokevirtual idx, 3))
    (kk : ∀ (u : S) (H1 : Heap) (locs1 : List Loc), post u → va_P D vwCl (wr ++ W1 u) H1 → va_D A (wr ++ W1 u) → va_S A s.heap H1 locs1 → W p l e R s m args below meth c H1 locs1 (cells + mc) (slots + ms) Q (F0 m (pc + 3) ls ((rv u).toList ++ rest))) :
    W p l e R s m args below meth c H locs cells slots Q (F0 m pc ls st0) := by
  rw [Bool.and_eq_true] at hnd
  have hpre := cs_pre (av := .ref b :: As) hGok hK hP hD hS hA hG isC hC hnd.1
  have cw : CallW R s args own q.1 idx y cy mL rety (.code y cy mL rety :: uT) rm mc ms n := by
    rw [hq1]
    exact ⟨callB_of n hts (uni_in w0) rfl hrm.1 hrm.2.1 (hts _ w4) (hts _ w1) hd ⟨hrm.2.2.1, hrm.2.2.2.1⟩, hts _ w2, hts _ w3⟩
  subst hst
  exact cs_go (va_runV (As := As) (rest := rest) ⟨hx, hb, hml, hown, hts⟩ hM cw ⟨hpre.1, va_recv hK hP hci he, hpre.2⟩ rfl hn hlz rfl (lv_room hcat) hdg hrm.2.2.2.2) hP hD hS hA isC isR hC hR hnd.2 kk
/-- invokevirtual of an inherited method, or of one that stands for an abstract one -/
theorem cs_U {cc cy : ByteArray} {nL mL idx n ci q0 b : Nat} {rety : Option FieldType} {rm : Room} {own owner : String} {x y : MethodName} {q : vw_C} {As : List Value} {fs : List Value}
    (hx : p.tables.exec = Jvm.exec) (hb : c.code = cc) (hml : c.maxLocals = nL) (hown : s.vm.findClass own = some m.cls) (hts : ∀ w ∈ uT, w.before args s = true) (hGok : GOK G) (hK : va_K D vwCl (TY ta) s) (hA : ∀ q, s.heap.size ≤ q → A q) (hG : G A s s.heap) (hlz : ls.size = nL)
    (hP : va_P D vwCl ws H) (hD : va_D A ws) (hS : va_S A s.heap H locs)
    (hM : CT l y cy mL rety rm D ta G (.ref b :: As) wc H.size rv post W1 mc ms)
    (w0 : .code y cy mL rety ∈ uT) (w1 : .methodLink own idx x ∈ uT) (w2 : .instanceMethod y ∈ uT) (w3 : .selects q.1 x y ∈ uT) (w4 : .initialized y.cls ∈ uT) (w5 : .sameMethod x.cls owner x.name x.desc ∈ uT) (hdec : va_Decl s ⟨owner, x.name, x.desc⟩)
    (hd : owner ≠ "java/lang/invoke/MethodHandle" ∧ owner ≠ "java/lang/invoke/VarHandle" ∧ (parseMethodDescriptor x.desc).map (fun d => d.parameters.length) = some n) (hn : As.length = n)
    (hrm : rm.cells = mc ∧ rm.slots = ms ∧ rm.frames + 1 ≤ R.frames ∧ 8 + (mL + 11) + rm.locals ≤ R.locals ∧ cells + mc ≤ R.cells ∧ slots + ms ≤ R.slots)
    (hci : vwCl[ci]? = some q) (he : ws[q0]? = some (b, .inr (ci, fs)))
    (isC isR : List Nat) (hC : isC.map (fun i => ws[i]?) = wc.map some) (hR : isR.map (fun i => ws[i]?) = wr.map some) (hnd : (va_nd isC && (va_nd isR && isR.all (fun i => !isC.contains i))) = true)
    (hst : st0 = As.reverse ++ .ref b :: rest) (hcat : (rest.map fun v => v.category).sum ≤ 8) (hdg : decode cc pc = .ok (.invokevirtual idx, 3))
    (kk : ∀ (u : S) (H1 : Heap) (locs1 : List Loc), post u → va_P D vwCl (wr ++ W1 u) H1 → va_D A (wr ++ W1 u) → va_S A s.heap H1 locs1 → W p l e R s m args below meth c H1 locs1 (cells + mc) (slots + ms) Q (F0 m (pc + 3) ls ((rv u).toList ++ rest))) :
    W p l e R s m args below meth c H locs cells slots Q (F0 m pc ls st0) := by
  rw [Bool.and_eq_true] at hnd
  have hpre := cs_pre (av := .ref b :: As) hGok hK hP hD hS hA hG isC hC hnd.1
  have cw : va_CU R s args own q.1 owner idx x y cy mL rety (.code y cy mL rety :: uT) rm mc ms n := by
    refine ⟨⟨hrm.1, hrm.2.1, hrm.2.2.1, hrm.2.2.2.1, pay_in hts (uni_in w0), List.mem_cons_self⟩, hts _ w0, hts _ w4, ⟨hd.1, hd.2.1⟩, fun sig h => ?_, hts _ w1, hts _ w5, hdec, hts _ w3, hts _ w2⟩
    have h2 := hd.2.2
    rw [h] at h2
    exact (Option.some.inj h2).symm
  subst hst
  exact cs_go (va_runU (As := As) (rest := rest) ⟨hx, hb, hml, hown, hts⟩ hM cw ⟨hpre.1, va_recv hK hP hci he, hpre.2⟩ rfl hn hlz rfl (lv_room hcat) hdg hrm.2.2.2.2) hP hD hS hA isC isR hC hR hnd.2 kk
/-- invokestatic -/
theorem cs_S {cc cy : ByteArray} {nL mL idx n : Nat} {rety : Option FieldType} {rm : Room} {own : String} {y : MethodName} {As : List Value}
    (hx : p.tables.exec = Jvm.exec) (hb : c.code = cc) (hml : c.maxLocals = nL) (hown : s.vm.findClass own = some m.cls) (hts : ∀ w ∈ uT, w.before args s = true) (hGok : GOK G) (hK : va_K D vwCl (TY ta) s) (hA : ∀ q, s.heap.size ≤ q → A q) (hG : G A s s.heap) (hlz : ls.size = nL)
    (hP : va_P D vwCl ws H) (hD : va_D A ws) (hS : va_S A s.heap H locs)
    (hM : CT l y cy mL rety rm D ta G As wc H.size rv post W1 mc ms)
    (w0 : .code y cy mL rety ∈ uT) (w1 : .methodLink own idx y ∈ uT) (w2 : .static y ∈ uT) (w4 : .initialized y.cls ∈ uT)
    (hd : y.cls ≠ "java/lang/invoke/MethodHandle" ∧ y.cls ≠ "java/lang/invoke/VarHandle" ∧ (parseMethodDescriptor y.desc).map (fun d => d.parameters.length) = some n) (hn : As.length = n)
    (hrm : rm.cells = mc ∧ rm.slots = ms ∧ rm.frames + 1 ≤ R.frames ∧ 8 + (mL + 11) + rm.locals ≤ R.locals ∧ cells + mc ≤ R.cells ∧ slots + ms ≤ R.slots)
    (isC isR : List Nat) (hC : isC.map (fun i => ws[i]?) = wc.map some) (hR : isR.map (fun i => ws[i]?) = wr.map some) (hnd : (va_nd isC && (va_nd isR && isR.all (fun i => !isC.contains i))) = true)
    (hst : st0 = As.reverse ++ rest) (hcat : (rest.map fun v => v.category).sum ≤ 8) (hdg : decode cc pc = .ok (.invokestatic idx, 3))
    (kk : ∀ (u : S) (H1 : Heap) (locs1 : List Loc), post u → va_P D vwCl (wr ++ W1 u) H1 → va_D A (wr ++ W1 u) → va_S A s.heap H1 locs1 → W p l e R s m args below meth c H1 locs1 (cells + mc) (slots + ms) Q (F0 m (pc + 3) ls ((rv u).toList ++ rest))) :
    W p l e R s m args below meth c H locs cells slots Q (F0 m pc ls st0) := by
  rw [Bool.and_eq_true] at hnd
  have hpre := cs_pre (av := As) hGok hK hP hD hS hA hG isC hC hnd.1
  subst hst
  exact cs_go (va_runS (As := As) (rest := rest) ⟨hx, hb, hml, hown, hts⟩ hM ⟨callB_of n hts (uni_in w0) rfl hrm.1 hrm.2.1 (hts _ w4) (hts _ w1) hd ⟨hrm.2.2.1, hrm.2.2.2.1⟩, hts _ w2⟩ hpre rfl hn hlz rfl (lv_room hcat) hdg hrm.2.2.2.2) hP hD hS hA isC isR hC hR hnd.2 kk
/-- invokespecial of a constructor -/
theorem cs_I {cc cy : ByteArray} {nL mL idx n b : Nat} {rm : Room} {own : String} {y : MethodName} {As : List Value}
    (hx : p.tables.exec = Jvm.exec) (hb : c.code = cc) (hml : c.maxLocals = nL) (hown : s.vm.findClass own = some m.cls) (hts : ∀ w ∈ uT, w.before args s = true) (hGok : GOK G) (hK : va_K D vwCl (TY ta) s) (hA : ∀ q, s.heap.size ≤ q → A q) (hG : G A s s.heap) (hlz : ls.size = nL)
    (hP : va_P D vwCl ws H) (hD : va_D A ws) (hS : va_S A s.heap H locs)
    (hM : CT l y cy mL none rm D ta G (.ref b :: As) wc H.size rv post W1 mc ms)
    (w0 : .code y cy mL none ∈ uT) (w1 : .methodLink own idx y ∈ uT) (w2 : .instanceMethod y ∈ uT) (w4 : .initialized y.cls ∈ uT) (hy1 : y.name = "<init>")
    (hd : y.cls ≠ "java/lang/invoke/MethodHandle" ∧ y.cls ≠ "java/lang/invoke/VarHandle" ∧ (parseMethodDescriptor y.desc).map (fun d => d.parameters.length) = some n) (hn : As.length = n)
    (hrm : rm.cells = mc ∧ rm.slots = ms ∧ rm.frames + 1 ≤ R.frames ∧ 8 + (mL + 11) + rm.locals ≤ R.locals ∧ cells + mc ≤ R.cells ∧ slots + ms ≤ R.slots)
    (isC isR : List Nat) (hC : isC.map (fun i => ws[i]?) = wc.map some) (hR : isR.map (fun i => ws[i]?) = wr.map some) (hnd : (va_nd isC && (va_nd isR && isR.all (fun i => !isC.contains i))) = true)
    (hst : st0 = As.reverse ++ .ref b :: rest) (hcat : (rest.map fun v => v.category).sum ≤ 8) (hdg : decode cc pc = .ok (.invokespecial idx, 3))
    (kk : ∀ (u : S) (H1 : Heap) (locs1 : List Loc), post u → va_P D vwCl (wr ++ W1 u) H1 → va_D A (wr ++ W1 u) → va_S A s.heap H1 locs1 → W p l e R s m args below meth c H1 locs1 (cells + mc) (slots + ms) Q (F0 m (pc + 3) ls ((rv u).toList ++ rest))) :
    W p l e R s m args below meth c H locs cells slots Q (F0 m pc ls st0) := by
  rw [Bool.and_eq_true] at hnd
  have hpre := cs_pre (av := .ref b :: As) hGok hK hP hD hS hA hG isC hC hnd.1
  subst hst
  exact cs_go (va_runI (As := As) (rest := rest) ⟨hx, hb, hml, hown, hts⟩ hM ⟨callB_of n hts (uni_in w0) rfl hrm.1 hrm.2.1 (hts _ w4) (hts _ w1) hd ⟨hrm.2.2.1, hrm.2.2.2.1⟩, hy1, hts _ w2⟩ hpre rfl hn hlz rfl (lv_room hcat) hdg hrm.2.2.2.2) hP hD hS hA isC isR hC hR hnd.2 kk
/-- invokespecial of a nest mate's private constructor -/
theorem cs_IN {cc cy : ByteArray} {nL mL idx n b : Nat} {rm : Room} {own host : String} {y : MethodName} {As : List Value}
    (hx : p.tables.exec = Jvm.exec) (hb : c.code = cc) (hml : c.maxLocals = nL) (hown : s.vm.findClass own = some m.cls) (hts : ∀ w ∈ uT, w.before args s = true) (hGok : GOK G) (hK : va_K D vwCl (TY ta) s) (hA : ∀ q, s.heap.size ≤ q → A q) (hG : G A s s.heap) (hlz : ls.size = nL)
    (hP : va_P D vwCl ws H) (hD : va_D A ws) (hS : va_S A s.heap H locs)
    (hM : CT l y cy mL none rm D ta G (.ref b :: As) wc H.size rv post W1 mc ms)
    (w0 : .code y cy mL none ∈ uT) (w1 : va_Nw (.methodLinkNest own idx y host) s) (w2 : .instanceMethod y ∈ uT) (w4 : .initialized y.cls ∈ uT) (hy1 : y.name = "<init>")
    (hd : y.cls ≠ "java/lang/invoke/MethodHandle" ∧ y.cls ≠ "java/lang/invoke/VarHandle" ∧ (parseMethodDescriptor y.desc).map (fun d => d.parameters.length) = some n) (hn : As.length = n)
    (hrm : rm.cells = mc ∧ rm.slots = ms ∧ rm.frames + 1 ≤ R.frames ∧ 8 + (mL + 11) + rm.locals ≤ R.locals ∧ cells + mc ≤ R.cells ∧ slots + ms ≤ R.slots)
    (isC isR : List Nat) (hC : isC.map (fun i => ws[i]?) = wc.map some) (hR : isR.map (fun i => ws[i]?) = wr.map some) (hnd : (va_nd isC && (va_nd isR && isR.all (fun i => !isC.contains i))) = true)
    (hst : st0 = As.reverse ++ .ref b :: rest) (hcat : (rest.map fun v => v.category).sum ≤ 8) (hdg : decode cc pc = .ok (.invokespecial idx, 3))
    (kk : ∀ (u : S) (H1 : Heap) (locs1 : List Loc), post u → va_P D vwCl (wr ++ W1 u) H1 → va_D A (wr ++ W1 u) → va_S A s.heap H1 locs1 → W p l e R s m args below meth c H1 locs1 (cells + mc) (slots + ms) Q (F0 m (pc + 3) ls ((rv u).toList ++ rest))) :
    W p l e R s m args below meth c H locs cells slots Q (F0 m pc ls st0) := by
  rw [Bool.and_eq_true] at hnd
  have hpre := cs_pre (av := .ref b :: As) hGok hK hP hD hS hA hG isC hC hnd.1
  subst hst
  exact cs_go (va_runIN (As := As) (rest := rest) ⟨hx, hb, hml, hown, hts⟩ hM ⟨va_cnB n hts (uni_in w0) rfl hrm.1 hrm.2.1 w1 (hts _ w4) hd ⟨hrm.2.2.1, hrm.2.2.2.1⟩, hy1, hts _ w2⟩ hpre rfl hn hlz rfl (lv_room hcat) hdg hrm.2.2.2.2) hP hD hS hA isC isR hC hR hnd.2 kk
end LibCall
