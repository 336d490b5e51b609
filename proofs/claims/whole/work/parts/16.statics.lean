/-! what every method of the class may rest on: the statics, and the words that are not kept by themselves -/
def nwOK : Cond → Bool
  | .fieldLinkNest .. => true
  | .methodLinkNest .. => true
  | .declares _ => true
  | _ => false
def nwL : List Cond := lw_tbl.filter nwOK
theorem nw_warm {w : Cond} (h : nwOK w = true) {s U : State} (hW : s.WarmedH U.vm) (hz : va_Nw w s) : va_Nw w U := by
  cases w <;> first | exact Bool.noConfusion (show false = true from h) | exact va_Nw.warmF hW hz | exact va_Nw.warmM hW hz | exact va_Nw.warmD hW hz
theorem nw_same {w : Cond} (h : nwOK w = true) {u U : State} (e : u.vm = U.vm) (hz : va_Nw w u) : va_Nw w U := by
  cases w <;> first | exact Bool.noConfusion (show false = true from h) | exact va_Nw.same rfl e hz
def stOK (C n d : String) (ty : FieldType) (N : Nat) (f : Nat → Value) (t : Nat) (A : Nat → Prop) (U : State) (H : Heap) : Prop := va_Z C n d (.ref t) A U H ∧ va_T ty t N f A U H
theorem stOK.go {C n d : String} {ty : FieldType} {N : Nat} {f : Nat → Value} {t : Nat} {A A' : Nat → Prop} {s U : State} {H : Heap} (h : stOK C n d ty N f t A s s.heap) (hA : ∀ q, A' q → A q) (hW : s.vm.Alike U.vm) (hk : ∀ q : Nat, q < s.heap.size → ¬ A q → H[q]? = s.heap[q]?) : stOK C n d ty N f t A' U H :=
  ⟨((h.1.kept hk).moved hW).narrow hA, ((h.2.kept hk).moved hW).narrow hA⟩
def GC (gs : Nat → Nat) (A : Nat → Prop) (U : State) (H : Heap) : Prop :=
  stOK "LineGuard$Aes" "BOX" "[I" .int 256 (fun j => .int (qz (BOX j))) (gs 0) A U H ∧
  stOK "LineGuard$Des" "SWAPS" "[I" .int 5 (fun j => .int (nI (tSWP j))) (gs 1) A U H ∧
  stOK "LineGuard$Des" "SWAP_MASKS" "[J" .long 5 (fun j => .long (lN (tMSK j))) (gs 2) A U H ∧
  stOK "LineGuard$Des" "CHOICE_1" "[I" .int 56 (fun j => .int (nI (tCH j))) (gs 3) A U H ∧
  stOK "LineGuard$Des" "CHOICE_2" "[I" .int 48 (fun j => .int (nI (tSEC j))) (gs 4) A U H ∧
  stOK "LineGuard$Des" "SHIFTS" "[I" .int 16 (fun j => .int (nI (tSHF j))) (gs 5) A U H ∧
  stOK "LineGuard$Des" "SPREAD" "[I" .int 32 (fun j => .int (nI (tMIX j))) (gs 6) A U H ∧
  stOK "LineGuard$Des" "BOXES" "[I" .int 512 (fun j => .int (nI (tSBX j))) (gs 7) A U H ∧
  ∀ w ∈ nwL, va_Nw w U
theorem GC_ok (gs : Nat → Nat) : GOK (GC gs) := by
  refine ⟨fun A A' s U H h hA hW hk => ?_, fun A U g mk a h => ?_⟩
  · obtain ⟨h0, h1, h2, h3, h4, h5, h6, h7, hw⟩ := h
    exact ⟨h0.go hA hW.alike hk, h1.go hA hW.alike hk, h2.go hA hW.alike hk, h3.go hA hW.alike hk, h4.go hA hW.alike hk, h5.go hA hW.alike hk, h6.go hA hW.alike hk, h7.go hA hW.alike hk, fun w m => nw_warm (List.mem_filter.mp m).2 hW (hw w m)⟩
  · obtain ⟨h0, h1, h2, h3, h4, h5, h6, h7, hw⟩ := h
    have e : U.vm.Alike (U.calling g mk a).vm := Vm.Alike.refl U.vm
    exact ⟨h0.go (fun _ q => q) e (fun _ _ _ => rfl), h1.go (fun _ q => q) e (fun _ _ _ => rfl), h2.go (fun _ q => q) e (fun _ _ _ => rfl), h3.go (fun _ q => q) e (fun _ _ _ => rfl), h4.go (fun _ q => q) e (fun _ _ _ => rfl), h5.go (fun _ q => q) e (fun _ _ _ => rfl), h6.go (fun _ q => q) e (fun _ _ _ => rfl), h7.go (fun _ q => q) e (fun _ _ _ => rfl), fun w m => nw_same (u := U) (U := U.calling g mk a) (List.mem_filter.mp m).2 rfl (hw w m)⟩
theorem GC_z0 {gs : Nat → Nat} {A : Nat → Prop} {U : State} {H : Heap} (h : GC gs A U H) : va_Z "LineGuard$Aes" "BOX" "[I" (.ref (gs 0)) A U H := h.1.1
theorem GC_t0 {gs : Nat → Nat} {A : Nat → Prop} {U : State} {H : Heap} (h : GC gs A U H) : va_T .int (gs 0) 256 (fun j => .int (qz (BOX j))) A U H := h.1.2
theorem GC_z1 {gs : Nat → Nat} {A : Nat → Prop} {U : State} {H : Heap} (h : GC gs A U H) : va_Z "LineGuard$Des" "SWAPS" "[I" (.ref (gs 1)) A U H := h.2.1.1
theorem GC_t1 {gs : Nat → Nat} {A : Nat → Prop} {U : State} {H : Heap} (h : GC gs A U H) : va_T .int (gs 1) 5 (fun j => .int (nI (tSWP j))) A U H := h.2.1.2
theorem GC_z2 {gs : Nat → Nat} {A : Nat → Prop} {U : State} {H : Heap} (h : GC gs A U H) : va_Z "LineGuard$Des" "SWAP_MASKS" "[J" (.ref (gs 2)) A U H := h.2.2.1.1
theorem GC_t2 {gs : Nat → Nat} {A : Nat → Prop} {U : State} {H : Heap} (h : GC gs A U H) : va_T .long (gs 2) 5 (fun j => .long (lN (tMSK j))) A U H := h.2.2.1.2
theorem GC_z3 {gs : Nat → Nat} {A : Nat → Prop} {U : State} {H : Heap} (h : GC gs A U H) : va_Z "LineGuard$Des" "CHOICE_1" "[I" (.ref (gs 3)) A U H := h.2.2.2.1.1
theorem GC_t3 {gs : Nat → Nat} {A : Nat → Prop} {U : State} {H : Heap} (h : GC gs A U H) : va_T .int (gs 3) 56 (fun j => .int (nI (tCH j))) A U H := h.2.2.2.1.2
theorem GC_z4 {gs : Nat → Nat} {A : Nat → Prop} {U : State} {H : Heap} (h : GC gs A U H) : va_Z "LineGuard$Des" "CHOICE_2" "[I" (.ref (gs 4)) A U H := h.2.2.2.2.1.1
theorem GC_t4 {gs : Nat → Nat} {A : Nat → Prop} {U : State} {H : Heap} (h : GC gs A U H) : va_T .int (gs 4) 48 (fun j => .int (nI (tSEC j))) A U H := h.2.2.2.2.1.2
theorem GC_z5 {gs : Nat → Nat} {A : Nat → Prop} {U : State} {H : Heap} (h : GC gs A U H) : va_Z "LineGuard$Des" "SHIFTS" "[I" (.ref (gs 5)) A U H := h.2.2.2.2.2.1.1
theorem GC_t5 {gs : Nat → Nat} {A : Nat → Prop} {U : State} {H : Heap} (h : GC gs A U H) : va_T .int (gs 5) 16 (fun j => .int (nI (tSHF j))) A U H := h.2.2.2.2.2.1.2
theorem GC_z6 {gs : Nat → Nat} {A : Nat → Prop} {U : State} {H : Heap} (h : GC gs A U H) : va_Z "LineGuard$Des" "SPREAD" "[I" (.ref (gs 6)) A U H := h.2.2.2.2.2.2.1.1
theorem GC_t6 {gs : Nat → Nat} {A : Nat → Prop} {U : State} {H : Heap} (h : GC gs A U H) : va_T .int (gs 6) 32 (fun j => .int (nI (tMIX j))) A U H := h.2.2.2.2.2.2.1.2
theorem GC_z7 {gs : Nat → Nat} {A : Nat → Prop} {U : State} {H : Heap} (h : GC gs A U H) : va_Z "LineGuard$Des" "BOXES" "[I" (.ref (gs 7)) A U H := h.2.2.2.2.2.2.2.1.1
theorem GC_t7 {gs : Nat → Nat} {A : Nat → Prop} {U : State} {H : Heap} (h : GC gs A U H) : va_T .int (gs 7) 512 (fun j => .int (nI (tSBX j))) A U H := h.2.2.2.2.2.2.2.1.2
theorem GC_w100 {gs : Nat → Nat} {A : Nat → Prop} {U : State} {H : Heap} (h : GC gs A U H) : va_Nw (.methodLinkNest "LineGuard" 29 ⟨"LineGuard$Keys", "<init>", "()V"⟩ "LineGuard") U := h.2.2.2.2.2.2.2.2 _ (List.mem_filter.mpr ⟨tn_100, rfl⟩)
theorem GC_w107 {gs : Nat → Nat} {A : Nat → Prop} {U : State} {H : Heap} (h : GC gs A U H) : va_Nw (.fieldLinkNest "LineGuard" 103 "LineGuard$Keys" "rule" "I" "LineGuard") U := h.2.2.2.2.2.2.2.2 _ (List.mem_filter.mpr ⟨tn_107, rfl⟩)
theorem GC_w109 {gs : Nat → Nat} {A : Nat → Prop} {U : State} {H : Heap} (h : GC gs A U H) : va_Nw (.fieldLinkNest "LineGuard$NewerRule" 53 "LineGuard$Keys" "length" "I" "LineGuard") U := h.2.2.2.2.2.2.2.2 _ (List.mem_filter.mpr ⟨tn_109, rfl⟩)
theorem GC_w110 {gs : Nat → Nat} {A : Nat → Prop} {U : State} {H : Heap} (h : GC gs A U H) : va_Nw (.fieldLinkNest "LineGuard" 106 "LineGuard$Keys" "length" "I" "LineGuard") U := h.2.2.2.2.2.2.2.2 _ (List.mem_filter.mpr ⟨tn_110, rfl⟩)
theorem GC_w112 {gs : Nat → Nat} {A : Nat → Prop} {U : State} {H : Heap} (h : GC gs A U H) : va_Nw (.fieldLinkNest "LineGuard$NewerRule" 39 "LineGuard$Keys" "enc" "LLineGuard$Row;" "LineGuard") U := h.2.2.2.2.2.2.2.2 _ (List.mem_filter.mpr ⟨tn_112, rfl⟩)
theorem GC_w113 {gs : Nat → Nat} {A : Nat → Prop} {U : State} {H : Heap} (h : GC gs A U H) : va_Nw (.fieldLinkNest "LineGuard$OlderRule" 54 "LineGuard$Keys" "enc" "LLineGuard$Row;" "LineGuard") U := h.2.2.2.2.2.2.2.2 _ (List.mem_filter.mpr ⟨tn_113, rfl⟩)
theorem GC_w115 {gs : Nat → Nat} {A : Nat → Prop} {U : State} {H : Heap} (h : GC gs A U H) : va_Nw (.fieldLinkNest "LineGuard$OlderRule" 18 "LineGuard$Keys" "mac" "LLineGuard$Row;" "LineGuard") U := h.2.2.2.2.2.2.2.2 _ (List.mem_filter.mpr ⟨tn_115, rfl⟩)
theorem GC_w116 {gs : Nat → Nat} {A : Nat → Prop} {U : State} {H : Heap} (h : GC gs A U H) : va_Nw (.fieldLinkNest "LineGuard$NewerRule" 58 "LineGuard$Keys" "mac" "LLineGuard$Row;" "LineGuard") U := h.2.2.2.2.2.2.2.2 _ (List.mem_filter.mpr ⟨tn_116, rfl⟩)
theorem GC_w118 {gs : Nat → Nat} {A : Nat → Prop} {U : State} {H : Heap} (h : GC gs A U H) : va_Nw (.fieldLinkNest "LineGuard$OlderRule" 61 "LineGuard$Keys" "seal" "LLineGuard$Row;" "LineGuard") U := h.2.2.2.2.2.2.2.2 _ (List.mem_filter.mpr ⟨tn_118, rfl⟩)
theorem GC_w119 {gs : Nat → Nat} {A : Nat → Prop} {U : State} {H : Heap} (h : GC gs A U H) : va_Nw (.fieldLinkNest "LineGuard$NewerRule" 68 "LineGuard$Keys" "seal" "LLineGuard$Row;" "LineGuard") U := h.2.2.2.2.2.2.2.2 _ (List.mem_filter.mpr ⟨tn_119, rfl⟩)
theorem GC_w133 {gs : Nat → Nat} {A : Nat → Prop} {U : State} {H : Heap} (h : GC gs A U H) : va_Nw (.methodLinkNest "LineGuard" 39 ⟨"LineGuard$Session", "<init>", "()V"⟩ "LineGuard") U := h.2.2.2.2.2.2.2.2 _ (List.mem_filter.mpr ⟨tn_133, rfl⟩)
theorem GC_w140 {gs : Nat → Nat} {A : Nat → Prop} {U : State} {H : Heap} (h : GC gs A U H) : va_Nw (.fieldLinkNest "LineGuard" 139 "LineGuard$Session" "state" "I" "LineGuard") U := h.2.2.2.2.2.2.2.2 _ (List.mem_filter.mpr ⟨tn_140, rfl⟩)
theorem GC_w142 {gs : Nat → Nat} {A : Nat → Prop} {U : State} {H : Heap} (h : GC gs A U H) : va_Nw (.fieldLinkNest "LineGuard$Rule" 43 "LineGuard$Session" "level" "I" "LineGuard") U := h.2.2.2.2.2.2.2.2 _ (List.mem_filter.mpr ⟨tn_142, rfl⟩)
theorem GC_w143 {gs : Nat → Nat} {A : Nat → Prop} {U : State} {H : Heap} (h : GC gs A U H) : va_Nw (.fieldLinkNest "LineGuard" 216 "LineGuard$Session" "level" "I" "LineGuard") U := h.2.2.2.2.2.2.2.2 _ (List.mem_filter.mpr ⟨tn_143, rfl⟩)
theorem GC_w145 {gs : Nat → Nat} {A : Nat → Prop} {U : State} {H : Heap} (h : GC gs A U H) : va_Nw (.fieldLinkNest "LineGuard$OlderRule" 57 "LineGuard$Session" "enc" "LLineGuard$Row;" "LineGuard") U := h.2.2.2.2.2.2.2.2 _ (List.mem_filter.mpr ⟨tn_145, rfl⟩)
theorem GC_w146 {gs : Nat → Nat} {A : Nat → Prop} {U : State} {H : Heap} (h : GC gs A U H) : va_Nw (.fieldLinkNest "LineGuard$NewerRule" 57 "LineGuard$Session" "enc" "LLineGuard$Row;" "LineGuard") U := h.2.2.2.2.2.2.2.2 _ (List.mem_filter.mpr ⟨tn_146, rfl⟩)
theorem GC_w148 {gs : Nat → Nat} {A : Nat → Prop} {U : State} {H : Heap} (h : GC gs A U H) : va_Nw (.fieldLinkNest "LineGuard$OlderRule" 24 "LineGuard$Session" "mac" "LLineGuard$Row;" "LineGuard") U := h.2.2.2.2.2.2.2.2 _ (List.mem_filter.mpr ⟨tn_148, rfl⟩)
theorem GC_w149 {gs : Nat → Nat} {A : Nat → Prop} {U : State} {H : Heap} (h : GC gs A U H) : va_Nw (.fieldLinkNest "LineGuard$NewerRule" 61 "LineGuard$Session" "mac" "LLineGuard$Row;" "LineGuard") U := h.2.2.2.2.2.2.2.2 _ (List.mem_filter.mpr ⟨tn_149, rfl⟩)
theorem GC_w151 {gs : Nat → Nat} {A : Nat → Prop} {U : State} {H : Heap} (h : GC gs A U H) : va_Nw (.fieldLinkNest "LineGuard$OlderRule" 58 "LineGuard$Session" "back" "LLineGuard$Row;" "LineGuard") U := h.2.2.2.2.2.2.2.2 _ (List.mem_filter.mpr ⟨tn_151, rfl⟩)
theorem GC_w152 {gs : Nat → Nat} {A : Nat → Prop} {U : State} {H : Heap} (h : GC gs A U H) : va_Nw (.fieldLinkNest "LineGuard$NewerRule" 62 "LineGuard$Session" "back" "LLineGuard$Row;" "LineGuard") U := h.2.2.2.2.2.2.2.2 _ (List.mem_filter.mpr ⟨tn_152, rfl⟩)
theorem GC_w154 {gs : Nat → Nat} {A : Nat → Prop} {U : State} {H : Heap} (h : GC gs A U H) : va_Nw (.fieldLinkNest "LineGuard$OlderRule" 64 "LineGuard$Session" "seal" "LLineGuard$Row;" "LineGuard") U := h.2.2.2.2.2.2.2.2 _ (List.mem_filter.mpr ⟨tn_154, rfl⟩)
theorem GC_w155 {gs : Nat → Nat} {A : Nat → Prop} {U : State} {H : Heap} (h : GC gs A U H) : va_Nw (.fieldLinkNest "LineGuard$NewerRule" 65 "LineGuard$Session" "seal" "LLineGuard$Row;" "LineGuard") U := h.2.2.2.2.2.2.2.2 _ (List.mem_filter.mpr ⟨tn_155, rfl⟩)
theorem GC_w156 {gs : Nat → Nat} {A : Nat → Prop} {U : State} {H : Heap} (h : GC gs A U H) : va_Nw (.fieldLinkNest "LineGuard" 205 "LineGuard$Session" "seal" "LLineGuard$Row;" "LineGuard") U := h.2.2.2.2.2.2.2.2 _ (List.mem_filter.mpr ⟨tn_156, rfl⟩)
theorem GC_w158 {gs : Nat → Nat} {A : Nat → Prop} {U : State} {H : Heap} (h : GC gs A U H) : va_Nw (.fieldLinkNest "LineGuard$NewerRule" 72 "LineGuard$Session" "holderProof" "LLineGuard$Row;" "LineGuard") U := h.2.2.2.2.2.2.2.2 _ (List.mem_filter.mpr ⟨tn_158, rfl⟩)
theorem GC_w159 {gs : Nat → Nat} {A : Nat → Prop} {U : State} {H : Heap} (h : GC gs A U H) : va_Nw (.fieldLinkNest "LineGuard$OlderRule" 75 "LineGuard$Session" "holderProof" "LLineGuard$Row;" "LineGuard") U := h.2.2.2.2.2.2.2.2 _ (List.mem_filter.mpr ⟨tn_159, rfl⟩)
theorem GC_w160 {gs : Nat → Nat} {A : Nat → Prop} {U : State} {H : Heap} (h : GC gs A U H) : va_Nw (.fieldLinkNest "LineGuard" 129 "LineGuard$Session" "holderProof" "LLineGuard$Row;" "LineGuard") U := h.2.2.2.2.2.2.2.2 _ (List.mem_filter.mpr ⟨tn_160, rfl⟩)
theorem GC_w162 {gs : Nat → Nat} {A : Nat → Prop} {U : State} {H : Heap} (h : GC gs A U H) : va_Nw (.fieldLinkNest "LineGuard$NewerRule" 75 "LineGuard$Session" "callerProof" "LLineGuard$Row;" "LineGuard") U := h.2.2.2.2.2.2.2.2 _ (List.mem_filter.mpr ⟨tn_162, rfl⟩)
theorem GC_w163 {gs : Nat → Nat} {A : Nat → Prop} {U : State} {H : Heap} (h : GC gs A U H) : va_Nw (.fieldLinkNest "LineGuard$OlderRule" 82 "LineGuard$Session" "callerProof" "LLineGuard$Row;" "LineGuard") U := h.2.2.2.2.2.2.2.2 _ (List.mem_filter.mpr ⟨tn_163, rfl⟩)
theorem GC_w164 {gs : Nat → Nat} {A : Nat → Prop} {U : State} {H : Heap} (h : GC gs A U H) : va_Nw (.fieldLinkNest "LineGuard" 151 "LineGuard$Session" "callerProof" "LLineGuard$Row;" "LineGuard") U := h.2.2.2.2.2.2.2.2 _ (List.mem_filter.mpr ⟨tn_164, rfl⟩)
theorem GC_w166 {gs : Nat → Nat} {A : Nat → Prop} {U : State} {H : Heap} (h : GC gs A U H) : va_Nw (.fieldLinkNest "LineGuard$NewerRule" 44 "LineGuard$Session" "challenge" "LLineGuard$Row;" "LineGuard") U := h.2.2.2.2.2.2.2.2 _ (List.mem_filter.mpr ⟨tn_166, rfl⟩)
theorem GC_w167 {gs : Nat → Nat} {A : Nat → Prop} {U : State} {H : Heap} (h : GC gs A U H) : va_Nw (.fieldLinkNest "LineGuard$OlderRule" 43 "LineGuard$Session" "challenge" "LLineGuard$Row;" "LineGuard") U := h.2.2.2.2.2.2.2.2 _ (List.mem_filter.mpr ⟨tn_167, rfl⟩)
theorem GC_w168 {gs : Nat → Nat} {A : Nat → Prop} {U : State} {H : Heap} (h : GC gs A U H) : va_Nw (.fieldLinkNest "LineGuard" 126 "LineGuard$Session" "challenge" "LLineGuard$Row;" "LineGuard") U := h.2.2.2.2.2.2.2.2 _ (List.mem_filter.mpr ⟨tn_168, rfl⟩)
theorem GC_w170 {gs : Nat → Nat} {A : Nat → Prop} {U : State} {H : Heap} (h : GC gs A U H) : va_Nw (.fieldLinkNest "LineGuard$NewerRule" 101 "LineGuard$Session" "chain" "LLineGuard$Row;" "LineGuard") U := h.2.2.2.2.2.2.2.2 _ (List.mem_filter.mpr ⟨tn_170, rfl⟩)
theorem GC_w171 {gs : Nat → Nat} {A : Nat → Prop} {U : State} {H : Heap} (h : GC gs A U H) : va_Nw (.fieldLinkNest "LineGuard$OlderRule" 120 "LineGuard$Session" "chain" "LLineGuard$Row;" "LineGuard") U := h.2.2.2.2.2.2.2.2 _ (List.mem_filter.mpr ⟨tn_171, rfl⟩)
theorem GC_w173 {gs : Nat → Nat} {A : Nat → Prop} {U : State} {H : Heap} (h : GC gs A U H) : va_Nw (.fieldLinkNest "LineGuard$OlderRule" 145 "LineGuard$Session" "backChain" "LLineGuard$Row;" "LineGuard") U := h.2.2.2.2.2.2.2.2 _ (List.mem_filter.mpr ⟨tn_173, rfl⟩)
theorem GC_w175 {gs : Nat → Nat} {A : Nat → Prop} {U : State} {H : Heap} (h : GC gs A U H) : va_Nw (.fieldLinkNest "LineGuard$NewerRule" 78 "LineGuard$Session" "command" "LLineGuard$Row;" "LineGuard") U := h.2.2.2.2.2.2.2.2 _ (List.mem_filter.mpr ⟨tn_175, rfl⟩)
theorem GC_w176 {gs : Nat → Nat} {A : Nat → Prop} {U : State} {H : Heap} (h : GC gs A U H) : va_Nw (.fieldLinkNest "LineGuard$OlderRule" 92 "LineGuard$Session" "command" "LLineGuard$Row;" "LineGuard") U := h.2.2.2.2.2.2.2.2 _ (List.mem_filter.mpr ⟨tn_176, rfl⟩)
theorem GC_w177 {gs : Nat → Nat} {A : Nat → Prop} {U : State} {H : Heap} (h : GC gs A U H) : va_Nw (.fieldLinkNest "LineGuard" 145 "LineGuard$Session" "command" "LLineGuard$Row;" "LineGuard") U := h.2.2.2.2.2.2.2.2 _ (List.mem_filter.mpr ⟨tn_177, rfl⟩)
theorem GC_w179 {gs : Nat → Nat} {A : Nat → Prop} {U : State} {H : Heap} (h : GC gs A U H) : va_Nw (.fieldLinkNest "LineGuard$OlderRule" 166 "LineGuard$Session" "count" "I" "LineGuard") U := h.2.2.2.2.2.2.2.2 _ (List.mem_filter.mpr ⟨tn_179, rfl⟩)
theorem GC_w180 {gs : Nat → Nat} {A : Nat → Prop} {U : State} {H : Heap} (h : GC gs A U H) : va_Nw (.fieldLinkNest "LineGuard" 167 "LineGuard$Session" "count" "I" "LineGuard") U := h.2.2.2.2.2.2.2.2 _ (List.mem_filter.mpr ⟨tn_180, rfl⟩)
theorem GC_w181 {gs : Nat → Nat} {A : Nat → Prop} {U : State} {H : Heap} (h : GC gs A U H) : va_Nw (.fieldLinkNest "LineGuard$NewerRule" 184 "LineGuard$Session" "count" "I" "LineGuard") U := h.2.2.2.2.2.2.2.2 _ (List.mem_filter.mpr ⟨tn_181, rfl⟩)
theorem GC_w183 {gs : Nat → Nat} {A : Nat → Prop} {U : State} {H : Heap} (h : GC gs A U H) : va_Nw (.fieldLinkNest "LineGuard" 170 "LineGuard$Session" "commanded" "Z" "LineGuard") U := h.2.2.2.2.2.2.2.2 _ (List.mem_filter.mpr ⟨tn_183, rfl⟩)
theorem GC_w215 {gs : Nat → Nat} {A : Nat → Prop} {U : State} {H : Heap} (h : GC gs A U H) : va_Nw (.methodLinkNest "LineGuard" 49 ⟨"LineGuard$OlderRule", "<init>", "()V"⟩ "LineGuard") U := h.2.2.2.2.2.2.2.2 _ (List.mem_filter.mpr ⟨tn_215, rfl⟩)
theorem GC_w310 {gs : Nat → Nat} {A : Nat → Prop} {U : State} {H : Heap} (h : GC gs A U H) : va_Nw (.methodLinkNest "LineGuard" 56 ⟨"LineGuard$NewerRule", "<init>", "()V"⟩ "LineGuard") U := h.2.2.2.2.2.2.2.2 _ (List.mem_filter.mpr ⟨tn_310, rfl⟩)
theorem GC_w491 {gs : Nat → Nat} {A : Nat → Prop} {U : State} {H : Heap} (h : GC gs A U H) : va_Nw (.declares ⟨"LineGuard$Rule", "makeChallenge", "(LLineGuard$Keys;LLineGuard$Session;ILLineGuard$Row;)V"⟩) U := h.2.2.2.2.2.2.2.2 _ (List.mem_filter.mpr ⟨tn_491, rfl⟩)
theorem GC_w524 {gs : Nat → Nat} {A : Nat → Prop} {U : State} {H : Heap} (h : GC gs A U H) : va_Nw (.declares ⟨"LineGuard$BlockCipher", "startFrom", "(LLineGuard$Row;)V"⟩) U := h.2.2.2.2.2.2.2.2 _ (List.mem_filter.mpr ⟨tn_524, rfl⟩)
theorem GC_w531 {gs : Nat → Nat} {A : Nat → Prop} {U : State} {H : Heap} (h : GC gs A U H) : va_Nw (.declares ⟨"LineGuard$BlockCipher", "chainThere", "(LLineGuard$Row;II)V"⟩) U := h.2.2.2.2.2.2.2.2 _ (List.mem_filter.mpr ⟨tn_531, rfl⟩)
theorem GC_w536 {gs : Nat → Nat} {A : Nat → Prop} {U : State} {H : Heap} (h : GC gs A U H) : va_Nw (.declares ⟨"LineGuard$BlockCipher", "there", "()V"⟩) U := h.2.2.2.2.2.2.2.2 _ (List.mem_filter.mpr ⟨tn_536, rfl⟩)
theorem GC_w594 {gs : Nat → Nat} {A : Nat → Prop} {U : State} {H : Heap} (h : GC gs A U H) : va_Nw (.declares ⟨"LineGuard$Rule", "isBlocks", "(I)Z"⟩) U := h.2.2.2.2.2.2.2.2 _ (List.mem_filter.mpr ⟨tn_594, rfl⟩)
theorem GC_w599 {gs : Nat → Nat} {A : Nat → Prop} {U : State} {H : Heap} (h : GC gs A U H) : va_Nw (.declares ⟨"LineGuard$Rule", "width", "()I"⟩) U := h.2.2.2.2.2.2.2.2 _ (List.mem_filter.mpr ⟨tn_599, rfl⟩)
theorem GC_w662 {gs : Nat → Nat} {A : Nat → Prop} {U : State} {H : Heap} (h : GC gs A U H) : va_Nw (.declares ⟨"LineGuard$Rule", "makeSession", "(LLineGuard$Keys;LLineGuard$Session;JI)V"⟩) U := h.2.2.2.2.2.2.2.2 _ (List.mem_filter.mpr ⟨tn_662, rfl⟩)
theorem GC_w700 {gs : Nat → Nat} {A : Nat → Prop} {U : State} {H : Heap} (h : GC gs A U H) : va_Nw (.declares ⟨"LineGuard$Rule", "hidesAnswers", "()Z"⟩) U := h.2.2.2.2.2.2.2.2 _ (List.mem_filter.mpr ⟨tn_700, rfl⟩)
theorem GC_w711 {gs : Nat → Nat} {A : Nat → Prop} {U : State} {H : Heap} (h : GC gs A U H) : va_Nw (.declares ⟨"LineGuard$Rule", "secure", "(LLineGuard$Session;LLineGuard$Row;)V"⟩) U := h.2.2.2.2.2.2.2.2 _ (List.mem_filter.mpr ⟨tn_711, rfl⟩)
theorem GC_w718 {gs : Nat → Nat} {A : Nat → Prop} {U : State} {H : Heap} (h : GC gs A U H) : va_Nw (.declares ⟨"LineGuard$Rule", "hides", "(LLineGuard$Session;I)Z"⟩) U := h.2.2.2.2.2.2.2.2 _ (List.mem_filter.mpr ⟨tn_718, rfl⟩)
theorem GC_w737 {gs : Nat → Nat} {A : Nat → Prop} {U : State} {H : Heap} (h : GC gs A U H) : va_Nw (.declares ⟨"LineGuard$Rule", "addHead", "(LLineGuard$Row;I)V"⟩) U := h.2.2.2.2.2.2.2.2 _ (List.mem_filter.mpr ⟨tn_737, rfl⟩)
theorem GC_w746 {gs : Nat → Nat} {A : Nat → Prop} {U : State} {H : Heap} (h : GC gs A U H) : va_Nw (.declares ⟨"LineGuard$Rule", "putCommand", "(LLineGuard$Row;LLineGuard$Row;LLineGuard$Row;)V"⟩) U := h.2.2.2.2.2.2.2.2 _ (List.mem_filter.mpr ⟨tn_746, rfl⟩)
theorem GC_w792 {gs : Nat → Nat} {A : Nat → Prop} {U : State} {H : Heap} (h : GC gs A U H) : va_Nw (.declares ⟨"LineGuard$Rule", "openSecured", "(LLineGuard$Session;LLineGuard$Row;)Z"⟩) U := h.2.2.2.2.2.2.2.2 _ (List.mem_filter.mpr ⟨tn_792, rfl⟩)
theorem GC_w799 {gs : Nat → Nat} {A : Nat → Prop} {U : State} {H : Heap} (h : GC gs A U H) : va_Nw (.declares ⟨"LineGuard$Rule", "splitCommand", "(LLineGuard$Row;)Z"⟩) U := h.2.2.2.2.2.2.2.2 _ (List.mem_filter.mpr ⟨tn_799, rfl⟩)
theorem GC_w814 {gs : Nat → Nat} {A : Nat → Prop} {U : State} {H : Heap} (h : GC gs A U H) : va_Nw (.declares ⟨"LineGuard$BlockCipher", "chainBack", "(LLineGuard$Row;II)V"⟩) U := h.2.2.2.2.2.2.2.2 _ (List.mem_filter.mpr ⟨tn_814, rfl⟩)
theorem GC_w819 {gs : Nat → Nat} {A : Nat → Prop} {U : State} {H : Heap} (h : GC gs A U H) : va_Nw (.declares ⟨"LineGuard$BlockCipher", "back", "()V"⟩) U := h.2.2.2.2.2.2.2.2 _ (List.mem_filter.mpr ⟨tn_819, rfl⟩)
theorem GC_w837 {gs : Nat → Nat} {A : Nat → Prop} {U : State} {H : Heap} (h : GC gs A U H) : va_Nw (.declares ⟨"LineGuard$Rule", "joinCommand", "(LLineGuard$Row;LLineGuard$Row;)Z"⟩) U := h.2.2.2.2.2.2.2.2 _ (List.mem_filter.mpr ⟨tn_837, rfl⟩)
theorem GC_w877 {gs : Nat → Nat} {A : Nat → Prop} {U : State} {H : Heap} (h : GC gs A U H) : va_Nw (.declares ⟨"LineGuard$Rule", "secureAnswer", "(LLineGuard$Session;LLineGuard$Row;ILLineGuard$Row;)V"⟩) U := h.2.2.2.2.2.2.2.2 _ (List.mem_filter.mpr ⟨tn_877, rfl⟩)
theorem GC_w888 {gs : Nat → Nat} {A : Nat → Prop} {U : State} {H : Heap} (h : GC gs A U H) : va_Nw (.declares ⟨"LineGuard$Rule", "putAnswer", "(LLineGuard$Row;)V"⟩) U := h.2.2.2.2.2.2.2.2 _ (List.mem_filter.mpr ⟨tn_888, rfl⟩)
theorem GC_w910 {gs : Nat → Nat} {A : Nat → Prop} {U : State} {H : Heap} (h : GC gs A U H) : va_Nw (.declares ⟨"LineGuard$Rule", "openAnswer", "(LLineGuard$Session;LLineGuard$Row;ILLineGuard$Row;)Z"⟩) U := h.2.2.2.2.2.2.2.2 _ (List.mem_filter.mpr ⟨tn_910, rfl⟩)
theorem GC_w917 {gs : Nat → Nat} {A : Nat → Prop} {U : State} {H : Heap} (h : GC gs A U H) : va_Nw (.declares ⟨"LineGuard$Rule", "splitAnswer", "(LLineGuard$Row;)Z"⟩) U := h.2.2.2.2.2.2.2.2 _ (List.mem_filter.mpr ⟨tn_917, rfl⟩)
theorem GC_w937 {gs : Nat → Nat} {A : Nat → Prop} {U : State} {H : Heap} (h : GC gs A U H) : va_Nw (.declares ⟨"LineGuard$Rule", "sealWith", "(LLineGuard$Row;LLineGuard$Row;Z)V"⟩) U := h.2.2.2.2.2.2.2.2 _ (List.mem_filter.mpr ⟨tn_937, rfl⟩)
