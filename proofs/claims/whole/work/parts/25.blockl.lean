/-! blocks of the class's ciphers, over lists -/
def dkS (f : Nat → Int64) (K : Bytes) : Prop := ∀ r, r < 16 → f r = skL (fun j => K.getD j 0) r
/-- what a DES object does with a block: DES by eight bytes, or DES3 by sixteen -/
def cE (tri : Bool) (K : Bytes) (back : Bool) (L : Bytes) : Bytes := if tri then tdesL K back L else desL (K.take 8) back L
theorem cE_len {tri back : Bool} {K L : Bytes} : (cE tri K back L).length = 8 := by
  cases tri
  · exact qL_len
  · exact qL_len
theorem dBit_getD {K : Bytes} {j : Nat} : dBit (fun j => K.getD j 0) 0 j = lBit K j := by
  simp only [dBit, lBit, Nat.zero_add]
theorem des_blk {spb : Nat → Int32} (hs : spbOK spb) {f s : Nat → Int64} {tri back : Bool} {gb gb1 : Nat → BitVec 8} {K : Bytes} (hf : dkS f (K.take 8)) (hs2 : tri = true → dkS s (K.drop 8)) (h : ∀ k, k < 8 → gb1 k = bySt (desX spb f s tri back (ldL gb 8)) k) : qL gb1 8 = cE tri K back (qL gb 8) := by
  have hb : ∀ j, j < 64 → lB (ldL gb 8) j = lBit (qL gb 8) j := fun j hj => by rw [ldL_B hj, ← seg_0, lBit_seg (by omega)]
  have key : ∀ (O : Nat → Bool), (∀ j, j < 64 → lB (desX spb f s tri back (ldL gb 8)) j = O j) → qL gb1 8 = qL (dByte O) 8 := by
    intro O hO
    rw [qL_ext]
    intro k hk
    apply BitVec.eq_of_getLsbD_eq
    intro i hi
    have q := bySt_B (x := desX spb f s tri back (ldL gb 8)) (j := 8 * k + (7 - i)) (by omega)
    rw [show (8 * k + (7 - i)) / 8 = k by omega, show 7 - (8 * k + (7 - i)) % 8 = i by omega] at q
    rw [h k hk, q, hO _ (by omega), dByte_bit hi]
  have hd := fun j hj => desX_B (x := ldL gb 8) hs (back := back) hf hs2 (j := j) hj
  cases tri
  · simp only [cE, Bool.false_eq_true, if_false]
    refine key _ (fun j hj => ?_)
    rw [hd j hj]
    simp only [Bool.false_eq_true, if_false]
    rw [DES_congrK (fun j hj => dBit_getD) hj]
    exact DES_congr hb hj
  · simp only [cE, if_true, tdesL]
    refine key _ (fun j hj => ?_)
    rw [hd j hj]
    simp only [if_true, TDES]
    rw [DES_congrK (fun j hj => dBit_getD) hj]
    refine DES_congr (fun k hk => ?_) hj
    rw [desL, lBit_qL hk, DES_congrK (fun j hj => dBit_getD) hk]
    refine DES_congr (fun i hi => ?_) hk
    rw [desL, lBit_qL hi, DES_congrK (fun j hj => dBit_getD) hi]
    exact DES_congr hb hi
theorem aes_blk {gb gb1 : Nat → BitVec 8} {K : Bytes} {n : Nat} (hn : K.length = n) (h : ∀ k, k < 16 → gb1 k = aE (aKx K) (n / 4 + 6) gb (n / 4 + 6) k) : qL gb1 16 = aesE K (qL gb 16) := by
  subst hn
  rw [aesE, qL_ext]
  intro k hk
  rw [h k hk]
  exact aE_congr (fun _ _ => rfl) (fun j hj => (qL_getD hj).symm) (Nat.le_refl _) hk
theorem aesD_blk {gb gb1 : Nat → BitVec 8} {K : Bytes} {n : Nat} (hn : K.length = n) (h : ∀ k, k < 16 → gb1 k = aD (aKx K) (n / 4 + 6) gb (n / 4 + 6) k) : qL gb1 16 = aesD K (qL gb 16) := by
  subst hn
  rw [aesD, qL_ext]
  intro k hk
  rw [h k hk]
  exact aD_congr (fun _ _ => rfl) (fun j hj => (qL_getD hj).symm) (Nat.le_refl _) hk
/-- CBC of a text: byte j -/
def encF (E : Bytes → Bytes) (w : Nat) (iv T : Bytes) (j : Nat) : BitVec 8 := (cbcM E w iv T (j / w + 1)).getD (j % w) 0
def decF (D : Bytes → Bytes) (w : Nat) (iv T : Bytes) (j : Nat) : BitVec 8 := (D ((T.drop (w * (j / w))).take w)).getD (j % w) 0 ^^^ (if j < w then iv.getD j 0 else T.getD (j - w) 0)
theorem xor_qL_comm {a b : Nat → BitVec 8} {n : Nat} : qL (fun k => a k ^^^ b k) n = qL (fun k => b k ^^^ a k) n := by
  rw [qL_ext]
  intro j _
  exact BitVec.xor_comm _ _
/-- a block of CBC: what there() gives for it -/
theorem cbc_blk {E : Bytes → Bytes} {w c m f0 : Nat} {iv : Bytes} {gr gr' bf' gb' gb0 gb1 : Nat → BitVec 8} {F : Nat → BitVec 8} (hr : qSeg gr' gr f0 (w * c) F) (hb : qL bf' w = cbcM E w iv (seg gr f0 (w * m)) c) (hc : c < m) {d : Nat} (hd : d = w) (hg : qSeg gb' gb0 0 d (fun k => gr' (f0 + w * c + k) ^^^ bf' k)) (hE : qL gb1 w = E (qL gb' w)) : qL gb1 w = cbcM E w iv (seg gr f0 (w * m)) (c + 1) := by
  subst hd
  have h9 : d * c + d ≤ d * m := by
    have := Nat.mul_le_mul_left d (show c + 1 ≤ m by omega)
    rwa [Nat.mul_add, Nat.mul_one] at this
  rw [hE, cbcM, ← hb, seg_drop, seg_take (by omega), ← seg_0 (g := gb'), qSeg_seg hg, xor_qL_comm, seg, xorL_qL]
  congr 1
  rw [qL_ext]
  intro j hj
  rw [hr.2 _ (by omega)]
theorem cbc_put {E : Bytes → Bytes} {w c d f0 i : Nat} {iv T : Bytes} {gr gr' : Nat → BitVec 8} {gb1 : Nat → BitVec 8} {v : BitVec 8} (hw : d < w) (h : qSeg gr' gr f0 (w * c + d) (encF E w iv T)) (hb : qL gb1 w = cbcM E w iv T (c + 1)) (hi : i = f0 + (w * c + d)) (hv : v = gb1 d) : qSeg (qU gr' i v) gr f0 (w * c + (d + 1)) (encF E w iv T) := by
  refine qSeg_s (k := w * c + d) h hi ?_
  have e1 : (w * c + d) / w = c := by
    rw [Nat.mul_add_div (by omega), Nat.div_eq_of_lt hw, Nat.add_zero]
  have e2 : (w * c + d) % w = d := by
    rw [Nat.mul_add_mod, Nat.mod_eq_of_lt hw]
  rw [encF, e1, e2, ← hb, qL_getD hw, hv]
theorem dec_put {D : Bytes → Bytes} {w c d m f0 i : Nat} {iv : Bytes} {gr gr' : Nat → BitVec 8} {gb1 bf' : Nat → BitVec 8} {v : BitVec 8} (hw : d < w) (hc : c < m) (h : qSeg gr' gr f0 (w * c + d) (decF D w iv (seg gr f0 (w * m)))) (hb : qL gb1 w = D (seg gr (f0 + w * c) w)) (hf : qL bf' w = if c = 0 then iv else seg gr (f0 + w * (c - 1)) w) (hi : i = f0 + (w * c + d)) (hv : v = gb1 d ^^^ bf' d) : qSeg (qU gr' i v) gr f0 (w * c + (d + 1)) (decF D w iv (seg gr f0 (w * m))) := by
  refine qSeg_s (k := w * c + d) h hi ?_
  have e1 : (w * c + d) / w = c := by
    rw [Nat.mul_add_div (by omega), Nat.div_eq_of_lt hw, Nat.add_zero]
  have e2 : (w * c + d) % w = d := by
    rw [Nat.mul_add_mod, Nat.mod_eq_of_lt hw]
  have h9 : w * c + w ≤ w * m := by
    have := Nat.mul_le_mul_left w (show c + 1 ≤ m by omega)
    rwa [Nat.mul_add, Nat.mul_one] at this
  have h0 : bf' d = (qL bf' w).getD d 0 := (qL_getD hw).symm
  rw [decF, e1, e2, seg_drop, seg_take (by omega), ← hb, qL_getD hw, hv, h0, hf]
  congr 1
  by_cases q : c = 0
  · subst q
    rw [if_pos rfl, if_pos (by omega)]
    congr 1
    omega
  · obtain ⟨c', rfl⟩ : ∃ c', c = c' + 1 := ⟨c - 1, by omega⟩
    have e3 : w * (c' + 1) = w * c' + w := by rw [Nat.mul_add, Nat.mul_one]
    rw [if_neg q, if_neg (by omega), seg_getD hw, Nat.add_sub_cancel, seg_getD (by omega)]
    congr 1
    omega
