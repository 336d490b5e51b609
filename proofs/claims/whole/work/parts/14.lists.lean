/-! the ciphers over lists of bytes, and what is reckoned with them: the words of the document -/
theorem CT.mono {l : Launch} {y : MethodName} {cc : ByteArray} {mL : Nat} {ret : Option FieldType} {rm : Room} {D : va_G} {ta : Nat → ClassId} {G : (Nat → Prop) → State → Heap → Prop} {av : List Value} {W0 : va_W} {sz : Nat} {S : Type} {rv : S → Option Value} {post post' : S → Prop} {W1 : S → va_W} {mc ms : Nat}
    (h : CT l y cc mL ret rm D ta G av W0 sz rv post W1 mc ms) (hp : ∀ u, post u → post' u) : CT l y cc mL ret rm D ta G av W0 sz rv post' W1 mc ms := by
  intro p e ha hc hk s m args below hf happ hP hK
  obtain ⟨n, o, h1, h2, h3, ⟨⟨u, e1, e2, e3⟩, hF⟩, hR⟩ := h p e ha hc hk s m args below hf happ hP hK
  exact ⟨n, o, h1, h2, h3, ⟨⟨u, e1, hp u e2, e3⟩, hF⟩, hR⟩
abbrev Bytes := List (BitVec 8)
def seg {α : Type} (g : Nat → α) (o n : Nat) : List α := qL (fun j => g (o + j)) n
theorem seg_len {α : Type} {g : Nat → α} {o n : Nat} : (seg g o n).length = n := qL_len
theorem seg_getD {g : Nat → BitVec 8} {o n j : Nat} (h : j < n) : (seg g o n).getD j 0 = g (o + j) := qL_getD h
theorem seg_ext {α : Type} {g g' : Nat → α} {o o' n : Nat} : seg g o n = seg g' o' n ↔ ∀ j, j < n → g (o + j) = g' (o' + j) := qL_ext
theorem seg_0 {α : Type} {g : Nat → α} {n : Nat} : seg g 0 n = qL g n := by
  rw [seg]
  congr 1
  funext j
  rw [Nat.zero_add]
theorem seg_take {α : Type} {g : Nat → α} {o n m : Nat} (h : m ≤ n) : (seg g o n).take m = seg g o m := qL_take h
theorem qL_drop {α : Type} {g : Nat → α} {n m : Nat} : (qL g n).drop m = seg g m (n - m) := by
  apply List.ext_getElem?
  intro j
  rw [List.getElem?_drop]
  by_cases h : m + j < n
  · rw [qL_get h, seg, qL_get (by omega)]
  · rw [List.getElem?_eq_none (by rw [qL_len]; omega), List.getElem?_eq_none (by rw [seg_len]; omega)]
theorem seg_drop {α : Type} {g : Nat → α} {o n m : Nat} : (seg g o n).drop m = seg g (o + m) (n - m) := by
  rw [seg, qL_drop, seg, seg]
  congr 1
  funext j
  rw [Nat.add_assoc]
theorem qSeg_seg {α : Type} {g' g : Nat → α} {o k : Nat} {F : Nat → α} (h : qSeg g' g o k F) : seg g' o k = qL F k := by
  rw [seg, qL_ext]
  exact h.1
theorem qL_app {α : Type} {g : Nat → α} {n m : Nat} : qL g (n + m) = qL g n ++ seg g n m := by
  have := (List.take_append_drop n (qL g (n + m))).symm
  rwa [qL_take (by omega), qL_drop, Nat.add_sub_cancel_left] at this
def xorL (a b : Bytes) : Bytes := List.zipWith (· ^^^ ·) a b
theorem xorL_qL {a b : Nat → BitVec 8} {n : Nat} : xorL (qL a n) (qL b n) = qL (fun j => a j ^^^ b j) n := by
  apply List.ext_getElem?
  intro j
  simp only [xorL, List.getElem?_zipWith]
  by_cases h : j < n
  · rw [qL_get h, qL_get h, qL_get h]
  · rw [List.getElem?_eq_none (by rw [qL_len]; omega), List.getElem?_eq_none (by rw [qL_len]; omega), List.getElem?_eq_none (by rw [qL_len]; omega)]
def lBit (L : Bytes) (j : Nat) : Bool := (L.getD (j / 8) 0).getLsbD (7 - j % 8)
theorem lBit_seg {g : Nat → BitVec 8} {o n j : Nat} (h : j < 8 * n) : lBit (seg g o n) j = dBit g o j := by
  simp only [lBit, dBit]
  rw [seg_getD (by omega)]
def dByte (O : Nat → Bool) (k : Nat) : BitVec 8 :=
  (if O (8 * k + 7) then 1#8 else 0#8) ||| (if O (8 * k + 6) then 2#8 else 0#8) ||| (if O (8 * k + 5) then 4#8 else 0#8) ||| (if O (8 * k + 4) then 8#8 else 0#8) ||| (if O (8 * k + 3) then 16#8 else 0#8) ||| (if O (8 * k + 2) then 32#8 else 0#8) ||| (if O (8 * k + 1) then 64#8 else 0#8) ||| (if O (8 * k) then 128#8 else 0#8)
theorem dByte_bit {O : Nat → Bool} {k i : Nat} (h : i < 8) : (dByte O k).getLsbD i = O (8 * k + (7 - i)) := by
  have q : ∀ b0 b1 b2 b3 b4 b5 b6 b7 : Bool, ∀ i : Fin 8, ((if b0 then 1#8 else 0#8) ||| (if b1 then 2#8 else 0#8) ||| (if b2 then 4#8 else 0#8) ||| (if b3 then 8#8 else 0#8) ||| (if b4 then 16#8 else 0#8) ||| (if b5 then 32#8 else 0#8) ||| (if b6 then 64#8 else 0#8) ||| (if b7 then 128#8 else 0#8)).getLsbD i = [b0, b1, b2, b3, b4, b5, b6, b7].getD i false := by decide +kernel
  rw [dByte, q _ _ _ _ _ _ _ _ ⟨i, h⟩]
  match i, h with
  | 0, _ => rfl
  | 1, _ => rfl
  | 2, _ => rfl
  | 3, _ => rfl
  | 4, _ => rfl
  | 5, _ => rfl
  | 6, _ => rfl
  | 7, _ => rfl
def desL (K : Bytes) (back : Bool) (L : Bytes) : Bytes := qL (dByte (DES (lBit K) (lBit L) back)) 8
/-- DES by the first eight, the other way by the last eight, DES by the first eight -/
def tdesL (K : Bytes) (back : Bool) (L : Bytes) : Bytes := desL (K.take 8) back (desL (K.drop 8) (!back) (desL (K.take 8) back L))
theorem desL_len {K L : Bytes} {back : Bool} : (desL K back L).length = 8 := qL_len
theorem tdesL_len {K L : Bytes} {back : Bool} : (tdesL K back L).length = 8 := qL_len
theorem dRN_congr {C C' : Nat → Bool} (h : ∀ j, j < 56 → C j = C' j) : ∀ (n : Nat) {j : Nat}, j < 56 → dRN C n j = dRN C' n j
  | 0, _, hj => h _ hj
  | n + 1, _, hj => dRot_congr (fun _ q => dRN_congr h n q) hj
theorem dCD_congr {K K' : Nat → Bool} (h : ∀ j, j < 64 → K j = K' j) : ∀ (r : Nat) {j : Nat}, j < 56 → dCD K r j = dCD K' r j
  | 0, _, hj => by
    have := tCH_b hj
    exact h _ (by omega)
  | r + 1, _, hj => dRN_congr (fun _ q => dCD_congr h r q) _ hj
theorem DES_congrK {K K' B : Nat → Bool} {back : Bool} (h : ∀ j, j < 64 → K j = K' j) {j : Nat} (hj : j < 64) : DES K B back j = DES K' B back j := by
  refine dFP_congr (fun k hk => dRs_congr (fun _ _ => rfl) (fun q _ i hi => ?_) hk) hj
  have := tSEC_b hi
  exact dCD_congr h _ (by omega)
theorem des_seg {g1 g gk : Nat → BitVec 8} {o fr : Nat} {back : Bool} (h : ∀ j, j < 64 → dBit g1 o j = DES (dBit gk fr) (dBit g o) back j) : seg g1 o 8 = desL (seg gk fr 8) back (seg g o 8) := by
  rw [seg, desL, qL_ext]
  intro k hk
  apply BitVec.eq_of_getLsbD_eq
  intro i hi
  rw [dByte_bit hi]
  have q := h (8 * k + (7 - i)) (by omega)
  rw [DES_congrK (K' := lBit (seg gk fr 8)) (fun j hj => (lBit_seg (by omega)).symm) (by omega), DES_congr (B' := lBit (seg g o 8)) (fun j hj => (lBit_seg (by omega)).symm) (by omega)] at q
  rw [← q]
  simp only [dBit]
  rw [show (8 * k + (7 - i)) / 8 = k by omega, show 7 - (8 * k + (7 - i)) % 8 = i by omega]
theorem lBit_qL {O : Nat → Bool} {j : Nat} (h : j < 64) : lBit (qL (dByte O) 8) j = O j := by
  simp only [lBit]
  rw [qL_getD (by omega), dByte_bit (by omega)]
  congr 1
  omega
theorem tdes_seg {g1 g gk : Nat → BitVec 8} {o fr : Nat} {back : Bool} (h : ∀ j, j < 64 → dBit g1 o j = TDES (dBit gk fr) (dBit gk (fr + 8)) (dBit g o) back j) : seg g1 o 8 = tdesL (seg gk fr 16) back (seg g o 8) := by
  have eA : ∀ j, j < 64 → dBit gk fr j = lBit ((seg gk fr 16).take 8) j := fun j hj => by rw [seg_take (by omega), lBit_seg (by omega)]
  have eB : ∀ j, j < 64 → dBit gk (fr + 8) j = lBit ((seg gk fr 16).drop 8) j := fun j hj => by rw [seg_drop, lBit_seg (by omega)]
  rw [seg, tdesL, desL, qL_ext]
  intro k hk
  apply BitVec.eq_of_getLsbD_eq
  intro i hi
  rw [dByte_bit hi]
  have q := h (8 * k + (7 - i)) (by omega)
  simp only [TDES] at q
  rw [DES_congrK eA (by omega)] at q
  rw [DES_congr (B' := lBit (desL ((seg gk fr 16).drop 8) (!back) (desL ((seg gk fr 16).take 8) back (seg g o 8)))) (fun a ha => ?_) (by omega)] at q
  · rw [← q]
    simp only [dBit]
    rw [show (8 * k + (7 - i)) / 8 = k by omega, show 7 - (8 * k + (7 - i)) % 8 = i by omega]
  · rw [desL, lBit_qL ha, DES_congrK eB ha]
    refine DES_congr (fun c hc => ?_) ha
    rw [desL, lBit_qL hc, DES_congrK eA hc]
    exact DES_congr (fun c hc => (lBit_seg (by omega)).symm) hc
/-- the round keys of a key -/
def aKx (K : Bytes) : Nat → BitVec 8 := aKey (fun j => K.getD j 0) (K.length / 4) (4 * (K.length / 4 + 7) - K.length / 4)
def aesE (K L : Bytes) : Bytes := qL (aE (aKx K) (K.length / 4 + 6) (fun j => L.getD j 0) (K.length / 4 + 6)) 16
def aesD (K L : Bytes) : Bytes := qL (aD (aKx K) (K.length / 4 + 6) (fun j => L.getD j 0) (K.length / 4 + 6)) 16
theorem aesE_len {K L : Bytes} : (aesE K L).length = 16 := qL_len
theorem aesD_len {K L : Bytes} : (aesD K L).length = 16 := qL_len
def rkOK (rk : Nat → BitVec 8) (K : Bytes) : Prop := ∀ j, j < 16 * (K.length / 4 + 7) → rk j = aKx K j
theorem aE_congr {rk rk' σ σ' : Nat → BitVec 8} {R : Nat} (hr : ∀ j, j < 16 * (R + 1) → rk j = rk' j) (hs : ∀ j, j < 16 → σ j = σ' j) : ∀ {r : Nat}, r ≤ R → ∀ {k : Nat}, k < 16 → aE rk R σ r k = aE rk' R σ' r k
  | 0, _, k, hk => by
    simp only [aE, aAdd]
    rw [hs k hk, hr _ (by omega)]
  | r + 1, h, k, hk => by
    have ih : ∀ k, k < 16 → aE rk R σ r k = aE rk' R σ' r k := fun k hk => aE_congr hr hs (by omega) hk
    simp only [aE, aAdd]
    rw [hr _ (by omega)]
    split
    · rw [aMix_congr (fun j _ => aSub_congr ih) hk]
    · rw [aSub_congr ih]
theorem aD_congr {rk rk' σ σ' : Nat → BitVec 8} {R : Nat} (hr : ∀ j, j < 16 * (R + 1) → rk j = rk' j) (hs : ∀ j, j < 16 → σ j = σ' j) : ∀ {r : Nat}, r ≤ R → ∀ {k : Nat}, k < 16 → aD rk R σ r k = aD rk' R σ' r k
  | 0, _, k, hk => by
    simp only [aD, aAdd]
    rw [hs k hk, hr _ (by omega)]
  | r + 1, h, k, hk => by
    have ih : ∀ k, k < 16 → aD rk R σ r k = aD rk' R σ' r k := fun k hk => aD_congr hr hs (by omega) hk
    have e : ∀ j, j < 16 → aAdd (aUns (aD rk R σ r)) rk (R - 1 - r) j = aAdd (aUns (aD rk' R σ' r)) rk' (R - 1 - r) j := fun j hj => by
      simp only [aAdd]
      rw [aUns_congr ih, hr _ (by omega)]
    simp only [aD]
    split
    · exact aMix_congr e hk
    · exact e k hk
theorem aes_seg {g1 g rk : Nat → BitVec 8} {o n : Nat} {K : Bytes} (hn : K.length = n) (hr : rkOK rk K) (h : qSeg g1 g o 16 (aE rk (n / 4 + 6) (fun k => g (o + k)) (n / 4 + 6))) : seg g1 o 16 = aesE K (seg g o 16) := by
  subst hn
  rw [qSeg_seg h, aesE, qL_ext]
  intro k hk
  exact aE_congr (fun j hj => hr j (by omega)) (fun j hj => (seg_getD hj).symm) (Nat.le_refl _) hk
theorem aesD_seg {g1 g rk : Nat → BitVec 8} {o n : Nat} {K : Bytes} (hn : K.length = n) (hr : rkOK rk K) (h : qSeg g1 g o 16 (aD rk (n / 4 + 6) (fun k => g (o + k)) (n / 4 + 6))) : seg g1 o 16 = aesD K (seg g o 16) := by
  subst hn
  rw [qSeg_seg h, aesD, qL_ext]
  intro k hk
  exact aD_congr (fun j hj => hr j (by omega)) (fun j hj => (seg_getD hj).symm) (Nat.le_refl _) hk
theorem aKey_congr {key key' : Nat → BitVec 8} {w : Nat} (hw : 0 < w) (h : ∀ j, j < 4 * w → key j = key' j) : ∀ {c : Nat} {j : Nat}, j < 4 * (w + c) → aKey key w c j = aKey key' w c j
  | 0, j, hj => h j (by omega)
  | c + 1, j, hj => by
    have ih : ∀ j, j < 4 * (w + c) → aKey key w c j = aKey key' w c j := fun j hj => aKey_congr hw h hj
    simp only [aKey]
    split
    · rw [ih _ (by omega), ih _ (by omega), ih _ (by omega)]
    · exact ih j (by omega)
theorem rk_seg {rk gk : Nat → BitVec 8} {fr n : Nat} (hn : n = 16 ∨ n = 24 ∨ n = 32) (h : ∀ j, j < 16 * (n / 4 + 7) → rk j = aKey (fun j => gk (fr + j)) (n / 4) (4 * (n / 4 + 7) - n / 4) j) : rkOK rk (seg gk fr n) := by
  intro j hj
  rw [seg_len] at hj
  rw [h j hj, aKx, seg_len]
  exact aKey_congr (by omega) (fun i hi => (seg_getD (by omega)).symm) (by omega)
/-- CBC's block behind i blocks of a text -/
def cbcM (E : Bytes → Bytes) (w : Nat) (iv T : Bytes) : Nat → Bytes
  | 0 => iv
  | i + 1 => E (xorL (cbcM E w iv T i) ((T.drop (w * i)).take w))
def zeroL (n : Nat) : Bytes := List.replicate n 0#8
def mac3L (K T : Bytes) : Bytes := cbcM (tdesL K false) 8 (zeroL 8) (qpad 8 T) (T.length / 8 + 1)
def retailL (K iv T : Bytes) : Bytes := desL (K.take 8) false (desL (K.drop 8) true (cbcM (desL (K.take 8) false) 8 iv (qpad 8 T) (T.length / 8 + 1)))
/-- twice in the field of 128 bits -/
def shF (g : Nat → BitVec 8) (k : Nat) : BitVec 8 := (g k <<< 1) ||| (if k < 15 then (if (g (k + 1)).getLsbD 7 then 1#8 else 0#8) else 0#8)
def shG (g : Nat → BitVec 8) (k : Nat) : BitVec 8 := if k = 15 ∧ (g 0).getLsbD 7 = true then shF g k ^^^ 0x87#8 else shF g k
def shL (L : Bytes) : Bytes := qL (shG (fun j => L.getD j 0)) 16
theorem shG_congr {g g' : Nat → BitVec 8} (h : ∀ j, j < 16 → g j = g' j) {k : Nat} (hk : k < 16) : shG g k = shG g' k := by
  have e : shF g k = shF g' k := by
    simp only [shF]
    rw [h k hk]
    split
    · rw [h (k + 1) (by omega)]
    · rfl
  simp only [shG]
  rw [h 0 (by omega), e]
theorem shL_seg {g1 g : Nat → BitVec 8} {o : Nat} (h : ∀ k, k < 16 → g1 (o + k) = shG (fun j => g (o + j)) k) : seg g1 o 16 = shL (seg g o 16) := by
  rw [seg, shL, qL_ext]
  intro k hk
  rw [h k hk]
  exact shG_congr (fun j hj => (seg_getD hj).symm) hk
/-- the last block of a text turned by a block -/
def lastX (T k : Bytes) : Bytes := T.take (T.length - 16) ++ xorL (T.drop (T.length - 16)) k
def cmacT (K T : Bytes) : Bytes := if 0 < T.length ∧ T.length % 16 = 0 then lastX T (shL (aesE K (zeroL 16))) else lastX (qpad 16 T) (shL (shL (aesE K (zeroL 16))))
def cmacL (K T : Bytes) : Bytes := cbcM (aesE K) 16 (zeroL 16) (cmacT K T) ((cmacT K T).length / 16)
/-- one block more -/
theorem cbcM_next {E : Bytes → Bytes} {w i mn1 : Nat} {iv T : Bytes} {c' d' gm1 : Nat → BitVec 8} (_ : True) (hc : qL c' w = cbcM E w iv T i) (hT : qL gm1 mn1 = T) (hd : seg d' 0 w = qL (fun j => c' j ^^^ gm1 (w * i + j)) w) (hi : w * i + w ≤ mn1) : E (seg d' 0 w) = cbcM E w iv T (i + 1) := by
  rw [cbcM, ← hc, ← hT, qL_drop, seg_take (by omega), hd, seg, xorL_qL]
theorem qSeg_segk {α : Type} {g' g : Nat → α} {o k n : Nat} {F : Nat → α} (h : qSeg g' g o k F) (hk : k = n) : seg g' o n = qL F n := by
  subst hk
  exact qSeg_seg h
theorem ofNat8_mod {n : Nat} : BitVec.ofNat 8 (n % 256) = BitVec.ofNat 8 n := by
  apply BitVec.eq_of_toNat_eq
  simp
theorem qlo_shl1 (b : BitVec 8) (c : Bool) : qlo (qs b <<< (nI 1 &&& 31) ||| qb c) = (b <<< 1) ||| (if c then 1#8 else 0#8) := by
  have q : ∀ b : BitVec 8, ∀ c : Bool, qlo (qs b <<< (nI 1 &&& 31) ||| qb c) = (b <<< 1) ||| (if c then 1#8 else 0#8) := by decide +kernel
  exact q b c
theorem qlo_shl0 (b : BitVec 8) : qlo (qs b <<< (nI 1 &&& 31) ||| nI 0) = (b <<< 1) ||| 0#8 := by
  have q : ∀ b : BitVec 8, qlo (qs b <<< (nI 1 &&& 31) ||| nI 0) = (b <<< 1) ||| 0#8 := by decide +kernel
  exact q b
theorem qlo_87 (b : BitVec 8) : qlo (qs b ^^^ (-121)) = b ^^^ 0x87#8 := by
  rw [qlo_xor, qlo_qs]
  rfl
theorem sh_end {g1 gb : Nat → BitVec 8} {k : Nat} (hk : k = 16) (hs : qSeg g1 gb 0 k (shF gb)) : (¬ (gb 0).getLsbD 7 = true → seg g1 0 16 = shL (seg gb 0 16)) ∧ ((gb 0).getLsbD 7 = true → seg (qU g1 15 (qlo (qs (g1 15) ^^^ (-121)))) 0 16 = shL (seg gb 0 16)) := by
  subst hk
  constructor
  · intro h
    refine shL_seg (fun k hk => ?_)
    rw [hs.1 k hk, shG, if_neg (fun q => ?_)]
    · rw [shF, shF]
      try simp only [Nat.zero_add]
    · rw [Nat.zero_add] at q
      exact h q.2
  · intro h
    refine shL_seg (fun k hk => ?_)
    rw [Nat.zero_add]
    by_cases e : k = 15
    · subst e
      rw [qU_same, qlo_87, qSeg_at hs (by omega), shG, if_pos ⟨rfl, by rw [Nat.zero_add]; exact h⟩, shF, shF]
      try simp only [Nat.zero_add]
    · rw [qU_ne e, qSeg_at hs hk, shG, if_neg (fun q => e q.1), shF, shF]
      try simp only [Nat.zero_add]
theorem lastX_seg {m' gx kx : Nat → BitVec 8} {mx k : Nat} (hk : k = 16) (hm : 16 ≤ mx) (h : qSeg m' gx (mx - 16) k (fun j => gx (mx - 16 + j) ^^^ kx j)) : qL m' mx = lastX (qL gx mx) (seg kx 0 16) := by
  subst hk
  have e : mx = (mx - 16) + 16 := by omega
  have e1 : qL m' mx = qL m' (mx - 16) ++ seg m' (mx - 16) 16 := by
    have := qL_app (g := m') (n := mx - 16) (m := 16)
    rwa [← e] at this
  rw [e1, lastX, qL_len, qL_take (by omega), qL_drop, show mx - (mx - 16) = 16 by omega, seg_0, qSeg_seg h, seg, xorL_qL]
  congr 1
  rw [qL_ext]
  intro j hj
  exact h.2 j (Or.inl hj)
theorem lastX_len {T k : Bytes} (h : 16 ≤ T.length) (hk : k.length = 16) : (lastX T k).length = T.length := by
  simp [lastX, xorL, hk]
  omega
/-- KDF's text for block i -/
def kdfT (c n i : Nat) (ov : Bytes) : Bytes := zeroL 11 ++ [BitVec.ofNat 8 c, 0#8, BitVec.ofNat 8 (8 * n / 256), BitVec.ofNat 8 (8 * n), BitVec.ofNat 8 i] ++ ov
def kdfL (K : Bytes) (c n : Nat) (ov : Bytes) : Bytes := qL (fun j => (cmacL K (kdfT c n (j / 16 + 1) ov)).getD (j % 16) 0) n
theorem kdfL_len {K ov : Bytes} {c n : Nat} : (kdfL K c n ov).length = n := qL_len
theorem shL_len {L : Bytes} : (shL L).length = 16 := qL_len
theorem zero_seg {g' g : Nat → BitVec 8} {o k n : Nat} (h : qSeg g' g o k (fun _ => 0#8)) (hk : k = n) : seg g' o n = zeroL n := by
  rw [qSeg_segk h hk]
  apply List.ext_getElem?
  intro j
  by_cases q : j < n
  · rw [qL_get q, zeroL, List.getElem?_replicate, if_pos q]
  · rw [List.getElem?_eq_none (by rw [qL_len]; omega), zeroL, List.getElem?_replicate, if_neg q]
