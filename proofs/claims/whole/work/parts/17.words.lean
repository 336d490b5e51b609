/-! words of four bytes, the first byte the highest -/
def ush (x : Int32) (k : Nat) : Int32 := (x.toUInt32 >>> ((nI k).toUInt32 &&& Int32.toUInt32 31)).toInt32
theorem bv_shl (x : Int32) {k : Nat} (hk : k < 32) : (x <<< (nI k &&& 31)).toBitVec = x.toBitVec <<< k := by
  apply BitVec.eq_of_toNat_eq
  rw [pk_shl x _ k (q_sh hk), BitVec.toNat_shiftLeft, Nat.shiftLeft_eq]
theorem bv_ush (x : Int32) {k : Nat} (hk : k < 32) : (ush x k).toBitVec = x.toBitVec >>> k := by
  apply BitVec.eq_of_toNat_eq
  rw [ush, pk_ushr x _ k (q_su hk), BitVec.toNat_ushiftRight, Nat.shiftRight_eq_div_pow]
def w4 (a b c d : BitVec 8) : BitVec 32 := a ++ b ++ c ++ d
def wd (a b c d : BitVec 8) : Int32 := Int32.ofBitVec (w4 a b c d)
theorem wd_bv {a b c d : BitVec 8} : (wd a b c d).toBitVec = w4 a b c d := rfl
theorem w4_get (a b c d : BitVec 8) (i : Nat) : (w4 a b c d).getLsbD i = if i < 8 then d.getLsbD i else if i < 16 then c.getLsbD (i - 8) else if i < 24 then b.getLsbD (i - 16) else a.getLsbD (i - 24) := by
  simp only [w4, BitVec.getLsbD_append]
  by_cases h1 : i < 8
  · simp [h1]
  · simp only [h1, if_false]
    by_cases h2 : i < 16
    · simp [h2, show i - 8 < 8 by omega]
    · simp only [show ¬ i - 8 < 8 by omega, if_false, h2]
      by_cases h3 : i < 24
      · simp only [show i - 8 - 8 < 8 by omega, if_true, h3]
        rw [show i - 8 - 8 = i - 16 by omega]
      · simp only [show ¬ i - 8 - 8 < 8 by omega, if_false, h3]
        rw [show i - 8 - 8 - 8 = i - 24 by omega]
theorem w4_nat (a b c d : BitVec 8) : (w4 a b c d).toNat = ((a.toNat * 256 + b.toNat) * 256 + c.toNat) * 256 + d.toNat := by
  have ha := a.isLt
  have hb := b.isLt
  have hc := c.isLt
  have hd := d.isLt
  simp only [w4, BitVec.toNat_append]
  rw [← Nat.shiftLeft_add_eq_or_of_lt hb, ← Nat.shiftLeft_add_eq_or_of_lt hc, ← Nat.shiftLeft_add_eq_or_of_lt hd]
  simp only [Nat.shiftLeft_eq]
theorem w4_ext {x y : BitVec 32} (h : ∀ i, i < 32 → x.getLsbD i = y.getLsbD i) : x = y := BitVec.eq_of_getLsbD_eq h
theorem w4_and (a b c d e f g h : BitVec 8) : w4 a b c d &&& w4 e f g h = w4 (a &&& e) (b &&& f) (c &&& g) (d &&& h) := by
  apply w4_ext
  intro i _
  rw [BitVec.getLsbD_and, w4_get, w4_get, w4_get]
  split
  · rw [BitVec.getLsbD_and]
  · split
    · rw [BitVec.getLsbD_and]
    · split
      · rw [BitVec.getLsbD_and]
      · rw [BitVec.getLsbD_and]
theorem w4_xor (a b c d e f g h : BitVec 8) : w4 a b c d ^^^ w4 e f g h = w4 (a ^^^ e) (b ^^^ f) (c ^^^ g) (d ^^^ h) := by
  apply w4_ext
  intro i _
  rw [BitVec.getLsbD_xor, w4_get, w4_get, w4_get]
  split
  · rw [BitVec.getLsbD_xor]
  · split
    · rw [BitVec.getLsbD_xor]
    · split
      · rw [BitVec.getLsbD_xor]
      · rw [BitVec.getLsbD_xor]
theorem w4_of (x : BitVec 32) : ∃ a b c d, x = w4 a b c d := by
  refine ⟨x.extractLsb' 24 8, x.extractLsb' 16 8, x.extractLsb' 8 8, x.extractLsb' 0 8, ?_⟩
  apply w4_ext
  intro i hi
  rw [w4_get]
  split
  · simp [*]
  · split
    · simp [show i - 8 < 8 by omega, show 8 + (i - 8) = i by omega]
    · split
      · simp [show i - 16 < 8 by omega, show 16 + (i - 16) = i by omega]
      · simp [show i - 24 < 8 by omega, show 24 + (i - 24) = i by omega]
theorem w4_rot {a b c d : BitVec 8} : w4 a b c d <<< 8 ||| w4 a b c d >>> 24 = w4 b c d a ∧ w4 a b c d <<< 16 ||| w4 a b c d >>> 16 = w4 c d a b ∧ w4 a b c d <<< 24 ||| w4 a b c d >>> 8 = w4 d a b c := by
  have ha := a.isLt
  have hb := b.isLt
  have hc := c.isLt
  have hd := d.isLt
  have key : ∀ (k : Nat) (e f g h : BitVec 8), k < 32 → (∀ i, i < 32 → (w4 e f g h).getLsbD i = if i < k then (w4 a b c d).getLsbD (32 - k + i) else (w4 a b c d).getLsbD (i - k)) → w4 a b c d <<< k ||| w4 a b c d >>> (32 - k) = w4 e f g h := by
    intro k e f g h hk hh
    apply w4_ext
    intro i hi
    rw [hh i hi, BitVec.getLsbD_or, BitVec.getLsbD_shiftLeft, BitVec.getLsbD_ushiftRight]
    by_cases q : i < k
    · simp [q]
    · simp only [q, hi, decide_true, decide_false, Bool.not_false, Bool.true_and, if_false]
      rw [BitVec.getLsbD_of_ge _ (32 - k + i) (by omega), Bool.or_false]
  refine ⟨key 8 b c d a (by decide) ?_, key 16 c d a b (by decide) ?_, key 24 d a b c (by decide) ?_⟩ <;> intro i hi <;> simp only [w4_get] <;> (repeat' split) <;> first | omega | (congr 1; done) | (congr 1; omega)
/-- the second places in the field, four at a time -/
theorem w4_two {a b c d : BitVec 8} : (w4 a b c d &&& 0x7F7F7F7F#32) <<< 1 = w4 ((a &&& 0x7F#8) <<< 1) ((b &&& 0x7F#8) <<< 1) ((c &&& 0x7F#8) <<< 1) ((d &&& 0x7F#8) <<< 1) := by
  have e : (0x7F7F7F7F#32) = w4 0x7F#8 0x7F#8 0x7F#8 0x7F#8 := by decide
  have m : ∀ x : BitVec 8, (x &&& 0x7F#8).toNat < 128 := by decide
  have m2 : ∀ x : BitVec 8, ((x &&& 0x7F#8) <<< 1).toNat = 2 * (x &&& 0x7F#8).toNat := by decide
  rw [e, w4_and]
  apply BitVec.eq_of_toNat_eq
  have := m a; have := m b; have := m c; have := m d
  rw [BitVec.toNat_shiftLeft, w4_nat, w4_nat, m2, m2, m2, m2, Nat.shiftLeft_eq]
  omega
theorem w4_top {a b c d : BitVec 8} : (w4 a b c d >>> 7) &&& 0x01010101#32 = w4 (a >>> 7) (b >>> 7) (c >>> 7) (d >>> 7) := by
  have e : (w4 a b c d >>> 7) &&& 0x01010101#32 = (w4 a b c d &&& 0x80808080#32) >>> 7 := by
    rw [BitVec.ushiftRight_and_distrib]
    rfl
  have e2 : (0x80808080#32) = w4 0x80#8 0x80#8 0x80#8 0x80#8 := by decide
  have m : ∀ x : BitVec 8, (x &&& 0x80#8).toNat = 128 * (x >>> 7).toNat := by decide
  have ha : ∀ x : BitVec 8, (x >>> 7).toNat < 2 := by decide
  rw [e, e2, w4_and]
  apply BitVec.eq_of_toNat_eq
  have := ha a; have := ha b; have := ha c; have := ha d
  rw [BitVec.toNat_ushiftRight, w4_nat, w4_nat, m, m, m, m, Nat.shiftRight_eq_div_pow]
  omega
theorem w4_mul {a b c d : BitVec 8} {k : Nat} (hk : k ≤ 127) (h : a.toNat < 2 ∧ b.toNat < 2 ∧ c.toNat < 2 ∧ d.toNat < 2) : w4 a b c d * BitVec.ofNat 32 k = w4 (a * BitVec.ofNat 8 k) (b * BitVec.ofNat 8 k) (c * BitVec.ofNat 8 k) (d * BitVec.ofNat 8 k) := by
  have m : ∀ x : BitVec 8, x.toNat < 2 → (x * BitVec.ofNat 8 k).toNat = x.toNat * k := fun x hx => by
    rw [BitVec.toNat_mul, BitVec.toNat_ofNat, Nat.mod_eq_of_lt (show k < 2 ^ 8 by omega)]
    apply Nat.mod_eq_of_lt
    have : x.toNat = 0 ∨ x.toNat = 1 := by omega
    rcases this with q | q <;> rw [q] <;> omega
  apply BitVec.eq_of_toNat_eq
  rw [BitVec.toNat_mul, w4_nat, w4_nat, m a h.1, m b h.2.1, m c h.2.2.1, m d h.2.2.2, BitVec.toNat_ofNat, Nat.mod_eq_of_lt (show k < 2 ^ 32 by omega)]
  have q : ∀ x : BitVec 8, x.toNat < 2 → x.toNat = 0 ∨ x.toNat = 1 := fun x hx => by omega
  rcases q a h.1 with qa | qa <;> rcases q b h.2.1 with qb | qb <;> rcases q c h.2.2.1 with qc | qc <;> rcases q d h.2.2.2 with qd | qd <;> rw [qa, qb, qc, qd] <;> omega
theorem xt_w (x : BitVec 8) : ((x &&& 0x7F#8) <<< 1) ^^^ ((x >>> 7) * 0x1b#8) = xt x := by
  have h : ∀ x : BitVec 8, ((x &&& 0x7F#8) <<< 1) ^^^ ((x >>> 7) * 0x1b#8) = xt x := by decide +kernel
  exact h x
