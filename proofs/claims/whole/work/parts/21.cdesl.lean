/-! the class's DES, as it stands: longs -/
abbrev oD (b1 b2 b3 b4 b5 : Nat) (t : Bool) : va_E := .inr (1, [.ref b1, .ref b2, .ref b3, .ref b4, .ref b5, .int (qb t)])
def lus (x : Int64) (k : Nat) : Int64 := (x.toUInt64 >>> ((nI k).toInt64.toUInt64 &&& Int64.toUInt64 63)).toInt64
def lsl (x : Int64) (k : Nat) : Int64 := x <<< ((nI k).toInt64 &&& 63)
theorem q_orN (a b : Nat) : nI a ||| nI b = nI (a ||| b) := by
  apply Int32.toBitVec_inj.mp
  apply BitVec.eq_of_toNat_eq
  have h : ∀ n, (nI n).toBitVec = BitVec.ofNat 32 n := fun _ => rfl
  rw [Int32.toBitVec_or, h, h, h, BitVec.toNat_or, BitVec.toNat_ofNat, BitVec.toNat_ofNat, BitVec.toNat_ofNat, Nat.or_mod_two_pow]
theorem q_andG (x : Int32) {m k p : Nat} (hk : k < 31 ∧ 2 ^ k = p ∧ m + 1 = p) : x &&& nI m = nI (x.toBitVec.toNat % p) := by
  obtain ⟨hk, rfl, hm⟩ := hk
  have hp : 2 ^ k < 2 ^ 31 := Nat.pow_lt_pow_right (by decide) hk
  exact pk_and x k (by rw [pk_tn (by omega)]; omega)
def ldL (g : Nat → BitVec 8) : Nat → Int64
  | 0 => 0
  | t + 1 => lsl (ldL g t) 8 ||| (qz (g t)).toInt64
def bySt (x : Int64) (i : Nat) : BitVec 8 := qlo (lus x (56 - 8 * i)).toInt32
def chL (x : Int64) (w : Nat) (tb : Nat → Nat) : Nat → Int64
  | 0 => 0
  | t + 1 => lsl (chL x w tb t) 1 ||| (lus x (w - tb t) &&& 1)
def rotI (h : Int32) (n : Nat) : Int32 := ((h <<< (nI n &&& 31)) ||| ush h (28 - n)) &&& nI 268435455
def scH (h : Int32) : Nat → Int32
  | 0 => h
  | r + 1 => rotI (scH h r) (tSHF r)
def scX (g : Nat → BitVec 8) : Int64 := chL (ldL g 8) 64 tCH 56
def scHi (g : Nat → BitVec 8) : Int32 := (lus (scX g) 28).toInt32 &&& nI 268435455
def scLo (g : Nat → BitVec 8) : Int32 := (scX g).toInt32 &&& nI 268435455
def skL (g : Nat → BitVec 8) (r : Nat) : Int64 := chL (lsl (scH (scHi g) (r + 1)).toInt64 28 ||| (scH (scLo g) (r + 1)).toInt64) 56 tSEC 48
def wideL (r : Int32) : Int64 := lsl (r.toInt64 &&& 1) 33 ||| lsl (r.toInt64 &&& 4294967295) 1 ||| (ush r 31).toInt64
def sixL (wide sk : Int64) (box : Nat) : Nat := (lus wide (28 - 4 * box) ^^^ lus sk (42 - 6 * box)).toInt32.toBitVec.toNat % 64
def nextL (spb : Nat → Int32) (l r : Int32) (sk : Int64) : Nat → Int32
  | 0 => l
  | b + 1 => nextL spb l r sk b ^^^ spb ((b * 64 ||| sixL (wideL r) sk b) % 512)
def rdL (spb : Nat → Int32) (fs : Nat → Int64) (back : Bool) (x : Int64) : Nat → Int32
  | 0 => (lus x 32).toInt32
  | 1 => x.toInt32
  | n + 2 => nextL spb (rdL spb fs back x n) (rdL spb fs back x (n + 1)) (fs ((if back then 15 - n else n) % 16)) 8
/-- both halves behind the rounds -/
def rdR (spb : Nat → Int32) (fs : Nat → Int64) (back : Bool) (x : Int64) : Int64 := lsl ((rdL spb fs back x 17).toInt64 &&& 4294967295) 32 ||| ((rdL spb fs back x 16).toInt64 &&& 4294967295)
def roS (x : Int64) (last : Bool) : Nat → Int64
  | 0 => x
  | i + 1 => (roS x last i) ^^^ (((lus (roS x last i) (tSWP (if last then 4 - i else i)) ^^^ roS x last i) &&& lN (tMSK (if last then 4 - i else i))) ^^^ lsl ((lus (roS x last i) (tSWP (if last then 4 - i else i)) ^^^ roS x last i) &&& lN (tMSK (if last then 4 - i else i))) (tSWP (if last then 4 - i else i)))
/-- a block there or back -/
def desX (spb : Nat → Int32) (f s : Nat → Int64) (tri back : Bool) (x : Int64) : Int64 :=
  let y := rdR spb f back (roS x false 5)
  roS (if tri then rdR spb f back (rdR spb s (!back) y) else y) true 5
theorem q_andM {a m k p : Nat} (hk : k < 31 ∧ 2 ^ k = p ∧ m + 1 = p) : nI a &&& nI m = nI (a % p) := by
  obtain ⟨hk, rfl, hm⟩ := hk
  rw [q_andG (nI a) (k := k) ⟨hk, rfl, hm⟩]
  congr 1
  show (BitVec.ofNat 32 a).toNat % 2 ^ k = a % 2 ^ k
  rw [BitVec.toNat_ofNat]
  exact Nat.mod_mod_of_dvd a (Nat.pow_dvd_pow 2 (by omega))
