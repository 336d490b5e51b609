/-! the words of the document over lists: secured commands and answers -/
theorem nI64 {m : Nat} (h : m < 2147483648) : (nI m).toInt64.toBitVec = BitVec.ofNat 64 m := by
  have e : (nI m).toInt64.toBitVec = (nI m).toBitVec.signExtend 64 := rfl
  have e2 : (nI m).toBitVec = BitVec.ofNat 32 m := rfl
  rw [e, e2, BitVec.signExtend_eq_setWidth_of_msb_false (by rw [BitVec.msb_eq_decide]; simp; omega)]
  apply BitVec.eq_of_toNat_eq
  simp
  omega
theorem qN_nI {m k : Nat} (h : m < 2147483648) : qN (nI m).toInt64 k = BitVec.ofNat 8 (m / 2 ^ (8 * k)) := by
  rw [qN, nI64 h]
  apply BitVec.eq_of_toNat_eq
  simp [Nat.shiftRight_eq_div_pow]
  rw [Nat.mod_eq_of_lt (show m < 18446744073709551616 by omega)]
theorem qNum_2 {m : Nat} (h : m < 2147483648) : qNum (nI m).toInt64 2 = [BitVec.ofNat 8 (m / 256), BitVec.ofNat 8 m] := by
  have e : qNum (nI m).toInt64 2 = [qN (nI m).toInt64 1, qN (nI m).toInt64 0] := rfl
  rw [e, qN_nI h, qN_nI h]
  simp
def headL (C : Bytes) (n : Nat) : Bytes := (C.getD 0 0 &&& 0xFC#8 ||| 4#8) :: ((C.take 4).drop 1 ++ [BitVec.ofNat 8 (n + 8)])
def encL (E : Bytes → Bytes) (w : Nat) (iv T : Bytes) : Bytes := qL (encF E w iv T) T.length
def decL (E : Bytes → Bytes) (w : Nat) (iv T : Bytes) : Bytes := qL (decF E w iv T) T.length
theorem encL_len {E : Bytes → Bytes} {w : Nat} {iv T : Bytes} : (encL E w iv T).length = T.length := qL_len
theorem decL_len {E : Bytes → Bytes} {w : Nat} {iv T : Bytes} : (decL E w iv T).length = T.length := qL_len
def firstL (K : Bytes) (cnt : Nat) (mark : BitVec 8) : Bytes := aesE K ([mark] ++ zeroL 7 ++ qNum (nI cnt).toInt64 8)
def hide2 (K d : Bytes) : Bytes := encL (tdesL K false) 8 (zeroL 8) (qpad 8 d)
def hide3 (K : Bytes) (cnt : Nat) (mark : BitVec 8) (d : Bytes) : Bytes := encL (aesE K) 16 (firstL K cnt mark) (qpad 16 d)
def show2 (K d : Bytes) : Option Bytes := if d.length % 8 = 0 then qunp (decL (tdesL K true) 8 (zeroL 8) d) else none
def show3 (K : Bytes) (cnt : Nat) (mark : BitVec 8) (d : Bytes) : Option Bytes := if d.length % 16 = 0 then qunp (decL (aesD K) 16 (firstL K cnt mark) d) else none
def putC (C d ch : Bytes) : Bytes := [C.getD 0 0 ||| 4#8] ++ (C.take 4).drop 1 ++ d ++ ch.take 8
def joinC (line d : Bytes) : Bytes := [line.getD 0 0 &&& 0xFB#8] ++ (line.take 4).drop 1 ++ d
def midL (line : Bytes) : Bytes := (line.take (line.length - 8)).drop 4
/-- the MAC of a command by RULE 2: cnt commands were before it -/
def chain2 (K : Bytes) (cnt : Nat) (ch C : Bytes) : Bytes := retailL K (if cnt = 0 then zeroL 8 else desL (K.take 8) false (ch.take 8)) (headL C (C.length - 4) ++ C.drop 4)
def chain3 (K ch H d : Bytes) : Bytes := cmacL K (ch ++ headL H d.length ++ d)
def hidB (lv mk : Nat) (d : Bytes) : Bool := decide (lv &&& mk ≠ 0 ∧ 0 < d.length)
def ansText2 (C d : Bytes) (sw : Nat) : Bytes := [C.getD 0 0 &&& 0xF8#8] ++ (C.take 4).drop 1 ++ [BitVec.ofNat 8 (C.length - 4)] ++ C.drop 4 ++ [BitVec.ofNat 8 d.length] ++ d ++ qNum (nI sw).toInt64 2
def ansCode2 (K bch C d : Bytes) (sw : Nat) : Bytes := retailL K (bch.take 8) (ansText2 C d sw)
def ansCode3 (K ch d : Bytes) (sw : Nat) : Bytes := cmacL K (ch ++ d ++ qNum (nI sw).toInt64 2)
/-- a level of a rule -/
def levB (l : Int32) (n : Bool) : Bool := l == 0 || l == 1 || l == 3 || l == 17 || l == 19 || (l == 51 && n)
theorem nI_and {a b : Nat} (ha : a < 4294967296) (hb : b < 4294967296) : nI a &&& nI b = nI (a &&& b) := by
  apply Int32.toBitVec_inj.mp
  have h : (nI a &&& nI b).toBitVec = BitVec.ofNat 32 a &&& BitVec.ofNat 32 b := rfl
  have h2 : (nI (a &&& b)).toBitVec = BitVec.ofNat 32 (a &&& b) := rfl
  rw [h, h2]
  apply BitVec.eq_of_toNat_eq
  have := Nat.and_le_left (n := a) (m := b)
  simp only [BitVec.toNat_and, BitVec.toNat_ofNat]
  rw [Nat.mod_eq_of_lt ha, Nat.mod_eq_of_lt hb, Nat.mod_eq_of_lt (by omega)]
theorem qlo_head (b : BitVec 8) : qlo (qz b &&& (-4) ||| nI 4) = b &&& 0xFC#8 ||| 4#8 := by
  have h : ∀ b : BitVec 8, qlo (qz b &&& (-4) ||| nI 4) = b &&& 0xFC#8 ||| 4#8 := by decide +kernel
  exact h b
theorem qlo_or4 (b : BitVec 8) : qlo (qz b ||| nI 4) = b ||| 4#8 := by
  have h : ∀ b : BitVec 8, qlo (qz b ||| nI 4) = b ||| 4#8 := by decide +kernel
  exact h b
theorem qlo_m5 (b : BitVec 8) : qlo (qz b &&& (-5)) = b &&& 0xFB#8 := by
  have h : ∀ b : BitVec 8, qlo (qz b &&& (-5)) = b &&& 0xFB#8 := by decide +kernel
  exact h b
theorem qlo_m8 (b : BitVec 8) : qlo (qz b &&& (-8)) = b &&& 0xF8#8 := by
  have h : ∀ b : BitVec 8, qlo (qz b &&& (-8)) = b &&& 0xF8#8 := by decide +kernel
  exact h b
theorem qz_bit4 (b : BitVec 8) : qz b &&& nI 4 = nI (b.toNat &&& 4) := by
  rw [qz_nat, nI_and (by have := b.isLt; omega) (by decide)]
abbrev oV (v : Nat → Nat) : va_E := .inr (3, [.ref (v 1), .ref (v 3), .ref (v 5), .ref (v 7), .ref (v 9), .ref (v 11), .ref (v 18)])
abbrev oW (w : Nat → Nat) (st lv cnt : Nat) (cm : Bool) : va_E := .inr (6, [.int (nI st), .int (nI lv), .ref (w 1), .ref (w 3), .ref (w 5), .ref (w 7), .ref (w 9), .ref (w 11), .ref (w 13), .ref (w 15), .ref (w 17), .ref (w 19), .int (nI cnt), .int (qb cm)])
abbrev oK (y : Nat → Nat) (ru ln : Nat) : va_E := .inr (2, [.int (nI ru), .int (nI ln), .ref (y 1), .ref (y 3), .ref (y 5)])
theorem mid_of {gl : Nat → BitVec 8} {n : Nat} : ((qL gl n).take (n - 8)).drop 4 = midL (qL gl n) := by rw [midL, qL_len]
theorem nI_sub_neg {a b : Nat} (h : a < b) (hb : b < 2147483648) : nI a - nI b < 0 := by
  rw [Int32.lt_iff_toInt_lt, Int32.toInt_sub, nI_toInt (by omega), nI_toInt (by omega), Int.bmod_eq_of_le (by omega) (by omega)]
  simp
  omega
/-- a line that a secured command can lie on -/
def splB (L : Bytes) : Bool := decide (12 ≤ L.length ∧ (L.getD 0 0).toNat &&& 4 ≠ 0)
theorem splB_of {g : Nat → BitVec 8} {n : Nat} (h : 12 ≤ n) : splB (qL g n) = decide (12 ≤ n ∧ (g 0).toNat &&& 4 ≠ 0) := by rw [splB, qL_len, qL_getD (by omega)]
theorem splB_no {g : Nat → BitVec 8} {n : Nat} (h : ¬ 12 ≤ n) : splB (qL g n) = false := by
  rw [splB, qL_len]
  simp
  omega
