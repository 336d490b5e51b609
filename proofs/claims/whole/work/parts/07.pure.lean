/-! lists of bytes, and what Row's methods do to them -/
theorem qL_0 {α : Type} {g : Nat → α} : qL g 0 = [] := rfl
theorem qL_snoc {α : Type} {g : Nat → α} {n : Nat} {b : α} : qL (qU g n b) (n + 1) = qL g n ++ [b] := by
  rw [qL, List.range_succ, List.map_append, List.map_cons, List.map_nil, qU_same]
  congr 1
  apply List.map_congr_left
  intro j hj
  exact qU_ne (by have := List.mem_range.mp hj; omega)
theorem qL_take {α : Type} {g : Nat → α} {n m : Nat} (h : m ≤ n) : (qL g n).take m = qL g m := by
  apply List.ext_getElem?
  intro j
  rw [List.getElem?_take]
  by_cases hj : j < m
  · rw [if_pos hj, qL_get (by omega), qL_get hj]
  · rw [if_neg hj, List.getElem?_eq_none (by rw [qL_len]; omega)]
theorem qL_succ {α : Type} {g : Nat → α} {n : Nat} : qL g (n + 1) = qL g n ++ [g n] := by
  rw [qL, List.range_succ, List.map_append]
  rfl
theorem qL_drop1 {α : Type} {g : Nat → α} {n i t : Nat} (h : i < n) (ht : i < t) : ((qL g n).take t).drop i = g i :: ((qL g n).take t).drop (i + 1) := by
  rw [List.drop_eq_getElem_cons (by simp [qL]; omega)]
  simp [qL]
/-- byte k (from the lowest) of a number -/
def qN (x : Int64) (k : Nat) : BitVec 8 := (x.toBitVec >>> (8 * k)).setWidth 8
/-- the lowest cnt bytes of a number, the highest of them first -/
def qNum (x : Int64) (cnt : Nat) : List (BitVec 8) := (List.range cnt).map fun i => qN x (cnt - 1 - i)
theorem qNum_len {x : Int64} {cnt : Nat} : (qNum x cnt).length = cnt := by simp [qNum]
theorem qNum_get {x : Int64} {cnt j : Nat} (h : j < cnt) : (qNum x cnt)[j]? = some (qN x (cnt - 1 - j)) := by simp [qNum, h]
theorem q_lsh {k : Nat} (hk : k < 64) : ((nI k).toInt64.toUInt64 &&& Int64.toUInt64 63) = UInt64.ofNat k := by
  have h : ∀ n : Fin 64, ((nI n).toInt64.toUInt64 &&& Int64.toUInt64 63) = UInt64.ofNat n := by decide +kernel
  exact h ⟨k, hk⟩
theorem qN_of (x : Int64) {k : Nat} (h : k < 8) : qlo ((x.toUInt64 >>> ((nI (8 * k)).toInt64.toUInt64 &&& Int64.toUInt64 63)).toInt64.toInt32) = qN x k := by
  rw [q_lsh (by omega)]
  apply BitVec.eq_of_getLsbD_eq
  intro i hi
  have hs : (UInt64.ofNat (8 * k)).toBitVec % 64#64 = BitVec.ofNat 64 (8 * k) := by
    apply BitVec.eq_of_toNat_eq
    simp
    omega
  simp only [qlo, qN, Int64.toInt32, BitVec.getLsbD_setWidth, hi, decide_true, Bool.true_and, BitVec.getLsbD_ushiftRight]
  show (BitVec.signExtend 32 (x.toBitVec >>> ((UInt64.ofNat (8 * k)).toBitVec % 64#64))).getLsbD i = _
  rw [hs, BitVec.getLsbD_signExtend]
  have h1 : (BitVec.ofNat 64 (8 * k)).toNat = 8 * k := by simp; omega
  simp [h1, show i < 32 by omega, show i < 64 by omega]
/-- what is behind 0x80 and 0s up to a multiple of w -/
def qpad (w : Nat) (L : List (BitVec 8)) : List (BitVec 8) := L ++ 0x80#8 :: List.replicate (w - 1 - L.length % w) 0#8
theorem qpad_len {w : Nat} {L : List (BitVec 8)} (hw : 0 < w) : (qpad w L).length = (L.length / w + 1) * w := by
  simp only [qpad, List.length_append, List.length_cons, List.length_replicate]
  have h1 := Nat.div_add_mod L.length w
  have h2 := Nat.mod_lt L.length hw
  rw [Nat.add_mul, Nat.one_mul, Nat.mul_comm (L.length / w)]
  omega
/-- the last place up to k that is not 0, or place 0 -/
def qnz (g : Nat → BitVec 8) : Nat → Nat
  | 0 => 0
  | k + 1 => if g (k + 1) = 0#8 then qnz g k else k + 1
theorem qnz_le (g : Nat → BitVec 8) (k : Nat) : qnz g k ≤ k := by
  induction k with
  | zero => exact Nat.le_refl _
  | succ k ih =>
    simp only [qnz]
    split <;> omega
theorem qnz_congr {g g' : Nat → BitVec 8} : ∀ {k : Nat}, (∀ j, j ≤ k → g j = g' j) → qnz g k = qnz g' k
  | 0, _ => rfl
  | k + 1, h => by
    simp only [qnz]
    rw [h (k + 1) (Nat.le_refl _), qnz_congr (fun j hj => h j (by omega))]
/-- UNPADDED, as the document has it: nothing where it is wrong -/
def qunp (L : List (BitVec 8)) : Option (List (BitVec 8)) :=
  if 1 ≤ qnz (fun j => L.getD j 0) (L.length - 1) ∧ L.getD (qnz (fun j => L.getD j 0) (L.length - 1)) 0 = 0x80#8 then some (L.take (qnz (fun j => L.getD j 0) (L.length - 1))) else none
theorem qL_getD {g : Nat → BitVec 8} {n j : Nat} (h : j < n) : (qL g n).getD j 0 = g j := by
  rw [List.getD_eq_getElem?_getD, qL_get h]
  rfl
theorem qunp_qL {g : Nat → BitVec 8} {n : Nat} (hn : 0 < n) : qunp (qL g n) = if 1 ≤ qnz g (n - 1) ∧ g (qnz g (n - 1)) = 0x80#8 then some (qL g (qnz g (n - 1))) else none := by
  have h1 : qnz (fun j => (qL g n).getD j 0) (n - 1) = qnz g (n - 1) := qnz_congr (fun j hj => qL_getD (by omega))
  have h2 := qnz_le g (n - 1)
  simp only [qunp, qL_len, h1]
  rw [qL_getD (by omega), qL_take (by omega)]
def qAt (g : Nat → BitVec 8) (n : Nat) (i : Int32) : Int32 := if 0 ≤ i.toInt ∧ i.toInt < n then qz (g i.toInt.toNat) else -1
theorem qz_eq {a b : BitVec 8} : qz a = qz b ↔ a = b := ⟨fun h => by have := congrArg qlo h; rwa [qlo_qz, qlo_qz] at this, fun h => by rw [h]⟩
theorem qz_nat (b : BitVec 8) : qz b = nI b.toNat := by
  have h : ∀ b : BitVec 8, qz b = nI b.toNat := by decide +kernel
  exact h b
theorem qs_eq {a b : BitVec 8} : qs a = qs b ↔ a = b := ⟨fun h => by have := congrArg qlo h; rwa [qlo_qs, qlo_qs] at this, fun h => by rw [h]⟩
/-- an index that may be out of range -/
theorem q_ix {i : Int32} {n : Nat} (h0 : ¬ i < 0) (h1 : ¬ nI n ≤ i) (hn : n < 2 ^ 31) : ∃ j : Nat, j < n ∧ i = nI j := by
  rcases pk_ix i hn with h | h | h
  · exact absurd h h0
  · exact absurd h h1
  · exact h
theorem q_toI {j : Nat} (h : j < 2 ^ 31) : (nI j).toInt = (j : Int) := nI_toInt h
theorem qAt_in {g : Nat → BitVec 8} {n j : Nat} (h : j < n) (hn : n < 2 ^ 31) : qAt g n (nI j) = qz (g j) := by
  simp only [qAt, q_toI (show j < 2 ^ 31 by omega)]
  rw [if_pos ⟨by omega, by omega⟩]
  rfl
theorem qAt_neg {g : Nat → BitVec 8} {n : Nat} {i : Int32} (h : i < 0) : qAt g n i = -1 := by
  rw [qAt, if_neg]
  intro ⟨h1, _⟩
  have := Int32.lt_iff_toInt_lt.mp h
  simp at this
  omega
theorem qAt_big {g : Nat → BitVec 8} {n : Nat} {i : Int32} (hn : n < 2 ^ 31) (h : nI n ≤ i) : qAt g n i = -1 := by
  rw [qAt, if_neg]
  intro ⟨_, h2⟩
  have := Int32.le_iff_toInt_le.mp h
  rw [q_toI hn] at this
  omega
/-- a number that counts down to below 0 -/
def qI (c : Nat) : Int32 := nI c + (-1)
theorem qI_of (c : Nat) : nI c - nI 1 = qI c := Int32.sub_eq_add_neg _ _
theorem qI_s (c : Nat) : qI (c + 1) = nI c := pk_m1 c
theorem qI_neg {c : Nat} (h : c < 2 ^ 31) : qI c < 0 ↔ c = 0 := by
  cases c with
  | zero => simp [qI]; decide
  | succ c =>
    rw [qI_s]
    simp [nI_pos (n := c) (by omega)]
theorem qz_0 {b : BitVec 8} : qz b = 0 ↔ b = 0#8 := (qz_eq (a := b) (b := 0#8))
theorem qz_80 {b : BitVec 8} : qz b = nI 128 ↔ b = 0x80#8 := (qz_eq (a := b) (b := 0x80#8))
theorem qnz_stop {g : Nat → BitVec 8} {k : Nat} (h : ¬ g k = 0#8) : qnz g k = k := by
  cases k with
  | zero => rfl
  | succ k => simp only [qnz, if_neg h]
theorem qnz_step {g : Nat → BitVec 8} {k : Nat} (hk : 0 < k) (h : g k = 0#8) : qnz g k = qnz g (k - 1) := by
  cases k with
  | zero => omega
  | succ k => simp only [qnz, if_pos h, Nat.add_sub_cancel]
theorem qL_tail {g g2 : Nat → BitVec 8} {n n2 : Nat} (h : 8 ≤ n) (h2 : 8 ≤ n2) : (8 ≤ n ∧ 8 ≤ n2 ∧ (qL g n).drop (n - 8) = (qL g2 n2).take 8) ↔ (8 ≤ n ∧ 8 ≤ n2 ∧ ∀ j, j < 8 → g (n - 8 + j) = g2 j) := by
  refine and_congr_right fun _ => and_congr_right fun _ => ⟨fun hh j hj => ?_, fun hh => ?_⟩
  · have := congrArg (fun l => l[j]?) hh
    simp only [List.getElem?_drop, List.getElem?_take, if_pos hj] at this
    rw [qL_get (by omega), qL_get (by omega)] at this
    exact Option.some.inj this
  · apply List.ext_getElem?
    intro j
    rw [List.getElem?_drop, List.getElem?_take]
    by_cases hj : j < 8
    · rw [if_pos hj, qL_get (by omega), qL_get (by omega), hh j hj]
    · rw [if_neg hj, List.getElem?_eq_none (by rw [qL_len]; omega)]
def qHas (g g2 : Nat → BitVec 8) (f cnt : Nat) : Bool := (List.range cnt).all fun j => g (f + j) == g2 j
theorem qHas_t {g g2 : Nat → BitVec 8} {f cnt : Nat} : qHas g g2 f cnt = true ↔ ∀ j, j < cnt → g (f + j) = g2 j := by simp [qHas]
theorem qHas_f {g g2 : Nat → BitVec 8} {f cnt : Nat} : qHas g g2 f cnt = false ↔ ∃ j, j < cnt ∧ ¬ g (f + j) = g2 j := by
  rw [← Bool.not_eq_true, qHas_t]
  simp
