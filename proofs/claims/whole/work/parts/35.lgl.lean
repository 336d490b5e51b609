/-! what the public calls answer, over lists -/
abbrev oG (lg ya yb wa wb o v : Nat → Nat) (ct : Nat) : va_E := .inr (7, [.ref (lg 1), .ref (lg 3), .ref (lg 5), .ref (lg 7), .ref (ya 0), .ref (yb 0), .ref (wa 0), .ref (wb 0), .ref (o 0), .ref (v 0), .int (nI ct)])
/-- a tape of n bytes can be keys by rule r -/
def keyB (r : Int32) (n : Nat) : Bool := decide ((r = nI 2 ∧ n = 48) ∨ (r = nI 3 ∧ (n = 48 ∨ n = 72 ∨ n = 96)))
theorem keyB_no {r : Int32} {n : Nat} (h : keyB r n = false) (hn : n / 3 * 3 = n) (hr : (r = nI 2 ∧ n / 3 = 16) ∨ (r = nI 3 ∧ (n / 3 = 16 ∨ n / 3 = 24 ∨ n / 3 = 32))) : False := by
  refine of_decide_eq_false h ?_
  rcases hr with ⟨e, q⟩ | ⟨e, q⟩
  · exact Or.inl ⟨e, by omega⟩
  · exact Or.inr ⟨e, by omega⟩
/-- what a table of cases leaves over -/
theorem q_out {i : Int32} {n : Nat} (h : ∀ k, k ≤ n → ¬ i = nI k) (hn : n < 2147483648) : i.toInt < 0 ∨ (n : Int) < i.toInt := by
  by_cases h0 : i.toInt < 0
  · exact Or.inl h0
  · by_cases h1 : (n : Int) < i.toInt
    · exact Or.inr h1
    · exfalso
      refine h i.toInt.toNat (by omega) ?_
      rw [← Int32.toInt_inj, nI_toInt (by omega)]
      omega
def atL (L : Bytes) (i : Int32) : Int32 := if 0 ≤ i.toInt ∧ i.toInt < L.length then qz (L.getD i.toInt.toNat 0) else -1
theorem qAt_L {g : Nat → BitVec 8} {n : Nat} {i : Int32} : qAt g n i = atL (qL g n) i := by
  rw [qAt, atL, qL_len]
  by_cases h : 0 ≤ i.toInt ∧ i.toInt < n
  · rw [if_pos h, if_pos h, qL_getD (by omega)]
  · rw [if_neg h, if_neg h]
def cutR (L : Bytes) (i : Int32) : Int32 := if 0 ≤ i.toInt ∧ i.toInt ≤ L.length then i else -1
def cutF (L : Bytes) (i : Int32) : Bytes := if 0 ≤ i.toInt ∧ i.toInt ≤ L.length then L.take i.toInt.toNat else L
def altR (L : Bytes) (i x : Int32) : Int32 := if 0 ≤ i.toInt ∧ i.toInt < L.length then qz (L.getD i.toInt.toNat 0 ^^^ qlo x) else -1
def altF (L : Bytes) (i x : Int32) : Bytes := if 0 ≤ i.toInt ∧ i.toInt < L.length then L.set i.toInt.toNat (L.getD i.toInt.toNat 0 ^^^ qlo x) else L
def feedR (L : Bytes) : Int32 := if L.length + 20 ≤ 400 then nI (L.length + 20) else -1
def feedF (L : Bytes) (a b c d e : Int32) : Bytes := if L.length + 20 ≤ 400 then L ++ (qNum a.toInt64 4 ++ qNum b.toInt64 4 ++ qNum c.toInt64 4 ++ qNum d.toInt64 4 ++ qNum e.toInt64 4) else L
theorem cut_row {g : Nat → BitVec 8} {n n1 : Nat} {i : Int32} {z : Bool} (hz : z = decide (0 ≤ i.toInt ∧ i.toInt ≤ n)) (hn : n1 = if z then i.toInt.toNat else n) : qL g n1 = cutF (qL g n) i ∧ (z = true → cutR (qL g n) i = i) ∧ (z = false → cutR (qL g n) i = -1) ∧ n1 ≤ n := by
  rw [cutF, cutR, qL_len]
  by_cases h : 0 ≤ i.toInt ∧ i.toInt ≤ n
  · rw [decide_eq_true h] at hz
    subst hz
    rw [if_pos rfl] at hn
    rw [if_pos h, if_pos h, hn, qL_take (by omega)]
    exact ⟨rfl, fun _ => rfl, (fun q => by cases q), by omega⟩
  · rw [decide_eq_false h] at hz
    subst hz
    rw [if_neg (by decide)] at hn
    rw [if_neg h, if_neg h, hn]
    exact ⟨rfl, (fun q => by cases q), fun _ => rfl, Nat.le_refl _⟩
theorem qU_set {g : Nat → BitVec 8} {n j : Nat} {b : BitVec 8} (h : j < n) : qL (qU g j b) n = (qL g n).set j b := by
  apply List.ext_getElem?
  intro k
  rw [List.getElem?_set]
  by_cases hk : k < n
  · rw [qL_get hk]
    by_cases e : j = k
    · subst e
      rw [if_pos rfl, if_pos (by rw [qL_len]; exact h), qU_same]
    · rw [if_neg e, qL_get hk, qU_ne (fun q => e q.symm)]
  · rw [List.getElem?_eq_none (by rw [qL_len]; omega), if_neg (by omega), List.getElem?_eq_none (by rw [qL_len]; omega)]
theorem alt_row {g g1 : Nat → BitVec 8} {n j : Nat} {x : Int32} (h : j < n) (hn : n < 2147483648) (hg : g1 = qU g j (qlo (qz (g j) ^^^ x))) : qL g1 n = altF (qL g n) (nI j) x ∧ qz (g1 j) = altR (qL g n) (nI j) x := by
  have e : qlo (qz (g j) ^^^ x) = g j ^^^ qlo x := by rw [qlo_xor, qlo_qz]
  rw [e] at hg
  subst hg
  rw [altF, altR, qL_len, nI_toInt (show j < 2 ^ 31 by omega), if_pos ⟨by omega, by omega⟩, if_pos ⟨by omega, by omega⟩, qU_same]
  simp only [Int.toNat_natCast]
  rw [qL_getD h, qU_set h]
  exact ⟨rfl, rfl⟩
theorem alt_out {g : Nat → BitVec 8} {n : Nat} {i x : Int32} (hn : n < 2147483648) (h : i < 0 ∨ ¬ i < nI n) : altF (qL g n) i x = qL g n ∧ altR (qL g n) i x = -1 := by
  have q : ¬ (0 ≤ i.toInt ∧ i.toInt < n) := by
    intro q
    rcases h with h | h
    · have := Int32.lt_iff_toInt_lt.mp h
      simp at this
      omega
    · apply h
      rw [Int32.lt_iff_toInt_lt, nI_toInt (by omega)]
      exact q.2
  rw [altF, altR, qL_len, if_neg q, if_neg q]
  exact ⟨rfl, rfl⟩
def swB (sw : Int32) : Bool := decide (0 ≤ sw.toInt ∧ sw.toInt ≤ 65535)
def prvC (l : Nat) (cp : Bytes) : Bytes := [0x84#8, 0x82#8, BitVec.ofNat 8 l, 0#8] ++ cp
theorem secD2_0 {K C : Bytes} : secD2 K 0 C = C.drop 4 := by simp [secD2, hidB]
theorem secD3_0 {K C : Bytes} {cnt : Nat} : secD3 K cnt 0 C = C.drop 4 := by simp [secD3, hidB]
theorem prvC_len {l : Nat} {cp : Bytes} : (prvC l cp).length = cp.length + 4 := by simp [prvC]
theorem prvC_drop {l : Nat} {cp : Bytes} : (prvC l cp).drop 4 = cp := rfl
theorem prv_put {l : Nat} {cp ch : Bytes} : putC (prvC l cp) cp ch = prvC l cp ++ ch.take 8 := by
  simp [putC, prvC]
def provB (L cp : Bytes) (nw : Bool) : Bool := decide (L.length = 20 ∧ L.getD 0 0 = 0x84#8 ∧ L.getD 1 0 = 0x82#8 ∧ levB (qz (L.getD 2 0)) nw = true ∧ L.getD 3 0 = 0#8 ∧ (L.drop 4).take 8 = cp)
theorem provB_qL {gl gcp : Nat → BitVec 8} {nl : Nat} {nw : Bool} (h : nl = 20) : provB (qL gl nl) (qL gcp 8) nw = decide (gl 0 = 0x84#8 ∧ gl 1 = 0x82#8 ∧ levB (qz (gl 2)) nw = true ∧ gl 3 = 0#8 ∧ qHas gl gcp 4 8 = true) := by
  subst h
  rw [provB, qL_len, qL_getD (by decide), qL_getD (by decide), qL_getD (by decide), qL_getD (by decide), qL_drop, seg_take (by decide)]
  congr 1
  simp only [true_and, eq_iff_iff]
  refine and_congr_right fun _ => and_congr_right fun _ => and_congr_right fun _ => and_congr_right fun _ => ?_
  rw [qHas_t, seg, qL_ext]
theorem provB_no {gl : Nat → BitVec 8} {nl : Nat} {cp : Bytes} {nw : Bool} (h : ¬ nl = 20) : provB (qL gl nl) cp nw = false := by
  rw [provB, qL_len]
  exact decide_eq_false (fun q => h q.1)
theorem provB_len {gl : Nat → BitVec 8} {nl : Nat} {cp : Bytes} {nw : Bool} (h : provB (qL gl nl) cp nw = true) : nl = 20 := by
  have := (of_decide_eq_true h).1
  rwa [qL_len] at this
theorem qz_lit {b : BitVec 8} {k : Nat} (hk : k < 256) : qz b = nI k ↔ b = BitVec.ofNat 8 k := by
  rw [qz_nat]
  constructor
  · intro h
    apply BitVec.eq_of_toNat_eq
    have := (nI_eq (by have := b.isLt; omega) (by omega)).mp h
    simp
    omega
  · intro h
    rw [h]
    simp
    rw [Nat.mod_eq_of_lt hk]
theorem levB_64 {l : Int32} {nw : Bool} (h : levB l nw = true) : ∃ k, k < 64 ∧ l = nI k := by
  simp only [levB, Bool.or_eq_true, Bool.and_eq_true, beq_iff_eq] at h
  rcases h with ((((h | h) | h) | h) | h) | h
  · exact ⟨0, by decide, h⟩
  · exact ⟨1, by decide, h⟩
  · exact ⟨3, by decide, h⟩
  · exact ⟨17, by decide, h⟩
  · exact ⟨19, by decide, h⟩
  · exact ⟨51, by decide, h.1⟩
theorem sw_lt {i : Int32} (h : i < 0) : swB i = false := by
  refine decide_eq_false (fun q => ?_)
  have := Int32.lt_iff_toInt_lt.mp h
  simp at this
  omega
theorem sw_gt {i : Int32} (h : nI 65535 < i) : swB i = false := by
  refine decide_eq_false (fun q => ?_)
  have := Int32.lt_iff_toInt_lt.mp h
  rw [nI_toInt (by decide)] at this
  omega
theorem sw_ok {i : Int32} (h0 : ¬ i < 0) (h : ¬ nI 65535 < i) : swB i = true := by
  refine decide_eq_true ⟨?_, ?_⟩
  · have := Int32.le_iff_toInt_le.mp (Int32.not_lt.mp h0)
    simpa using this
  · have := Int32.le_iff_toInt_le.mp (Int32.not_lt.mp h)
    rw [nI_toInt (by decide)] at this
    omega
theorem ct_ok {i : Int32} (h0 : ¬ i < 0) (h : i ≤ nI 16777215) : 0 ≤ i.toInt ∧ i.toInt ≤ 16777215 := by
  refine ⟨?_, ?_⟩
  · have := Int32.le_iff_toInt_le.mp (Int32.not_lt.mp h0)
    simpa using this
  · have := Int32.le_iff_toInt_le.mp h
    rw [nI_toInt (by decide)] at this
    omega
def aboutF (st lv ru ln ct nl nou : Nat) (i : Int32) : Int32 :=
  if i = nI 0 then nI st else if i = nI 1 then nI lv else if i = nI 2 then nI ru else if i = nI 3 then nI ln else if i = nI 4 then nI ct else if i = nI 5 then nI nl else if i = nI 6 then nI nou else -1
def secF (E M B S HP CP CH : Bytes) (i j : Int32) : Int32 :=
  if i = nI 0 then atL E j else if i = nI 1 then atL M j else if i = nI 2 then atL B j else if i = nI 3 then atL S j else if i = nI 4 then atL HP j else if i = nI 5 then atL CP j else if i = nI 6 then atL CH j else -1
theorem sec_no {E M B S HP CP CH : Bytes} {i j : Int32} (h0 : ¬ i = nI 0) (h1 : ¬ i = nI 1) (h2 : ¬ i = nI 2) (h3 : ¬ i = nI 3) (h4 : ¬ i = nI 4) (h5 : ¬ i = nI 5) (h6 : ¬ i = nI 6) : secF E M B S HP CP CH i j = -1 := by
  rw [secF, if_neg h0, if_neg h1, if_neg h2, if_neg h3, if_neg h4, if_neg h5, if_neg h6]
