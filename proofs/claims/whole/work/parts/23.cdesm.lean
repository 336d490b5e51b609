/-! the class's DES is DES: bits from the highest on -/
def lB (x : Int64) (j : Nat) : Bool := x.toBitVec.getLsbD (63 - j)
def iB (x : Int32) (j : Nat) : Bool := x.toBitVec.getLsbD (31 - j)
theorem lus_bv (x : Int64) {k : Nat} (hk : k < 64) : (lus x k).toBitVec = x.toBitVec >>> k := by
  rw [lus, q_lsh hk]
  have hs : (UInt64.ofNat k).toBitVec % 64#64 = BitVec.ofNat 64 k := by
    apply BitVec.eq_of_toNat_eq
    simp
    omega
  show x.toBitVec >>> ((UInt64.ofNat k).toBitVec % 64#64) = _
  rw [hs]
  apply BitVec.eq_of_getLsbD_eq
  intro i _
  rw [BitVec.getLsbD_ushiftRight, BitVec.ushiftRight_eq', BitVec.getLsbD_ushiftRight, BitVec.toNat_ofNat, Nat.mod_eq_of_lt (by omega)]
theorem lsl_bv (x : Int64) {k : Nat} (hk : k < 64) : (lsl x k).toBitVec = x.toBitVec <<< k := by
  have h : ∀ n : Fin 64, ((nI n).toInt64 &&& 63).toBitVec.smod 64#64 = BitVec.ofNat 64 n := by decide +kernel
  show x.toBitVec <<< (((nI k).toInt64 &&& 63).toBitVec.smod 64#64) = _
  rw [h ⟨k, hk⟩]
  apply BitVec.eq_of_getLsbD_eq
  intro i _
  rw [BitVec.shiftLeft_eq', BitVec.getLsbD_shiftLeft, BitVec.getLsbD_shiftLeft, BitVec.toNat_ofNat, Nat.mod_eq_of_lt (by omega)]
theorem lus_get (x : Int64) {k i : Nat} (hk : k < 64) : (lus x k).toBitVec.getLsbD i = x.toBitVec.getLsbD (k + i) := by
  rw [lus_bv x hk, BitVec.getLsbD_ushiftRight]
theorem lsl_get (x : Int64) {k i : Nat} (hk : k < 64) (hi : i < 64) : (lsl x k).toBitVec.getLsbD i = (decide (k ≤ i) && x.toBitVec.getLsbD (i - k)) := by
  rw [lsl_bv x hk, BitVec.getLsbD_shiftLeft]
  by_cases h : i < k
  · simp [h, hi, show ¬ k ≤ i by omega]
  · simp [h, hi, show k ≤ i by omega]
theorem or_get (x y : Int64) (i : Nat) : (x ||| y).toBitVec.getLsbD i = (x.toBitVec.getLsbD i || y.toBitVec.getLsbD i) := by
  rw [Int64.toBitVec_or, BitVec.getLsbD_or]
theorem xor_get (x y : Int64) (i : Nat) : (x ^^^ y).toBitVec.getLsbD i = (x.toBitVec.getLsbD i ^^ y.toBitVec.getLsbD i) := by
  rw [Int64.toBitVec_xor, BitVec.getLsbD_xor]
theorem and_get (x y : Int64) (i : Nat) : (x &&& y).toBitVec.getLsbD i = (x.toBitVec.getLsbD i && y.toBitVec.getLsbD i) := by
  rw [Int64.toBitVec_and, BitVec.getLsbD_and]
theorem get_big (x : Int64) {i : Nat} (h : 64 ≤ i) : x.toBitVec.getLsbD i = false := BitVec.getLsbD_of_ge _ _ h
theorem qz_l (b : BitVec 8) : (qz b).toInt64.toBitVec = b.setWidth 64 := by
  have h : ∀ b : BitVec 8, (qz b).toInt64.toBitVec = b.setWidth 64 := by decide +kernel
  exact h b
theorem ldL_get {g : Nat → BitVec 8} : ∀ {t i : Nat}, t ≤ 8 → i < 64 → (ldL g t).toBitVec.getLsbD i = (decide (i < 8 * t) && (g (t - 1 - i / 8)).getLsbD (i % 8))
  | 0, i, _, _ => by
    rw [decide_eq_false (by omega)]
    simp [ldL]
  | t + 1, i, ht, hi => by
    rw [ldL, or_get, lsl_get _ (by decide) hi, qz_l, BitVec.getLsbD_setWidth]
    by_cases h : i < 8
    · rw [decide_eq_false (by omega), decide_eq_true (show i < 8 * (t + 1) by omega), decide_eq_true hi]
      simp only [Bool.false_and, Bool.false_or, Bool.true_and]
      rw [show t + 1 - 1 - i / 8 = t by omega, show i % 8 = i by omega]
    · rw [ldL_get (by omega) (by omega), BitVec.getLsbD_of_ge (g t) _ (by omega), decide_eq_true (show 8 ≤ i by omega), decide_eq_true hi, Bool.and_false, Bool.or_false, Bool.true_and]
      rw [show t - 1 - (i - 8) / 8 = t + 1 - 1 - i / 8 by omega, show (i - 8) % 8 = i % 8 by omega]
      congr 1
      exact decide_eq_decide.mpr (by omega)
theorem ldL_B {g : Nat → BitVec 8} {j : Nat} (h : j < 64) : lB (ldL g 8) j = dBit g 0 j := by
  rw [lB, ldL_get (Nat.le_refl 8) (by omega), decide_eq_true (by omega), Bool.true_and, dBit]
  rw [show 8 - 1 - (63 - j) / 8 = 0 + j / 8 by omega, show (63 - j) % 8 = 7 - j % 8 by omega]
theorem l32_get (x : Int64) {i : Nat} (h : i < 32) : x.toInt32.toBitVec.getLsbD i = x.toBitVec.getLsbD i := by
  show (x.toBitVec.signExtend 32).getLsbD i = _
  rw [BitVec.signExtend_eq_setWidth_of_le _ (by decide), BitVec.getLsbD_setWidth]
  simp [h]
theorem bySt_B {x : Int64} {j : Nat} (h : j < 64) : (bySt x (j / 8)).getLsbD (7 - j % 8) = lB x j := by
  rw [bySt, qlo, BitVec.getLsbD_setWidth, decide_eq_true (by omega), Bool.true_and, l32_get _ (by omega), lus_get _ (by omega), lB]
  congr 1
  omega
/-! the five swaps -/
def swI (k i : Nat) : Nat := if (tMSK k).testBit i then i + tSWP k else if tSWP k ≤ i ∧ (tMSK k).testBit (i - tSWP k) then i - tSWP k else i
theorem msk_get {k i : Nat} (hk : k < 5) : (lN (tMSK k)).toBitVec.getLsbD i = (tMSK k).testBit i := by
  have h : ∀ k : Fin 5, tMSK k < 2 ^ 64 := by decide +kernel
  show (BitVec.ofNat 64 (tMSK k)).getLsbD i = _
  rw [BitVec.getLsbD_ofNat]
  by_cases hi : i < 64
  · simp [hi]
  · simp only [hi, decide_false, Bool.false_and]
    exact (Nat.testBit_lt_two_pow (Nat.lt_of_lt_of_le (h ⟨k, hk⟩) (Nat.pow_le_pow_right (by decide) (by omega)))).symm
theorem ro_step {r : Int64} {k i : Nat} (hk : k < 5) (hi : i < 64) : (r ^^^ (((lus r (tSWP k) ^^^ r) &&& lN (tMSK k)) ^^^ lsl ((lus r (tSWP k) ^^^ r) &&& lN (tMSK k)) (tSWP k))).toBitVec.getLsbD i = r.toBitVec.getLsbD (swI k i) := by
  have hb := tSWP_b hk
  have dis : ∀ k : Fin 5, ∀ i : Fin 64, ¬ ((tMSK k).testBit i = true ∧ tSWP k ≤ i.val ∧ (tMSK k).testBit (i.val - tSWP k) = true) := by decide +kernel
  have hd := dis ⟨k, hk⟩ ⟨i, hi⟩
  simp only [xor_get, and_get]
  rw [lsl_get _ (by omega) hi]
  simp only [xor_get, and_get, lus_get _ (show tSWP k < 64 by omega), msk_get hk, swI]
  by_cases h1 : (tMSK k).testBit i = true
  · have h2 : ¬ (tSWP k ≤ i ∧ (tMSK k).testBit (i - tSWP k) = true) := fun q => hd ⟨h1, q.1, q.2⟩
    rw [if_pos h1, h1]
    have h3 : (decide (tSWP k ≤ i) && ((r.toBitVec.getLsbD (tSWP k + (i - tSWP k)) ^^ r.toBitVec.getLsbD (i - tSWP k)) && (tMSK k).testBit (i - tSWP k))) = false := by
      by_cases q : tSWP k ≤ i
      · have : (tMSK k).testBit (i - tSWP k) = false := by
          cases e : (tMSK k).testBit (i - tSWP k) with
          | false => rfl
          | true => exact absurd ⟨q, e⟩ h2
        rw [this]
        simp
      · simp [q]
    rw [h3, Nat.add_comm i]
    cases r.toBitVec.getLsbD i <;> cases r.toBitVec.getLsbD (tSWP k + i) <;> rfl
  · rw [if_neg h1, Bool.not_eq_true] at *
    rw [h1]
    by_cases h2 : tSWP k ≤ i ∧ (tMSK k).testBit (i - tSWP k) = true
    · rw [if_pos h2, h2.2, decide_eq_true h2.1, show tSWP k + (i - tSWP k) = i by omega]
      cases r.toBitVec.getLsbD i <;> cases r.toBitVec.getLsbD (i - tSWP k) <;> simp
    · rw [if_neg h2]
      have h3 : (decide (tSWP k ≤ i) && ((r.toBitVec.getLsbD (tSWP k + (i - tSWP k)) ^^ r.toBitVec.getLsbD (i - tSWP k)) && (tMSK k).testBit (i - tSWP k))) = false := by
        by_cases q : tSWP k ≤ i
        · have : (tMSK k).testBit (i - tSWP k) = false := by
            cases e : (tMSK k).testBit (i - tSWP k) with
            | false => rfl
            | true => exact absurd ⟨q, e⟩ h2
          rw [this]
          simp
        · simp [q]
      rw [h3]
      simp
theorem swI_lt {k i : Nat} (hk : k < 5) (hi : i < 64) : swI k i < 64 := by
  have h : ∀ k : Fin 5, ∀ i : Fin 64, swI k i < 64 := by decide +kernel
  exact h ⟨k, hk⟩ ⟨i, hi⟩
theorem roS_get {x : Int64} {last : Bool} {i : Nat} (hi : i < 64) : (roS x last 5).toBitVec.getLsbD i = x.toBitVec.getLsbD (if last then swI 4 (swI 3 (swI 2 (swI 1 (swI 0 i)))) else swI 0 (swI 1 (swI 2 (swI 3 (swI 4 i))))) := by
  cases last
  · simp only [roS, Bool.false_eq_true, if_false]
    rw [ro_step (by decide) hi, ro_step (by decide) (swI_lt (by decide) hi), ro_step (by decide) (swI_lt (by decide) (swI_lt (by decide) hi)), ro_step (by decide) (swI_lt (by decide) (swI_lt (by decide) (swI_lt (by decide) hi))), ro_step (by decide) (swI_lt (by decide) (swI_lt (by decide) (swI_lt (by decide) (swI_lt (by decide) hi))))]
  · simp only [roS, if_true]
    rw [ro_step (by decide) hi, ro_step (by decide) (swI_lt (by decide) hi), ro_step (by decide) (swI_lt (by decide) (swI_lt (by decide) hi)), ro_step (by decide) (swI_lt (by decide) (swI_lt (by decide) (swI_lt (by decide) hi))), ro_step (by decide) (swI_lt (by decide) (swI_lt (by decide) (swI_lt (by decide) (swI_lt (by decide) hi))))]
theorem ro_IP {x : Int64} {j : Nat} (h : j < 64) : lB (roS x false 5) j = lB x (tIP j - 1) := by
  have q : ∀ j : Fin 64, swI 0 (swI 1 (swI 2 (swI 3 (swI 4 (63 - j.val))))) = 63 - (tIP j - 1) := by decide +kernel
  rw [lB, roS_get (by omega), if_neg (by decide), q ⟨j, h⟩, lB]
theorem ro_FP {x : Int64} {j : Nat} (h : j < 64) : lB (roS x true 5) j = lB x (tIPI j) := by
  have q : ∀ j : Fin 64, swI 4 (swI 3 (swI 2 (swI 1 (swI 0 (63 - j.val))))) = 63 - tIPI j := by decide +kernel
  rw [lB, roS_get (by omega), if_pos rfl, q ⟨j, h⟩, lB]
/-! the keys of the rounds -/
theorem chL_get {x : Int64} {w : Nat} {tb : Nat → Nat} (hw : w ≤ 64) (ht : ∀ k, k < 56 → 1 ≤ tb k) : ∀ {n i : Nat}, n ≤ 56 → i < 64 → (chL x w tb n).toBitVec.getLsbD i = (decide (i < n) && x.toBitVec.getLsbD (w - tb (n - 1 - i)))
  | 0, i, _, _ => by
    rw [decide_eq_false (by omega)]
    simp [chL]
  | n + 1, i, hn, hi => by
    have h1 := ht n (by omega)
    have e1 : ((1 : Int64).toBitVec).getLsbD i = decide (i = 0) := by
      have : ∀ i : Fin 64, ((1 : Int64).toBitVec).getLsbD i = decide (i.val = 0) := by decide +kernel
      exact this ⟨i, hi⟩
    rw [chL, or_get, lsl_get _ (by decide) hi, and_get, lus_get _ (by omega), e1]
    by_cases h : i = 0
    · subst h
      rw [decide_eq_false (by omega), decide_eq_true (show 0 < n + 1 by omega), decide_eq_true rfl]
      simp
    · rw [chL_get hw ht (by omega) (by omega), decide_eq_true (show 1 ≤ i by omega), decide_eq_false h, Bool.and_false, Bool.or_false, Bool.true_and]
      rw [show n - 1 - (i - 1) = n + 1 - 1 - i by omega]
      congr 1
      exact decide_eq_decide.mpr (by omega)
