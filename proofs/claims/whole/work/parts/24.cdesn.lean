theorem scX_B {g : Nat → BitVec 8} {k : Nat} (h : k < 56) : (scX g).toBitVec.getLsbD (55 - k) = dCD (dBit g 0) 0 k := by
  have hb := tCH_b h
  rw [scX, chL_get (Nat.le_refl 64) (fun q hq => (tCH_b hq).1) (Nat.le_refl 56) (by omega), decide_eq_true (by omega), Bool.true_and, show 56 - 1 - (55 - k) = k by omega]
  show _ = dBit g 0 (tCH k - 1)
  rw [← ldL_B (by omega), lB]
  congr 1
  omega
theorem m28_get {i : Nat} : (nI 268435455).toBitVec.getLsbD i = decide (i < 28) := by
  by_cases h : i < 32
  · have q : ∀ i : Fin 32, (nI 268435455).toBitVec.getLsbD i = decide (i.val < 28) := by decide +kernel
    exact q ⟨i, h⟩
  · rw [BitVec.getLsbD_of_ge _ _ (by omega), decide_eq_false (by omega)]
theorem and28 {h : Int32} {i : Nat} : (h &&& nI 268435455).toBitVec.getLsbD i = (h.toBitVec.getLsbD i && decide (i < 28)) := by
  rw [Int32.toBitVec_and, BitVec.getLsbD_and, m28_get]
theorem rot_get {h : Int32} {n i : Nat} (hn : n = 1 ∨ n = 2) (hz : ∀ i, 28 ≤ i → h.toBitVec.getLsbD i = false) (hi : i < 28) : (rotI h n).toBitVec.getLsbD i = h.toBitVec.getLsbD (if i < n then 28 - n + i else i - n) := by
  rw [rotI, and28, decide_eq_true hi, Bool.and_true, Int32.toBitVec_or, BitVec.getLsbD_or, bv_shl _ (by omega), bv_ush _ (by omega), BitVec.getLsbD_shiftLeft, BitVec.getLsbD_ushiftRight]
  by_cases q : i < n
  · simp [q, show i < 32 by omega]
  · rw [hz (28 - n + i) (by omega), if_neg q]
    simp [q, show i < 32 by omega]
theorem dRN_rot {C : Nat → Bool} {n k : Nat} (hn : n = 1 ∨ n = 2) (hk : k < 56) : dRN C n k = if k < 28 then C ((k + n) % 28) else C (28 + (k - 28 + n) % 28) := by
  have one : ∀ C : Nat → Bool, ∀ k, k < 56 → dRot C k = if k < 28 then C ((k + 1) % 28) else C (28 + (k - 28 + 1) % 28) := by
    intro C k hk
    simp only [dRot]
    by_cases h1 : k = 27
    · subst h1
      rfl
    · by_cases h2 : k = 55
      · subst h2
        rfl
      · rw [if_neg h1, if_neg h2]
        by_cases h3 : k < 28
        · rw [if_pos h3]
          congr 1
          omega
        · rw [if_neg h3]
          congr 1
          omega
  rcases hn with rfl | rfl
  · exact one C k hk
  · show dRot (dRot C) k = _
    rw [one (dRot C) k hk]
    by_cases h3 : k < 28
    · rw [if_pos h3, if_pos h3, one _ _ (by omega), if_pos (by omega)]
      congr 1
      omega
    · rw [if_neg h3, if_neg h3, one _ _ (by omega), if_neg (by omega)]
      congr 1
      omega
theorem scH_B {g : Nat → BitVec 8} : ∀ {r : Nat}, r ≤ 16 → (∀ k, k < 28 → (scH (scHi g) r).toBitVec.getLsbD (27 - k) = dCD (dBit g 0) r k ∧ (scH (scLo g) r).toBitVec.getLsbD (27 - k) = dCD (dBit g 0) r (28 + k)) ∧ (∀ i, 28 ≤ i → (scH (scHi g) r).toBitVec.getLsbD i = false) ∧ ∀ i, 28 ≤ i → (scH (scLo g) r).toBitVec.getLsbD i = false
  | 0, _ => by
    refine ⟨fun k hk => ⟨?_, ?_⟩, fun i hi => ?_, fun i hi => ?_⟩
    · show (scHi g).toBitVec.getLsbD (27 - k) = _
      rw [scHi, and28, l32_get _ (by omega), lus_get _ (by decide), decide_eq_true (by omega), Bool.and_true, ← scX_B (by omega)]
      congr 1
      omega
    · show (scLo g).toBitVec.getLsbD (27 - k) = _
      rw [scLo, and28, l32_get _ (by omega), decide_eq_true (by omega), Bool.and_true, ← scX_B (by omega)]
      congr 1
      omega
    · show (scHi g).toBitVec.getLsbD i = _
      rw [scHi, and28, decide_eq_false (by omega), Bool.and_false]
    · show (scLo g).toBitVec.getLsbD i = _
      rw [scLo, and28, decide_eq_false (by omega), Bool.and_false]
  | r + 1, hr => by
    obtain ⟨ih, z1, z2⟩ := scH_B (g := g) (r := r) (by omega)
    have hs := tSHF_b (k := r) (by omega)
    have hn : tSHF r = 1 ∨ tSHF r = 2 := by omega
    have zz : ∀ (h : Int32) (i : Nat), 28 ≤ i → (rotI h (tSHF r)).toBitVec.getLsbD i = false := fun h i hi => by rw [rotI, and28, decide_eq_false (by omega), Bool.and_false]
    refine ⟨fun k hk => ⟨?_, ?_⟩, fun i hi => zz _ i hi, fun i hi => zz _ i hi⟩
    · show (rotI (scH (scHi g) r) (tSHF r)).toBitVec.getLsbD (27 - k) = dRN (dCD (dBit g 0) r) (tSHF r) k
      rw [rot_get hn z1 (by omega), dRN_rot hn (by omega), if_pos hk, ← (ih ((k + tSHF r) % 28) (by omega)).1]
      congr 1
      split <;> omega
    · show (rotI (scH (scLo g) r) (tSHF r)).toBitVec.getLsbD (27 - k) = dRN (dCD (dBit g 0) r) (tSHF r) (28 + k)
      rw [rot_get hn z2 (by omega), dRN_rot hn (by omega), if_neg (show ¬ 28 + k < 28 by omega), show 28 + k - 28 = k by omega, ← (ih ((k + tSHF r) % 28) (by omega)).2]
      congr 1
      split <;> omega
theorem i2l_get {h : Int32} {i : Nat} (hi : i < 32) : h.toInt64.toBitVec.getLsbD i = h.toBitVec.getLsbD i := by
  show (h.toBitVec.signExtend 64).getLsbD i = _
  rw [BitVec.getLsbD_signExtend]
  simp [hi, show i < 64 by omega]
theorem i2l_big {h : Int32} (hz : h.toBitVec.getLsbD 31 = false) {i : Nat} (hi : 32 ≤ i) : h.toInt64.toBitVec.getLsbD i = false := by
  show (h.toBitVec.signExtend 64).getLsbD i = _
  rw [BitVec.getLsbD_signExtend, if_neg (by omega), BitVec.msb_eq_getLsbD_last, hz, Bool.and_false]
theorem skL_B {g : Nat → BitVec 8} {r j : Nat} (hr : r < 16) (hj : j < 48) : (skL g r).toBitVec.getLsbD (47 - j) = dSub (dBit g 0) r j := by
  have hb := tSEC_b hj
  obtain ⟨ih, z1, z2⟩ := scH_B (g := g) (r := r + 1) (by omega)
  have v : ∀ k, k < 56 → (lsl (scH (scHi g) (r + 1)).toInt64 28 ||| (scH (scLo g) (r + 1)).toInt64).toBitVec.getLsbD (55 - k) = dCD (dBit g 0) (r + 1) k := by
    intro k hk
    rw [or_get, lsl_get _ (by decide) (by omega)]
    by_cases h : k < 28
    · rw [decide_eq_true (by omega), Bool.true_and, i2l_get (by omega), show 55 - k - 28 = 27 - k by omega, (ih k h).1]
      have : (scH (scLo g) (r + 1)).toInt64.toBitVec.getLsbD (55 - k) = false := by
        by_cases q : 55 - k < 32
        · rw [i2l_get q, z2 _ (by omega)]
        · exact i2l_big (z2 _ (by omega)) (by omega)
      rw [this, Bool.or_false]
    · rw [decide_eq_false (by omega), Bool.false_and, Bool.false_or, i2l_get (by omega), show 55 - k = 27 - (k - 28) by omega, (ih (k - 28) (by omega)).2, show 28 + (k - 28) = k by omega]
  have ht : ∀ k, k < 56 → k < 48 → 1 ≤ tSEC k := fun k _ h => (tSEC_b h).1
  have ht2 : ∀ k : Fin 56, 48 ≤ k.val ∨ 1 ≤ tSEC k := by decide +kernel
  have cg : ∀ {n i : Nat}, n ≤ 48 → i < 64 → ∀ x : Int64, (chL x 56 tSEC n).toBitVec.getLsbD i = (decide (i < n) && x.toBitVec.getLsbD (56 - tSEC (n - 1 - i))) := by
    intro n i hn hi x
    have e : ∀ n, n ≤ 48 → chL x 56 tSEC n = chL x 56 (fun k => if k < 48 then tSEC k else 1) n := by
      intro n
      induction n with
      | zero => intro _; rfl
      | succ n ih => intro h; simp only [chL]; rw [ih (by omega), if_pos (by omega)]
    rw [e n hn, chL_get (by decide) (fun k hk => by
      show 1 ≤ (if k < 48 then tSEC k else 1)
      split
      · exact (tSEC_b (by assumption)).1
      · exact Nat.le_refl 1) (by omega) hi]
    by_cases q : i < n
    · rw [if_pos (show n - 1 - i < 48 by omega)]
    · rw [decide_eq_false q, Bool.false_and, Bool.false_and]
  rw [skL, cg (Nat.le_refl 48) (by omega), decide_eq_true (by omega), Bool.true_and, show 48 - 1 - (47 - j) = j by omega, show 56 - tSEC j = 55 - (tSEC j - 1) by omega, v _ (by omega)]
  rfl
/-! the rounds -/
theorem m32_get {i : Nat} (h : i < 64) : (4294967295 : Int64).toBitVec.getLsbD i = decide (i < 32) := by
  have q : ∀ i : Fin 64, (4294967295 : Int64).toBitVec.getLsbD i = decide (i.val < 32) := by decide +kernel
  exact q ⟨i, h⟩
theorem one_get {i : Nat} (h : i < 64) : (1 : Int64).toBitVec.getLsbD i = decide (i = 0) := by
  have q : ∀ i : Fin 64, (1 : Int64).toBitVec.getLsbD i = decide (i.val = 0) := by decide +kernel
  exact q ⟨i, h⟩
theorem wide_get {r : Int32} {k : Nat} (hk : k < 34) : (wideL r).toBitVec.getLsbD (33 - k) = if k = 0 then iB r 31 else if k = 33 then iB r 0 else iB r (k - 1) := by
  have u : ∀ i, (ush r 31).toInt64.toBitVec.getLsbD i = (decide (i = 0) && r.toBitVec.getLsbD 31) := by
    intro i
    have z : ∀ i, (ush r 31).toBitVec.getLsbD i = (decide (i = 0) && r.toBitVec.getLsbD 31) := by
      intro i
      rw [bv_ush _ (by decide), BitVec.getLsbD_ushiftRight]
      by_cases h : i = 0
      · subst h; simp
      · rw [BitVec.getLsbD_of_ge _ _ (by omega), decide_eq_false h, Bool.false_and]
    by_cases h : i < 32
    · rw [i2l_get h, z]
    · rw [i2l_big (by rw [z]; rfl) (by omega), decide_eq_false (by omega), Bool.false_and]
  rw [wideL, or_get, or_get, lsl_get _ (by decide) (by omega), lsl_get _ (by decide) (by omega), and_get, and_get, one_get (by omega), m32_get (by omega), u]
  by_cases h0 : k = 0
  · subst h0
    rw [if_pos rfl, iB, i2l_get (by decide)]
    simp
  · by_cases h33 : k = 33
    · subst h33
      rw [if_neg h0, if_pos rfl, iB]
      simp
    · rw [if_neg h0, if_neg h33, iB, decide_eq_false (show ¬ 33 ≤ 33 - k by omega), decide_eq_true (show 1 ≤ 33 - k by omega), i2l_get (by omega), decide_eq_true (show 33 - k - 1 < 32 by omega), decide_eq_false (show ¬ 33 - k = 0 by omega), show 33 - k - 1 = 31 - (k - 1) by omega]
      simp
      exact i2l_get (h := r) (by omega)
theorem wide_E {r : Int32} {b t : Nat} (hb : b < 8) (ht : t < 6) : (wideL r).toBitVec.getLsbD (28 - 4 * b + (5 - t)) = iB r (tSPR (6 * b + t) - 1) := by
  have q : ∀ b : Fin 8, ∀ t : Fin 6, tSPR (6 * b.val + t.val) = if 4 * b.val + t.val = 0 then 32 else if 4 * b.val + t.val = 33 then 1 else 4 * b.val + t.val := by decide +kernel
  have e := q ⟨b, hb⟩ ⟨t, ht⟩
  simp only at e
  rw [show 28 - 4 * b + (5 - t) = 33 - (4 * b + t) by omega, wide_get (by omega), e]
  split
  · rfl
  · split <;> rfl
theorem six_get {wide sk : Int64} {b t : Nat} (hb : b < 8) (ht : t < 6) : (sixL wide sk b).testBit (5 - t) = (wide.toBitVec.getLsbD (28 - 4 * b + (5 - t)) ^^ sk.toBitVec.getLsbD (47 - (6 * b + t))) := by
  have e : ∀ n u, (n % 64).testBit u = (decide (u < 6) && n.testBit u) := fun n u => Nat.testBit_mod_two_pow n 6 u
  rw [sixL, e, decide_eq_true (by omega), Bool.true_and]
  show (lus wide (28 - 4 * b) ^^^ lus sk (42 - 6 * b)).toInt32.toBitVec.getLsbD (5 - t) = _
  rw [l32_get _ (by omega), xor_get, lus_get _ (by omega), lus_get _ (by omega)]
  congr 2
  omega
def sIx (six : Nat) : Nat := 32 * (six / 32) + 16 * (six % 2) + six / 2 % 16
/-- what the class's table of spread boxes holds -/
def spbOK (spb : Nat → Int32) : Prop := ∀ b six j, b < 8 → six < 64 → j < 32 → iB (spb (b * 64 + six)) j = (decide ((tMIX j - 1) / 4 = b) && (tSBX (64 * b + sIx six)).testBit (3 - (tMIX j - 1) % 4))
theorem six_box {six : Nat} {w : Nat → Bool} {b : Nat} (h6 : six < 64) (h : ∀ t, t < 6 → six.testBit (5 - t) = w (6 * b + t)) : 64 * b + sIx six = 64 * b + 16 * (2 * (w (6 * b)).toNat + (w (6 * b + 5)).toNat) + (8 * (w (6 * b + 1)).toNat + 4 * (w (6 * b + 2)).toNat + 2 * (w (6 * b + 3)).toNat + (w (6 * b + 4)).toNat) := by
  have q : ∀ s : Fin 64, sIx s = 16 * (2 * (s.val.testBit 5).toNat + (s.val.testBit 0).toNat) + (8 * (s.val.testBit 4).toNat + 4 * (s.val.testBit 3).toNat + 2 * (s.val.testBit 2).toNat + (s.val.testBit 1).toNat) := by decide +kernel
  have e := q ⟨six, h6⟩
  simp only at e
  rw [e, ← h 5 (by omega), ← h 1 (by omega), ← h 2 (by omega), ← h 3 (by omega), ← h 4 (by omega), show 6 * b = 6 * b + 0 from rfl, ← h 0 (by omega)]
  simp only [Nat.reduceSub, Nat.sub_self, Nat.sub_zero]
  omega
theorem next_get {spb : Nat → Int32} (hs : spbOK spb) {l r : Int32} {sk : Int64} {X ks : Nat → Bool} (hX : ∀ j, j < 32 → iB r j = X (32 + j)) (hk : ∀ k, k < 48 → sk.toBitVec.getLsbD (47 - k) = ks k) {j : Nat} (hj : j < 32) :
    ∀ {n : Nat}, n ≤ 8 → iB (nextL spb l r sk n) j = (iB l j ^^ (decide ((tMIX j - 1) / 4 < n) && dHalf (dWord X ks) (tMIX j - 1)))
  | 0, _ => by simp [nextL]
  | n + 1, hn => by
    have hm := tMIX_b hj
    have h6 : sixL (wideL r) sk n < 64 := Nat.mod_lt _ (by decide)
    have q : ∀ b : Fin 8, ∀ s : Fin 64, (b.val * 64 ||| s.val) % 512 = b.val * 64 + s.val := by decide +kernel
    have e := q ⟨n, by omega⟩ ⟨_, h6⟩
    simp only at e
    have hw : ∀ t, t < 6 → (sixL (wideL r) sk n).testBit (5 - t) = dWord X ks (6 * n + t) := by
      intro t ht
      have hp := tSPR_b (k := 6 * n + t) (by omega)
      rw [six_get (by omega) ht, wide_E (by omega) ht, hX _ (by omega), hk _ (by omega), dWord, show 32 + (tSPR (6 * n + t) - 1) = 32 + tSPR (6 * n + t) - 1 by omega]
    have ex : ∀ x y : Int32, iB (x ^^^ y) j = (iB x j ^^ iB y j) := fun x y => by simp only [iB, Int32.toBitVec_xor, BitVec.getLsbD_xor]
    rw [nextL, ex, next_get hs hX hk hj (by omega), e, hs n _ j (by omega) h6 hj]
    by_cases c : (tMIX j - 1) / 4 = n
    · rw [decide_eq_false (by omega), decide_eq_true c, decide_eq_true (by omega), Bool.false_and, Bool.xor_false, Bool.true_and, Bool.true_and, six_box h6 hw, dHalf, dBox, c]
    · rw [decide_eq_false c, Bool.false_and, Bool.xor_false]
      congr 2
      exact decide_eq_decide.mpr (by omega)
theorem rd_B {spb : Nat → Int32} (hs : spbOK spb) {fs : Nat → Int64} {back : Bool} {x : Int64} {X : Nat → Bool} {ks : Nat → Nat → Bool} (hX : ∀ j, j < 64 → lB x j = X j) (hk : ∀ r, r < 16 → ∀ k, k < 48 → (fs ((if back then 15 - r else r) % 16)).toBitVec.getLsbD (47 - k) = ks r k) :
    ∀ {n : Nat}, n ≤ 16 → (∀ j, j < 32 → iB (rdL spb fs back x n) j = dRs X ks n j) ∧ ∀ j, j < 32 → iB (rdL spb fs back x (n + 1)) j = dRs X ks n (32 + j)
  | 0, _ => by
    refine ⟨fun j hj => ?_, fun j hj => ?_⟩
    · show iB (lus x 32).toInt32 j = X j
      rw [← hX j (by omega), iB, l32_get _ (by omega), lus_get _ (by decide), lB]
      congr 1
      omega
    · show iB x.toInt32 j = X (32 + j)
      rw [← hX _ (by omega), iB, l32_get _ (by omega), lB]
      congr 1
      omega
  | n + 1, hn => by
    obtain ⟨h1, h2⟩ := rd_B hs hX hk (n := n) (by omega)
    refine ⟨fun j hj => ?_, fun j hj => ?_⟩
    · rw [h2 j hj, dRs, dRound, if_pos hj]
    · show iB (nextL spb (rdL spb fs back x n) (rdL spb fs back x (n + 1)) (fs ((if back then 15 - n else n) % 16)) 8) j = _
      have hm := tMIX_b hj
      rw [next_get hs h2 (hk n (by omega)) hj (Nat.le_refl 8), decide_eq_true (by omega), Bool.true_and, h1 j hj, dRs, dRound, if_neg (by omega), show 32 + j - 32 = j by omega]
theorem rdR_B {spb : Nat → Int32} (hs : spbOK spb) {fs : Nat → Int64} {back : Bool} {x : Int64} {X : Nat → Bool} {ks : Nat → Nat → Bool} (hX : ∀ j, j < 64 → lB x j = X j) (hk : ∀ r, r < 16 → ∀ k, k < 48 → (fs ((if back then 15 - r else r) % 16)).toBitVec.getLsbD (47 - k) = ks r k) {j : Nat} (hj : j < 64) :
    lB (rdR spb fs back x) j = dSw (dRs X ks 16) j := by
  obtain ⟨h1, h2⟩ := rd_B hs hX hk (Nat.le_refl 16)
  rw [lB, rdR, or_get, lsl_get _ (by decide) (by omega), and_get, and_get, m32_get (by omega), m32_get (by omega), dSw]
  by_cases h : j < 32
  · rw [if_pos h, decide_eq_true (show 32 ≤ 63 - j by omega), decide_eq_true (show 63 - j - 32 < 32 by omega), decide_eq_false (show ¬ 63 - j < 32 by omega), i2l_get (by omega), ← h2 j h, iB, show 63 - j - 32 = 31 - j by omega]
    simp
  · rw [if_neg h, decide_eq_false (show ¬ 32 ≤ 63 - j by omega), decide_eq_true (show 63 - j < 32 by omega), i2l_get (by omega), ← h1 (j - 32) (by omega), iB, show 63 - j = 31 - (j - 32) by omega]
    simp
    exact i2l_get (h := rdL spb fs back x 16) (by omega)
theorem desX_B {spb : Nat → Int32} (hs : spbOK spb) {f s : Nat → Int64} {tri back : Bool} {x : Int64} {g1 g2 : Nat → BitVec 8} (hf : ∀ r, r < 16 → f r = skL g1 r) (hs2 : tri = true → ∀ r, r < 16 → s r = skL g2 r) {j : Nat} (hj : j < 64) :
    lB (desX spb f s tri back x) j = if tri then TDES (dBit g1 0) (dBit g2 0) (lB x) back j else DES (dBit g1 0) (lB x) back j := by
  have kk : ∀ (fs : Nat → Int64) (g : Nat → BitVec 8) (bk : Bool), (∀ r, r < 16 → fs r = skL g r) → ∀ r, r < 16 → ∀ k, k < 48 → (fs ((if bk then 15 - r else r) % 16)).toBitVec.getLsbD (47 - k) = dKs (dBit g 0) bk r k := by
    intro fs g bk h r hr k hk
    have e : (if bk = true then 15 - r else r) % 16 = (if bk = true then 15 - r else r) := by
      split <;> omega
    rw [e, h _ (by split <;> omega), skL_B (by split <;> omega) hk, dKs]
  have hb := tIPI_b hj
  have y1 : ∀ j, j < 64 → lB (rdR spb f back (roS x false 5)) j = dSw (dRs (dIP (lB x)) (dKs (dBit g1 0) back) 16) j := fun j hj =>
    rdR_B hs (fun j hj => ro_IP hj) (kk f g1 back hf) hj
  simp only [desX]
  rw [ro_FP hj]
  cases tri
  · simp only [Bool.false_eq_true, if_false]
    rw [y1 _ (by omega), DES, dFP]
  · simp only [if_true]
    have ip : ∀ (Z : Nat → Bool) (k : Nat), k < 64 → dIP (dFP Z) k = dSw Z k := fun Z k hk => by rw [dIP, dFP, tIPI_IP hk]
    have y2 : ∀ j, j < 64 → lB (rdR spb s (!back) (rdR spb f back (roS x false 5))) j = dSw (dRs (dIP (DES (dBit g1 0) (lB x) back)) (dKs (dBit g2 0) (!back)) 16) j := fun j hj =>
      rdR_B hs (fun j hj => by rw [y1 j hj, DES, ip _ _ hj]) (kk s g2 (!back) (hs2 rfl)) hj
    rw [rdR_B hs (X := dIP (DES (dBit g2 0) (DES (dBit g1 0) (lB x) back) (!back))) (fun j hj => by rw [y2 j hj]; exact (ip (dRs (dIP (DES (dBit g1 0) (lB x) back)) (dKs (dBit g2 0) (!back)) 16) j hj).symm) (kk f g1 back hf) (by omega), TDES]
    rfl
