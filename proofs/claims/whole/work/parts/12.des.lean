/-! DES, as the reference has it: bits by their places, the highest first -/
def dBit (g : Nat → BitVec 8) (o j : Nat) : Bool := (g (o + j / 8)).getLsbD (7 - j % 8)
def dRot (C : Nat → Bool) (k : Nat) : Bool := if k = 27 then C 0 else if k = 55 then C 28 else C (k + 1)
def dRN (C : Nat → Bool) : Nat → Nat → Bool
  | 0 => C
  | n + 1 => dRot (dRN C n)
def dCD (K : Nat → Bool) : Nat → Nat → Bool
  | 0 => fun k => K (tCH k - 1)
  | r + 1 => dRN (dCD K r) (tSHF r)
def dSub (K : Nat → Bool) (r j : Nat) : Bool := dCD K (r + 1) (tSEC j - 1)
def dWord (X sk : Nat → Bool) (k : Nat) : Bool := X (32 + tSPR k - 1) ^^ sk k
def dBox (w : Nat → Bool) (s : Nat) : Nat := tSBX (64 * s + 16 * (2 * (w (6 * s)).toNat + (w (6 * s + 5)).toNat) + (8 * (w (6 * s + 1)).toNat + 4 * (w (6 * s + 2)).toNat + 2 * (w (6 * s + 3)).toNat + (w (6 * s + 4)).toNat))
def dHalf (w : Nat → Bool) (j : Nat) : Bool := (dBox w (j / 4)).testBit (3 - j % 4)
def dRound (X sk : Nat → Bool) (k : Nat) : Bool := if k < 32 then X (32 + k) else X (k - 32) ^^ dHalf (dWord X sk) (tMIX (k - 32) - 1)
def dRs (X : Nat → Bool) (ks : Nat → Nat → Bool) : Nat → Nat → Bool
  | 0 => X
  | r + 1 => dRound (dRs X ks r) (ks r)
def dIP (B : Nat → Bool) (k : Nat) : Bool := B (tIP k - 1)
def dSw (X : Nat → Bool) (k : Nat) : Bool := X (if k < 32 then 32 + k else k - 32)
def dFP (X : Nat → Bool) (j : Nat) : Bool := dSw X (tIPI j)
def dKs (K : Nat → Bool) (back : Bool) (r : Nat) : Nat → Bool := dSub K (if back then 15 - r else r)
def DES (K B : Nat → Bool) (back : Bool) : Nat → Bool := dFP (dRs (dIP B) (dKs K back) 16)
def TDES (K1 K2 B : Nat → Bool) (back : Bool) : Nat → Bool := DES K1 (DES K2 (DES K1 B back) (!back)) back
theorem tSHF_2 {r : Nat} (h : r < 16) (h0 : ¬ r = 0) (h1 : ¬ r = 1) (h8 : ¬ r = 8) (h15 : ¬ r = 15) : 2 = tSHF r := by
  have q : ∀ r : Fin 16, ¬ r.val = 0 → ¬ r.val = 1 → ¬ r.val = 8 → ¬ r.val = 15 → 2 = tSHF r := by decide +kernel
  exact q ⟨r, h⟩ h0 h1 h8 h15
theorem dWord_congr {X X' sk sk' : Nat → Bool} (h : ∀ k, k < 64 → X k = X' k) (hs : ∀ k, k < 48 → sk k = sk' k) {k : Nat} (hk : k < 48) : dWord X sk k = dWord X' sk' k := by
  have := tSPR_b hk
  simp only [dWord]
  rw [h _ (by omega), hs _ hk]
theorem dBox_congr {w w' : Nat → Bool} (h : ∀ k, k < 48 → w k = w' k) {s : Nat} (hs : s < 8) : dBox w s = dBox w' s := by
  simp only [dBox]
  rw [h (6 * s) (by omega), h (6 * s + 5) (by omega), h (6 * s + 1) (by omega), h (6 * s + 2) (by omega), h (6 * s + 3) (by omega), h (6 * s + 4) (by omega)]
theorem dHalf_congr {w w' : Nat → Bool} (h : ∀ k, k < 48 → w k = w' k) {j : Nat} (hj : j < 32) : dHalf w j = dHalf w' j := by
  simp only [dHalf]
  rw [dBox_congr h (by omega)]
theorem dRound_congr {X X' sk sk' : Nat → Bool} (h : ∀ k, k < 64 → X k = X' k) (hs : ∀ k, k < 48 → sk k = sk' k) {k : Nat} (hk : k < 64) : dRound X sk k = dRound X' sk' k := by
  simp only [dRound]
  split
  · exact h _ (by omega)
  · have := tMIX_b (k := k - 32) (by omega)
    rw [h _ (by omega), dHalf_congr (fun j hj => dWord_congr h hs hj) (by omega)]
theorem dRs_congr {X X' : Nat → Bool} {ks ks' : Nat → Nat → Bool} (h : ∀ k, k < 64 → X k = X' k) : ∀ {r : Nat}, (∀ q, q < r → ∀ j, j < 48 → ks q j = ks' q j) → ∀ {k : Nat}, k < 64 → dRs X ks r k = dRs X' ks' r k
  | 0, _, _, hk => h _ hk
  | r + 1, hs, _, hk => dRound_congr (fun _ q => dRs_congr h (fun a ha => hs a (by omega)) q) (hs r (by omega)) hk
theorem dFP_congr {X X' : Nat → Bool} (h : ∀ k, k < 64 → X k = X' k) {j : Nat} (hj : j < 64) : dFP X j = dFP X' j := by
  have := tIPI_b hj
  simp only [dFP, dSw]
  exact h _ (by split <;> omega)
theorem DES_congr {K B B' : Nat → Bool} {back : Bool} (h : ∀ k, k < 64 → B k = B' k) {j : Nat} (hj : j < 64) : DES K B back j = DES K B' back j := by
  refine dFP_congr (fun k hk => dRs_congr (fun q hq => ?_) (fun _ _ _ _ => rfl) hk) hj
  have := tIP_b hq
  exact h _ (by omega)
theorem qlo_bsh (v : Bool) {t : Nat} (h : t < 8) : qlo (qb v <<< (nI t &&& 31)) = if v then 1#8 <<< t else 0#8 := by
  have q : ∀ v : Bool, ∀ t : Fin 8, qlo (qb v <<< (nI t &&& 31)) = if v then 1#8 <<< t.val else 0#8 := by decide +kernel
  exact q v ⟨t, h⟩
theorem q_or_s (a b : BitVec 8) : qs a ||| qs b = qs (a ||| b) := by
  apply Int32.toBitVec_inj.mp
  simp [qs]
theorem q_bit1 {t i : Nat} (ht : t < 8) (hi : i < 8) : (1#8 <<< t).getLsbD i = decide (i = t) := by
  have q : ∀ t i : Fin 8, (1#8 <<< t.val).getLsbD i = decide (i.val = t.val) := by decide +kernel
  exact q ⟨t, ht⟩ ⟨i, hi⟩
/-- a bit put into a byte -/
theorem dBit_or {g : Nat → BitVec 8} {o p j : Nat} (v : Bool) (hp : p < 64) (hj : j < 64) : dBit (qU g (o + p / 8) (g (o + p / 8) ||| qlo (qb v <<< (nI (7 - p % 8) &&& 31)))) o j = (dBit g o j || (v && decide (j = p))) := by
  simp only [dBit]
  by_cases h : j / 8 = p / 8
  · rw [h, qU_same, BitVec.getLsbD_or, qlo_bsh v (by omega)]
    cases v
    · simp
    · rw [if_pos rfl, q_bit1 (by omega) (by omega)]
      congr 1
      rw [Bool.true_and]
      exact decide_eq_decide.mpr (by omega)
  · rw [qU_ne (by omega), decide_eq_false (by omega : ¬ j = p)]
    simp
theorem dBit_ext {g g' : Nat → BitVec 8} {o o' : Nat} (h : ∀ j, j < 64 → dBit g o j = dBit g' o' j) {k : Nat} (hk : k < 8) : g (o + k) = g' (o' + k) := by
  apply BitVec.eq_of_getLsbD_eq
  intro i hi
  have q := h (8 * k + (7 - i)) (by omega)
  simp only [dBit, show (8 * k + (7 - i)) / 8 = k by omega, show 7 - (8 * k + (7 - i)) % 8 = i by omega] at q
  exact q
theorem dRot_step {C c3 f : Nat → Bool} (h3 : ∀ j, j < 56 → c3 j = if j < 27 ∨ (28 ≤ j ∧ j < 28 + 27) then C (j + 1) else C j) (hf : f = qU (qU c3 27 (C 0)) 55 (C 28)) : ∀ j, j < 56 → f j = dRot C j := by
  intro j hj
  subst hf
  simp only [dRot]
  by_cases h55 : j = 55
  · subst h55
    rw [qU_same]
    rfl
  · rw [qU_ne h55]
    by_cases h27 : j = 27
    · subst h27
      rw [qU_same]
      rfl
    · rw [qU_ne h27, h3 j hj, if_neg h27, if_neg h55, if_pos (by omega)]
theorem dRot_congr {C C' : Nat → Bool} (h : ∀ j, j < 56 → C j = C' j) {j : Nat} (hj : j < 56) : dRot C j = dRot C' j := by
  simp only [dRot]
  split
  · exact h _ (by omega)
  · split
    · exact h _ (by omega)
    · exact h _ (by omega)
theorem dRound_of {X b2 t' sk : Nat → Bool} {e j : Nat} (hx : ∀ j, j < 64 → b2 j = X j) (ht : ∀ j, j < 32 → t' j = (X j ^^ dHalf (dWord X sk) (tMIX j - 1))) (hj : j < 64) (he : e = 32) :
    (if j < 32 then (if j < e then b2 (32 + j) else b2 j) else (if j < 32 + e then t' (j - 32) else b2 j)) = dRound X sk j := by
  subst he
  simp only [dRound]
  by_cases q : j < 32
  · rw [if_pos q, if_pos q, if_pos q, hx _ (by omega)]
  · rw [if_neg q, if_neg q, if_pos (by omega), ht _ (by omega)]
theorem dSw_step {b2 t' b3 : Nat → Bool} {e : Nat} (he : e < 32) (h : ∀ j, j < 64 → b3 j = if j < 32 then (if j < e then b2 (32 + j) else b2 j) else (if j < 32 + e then t' (j - 32) else b2 j)) :
    ∀ j, j < 64 → qU (qU b3 e (b3 (32 + e))) (32 + e) (t' e) j = if j < 32 then (if j < e + 1 then b2 (32 + j) else b2 j) else (if j < 32 + (e + 1) then t' (j - 32) else b2 j) := by
  intro j hj
  have e1 : b3 (32 + e) = b2 (32 + e) := by rw [h _ (by omega), if_neg (by omega), if_neg (by omega)]
  by_cases q1 : j = 32 + e
  · subst q1
    rw [qU_same, if_neg (by omega), if_pos (by omega)]
    congr 1
    omega
  · rw [qU_ne q1]
    by_cases q2 : j = e
    · subst q2
      rw [qU_same, if_pos he, if_pos (by omega), e1]
    · rw [qU_ne q2, h j hj]
      by_cases q3 : j < 32
      · rw [if_pos q3, if_pos q3]
        by_cases q4 : j < e
        · rw [if_pos q4, if_pos (by omega)]
        · rw [if_neg q4, if_neg (by omega)]
      · rw [if_neg q3, if_neg q3]
        by_cases q4 : j < 32 + e
        · rw [if_pos q4, if_pos (by omega)]
        · rw [if_neg q4, if_neg (by omega)]
theorem dOut_step {o' : Nat → BitVec 8} {at0 q j : Nat} {v : Bool} {F : Nat → Bool} (hq : q < 64) (hj : j < 64) (h : ∀ j, j < 64 → dBit o' at0 (tIP j - 1) = (decide (j < q) && F j)) (hv : v = F q) :
    dBit (qU o' (at0 + (tIP q - 1) / 8) (o' (at0 + (tIP q - 1) / 8) ||| qlo (qb v <<< (nI (7 - (tIP q - 1) % 8) &&& 31)))) at0 (tIP j - 1) = (decide (j < q + 1) && F j) := by
  have b1 := tIP_b hq
  have b2 := tIP_b hj
  rw [dBit_or v (by omega) (by omega), h j hj, hv]
  by_cases e : j = q
  · subst e
    simp
  · have n : ¬ tIP j - 1 = tIP q - 1 := fun c => e (by
      have := congrArg tIPI c
      rwa [tIPI_IP hj, tIPI_IP hq] at this)
    have e2 : decide (j < q + 1) = decide (j < q) := decide_eq_decide.mpr (by omega)
    rw [decide_eq_false n, e2]
    simp
