abbrev oA (b1 b2 b3 b4 b5 b6 r : Nat) : va_E := .inr (0, [.ref b1, .ref b2, .ref b3, .ref b4, .ref b5, .ref b6, .int (nI r)])
theorem aAdd_wd {σ rk : Nat → BitVec 8} {r i : Nat} : wdF σ i ^^^ wdF rk (4 * r + i) = wdF (aAdd σ rk r) i := by
  simp only [wdF, wd_xor, aAdd]
  rw [show 16 * r + 4 * i = 4 * (4 * r + i) by omega, show 16 * r + (4 * i + 1) = 4 * (4 * r + i) + 1 by omega, show 16 * r + (4 * i + 2) = 4 * (4 * r + i) + 2 by omega, show 16 * r + (4 * i + 3) = 4 * (4 * r + i) + 3 by omega]
theorem wdF_b {σ : Nat → BitVec 8} {c : Nat} : qlo (ush (wdF σ c) 24) = σ (4 * c) ∧ qlo (ush (wdF σ c) 16) = σ (4 * c + 1) ∧ qlo (ush (wdF σ c) 8) = σ (4 * c + 2) ∧ qlo (wdF σ c) = σ (4 * c + 3) := by
  obtain ⟨h0, h1, h2, _, h3⟩ := wd_byte (a := σ (4 * c)) (b := σ (4 * c + 1)) (c := σ (4 * c + 2)) (d := σ (4 * c + 3))
  exact ⟨h0, h1, h2, h3⟩
theorem aSub_wd {σ : Nat → BitVec 8} {i : Nat} (h : i < 4) : wd (BOX (qlo (ush (wdF σ i) 24)).toNat) (BOX (qlo (ush (wdF σ ((i + 1) % 4)) 16)).toNat) (BOX (qlo (ush (wdF σ ((i + 2) % 4)) 8)).toNat) (BOX (qlo (wdF σ ((i + 3) % 4))).toNat) = wdF (aSub σ) i := by
  rw [wdF_b.1, wdF_b.2.1, wdF_b.2.2.1, wdF_b.2.2.2]
  simp only [wdF, aSub]
  rw [show (4 * i + 4 * (4 * i % 4)) % 16 = 4 * i by omega, show (4 * i + 1 + 4 * ((4 * i + 1) % 4)) % 16 = 4 * ((i + 1) % 4) + 1 by omega, show (4 * i + 2 + 4 * ((4 * i + 2) % 4)) % 16 = 4 * ((i + 2) % 4) + 2 by omega, show (4 * i + 3 + 4 * ((4 * i + 3) % 4)) % 16 = 4 * ((i + 3) % 4) + 3 by omega]
theorem aUns_wd {σ : Nat → BitVec 8} {i : Nat} (h : i < 4) : wd (UBOX (qlo (ush (wdF σ i) 24)).toNat) (UBOX (qlo (ush (wdF σ ((i + 3) % 4)) 16)).toNat) (UBOX (qlo (ush (wdF σ ((i + 2) % 4)) 8)).toNat) (UBOX (qlo (wdF σ ((i + 9) % 4))).toNat) = wdF (aUns σ) i := by
  rw [wdF_b.1, wdF_b.2.1, wdF_b.2.2.1, wdF_b.2.2.2]
  simp only [wdF, aUns]
  rw [show (4 * i + 12 * (4 * i % 4)) % 16 = 4 * i by omega, show (4 * i + 1 + 12 * ((4 * i + 1) % 4)) % 16 = 4 * ((i + 3) % 4) + 1 by omega, show (4 * i + 2 + 12 * ((4 * i + 2) % 4)) % 16 = 4 * ((i + 2) % 4) + 2 by omega, show (4 * i + 3 + 12 * ((4 * i + 3) % 4)) % 16 = 4 * ((i + 9) % 4) + 3 by omega]
def cBox (x : Int32) : Int32 := wd (BOX (qlo (ush x 24)).toNat) (BOX (qlo (ush x 16)).toNat) (BOX (qlo (ush x 8)).toNat) (BOX (qlo x).toNat)
theorem cBox_wd {a b c d : BitVec 8} : cBox (wd a b c d) = wd (BOX a.toNat) (BOX b.toNat) (BOX c.toNat) (BOX d.toNat) := by
  obtain ⟨h0, h1, h2, _, h3⟩ := wd_byte (a := a) (b := b) (c := c) (d := d)
  rw [cBox, h0, h1, h2, h3]
theorem aD_words {rk gb : Nat → BitVec 8} {R t e : Nat} {e' s : Nat → Int32} (ht : t + 1 ≤ R) (hx : e = 4 ∨ t = 0) (he : qSeg e' s 0 e (wdF (aMix 14 11 13 9 (aAdd (aUns (aD rk R gb (R - (t + 1)))) rk t))) ∧ (∀ q, q < 4 → s q = wdF (aAdd (aUns (aD rk R gb (R - (t + 1)))) rk t) q) ∧ (t = 0 → e = 0)) :
    ∀ q, q < 4 → e' q = wdF (aD rk R gb (R - t)) q := by
  intro q hq
  obtain ⟨he, hs, h0⟩ := he
  have e1 : R - t = (R - (t + 1)) + 1 := by omega
  have e2 : R - 1 - (R - (t + 1)) = t := by omega
  rw [e1]
  by_cases ht0 : t = 0
  · rw [h0 ht0] at he
    rw [he.2 q (by omega), hs q hq]
    simp only [aD, if_neg (show ¬ R - (t + 1) + 1 < R by omega), e2]
  · rw [show e = 4 by omega] at he
    rw [qSeg_at he hq]
    simp only [aD, if_pos (show R - (t + 1) + 1 < R by omega), e2]
theorem qz_24 (k : BitVec 8) : qz k <<< (nI 24 &&& 31) = wd k 0#8 0#8 0#8 := by
  have h : ∀ k : BitVec 8, qz k <<< (nI 24 &&& 31) = wd k 0#8 0#8 0#8 := by decide +kernel
  exact h k
theorem const_xt (b : BitVec 8) : (qz b <<< (nI 1 &&& 31)) ^^^ (ush (qz b) 7 * nI 283) = qz (xt b) := by
  have h : ∀ b : BitVec 8, (qz b <<< (nI 1 &&& 31)) ^^^ (ush (qz b) 7 * nI 283) = qz (xt b) := by decide +kernel
  exact h b
theorem aKey_t {key : Nat → BitVec 8} {w c t : Nat} (ht : t < 4) : aKey key w (c + 1) (4 * (w + c) + t) = aKey key w c (4 * c + t) ^^^ (if (w + c) % w = 0 then BOX (aKey key w c (4 * (w + c - 1) + (t + 1) % 4)).toNat ^^^ (if t = 0 then xtn 1#8 ((w + c - 1) / w) else 0#8) else if w = 8 ∧ (w + c) % 8 = 4 then BOX (aKey key w c (4 * (w + c - 1) + t)).toNat else aKey key w c (4 * (w + c - 1) + t)) := by
  simp only [aKey, show (4 * (w + c) + t) / 4 = w + c by omega, show (4 * (w + c) + t) % 4 = t by omega, if_true]
theorem aKey_A {key : Nat → BitVec 8} {w c : Nat} {k : BitVec 8} (h : (w + c) % w = 0) (hk : k = xtn 1#8 ((w + c - 1) / w)) :
    wdF (aKey key w c) c ^^^ (cBox ((wdF (aKey key w c) (w + c - 1) <<< (nI 8 &&& 31)) ||| ush (wdF (aKey key w c) (w + c - 1)) 24) ^^^ (qz k <<< (nI 24 &&& 31))) = wdF (aKey key w (c + 1)) (w + c) := by
  subst hk
  have e0 := aKey_t (key := key) (w := w) (c := c) (t := 0) (by omega)
  have e1 := aKey_t (key := key) (w := w) (c := c) (t := 1) (by omega)
  have e2 := aKey_t (key := key) (w := w) (c := c) (t := 2) (by omega)
  have e3 := aKey_t (key := key) (w := w) (c := c) (t := 3) (by omega)
  rw [if_pos h] at e0 e1 e2 e3
  simp only [Nat.add_zero] at e0
  simp only [wdF]
  rw [wd_rot.1, cBox_wd, qz_24, wd_xor, wd_xor, e0, e1, e2, e3]
  simp
theorem aKey_B {key : Nat → BitVec 8} {w c : Nat} (h : ¬ (w + c) % w = 0) (h2 : w = 8 ∧ (w + c) % 8 = 4) :
    wdF (aKey key w c) c ^^^ cBox (wdF (aKey key w c) (w + c - 1)) = wdF (aKey key w (c + 1)) (w + c) := by
  have e0 := aKey_t (key := key) (w := w) (c := c) (t := 0) (by omega)
  have e1 := aKey_t (key := key) (w := w) (c := c) (t := 1) (by omega)
  have e2 := aKey_t (key := key) (w := w) (c := c) (t := 2) (by omega)
  have e3 := aKey_t (key := key) (w := w) (c := c) (t := 3) (by omega)
  rw [if_neg h, if_pos h2] at e0 e1 e2 e3
  simp only [Nat.add_zero] at e0
  simp only [wdF]
  rw [cBox_wd, wd_xor, e0, e1, e2, e3]
theorem aKey_C {key : Nat → BitVec 8} {w c : Nat} (h : ¬ (w + c) % w = 0) (h2 : ¬ (w = 8 ∧ (w + c) % 8 = 4)) :
    wdF (aKey key w c) c ^^^ wdF (aKey key w c) (w + c - 1) = wdF (aKey key w (c + 1)) (w + c) := by
  have e0 := aKey_t (key := key) (w := w) (c := c) (t := 0) (by omega)
  have e1 := aKey_t (key := key) (w := w) (c := c) (t := 1) (by omega)
  have e2 := aKey_t (key := key) (w := w) (c := c) (t := 2) (by omega)
  have e3 := aKey_t (key := key) (w := w) (c := c) (t := 3) (by omega)
  rw [if_neg h, if_neg h2] at e0 e1 e2 e3
  simp only [Nat.add_zero] at e0
  simp only [wdF]
  rw [wd_xor, e0, e1, e2, e3]
/-- a word more of the key -/
theorem kw_step {key : Nat → BitVec 8} {w c i : Nat} {w' : Nat → Int32} {X : Int32} (hi : i = w + c) (h : ∀ q, q < w + c → w' q = wdF (aKey key w c) q) (hX : X = wdF (aKey key w (c + 1)) (w + c)) :
    ∀ q, q < w + (c + 1) → qU w' i X q = wdF (aKey key w (c + 1)) q := by
  intro q hq
  subst hi
  by_cases e : q = w + c
  · subst e
    rw [qU_same, hX]
  · rw [qU_ne e, h q (by omega)]
    exact wdF_congr (fun t ht => (aKey_old (by omega)).symm)
theorem aKx_wd {gr : Nat → BitVec 8} {n : Nat} {kw : Nat → Int32} (hn : n = 16 ∨ n = 24 ∨ n = 32) (h : ∀ j, j < 4 * (n / 4 + 7) → kw j = wdF (aKey gr (n / 4) (4 * (n / 4 + 7) - n / 4)) j) : ∀ j, j < 4 * (n / 4 + 7) → kw j = wdF (aKx (qL gr n)) j := by
  intro j hj
  rw [h j hj]
  refine wdF_congr (fun t ht => ?_)
  rw [aKx, qL_len]
  exact aKey_congr (by omega) (fun i hi => (qL_getD (by omega)).symm) (by omega)
