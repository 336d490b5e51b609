abbrev oA (b1 b2 b3 b4 b5 b6 r : Nat) : va_E := .inr (0, [.ref b1, .ref b2, .ref b3, .ref b4, .ref b5, .ref b6, .int (nI r)])
theorem aAdd_wd {σ rk : Nat → BitVec 8} {r i : Nat} : wdF σ i ^^^ wdF rk (4 * r + i) = wdF (aAdd σ rk r) i := by
  simp only [wdF, wd_xor, aAdd]
  rw [show 16 * r + 4 * i = 4 * (4 * r + i) by omega, show 16 * r + (4 * i + 1) = 4 * (4 * r + i) + 1 by omega, show 16 * r + (4 * i + 2) = 4 * (4 * r + i) + 2 by omega, show 16 * r + (4 * i + 3) = 4 * (4 * r + i) + 3 by omega]
theorem wdF_b {σ : Nat → BitVec 8} {c : Nat} : qlo (ush (wdF σ c) 24) = σ (4 * c) ∧ qlo (ush (wdF σ c) 16) = σ (4 * c + 1) ∧ qlo (ush (wdF σ c) 8) = σ (4 * c + 2) ∧ qlo (wdF σ c) = σ (4 * c + 3) := by
  obtain ⟨h0, h1, h2, _, h3⟩ := wd_byte (a := σ (4 * c)) (b := σ (4 * c + 1)) (c := σ (4 * c + 2)) (d := σ (4 * c + 3))
  exact ⟨h0, h1, h2, h3⟩
theorem aSub_wd {σ : Nat → BitVec 8} {i : Nat} (h : i < 4) : wd (BOX (qlo (ush (wdF σ i) 24)).toNat) (BOX (qlo (ush (wdF σ ((i + 1) % 4)) 16)).toNat) (BOX (qlo (ush (wdF σ ((i + 2) % 4)) 8)).toNat) (BOX (qlo (wdF σ ((i + 3) % 4))).toNat) = wdF (aSub σ) i := by
  rw [wdF_b.1, wdF_b.2.1, wdF_b.2.2.1, wdF_b.2.2.2]
  simp only [wdF, aSub]
  rw [show (4 * i + 4 * (4 * i % 4)) % 16 = 4 * i by omega, show (4 * i + 1 + 4 * ((4 * i + 1) % 4)) % 16 = 4 * ((i + 1) % 4) + 1 by omega, show (4 * i + 2 + 4 * ((4 * i + 2) % 4)) % 16 = 4 * ((i + 2) % 4) + 2 by omega, show (4 * i + 3 + 4 * ((4 * i + 3) % 4)) % 16 = 4 * ((i + 3) % 4) + 3 by omega]
theorem aUns_wd {σ : Nat → BitVec 8} {i : Nat} (h : i < 4) : wd (UBOX (qlo (ush (wdF σ i) 24)).toNat) (UBOX (qlo (ush (wdF σ ((i + 3) % 4)) 16)).toNat) (UBOX (qlo (ush (wdF σ ((i + 2) % 4)) 8)).toNat) (UBOX (qlo (wdF σ ((i + 9) % 4))).toNat) = wdF (aUns σ) i := by
  rw [wdF_b.1, wdF_b.2.1, wdF_b.2.2.1, wdF_b.2.2.2]
  simp only [wdF, aUns]
  rw [show (4 * i + 12 * (4 * i % 4)) % 16 = 4 * i by omega, show (4 * i + 1 + 12 * ((4 * i + 1) % 4)) % 16 = 4 * ((i + 3) % 4) + 1 by omega, show (4 * i + 2 + 12 * ((4 * i + 2) % 4)) % 16 = 4 * ((i + 2) % 4) + 2 by omega, show (4 * i + 3 + 12 * ((4 * i + 3) % 4)) % 16 = 4 * ((i + 9) % 4) + 3 by omega]
def cBox (x : Int32) : Int32 := wd (BOX (qlo (ush x 24)).toNat) (BOX (qlo (ush x 16)).toNat) (BOX (qlo (ush x 8)).toNat) (BOX (qlo x).toNat)
theorem cBox_wd {a b c d : BitVec 8} : cBox (wd a b c d) = wd (BOX a.toNat) (BOX b.toNat) (BOX c.toNat) (BOX d.toNat) := by
  obtain ⟨h0, h1, h2, _, h3⟩ := wd_byte (a := a) (b := b) (c := c) (d := d)
  rw [cBox, h0, h1, h2, h3]
theorem aD_words {rk gb : Nat → BitVec 8} {R t e : Nat} {e' s : Nat → Int32} (ht : t + 1 ≤ R) (hx : e = 4 ∨ t = 0) (he : qSeg e' s 0 e (wdF (aMix 14 11 13 9 (aAdd (aUns (aD rk R gb (R - (t + 1)))) rk t))) ∧ (∀ q, q < 4 → s q = wdF (aAdd (aUns (aD rk R gb (R - (t + 1)))) rk t) q) ∧ (t = 0 → e = 0)) :
    ∀ q, q < 4 → e' q = wdF (aD rk R gb (R - t)) q := by
  intro q hq
  obtain ⟨he, hs, h0⟩ := he
  have e1 : R - t = (R - (t + 1)) + 1 := by omega
  have e2 : R - 1 - (R - (t + 1)) = t := by omega
  rw [e1]
  by_cases ht0 : t = 0
  · rw [h0 ht0] at he
    rw [he.2 q (by omega), hs q hq]
    simp only [aD, if_neg (show ¬ R - (t + 1) + 1 < R by omega), e2]
  · rw [show e = 4 by omega] at he
    rw [qSeg_at he hq]
    simp only [aD, if_pos (show R - (t + 1) + 1 < R by omega), e2]
