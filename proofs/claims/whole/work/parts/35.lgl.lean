/-! what the public calls answer, over lists -/
abbrev oG (lg ya yb wa wb o v : Nat → Nat) (ct : Nat) : va_E := .inr (7, [.ref (lg 1), .ref (lg 3), .ref (lg 5), .ref (lg 7), .ref (ya 0), .ref (yb 0), .ref (wa 0), .ref (wb 0), .ref (o 0), .ref (v 0), .int (nI ct)])
/-- a tape of n bytes can be keys by rule r -/
def keyB (r : Int32) (n : Nat) : Bool := decide ((r = nI 2 ∧ n = 48) ∨ (r = nI 3 ∧ (n = 48 ∨ n = 72 ∨ n = 96)))
theorem keyB_no {r : Int32} {n : Nat} (h : keyB r n = false) (hn : n / 3 * 3 = n) (hr : (r = nI 2 ∧ n / 3 = 16) ∨ (r = nI 3 ∧ (n / 3 = 16 ∨ n / 3 = 24 ∨ n / 3 = 32))) : False := by
  refine of_decide_eq_false h ?_
  rcases hr with ⟨e, q⟩ | ⟨e, q⟩
  · exact Or.inl ⟨e, by omega⟩
  · exact Or.inr ⟨e, by omega⟩
/-- what a table of cases leaves over -/
theorem q_out {i : Int32} {n : Nat} (h : ∀ k, k ≤ n → ¬ i = nI k) (hn : n < 2147483648) : i.toInt < 0 ∨ (n : Int) < i.toInt := by
  by_cases h0 : i.toInt < 0
  · exact Or.inl h0
  · by_cases h1 : (n : Int) < i.toInt
    · exact Or.inr h1
    · exfalso
      refine h i.toInt.toNat (by omega) ?_
      rw [← Int32.toInt_inj, nI_toInt (by omega)]
      omega
