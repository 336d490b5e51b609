/-! more of the public calls -/
theorem sw_nI {k : Nat} (h : k < 65536) : swB (nI k) = true := by
  refine decide_eq_true ?_
  rw [nI_toInt (by omega)]
  omega
