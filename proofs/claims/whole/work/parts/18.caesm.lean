/-! the class's AES over words -/
def wdF (σ : Nat → BitVec 8) (c : Nat) : Int32 := wd (σ (4 * c)) (σ (4 * c + 1)) (σ (4 * c + 2)) (σ (4 * c + 3))
theorem wd_inj {x y : Int32} (h : x.toBitVec = y.toBitVec) : x = y := Int32.toBitVec_inj.mp h
theorem wdF_congr {σ σ' : Nat → BitVec 8} {c : Nat} (h : ∀ t, t < 4 → σ (4 * c + t) = σ' (4 * c + t)) : wdF σ c = wdF σ' c := by
  simp only [wdF]
  rw [show σ (4 * c) = σ' (4 * c) from h 0 (by omega), h 1 (by omega), h 2 (by omega), h 3 (by omega)]
theorem wd_xor {a b c d e f g h : BitVec 8} : wd a b c d ^^^ wd e f g h = wd (a ^^^ e) (b ^^^ f) (c ^^^ g) (d ^^^ h) := by
  apply wd_inj
  rw [Int32.toBitVec_xor, wd_bv, wd_bv, w4_xor]
  rfl
theorem wd_or {a b c d : BitVec 8} : qz a <<< (nI 24 &&& 31) ||| qz b <<< (nI 16 &&& 31) ||| qz c <<< (nI 8 &&& 31) ||| qz d = wd a b c d := by
  apply wd_inj
  simp only [Int32.toBitVec_or]
  rw [bv_shl _ (by decide), bv_shl _ (by decide), bv_shl _ (by decide), wd_bv]
  apply w4_ext
  intro i hi
  have z : ∀ b : BitVec 8, (qz b).toBitVec = b.setWidth 32 := fun b => rfl
  rw [w4_get]
  simp only [z, BitVec.getLsbD_or, BitVec.getLsbD_shiftLeft, BitVec.getLsbD_setWidth, hi, decide_true, Bool.true_and]
  by_cases h1 : i < 8
  · simp [h1, show i < 16 by omega, show i < 24 by omega]
  · by_cases h2 : i < 16
    · simp [h1, h2, show i < 24 by omega, show i - 8 < 32 by omega]
      intro hd9
      rw [BitVec.getLsbD_of_ge d _ (by omega)] at hd9
      exact absurd hd9 (by decide)
    · by_cases h3 : i < 24
      · simp [h1, h2, h3, show i - 16 < 32 by omega]
        rw [BitVec.getLsbD_of_ge c _ (by omega), BitVec.getLsbD_of_ge d _ (by omega)]
        simp
      · simp [h1, h2, h3, show i - 24 < 32 by omega]
        rw [BitVec.getLsbD_of_ge b _ (by omega), BitVec.getLsbD_of_ge c _ (by omega), BitVec.getLsbD_of_ge d _ (by omega)]
        simp
theorem wd_byte {a b c d : BitVec 8} : qlo (ush (wd a b c d) 24) = a ∧ qlo (ush (wd a b c d) 16) = b ∧ qlo (ush (wd a b c d) 8) = c ∧ qlo (ush (wd a b c d) 0) = d ∧ qlo (wd a b c d) = d := by
  have key : ∀ (k : Nat) (x : BitVec 8), k < 32 → (∀ i, i < 8 → (w4 a b c d).getLsbD (k + i) = x.getLsbD i) → qlo (ush (wd a b c d) k) = x := by
    intro k x hk h
    apply BitVec.eq_of_getLsbD_eq
    intro i hi
    simp only [qlo, BitVec.getLsbD_setWidth, hi, decide_true, Bool.true_and]
    rw [bv_ush _ hk, wd_bv, BitVec.getLsbD_ushiftRight, h i hi]
  have e0 : ush (wd a b c d) 0 = wd a b c d := by
    apply wd_inj
    rw [bv_ush _ (by decide)]
    rfl
  have k0 : qlo (ush (wd a b c d) 0) = d := key 0 d (by decide) (fun i hi => by rw [w4_get, if_pos (by omega), Nat.zero_add])
  refine ⟨key 24 a (by decide) ?_, key 16 b (by decide) ?_, key 8 c (by decide) ?_, k0, by rw [← e0]; exact k0⟩ <;> intro i hi <;> rw [w4_get]
  · rw [if_neg (by omega), if_neg (by omega), if_neg (by omega)]
    congr 1
    omega
  · rw [if_neg (by omega), if_neg (by omega), if_pos (by omega)]
    congr 1
    omega
  · rw [if_neg (by omega), if_pos (by omega)]
    congr 1
    omega
/-- byte t of a word, as store takes it -/
theorem wdF_byte {σ : Nat → BitVec 8} {c t : Nat} (ht : t < 4) : qlo (ush (wdF σ c) (24 - 8 * t)) = σ (4 * c + t) := by
  obtain ⟨h0, h1, h2, h3, -⟩ := wd_byte (a := σ (4 * c)) (b := σ (4 * c + 1)) (c := σ (4 * c + 2)) (d := σ (4 * c + 3))
  match t, ht with
  | 0, _ => exact h0
  | 1, _ => exact h1
  | 2, _ => exact h2
  | 3, _ => exact h3
def ldS (o : Int32) (σ : Nat → BitVec 8) (q : Nat) : Nat → Int32
  | 0 => o
  | t + 1 => ldS o σ q t <<< (nI 8 &&& 31) ||| qz (σ (4 * q + t))
theorem ld_step {a b c d e : BitVec 8} : wd a b c d <<< (nI 8 &&& 31) ||| qz e = wd b c d e := by
  apply wd_inj
  rw [Int32.toBitVec_or, bv_shl _ (by decide), wd_bv, wd_bv]
  apply w4_ext
  intro i hi
  have z : (qz e).toBitVec = e.setWidth 32 := rfl
  rw [BitVec.getLsbD_or, BitVec.getLsbD_shiftLeft, w4_get, w4_get, z, BitVec.getLsbD_setWidth]
  by_cases h1 : i < 8
  · simp [h1, hi]
  · rw [BitVec.getLsbD_of_ge e _ (by omega)]
    simp only [hi, h1, decide_true, decide_false, Bool.not_false, Bool.true_and, Bool.and_false, Bool.or_false, if_false]
    by_cases h2 : i < 16
    · rw [if_pos (by omega), if_pos h2]
    · rw [if_neg (by omega), if_neg h2]
      by_cases h3 : i < 24
      · rw [if_pos (by omega), if_pos h3, Nat.sub_sub]
      · rw [if_neg (by omega), if_neg h3, if_pos (by omega), Nat.sub_sub]
theorem ldS_4 {o : Int32} {σ : Nat → BitVec 8} {q : Nat} : ldS o σ q 4 = wdF σ q := by
  obtain ⟨a, b, c, d, h⟩ := w4_of o.toBitVec
  have e : o = wd a b c d := wd_inj h
  simp only [ldS, e, ld_step]
  rfl
theorem load_step {s' sw : Nat → Int32} {gb : Nat → BitVec 8} {i : Nat} (hi : i < 16) (h : ∀ q, q < 4 → s' q = ldS (sw q) gb q (min 4 (i - 4 * q))) :
    ∀ q, q < 4 → qU s' (i / 4 % 4) (s' (i / 4 % 4) <<< (nI 8 &&& 31) ||| qz (gb i)) q = ldS (sw q) gb q (min 4 (i + 1 - 4 * q)) := by
  intro q hq
  have e : i / 4 % 4 = i / 4 := by omega
  rw [e]
  by_cases c : q = i / 4
  · subst c
    rw [qU_same, h _ (by omega), show min 4 (i - 4 * (i / 4)) = i % 4 by omega, show min 4 (i + 1 - 4 * (i / 4)) = i % 4 + 1 by omega]
    simp only [ldS]
    rw [show 4 * (i / 4) + i % 4 = i by omega]
  · rw [qU_ne c, h q hq]
    congr 1
    omega
/-- the class's mix and beforeMix, as they stand -/
def cMix (x : Int32) : Int32 :=
  let two := ((x &&& nI 2139062143) <<< (nI 1 &&& 31)) ^^^ ((ush x 7 &&& nI 16843009) * nI 27)
  let three := two ^^^ x
  ((two ^^^ ((three <<< (nI 8 &&& 31)) ||| ush three 24)) ^^^ ((x <<< (nI 16 &&& 31)) ||| ush x 16)) ^^^ ((x <<< (nI 24 &&& 31)) ||| ush x 8)
def cBef (x : Int32) : Int32 :=
  let sum := x ^^^ ((x <<< (nI 16 &&& 31)) ||| ush x 16)
  ((x ^^^ ((sum &&& nI 1061109567) <<< (nI 2 &&& 31))) ^^^ ((ush sum 6 &&& nI 16843009) * nI 27)) ^^^ ((ush sum 7 &&& nI 16843009) * nI 54)
theorem nI_bv (n : Nat) : (nI n).toBitVec = BitVec.ofNat 32 n := rfl
theorem wd_rot {a b c d : BitVec 8} : ((wd a b c d <<< (nI 8 &&& 31)) ||| ush (wd a b c d) 24) = wd b c d a ∧ ((wd a b c d <<< (nI 16 &&& 31)) ||| ush (wd a b c d) 16) = wd c d a b ∧ ((wd a b c d <<< (nI 24 &&& 31)) ||| ush (wd a b c d) 8) = wd d a b c := by
  obtain ⟨h1, h2, h3⟩ := w4_rot (a := a) (b := b) (c := c) (d := d)
  refine ⟨wd_inj ?_, wd_inj ?_, wd_inj ?_⟩
  · rw [Int32.toBitVec_or, bv_shl _ (by decide), bv_ush _ (by decide)]
    exact h1
  · rw [Int32.toBitVec_or, bv_shl _ (by decide), bv_ush _ (by decide)]
    exact h2
  · rw [Int32.toBitVec_or, bv_shl _ (by decide), bv_ush _ (by decide)]
    exact h3
theorem wd_xt {a b c d : BitVec 8} : ((wd a b c d &&& nI 2139062143) <<< (nI 1 &&& 31)) ^^^ ((ush (wd a b c d) 7 &&& nI 16843009) * nI 27) = wd (xt a) (xt b) (xt c) (xt d) := by
  apply wd_inj
  have lt : ∀ x : BitVec 8, (x >>> 7).toNat < 2 := by decide
  rw [Int32.toBitVec_xor, bv_shl _ (by decide), Int32.toBitVec_and, Int32.toBitVec_mul, Int32.toBitVec_and, bv_ush _ (by decide), nI_bv, nI_bv, nI_bv]
  have e1 : (wd a b c d).toBitVec = w4 a b c d := rfl
  rw [e1, show BitVec.ofNat 32 2139062143 = 0x7F7F7F7F#32 from rfl, show BitVec.ofNat 32 16843009 = 0x01010101#32 from rfl, w4_two, w4_top, w4_mul (k := 27) (by decide) ⟨lt a, lt b, lt c, lt d⟩, w4_xor]
  rw [show BitVec.ofNat 8 27 = 0x1b#8 from rfl, xt_w, xt_w, xt_w, xt_w]
  rfl
theorem cMix_wd {a b c d : BitVec 8} : cMix (wd a b c d) = wd (xt a ^^^ (xt b ^^^ b) ^^^ c ^^^ d) (xt b ^^^ (xt c ^^^ c) ^^^ d ^^^ a) (xt c ^^^ (xt d ^^^ d) ^^^ a ^^^ b) (xt d ^^^ (xt a ^^^ a) ^^^ b ^^^ c) := by
  simp only [cMix]
  rw [wd_xt, wd_xor, wd_rot.1, wd_rot.2.1, wd_rot.2.2, wd_xor, wd_xor, wd_xor]
theorem gm_1 (x : BitVec 8) : gm x 1 = x ∧ gm x 2 = xt x ∧ gm x 3 = xt x ^^^ x ∧ gm x 9 = xt (xt (xt x)) ^^^ x ∧ gm x 11 = xt (xt (xt x)) ^^^ xt x ^^^ x ∧ gm x 13 = xt (xt (xt x)) ^^^ xt (xt x) ^^^ x ∧ gm x 14 = xt (xt (xt x)) ^^^ xt (xt x) ^^^ xt x := by
  have h : ∀ x : BitVec 8, gm x 1 = x ∧ gm x 2 = xt x ∧ gm x 3 = xt x ^^^ x ∧ gm x 9 = xt (xt (xt x)) ^^^ x ∧ gm x 11 = xt (xt (xt x)) ^^^ xt x ^^^ x ∧ gm x 13 = xt (xt (xt x)) ^^^ xt (xt x) ^^^ x ∧ gm x 14 = xt (xt (xt x)) ^^^ xt (xt x) ^^^ xt x := by decide +kernel
  exact h x
theorem wdF_mix {σ : Nat → BitVec 8} {c : Nat} : cMix (wdF σ c) = wdF (aMix 2 3 1 1 σ) c := by
  simp only [wdF, cMix_wd, aMix, show 4 * c / 4 = c by omega, show (4 * c + 1) / 4 = c by omega, show (4 * c + 2) / 4 = c by omega, show (4 * c + 3) / 4 = c by omega, show 4 * c % 4 = 0 by omega, show (4 * c + 1) % 4 = 1 by omega, show (4 * c + 2) % 4 = 2 by omega, show (4 * c + 3) % 4 = 3 by omega]
  simp only [Nat.reduceAdd, Nat.reduceMod, Nat.add_zero, (gm_1 _).1, (gm_1 _).2.1, (gm_1 _).2.2.1]
theorem xt_xor (a b : BitVec 8) : xt (a ^^^ b) = xt a ^^^ xt b := by
  have h : ∀ x : BitVec 8, xt x = (x <<< 1) ^^^ (if x.getLsbD 7 then 0x1b#8 else 0#8) := by decide +kernel
  rw [h, h, h, BitVec.getLsbD_xor]
  have e : (a ^^^ b) <<< 1 = (a <<< 1) ^^^ (b <<< 1) := by
    apply BitVec.eq_of_getLsbD_eq
    intro i hi
    simp [Bool.and_xor_distrib_left]
  rw [e]
  generalize a <<< 1 = x
  generalize b <<< 1 = y
  cases a.getLsbD 7 <;> cases b.getLsbD 7 <;> simp
  · rw [BitVec.xor_assoc]
  · rw [BitVec.xor_assoc, BitVec.xor_assoc, BitVec.xor_comm y]
  · rw [BitVec.xor_assoc, BitVec.xor_comm 27#8, BitVec.xor_assoc y, BitVec.xor_self, BitVec.xor_zero]
theorem cBef_wd {a b c d : BitVec 8} : cBef (wd a b c d) = wd (a ^^^ xt (xt (a ^^^ c))) (b ^^^ xt (xt (b ^^^ d))) (c ^^^ xt (xt (c ^^^ a))) (d ^^^ xt (xt (d ^^^ b))) := by
  have q2 : ∀ x : BitVec 8, ((x &&& 0x3F#8) <<< 2) ^^^ ((x >>> 6 &&& 1#8) * 0x1b#8) ^^^ ((x >>> 7) * 0x36#8) = xt (xt x) := by decide +kernel
  have key : ∀ p q r s : BitVec 8, (((wd p q r s &&& nI 1061109567) <<< (nI 2 &&& 31)) ^^^ ((ush (wd p q r s) 6 &&& nI 16843009) * nI 27)) ^^^ ((ush (wd p q r s) 7 &&& nI 16843009) * nI 54) = wd (xt (xt p)) (xt (xt q)) (xt (xt r)) (xt (xt s)) := by
    intro p q r s
    apply wd_inj
    have lt : ∀ x : BitVec 8, (x >>> 7).toNat < 2 := by decide
    have lt6 : ∀ x : BitVec 8, (x >>> 6 &&& 1#8).toNat < 2 := by decide
    have e6 : (w4 p q r s >>> 6) &&& 0x01010101#32 = w4 (p >>> 6 &&& 1#8) (q >>> 6 &&& 1#8) (r >>> 6 &&& 1#8) (s >>> 6 &&& 1#8) := by
      have e : (w4 p q r s >>> 6) &&& 0x01010101#32 = (w4 p q r s &&& 0x40404040#32) >>> 6 := by
        rw [BitVec.ushiftRight_and_distrib]
        rfl
      have e2 : (0x40404040#32) = w4 0x40#8 0x40#8 0x40#8 0x40#8 := by decide
      have m : ∀ x : BitVec 8, (x &&& 0x40#8).toNat = 64 * (x >>> 6 &&& 1#8).toNat := by decide
      rw [e, e2, w4_and]
      apply BitVec.eq_of_toNat_eq
      have := lt6 p; have := lt6 q; have := lt6 r; have := lt6 s
      rw [BitVec.toNat_ushiftRight, w4_nat, w4_nat, m, m, m, m, Nat.shiftRight_eq_div_pow]
      omega
    have e3 : (w4 p q r s &&& 0x3F3F3F3F#32) <<< 2 = w4 ((p &&& 0x3F#8) <<< 2) ((q &&& 0x3F#8) <<< 2) ((r &&& 0x3F#8) <<< 2) ((s &&& 0x3F#8) <<< 2) := by
      have e : (0x3F3F3F3F#32) = w4 0x3F#8 0x3F#8 0x3F#8 0x3F#8 := by decide
      have m : ∀ x : BitVec 8, (x &&& 0x3F#8).toNat < 64 := by decide
      have m2 : ∀ x : BitVec 8, ((x &&& 0x3F#8) <<< 2).toNat = 4 * (x &&& 0x3F#8).toNat := by decide
      rw [e, w4_and]
      apply BitVec.eq_of_toNat_eq
      have := m p; have := m q; have := m r; have := m s
      rw [BitVec.toNat_shiftLeft, w4_nat, w4_nat, m2, m2, m2, m2, Nat.shiftLeft_eq]
      omega
    rw [Int32.toBitVec_xor, Int32.toBitVec_xor, bv_shl _ (by decide), Int32.toBitVec_and, Int32.toBitVec_mul, Int32.toBitVec_and, bv_ush _ (by decide), Int32.toBitVec_mul, Int32.toBitVec_and, bv_ush _ (by decide), nI_bv, nI_bv, nI_bv, nI_bv]
    have e1 : (wd p q r s).toBitVec = w4 p q r s := rfl
    rw [e1, show BitVec.ofNat 32 1061109567 = 0x3F3F3F3F#32 from rfl, show BitVec.ofNat 32 16843009 = 0x01010101#32 from rfl, e3, e6, w4_top, w4_mul (k := 27) (by decide) ⟨lt6 p, lt6 q, lt6 r, lt6 s⟩, w4_mul (k := 54) (by decide) ⟨lt p, lt q, lt r, lt s⟩, w4_xor, w4_xor]
    rw [show BitVec.ofNat 8 27 = 0x1b#8 from rfl, show BitVec.ofNat 8 54 = 0x36#8 from rfl, q2, q2, q2, q2]
    rfl
  simp only [cBef]
  rw [wd_rot.2.1, wd_xor, Int32.xor_assoc, Int32.xor_assoc, ← Int32.xor_assoc (_ <<< _), key, wd_xor]
theorem mix_id (b0 b1 b2 b3 : BitVec 8) : xt (b0 ^^^ xt (xt (b0 ^^^ b2))) ^^^ (xt (b1 ^^^ xt (xt (b1 ^^^ b3))) ^^^ (b1 ^^^ xt (xt (b1 ^^^ b3)))) ^^^ (b2 ^^^ xt (xt (b2 ^^^ b0))) ^^^ (b3 ^^^ xt (xt (b3 ^^^ b1))) = gm b0 14 ^^^ gm b1 11 ^^^ gm b2 13 ^^^ gm b3 9 := by
  rw [(gm_1 b0).2.2.2.2.2.2, (gm_1 b1).2.2.2.2.1, (gm_1 b2).2.2.2.2.2.1, (gm_1 b3).2.2.2.1]
  simp only [xt_xor]
  generalize xt (xt (xt b0)) = p3
  generalize xt (xt (xt b1)) = q3
  generalize xt (xt (xt b2)) = r3
  generalize xt (xt (xt b3)) = s3
  generalize xt (xt b0) = p2
  generalize xt (xt b1) = q2
  generalize xt (xt b2) = r2
  generalize xt (xt b3) = s2
  generalize xt b0 = p1
  generalize xt b1 = q1
  generalize xt b2 = r1
  generalize xt b3 = s1
  apply BitVec.eq_of_getLsbD_eq
  intro i _
  simp only [BitVec.getLsbD_xor]
  generalize p3.getLsbD i = v1
  generalize q3.getLsbD i = v2
  generalize r3.getLsbD i = v3
  generalize s3.getLsbD i = v4
  generalize p2.getLsbD i = v5
  generalize q2.getLsbD i = v6
  generalize r2.getLsbD i = v7
  generalize s2.getLsbD i = v8
  generalize p1.getLsbD i = v9
  generalize q1.getLsbD i = v10
  generalize b1.getLsbD i = v11
  generalize b2.getLsbD i = v12
  generalize b3.getLsbD i = v13
  cases v5 <;> cases v6 <;> cases v7 <;> cases v8 <;> simp [Bool.xor_assoc, Bool.xor_comm, Bool.xor_left_comm]
theorem wdF_unmix {σ : Nat → BitVec 8} {c : Nat} : cMix (cBef (wdF σ c)) = wdF (aMix 14 11 13 9 σ) c := by
  simp only [wdF, cBef_wd, cMix_wd, aMix, show 4 * c / 4 = c by omega, show (4 * c + 1) / 4 = c by omega, show (4 * c + 2) / 4 = c by omega, show (4 * c + 3) / 4 = c by omega, show 4 * c % 4 = 0 by omega, show (4 * c + 1) % 4 = 1 by omega, show (4 * c + 2) % 4 = 2 by omega, show (4 * c + 3) % 4 = 3 by omega]
  simp only [Nat.reduceAdd, Nat.reduceMod, Nat.add_zero]
  rw [mix_id, mix_id, mix_id, mix_id]
