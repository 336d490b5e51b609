/-! more about bytes -/
theorem qb_nat (b : Bool) : qb b = nI b.toNat := by cases b <;> rfl
theorem q_b1 {b : Bool} : qb b = nI 1 ↔ b = true := by cases b <;> simp [qb] <;> decide
theorem q_bxor (a b : Bool) : qb a ^^^ qb b = qb (a ^^ b) := by cases a <;> cases b <;> rfl
theorem qlo_xor (x y : Int32) : qlo (x ^^^ y) = qlo x ^^^ qlo y := by simp [qlo]
theorem qlo_and (x y : Int32) : qlo (x &&& y) = qlo x &&& qlo y := by simp [qlo]
theorem qlo_or (x y : Int32) : qlo (x ||| y) = qlo x ||| qlo y := by simp [qlo]
theorem qlo_255 (x : Int32) : qlo (x &&& nI 255) = qlo x := by rw [q_m255, qlo_qz]
theorem qz_of {n : Nat} (h : n < 256) : nI n = qz (BitVec.ofNat 8 n) := by
  rw [qz_nat, BitVec.toNat_ofNat, Nat.mod_eq_of_lt h]
theorem qs_shr (b : BitVec 8) {t : Nat} (h : t < 8) : qs b >>> (nI t &&& 31) &&& nI 1 = qb (b.getLsbD t) := by
  have h1 : ∀ b : BitVec 8, ∀ t : Fin 8, qs b >>> (nI t &&& 31) &&& nI 1 = qb (b.getLsbD t) := by decide +kernel
  exact h1 b ⟨t, h⟩
theorem q_bit_s (b : BitVec 8) {t : Nat} (h : t < 8) : qs b >>> (nI t &&& 31) &&& nI 1 = qb (b.getLsbD t) := qs_shr b h
theorem q_bit_z (b : BitVec 8) {t : Nat} (h : t < 8) : qz b >>> (nI t &&& 31) &&& nI 1 = qb (b.getLsbD t) := by
  have h1 : ∀ b : BitVec 8, ∀ t : Fin 8, qz b >>> (nI t &&& 31) &&& nI 1 = qb (b.getLsbD t) := by decide +kernel
  exact h1 b ⟨t, h⟩
theorem q_bit_n {a t : Nat} (ha : a < 2 ^ 31) (h : t < 32) : nI a >>> (nI t &&& 31) &&& nI 1 = qb (a.testBit t) := by
  rw [pk_shrN ha _ t (q_sh h), pk_andN (by have := Nat.div_le_self a (2 ^ t); omega) 1 rfl, qb_nat]
  congr 1
  rw [Nat.testBit, Nat.shiftRight_eq_div_pow]
  have : a / 2 ^ t % 2 = 0 ∨ a / 2 ^ t % 2 = 1 := by omega
  rcases this with h1 | h1 <;> simp [h1, Nat.one_and_eq_mod_two]
/-- a stretch of places written one after another, the rest as it was -/
def qSeg {α : Type} (g' g : Nat → α) (at0 k : Nat) (F : Nat → α) : Prop := (∀ j, j < k → g' (at0 + j) = F j) ∧ ∀ j, (j < at0 ∨ at0 + k ≤ j) → g' j = g j
theorem qSeg_0 {α : Type} {g : Nat → α} {at0 : Nat} {F : Nat → α} : qSeg g g at0 0 F := ⟨fun _ h => absurd h (Nat.not_lt_zero _), fun _ _ => rfl⟩
theorem qSeg_s {α : Type} {g' g : Nat → α} {at0 k i : Nat} {F : Nat → α} {v : α} (h : qSeg g' g at0 k F) (hi : i = at0 + k) (hv : v = F k) : qSeg (qU g' i v) g at0 (k + 1) F := by
  subst hi
  refine ⟨fun j hj => ?_, fun j hj => ?_⟩
  · rcases Nat.lt_or_ge j k with q | q
    · rw [qU_ne (by omega)]
      exact h.1 j q
    · rw [show j = k by omega, qU_same, hv]
  · rw [qU_ne (by omega)]
    exact h.2 j (by omega)
theorem qSeg_at {α : Type} {g' g : Nat → α} {k : Nat} {F : Nat → α} (h : qSeg g' g 0 k F) {j : Nat} (hj : j < k) : g' j = F j := by
  have := h.1 j hj
  rwa [Nat.zero_add] at this
/-! AES, as the reference has it: a state is 16 bytes by their places -/
def xt (b : BitVec 8) : BitVec 8 := (b <<< 1) ^^^ (if b.toNat > 127 then 0x1b#8 else 0#8)
theorem xt_lo {b : BitVec 8} (h : qz b ≤ nI 127) : qlo (qz b <<< (nI 1 &&& 31) ^^^ nI 0) = xt b := by
  have h1 : ∀ b : BitVec 8, qz b ≤ nI 127 → qlo (qz b <<< (nI 1 &&& 31) ^^^ nI 0) = xt b := by decide +kernel
  exact h1 b h
theorem xt_hi {b : BitVec 8} (h : ¬ qz b ≤ nI 127) : qlo (qz b <<< (nI 1 &&& 31) ^^^ nI 283) = xt b := by
  have h1 : ∀ b : BitVec 8, ¬ qz b ≤ nI 127 → qlo (qz b <<< (nI 1 &&& 31) ^^^ nI 283) = xt b := by decide +kernel
  exact h1 b h
def xtn (b : BitVec 8) : Nat → BitVec 8
  | 0 => b
  | k + 1 => xt (xtn b k)
def gmS (a : BitVec 8) (b : Nat) : Nat → BitVec 8
  | 0 => 0#8
  | k + 1 => gmS a b k ^^^ (if b.testBit k then xtn a k else 0#8)
def gm (a : BitVec 8) (b : Nat) : BitVec 8 := gmS a b 8
def aAdd (σ rk : Nat → BitVec 8) (r : Nat) : Nat → BitVec 8 := fun k => σ k ^^^ rk (16 * r + k)
def aSub (σ : Nat → BitVec 8) : Nat → BitVec 8 := fun k => BOX (σ ((k + 4 * (k % 4)) % 16)).toNat
def aUns (σ : Nat → BitVec 8) : Nat → BitVec 8 := fun k => UBOX (σ ((k + 12 * (k % 4)) % 16)).toNat
def aMix (p q r s : Nat) (σ : Nat → BitVec 8) : Nat → BitVec 8 := fun k =>
  gm (σ (4 * (k / 4) + k % 4)) p ^^^ gm (σ (4 * (k / 4) + (k % 4 + 1) % 4)) q ^^^ gm (σ (4 * (k / 4) + (k % 4 + 2) % 4)) r ^^^ gm (σ (4 * (k / 4) + (k % 4 + 3) % 4)) s
/-- behind r rounds of R -/
def aE (rk : Nat → BitVec 8) (R : Nat) (σ : Nat → BitVec 8) : Nat → Nat → BitVec 8
  | 0 => aAdd σ rk 0
  | r + 1 => aAdd (if r + 1 < R then aMix 2 3 1 1 (aSub (aE rk R σ r)) else aSub (aE rk R σ r)) rk (r + 1)
/-- behind c rounds back, of R -/
def aD (rk : Nat → BitVec 8) (R : Nat) (σ : Nat → BitVec 8) : Nat → Nat → BitVec 8
  | 0 => aAdd σ rk R
  | c + 1 => if c + 1 < R then aMix 14 11 13 9 (aAdd (aUns (aD rk R σ c)) rk (R - 1 - c)) else aAdd (aUns (aD rk R σ c)) rk (R - 1 - c)
/-- the words of the key: the bytes behind c words more than the w of the key -/
def aKey (key : Nat → BitVec 8) (w : Nat) : Nat → Nat → BitVec 8
  | 0 => key
  | c + 1 => fun j => if j / 4 = w + c then
      aKey key w c (4 * c + j % 4) ^^^ (if (w + c) % w = 0 then BOX (aKey key w c (4 * (w + c - 1) + (j % 4 + 1) % 4)).toNat ^^^ (if j % 4 = 0 then xtn 1#8 ((w + c - 1) / w) else 0#8)
        else if w = 8 ∧ (w + c) % 8 = 4 then BOX (aKey key w c (4 * (w + c - 1) + j % 4)).toNat else aKey key w c (4 * (w + c - 1) + j % 4))
      else aKey key w c j
theorem aMix_congr {p q r s : Nat} {σ σ' : Nat → BitVec 8} (h : ∀ k, k < 16 → σ k = σ' k) {k : Nat} (hk : k < 16) : aMix p q r s σ k = aMix p q r s σ' k := by
  simp only [aMix]
  rw [h _ (by omega), h _ (by omega), h _ (by omega), h _ (by omega)]
theorem aSub_congr {σ σ' : Nat → BitVec 8} (h : ∀ k, k < 16 → σ k = σ' k) {k : Nat} : aSub σ k = aSub σ' k := by
  simp only [aSub]
  rw [h _ (by omega)]
theorem aUns_congr {σ σ' : Nat → BitVec 8} (h : ∀ k, k < 16 → σ k = σ' k) {k : Nat} : aUns σ k = aUns σ' k := by
  simp only [aUns]
  rw [h _ (by omega)]
/-! the reference's object: its arrays stand at a 0 .. a 56 (the places of its fields) -/
abbrev oM (a : Nat → Nat) (ar mn tp os ls ns ct : Nat) : va_E := .inr (8, [.ref (a 0), .ref (a 1), .ref (a 2), .ref (a 3), .ref (a 4), .ref (a 5), .ref (a 6), .ref (a 7), .ref (a 8), .ref (a 9), .ref (a 10), .ref (a 11), .ref (a 12), .ref (a 13), .ref (a 14), .ref (a 15), .ref (a 16), .int (nI ar), .ref (a 18), .ref (a 19), .ref (a 20), .ref (a 21), .ref (a 22), .int (nI mn), .ref (a 24), .ref (a 25), .ref (a 26), .ref (a 27), .int (nI tp), .ref (a 29), .int (nI os), .ref (a 31), .int (nI ls), .ref (a 33), .int (nI ns), .int (nI ct), .ref (a 36), .ref (a 37), .ref (a 38), .ref (a 39), .ref (a 40), .ref (a 41), .ref (a 42), .ref (a 43), .ref (a 44), .ref (a 45), .ref (a 46), .ref (a 47), .ref (a 48), .ref (a 49), .ref (a 50), .ref (a 51), .ref (a 52), .ref (a 53), .ref (a 54), .ref (a 55), .ref (a 56)])
abbrev aK (ta : Nat → ClassId) (n : Nat) (h : Nat → Nat) : va_E := .inl (ta 0, n, .inl (fun j => nI (h j)))
theorem aKey_old {key : Nat → BitVec 8} {w c j : Nat} (h : j < 4 * (w + c)) : aKey key w (c + 1) j = aKey key w c j := by
  simp only [aKey]
  rw [if_neg (by omega)]
theorem qSeg_congr {α : Type} {g' g : Nat → α} {at0 k : Nat} {F F' : Nat → α} (h : qSeg g' g at0 k F) (e : ∀ j, j < k → F j = F' j) : qSeg g' g at0 k F' := ⟨fun j hj => by rw [h.1 j hj, e j hj], h.2⟩
theorem qSeg_tr {α : Type} {g2 g1 g : Nat → α} {at0 k : Nat} {F F' : Nat → α} (h2 : qSeg g2 g1 at0 k F) (h1 : qSeg g1 g at0 k F') : qSeg g2 g at0 k F := ⟨h2.1, fun j hj => by rw [h2.2 j hj, h1.2 j hj]⟩
theorem aE_step {rk σ b gb e m f : Nat → BitVec 8} {at0 R c k : Nat} (hs : qSeg b gb at0 16 (aE rk R σ c)) (hs3 : qSeg e b at0 k (aSub (aE rk R σ c))) {P : Prop} (_ : P)
    (h : (c + 1 < R ∧ k = 16 ∧ qSeg m e at0 16 (aMix 2 3 1 1 (fun k => e (at0 + k))) ∧ qSeg f m at0 16 (aAdd (fun k => m (at0 + k)) rk (c + 1))) ∨ (¬ c + 1 < R ∧ k = 16 ∧ qSeg f e at0 16 (aAdd (fun k => e (at0 + k)) rk (c + 1)))) : qSeg f gb at0 16 (aE rk R σ (c + 1)) := by
  rcases h with ⟨hR, rfl, hm, hf⟩ | ⟨hR, rfl, hf⟩
  · refine qSeg_congr (qSeg_tr hf (qSeg_tr hm (qSeg_tr hs3 hs))) (fun j hj => ?_)
    simp only [aE, if_pos hR, aAdd]
    rw [hm.1 j hj, aMix_congr hs3.1 hj]
  · refine qSeg_congr (qSeg_tr hf (qSeg_tr hs3 hs)) (fun j hj => ?_)
    simp only [aE, if_neg hR, aAdd]
    rw [hs3.1 j hj]
theorem aD_step {rk σ b gb e m f : Nat → BitVec 8} {at0 R t k : Nat} (ht : t + 1 ≤ R ∧ k = 16) (hs : qSeg b gb at0 16 (aD rk R σ (R - (t + 1)))) (hs3 : qSeg e b at0 k (aUns (aD rk R σ (R - (t + 1))))) (hm : qSeg m e at0 16 (aAdd (fun k => e (at0 + k)) rk t))
    (h : (0 < t ∧ qSeg f m at0 16 (aMix 14 11 13 9 (fun k => m (at0 + k)))) ∨ (¬ 0 < t ∧ f = m)) : qSeg f gb at0 16 (aD rk R σ (R - t)) := by
  obtain ⟨ht, rfl⟩ := ht
  have e1 : R - t = (R - (t + 1)) + 1 := by omega
  have e2 : R - 1 - (R - (t + 1)) = t := by omega
  rw [e1]
  have hA : ∀ j, j < 16 → m (at0 + j) = aAdd (aUns (aD rk R σ (R - (t + 1)))) rk t j := fun j hj => by
    rw [hm.1 j hj]
    simp only [aAdd]
    rw [hs3.1 j hj]
  rcases h with ⟨hR, hf⟩ | ⟨hR, rfl⟩
  · refine qSeg_congr (qSeg_tr hf (qSeg_tr hm (qSeg_tr hs3 hs))) (fun j hj => ?_)
    simp only [aD, if_pos (show R - (t + 1) + 1 < R by omega), e2]
    exact aMix_congr hA hj
  · refine qSeg_congr (qSeg_tr hm (qSeg_tr hs3 hs)) (fun j hj => ?_)
    simp only [aD, if_neg (show ¬ R - (t + 1) + 1 < R by omega), e2]
    simp only [aAdd]
    rw [hs3.1 j hj]
