/-! the two rules' reckonings, over lists -/
theorem ldL_congr {g g' : Nat → BitVec 8} : ∀ {t : Nat}, (∀ j, j < t → g j = g' j) → ldL g t = ldL g' t
  | 0, _ => rfl
  | t + 1, h => by rw [ldL, ldL, ldL_congr (fun j hj => h j (by omega)), h t (by omega)]
theorem skL_congr {g g' : Nat → BitVec 8} (h : ∀ j, j < 8 → g j = g' j) (r : Nat) : skL g r = skL g' r := by
  have e : scX g = scX g' := by rw [scX, scX, ldL_congr h]
  simp only [skL, scHi, scLo, e]
theorem dkS_take {f : Nat → Int64} {gk : Nat → BitVec 8} {n : Nat} (hn : 8 ≤ n) (h : ∀ r, r < 16 → f r = skL (fun j => gk (0 + j)) r) : dkS f ((qL gk n).take 8) := by
  intro r hr
  rw [h r hr]
  refine skL_congr (fun j hj => ?_) r
  rw [qL_take hn, qL_getD hj, Nat.zero_add]
theorem dkS_drop {f : Nat → Int64} {gk : Nat → BitVec 8} {n : Nat} (hn : 16 ≤ n) (h : ∀ r, r < 16 → f r = skL (fun j => gk (8 + j)) r) : dkS f ((qL gk n).drop 8) := by
  intro r hr
  rw [h r hr]
  refine skL_congr (fun j hj => ?_) r
  rw [qL_drop, seg_getD (by omega)]
def Elen (E : Bytes → Bytes) (w : Nat) : Prop := ∀ L, (E L).length = w
theorem cbcM_len {E : Bytes → Bytes} {w : Nat} (hE : Elen E w) {iv T : Bytes} {i : Nat} : (cbcM E w iv T (i + 1)).length = w := hE _
/-- the last block of what CBC leaves -/
theorem last_blk {E : Bytes → Bytes} {w m f0 : Nat} (hw : 0 < w) (hE : Elen E w) {iv T : Bytes} {g1 g : Nat → BitVec 8} (hm : 0 < m) (h : qSeg g1 g f0 (w * m) (encF E w iv T)) : seg g1 (f0 + w * (m - 1)) w = cbcM E w iv T m := by
  obtain ⟨k, rfl⟩ : ∃ k, m = k + 1 := ⟨m - 1, by omega⟩
  rw [Nat.add_sub_cancel]
  have e : w * (k + 1) = w * k + w := by rw [Nat.mul_add, Nat.mul_one]
  have hl : (cbcM E w iv T (k + 1)).length = w := cbcM_len hE
  rw [← qL_of (g := fun j => g1 (f0 + w * k + j)) (L := cbcM E w iv T (k + 1)), hl, seg]
  intro j hj
  rw [hl] at hj
  rw [Nat.add_assoc, h.1 _ (by omega), encF, Nat.mul_add_div hw, Nat.div_eq_of_lt hj, Nat.add_zero, Nat.mul_add_mod, Nat.mod_eq_of_lt hj, List.getD_eq_getElem?_getD]
  have : j < (cbcM E w iv T (k + 1)).length := by omega
  rw [List.getElem?_eq_getElem this]
  rfl
theorem cbcM_take {E : Bytes → Bytes} {w n : Nat} {iv T : Bytes} : ∀ {i : Nat}, w * i ≤ n → cbcM E w iv (T.take n) i = cbcM E w iv T i
  | 0, _ => rfl
  | i + 1, h => by
    have e : w * (i + 1) = w * i + w := by rw [Nat.mul_add, Nat.mul_one]
    rw [cbcM, cbcM, cbcM_take (by omega)]
    congr 2
    rw [List.drop_take, List.take_take, Nat.min_eq_left (by omega)]
theorem zeroL_take {n m : Nat} (h : m ≤ n) : (zeroL n).take m = zeroL m := by
  rw [zeroL, List.take_replicate, Nat.min_eq_left h, zeroL]
theorem qL_zero {g : Nat → BitVec 8} {n m : Nat} (hz : qL g n = zeroL n) (h : m ≤ n) : qL g m = zeroL m := by
  rw [← qL_take h, hz, zeroL_take h]
def skeyL (K : Bytes) (c n : Nat) : Bytes := qL (encF (tdesL K false) 8 (zeroL 8) (qNum (nI c).toInt64 2 ++ qNum (nI n).toInt64 2 ++ zeroL 12)) 16
theorem skeyL_len {K : Bytes} {c n : Nat} : (skeyL K c n).length = 16 := qL_len
theorem cE_t {K : Bytes} {b : Bool} : cE true K b = tdesL K b := rfl
theorem cE_f {K : Bytes} {b : Bool} : cE false K b = desL (K.take 8) b := rfl
theorem tdes_Elen {K : Bytes} {b : Bool} : Elen (tdesL K b) 8 := fun _ => qL_len
theorem des_Elen {K : Bytes} {b : Bool} : Elen (desL K b) 8 := fun _ => qL_len
theorem aes_Elen {K : Bytes} : Elen (aesE K) 16 := fun _ => qL_len
/-- MAC3, as the class reckons it -/
theorem mac3_of {gt gt1 gt2 : Nat → BitVec 8} {K iv : Bytes} {nt n1 : Nat} (hn : n1 = (nt / 8 + 1) * 8) (hp : qL gt1 n1 = qpad 8 (qL gt nt)) (hiv : iv = zeroL 8) (h : qSeg gt2 gt1 0 (8 * (nt / 8 + 1)) (encF (tdesL K false) 8 iv (seg gt1 0 (8 * (nt / 8 + 1))))) : seg gt2 (n1 - 8) 8 = mac3L K (qL gt nt) := by
  subst hiv
  have e := last_blk (by decide) tdes_Elen (by omega) h
  rw [Nat.zero_add, show 8 * (nt / 8 + 1 - 1) = n1 - 8 by omega] at e
  rw [e, mac3L, qL_len, seg_0, show 8 * (nt / 8 + 1) = n1 by omega, hp]
theorem retail_of {gt gt1 gt2 gt3 bf2 : Nat → BitVec 8} {K iv : Bytes} {nt n1 : Nat} (hn : n1 = (nt / 8 + 1) * 8) (hp : qL gt1 n1 = qpad 8 (qL gt nt)) (h2 : qSeg gt2 gt1 0 (8 * (nt / 8)) (encF (desL (K.take 8) false) 8 iv (seg gt1 0 (8 * (nt / 8))))) (hb : qL bf2 8 = cbcM (desL (K.take 8) false) 8 iv (seg gt1 0 (8 * (nt / 8))) (nt / 8))
    (h3 : qSeg gt3 gt2 (n1 - 8) (8 * 1) (encF (tdesL K false) 8 (qL bf2 8) (seg gt2 (n1 - 8) (8 * 1)))) : seg gt3 (n1 - 8) 8 = retailL K iv (qL gt nt) := by
  have e := last_blk (by decide) tdes_Elen (by omega) h3
  rw [Nat.sub_self, Nat.mul_zero, Nat.add_zero] at e
  rw [e, cbcM, cbcM, retailL, tdesL, qL_len]
  have e1 : cbcM (desL (K.take 8) false) 8 iv (qpad 8 (qL gt nt)) (nt / 8 + 1) = desL (K.take 8) false (xorL (qL bf2 8) (((seg gt2 (n1 - 8) (8 * 1)).drop (8 * 0)).take 8)) := by
    rw [cbcM, hb, ← hp]
    congr 2
    · rw [seg_0, ← qL_take (show 8 * (nt / 8) ≤ n1 by omega), cbcM_take (Nat.le_refl _)]
    · rw [qL_drop, seg_take (by omega), seg_drop, seg_take (by omega), show n1 - 8 + 8 * 0 = 8 * (nt / 8) by omega, seg_ext]
      intro j hj
      exact (h2.2 _ (by omega)).symm
  rw [e1]
  rfl
abbrev oO (o : Nat → Nat) : va_E := .inr (4, [.ref (o 1), .ref (o 3), .ref (o 5), .ref (o 7), .ref (o 9), .ref (o 11)])
