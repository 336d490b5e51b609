/-! the reference's commands and answers: what their rows need -/
theorem qlo_headS (b : BitVec 8) : qlo (qs b &&& nI 252 ||| nI 4) = b &&& 0xFC#8 ||| 4#8 := by
  have h : ∀ b : BitVec 8, qlo (qs b &&& nI 252 ||| nI 4) = b &&& 0xFC#8 ||| 4#8 := by decide +kernel
  exact h b
theorem qlo_m8S (b : BitVec 8) : qlo (qs b &&& nI 248) = b &&& 0xF8#8 := by
  have h : ∀ b : BitVec 8, qlo (qs b &&& nI 248) = b &&& 0xF8#8 := by decide +kernel
  exact h b
theorem qlo_or4S (b : BitVec 8) : qlo (qs b ||| nI 4) = b ||| 4#8 := by
  have h : ∀ b : BitVec 8, qlo (qs b ||| nI 4) = b ||| 4#8 := by decide +kernel
  exact h b
theorem qlo_m5S (b : BitVec 8) : qlo (qs b &&& (-5)) = b &&& 0xFB#8 := by
  have h : ∀ b : BitVec 8, qlo (qs b &&& (-5)) = b &&& 0xFB#8 := by decide +kernel
  exact h b
theorem seg_4 {g : Nat → BitVec 8} : (seg g 0 4).getD 0 0 = g 0 ∧ ((seg g 0 4).take 4).drop 1 = seg g 1 3 := by
  refine ⟨by rw [seg_getD (by decide)], ?_⟩
  rw [seg_take (by decide), seg_drop]
theorem head_ref {g gm : Nat → BitVec 8} {n : Nat} {L : Bytes} (h : L = [qlo (qs (g 0) &&& nI 252 ||| nI 4)] ++ seg g 1 3 ++ [BitVec.ofNat 8 (n + 8)]) : L = headL (seg g 0 4) n := by
  rw [h, qlo_headS, headL, seg_4.1, seg_4.2]
  rfl
theorem headL_4 {C : Bytes} {n : Nat} (h : 4 ≤ C.length) : headL (C.take 4) n = headL C n := by
  rw [headL, headL, List.take_take, Nat.min_self]
  congr 3
  rw [List.getD_eq_getElem?_getD, List.getD_eq_getElem?_getD, List.getElem?_take, if_pos (by decide)]
/-- a block chained forth: first turned, then hidden, then kept -/
theorem enc_stepR {E : Bytes → Bytes} {w c m n d e : Nat} {iv : Bytes} {wk w' x' y b' b2 : Nat → BitVec 8} (hw : 0 < w) (hn : n = w * m) (hc : c < m) (hr : qSeg w' wk 0 (w * c) (encF E w iv (qL wk n))) (hb : qL b' w = cbcM E w iv (qL wk n) c) (hd : d = w) (hx : qSeg x' w' (w * c) d (fun j => w' (w * c + j) ^^^ b' j)) (hE : seg y (w * c) w = E (seg x' (w * c) w)) (hf : ∀ j, (j < w * c ∨ w * c + w ≤ j) → y j = x' j) (he : e = w) (hk : qSeg b2 b' 0 e (fun j => y (w * c + j))) (hEl : Elen E w) : qSeg y wk 0 (w * (c + 1)) (encF E w iv (qL wk n)) ∧ qL b2 w = cbcM E w iv (qL wk n) (c + 1) := by
  subst hd
  have he2 := he.symm
  subst he2
  have ew : d * (c + 1) = d * c + d := by rw [Nat.mul_add, Nat.mul_one]
  have hle : d * c + d ≤ n := by rw [hn, ← ew]; exact Nat.mul_le_mul_left _ hc
  have hY : seg y (d * c) d = cbcM E d iv (qL wk n) (c + 1) := by
    rw [hE, qSeg_seg hx, cbcM, ← hb, qL_drop, seg_take (by omega), seg, xorL_qL]
    congr 1
    rw [qL_ext]
    intro j hj
    rw [hr.2 _ (by omega), BitVec.xor_comm]
  refine ⟨?_, ?_⟩
  · rw [ew]
    refine ⟨fun j hj => ?_, fun j hj => ?_⟩
    · rw [Nat.zero_add]
      by_cases q : j < d * c
      · rw [hf _ (Or.inl q), hx.2 _ (Or.inl q)]
        have := hr.1 j q
        rwa [Nat.zero_add] at this
      · obtain ⟨k, rfl⟩ : ∃ k, j = d * c + k := ⟨j - d * c, by omega⟩
        have hk9 : k < d := by omega
        rw [encF, Nat.mul_add_div hw, Nat.div_eq_of_lt hk9, Nat.add_zero, Nat.mul_add_mod, Nat.mod_eq_of_lt hk9, ← hY, seg_getD hk9]
    · rw [hf _ (by omega), hx.2 _ (by omega), hr.2 _ (by omega)]
  · rw [← hY, ← seg_0, qSeg_seg hk]
    rfl
/-- a block chained back -/
theorem dec_stepR {D : Bytes → Bytes} {w c m n d e : Nat} {iv : Bytes} {wk w' y z b' b2 a' a0 : Nat → BitVec 8} (hw : 0 < w) (hn : n = w * m) (hc : c < m) (hr : qSeg w' wk 0 (w * c) (decF D w iv (qL wk n))) (hb : qL b' w = if c = 0 then iv else seg wk (w * (c - 1)) w) (hd : d = w) (ha : qSeg a' a0 0 d (fun j => w' (w * c + j))) (hE : seg y (w * c) w = D (seg w' (w * c) w)) (hf : ∀ j, (j < w * c ∨ w * c + w ≤ j) → y j = w' j) (he : e = w) (hz : qSeg z y (w * c) e (fun j => y (w * c + j) ^^^ b' j)) (hk : qSeg b2 b' 0 e a') (hEl : Elen D w) : qSeg z wk 0 (w * (c + 1)) (decF D w iv (qL wk n)) ∧ qL b2 w = if c + 1 = 0 then iv else seg wk (w * (c + 1 - 1)) w := by
  subst hd
  have he2 := he.symm
  subst he2
  have ew : d * (c + 1) = d * c + d := by rw [Nat.mul_add, Nat.mul_one]
  have hle : d * c + d ≤ n := by rw [hn, ← ew]; exact Nat.mul_le_mul_left _ hc
  have hA : qL a' d = seg wk (d * c) d := by
    rw [← seg_0, qSeg_seg ha, seg, qL_ext]
    intro j hj
    exact hr.2 _ (by omega)
  refine ⟨?_, ?_⟩
  · rw [ew]
    refine ⟨fun j hj => ?_, fun j hj => ?_⟩
    · rw [Nat.zero_add]
      by_cases q : j < d * c
      · rw [hz.2 _ (Or.inl q), hf _ (Or.inl q)]
        have := hr.1 j q
        rwa [Nat.zero_add] at this
      · obtain ⟨k, rfl⟩ : ∃ k, j = d * c + k := ⟨j - d * c, by omega⟩
        have hk9 : k < d := by omega
        rw [hz.1 k hk9, decF, Nat.mul_add_div hw, Nat.div_eq_of_lt hk9, Nat.add_zero, Nat.mul_add_mod, Nat.mod_eq_of_lt hk9, qL_drop, seg_take (by omega)]
        have e1 : seg w' (d * c) d = seg wk (d * c) d := seg_ext.mpr fun j hj => hr.2 _ (by omega)
        rw [← e1, ← hE, seg_getD hk9]
        show y (d * c + k) ^^^ b' k = _
        congr 1
        have e2 : b' k = (qL b' d).getD k 0 := (qL_getD hk9).symm
        rw [e2, hb]
        by_cases q0 : c = 0
        · subst q0
          rw [if_pos rfl, if_pos (by omega), Nat.mul_zero, Nat.zero_add]
        · have e3 : d * c = d * (c - 1) + d := by
            obtain ⟨c', rfl⟩ : ∃ c', c = c' + 1 := ⟨c - 1, by omega⟩
            rw [Nat.mul_add, Nat.mul_one, Nat.add_sub_cancel]
          rw [if_neg q0, if_neg (by omega), seg_getD hk9, qL_getD (by omega)]
          congr 1
          omega
    · rw [hz.2 _ (by omega), hf _ (by omega), hr.2 _ (by omega)]
  · rw [if_neg (by omega), Nat.add_sub_cancel, ← seg_0, qSeg_seg hk, hA]
theorem cnt_bytes {b' b0 : Nat → BitVec 8} {cnt : Nat} (hc : cnt < 2147483648) (h : ∀ j, j < 16 → b' j = BitVec.ofNat 8 (cnt / 2 ^ (8 * (15 - j)))) : qL b' 16 = [0#8] ++ zeroL 7 ++ qNum (nI cnt).toInt64 8 ∧ qL (qU b' 0 (BitVec.ofNat 8 128)) 16 = [0x80#8] ++ zeroL 7 ++ qNum (nI cnt).toInt64 8 := by
  have hz : ∀ j, j < 8 → b' j = 0#8 := fun j hj => by
    have e : cnt / 2 ^ (8 * (15 - j)) = 0 := Nat.div_eq_of_lt (Nat.lt_of_lt_of_le hc (Nat.le_trans (by decide) (Nat.pow_le_pow_right (n := 2) (i := 64) (by decide) (by omega))))
    rw [h j (by omega), e]
  have hn : qNum (nI cnt).toInt64 8 = seg b' 8 8 := by
    rw [qNum, seg, qL]
    apply List.map_congr_left
    intro j hj
    have hj := List.mem_range.mp hj
    rw [qN_nI hc, h _ (by omega), show 15 - (8 + j) = 8 - 1 - j by omega]
  have q : ∀ g : Nat → BitVec 8, qL g 16 = [g 0] ++ [g 1, g 2, g 3, g 4, g 5, g 6, g 7] ++ seg g 8 8 := fun g => by
    rw [← seg_0, show (16 : Nat) = 8 + 8 from rfl, seg_app, Nat.zero_add]
    congr 1
  rw [hn, q, q]
  have e8 : seg (qU b' 0 (BitVec.ofNat 8 128)) 8 8 = seg b' 8 8 := seg_keep fun j hj => qU_ne (by omega)
  rw [e8, qU_same]
  simp [qU, hz, zeroL, List.replicate]
theorem qunp_R {g : Nat → BitVec 8} {n : Nat} : ∀ {c : Nat}, c ≤ n → (∀ j, c ≤ j → j < n → g j = 0#8) → 0 < c → ¬ g (c - 1) = 0#8 → qnz g (n - 1) = c - 1 := by
  intro c hc hz h0 hg
  have : ∀ t, t ≤ n → c ≤ t → qnz g (t - 1) = c - 1 := by
    intro t
    induction t with
    | zero => intro _ q; omega
    | succ t ih =>
      intro h1 h2
      by_cases q : c = t + 1
      · subst q
        exact qnz_stop hg
      · rw [qnz_step (by omega) (hz _ (by omega) (by omega)), show t + 1 - 1 - 1 = t - 1 by omega]
        exact ih (by omega) (by omega)
  exact this n (Nat.le_refl _) hc
theorem qnz_all0 {g : Nat → BitVec 8} {n : Nat} (h : ∀ j, j < n → g j = 0#8) : qnz g (n - 1) = 0 := by
  have : ∀ t, t < n → qnz g t = 0 := by
    intro t
    induction t with
    | zero => intro _; rfl
    | succ t ih =>
      intro q
      rw [qnz_step (by omega) (h _ q)]
      exact ih (by omega)
  by_cases q : n = 0
  · subst q; rfl
  · exact this _ (by omega)
/-- UNPADDED, found from behind -/
theorem qunp_none0 {g : Nat → BitVec 8} {n : Nat} (hn : 0 < n) (h : ∀ j, j < n → g j = 0#8) : qunp (qL g n) = none := by
  rw [qunp_qL hn, qnz_all0 h, if_neg (by omega)]
theorem qunp_none {g : Nat → BitVec 8} {n c : Nat} (hc : c < n) (hz : ∀ j, c + 1 ≤ j → j < n → g j = 0#8) (hg : ¬ g c = 0#8) (h : ¬ (1 ≤ c ∧ g c = 0x80#8)) : qunp (qL g n) = none := by
  rw [qunp_qL (by omega), qunp_R (c := c + 1) (by omega) hz (by omega) hg, Nat.add_sub_cancel, if_neg h]
theorem qunp_some {g : Nat → BitVec 8} {n c : Nat} (hc : c < n) (hz : ∀ j, c + 1 ≤ j → j < n → g j = 0#8) (hg : ¬ g c = 0#8) (h : 1 ≤ c ∧ g c = 0x80#8) : qunp (qL g n) = some (qL g c) := by
  rw [qunp_qL (by omega), qunp_R (c := c + 1) (by omega) hz (by omega) hg, Nat.add_sub_cancel, if_pos h]
theorem qs_80 {b : BitVec 8} : qs b = -128 ↔ b = 0x80#8 := by
  have h : ∀ b : BitVec 8, qs b = -128 ↔ b = 0x80#8 := by decide +kernel
  exact h b
theorem qs_0 {b : BitVec 8} : qs b = 0 ↔ b = 0#8 := by
  have h : ∀ b : BitVec 8, qs b = 0 ↔ b = 0#8 := by decide +kernel
  exact h b
theorem qs_84 {b : BitVec 8} : qs b = -124 ↔ b = 0x84#8 := by
  have h : ∀ b : BitVec 8, qs b = -124 ↔ b = 0x84#8 := by decide +kernel
  exact h b
theorem qs_82 {b : BitVec 8} : qs b = -126 ↔ b = 0x82#8 := by
  have h : ∀ b : BitVec 8, qs b = -126 ↔ b = 0x82#8 := by decide +kernel
  exact h b
theorem qlo_84 : qlo (-124) = 0x84#8 := by decide +kernel
theorem qlo_82 : qlo (-126) = 0x82#8 := by decide +kernel
theorem qlo_80 : qlo (-128) = 0x80#8 := by decide +kernel
theorem qSeg_le {α : Type} {g' g : Nat → α} {o k m : Nat} {F : Nat → α} (h : qSeg g' g o k F) (hm : m ≤ k) : qSeg g' g' o m F := ⟨fun j hj => h.1 j (by omega), fun _ _ => rfl⟩
theorem prv_line {p' gli gth : Nat → BitVec 8} {l k : Nat} (hs : qSeg p' (qU (qU (qU (qU gli 0 (qlo (-124))) 1 (qlo (-126))) 2 (qlo (nI l))) 3 (BitVec.ofNat 8 0)) 4 k gth) (hk : k = 8) : seg p' 0 12 = prvC l (seg gth 0 8) := by
  have q : ∀ g : Nat → BitVec 8, seg g 0 4 = [g 0, g 1, g 2, g 3] := fun g => by simp [seg, qL, List.range_succ]
  rw [show (12 : Nat) = 4 + 8 from rfl, seg_app, Nat.zero_add, seg_copy0 hs hk, ← seg_0, prvC, q, hs.2 0 (by omega), hs.2 1 (by omega), hs.2 2 (by omega), hs.2 3 (by omega), qlo_84, qlo_82, qlo_nI]
  simp [qU]
theorem prv_head {p' : Nat → BitVec 8} {l : Nat} {cp : Bytes} (h : seg p' 0 12 = prvC l cp) : headL (seg p' 0 4) 8 ++ seg p' 4 8 = headL (prvC l cp) ((prvC l cp).length - 4) ++ (prvC l cp).drop 4 := by
  have hl : (prvC l cp).length = 12 := by rw [← h, seg_len]
  have e1 : seg p' 0 4 = (prvC l cp).take 4 := by rw [← h, seg_take (by decide)]
  have e2 : seg p' 4 8 = (prvC l cp).drop 4 := by rw [← h, seg_drop]
  rw [e1, e2, headL_4 (by omega), hl]
