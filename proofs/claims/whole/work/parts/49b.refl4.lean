/-! seals, secrets -/
theorem enc_stepY {E : Bytes → Bytes} {w c m n : Nat} {iv : Bytes} {wk w' x' y b' : Nat → BitVec 8} (hw : 0 < w) (hn : n = w * m) (hc : c < m) (hr : qSeg w' wk 0 (w * c) (encF E w iv (qL wk n))) (hb : qL b' w = cbcM E w iv (qL wk n) c) (hx : qSeg x' w' (w * c) w (fun j => w' (w * c + j) ^^^ b' j)) (hE : seg y (w * c) w = E (seg x' (w * c) w)) (hf : ∀ j, (j < w * c ∨ w * c + w ≤ j) → y j = x' j) (hEl : Elen E w) : qSeg y wk 0 (w * (c + 1)) (encF E w iv (qL wk n)) ∧ qL (fun j => y (w * c + j)) w = cbcM E w iv (qL wk n) (c + 1) := by
  have q := enc_stepR (b2 := fun j => if j < w then y (w * c + j) else b' j) (e := w) hw hn hc hr hb rfl hx hE hf rfl ⟨fun j hj => by rw [Nat.zero_add]; exact if_pos hj, fun j hj => if_neg (by omega)⟩ hEl
  refine ⟨q.1, ?_⟩
  rw [← q.2, qL_ext]
  intro j hj
  exact (if_pos hj).symm
theorem dec_stepY {D : Bytes → Bytes} {w c m n : Nat} {iv : Bytes} {wk w' y z b' : Nat → BitVec 8} (hw : 0 < w) (hn : n = w * m) (hc : c < m) (hr : qSeg w' wk 0 (w * c) (decF D w iv (qL wk n))) (hb : qL b' w = if c = 0 then iv else seg wk (w * (c - 1)) w) (hE : seg y (w * c) w = D (seg w' (w * c) w)) (hf : ∀ j, (j < w * c ∨ w * c + w ≤ j) → y j = w' j) (hz : qSeg z y (w * c) w (fun j => y (w * c + j) ^^^ b' j)) (hEl : Elen D w) : qSeg z wk 0 (w * (c + 1)) (decF D w iv (qL wk n)) :=
  (dec_stepR (b2 := fun j => if j < w then w' (w * c + j) else b' j) (a' := fun j => w' (w * c + j)) (a0 := fun j => w' (w * c + j)) hw hn hc hr hb rfl ⟨fun j _ => by rw [Nat.zero_add], fun _ _ => rfl⟩ hE hf rfl hz ⟨fun j hj => by rw [Nat.zero_add]; exact if_pos hj, fun j hj => if_neg (by omega)⟩ hEl).1
theorem zero_row {f : Nat → BitVec 8} : qL (fun j => if 0 = 0 then 0#8 else f j) 16 = zeroL 16 := by
  have : (fun j => if 0 = 0 then 0#8 else f j) = fun _ : Nat => 0#8 := by
    funext j
    rw [if_pos rfl]
  rw [this]
  rfl
theorem xor_prev {y' x p : Nat → BitVec 8} {i d : Nat} (h : (d = 16 ∧ i ≠ 0) ∨ (d = 0 ∧ i = 0)) (hd : qSeg y' x (16 * i) d (fun j => x (16 * i + j) ^^^ p (16 * i - 16 + j))) : qSeg y' x (16 * i) 16 (fun j => x (16 * i + j) ^^^ (if i = 0 then 0#8 else p (16 * i - 16 + j))) := by
  rcases h with ⟨e, q⟩ | ⟨e, q⟩
  · subst e
    refine ⟨fun j hj => ?_, hd.2⟩
    rw [hd.1 j hj]
    show _ = x (16 * i + j) ^^^ (if i = 0 then 0#8 else p (16 * i - 16 + j))
    rw [if_neg q]
  · subst e q
    refine ⟨fun j hj => ?_, fun j _ => hd.2 j (by omega)⟩
    rw [hd.2 _ (by omega)]
    show _ = x (16 * 0 + j) ^^^ (if 0 = 0 then 0#8 else p (16 * 0 - 16 + j))
    rw [if_pos rfl, BitVec.xor_zero]
theorem sec_rng {wh : Int32} (h0 : ¬ wh = nI 0) (h1 : ¬ wh = nI 1) (h2 : ¬ wh = nI 2) (h3 : ¬ wh = nI 3) (h4 : ¬ wh = nI 4) (h5 : ¬ wh = nI 5) (h6 : ¬ wh = nI 6) (h : ¬ wh < 0) : nI 6 < wh := by
  rcases q_out (i := wh) (n := 6) (fun k hk => match k, hk with | 0, _ => h0 | 1, _ => h1 | 2, _ => h2 | 3, _ => h3 | 4, _ => h4 | 5, _ => h5 | 6, _ => h6 | k + 7, h => absurd h (by omega)) (by decide) with q | q
  · exact absurd (Int32.lt_iff_toInt_lt.mpr (by simpa using q)) h
  · rw [Int32.lt_iff_toInt_lt, nI_toInt (by decide)]
    exact q
theorem atL_neg {L : Bytes} {j : Int32} (h : j < 0) : atL L j = -1 := by
  rw [atL, if_neg]
  intro q
  have := Int32.lt_iff_toInt_lt.mp h
  simp at this
  omega
theorem sec_neg {E M B S HP CP CH : Bytes} {i j : Int32} (h : j < 0) : secF E M B S HP CP CH i j = -1 := by
  rw [secF, atL_neg h, atL_neg h, atL_neg h, atL_neg h, atL_neg h, atL_neg h, atL_neg h]
  repeat (first | rfl | split)
theorem at_big {L : Bytes} {j : Int32} {m : Nat} (h : nI m ≤ j) (hm : m < 2147483648) (hl : L.length = m) : atL L j = -1 := by
  rw [atL, if_neg]
  intro q
  have := Int32.le_iff_toInt_le.mp h
  rw [nI_toInt (by omega)] at this
  omega
theorem at_seg {g : Nat → BitVec 8} {o n j : Nat} (h : j < n) (hn : n < 2147483648) : atL (seg g o n) (nI j) = qz (g (o + j)) := at_in (g := fun j => g (o + j)) h hn
theorem sec_0 {E M B S HP CP CH : Bytes} {j : Int32} : secF E M B S HP CP CH (nI 0) j = atL E j := by
  rw [secF, if_pos rfl]
theorem sec_1 {E M B S HP CP CH : Bytes} {j : Int32} : secF E M B S HP CP CH (nI 1) j = atL M j := by
  rw [secF, if_neg (by decide), if_pos rfl]
theorem sec_2 {E M B S HP CP CH : Bytes} {j : Int32} : secF E M B S HP CP CH (nI 2) j = atL B j := by
  rw [secF, if_neg (by decide), if_neg (by decide), if_pos rfl]
theorem sec_3 {E M B S HP CP CH : Bytes} {j : Int32} : secF E M B S HP CP CH (nI 3) j = atL S j := by
  rw [secF, if_neg (by decide), if_neg (by decide), if_neg (by decide), if_pos rfl]
theorem sec_4 {E M B S HP CP CH : Bytes} {j : Int32} : secF E M B S HP CP CH (nI 4) j = atL HP j := by
  rw [secF, if_neg (by decide), if_neg (by decide), if_neg (by decide), if_neg (by decide), if_pos rfl]
theorem sec_5 {E M B S HP CP CH : Bytes} {j : Int32} : secF E M B S HP CP CH (nI 5) j = atL CP j := by
  rw [secF, if_neg (by decide), if_neg (by decide), if_neg (by decide), if_neg (by decide), if_neg (by decide), if_pos rfl]
theorem sec_6 {E M B S HP CP CH : Bytes} {j : Int32} : secF E M B S HP CP CH (nI 6) j = atL CH j := by
  rw [secF, if_neg (by decide), if_neg (by decide), if_neg (by decide), if_neg (by decide), if_neg (by decide), if_neg (by decide), if_pos rfl]
