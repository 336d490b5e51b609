/-! the reference's own calls: what their rows need -/
theorem sr_bv {v : Int32} {s : Nat} (hs : s < 32) : (v >>> (nI s &&& 31)).toBitVec = v.toBitVec.sshiftRight s := by
  have h : ∀ s : Fin 32, ((nI s &&& 31).toBitVec.smod 32).toNat = s.val := by decide +kernel
  rw [Int32.toBitVec_shiftRight, BitVec.sshiftRight', h ⟨s, hs⟩]
theorem qlo_sr {v : Int32} {k : Nat} (hk : k < 4) : qlo (v >>> (nI (8 * k) &&& 31)) = qN v.toInt64 k := by
  apply BitVec.eq_of_getLsbD_eq
  intro i hi
  have e : v.toInt64.toBitVec = v.toBitVec.signExtend 64 := rfl
  rw [qlo, sr_bv (by omega), qN, e]
  simp only [BitVec.getLsbD_setWidth, BitVec.getLsbD_sshiftRight, BitVec.getLsbD_ushiftRight, BitVec.getLsbD_signExtend, hi, decide_true, Bool.true_and]
  simp [show i < 32 by omega, show 8 * k + i < 32 by omega, show 8 * k + i < 64 by omega]
theorem put4 {g : Nat → BitVec 8} {n : Nat} {v : Int32} : qL (qU (qU (qU (qU g n (qlo (v >>> (nI 24 &&& 31)))) (n + 1) (qlo (v >>> (nI 16 &&& 31)))) (n + 2) (qlo (v >>> (nI 8 &&& 31)))) (n + 3) (qlo (v >>> (nI 0 &&& 31)))) (n + 4) = qL g n ++ qNum v.toInt64 4 := by
  have e : qNum v.toInt64 4 = [qN v.toInt64 3, qN v.toInt64 2, qN v.toInt64 1, qN v.toInt64 0] := rfl
  rw [e, ← qlo_sr (show 3 < 4 by decide), ← qlo_sr (show 2 < 4 by decide), ← qlo_sr (show 1 < 4 by decide), ← qlo_sr (show 0 < 4 by decide)]
  rw [show n + 4 = n + 3 + 1 from rfl, qL_snoc, show n + 3 = n + 2 + 1 from rfl, qL_snoc, show n + 2 = n + 1 + 1 from rfl, qL_snoc, qL_snoc]
  simp
theorem cut_lt {L : Bytes} {i : Int32} (h : i < 0) : cutR L i = -1 ∧ cutF L i = L := by
  have q : ¬ (0 ≤ i.toInt ∧ i.toInt ≤ L.length) := by
    intro q
    have := Int32.lt_iff_toInt_lt.mp h
    simp at this
    omega
  rw [cutR, cutF, if_neg q, if_neg q]
  exact ⟨rfl, rfl⟩
theorem cut_gt {g : Nat → BitVec 8} {n : Nat} {i : Int32} (hn : n < 2147483648) (h : ¬ i ≤ nI n) : cutR (qL g n) i = -1 ∧ cutF (qL g n) i = qL g n := by
  have q : ¬ (0 ≤ i.toInt ∧ i.toInt ≤ (qL g n).length) := by
    intro q
    rw [qL_len] at q
    apply h
    rw [Int32.le_iff_toInt_le, nI_toInt (by omega)]
    exact q.2
  rw [cutR, cutF, if_neg q, if_neg q]
  exact ⟨rfl, rfl⟩
theorem cut_in {g : Nat → BitVec 8} {n j : Nat} (h : j ≤ n) (hn : n < 2147483648) : cutR (qL g n) (nI j) = nI j ∧ cutF (qL g n) (nI j) = qL g j := by
  rw [cutR, cutF, qL_len, nI_toInt (show j < 2 ^ 31 by omega), if_pos ⟨by omega, by omega⟩, if_pos ⟨by omega, by omega⟩]
  refine ⟨rfl, ?_⟩
  rw [Int.toNat_natCast, qL_take h]
theorem at_in {g : Nat → BitVec 8} {n j : Nat} (h : j < n) (hn : n < 2147483648) : atL (qL g n) (nI j) = qz (g j) := by rw [← qAt_L, qAt_in h (by omega)]
theorem at_lt {g : Nat → BitVec 8} {n : Nat} {i : Int32} (h : i < 0) : atL (qL g n) i = -1 := by rw [← qAt_L, qAt_neg h]
theorem at_gt {g : Nat → BitVec 8} {n : Nat} {i : Int32} (hn : n < 2147483648) (h : nI n ≤ i) : atL (qL g n) i = -1 := by rw [← qAt_L, qAt_big (by omega) h]
theorem alt_rowS {g g1 : Nat → BitVec 8} {n j : Nat} {x : Int32} (h : j < n) (hn : n < 2147483648) (hg : g1 = qU g j (qlo (qs (g j) ^^^ x))) : qL g1 n = altF (qL g n) (nI j) x ∧ qz (g1 j) = altR (qL g n) (nI j) x := by
  refine alt_row h hn ?_
  rw [hg, qlo_xor, qlo_xor, qlo_qs, qlo_qz]
theorem seg_app {α : Type} {g : Nat → α} {o n m : Nat} : seg g o (n + m) = seg g o n ++ seg g (o + n) m := by
  rw [seg, qL_app, seg, seg]
  congr 1
  rw [seg]
  congr 1
  funext j
  rw [Nat.add_assoc]
theorem seg_qL {α : Type} {g : Nat → α} {n o m : Nat} (h : o + m ≤ n) : ((qL g n).take (o + m)).drop o = seg g o m := by
  rw [qL_take h, qL_drop, Nat.add_sub_cancel_left]
theorem cbcM_two {E : Bytes → Bytes} {T : Bytes} (hE : Elen E 8) (hT : 8 ≤ T.length) (h0 : (T.drop 8).take 8 = zeroL 8) : cbcM E 8 (zeroL 8) T 1 = E (T.take 8) ∧ cbcM E 8 (zeroL 8) T 2 = E (E (T.take 8)) := by
  have e1 : cbcM E 8 (zeroL 8) T 1 = E (T.take 8) := by
    rw [cbcM, cbcM, Nat.mul_zero, List.drop_zero, xor_zeroL_l (by simp; omega)]
  refine ⟨e1, ?_⟩
  rw [cbcM, e1, Nat.mul_one, h0]
  congr 1
  have hl := hE (T.take 8)
  apply List.ext_getElem?
  intro j
  simp only [xorL, List.getElem?_zipWith, zeroL, List.getElem?_replicate]
  by_cases q : j < 8
  · rw [if_pos q, List.getElem?_eq_getElem (by omega)]
    simp
  · rw [if_neg q, List.getElem?_eq_none (by omega)]
theorem encF_blocks {E : Bytes → Bytes} {iv T A B : Bytes} (hE : Elen E 8) (hA : cbcM E 8 iv T 1 = A) (hB : cbcM E 8 iv T 2 = B) : qL (encF E 8 iv T) 16 = A ++ B := by
  have lA : A.length = 8 := by rw [← hA]; exact hE _
  have lB : B.length = 8 := by rw [← hB]; exact hE _
  apply List.ext_getElem?
  intro j
  by_cases q : j < 8
  · rw [qL_get (by omega), List.getElem?_append_left (by omega), encF, Nat.div_eq_of_lt q, Nat.mod_eq_of_lt q, Nat.zero_add, hA, List.getD_eq_getElem?_getD, List.getElem?_eq_getElem (by omega)]
    rfl
  · by_cases q2 : j < 16
    · rw [qL_get q2, List.getElem?_append_right (by omega), encF, show j / 8 = 1 by omega, show j % 8 = j - 8 by omega, hB, lA, List.getD_eq_getElem?_getD, List.getElem?_eq_getElem (by omega)]
      rfl
    · rw [List.getElem?_eq_none (by rw [qL_len]; omega), List.getElem?_eq_none (by rw [List.length_append]; omega)]
theorem skeyL_eq {K : Bytes} {c n : Nat} : skeyL K c n = tdesL K false (qNum (nI c).toInt64 2 ++ qNum (nI n).toInt64 2 ++ zeroL 4) ++ tdesL K false (tdesL K false (qNum (nI c).toInt64 2 ++ qNum (nI n).toInt64 2 ++ zeroL 4)) := by
  have hl : (qNum (nI c).toInt64 2 ++ qNum (nI n).toInt64 2).length = 4 := by rw [List.length_append, qNum_len, qNum_len]
  have e1 : (qNum (nI c).toInt64 2 ++ qNum (nI n).toInt64 2 ++ zeroL 12).take 8 = qNum (nI c).toInt64 2 ++ qNum (nI n).toInt64 2 ++ zeroL 4 := by
    rw [List.take_append, hl, List.take_of_length_le (by omega)]
    rfl
  have e2 : ((qNum (nI c).toInt64 2 ++ qNum (nI n).toInt64 2 ++ zeroL 12).drop 8).take 8 = zeroL 8 := by
    rw [List.drop_append, hl, List.drop_eq_nil_of_le (by omega)]
    rfl
  obtain ⟨h1, h2⟩ := cbcM_two (E := tdesL K false) tdes_Elen (T := qNum (nI c).toInt64 2 ++ qNum (nI n).toInt64 2 ++ zeroL 12) (by rw [List.length_append, hl, zeroL, List.length_replicate]; omega) e2
  rw [e1] at h1 h2
  rw [skeyL]
  exact encF_blocks tdes_Elen h1 h2
/-- a copy in a part of a row -/
theorem seg_copy {g' g s : Nat → BitVec 8} {o fr k n : Nat} (h : qSeg g' g o k (fun j => s (fr + j))) (hk : k = n) : seg g' o n = seg s fr n := by
  rw [qSeg_segk h hk]
  rfl
theorem seg_copy0 {g' g s : Nat → BitVec 8} {o k n : Nat} (h : qSeg g' g o k s) (hk : k = n) : seg g' o n = qL s n := qSeg_segk h hk
theorem seg_keep {g' g : Nat → BitVec 8} {o n : Nat} (h : ∀ j, j < n → g' (o + j) = g (o + j)) : seg g' o n = seg g o n := seg_ext.mpr h
theorem made_of {K X : Bytes} {b1 b2 b3 b4 ke' gke : Nat → BitVec 8} {o k kk : Nat} (h1 : seg b2 0 8 = tdesL K false (seg b1 0 8)) (hX : seg b1 0 8 = X) (h0 : ∀ j, 8 ≤ j → j < 16 → b1 j = 0#8) (f1 : ∀ j, (j < 0 ∨ 0 + 8 ≤ j) → b2 j = b1 j) (h2 : qSeg b3 b2 8 k (fun j => b2 (8 + j) ^^^ b2 j)) (hk : k = 8) (h3 : seg b4 8 8 = tdesL K false (seg b3 8 8)) (f3 : ∀ j, (j < 8 ∨ 8 + 8 ≤ j) → b4 j = b3 j) (h4 : qSeg ke' gke o kk b4) (hkk : kk = 16) : seg ke' o 16 = tdesL K false X ++ tdesL K false (tdesL K false X) := by
  subst hX
  have e1 : seg b4 0 8 = seg b2 0 8 := seg_ext.mpr fun j hj => by rw [f3 _ (by omega), h2.2 _ (by omega)]
  have e3 : seg b3 8 8 = seg b2 0 8 := by
    rw [qSeg_segk h2 hk, seg_0, qL_ext]
    intro j hj
    rw [f1 _ (by omega), h0 _ (by omega) (by omega), BitVec.zero_xor]
  rw [seg_copy0 h4 hkk, ← seg_0, show (16 : Nat) = 8 + 8 from rfl, seg_app, Nat.zero_add, h3, e3, e1, h1]
theorem mk_blk {b' gbl gnu : Nat → BitVec 8} {c ct k : Nat} (hs : qSeg b' gbl 0 k (fun _ => 0#8)) (hk : k = 16) (hc : c < 256) (hnum : qL gnu 2 = qNum (nI ct).toInt64 2) : seg (qU (qU (qU (qU b' 0 (BitVec.ofNat 8 1)) 1 (qlo (nI c))) 2 (gnu 0)) 3 (gnu 1)) 0 8 = qNum (nI (256 + c)).toInt64 2 ++ qNum (nI ct).toInt64 2 ++ zeroL 4 ∧ ∀ j, 8 ≤ j → j < 16 → (qU (qU (qU (qU b' 0 (BitVec.ofNat 8 1)) 1 (qlo (nI c))) 2 (gnu 0)) 3 (gnu 1)) j = 0#8 := by
  subst hk
  have hz : ∀ j, j < 16 → b' j = 0#8 := fun j hj => qSeg_at hs hj
  have e : qL gnu 2 = [gnu 0, gnu 1] := rfl
  have e1 : BitVec.ofNat 8 ((256 + c) / 256) = BitVec.ofNat 8 1 := by rw [show (256 + c) / 256 = 1 by omega]
  have e2 : BitVec.ofNat 8 (256 + c) = BitVec.ofNat 8 c := by
    apply BitVec.eq_of_toNat_eq
    simp
  refine ⟨?_, fun j h1 h2 => ?_⟩
  · rw [← hnum, e, qNum_2 (by omega), e1, e2, qlo_nI]
    have q : ∀ g : Nat → BitVec 8, seg g 0 8 = [g 0, g 1, g 2, g 3, g 4, g 5, g 6, g 7] := fun g => by
      simp [seg, qL, List.range_succ]
    rw [q]
    simp [qU, hz, zeroL, List.replicate]
  · rw [qU_ne (by omega), qU_ne (by omega), qU_ne (by omega), qU_ne (by omega)]
    exact hz j h2
theorem seg_2 {g : Nat → BitVec 8} : seg g 0 2 = qL g 2 := seg_0
/-- a byte of h -/
theorem host_b {x : Int64} {k : Nat} (hk : k < 8) : qlo (x >>> ((nI (56 - 8 * k)).toInt64 &&& 63)).toInt32 = qN x (7 - k) := by
  have h : ∀ s : Fin 64, ((nI s).toInt64 &&& 63).toBitVec.smod 64 = BitVec.ofNat 64 s := by decide +kernel
  apply BitVec.eq_of_getLsbD_eq
  intro i hi
  have e : (x >>> ((nI (56 - 8 * k)).toInt64 &&& 63)).toBitVec = x.toBitVec.sshiftRight (56 - 8 * k) := by
    rw [Int64.toBitVec_shiftRight, BitVec.sshiftRight', h ⟨56 - 8 * k, by omega⟩]
    congr 1
    simp
    omega
  have e2 : ∀ y : Int64, (qlo y.toInt32).getLsbD i = y.toBitVec.getLsbD i := fun y => by
    have : y.toInt32.toBitVec = y.toBitVec.signExtend 32 := rfl
    rw [qlo, this]
    simp only [BitVec.getLsbD_setWidth, BitVec.getLsbD_signExtend, hi, show i < 32 by omega, show i < 64 by omega, decide_true, Bool.true_and, if_true]
  rw [e2, e, qN]
  simp only [BitVec.getLsbD_setWidth, BitVec.getLsbD_sshiftRight, BitVec.getLsbD_ushiftRight, hi, decide_true, Bool.true_and]
  rw [show 8 * (7 - k) = 56 - 8 * k by omega]
  simp [show i < 64 by omega, show 56 - 8 * k + i < 64 by omega]
theorem qNum_fn {x : Int64} {cnt : Nat} : qL (fun j => qN x (cnt - 1 - j)) cnt = qNum x cnt := rfl
