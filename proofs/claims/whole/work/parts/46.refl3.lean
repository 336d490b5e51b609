/-! the reference's commands and answers: what is told of lines -/
theorem put_ref {g : Nat → BitVec 8} {D code L C : Bytes} {n : Nat} (hC : qL g n = C) (hn : 4 ≤ n) (h : L = [qlo (qs (g 0) ||| nI 4)] ++ seg g 1 3 ++ D ++ code) (h8 : code.length = 8) : L = putC C D code := by
  subst hC
  rw [h, putC, qlo_or4S, qL_getD (by omega), qL_take (by omega), qL_drop, List.take_of_length_le (show code.length ≤ 8 by omega)]
theorem join_ref {g : Nat → BitVec 8} {D L : Bytes} {n : Nat} (hn : 4 ≤ n) (h : L = [qlo (qs (g 0) &&& (-5))] ++ seg g 1 3 ++ D) : L = joinC (qL g n) D := by
  rw [h, joinC, qlo_m5S, qL_getD (by omega), qL_take (by omega), qL_drop]
theorem seg_1 {g : Nat → BitVec 8} {o : Nat} : seg g o 1 = [g o] := rfl
/-- three bytes behind the first, put one after the other -/
theorem seg_123 {g' g : Nat → BitVec 8} (s : Nat → BitVec 8) {k : Nat} {b : BitVec 8} (h : ∀ j, 1 ≤ j → j < k → g' j = s j) (h0 : g' 0 = b) (hk : k = 4) : seg g' 0 4 = [b] ++ seg s 1 3 := by
  subst hk
  rw [show (4 : Nat) = 1 + 3 from rfl, seg_app, seg_1, h0, Nat.zero_add]
  congr 1
  rw [seg_ext]
  exact fun j hj => h (1 + j) (by omega) (by omega)
theorem head_qL {g : Nat → BitVec 8} {n m : Nat} (h : 4 ≤ n) : headL (seg g 0 4) m = headL (qL g n) m := by
  rw [seg_0, ← qL_take h, headL_4 (by rw [qL_len]; exact h)]
theorem drop4_seg {g : Nat → BitVec 8} {n : Nat} : (qL g n).drop 4 = seg g 4 (n - 4) := qL_drop
theorem chain2_ref {K ch C : Bytes} {cnt : Nat} (h : cnt ≠ 0) : chain2 K cnt ch C = retailL K (desL (K.take 8) false (ch.take 8)) (headL C (C.length - 4) ++ C.drop 4) := by rw [chain2, if_neg h]
theorem hidB_t {lv mk : Nat} {d : Bytes} (h : 0 < lv &&& mk) (hd : 0 < d.length) : hidB lv mk d = true := decide_eq_true ⟨by omega, hd⟩
theorem hidB_f {lv mk : Nat} {d : Bytes} (h : ¬ (0 < lv &&& mk ∧ 0 < d.length)) : hidB lv mk d = false := decide_eq_false (fun q => h ⟨by omega, q.2⟩)
theorem mid_seg {g : Nat → BitVec 8} {n : Nat} (h : 12 ≤ n) : midL (qL g n) = seg g 4 (n - 12) := by
  rw [midL, qL_len, qL_take (by omega), qL_drop, show n - 8 - 4 = n - 12 by omega]
theorem end_seg {g : Nat → BitVec 8} {n : Nat} (h : 8 ≤ n) : (qL g n).drop ((qL g n).length - 8) = seg g (n - 8) 8 := by
  rw [qL_len, qL_drop, show n - (n - 8) = 8 by omega]
theorem ansC_seg {g : Nat → BitVec 8} {o m : Nat} (h : 4 ≤ m) : (seg g o m).getD 0 0 = g o ∧ ((seg g o m).take 4).drop 1 = seg g (o + 1) 3 ∧ (seg g o m).drop 4 = seg g (o + 4) (m - 4) := by
  refine ⟨by rw [seg_getD (by omega), Nat.add_zero], ?_, seg_drop⟩
  rw [seg_take h, seg_drop]
theorem sw_2 {sw : Nat} (h : sw < 65536) : [BitVec.ofNat 8 (sw / 256 % 256)] ++ [BitVec.ofNat 8 (sw % 256)] = qNum (nI sw).toInt64 2 := by
  rw [qNum_2 (by omega), ofNat8_mod, ofNat8_mod]
  rfl
theorem seg_sub {g : Nat → BitVec 8} {o : Nat} : seg g o 8 = (seg g o 16).take 8 := (seg_take (by decide)).symm
/-- hiding, as it is laid: the text's length -/
theorem hide2_len {K d : Bytes} : (hide2 K d).length = (d.length / 8 + 1) * 8 := by rw [hide2, encL_len, qpad_len (by decide)]
theorem hide3_len {K d : Bytes} {cnt : Nat} {m : BitVec 8} : (hide3 K cnt m d).length = (d.length / 16 + 1) * 16 := by rw [hide3, encL_len, qpad_len (by decide)]
theorem open3_x {Ke Km ch L : Bytes} {cnt lv : Nat} {code : Bytes} (h : splB L = true) (hc : chain3 Km ch L (midL L) = code) (he : ¬ L.drop (L.length - 8) = code.take 8) : open3 Ke Km cnt lv ch L = none := by
  rw [open3, h, if_pos rfl, hc, if_neg he]
theorem open3_y {Ke Km ch L : Bytes} {cnt lv : Nat} {code : Bytes} (h : splB L = true) (hc : chain3 Km ch L (midL L) = code) (he : L.drop (L.length - 8) = code.take 8) : open3 Ke Km cnt lv ch L = (if hidB lv 2 (midL L) then show3 Ke cnt 0#8 (midL L) else some (midL L)).bind (fun d => if d.length ≤ 200 then some (joinC L d, code) else none) := by
  rw [open3, h, if_pos rfl, hc, if_pos he]
theorem open2_y {Ke Km ch L : Bytes} {cnt lv : Nat} (h : splB L = true) : open2 Ke Km cnt lv ch L = (if hidB lv 2 (midL L) then show2 Ke (midL L) else some (midL L)).bind (fun d => if d.length ≤ 200 then (if L.drop (L.length - 8) = (chain2 Km cnt ch (joinC L d)).take 8 then some (joinC L d, chain2 Km cnt ch (joinC L d)) else none) else none) := by
  rw [open2, h, if_pos rfl]
theorem joinC_len {L d : Bytes} (h : 4 ≤ L.length) : (joinC L d).length = d.length + 4 := by
  simp [joinC]
  omega
theorem joinC_drop {L d : Bytes} (h : 4 ≤ L.length) : (joinC L d).drop 4 = d := by
  have e : ([L.getD 0 0 &&& 0xFB#8] ++ (L.take 4).drop 1).length = 4 := by simp; omega
  rw [joinC, List.drop_append, e, List.drop_eq_nil_of_le (by omega), Nat.sub_self, List.drop_zero, List.nil_append]
theorem joinC_head {L d : Bytes} {m : Nat} (h : 4 ≤ L.length) : headL (joinC L d) m = headL L m := by
  have e : ([L.getD 0 0 &&& 0xFB#8] ++ (L.take 4).drop 1).length = 4 := by simp; omega
  have e1 : (joinC L d).take 4 = [L.getD 0 0 &&& 0xFB#8] ++ (L.take 4).drop 1 := by
    rw [joinC, List.take_append, e, List.take_of_length_le (by omega), Nat.sub_self, List.take_zero, List.append_nil]
  have e0 : (joinC L d).getD 0 0 = L.getD 0 0 &&& 0xFB#8 := rfl
  have eb : ∀ b : BitVec 8, (b &&& 0xFB#8) &&& 0xFC#8 ||| 4#8 = b &&& 0xFC#8 ||| 4#8 := by decide +kernel
  rw [headL, headL, e1, e0, eb]
  rfl
/-- the MAC of the plain command that a line had, out of the line's own head -/
theorem chain2_join {K ch L d : Bytes} {cnt : Nat} (h : 4 ≤ L.length) (hc : cnt ≠ 0) : chain2 K cnt ch (joinC L d) = retailL K (desL (K.take 8) false (ch.take 8)) (headL L d.length ++ d) := by
  rw [chain2_ref hc, joinC_len h, joinC_drop h, joinC_head h, Nat.add_sub_cancel]
theorem nI_nm1 {m : Nat} (h : m < 2147483648) : ¬ nI m = -1 := by
  intro e
  have := congrArg Int32.toInt e
  rw [nI_toInt (by omega)] at this
  simp at this
theorem qs_bit4 (b : BitVec 8) : qs b &&& nI 4 = nI (b.toNat &&& 4) := by
  have h : ∀ b : BitVec 8, qs b &&& nI 4 = nI (b.toNat &&& 4) := by decide +kernel
  exact h b
theorem prov_yes {gli gth : Nat → BitVec 8} {n : Nat} {nw : Bool} (h : n = 20) (q0 : gli 0 = 0x84#8) (q1 : gli 1 = 0x82#8) (q2 : levB (qz (gli 2)) nw = true) (q3 : gli 3 = 0#8) (q4 : ∀ j, j < 8 → gli (4 + j) = gth (8 + j)) : provB (qL gli n) (seg gth 8 8) nw = true := by
  subst h
  refine decide_eq_true ?_
  rw [qL_len, qL_getD (by decide), qL_getD (by decide), qL_getD (by decide), qL_getD (by decide), qL_drop, seg_take (by decide), seg_ext]
  exact ⟨rfl, q0, q1, q2, q3, q4⟩
theorem spl_prov {gli : Nat → BitVec 8} {n : Nat} (h : n = 20) (q0 : gli 0 = 0x84#8) : splB (qL gli n) = true := by
  rw [splB_of (by omega), q0]
  exact decide_eq_true ⟨by omega, by decide⟩
theorem aesD_Elen {K : Bytes} : Elen (aesD K) 16 := fun _ => qL_len
