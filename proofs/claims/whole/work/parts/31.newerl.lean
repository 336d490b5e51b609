/-! RULE 3's reckonings in the class -/
theorem dt_b (b : BitVec 8) (c : Bool) : (qz b <<< (nI 1 &&& 31) ||| qb c) &&& nI 255 = qz ((b <<< 1) ||| (if c then 1#8 else 0#8)) := by
  have h : ∀ b : BitVec 8, ∀ c : Bool, (qz b <<< (nI 1 &&& 31) ||| qb c) &&& nI 255 = qz ((b <<< 1) ||| (if c then 1#8 else 0#8)) := by decide +kernel
  exact h b c
theorem dt_c (b : BitVec 8) (c : Bool) : (ush (qz b <<< (nI 1 &&& 31) ||| qb c) 8) &&& nI 1 = qb (b.getLsbD 7) := by
  have h : ∀ b : BitVec 8, ∀ c : Bool, (ush (qz b <<< (nI 1 &&& 31) ||| qb c) 8) &&& nI 1 = qb (b.getLsbD 7) := by decide +kernel
  exact h b c
theorem dt_87 (b : BitVec 8) (c : Bool) : qz b ^^^ (qb c * nI 135) = qz (b ^^^ (if c then 0x87#8 else 0#8)) := by
  have h : ∀ b : BitVec 8, ∀ c : Bool, qz b ^^^ (qb c * nI 135) = qz (b ^^^ (if c then 0x87#8 else 0#8)) := by decide +kernel
  exact h b c
theorem dt_step {t' tn : Nat → BitVec 8} {k : Nat} {β : Bool} (hk : k + 1 ≤ 16) (hβ : β = if k + 1 = 16 then false else (tn (k + 1)).getLsbD 7) (h : (∀ j, k + 1 ≤ j → j < 16 → t' j = shF tn j) ∧ ∀ j, j < k + 1 → t' j = tn j) : (∀ j, k ≤ j → j < 16 → qU t' k ((tn k <<< 1) ||| (if β then 1#8 else 0#8)) j = shF tn j) ∧ ∀ j, j < k → qU t' k ((tn k <<< 1) ||| (if β then 1#8 else 0#8)) j = tn j := by
  refine ⟨fun j h1 h2 => ?_, fun j hj => by rw [qU_ne (by omega)]; exact h.2 j (by omega)⟩
  by_cases e : j = k
  · subst e
    rw [qU_same, shF, hβ]
    congr 1
    by_cases q : j + 1 = 16
    · rw [if_pos q, if_neg (show ¬ j < 15 by omega)]
      rfl
    · rw [if_neg q, if_pos (show j < 15 by omega)]
  · rw [qU_ne e]
    exact h.1 j (by omega) h2
theorem dt_end {t' tn : Nat → BitVec 8} {β : Bool} (hβ : β = if 0 = 16 then false else (tn 0).getLsbD 7) (h : ∀ j, j < 16 → t' j = shF tn j) : qL (qU t' 15 (t' 15 ^^^ (if β then 0x87#8 else 0#8))) 16 = shL (qL tn 16) := by
  rw [if_neg (by decide)] at hβ
  rw [shL, qL_ext]
  intro k hk
  rw [← shG_congr (fun j hj => (qL_getD (g := tn) hj).symm) hk, shG]
  by_cases e : k = 15
  · subst e
    rw [qU_same, h _ hk, hβ]
    cases q : (tn 0).getLsbD 7
    · rw [if_neg (by decide), if_neg (by simp), BitVec.xor_zero]
    · rw [if_pos rfl, if_pos ⟨rfl, rfl⟩]
  · rw [qU_ne e, h _ hk, if_neg (fun q => e q.1)]
theorem xor_zeroL {n : Nat} : xorL (zeroL n) (zeroL n) = zeroL n := by
  simp [xorL, zeroL]
/-- the block of 0s, by AES -/
theorem cm_zero {K iv : Bytes} {g1 g t' : Nat → BitVec 8} (hg : qL g 16 = zeroL 16) (hiv : iv = zeroL 16) (h : qSeg g1 g 0 (16 * 1) (encF (aesE K) 16 iv (seg g 0 (16 * 1)))) (ht : seg t' 0 16 = qL g1 16) : qL t' 16 = aesE K (zeroL 16) := by
  subst hiv
  rw [← seg_0, ht, ← seg_0]
  have e := last_blk (by decide) aes_Elen (by decide) h
  rw [Nat.sub_self, Nat.mul_zero, Nat.add_zero] at e
  rw [e, cbcM, cbcM, seg_0, hg, Nat.mul_zero, List.drop_zero, zeroL_take (Nat.le_refl _), xor_zeroL]
theorem cmac_of {K iv T : Bytes} {gt1 m' gx kx : Nat → BitVec 8} {mx k : Nat} (hk : k = 16) (hm : 16 ≤ mx) (h16 : mx % 16 = 0) (h : qSeg m' gx (mx - 16) k (fun j => gx (mx - 16 + j) ^^^ kx j)) (hX : lastX (qL gx mx) (seg kx 0 16) = cmacT K T) (hiv : iv = zeroL 16) (hs : qSeg gt1 m' 0 (16 * (mx / 16)) (encF (aesE K) 16 iv (seg m' 0 (16 * (mx / 16))))) : seg gt1 (mx - 16) 16 = cmacL K T := by
  subst hiv
  have e := last_blk (by decide) aes_Elen (by omega) hs
  rw [Nat.zero_add, show 16 * (mx / 16 - 1) = mx - 16 by omega, seg_0, show 16 * (mx / 16) = mx by omega] at e
  have eT : qL m' mx = cmacT K T := (lastX_seg hk hm h).trans hX
  have eL : (cmacT K T).length = mx := by rw [← eT, qL_len]
  rw [e, cmacL, eL, eT]
/-- KDF, a block more -/
theorem kdf_step {K ov : Bytes} {r' r1 gc : Nat → BitVec 8} {c n b m n1 : Nat} (hb : 16 * b < n) (hm : m = min (16 * b) n) (hc : qL gc 16 = cmacL K (kdfT c n (b + 1) ov)) (hr : qL r' m = (kdfL K c n ov).take m) (hn : n1 = m + (min (n - 16 * b) 16 - 0)) (h : qL r1 n1 = qL r' m ++ ((qL gc 16).take (n - 16 * b)).drop 0) : qL r1 n1 = (kdfL K c n ov).take n1 := by
  have hm2 : m = 16 * b := by omega
  subst hm2
  subst hn
  rw [h, hr, kdfL, qL_take (n := n) (m := 16 * b) (by omega), qL_take (n := n) (m := 16 * b + (min (n - 16 * b) 16 - 0)) (by omega), qL_app, List.drop_zero]
  congr 1
  apply List.ext_getElem?
  intro j
  rw [Nat.sub_zero]
  by_cases q : j < min (n - 16 * b) 16
  · rw [seg, qL_get q, List.getElem?_take, if_pos (by omega), qL_get (by omega), show (16 * b + j) / 16 = b by omega, show (16 * b + j) % 16 = j by omega, ← hc, qL_getD (by omega)]
  · rw [List.getElem?_eq_none (by rw [List.length_take, qL_len]; omega), List.getElem?_eq_none (by rw [seg_len]; omega)]
theorem xor_zeroL_l {n : Nat} : ∀ {L : Bytes}, L.length = n → xorL (zeroL n) L = L := by
  induction n with
  | zero => intro L h; rw [List.length_eq_zero_iff.mp h]; rfl
  | succ n ih =>
    intro L h
    cases L with
    | nil => cases h
    | cons b L =>
      have := ih (L := L) (by simpa using h)
      simp only [xorL, zeroL, List.replicate_succ, List.zipWith_cons_cons, BitVec.zero_xor] at this ⊢
      rw [this]
/-- one block, from 0s -/
theorem enc_one {E : Bytes → Bytes} {w o : Nat} (hw : 0 < w) (hE : Elen E w) {iv L : Bytes} {g2 g : Nat → BitVec 8} (hT : seg g o w = L) (hiv : iv = zeroL w) (h : qSeg g2 g o (w * 1) (encF E w iv (seg g o (w * 1)))) : seg g2 o w = E L := by
  subst hiv
  have e := last_blk hw hE (by decide) h
  rw [Nat.sub_self, Nat.mul_zero, Nat.add_zero] at e
  have hl : L.length = w := by rw [← hT, seg_len]
  rw [e, cbcM, cbcM, Nat.mul_one, hT, Nat.mul_zero, List.drop_zero, List.take_of_length_le (by omega), xor_zeroL_l hl]
theorem enc_all {E : Bytes → Bytes} {w m n1 : Nat} (hn : n1 = w * m) {iv : Bytes} {g2 g : Nat → BitVec 8} (h : qSeg g2 g 0 (w * m) (encF E w iv (seg g 0 (w * m)))) : qL g2 n1 = encL E w iv (qL g n1) := by
  subst hn
  rw [seg_0] at h
  rw [← seg_0, qSeg_seg h, encL, qL_len]
theorem dec_all {E : Bytes → Bytes} {w m n1 : Nat} (hn : n1 = w * m) {iv : Bytes} {g2 g : Nat → BitVec 8} (h : qSeg g2 g 0 (w * m) (decF E w iv (seg g 0 (w * m)))) : qL g2 n1 = decL E w iv (qL g n1) := by
  subst hn
  rw [seg_0] at h
  rw [← seg_0, qSeg_seg h, decL, qL_len]
def secD3 (K : Bytes) (cnt lv : Nat) (C : Bytes) : Bytes := if hidB lv 2 (C.drop 4) then hide3 K cnt 0#8 (C.drop 4) else C.drop 4
def secD2 (K : Bytes) (lv : Nat) (C : Bytes) : Bytes := if hidB lv 2 (C.drop 4) then hide2 K (C.drop 4) else C.drop 4
theorem secD3_of {K C d : Bytes} {cnt lv : Nat} {z : Bool} (hz : z = hidB lv 2 d) (hd : d = C.drop 4) : (z = false → secD3 K cnt lv C = d) ∧ (z = true → secD3 K cnt lv C = hide3 K cnt 0#8 d) := by
  subst hd
  rw [secD3, ← hz]
  exact ⟨fun h => by rw [h]; rfl, fun h => by rw [h]; rfl⟩
theorem secD2_of {K C d : Bytes} {lv : Nat} {z : Bool} (hz : z = hidB lv 2 d) (hd : d = C.drop 4) : (z = false → secD2 K lv C = d) ∧ (z = true → secD2 K lv C = hide2 K d) := by
  subst hd
  rw [secD2, ← hz]
  exact ⟨fun h => by rw [h]; rfl, fun h => by rw [h]; rfl⟩
def open3 (Ke Km : Bytes) (cnt lv : Nat) (ch L : Bytes) : Option (Bytes × Bytes) :=
  if splB L then (if L.drop (L.length - 8) = (chain3 Km ch L (midL L)).take 8 then (if hidB lv 2 (midL L) then show3 Ke cnt 0#8 (midL L) else some (midL L)).bind (fun d => if d.length ≤ 200 then some (joinC L d, chain3 Km ch L (midL L)) else none) else none) else none
def open2 (Ke Km : Bytes) (cnt lv : Nat) (ch L : Bytes) : Option (Bytes × Bytes) :=
  if splB L then (if hidB lv 2 (midL L) then show2 Ke (midL L) else some (midL L)).bind (fun d => if d.length ≤ 200 then (if L.drop (L.length - 8) = (chain2 Km cnt ch (joinC L d)).take 8 then some (joinC L d, chain2 Km cnt ch (joinC L d)) else none) else none) else none
def openA3 (Ke Kb : Bytes) (cnt lv : Nat) (ch L : Bytes) (sw : Nat) : Option Bytes :=
  if 8 ≤ L.length then (if L.drop (L.length - 8) = (ansCode3 Kb ch (L.take (L.length - 8)) sw).take 8 then (if hidB lv 32 (L.take (L.length - 8)) then show3 Ke cnt 0x80#8 (L.take (L.length - 8)) else some (L.take (L.length - 8))) else none) else none
def openA2 (Kb bch C L : Bytes) (sw : Nat) : Option (Bytes × Bytes) :=
  if 8 ≤ L.length then (if L.drop (L.length - 8) = (ansCode2 Kb bch C (L.take (L.length - 8)) sw).take 8 then some (L.take (L.length - 8), ansCode2 Kb bch C (L.take (L.length - 8)) sw) else none) else none
def ansD3 (K : Bytes) (cnt lv : Nat) (d : Bytes) : Bytes := if hidB lv 32 d then hide3 K cnt 0x80#8 d else d
theorem ends_iff {L ch : Bytes} {n m : Nat} {z : Bool} (hn : L.length = n) (h8 : 8 ≤ n) (hm : 8 ≤ m) (h : z = decide (8 ≤ n ∧ 8 ≤ m ∧ L.drop (n - 8) = ch.take 8)) : z = decide (L.drop (L.length - 8) = ch.take 8) := by
  subst hn
  rw [h]
  congr 1
  simp [h8, hm]
theorem splB_len {L : Bytes} (h : splB L = true) : 12 ≤ L.length := (of_decide_eq_true h).1
theorem open3_a {Ke Km ch L : Bytes} {cnt lv : Nat} (h : splB L = false) : open3 Ke Km cnt lv ch L = none := by rw [open3, h]; rfl
theorem open2_a {Ke Km ch L : Bytes} {cnt lv : Nat} (h : splB L = false) : open2 Ke Km cnt lv ch L = none := by rw [open2, h]; rfl
theorem open3_b {Ke Km ch L ch' d : Bytes} {cnt lv : Nat} {z : Bool} (h : splB L = true) (hd : d = midL L) (hc : ch' = chain3 Km ch L d) (hz : z = decide (L.drop (L.length - 8) = ch'.take 8)) : (z = false → open3 Ke Km cnt lv ch L = none) ∧ (z = true → open3 Ke Km cnt lv ch L = (if hidB lv 2 d then show3 Ke cnt 0#8 d else some d).bind (fun d => if d.length ≤ 200 then some (joinC L d, ch') else none)) := by
  subst hd
  subst hc
  rw [open3, h, if_pos rfl]
  constructor
  · intro q
    rw [if_neg (fun e => by rw [decide_eq_true e] at hz; rw [hz] at q; cases q)]
  · intro q
    rw [if_pos (of_decide_eq_true (hz.symm.trans q))]
theorem join_fin {J c : Bytes} {z : Bool} {nd nc1 : Nat} {d : Bytes} {gc1 : Nat → BitVec 8} (hd : d.length = nd) (hz : z = decide (nd ≤ 200)) (hL : z = true → nc1 = nd + 4 ∧ qL gc1 nc1 = J) : (if d.length ≤ 200 then some (J, c) else none) = if z then some (qL gc1 nc1, c) else none := by
  subst hd
  cases z
  · rw [if_neg (fun e => by rw [decide_eq_true e] at hz; cases hz)]
    rfl
  · rw [if_pos (of_decide_eq_true hz.symm), (hL rfl).2]
    rfl
theorem pad_len {w n n1 : Nat} {g g1 : Nat → BitVec 8} (hL : qL g1 n1 = qpad w (qL g n)) (hw : 0 < w) : n1 = (n / w + 1) * w := by
  have := congrArg List.length hL
  rwa [qL_len, qpad_len hw, qL_len] at this
theorem qL_self {L : Bytes} : qL (fun j => L.getD j 0) L.length = L := by
  refine qL_of fun j hj => ?_
  rw [List.getD_eq_getElem?_getD, List.getElem?_eq_getElem hj]
  rfl
def ecbF (E : Bytes → Bytes) (w : Nat) (T : Bytes) (j : Nat) : BitVec 8 := (E ((T.drop (w * (j / w))).take w)).getD (j % w) 0
def ecbL (E : Bytes → Bytes) (w : Nat) (T : Bytes) : Bytes := qL (ecbF E w T) T.length
/-- a block more, each alone -/
theorem ecb_step {E : Bytes → Bytes} {w c n : Nat} (hw : 0 < w) (hE : Elen E w) {r1 r' gp : Nat → BitVec 8} (h9 : w * c + w ≤ n) (h : qSeg r' gp 0 (w * c) (ecbF E w (qL gp n))) (h1 : seg r1 (w * c) w = E (seg gp (w * c) w)) (h2 : ∀ j, (j < w * c ∨ w * c + w ≤ j) → r1 j = r' j) : qSeg r1 gp 0 (w * (c + 1)) (ecbF E w (qL gp n)) := by
  have e : w * (c + 1) = w * c + w := by rw [Nat.mul_add, Nat.mul_one]
  rw [e]
  refine ⟨fun j hj => ?_, fun j hj => ?_⟩
  · rw [Nat.zero_add]
    by_cases q : j < w * c
    · rw [h2 j (Or.inl q)]
      have := h.1 j q
      rwa [Nat.zero_add] at this
    · obtain ⟨k, rfl⟩ : ∃ k, j = w * c + k := ⟨j - w * c, by omega⟩
      have hk : k < w := by omega
      rw [ecbF, Nat.mul_add_div hw, Nat.div_eq_of_lt hk, Nat.add_zero, Nat.mul_add_mod, Nat.mod_eq_of_lt hk, qL_drop, seg_take (by omega), ← h1, seg_getD hk]
  · rw [h2 j (by omega), h.2 j (by omega)]
theorem cbc1_enc {E : Bytes → Bytes} {w o : Nat} (hw : 0 < w) (hE : Elen E w) {iv : Bytes} {g2 g : Nat → BitVec 8} (hiv : iv = zeroL w) (h : qSeg g2 g o (w * 1) (encF E w iv (seg g o (w * 1)))) : seg g2 o w = E (seg g o w) ∧ ∀ j, (j < o ∨ o + w ≤ j) → g2 j = g j :=
  ⟨enc_one hw hE rfl hiv h, fun j hj => h.2 j (by omega)⟩
theorem cbc1_dec {E : Bytes → Bytes} {w o : Nat} (hE : Elen E w) {iv : Bytes} {g2 g : Nat → BitVec 8} (hiv : iv = zeroL w) (h : qSeg g2 g o (w * 1) (decF E w iv (seg g o (w * 1)))) : seg g2 o w = E (seg g o w) ∧ ∀ j, (j < o ∨ o + w ≤ j) → g2 j = g j := by
  subst hiv
  refine ⟨?_, fun j hj => h.2 j (by omega)⟩
  rw [Nat.mul_one] at h
  rw [qSeg_seg h]
  have hl := hE (seg g o w)
  have e : qL (fun j => (E (seg g o w)).getD j 0) w = E (seg g o w) := by
    have := qL_self (L := E (seg g o w))
    rwa [hl] at this
  rw [← e, qL_ext]
  intro j hj
  rw [decF, Nat.div_eq_of_lt hj, Nat.mul_zero, List.drop_zero, Nat.mod_eq_of_lt hj, if_pos hj, List.take_of_length_le (by rw [seg_len]; omega)]
  simp [zeroL, hj]
