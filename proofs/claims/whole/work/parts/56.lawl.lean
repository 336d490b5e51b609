/-! what class and reference have in common, over lists -/
theorem len_eq {g g' : Nat → BitVec 8} {n m : Nat} (h : qL g n = qL g' m) : n = m := by
  have := congrArg List.length h
  rwa [qL_len, qL_len] at this
theorem len_sg {g g' : Nat → BitVec 8} {n o m : Nat} (h : qL g n = seg g' o m) : n = m := len_eq h
def wdQ (r : Nat) : Nat := if r = 2 then 6 else 8
/-- keys that a side was told -/
def keyI (ru ln : Nat) (E M S : Bytes) (rru rle : Nat) (rE rM rS : Bytes) : Prop :=
  ru = rru ∧ ln = rle ∧ ((ru = 0 ∧ ln = 0) ∨ (((ru = 2 ∧ ln = 16) ∨ (ru = 3 ∧ (ln = 16 ∨ ln = 24 ∨ ln = 32))) ∧ E = rE ∧ M = rM ∧ S = rS))
def lnI (E M B S P C Q Z : Bytes) : Prop := E.length ≤ 32 ∧ M.length ≤ 32 ∧ B.length ≤ 32 ∧ S.length ≤ 32 ∧ P.length ≤ 8 ∧ C.length ≤ 8 ∧ Q.length ≤ 8 ∧ Z.length ≤ 204
/-- a side's session, as far as it can be seen -/
def sesI (ru ln st lv cnt : Nat) (cm : Bool) (E M B S P C Q X Y Z : Bytes) (rse rlv rcn : Nat) (rha : Bool) (rE rM rB rS rP rC rQ rX rY rZ : Bytes) (t : Nat) : Prop :=
  (st = rse ∧ st ≤ 2 ∧ lv = (if st = 2 then rlv else 0) ∧ lv < 256 ∧ lnI E M B S P C Q Z ∧ rlv < 256) ∧
  (st ≠ 0 → ru ≠ 0 ∧ E = rE ∧ M = rM ∧ B = rB ∧ S = rS ∧ P = rP ∧ C = rC ∧ Q = rQ) ∧
  (st = 1 → cnt = 0 ∧ cm = false ∧ X = zeroL 16) ∧
  (st = 2 → cnt = rcn ∧ cnt ≤ t ∧ cm = rha ∧ Y = rY ∧ X = (if ru = 2 then rX.take 8 else rX) ∧ (cm = true → Z = rZ ∧ 4 ≤ Z.length))
theorem ses_mono {ru ln st lv cnt : Nat} {cm : Bool} {E M B S P C Q X Y Z : Bytes} {rse rlv rcn : Nat} {rha : Bool} {rE rM rB rS rP rC rQ rX rY rZ : Bytes} {t : Nat} (h : sesI ru ln st lv cnt cm E M B S P C Q X Y Z rse rlv rcn rha rE rM rB rS rP rC rQ rX rY rZ t) : sesI ru ln st lv cnt cm E M B S P C Q X Y Z rse rlv rcn rha rE rM rB rS rP rC rQ rX rY rZ (t + 1) := by
  obtain ⟨h1, h2, h3, h4⟩ := h
  refine ⟨h1, h2, h3, fun q => ?_⟩
  obtain ⟨a, b, c⟩ := h4 q
  exact ⟨a, by omega, c⟩
/-- no session -/
theorem ses_none {ru ln cnt : Nat} {cm : Bool} {E M B S P C Q X Y Z : Bytes} {rse rlv rcn : Nat} {rha : Bool} {rE rM rB rS rP rC rQ rX rY rZ : Bytes} {t : Nat} (hl : lnI E M B S P C Q Z ∧ rlv < 256) (h0 : rse = 0) : sesI ru ln 0 0 cnt cm E M B S P C Q X Y Z rse rlv rcn rha rE rM rB rS rP rC rQ rX rY rZ t := by
  subst h0
  exact ⟨⟨rfl, by decide, rfl, by decide, hl⟩, fun q => absurd rfl q, (fun q => by cases q), fun q => by cases q⟩
theorem ses_ln {ru ln st lv cnt : Nat} {cm : Bool} {E M B S P C Q X Y Z : Bytes} {rse rlv rcn : Nat} {rha : Bool} {rE rM rB rS rP rC rQ rX rY rZ : Bytes} {t : Nat} (h : sesI ru ln st lv cnt cm E M B S P C Q X Y Z rse rlv rcn rha rE rM rB rS rP rC rQ rX rY rZ t) : lnI E M B S P C Q Z ∧ rlv < 256 := h.1.2.2.2.2
/-- a session that has just begun -/
theorem ses_begun {ru ln : Nat} {E M B S P C Q X Y Z : Bytes} {rse rlv rcn : Nat} {rha : Bool} {rE rM rB rS rP rC rQ rX rY rZ : Bytes} {t : Nat} (hl : lnI E M B S P C Q Z ∧ rlv < 256) (hr : ru ≠ 0) (h1 : rse = 1) (hE : E = rE) (hM : M = rM) (hB : B = rB) (hS : S = rS) (hP : P = rP) (hC : C = rC) (hQ : Q = rQ) (hX : X = zeroL 16) : sesI ru ln 1 0 0 false E M B S P C Q X Y Z rse rlv rcn rha rE rM rB rS rP rC rQ rX rY rZ t := by
  subst h1
  exact ⟨⟨rfl, by decide, rfl, by decide, hl⟩, fun _ => ⟨hr, hE, hM, hB, hS, hP, hC, hQ⟩, fun _ => ⟨rfl, rfl, hX⟩, fun q => by cases q⟩
/-- from BEGUN to OPEN -/
theorem ses_open {ru ln l cnt cnt' : Nat} {cm cm' : Bool} {E M B S P C Q X Y Z X' Y' Z' : Bytes} {rse rlv rcn rse' rlv' rcn' : Nat} {rha rha' : Bool} {rE rM rB rS rP rC rQ rX rY rZ rX' rY' rZ' : Bytes} {t t' lv : Nat} (h : sesI ru ln 1 lv cnt cm E M B S P C Q X Y Z rse rlv rcn rha rE rM rB rS rP rC rQ rX rY rZ t) (h2 : rse' = 2) (hl : l = rlv') (hl2 : l < 256) (hc : cnt' = 0) (hcm : cm' = false) (hcn : rcn' = 0) (hha : rha' = false) (hY : Y' = rY') (hX : X' = (if ru = 2 then rX'.take 8 else rX')) (hZ : Z'.length ≤ 204) : sesI ru ln 2 l cnt' cm' E M B S P C Q X' Y' Z' rse' rlv' rcn' rha' rE rM rB rS rP rC rQ rX' rY' rZ' t' := by
  subst h2 hl hcn hha hc hcm
  obtain ⟨⟨a1, a2, a3, a4, a5, a6, a7, a8⟩, a9⟩ := ses_ln h
  exact ⟨⟨rfl, by decide, rfl, hl2, ⟨a1, a2, a3, a4, a5, a6, a7, hZ⟩, hl2⟩, fun _ => h.2.1 (by decide), (fun q => by cases q), fun _ => ⟨rfl, Nat.zero_le _, rfl, hY, hX, fun q => by cases q⟩⟩
/-- a command more -/
theorem ses_more {ru ln lv cnt : Nat} {cm cm' : Bool} {E M B S P C Q X Y Z X' Z' : Bytes} {rse rlv rcn rse' rlv' rcn' : Nat} {rha rha' : Bool} {rE rM rB rS rP rC rQ rX rY rZ rX' rY' rZ' : Bytes} {t : Nat} (h : sesI ru ln 2 lv cnt cm E M B S P C Q X Y Z rse rlv rcn rha rE rM rB rS rP rC rQ rX rY rZ t) (h2 : rse' = rse) (hl : rlv' = rlv) (hcm : cm' = true) (hcn : rcn' = rcn + 1) (hha : rha' = true) (hY : rY' = rY) (hX : X' = (if ru = 2 then rX'.take 8 else rX')) (hZ : Z'.length ≤ 204) (hZ2 : Z' = rZ') (hZ3 : 4 ≤ Z'.length) : sesI ru ln 2 lv (cnt + 1) cm' E M B S P C Q X' Y Z' rse' rlv' rcn' rha' rE rM rB rS rP rC rQ rX' rY' rZ' (t + 1) := by
  subst h2 hl hcn hha hY hcm
  obtain ⟨⟨a1, a2, a3, a4, a5, a6, a7, a8⟩, a9⟩ := ses_ln h
  obtain ⟨⟨b1, b2, b3, b4, b5⟩, b, c, d⟩ := h
  obtain ⟨d1, d2, d3, d4, d5, d6⟩ := d rfl
  exact ⟨⟨b1, b2, b3, b4, ⟨a1, a2, a3, a4, a5, a6, a7, hZ⟩, a9⟩, b, (fun q => by cases q), fun _ => ⟨by omega, by omega, rfl, d4, hX, fun _ => ⟨hZ2, hZ3⟩⟩⟩
/-- what rests where a session stays open, another chain of answers -/
theorem ses_back {ru ln lv cnt : Nat} {cm : Bool} {E M B S P C Q X Y Z Y' : Bytes} {rse rlv rcn : Nat} {rha : Bool} {rE rM rB rS rP rC rQ rX rY rZ rY' : Bytes} {t : Nat} (h : sesI ru ln 2 lv cnt cm E M B S P C Q X Y Z rse rlv rcn rha rE rM rB rS rP rC rQ rX rY rZ t) (hY : Y' = rY') : sesI ru ln 2 lv cnt cm E M B S P C Q X Y' Z rse rlv rcn rha rE rM rB rS rP rC rQ rX rY' rZ (t + 1) := by
  obtain ⟨a, b, c, d⟩ := h
  obtain ⟨d1, d2, d3, d4, d5⟩ := d rfl
  exact ⟨a, b, c, fun _ => ⟨d1, by omega, d3, hY, d5⟩⟩
theorem sec_eq {ru ln st lv cnt : Nat} {cm : Bool} {E M B S P C Q X Y Z : Bytes} {rse rlv rcn : Nat} {rha : Bool} {rE rM rB rS rP rC rQ rX rY rZ : Bytes} {t : Nat} {wh j : Int32} (h : sesI ru ln st lv cnt cm E M B S P C Q X Y Z rse rlv rcn rha rE rM rB rS rP rC rQ rX rY rZ t) : (if st = 0 then -1 else secF E M B S P C Q wh j) = (if rse = 0 then -1 else secF rE rM rB rS rP rC rQ wh j) := by
  obtain ⟨⟨a1, -⟩, b, -⟩ := h
  subst a1
  by_cases q : st = 0
  · rw [if_pos q, if_pos q]
  · obtain ⟨-, rfl, rfl, rfl, rfl, rfl, rfl, rfl⟩ := b q
    rfl
theorem key_3 {ln : Nat} {E M S : Bytes} {rru rle : Nat} {rE rM rS : Bytes} (h : keyI 3 ln E M S rru rle rE rM rS) : (ln = 16 ∨ ln = 24 ∨ ln = 32) ∧ rru = 3 ∧ rle = ln ∧ E = rE ∧ M = rM ∧ S = rS := by
  obtain ⟨h1, h2, h3⟩ := h
  rcases h3 with ⟨q, -⟩ | ⟨q, h4⟩
  · cases q
  · exact ⟨by omega, h1.symm, h2.symm, h4⟩
theorem key_2 {ln : Nat} {E M S : Bytes} {rru rle : Nat} {rE rM rS : Bytes} (h : keyI 2 ln E M S rru rle rE rM rS) : ln = 16 ∧ rru = 2 ∧ rle = 16 ∧ E = rE ∧ M = rM ∧ S = rS := by
  obtain ⟨h1, h2, h3⟩ := h
  rcases h3 with ⟨q, -⟩ | ⟨q, h4⟩
  · cases q
  · exact ⟨by omega, h1.symm, by omega, h4⟩
theorem key_23 {ru ln : Nat} {E M S : Bytes} {rru rle : Nat} {rE rM rS : Bytes} (h : keyI ru ln E M S rru rle rE rM rS) (h0 : ru ≠ 0) : ru = 2 ∨ ru = 3 := by
  obtain ⟨-, -, h3⟩ := h
  rcases h3 with ⟨q, -⟩ | ⟨q, -⟩
  · exact absurd q h0
  · omega
theorem ctr_nat {i : Int32} (h : 0 ≤ i.toInt ∧ i.toInt ≤ 16777215) : ∃ n : Nat, n ≤ 16777215 ∧ i = nI n := by
  refine ⟨i.toInt.toNat, by omega, ?_⟩
  rw [← Int32.toInt_inj, nI_toInt (by omega)]
  omega
theorem sw_nat {i : Int32} (h : swB i = true) : ∃ n : Nat, n < 65536 ∧ i = nI n := by
  have h := of_decide_eq_true h
  refine ⟨i.toInt.toNat, by omega, ?_⟩
  rw [← Int32.toInt_inj, nI_toInt (by omega)]
  omega
theorem keyI_b {ru ln : Nat} {E M S : Bytes} {rru rle : Nat} {rE rM rS : Bytes} (h : keyI ru ln E M S rru rle rE rM rS) : ru < 4 ∧ ln ≤ 32 ∧ rru < 4 ∧ rle ≤ 32 ∧ ru = rru ∧ ln = rle := by
  obtain ⟨rfl, rfl, h⟩ := h
  omega
theorem keyI_new {ρ m : Nat} {E M S : Bytes} {rru rle : Nat} {rE rM rS : Bytes} (hρ : (ρ = 2 ∧ m = 16) ∨ (ρ = 3 ∧ (m = 16 ∨ m = 24 ∨ m = 32))) (h1 : rru = ρ) (h2 : rle = m) (hE : E = rE) (hM : M = rM) (hS : S = rS) : keyI ρ m E M S rru rle rE rM rS :=
  ⟨h1.symm, h2.symm, Or.inr ⟨hρ, hE, hM, hS⟩⟩
theorem q_sld {p : Program} {l : Launch} {e : Env} {R : Room} {s : State} {m : MethodId} {args : Array Value} {below : List Frame} {meth : Method} {c : Code} {H H0 : Heap} {locs : List Loc} {cells slots : Nat} {Q : State → Prop} {pc : Nat} {ls : Array Slot} {rest : List Value} {A : Nat → Prop} {cc : ByteArray} {b L k : Nat} {xs : Nat → Int32} (hx : p.tables.exec = Jvm.exec) (hb : c.code = cc) (hX : va_X b L xs s H0) (hbl : b < H0.size) (hbA : ¬ A b) (hS : va_S A H0 H locs) {i : Int32} (hi : i = nI k) (hk : k < L) (hL : L ≤ 384) (hdg : decode cc pc = .ok (.iaload, 1))
    (kk : W p l e R s m args below meth c H locs cells slots Q (F0 m (pc + 1) ls (.int (xs k) :: rest))) : W p l e R s m args below meth c H locs cells slots Q (F0 m pc ls (.int i :: .ref b :: rest)) := by
  subst hi
  refine va_sld hx hb hX hbl hbA hS (vp_in_nI hk (by omega)) hdg ?_
  rw [nI_clamp (by omega)]
  exact kk
theorem qb_nI {z : Bool} {x : Int32} (h : x = qb z) : x = if z then nI 1 else nI 0 := by
  rw [h]
  cases z <;> rfl
theorem lnI_Z {E M B S P C Q Z Z' : Bytes} {rlv rlv' : Nat} (h : lnI E M B S P C Q Z ∧ rlv < 256) (hZ : Z'.length ≤ 204) (hr : rlv' = rlv) : lnI E M B S P C Q Z' ∧ rlv' < 256 := by
  obtain ⟨⟨a1, a2, a3, a4, a5, a6, a7, a8⟩, a9⟩ := h
  subst hr
  exact ⟨⟨a1, a2, a3, a4, a5, a6, a7, hZ⟩, a9⟩
theorem opt_z {α : Type} {z z' : Bool} {o : Option α} {x x' : α} (h : o = if z then some x else none) (h' : o = if z' then some x' else none) : z = z' ∧ (z = true → x = x') := by
  rw [h] at h'
  cases z <;> cases z'
  · exact ⟨rfl, fun q => by cases q⟩
  · cases h'
  · cases h'
  · exact ⟨rfl, fun _ => Option.some.inj h'⟩
theorem zdet {α : Type} {z z' p : Bool} {o : Option α} {x x' : α} (h1 : z = true → p = true ∧ o = some x) (h0 : z = false → p = false ∨ o = none) (h1' : z' = true → p = true ∧ o = some x') (h0' : z' = false → p = false ∨ o = none) : z = z' ∧ (z = true → x = x') := by
  cases z <;> cases z'
  · exact ⟨rfl, fun q => by cases q⟩
  · obtain ⟨a, b⟩ := h1' rfl
    rcases h0 rfl with c | c
    · rw [a] at c; cases c
    · rw [b] at c; cases c
  · obtain ⟨a, b⟩ := h1 rfl
    rcases h0' rfl with c | c
    · rw [a] at c; cases c
    · rw [b] at c; cases c
  · refine ⟨rfl, fun _ => ?_⟩
    have := (h1 rfl).2
    rw [(h1' rfl).2] at this
    exact (Option.some.inj this).symm
theorem put_sub {C D : Bytes} {g : Nat → BitVec 8} {o : Nat} : putC C D (seg g o 16) = putC C D (seg g o 8) := by
  rw [putC, putC, seg_take (by decide), seg_take (by decide)]
theorem put_q8 {C D : Bytes} {g g' : Nat → BitVec 8} {o : Nat} (h : qL g 8 = seg g' o 8) : putC C D (qL g 8) = putC C D (seg g' o 8) := by rw [h]
theorem chain2_0 {K ch ch' C : Bytes} : chain2 K 0 ch C = chain2 K 0 ch' C := by rw [chain2, chain2, if_pos rfl, if_pos rfl]
theorem take8_q {g : Nat → BitVec 8} : (qL g 8).take 8 = qL g 8 := List.take_of_length_le (by rw [qL_len]; decide)
theorem zer_len {g : Nat → BitVec 8} {n : Nat} (h : qL g n = zeroL 16) : n = 16 := by
  have := congrArg List.length h
  rw [qL_len] at this
  simpa [zeroL] using this
theorem sg_take {g g' : Nat → BitVec 8} {n o : Nat} (h : qL g n = (seg g' o 16).take 8) : n = 8 := by
  rw [← seg_sub] at h
  exact len_sg h
theorem getD_eq {g g' : Nat → BitVec 8} {n j : Nat} (h : qL g n = qL g' n) (hj : j < n) : (qL g n).getD j 0 = g' j := by rw [h, qL_getD hj]
theorem prov_20 {L cp : Bytes} {nw : Bool} (h : provB L cp nw = true) : L.length = 20 := (of_decide_eq_true h).1
theorem prov_lev {L cp : Bytes} {nw : Bool} (h : provB L cp nw = true) : (L.getD 2 0).toNat < 256 := (L.getD 2 0).isLt
theorem ansC2_8 {K b C d : Bytes} {sw : Nat} : (ansCode2 K b C d sw).take 8 = ansCode2 K b C d sw := by
  refine List.take_of_length_le ?_
  rw [ansCode2, retailL, desL_len]
  decide

theorem op2_0 {Ke Km ch ch' L : Bytes} {lv : Nat} : open2 Ke Km 0 lv ch L = open2 Ke Km 0 lv ch' L := by
  have h : ∀ d : Bytes, chain2 Km 0 ch (joinC L d) = chain2 Km 0 ch' (joinC L d) := fun d => chain2_0
  simp only [open2, h]
theorem ses_cm {ru ln st lv cnt : Nat} {cm : Bool} {E M B S P C Q X Y Z : Bytes} {rse rlv rcn : Nat} {rha : Bool} {rE rM rB rS rP rC rQ rX rY : Bytes} {t k : Nat} {m1 m0 : Nat → BitVec 8} (h : sesI ru ln st lv cnt cm E M B S P C Q X Y Z rse rlv rcn rha rE rM rB rS rP rC rQ rX rY (seg m0 0 k) t) (hf : ∀ j, j < 204 → m1 j = m0 j) : sesI ru ln st lv cnt cm E M B S P C Q X Y Z rse rlv rcn rha rE rM rB rS rP rC rQ rX rY (seg m1 0 k) (t + 1) := by
  obtain ⟨a, b, c, d⟩ := ses_mono h
  refine ⟨a, b, c, fun q => ?_⟩
  obtain ⟨d1, d2, d3, d4, d5, d6⟩ := d q
  refine ⟨d1, d2, d3, d4, d5, fun z => ?_⟩
  obtain ⟨e1, e2⟩ := d6 z
  have hl : Z.length ≤ 204 := a.2.2.2.2.1.2.2.2.2.2.2.2
  have hk : k ≤ 204 := by rw [e1, seg_len] at hl; exact hl
  exact ⟨e1.trans (seg_keep fun j hj => hf (0 + j) (by omega)).symm, e2⟩
