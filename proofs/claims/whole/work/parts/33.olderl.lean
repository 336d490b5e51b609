/-! RULE 2's reckonings in the class -/
def iv2 (K : Bytes) (cnt : Nat) (ch : Bytes) : Bytes := if cnt = 0 then zeroL 8 else desL (K.take 8) false (ch.take 8)
theorem chain2_eq {K ch C : Bytes} {cnt : Nat} : chain2 K cnt ch C = retailL K (iv2 K cnt ch) (headL C (C.length - 4) ++ C.drop 4) := rfl
theorem open2_hid {Ke Km ch L d : Bytes} {cnt lv : Nat} {z : Bool} (h : splB L = true) (hd : d = midL L) (hz : z = hidB lv 2 d) : (z = false → open2 Ke Km cnt lv ch L = (some d).bind (fun d => if d.length ≤ 200 then (if L.drop (L.length - 8) = (chain2 Km cnt ch (joinC L d)).take 8 then some (joinC L d, chain2 Km cnt ch (joinC L d)) else none) else none)) ∧ (z = true → open2 Ke Km cnt lv ch L = (show2 Ke d).bind (fun d => if d.length ≤ 200 then (if L.drop (L.length - 8) = (chain2 Km cnt ch (joinC L d)).take 8 then some (joinC L d, chain2 Km cnt ch (joinC L d)) else none) else none)) := by
  subst hd
  rw [open2, h, if_pos rfl, ← hz]
  exact ⟨fun q => by rw [q]; rfl, fun q => by rw [q]; rfl⟩
/-- the code's comparison, at the end -/
theorem code_fin {Km ch L J : Bytes} {cnt n m : Nat} {z : Bool} {gc1 gh1 : Nat → BitVec 8} {nc1 : Nat} (hn : L.length = n) (h8 : 8 ≤ n) (hm : 8 ≤ m) (hJ : qL gc1 nc1 = J) (hL : qL gh1 m = chain2 Km cnt ch (qL gc1 nc1)) (hz : z = decide (8 ≤ n ∧ 8 ≤ m ∧ L.drop (n - 8) = (qL gh1 m).take 8)) : (if L.drop (L.length - 8) = (chain2 Km cnt ch J).take 8 then some (J, chain2 Km cnt ch J) else none) = if z then some (qL gc1 nc1, qL gh1 m) else none := by
  have e := ends_iff hn h8 hm hz
  subst hJ
  rw [← hL]
  cases z
  · rw [if_neg (of_decide_eq_false e.symm)]
    rfl
  · rw [if_pos (of_decide_eq_true e.symm)]
    rfl
