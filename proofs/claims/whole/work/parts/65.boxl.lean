/-! the reference's boxes: inverses, found by trying -/
def invS (v : BitVec 8) : Nat → Nat
  | 0 => 0
  | x + 1 => if 1 ≤ x ∧ gm v x = 1#8 then x else invS v x
theorem invS_lt {v : BitVec 8} : ∀ {x : Nat}, invS v x ≤ x
  | 0 => Nat.le_refl _
  | x + 1 => by
    rw [invS]
    split
    · omega
    · have := invS_lt (v := v) (x := x)
      omega
def invL : List (BitVec 8) → Nat → Nat → Nat
  | [], _, acc => acc
  | b :: bs, i, acc => invL bs (i + 1) (if 1 ≤ i ∧ b = 1#8 then i else acc)
theorem invL_app : ∀ {L M : List (BitVec 8)} {i acc : Nat}, invL (L ++ M) i acc = invL M (i + L.length) (invL L i acc)
  | [], M, i, acc => rfl
  | b :: L, M, i, acc => by
    rw [List.cons_append, invL, invL_app, invL, List.length_cons]
    congr 1
    omega
theorem invS_L {v : BitVec 8} : ∀ {n : Nat}, invS v n = invL (qL (gm v) n) 0 0
  | 0 => rfl
  | n + 1 => by
    rw [invS, qL_succ, invL_app, qL_len, Nat.zero_add, ← invS_L (n := n)]
    rfl
/-- times every number below 2^c -/
def colK (v : BitVec 8) : Nat → List (BitVec 8)
  | 0 => [0#8]
  | c + 1 => (fun L x => L ++ List.map (fun b => b ^^^ x) L) (colK v c) (xtn v c)
theorem gmS_hi {v : BitVec 8} {c x : Nat} : ∀ {k : Nat}, k ≤ c → gmS v (2 ^ c + x) k = gmS v x k
  | 0, _ => rfl
  | k + 1, h => by
    rw [gmS, gmS, gmS_hi (by omega)]
    congr 2
    rw [Nat.testBit_two_pow_add_gt (by omega)]
theorem colK_eq {v : BitVec 8} : ∀ {c : Nat}, colK v c = qL (fun x => gmS v x c) (2 ^ c)
  | 0 => rfl
  | c + 1 => by
    rw [colK, colK_eq (c := c), Nat.pow_succ, Nat.mul_two, qL_app]
    show qL (fun x => gmS v x c) (2 ^ c) ++ List.map _ _ = _
    congr 1
    · rw [qL_ext]
      intro x hx
      show _ = gmS v x c ^^^ _
      rw [Nat.testBit_lt_two_pow hx]
      simp
    · rw [seg, qL, qL, List.map_map]
      apply List.map_congr_left
      intro x hx
      have hx := List.mem_range.mp hx
      show gmS v x c ^^^ xtn v c = gmS v (2 ^ c + x) c ^^^ _
      rw [gmS_hi (Nat.le_refl _), Nat.testBit_two_pow_add_eq, Nat.testBit_lt_two_pow hx]
      rfl
theorem invS_col {v : BitVec 8} : invS v 256 = invL (colK v 8) 0 0 := by
  rw [invS_L, colK_eq]
  rfl
/-- the bits of a box, gathered as the reference gathers them -/
def sI (iv : Nat) : Nat → Int32
  | 0 => nI 0
  | k + 1 => sI iv k ||| ((((((((nI iv >>> (nI k &&& 31)) ^^^ (nI iv >>> (nI ((k + 4) % 8) &&& 31))) ^^^ (nI iv >>> (nI ((k + 5) % 8) &&& 31))) ^^^ (nI iv >>> (nI ((k + 6) % 8) &&& 31))) ^^^ (nI iv >>> (nI ((k + 7) % 8) &&& 31))) ^^^ (nI 99 >>> (nI k &&& 31))) &&& nI 1) <<< (nI k &&& 31))
theorem box_ok {v : Nat} (h : v < 256) : sI (invS (BitVec.ofNat 8 v) 256) 8 = qz (BOX v) := by
  have q : ∀ v : Fin 256, sI (invL (colK (BitVec.ofNat 8 v.val) 8) 0 0) 8 = qz (BOX v.val) := by decide +kernel
  rw [invS_col]
  exact q ⟨v, h⟩
