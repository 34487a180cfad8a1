section
theorem tq_1 (a b : Nat) (h : a < b) : a + 1 ≤ b := by grind
theorem tq_2 (x y : Int32) : x + y = y + x := by grind
def tq_f : Nat → Nat → Nat
  | 0, x => x
  | n+1, x => tq_f n (x + 2)
theorem tq_3 (x : Nat) : tq_f 3 x = x + 2 + 2 + 2 := by cbv
theorem tq_4 (x : BitVec 32) : x &&& x = x := by grind
theorem tq_5 (x y : BitVec 32) : (x ||| y) = (y ||| x) := by ext i; simp [Bool.or_comm]
end
