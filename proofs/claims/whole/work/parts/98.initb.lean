/-! THE PURE PART, the start: facts of the first memory (printed by wip/gen/init.py) -/
theorem G_cnt : G56.cnt = 56 := by decide +kernel
theorem G_sl : G56.sl ≤ 1000000 := by decide +kernel
theorem G_9 : ∀ k : Fin 70, layA 9 (k.val : Int) = 0 ∨ G56.M 9 (k.val : Int) = layA 9 (k.val : Int) := by decide +kernel
theorem G_1 : ∀ k : Fin 70, layA 1 (k.val : Int) = 0 ∨ G56.M 1 (k.val : Int) = layA 1 (k.val : Int) := by decide +kernel
theorem G_N : ∀ b : Fin 57, layN (b.val : Int) = 0 ∨ G56.N (b.val : Int) = layN (b.val : Int) := by decide +kernel
