theorem s_best {σ : Mem} {n : Nat} (h : Inv σ) (hn : 100000 ≤ n) (x : Int32) : Both σ (f_X7_best n x) (f_X8_best n x) := sorry
theorem s_soonest {σ : Mem} {n : Nat} (h : Inv σ) (hn : 100000 ≤ n) (x y : Int32) : Both σ (f_X7_soonest n x y) (f_X8_soonest n x y) := sorry
theorem s_copies {σ : Mem} {n : Nat} (h : Inv σ) (hn : 100000 ≤ n) (x y : Int32) : Both σ (f_X7_copies n x y) (f_X8_copies n x y) := sorry
