theorem law_ok (n : Nat) (xs : Nat → Int32) (h : n ≤ 3072) : ∃ M, fL_law n xs xL0 = some ((1:Int32), M) := by sorry
