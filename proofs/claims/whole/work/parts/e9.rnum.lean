section RNUM
variable {S S' S1 : MS} {n : Nat} {f : Nat → Int32}
theorem r_isFigure_eq {x : Int32} : r_isFigure S x = some (bI (isFg x = true)) := by
  have e : r_isFigure S x = some (bI (48 ≤ x ∧ x ≤ 57)) := (r_isIn_b (S := S) : r_isIn _ x 48 57 = _)
  rw [e]
  unfold isFg bI
  by_cases q : 48 ≤ x ∧ x ≤ 57
  · rw [if_pos q, if_pos (decide_eq_true q)]
  · rw [if_neg q, if_neg (fun y => q (of_decide_eq_true y))]
theorem r_isLetter_eq {x : Int32} : r_isLetter S x = some (bI (isLt x = true)) := by
  have e : r_isLetter S x = some (bI (97 ≤ x ∧ x ≤ 122)) := (r_isIn_b (S := S) : r_isIn _ x 97 122 = _)
  rw [e]
  unfold isLt bI
  by_cases q : 97 ≤ x ∧ x ≤ 122
  · rw [if_pos q, if_pos (decide_eq_true q)]
  · rw [if_neg q, if_neg (fun y => q (of_decide_eq_true y))]
end RNUM
