/-! found on the reference's side: what settle sees -/
/-! found on the reference's side: a row as it is -/
theorem xNe_S {l : Rw} {i : Nat} (hi : i < l.length) : xNe (l.take (i + 1)) = xNe (l.take i) ++ (if (l.getD i []).length = 0 then [] else [l.getD i []]) := by
  unfold xNe
  rw [take_row hi, List.filter_append]
  congr 1
  generalize l.getD i [] = r
  cases r with
  | nil => rfl
  | cons a r => rfl
