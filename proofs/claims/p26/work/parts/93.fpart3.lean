/-! found on the reference's side: a part's node -/
theorem xTake_S {k : Nat} {P : Nat → Prop} {l : Rw} {i : Nat} (hi : i < l.length) : xTake k P (l.take (i + 1)) = xTake k P (l.take i) ++ xTk1 k P (l.getD i []) := by
  unfold xTake
  have e : l.take (i + 1) = l.take i ++ [l.getD i []] := by
    rw [List.take_succ, List.getElem?_eq_getElem hi, List.getD_eq_getElem?_getD, List.getElem?_eq_getElem hi]; rfl
  rw [e, List.flatMap_append, List.flatMap_cons, List.flatMap_nil, List.append_nil]
theorem take_row {l : Rw} {i : Nat} (hi : i < l.length) : l.take (i + 1) = l.take i ++ [l.getD i []] := by
  rw [List.take_succ, List.getElem?_eq_getElem hi, List.getD_eq_getElem?_getD, List.getElem?_eq_getElem hi]; rfl
theorem gS_take (l : Rw) (i : Nat) : gS List.length (l.take i) ≤ gS List.length l := by
  have := gS_app List.length (l.drop i) (l.take i)
  rw [List.take_append_drop] at this
  omega
