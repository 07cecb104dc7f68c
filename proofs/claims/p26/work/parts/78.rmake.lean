/-! a tree of nodes becomes pieces, on the reference's side -/
theorem mkR_drop {l : List Nat} {i : Nat} (h : i < l.length) : l.drop i = l.getD i 0 :: l.drop (i + 1) := by
  rw [List.drop_eq_getElem_cons h, List.getD_eq_getElem?_getD, List.getElem?_eq_getElem h]
  rfl
theorem getD_rev {l : List Nat} {k : Nat} (h : k < l.length) : l.reverse.getD k 0 = l.getD (l.length - 1 - k) 0 := by
  rw [List.getD_eq_getElem?_getD, List.getD_eq_getElem?_getD, List.getElem?_reverse h]
/-! plain on the reference's side -/
def pPlain (p : Mp) (a : Int32) : Int32 × Mp := if mnm a (pn p) then (if tSz (tPl (pT p a.toNatClampNeg)) ≤ 60 ∧ pn p + tSz (tPl (pT p a.toNatClampNeg)) ≤ 200 then (nI (pn p + tSz (tPl (pT p a.toNatClampNeg)) - 1), pEnt p (tPl (pT p a.toNatClampNeg))) else (-2, p)) else (-1, p)
