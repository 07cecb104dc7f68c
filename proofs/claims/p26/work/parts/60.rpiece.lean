/-! piece on the reference's side -/
def pPiece (p : Mp) (a w : Int32) : Int32 :=
  if mnm a (pn p) ∧ mnm w 63 then
    if w = 0 then nI (pkd p a.toNatClampNeg) else if w = 1 then pnm p a.toNatClampNeg else if w = 2 then nI (ppt p a.toNatClampNeg).length else if w = 3 then nI (psz p a.toNatClampNeg)
    else if (ppt p a.toNatClampNeg).length ≤ w.toNatClampNeg - 4 then -3 else nI ((ppt p a.toNatClampNeg).getD (w.toNatClampNeg - 4) 0)
  else -1
