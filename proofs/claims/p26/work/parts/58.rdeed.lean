/-! deed, join on the reference's side -/
def pDeed (p : Mp) (a : Int32) : Int32 × Mp :=
  if a = -1 then (if pn p = 200 then (-2, p) else (nI (pn p), pAdd p 1 (-3) []))
  else if mnm a 12 then (if pn p = 200 then (-2, p) else (nI (pn p), pAdd p 0 a []))
  else (-1, p)
def pJoin (p : Mp) (k a b : Int32) : Int32 × Mp :=
  if (2 ≤ k.toInt ∧ k.toInt ≤ 5) ∧ mnm a (pn p) ∧ mnm b (pn p) then
    if pn p = 200 then (-2, p)
    else if psz p a.toNatClampNeg + psz p b.toNatClampNeg + 1 ≤ 60 then (nI (pn p), pAdd p k.toNatClampNeg (-3) [a.toNatClampNeg, b.toNatClampNeg])
    else (-2, p)
  else (-1, p)
