/-! more on the reference's side -/
def pMore (p : Mp) (a b : Int32) : Int32 × Mp :=
  if mnm a (pn p) ∧ mnm b (pn p) then
    if 2 ≤ pkd p a.toNatClampNeg then
      if pn p = 200 then (-2, p)
      else if psz p a.toNatClampNeg + psz p b.toNatClampNeg ≤ 60 then (nI (pn p), pAdd p (pkd p a.toNatClampNeg) (-3) (ppt p a.toNatClampNeg ++ [b.toNatClampNeg]))
      else (-2, p)
    else (-1, p)
  else (-1, p)
theorem take_1 : ∀ (l : List Nat) (i : Nat), i < l.length → l.take (i + 1) = l.take i ++ [l.getD i 0]
  | [], _, h => absurd h (Nat.not_lt_zero _)
  | _ :: _, 0, _ => rfl
  | x :: l, i + 1, h => by
    show x :: l.take (i + 1) = x :: (l.take i ++ [l.getD i 0])
    rw [take_1 l i (Nat.lt_of_succ_lt_succ h)]
theorem getD_mem : ∀ (l : List Nat) (i : Nat), i < l.length → l.getD i 0 ∈ l
  | [], _, h => absurd h (Nat.not_lt_zero _)
  | _ :: _, 0, _ => List.mem_cons_self
  | _ :: l, i + 1, h => List.mem_cons_of_mem _ (getD_mem l i (Nat.lt_of_succ_lt_succ h))
