/-! one piece more -/
def pAdd (p : Mp) (k : Nat) (x : Int32) (l : List Nat) : Mp := (pn p + 1, m1 (pkd p) (pn p) k, m1 (pnm p) (pn p) x, m1 (ppt p) (pn p) l, m1 (psz p) (pn p) (1 + pSum (psz p) l))
theorem m1_s {α : Type} {f : Nat → α} {a : Nat} {v : α} : m1 f a v a = v := if_pos rfl
theorem m1_n {α : Type} {f : Nat → α} {a b : Nat} {v : α} (h : b ≠ a) : m1 f a v b = f b := if_neg h
theorem getD_app1 : ∀ (l : List Nat) (j i : Nat), i < l.length → (l ++ [j]).getD i 0 = l.getD i 0
  | [], _, _, h => absurd h (Nat.not_lt_zero _)
  | _ :: _, _, 0, _ => rfl
  | _ :: l, j, i + 1, h => getD_app1 l j i (Nat.lt_of_succ_lt_succ h)
theorem getD_app2 : ∀ (l : List Nat) (j : Nat), (l ++ [j]).getD l.length 0 = j
  | [], _ => rfl
  | _ :: l, j => getD_app2 l j
