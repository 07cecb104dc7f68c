/-! found on the reference's side: one row, as a part takes it -/
noncomputable def stS (P : Nat → Prop) (q : Rw × List Nat) (x : Nat) : Rw × List Nat := if cB (P x) = true then (q.1, q.2 ++ [x]) else if q.2 = [] then (q.1, []) else (q.1 ++ [q.2], [])
def finS (q : Rw × List Nat) : Rw := if q.2 = [] then q.1 else q.1 ++ [q.2]
theorem xSt_fold {P : Nat → Prop} : ∀ (r : List Nat) (d : Rw) (c : List Nat), finS (r.foldl (stS P) (d, c)) = d ++ xSt P c r
  | [], d, c => by
    show finS (d, c) = d ++ (if c = [] then [] else [c])
    unfold finS
    by_cases e : c = []
    · rw [if_pos e, if_pos e, List.append_nil]
    · rw [if_neg e, if_neg e]
  | x :: r, d, c => by
    rw [List.foldl_cons]
    unfold xSt
    by_cases e : cB (P x) = true
    · rw [show stS P (d, c) x = (d, c ++ [x]) from if_pos e, if_pos e]
      exact xSt_fold r d _
    · rw [if_neg e]
      by_cases g : c = []
      · rw [show stS P (d, c) x = (d, []) from (if_neg e).trans (if_pos g), if_pos g]
        exact xSt_fold r d _
      · rw [show stS P (d, c) x = (d ++ [c], []) from (if_neg e).trans (if_neg g), if_neg g, xSt_fold r (d ++ [c]) [], List.append_assoc]
        rfl
noncomputable def cuS (P : Nat → Prop) (R : Rw) (r : List Nat) (j : Nat) : Rw × List Nat := (r.take j).foldl (stS P) (R, [])
theorem cuS_s {P : Nat → Prop} {R : Rw} {r : List Nat} {j : Nat} (hj : j < r.length) : cuS P R r (j + 1) = stS P (cuS P R r j) (r.getD j 0) := by
  unfold cuS
  rw [take_gd hj, List.foldl_append]; rfl
theorem xW_s {P : Nat → Prop} {r : List Nat} {j : Nat} (hj : j < r.length) : xW P (r.take (j + 1)) = xW P (r.take j) ++ (if cB (P (r.getD j 0)) = true then [r.getD j 0] else []) := by
  unfold xW
  rw [take_gd hj, List.filter_append]
  congr 1
  by_cases c : cB (P (r.getD j 0)) = true
  · rw [if_pos c, List.filter_cons_of_pos (p := fun x => cB (P x)) c]; rfl
  · rw [if_neg c, List.filter_cons_of_neg (p := fun x => cB (P x)) c]; rfl
/-! found on the reference's side: the names of a row go over to the new node -/
def rRb (s : Zr) (f : Nat) (l : Rw) (W : Nat) : Prop := ∀ i, i < l.length → ∃ g, s 33 (f + i) = nI g ∧ s 34 (f + i) = nI (l.getD i []).length ∧ g + (l.getD i []).length ≤ W ∧ ∀ j, j < (l.getD i []).length → s 35 (g + j) = nI ((l.getD i []).getD j 0)
