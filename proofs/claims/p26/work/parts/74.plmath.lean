/-! plain, as trees -/
/-- into its place, ahead of the first that is not less; where it stands already, not if it may not stand twice -/
def tIns (one : Bool) (u : Tr) : List Tr → List Tr
  | [] => [u]
  | a :: r => if tCmp a u < 0 then a :: tIns one u r else if one = true ∧ tCmp a u = 0 then a :: r else u :: a :: r
def tPlc (lab : Nat) (l : List Tr) (u : Tr) : List Tr :=
  if lab = 13 then l ++ [u] else if lab = 16 then (match l with
    | [] => [u]
    | a :: r => a :: tIns false u r) else tIns (lab == 14) u l
def tKids : Tr → List Tr
  | .var _ => []
  | .op t k => tKids t ++ [k]
def tMk (lab : Nat) (l : List Tr) : Tr := l.foldl (fun t k => .op t k) (.var lab)
def tTake (lab : Nat) (l : List Tr) (u : Tr) : List Tr :=
  if (lab = 13 ∨ lab = 15) ∧ tLab u = 12 then l else if tLab u = lab ∧ lab ≠ 16 then (tKids u).foldl (tPlc lab) l else tPlc lab l u
def tFn (lab : Nat) : List Tr → Tr
  | [] => .var 12
  | [a] => a
  | a :: b :: r => tMk lab (a :: b :: r)
def tPf (lab len : Nat) (l : List Tr) : Tr := if len = 0 then .var lab else tFn lab l
def tPk : Tr → List Tr
  | .var _ => []
  | .op t k => tTake (tLab t) (tPk t) (tPf (tLab k) (tLen k) (tPk k))
def tPl (t : Tr) : Tr := tPf (tLab t) (tLen t) (tPk t)
theorem tPk_op (t k : Tr) : tPk (.op t k) = tTake (tLab t) (tPk t) (tPl k) := rfl
def tSum (l : List Tr) : Nat := l.foldl (fun a t => a + tSz t) 0
theorem tSum_c : ∀ (l : List Tr) (a : Nat), l.foldl (fun a t => a + tSz t) a = a + tSum l
  | [], _ => rfl
  | x :: l, a => by
    show l.foldl _ (a + tSz x) = a + l.foldl _ (0 + tSz x)
    rw [tSum_c l (a + tSz x), tSum_c l (0 + tSz x)]
    omega
theorem tSum_cons (x : Tr) (l : List Tr) : tSum (x :: l) = tSz x + tSum l := by
  show l.foldl _ (0 + tSz x) = _
  rw [tSum_c]; omega
theorem tSum_app (l r : List Tr) : tSum (l ++ r) = tSum l + tSum r := by
  unfold tSum
  rw [List.foldl_append, tSum_c]
  rfl
theorem tSum_len : ∀ l : List Tr, l.length ≤ tSum l
  | [] => Nat.zero_le _
  | x :: l => by
    have := tSum_len l
    have := tSz_1 x
    rw [tSum_cons, List.length_cons]
    omega
theorem tIns_sum (one : Bool) (u : Tr) : ∀ l, tSum (tIns one u l) ≤ tSum l + tSz u
  | [] => by show tSum [u] ≤ _; rw [tSum_cons]; omega
  | a :: r => by
    have := tIns_sum one u r
    show tSum (if tCmp a u < 0 then a :: tIns one u r else if one = true ∧ tCmp a u = 0 then a :: r else u :: a :: r) ≤ _
    split
    · rw [tSum_cons, tSum_cons]; omega
    · split
      · omega
      · rw [tSum_cons, tSum_cons]; omega
theorem tPlc_sum (lab : Nat) (l : List Tr) (u : Tr) : tSum (tPlc lab l u) ≤ tSum l + tSz u := by
  unfold tPlc
  split
  · rw [tSum_app, tSum_cons]; show tSum l + (tSz u + 0) ≤ _; omega
  · split
    · split
      · rw [tSum_cons]; show tSz u + 0 ≤ _; omega
      · rename_i a r
        rw [tSum_cons, tSum_cons]
        have := tIns_sum false u r
        omega
    · exact tIns_sum _ u l
theorem tKids_sum : ∀ t : Tr, tSum (tKids t) + 1 = tSz t
  | .var _ => rfl
  | .op t k => by
    have := tKids_sum t
    show tSum (tKids t ++ [k]) + 1 = tSz t + tSz k
    rw [tSum_app, tSum_cons]
    show tSum (tKids t) + (tSz k + 0) + 1 = _
    omega
theorem foldPlc_sum (lab : Nat) : ∀ (us l : List Tr), tSum (us.foldl (tPlc lab) l) ≤ tSum l + tSum us
  | [], l => by show tSum l ≤ tSum l + 0; omega
  | u :: us, l => by
    have h1 := foldPlc_sum lab us (tPlc lab l u)
    have h2 := tPlc_sum lab l u
    rw [tSum_cons]
    show tSum (us.foldl (tPlc lab) (tPlc lab l u)) ≤ _
    omega
theorem tTake_sum (lab : Nat) (l : List Tr) (u : Tr) : tSum (tTake lab l u) ≤ tSum l + tSz u := by
  unfold tTake
  split
  · omega
  · split
    · have := foldPlc_sum lab (tKids u) l
      have := tKids_sum u
      omega
    · exact tPlc_sum lab l u
theorem tMk_sz (lab : Nat) (l : List Tr) : tSz (tMk lab l) = 1 + tSum l := by
  have key : ∀ (l : List Tr) (t : Tr), tSz (l.foldl (fun t k => Lean.Data.AC.Expr.op t k) t) = tSz t + tSum l := by
    intro l
    induction l with
    | nil => intro t; rfl
    | cons x l ih =>
      intro t
      show tSz (l.foldl _ (Lean.Data.AC.Expr.op t x)) = _
      rw [ih, tSum_cons]
      show tSz t + tSz x + tSum l = _
      omega
  exact key l _
theorem tPl_sz : ∀ t : Tr, tSum (tPk t) + 1 ≤ tSz t ∧ tSz (tPl t) ≤ tSz t
  | .var x => ⟨Nat.le_refl _, Nat.le_refl _⟩
  | .op t k => by
    have h1 := (tPl_sz t).1
    have h2 := (tPl_sz k).2
    have h3 := tTake_sum (tLab t) (tPk t) (tPl k)
    have a : tSum (tPk (.op t k)) + 1 ≤ tSz (.op t k) := by
      rw [tPk_op]
      show _ ≤ tSz t + tSz k
      omega
    refine ⟨a, ?_⟩
    show tSz (if tLen t + 1 = 0 then Lean.Data.AC.Expr.var (tLab t) else tFn (tLab t) (tPk (.op t k))) ≤ tSz (Lean.Data.AC.Expr.op t k)
    rw [if_neg (by omega)]
    generalize tPk (.op t k) = l at a
    match l, a with
    | [], a => show 1 ≤ _; omega
    | [x], a =>
      rw [tSum_cons] at a
      show tSz x ≤ _
      have : tSum [] = 0 := rfl
      omega
    | x :: y :: r, a =>
      show tSz (tMk _ (x :: y :: r)) ≤ _
      rw [tMk_sz]
      omega
/-! compare, where only some nodes are laid out -/
def nSq (V : Nat → Prop) (s : Zr) (N L : Nat) (nt : Nat → Tr) : Prop := ∀ x, x < N → V x → s 13 x = nI (tKd (tLab (nt x))) ∧ s 14 x = tNm (tLab (nt x)) ∧ s 16 x = nI (tLen (nt x)) ∧ ∃ f, s 15 x = nI f ∧ f + tLen (nt x) ≤ L ∧ ∀ j, j < tLen (nt x) → ∃ y, (x < y ∧ V y) ∧ y < N ∧ s 17 (f + j) = nI y ∧ nt y = tKid (nt x) j
theorem nSq.only {V : Nat → Prop} {S : Nat → Nat → Prop} {s s' : Zr} {N L : Nat} {nt : Nat → Tr} (o : rOnly S s s') (st : nSq V s N L nt) (hS : ∀ a k, 13 ≤ a → a ≤ 17 → ¬ S a k) : nSq V s' N L nt := by
  intro x hx v
  obtain ⟨c1, c2, c3, f, c4, c5, c6⟩ := st x hx v
  refine ⟨(o _ _ (hS _ _ (by omega) (by omega))).trans c1, (o _ _ (hS _ _ (by omega) (by omega))).trans c2, (o _ _ (hS _ _ (by omega) (by omega))).trans c3, f, (o _ _ (hS _ _ (by omega) (by omega))).trans c4, c5, fun j hj => ?_⟩
  obtain ⟨y, y1, y2, y3, y4⟩ := c6 j hj
  exact ⟨y, y1, y2, (o _ _ (hS _ _ (by omega) (by omega))).trans y3, y4⟩
/-! gathered first, sorted then: the same parts -/
theorem snocT {P : List Tr → Prop} (h0 : P []) (h1 : ∀ l x, P l → P (l ++ [x])) (l : List Tr) : P l := by
  have key : ∀ r : List Tr, P r.reverse := by
    intro r
    induction r with
    | nil => exact h0
    | cons x r ih => rw [List.reverse_cons]; exact h1 _ _ ih
  have := key l.reverse
  rwa [List.reverse_reverse] at this
