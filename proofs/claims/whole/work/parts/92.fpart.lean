/-! found on the reference's side: one row, as a part takes it -/
noncomputable def stS (P : Nat → Prop) (q : Rw × List Nat) (x : Nat) : Rw × List Nat := if cB (P x) = true then (q.1, q.2 ++ [x]) else if q.2 = [] then (q.1, []) else (q.1 ++ [q.2], [])
def finS (q : Rw × List Nat) : Rw := if q.2 = [] then q.1 else q.1 ++ [q.2]
theorem xSt_fold {P : Nat → Prop} : ∀ (r : List Nat) (d : Rw) (c : List Nat), finS (r.foldl (stS P) (d, c)) = d ++ xSt P c r
  | [], d, c => by
    show finS (d, c) = d ++ (if c = [] then [] else [c])
    unfold finS
    by_cases e : c = []
    · rw [if_pos e, if_pos e, List.append_nil]
    · rw [if_neg e, if_neg e]
  | x :: r, d, c => by
    rw [List.foldl_cons]
    unfold xSt
    by_cases e : cB (P x) = true
    · rw [show stS P (d, c) x = (d, c ++ [x]) from if_pos e, if_pos e]
      exact xSt_fold r d _
    · rw [if_neg e]
      by_cases g : c = []
      · rw [show stS P (d, c) x = (d, []) from (if_neg e).trans (if_pos g), if_pos g]
        exact xSt_fold r d _
      · rw [show stS P (d, c) x = (d ++ [c], []) from (if_neg e).trans (if_neg g), if_neg g, xSt_fold r (d ++ [c]) [], List.append_assoc]
        rfl
/-- the rows that are there after j names of r; the flag: the last name was taken -/
noncomputable def prS (k : Nat) (P : Nat → Prop) (R : Rw) (r : List Nat) (j : Nat) : Rw :=
  if k = 5 then finS ((r.take j).foldl (stS P) (R, [])) else if k = 3 ∧ ¬ cB (P (r.getD 0 0)) = true then R else R ++ [xW P (r.take j)]
theorem prS_end {k : Nat} {P : Nat → Prop} {R : Rw} {r : List Nat} (h3 : k = 3 → 0 < r.length ∧ ∀ x, x ∈ r → (P x ↔ P (r.getD 0 0))) : prS k P R r r.length = R ++ xTk1 k P r := by
  unfold prS xTk1
  rw [List.take_length]
  by_cases c5 : k = 5
  · rw [if_pos c5, if_pos c5]
    exact xSt_fold r R []
  · rw [if_neg c5, if_neg c5]
    by_cases c3 : k = 3
    · obtain ⟨h1, h2⟩ := h3 c3
      have m0 : r.getD 0 0 ∈ r := mem_gd.mp ⟨0, h1, rfl⟩
      by_cases p0 : cB (P (r.getD 0 0)) = true
      · rw [if_neg (fun z => z.2 p0), if_neg (fun z => by
          have : r.getD 0 0 ∈ xW P r := List.mem_filter.mpr ⟨m0, p0⟩
          rw [z.2] at this
          exact absurd this List.not_mem_nil)]
      · have e : xW P r = [] := List.filter_eq_nil_iff.mpr (fun x hx z => p0 (cB_t.mpr ((h2 x hx).mp (cB_t.mp z))))
        rw [if_pos ⟨c3, p0⟩, if_pos ⟨c3, e⟩, List.append_nil]
    · rw [if_neg (fun z => c3 z.1), if_neg (fun z => c3 z.1)]
noncomputable def cuS (P : Nat → Prop) (R : Rw) (r : List Nat) (j : Nat) : Rw × List Nat := (r.take j).foldl (stS P) (R, [])
theorem cuS_s {P : Nat → Prop} {R : Rw} {r : List Nat} {j : Nat} (hj : j < r.length) : cuS P R r (j + 1) = stS P (cuS P R r j) (r.getD j 0) := by
  unfold cuS
  rw [take_gd hj, List.foldl_append]; rfl
theorem xW_s {P : Nat → Prop} {r : List Nat} {j : Nat} (hj : j < r.length) : xW P (r.take (j + 1)) = xW P (r.take j) ++ (if cB (P (r.getD j 0)) = true then [r.getD j 0] else []) := by
  unfold xW
  rw [take_gd hj, List.filter_append]
  congr 1
  by_cases c : cB (P (r.getD j 0)) = true
  · rw [if_pos c, List.filter_cons_of_pos (p := fun x => cB (P x)) c]; rfl
  · rw [if_neg c, List.filter_cons_of_neg (p := fun x => cB (P x)) c]; rfl
/-- how the rows grow by a name -/
theorem prS_s {k : Nat} {P : Nat → Prop} {R : Rw} {r : List Nat} {j : Nat} (hj : j < r.length) (h3 : k = 3 → ∀ x, x ∈ r → (P x ↔ P (r.getD 0 0))) :
    (¬ P (r.getD j 0) → prS k P R r (j + 1) = prS k P R r j) ∧ (P (r.getD j 0) → (k = 5 ∧ (cuS P R r j).2 = [] ∧ prS k P R r (j + 1) = prS k P R r j ++ [[r.getD j 0]]) ∨ ((k = 5 → (cuS P R r j).2 ≠ []) ∧ ∃ A q, prS k P R r j = A ++ [q] ∧ prS k P R r (j + 1) = A ++ [q ++ [r.getD j 0]])) := by
  have mj : r.getD j 0 ∈ r := mem_gd.mp ⟨j, hj, rfl⟩
  by_cases c5 : k = 5
  · have e : ∀ i, prS k P R r i = finS (cuS P R r i) := fun i => if_pos c5
    rw [e, e, cuS_s hj]
    generalize cuS P R r j = q
    obtain ⟨d, c⟩ := q
    constructor
    · intro np
      have np' : ¬ cB (P (r.getD j 0)) = true := fun z => np (cB_t.mp z)
      by_cases g : c = []
      · rw [show stS P (d, c) (r.getD j 0) = (d, []) from (if_neg np').trans (if_pos g), g]
      · rw [show stS P (d, c) (r.getD j 0) = (d ++ [c], []) from (if_neg np').trans (if_neg g)]
        unfold finS
        rw [if_pos rfl, if_neg g]
    · intro p
      rw [show stS P (d, c) (r.getD j 0) = (d, c ++ [r.getD j 0]) from if_pos (cB_t.mpr p)]
      have ne : ¬ c ++ [r.getD j 0] = [] := by simp
      unfold finS
      rw [if_neg ne]
      by_cases g : c = []
      · refine Or.inl ⟨c5, g, ?_⟩
        rw [if_pos g, g]; rfl
      · refine Or.inr ⟨fun _ => g, d, c, ?_, rfl⟩
        rw [if_neg g]
  · by_cases c3 : k = 3 ∧ ¬ cB (P (r.getD 0 0)) = true
    · have e : ∀ i, prS k P R r i = R := fun i => (if_neg c5).trans (if_pos c3)
      rw [e, e]
      exact ⟨fun _ => rfl, fun p => (c3.2 (cB_t.mpr ((h3 c3.1 _ mj).mp p))).elim⟩
    · have e : ∀ i, prS k P R r i = R ++ [xW P (r.take i)] := fun i => (if_neg c5).trans (if_neg c3)
      rw [e, e, xW_s hj]
      constructor
      · intro np
        rw [if_neg (fun z => np (cB_t.mp z)), List.append_nil]
      · intro p
        rw [if_pos (cB_t.mpr p)]
        exact Or.inr ⟨fun z => (c5 z).elim, R, _, rfl, rfl⟩
