/-! a node made plain, on the reference's side -/
theorem tMk_app (lab : Nat) (l : List Tr) (x : Tr) : tMk lab (l ++ [x]) = .op (tMk lab l) x := by
  unfold tMk
  rw [List.foldl_append]
  rfl
theorem tMk_lab (lab : Nat) : ∀ l, tLab (tMk lab l) = lab := by
  apply snocT
  · rfl
  · intro l x ih
    rw [tMk_app]
    exact ih
theorem tMk_len (lab : Nat) : ∀ l, tLen (tMk lab l) = l.length := by
  apply snocT
  · rfl
  · intro l x ih
    rw [tMk_app, List.length_append]
    show tLen (tMk lab l) + 1 = _
    rw [ih]
    rfl
theorem tMk_G (lab : Nat) (h13 : 13 ≤ lab) (h16 : lab ≤ 16) : ∀ l, (∀ t, t ∈ l → tOK t) → tG (tMk lab l) := by
  apply snocT
  · intro _; exact h16
  · intro l x ih h
    rw [tMk_app]
    have hx := h x (by simp)
    exact ⟨by rw [tMk_lab]; exact h13, ih (fun t ht => h t (by simp [ht])), hx.1, hx.2⟩
theorem tFn_2 (lab : Nat) : ∀ l : List Tr, 2 ≤ l.length → tFn lab l = tMk lab l
  | [], h => absurd h (by decide)
  | [_], h => absurd h (by show ¬ 2 ≤ 1; decide)
  | _ :: _ :: _, _ => rfl
