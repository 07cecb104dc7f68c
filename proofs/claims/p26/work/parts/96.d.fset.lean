/-! found on the reference's side: a node is settled -/
theorem xFnd_0 {n : Nat} {l : Rw} (h : (xNe l).length = 0) : xFnd n l = .var 12 := by
  cases n with
  | zero => rfl
  | succ n => unfold xFnd; rw [if_pos h]
theorem mapP_gd {α β : Type} (f : α → β) (d : β) (d' : α) : ∀ (l : List α) (i : Nat), i < l.length → (l.map f).getD i d = f (l.getD i d')
  | [], _, h => absurd h (Nat.not_lt_zero _)
  | _ :: _, 0, _ => rfl
  | _ :: l, i + 1, h => mapP_gd f d d' l i (Nat.lt_of_succ_lt_succ h)
theorem gd_memP {α : Type} {d : α} : ∀ {l : List α} {i : Nat}, i < l.length → l.getD i d ∈ l
  | [], _, h => absurd h (Nat.not_lt_zero _)
  | _ :: _, 0, _ => List.mem_cons_self
  | _ :: _, i + 1, h => List.mem_cons_of_mem _ (gd_memP (Nat.lt_of_succ_lt_succ h))
theorem nmL_1 {S : Nat → Prop} (h : (nmL S).length = 1) {v : Nat} (hv : v < 12) (hs : S v) : v = (nmL S).getD 0 0 := by
  obtain ⟨i, h1, h2⟩ := mem_gd.mpr (nmL_mem.mpr ⟨hv, hs⟩)
  have : i = 0 := by omega
  subst this
  exact h2.symm
