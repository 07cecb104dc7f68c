/-! found on the reference's side: leaves, a loop of two, a flower, a choice of silence and the rest -/
def lfO (s : Zr) (D y : Nat) (k n : Int32) : Prop := s 13 y = k ∧ s 14 y = n ∧ s 16 y = 0 ∧ s 32 y = -1 ∧ ∃ f, s 15 y = nI f ∧ f ≤ D
theorem lfO.on {S : Nat → Nat → Prop} {s s' : Zr} {D D' y : Nat} {k n : Int32} (o : rOnly S s s') (h : lfO s D y k n) (h1 : ∀ a, (13 ≤ a ∧ a ≤ 16) ∨ a = 32 → ¬ S a y) (hD : D ≤ D') : lfO s' D' y k n := by
  obtain ⟨a1, a2, a3, a4, f, a5, a6⟩ := h
  exact ⟨(o _ _ (h1 _ (by omega))).trans a1, (o _ _ (h1 _ (by omega))).trans a2, (o _ _ (h1 _ (by omega))).trans a3, (o _ _ (h1 _ (by omega))).trans a4, f, (o _ _ (h1 _ (by omega))).trans a5, by omega⟩
