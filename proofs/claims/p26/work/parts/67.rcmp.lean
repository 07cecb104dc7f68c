/-! two nodes compared by the reference -/
theorem nSt.only {S : Nat → Nat → Prop} {s s' : Zr} {N L : Nat} {nt : Nat → Tr} (o : rOnly S s s') (st : nSt s N L nt) (hS : ∀ a k, 13 ≤ a → a ≤ 17 → ¬ S a k) : nSt s' N L nt := by
  intro x hx
  obtain ⟨c1, c2, c3, f, c4, c5, c6⟩ := st x hx
  refine ⟨(o _ _ (hS _ _ (by omega) (by omega))).trans c1, (o _ _ (hS _ _ (by omega) (by omega))).trans c2, (o _ _ (hS _ _ (by omega) (by omega))).trans c3, f, (o _ _ (hS _ _ (by omega) (by omega))).trans c4, c5, fun j hj => ?_⟩
  obtain ⟨y, y1, y2, y3, y4⟩ := c6 j hj
  exact ⟨y, y1, y2, (o _ _ (hS _ _ (by omega) (by omega))).trans y3, y4⟩
theorem nI_dec (k : Nat) : nI (k + 1) + (-1 : Int32) = nI k := pk_m1 k
