/-! found on the reference's side: a node becomes a cut of its rows -/
theorem rRb.on {S : Nat → Nat → Prop} {s s' : Zr} {f W W' : Nat} {l : Rw} (o : rOnly S s s') (h : rRb s f l W) (h33 : ∀ k, k < f + l.length → ¬ S 33 k ∧ ¬ S 34 k) (h35 : ∀ k, k < W → ¬ S 35 k) (hW : W ≤ W') : rRb s' f l W' := fun i hi => by
  obtain ⟨g, g1, g2, g3, g4⟩ := h i hi
  exact ⟨g, (o _ _ (h33 _ (by omega)).1).trans g1, (o _ _ (h33 _ (by omega)).2).trans g2, by omega, fun j hj => (o _ _ (h35 _ (by omega))).trans (g4 j hj)⟩
/-- a node whose rows are there -/
def nPd (s : Zr) (D F W y : Nat) (l : Rw) : Prop := s 14 y = -3 ∧ s 16 y = 0 ∧ (∃ g, s 15 y = nI g ∧ g ≤ D) ∧ ∃ f, s 31 y = nI f ∧ s 32 y = nI l.length ∧ f + l.length ≤ F ∧ rRb s f l W
theorem nPd.on {S : Nat → Nat → Prop} {s s' : Zr} {D F W D' F' W' y : Nat} {l : Rw} (o : rOnly S s s') (h : nPd s D F W y l) (h1 : ¬ S 14 y ∧ ¬ S 15 y ∧ ¬ S 16 y ∧ ¬ S 31 y ∧ ¬ S 32 y) (h33 : ∀ k, k < F → ¬ S 33 k ∧ ¬ S 34 k) (h35 : ∀ k, k < W → ¬ S 35 k) (hD : D ≤ D') (hF : F ≤ F') (hW : W ≤ W') : nPd s' D' F' W' y l := by
  obtain ⟨a1, a2, ⟨g, a7, a8⟩, f, a3, a4, a5, a6⟩ := h
  exact ⟨(o _ _ h1.1).trans a1, (o _ _ h1.2.2.1).trans a2, ⟨g, (o _ _ h1.2.1).trans a7, by omega⟩, f, (o _ _ h1.2.2.2.1).trans a3, (o _ _ h1.2.2.2.2).trans a4, by omega, a6.on o (fun k hk => h33 k (by omega)) h35 hW⟩
