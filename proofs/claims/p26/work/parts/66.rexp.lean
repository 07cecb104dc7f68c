/-! trees as the reference lays them out: nodes below N, their lists below L -/
def nSt (s : Zr) (N L : Nat) (nt : Nat → Tr) : Prop := ∀ x, x < N → s 13 x = nI (tKd (tLab (nt x))) ∧ s 14 x = tNm (tLab (nt x)) ∧ s 16 x = nI (tLen (nt x)) ∧ ∃ f, s 15 x = nI f ∧ f + tLen (nt x) ≤ L ∧ ∀ j, j < tLen (nt x) → ∃ y, x < y ∧ y < N ∧ s 17 (f + j) = nI y ∧ nt y = tKid (nt x) j
abbrev sTr (a k : Nat) : Prop := (a = 0 ∧ (k = 15 ∨ k = 20)) ∨ (13 ≤ a ∧ a ≤ 18)
theorem rPc.only {S : Nat → Nat → Prop} {s s' : Zr} {p : Mp} (o : rOnly S s s') (h : rPc s p) (h7 : ¬ S 0 7) (h13 : ¬ S 0 13) (ha : ∀ a k, 7 ≤ a → a ≤ 12 → ¬ S a k) : rPc s' p := by
  obtain ⟨h1, h2, h3⟩ := h
  refine ⟨(o 0 7 h7).trans h1, (o 0 13 h13).trans h2, fun q hq => ?_⟩
  obtain ⟨a1, a2, a3, a4, a5, a6⟩ := h3 q hq
  exact ⟨(o 7 q (ha _ _ (by omega) (by omega))).trans a1, (o 8 q (ha _ _ (by omega) (by omega))).trans a2, (o 9 q (ha _ _ (by omega) (by omega))).trans a3, (o 10 q (ha _ _ (by omega) (by omega))).trans a4, (o 11 q (ha _ _ (by omega) (by omega))).trans a5, fun j hj => (o 12 _ (ha _ _ (by omega) (by omega))).trans (a6 j hj)⟩
theorem rPc.tr {s s' : Zr} {p : Mp} (o : rOnly sTr s s') (h : rPc s p) : rPc s' p := h.only o (by omega) (by omega) (fun a k h1 h2 => by omega)
/-! a piece as a tree of nodes -/
