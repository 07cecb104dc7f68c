/-! found on the reference's side: nodes that are done, nodes to come -/
def fDn (s : Zr) (N D : Nat) (nt : Nat → Tr) (par : Nat → Nat) (x : Nat) : Prop := s 13 x = nI (tKd (tLab (nt x))) ∧ s 14 x = tNm (tLab (nt x)) ∧ s 16 x = nI (tLen (nt x)) ∧ ∃ f y0, s 15 x = nI f ∧ (f + tLen (nt x) ≤ D ∧ x < y0 ∧ y0 + tLen (nt x) ≤ N) ∧ ∀ j, j < tLen (nt x) → s 17 (f + j) = nI (y0 + j) ∧ nt (y0 + j) = tKid (nt x) j ∧ par (y0 + j) = x
theorem lfO.dn {s : Zr} {N D y v : Nat} {nt : Nat → Tr} {par : Nat → Nat} (h : lfO s D y (nI (tKd v)) (tNm v)) (hy : y < N) (e : nt y = .var v) : fDn s N D nt par y := by
  obtain ⟨a1, a2, a3, -, f, a5, a6⟩ := h
  unfold fDn
  rw [e]
  exact ⟨a1, a2, a3.trans nI_0.symm, f, N, a5, ⟨a6, hy, Nat.le_refl _⟩, fun j hj => absurd (show j < 0 from hj) (Nat.not_lt_zero _)⟩
