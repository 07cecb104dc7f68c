/-! gathering, on the reference's side -/
def nk (s : Zr) (x j : Nat) : Nat := (s 17 ((s 15 x).toNatClampNeg + j)).toNatClampNeg
/-! sorting, on the reference's side -/
/-! the nodes of a tree, parts ahead -/
theorem nk_at {s : Zr} {x f j y : Nat} (h1 : s 15 x = nI f) (h2 : s 17 (f + j) = nI y) (hf : f < 2 ^ 31) (hy : y < 2 ^ 31) : nk s x j = y := by
  unfold nk
  rw [h1, nI_clamp hf, h2, nI_clamp hy]
section NPOST
variable {V : Nat → Prop} {s s' : Zr} {N L : Nat} {nt : Nat → Tr}
theorem nSq.kid (st : nSq V s N L nt) (hN : N ≤ 200) (hL : L ≤ 20000) {x j : Nat} (hx : x < N) (vx : V x) (hj : j < tLen (nt x)) : x < nk s x j ∧ V (nk s x j) ∧ nk s x j < N ∧ nt (nk s x j) = tKid (nt x) j := by
  obtain ⟨-, -, -, f, c4, c5, c6⟩ := st x hx vx
  obtain ⟨y, ⟨y1, y2⟩, y3, y4, y5⟩ := c6 j hj
  rw [nk_at c4 y4 (by omega) (by omega)]
  exact ⟨y1, y2, y3, y5⟩
end NPOST
/-- the ancestors of a node -/
def pI (par : Nat → Nat) : Nat → Nat → Nat
  | 0, z => z
  | n + 1, z => pI par n (par z)
theorem pI_add (par : Nat → Nat) : ∀ n m z, pI par (n + m) z = pI par m (pI par n z)
  | 0, m, z => by rw [Nat.zero_add]; rfl
  | n + 1, m, z => by
    rw [show n + 1 + m = (n + m) + 1 by omega]
    exact pI_add par n m (par z)
theorem pI_le {par : Nat → Nat} (h : ∀ z, par z ≤ z) : ∀ n z, pI par n z ≤ z
  | 0, _ => Nat.le_refl _
  | n + 1, z => Nat.le_trans (pI_le h n (par z)) (h z)
def pD (par : Nat → Nat) (z x : Nat) : Prop := ∃ n, pI par n z = x
theorem pD.le {par : Nat → Nat} (h : ∀ z, par z ≤ z) {z x : Nat} (d : pD par z x) : x ≤ z := by
  obtain ⟨n, rfl⟩ := d
  exact pI_le h n z
theorem pD.up {par : Nat → Nat} {z x : Nat} (d : pD par z x) : pD par z (par x) := by
  obtain ⟨n, rfl⟩ := d
  exact ⟨n + 1, pI_add par n 1 z⟩
