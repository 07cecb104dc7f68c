/-! pieces, as numbers -/
abbrev Mp : Type := Nat × (Nat → Nat) × (Nat → Int32) × (Nat → List Nat) × (Nat → Nat)
def pn (p : Mp) : Nat := p.1
def pkd (p : Mp) : Nat → Nat := p.2.1
def pnm (p : Mp) : Nat → Int32 := p.2.2.1
def ppt (p : Mp) : Nat → List Nat := p.2.2.2.1
def psz (p : Mp) : Nat → Nat := p.2.2.2.2
def pSum (z : Nat → Nat) (l : List Nat) : Nat := l.foldl (fun a q => a + z q) 0
def pAll (p : Mp) : Nat → Nat
  | 0 => 0
  | n + 1 => pAll p n + (ppt p n).length
def pOK (p : Mp) : Prop := pn p ≤ 200 ∧ ∀ q, q < pn p → pkd p q ≤ 5 ∧ (∀ j, j ∈ ppt p q → j < q) ∧ psz p q = 1 + pSum (psz p) (ppt p q) ∧ psz p q ≤ 60 ∧
  ((pkd p q = 0 ∧ mnm (pnm p q) 12 ∧ ppt p q = []) ∨ (pkd p q = 1 ∧ pnm p q = -3 ∧ ppt p q = []) ∨ (2 ≤ pkd p q ∧ pnm p q = -3 ∧ 2 ≤ (ppt p q).length))
def rPc (s : Zr) (p : Mp) : Prop := s 0 7 = nI (pn p) ∧ s 0 13 = nI (pAll p (pn p)) ∧ ∀ q, q < pn p → s 7 q = nI (pkd p q) ∧ s 8 q = pnm p q ∧ s 9 q = nI (pAll p q) ∧ s 10 q = nI (ppt p q).length ∧ s 11 q = nI (psz p q) ∧ ∀ j, j < (ppt p q).length → s 12 (pAll p q + j) = nI ((ppt p q).getD j 0)
theorem pSum_c (z : Nat → Nat) : ∀ (l : List Nat) (a : Nat), l.foldl (fun a q => a + z q) a = a + pSum z l
  | [], a => rfl
  | x :: l, a => by
    show l.foldl _ (a + z x) = a + l.foldl _ (0 + z x)
    rw [pSum_c z l (a + z x), pSum_c z l (0 + z x)]
    omega
theorem pSum_cons (z : Nat → Nat) (x : Nat) (l : List Nat) : pSum z (x :: l) = z x + pSum z l := by
  show l.foldl _ (0 + z x) = _
  rw [pSum_c z l (0 + z x)]
  omega
theorem pSum_app (z : Nat → Nat) (l : List Nat) (x : Nat) : pSum z (l ++ [x]) = pSum z l + z x := by
  unfold pSum
  rw [List.foldl_append]
  rfl
theorem pSum_len (z : Nat → Nat) : ∀ l : List Nat, (∀ j, j ∈ l → 1 ≤ z j) → l.length ≤ pSum z l
  | [], _ => Nat.zero_le _
  | x :: l, h => by
    have := pSum_len z l (fun j hj => h j (List.mem_cons_of_mem _ hj))
    have h1 := h x List.mem_cons_self
    rw [pSum_cons, List.length_cons]
    omega
theorem pSum_congr (z z' : Nat → Nat) : ∀ l : List Nat, (∀ j, j ∈ l → z j = z' j) → pSum z l = pSum z' l
  | [], _ => rfl
  | x :: l, h => by rw [pSum_cons, pSum_cons, h x List.mem_cons_self, pSum_congr z z' l (fun j hj => h j (List.mem_cons_of_mem _ hj))]
theorem psz_1 {p : Mp} (ok : pOK p) {q : Nat} (hq : q < pn p) : 1 ≤ psz p q := by
  have := (ok.2 q hq).2.2.1
  omega
theorem plen_60 {p : Mp} (ok : pOK p) {q : Nat} (hq : q < pn p) : (ppt p q).length < 60 := by
  obtain ⟨_, h2, h3, h4, _⟩ := ok.2 q hq
  have := pSum_len (psz p) (ppt p q) (fun j hj => psz_1 ok (by have := h2 j hj; omega))
  omega
