/-! the log, as numbers: how many cases, how long, dropped, what each deed tells (0 name, 1 hand, 2 begin, 3 end) -/
abbrev Ml : Type := Nat × (Nat → Nat) × (Nat → Bool) × (Nat → Nat → Nat → Int32)
def mnc (m : Ml) : Nat := m.1
def mlen (m : Ml) : Nat → Nat := m.2.1
def mdr (m : Ml) : Nat → Bool := m.2.2.1
def mdt (m : Ml) : Nat → Nat → Nat → Int32 := m.2.2.2
abbrev mtm (x : Int32) : Prop := -1 ≤ x.toInt ∧ x.toInt ≤ 1000000
abbrev mnm (x : Int32) (n : Nat) : Prop := 0 ≤ x.toInt ∧ x.toInt < n
def mOK (m : Ml) : Prop := mnc m ≤ 24 ∧ (∀ c, mlen m c ≤ 6) ∧ (∀ c, mnc m ≤ c → mlen m c = 0 ∧ mdr m c = false) ∧ ∀ c i, i < mlen m c → mnm (mdt m c i 0) 12 ∧ mnm (mdt m c i 1) 8 ∧ mtm (mdt m c i 2) ∧ mtm (mdt m c i 3)
def rLog (s : Zr) (m : Ml) : Prop := s 0 0 = nI (mnc m) ∧ (∀ c, c < 24 → s 1 c = nI (mlen m c) ∧ s 2 c = b2 (mdr m c = true)) ∧ ∀ c i, c < 24 → i < mlen m c → ∀ w, w < 4 → s (3 + w) (6 * c + i) = mdt m c i w
theorem mnm_nI {x : Int32} {n : Nat} (h : mnm x n) : x = nI x.toNatClampNeg ∧ x.toNatClampNeg < n := by
  have h0 : ¬ x < 0 := fun z => by have := Int32.lt_iff_toInt_lt.mp z; have h1 := h.1; simp at this; omega
  obtain ⟨j, hj, e⟩ := nI_of h0
  have e2 : x.toNatClampNeg = j := by rw [e, nI_clamp hj]
  have e3 : x.toInt = (j : Int) := by rw [e, nI_toInt hj]
  have := h.2
  exact ⟨by rw [e2]; exact e, by omega⟩
theorem nI_mnm {k n : Nat} (h : k < n) (hn : n < 2 ^ 31) : mnm (nI k) n := by
  unfold mnm
  rw [nI_toInt (by omega)]
  omega
/-! what the calls do to it -/
def m1 {α : Type} (f : Nat → α) (a : Nat) (v : α) : Nat → α := fun x => if x = a then v else f x
def mOpen (m : Ml) : Int32 × Ml := if mnc m = 24 then (-2, m) else (nI (mnc m), (mnc m + 1, mlen m, mdr m, mdt m))
def mFour (a b c d : Int32) (w : Nat) : Int32 := if w = 0 then a else if w = 1 then b else if w = 2 then c else d
def mAdd (m : Ml) (c n h b e : Int32) : Int32 × Ml :=
  if mnm c (mnc m) ∧ mdr m c.toNatClampNeg = false ∧ mnm n 12 ∧ mnm h 8 ∧ mtm b ∧ mtm e then
    if mlen m c.toNatClampNeg = 6 then (-2, m)
    else (nI (mlen m c.toNatClampNeg + 1), (mnc m, m1 (mlen m) c.toNatClampNeg (mlen m c.toNatClampNeg + 1), mdr m, m1 (mdt m) c.toNatClampNeg (m1 (mdt m c.toNatClampNeg) (mlen m c.toNatClampNeg) (mFour n h b e))))
  else (-1, m)
def mCut (m : Ml) (c : Int32) : Int32 × Ml :=
  if mnm c (mnc m) ∧ mdr m c.toNatClampNeg = false ∧ mlen m c.toNatClampNeg ≠ 0 then (nI (mlen m c.toNatClampNeg - 1), (mnc m, m1 (mlen m) c.toNatClampNeg (mlen m c.toNatClampNeg - 1), mdr m, mdt m))
  else (-1, m)
def mDrop (m : Ml) (c x : Int32) : Int32 × Ml :=
  if mnm c (mnc m) then (b2 (mdr m c.toNatClampNeg = true), (mnc m, mlen m, m1 (mdr m) c.toNatClampNeg (decide (¬ x = 0)), mdt m)) else (-1, m)
def mTold (m : Ml) (c i w : Int32) : Int32 :=
  if mnm c (mnc m) then
    if i = -1 then (if w = 0 then nI (mlen m c.toNatClampNeg) else if w = 1 then b2 (mdr m c.toNatClampNeg = true) else -9)
    else if mnm i (mlen m c.toNatClampNeg) ∧ mnm w 4 then mdt m c.toNatClampNeg i.toNatClampNeg w.toNatClampNeg else -9
  else -9
