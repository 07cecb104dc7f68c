/-! found on the reference's side: rows of a node, and what is seen in them -/
def isB (x : Int32) (p : Prop) : Prop := (x = 0 ∨ x = 1) ∧ (x = 0 ↔ ¬ p)
theorem isB.c {x : Int32} {p q : Prop} (h : isB x p) (e : p ↔ q) : isB x q := ⟨h.1, h.2.trans ⟨fun a b => a (e.2 b), fun a b => a (e.1 b)⟩⟩
theorem isB.t {p : Prop} (h : p) : isB 1 p := ⟨Or.inr rfl, ⟨fun z => absurd z (by decide), fun z => (z h).elim⟩⟩
theorem isB.f {p : Prop} (h : ¬ p) : isB 0 p := ⟨Or.inl rfl, ⟨fun _ => h, fun _ => rfl⟩⟩
theorem isB.p {x : Int32} {p : Prop} (h : isB x p) (hx : ¬ x = 0) : p := Classical.byContradiction fun n => hx (h.2.mpr n)
theorem isB.n {x : Int32} {p : Prop} (h : isB x p) (hx : x = 0) : ¬ p := h.2.mp hx
def rRow (s : Zr) (f : Nat) (l : Rw) : Prop := ∀ i, i < l.length → ∃ g, s 33 (f + i) = nI g ∧ s 34 (f + i) = nI (l.getD i []).length ∧ g + (l.getD i []).length ≤ 12000 ∧ ∀ j, j < (l.getD i []).length → s 35 (g + j) = nI ((l.getD i []).getD j 0)
theorem rRow.only {S : Nat → Nat → Prop} {s s' : Zr} {f : Nat} {l : Rw} (e : rOnly S s s') (h : rRow s f l) (hS : ∀ a k, 33 ≤ a → a ≤ 35 → ¬ S a k) : rRow s' f l := fun i hi => by
  obtain ⟨g, h1, h2, h3, h4⟩ := h i hi
  exact ⟨g, (e 33 _ (hS _ _ (by omega) (by omega))).trans h1, (e 34 _ (hS _ _ (by omega) (by omega))).trans h2, h3, fun j hj => (e 35 _ (hS _ _ (by omega) (by omega))).trans (h4 j hj)⟩
def LK (s : Zr) (N B E : Nat → Prop) (G : Nat → Nat → Prop) : Prop := (∀ v, v < 12 → isB (s 37 v) (N v) ∧ isB (s 38 v) (B v) ∧ isB (s 39 v) (E v)) ∧ ∀ u v, u < 12 → v < 12 → isB (s 36 (12 * v + u)) (G u v)
theorem LK.c {s : Zr} {N B E N' B' E' : Nat → Prop} {G G' : Nat → Nat → Prop} (h : LK s N B E G) (h1 : ∀ v, N v ↔ N' v) (h2 : ∀ v, B v ↔ B' v) (h3 : ∀ v, E v ↔ E' v) (h4 : ∀ u v, G u v ↔ G' u v) : LK s N' B' E' G' :=
  ⟨fun v hv => ⟨(h.1 v hv).1.c (h1 v), (h.1 v hv).2.1.c (h2 v), (h.1 v hv).2.2.c (h3 v)⟩, fun u v hu hv => (h.2 u v hu hv).c (h4 u v)⟩
theorem LK.only {S : Nat → Nat → Prop} {s s' : Zr} {N B E : Nat → Prop} {G : Nat → Nat → Prop} (e : rOnly S s s') (h : LK s N B E G) (hS : ∀ a k, 36 ≤ a → a ≤ 39 → ¬ S a k) : LK s' N B E G :=
  ⟨fun v hv => by rw [e 37 v (hS _ _ (by omega) (by omega)), e 38 v (hS _ _ (by omega) (by omega)), e 39 v (hS _ _ (by omega) (by omega))]; exact h.1 v hv, fun u v hu hv => by rw [e 36 _ (hS _ _ (by omega) (by omega))]; exact h.2 u v hu hv⟩
/-- what is seen in rows up to the i-th, and in j names of it -/
def pN (l : Rw) (i j : Nat) (v : Nat) : Prop := (∃ a, a < i ∧ a < l.length ∧ ∃ k, k < (l.getD a []).length ∧ (l.getD a []).getD k 0 = v) ∨ ∃ k, k < j ∧ (l.getD i []).getD k 0 = v
def pB (l : Rw) (i j : Nat) (v : Nat) : Prop := (∃ a, a < i ∧ a < l.length ∧ 0 < (l.getD a []).length ∧ (l.getD a []).getD 0 0 = v) ∨ (0 < j ∧ (l.getD i []).getD 0 0 = v)
def pE (l : Rw) (i j : Nat) (v : Nat) : Prop := (∃ a, a < i ∧ a < l.length ∧ ∃ k, k + 1 = (l.getD a []).length ∧ (l.getD a []).getD k 0 = v) ∨ ∃ k, k < j ∧ k + 1 = (l.getD i []).length ∧ (l.getD i []).getD k 0 = v
def pG (l : Rw) (i j : Nat) (u v : Nat) : Prop := (∃ a, a < i ∧ a < l.length ∧ ∃ k, k + 1 < (l.getD a []).length ∧ (l.getD a []).getD k 0 = u ∧ (l.getD a []).getD (k + 1) 0 = v) ∨ ∃ k, k + 1 < j ∧ (l.getD i []).getD k 0 = u ∧ (l.getD i []).getD (k + 1) 0 = v
theorem ex_row {l : Rw} {Q : List Nat → Prop} : (∃ a, a < l.length ∧ Q (l.getD a [])) ↔ ∃ r, r ∈ l ∧ Q r := by
  constructor
  · rintro ⟨a, h1, h2⟩
    rw [List.getD_eq_getElem?_getD, List.getElem?_eq_getElem h1] at h2
    exact ⟨_, List.getElem_mem h1, h2⟩
  · rintro ⟨r, h1, h2⟩
    obtain ⟨a, h3, h4⟩ := List.getElem_of_mem h1
    exact ⟨a, h3, by rw [List.getD_eq_getElem?_getD, List.getElem?_eq_getElem h3]; show Q (l[a]); rw [h4]; exact h2⟩
theorem k12 {i : Nat} (h : i < 12) : ¬ (12 : Int32) ≤ nI i := nI_nle' (b := 12) (by omega) h
theorem e12 : (12 : Int32) ≤ nI 12 := by decide
/-! found on the reference's side: who reaches whom -/
def T2 (s : Zr) (a : Nat) (T : Nat → Nat → Prop) : Prop := ∀ u v, u < 12 → v < 12 → isB (s a (12 * u + v)) (T u v)
theorem T2.only {S : Nat → Nat → Prop} {s s' : Zr} {a : Nat} {T : Nat → Nat → Prop} (e : rOnly S s s') (h : T2 s a T) (hS : ∀ k, ¬ S a k) : T2 s' a T := fun u v hu hv => by rw [e a _ (hS _)]; exact h u v hu hv
/-- new up to the m-th cell, old from there -/
def nw (T T' : Nat → Nat → Prop) (m u v : Nat) : Prop := (12 * u + v < m ∧ T' u v) ∨ (¬ 12 * u + v < m ∧ T u v)
