/-! found on the reference's side: rows of a node, and what is seen in them -/
def isB (x : Int32) (p : Prop) : Prop := (x = 0 ∨ x = 1) ∧ (x = 0 ↔ ¬ p)
theorem isB.c {x : Int32} {p q : Prop} (h : isB x p) (e : p ↔ q) : isB x q := ⟨h.1, h.2.trans ⟨fun a b => a (e.2 b), fun a b => a (e.1 b)⟩⟩
theorem isB.t {p : Prop} (h : p) : isB 1 p := ⟨Or.inr rfl, ⟨fun z => absurd z (by decide), fun z => (z h).elim⟩⟩
theorem isB.f {p : Prop} (h : ¬ p) : isB 0 p := ⟨Or.inl rfl, ⟨fun _ => h, fun _ => rfl⟩⟩
theorem isB.p {x : Int32} {p : Prop} (h : isB x p) (hx : ¬ x = 0) : p := Classical.byContradiction fun n => hx (h.2.mpr n)
theorem isB.n {x : Int32} {p : Prop} (h : isB x p) (hx : x = 0) : ¬ p := h.2.mp hx
def rRow (s : Zr) (f : Nat) (l : Rw) : Prop := ∀ i, i < l.length → ∃ g, s 33 (f + i) = nI g ∧ s 34 (f + i) = nI (l.getD i []).length ∧ g + (l.getD i []).length ≤ 12000 ∧ ∀ j, j < (l.getD i []).length → s 35 (g + j) = nI ((l.getD i []).getD j 0)
theorem rRow.only {S : Nat → Nat → Prop} {s s' : Zr} {f : Nat} {l : Rw} (e : rOnly S s s') (h : rRow s f l) (hS : ∀ a k, 33 ≤ a → a ≤ 35 → ¬ S a k) : rRow s' f l := fun i hi => by
  obtain ⟨g, h1, h2, h3, h4⟩ := h i hi
  exact ⟨g, (e 33 _ (hS _ _ (by omega) (by omega))).trans h1, (e 34 _ (hS _ _ (by omega) (by omega))).trans h2, h3, fun j hj => (e 35 _ (hS _ _ (by omega) (by omega))).trans (h4 j hj)⟩
def LK (s : Zr) (N B E : Nat → Prop) (G : Nat → Nat → Prop) : Prop := (∀ v, v < 12 → isB (s 37 v) (N v) ∧ isB (s 38 v) (B v) ∧ isB (s 39 v) (E v)) ∧ ∀ u v, u < 12 → v < 12 → isB (s 36 (12 * v + u)) (G u v)
theorem LK.c {s : Zr} {N B E N' B' E' : Nat → Prop} {G G' : Nat → Nat → Prop} (h : LK s N B E G) (h1 : ∀ v, N v ↔ N' v) (h2 : ∀ v, B v ↔ B' v) (h3 : ∀ v, E v ↔ E' v) (h4 : ∀ u v, G u v ↔ G' u v) : LK s N' B' E' G' :=
  ⟨fun v hv => ⟨(h.1 v hv).1.c (h1 v), (h.1 v hv).2.1.c (h2 v), (h.1 v hv).2.2.c (h3 v)⟩, fun u v hu hv => (h.2 u v hu hv).c (h4 u v)⟩
theorem LK.only {S : Nat → Nat → Prop} {s s' : Zr} {N B E : Nat → Prop} {G : Nat → Nat → Prop} (e : rOnly S s s') (h : LK s N B E G) (hS : ∀ a k, 36 ≤ a → a ≤ 39 → ¬ S a k) : LK s' N B E G :=
  ⟨fun v hv => by rw [e 37 v (hS _ _ (by omega) (by omega)), e 38 v (hS _ _ (by omega) (by omega)), e 39 v (hS _ _ (by omega) (by omega))]; exact h.1 v hv, fun u v hu hv => by rw [e 36 _ (hS _ _ (by omega) (by omega))]; exact h.2 u v hu hv⟩
/-- what is seen in rows up to the i-th, and in j names of it -/
def pN (l : Rw) (i j : Nat) (v : Nat) : Prop := (∃ a, a < i ∧ a < l.length ∧ ∃ k, k < (l.getD a []).length ∧ (l.getD a []).getD k 0 = v) ∨ ∃ k, k < j ∧ (l.getD i []).getD k 0 = v
def pB (l : Rw) (i j : Nat) (v : Nat) : Prop := (∃ a, a < i ∧ a < l.length ∧ 0 < (l.getD a []).length ∧ (l.getD a []).getD 0 0 = v) ∨ (0 < j ∧ (l.getD i []).getD 0 0 = v)
def pE (l : Rw) (i j : Nat) (v : Nat) : Prop := (∃ a, a < i ∧ a < l.length ∧ ∃ k, k + 1 = (l.getD a []).length ∧ (l.getD a []).getD k 0 = v) ∨ ∃ k, k < j ∧ k + 1 = (l.getD i []).length ∧ (l.getD i []).getD k 0 = v
def pG (l : Rw) (i j : Nat) (u v : Nat) : Prop := (∃ a, a < i ∧ a < l.length ∧ ∃ k, k + 1 < (l.getD a []).length ∧ (l.getD a []).getD k 0 = u ∧ (l.getD a []).getD (k + 1) 0 = v) ∨ ∃ k, k + 1 < j ∧ (l.getD i []).getD k 0 = u ∧ (l.getD i []).getD (k + 1) 0 = v
theorem ex_row {l : Rw} {Q : List Nat → Prop} : (∃ a, a < l.length ∧ Q (l.getD a [])) ↔ ∃ r, r ∈ l ∧ Q r := by
  constructor
  · rintro ⟨a, h1, h2⟩
    rw [List.getD_eq_getElem?_getD, List.getElem?_eq_getElem h1] at h2
    exact ⟨_, List.getElem_mem h1, h2⟩
  · rintro ⟨r, h1, h2⟩
    obtain ⟨a, h3, h4⟩ := List.getElem_of_mem h1
    exact ⟨a, h3, by rw [List.getD_eq_getElem?_getD, List.getElem?_eq_getElem h3]; show Q (l[a]); rw [h4]; exact h2⟩
theorem ex_lt {n : Nat} {P : Nat → Prop} {Q : Nat → Prop} : (∃ a, a < n + 1 ∧ Q a) ↔ (∃ a, a < n ∧ Q a) ∨ Q n := by
  constructor
  · rintro ⟨a, h1, h2⟩
    by_cases c : a = n
    · subst c; exact Or.inr h2
    · exact Or.inl ⟨a, by omega, h2⟩
  · rintro (⟨a, h1, h2⟩ | h)
    · exact ⟨a, by omega, h2⟩
    · exact ⟨n, by omega, h⟩
theorem LK_row {s : Zr} {l : Rw} {i : Nat} (hi : i < l.length) (h : LK s (pN l i (l.getD i []).length) (pB l i (l.getD i []).length) (pE l i (l.getD i []).length) (pG l i (l.getD i []).length)) : LK s (pN l (i + 1) 0) (pB l (i + 1) 0) (pE l (i + 1) 0) (pG l (i + 1) 0) := by
  refine h.c (fun v => ?_) (fun v => ?_) (fun v => ?_) (fun u v => ?_)
  · unfold pN
    constructor
    · rintro (⟨a, a1, a2⟩ | ⟨k, k1, k2⟩)
      · exact Or.inl ⟨a, by omega, a2⟩
      · exact Or.inl ⟨i, by omega, hi, k, k1, k2⟩
    · rintro (⟨a, a1, a2, k, k1, k2⟩ | ⟨k, k1, k2⟩)
      · by_cases c : a = i
        · subst c; exact Or.inr ⟨k, k1, k2⟩
        · exact Or.inl ⟨a, by omega, a2, k, k1, k2⟩
      · omega
  · unfold pB
    constructor
    · rintro (⟨a, a1, a2⟩ | ⟨k1, k2⟩)
      · exact Or.inl ⟨a, by omega, a2⟩
      · exact Or.inl ⟨i, by omega, hi, k1, k2⟩
    · rintro (⟨a, a1, a2, k1, k2⟩ | ⟨k1, k2⟩)
      · by_cases c : a = i
        · subst c; exact Or.inr ⟨k1, k2⟩
        · exact Or.inl ⟨a, by omega, a2, k1, k2⟩
      · omega
  · unfold pE
    constructor
    · rintro (⟨a, a1, a2⟩ | ⟨k, k1, k2, k3⟩)
      · exact Or.inl ⟨a, by omega, a2⟩
      · exact Or.inl ⟨i, by omega, hi, k, k2, k3⟩
    · rintro (⟨a, a1, a2, k, k1, k2⟩ | ⟨k, k1, k2⟩)
      · by_cases c : a = i
        · subst c; exact Or.inr ⟨k, by omega, k1, k2⟩
        · exact Or.inl ⟨a, by omega, a2, k, k1, k2⟩
      · omega
  · unfold pG
    constructor
    · rintro (⟨a, a1, a2⟩ | ⟨k, k1, k2, k3⟩)
      · exact Or.inl ⟨a, by omega, a2⟩
      · exact Or.inl ⟨i, by omega, hi, k, k1, k2, k3⟩
    · rintro (⟨a, a1, a2, k, k1, k2⟩ | ⟨k, k1, k2⟩)
      · by_cases c : a = i
        · subst c; exact Or.inr ⟨k, k1, k2⟩
        · exact Or.inl ⟨a, by omega, a2, k, k1, k2⟩
      · omega
theorem LK_end {s : Zr} {l : Rw} (h : LK s (pN l l.length 0) (pB l l.length 0) (pE l l.length 0) (pG l l.length 0)) : LK s (xN l) (xB l) (xE l) (xG l) := by
  refine h.c (fun v => ?_) (fun v => ?_) (fun v => ?_) (fun u v => ?_)
  · refine Iff.trans ?_ (ex_row (Q := fun r => ∃ i, i < r.length ∧ r.getD i 0 = v))
    exact ⟨fun z => z.elim (fun ⟨a, a1, _, a2⟩ => ⟨a, a1, a2⟩) (fun ⟨k, k1, _⟩ => absurd k1 (Nat.not_lt_zero _)), fun ⟨a, a1, a2⟩ => Or.inl ⟨a, a1, a1, a2⟩⟩
  · refine Iff.trans ?_ (ex_row (Q := fun r => 0 < r.length ∧ r.getD 0 0 = v))
    exact ⟨fun z => z.elim (fun ⟨a, a1, _, a2⟩ => ⟨a, a1, a2⟩) (fun ⟨k1, _⟩ => absurd k1 (Nat.not_lt_zero _)), fun ⟨a, a1, a2⟩ => Or.inl ⟨a, a1, a1, a2⟩⟩
  · refine Iff.trans ?_ (ex_row (Q := fun r => ∃ i, i + 1 = r.length ∧ r.getD i 0 = v))
    exact ⟨fun z => z.elim (fun ⟨a, a1, _, a2⟩ => ⟨a, a1, a2⟩) (fun ⟨k, k1, _⟩ => absurd k1 (Nat.not_lt_zero _)), fun ⟨a, a1, a2⟩ => Or.inl ⟨a, a1, a1, a2⟩⟩
  · refine Iff.trans ?_ (ex_row (Q := fun r => ∃ i, i + 1 < r.length ∧ r.getD i 0 = u ∧ r.getD (i + 1) 0 = v))
    exact ⟨fun z => z.elim (fun ⟨a, a1, _, a2⟩ => ⟨a, a1, a2⟩) (fun ⟨k, k1, _⟩ => absurd k1 (Nat.not_lt_zero _)), fun ⟨a, a1, a2⟩ => Or.inl ⟨a, a1, a1, a2⟩⟩
theorem ex_k {j : Nat} {Q : Nat → Prop} : (∃ k, k < j + 1 ∧ Q k) ↔ (∃ k, k < j ∧ Q k) ∨ Q j := ex_lt (P := Q)
theorem k12 {i : Nat} (h : i < 12) : ¬ (12 : Int32) ≤ nI i := nI_nle' (b := 12) (by omega) h
theorem e12 : (12 : Int32) ≤ nI 12 := by decide
theorem k144 {i : Nat} (h : i < 144) : ¬ (144 : Int32) ≤ nI i := nI_nle' (b := 144) (by omega) h
theorem e144 : (144 : Int32) ≤ nI 144 := by decide
theorem m12 (x y : Nat) : (12 : Int32) * nI x + nI y = nI (12 * x + y) := by rw [show (12 : Int32) = nI 12 from rfl, pk_mul, nI_add]
theorem ix_12 {a b c d : Nat} (h1 : b < 12) (h2 : d < 12) (h : 12 * a + b = 12 * c + d) : a = c ∧ b = d := by omega
theorem LK_step {s : Zr} {l : Rw} {i j x : Nat} {b e : Int32} (hx : (l.getD i []).getD j 0 = x) (x12 : x < 12) (h : LK s (pN l i j) (pB l i j) (pE l i j) (pG l i j)) (hb : isB b (pB l i (j + 1) x)) (he : isB e (pE l i (j + 1) x)) :
    (j = 0 → LK (u2 (u2 (u2 s 37 x 1) 38 x b) 39 x e) (pN l i (j + 1)) (pB l i (j + 1)) (pE l i (j + 1)) (pG l i (j + 1))) ∧ ∀ y, 0 < j → (l.getD i []).getD (j - 1) 0 = y → y < 12 → LK (u2 (u2 (u2 (u2 s 37 x 1) 38 x b) 39 x e) 36 (12 * x + y) 1) (pN l i (j + 1)) (pB l i (j + 1)) (pE l i (j + 1)) (pG l i (j + 1)) := by
  have hN : ∀ v, v ≠ x → (pN l i j v ↔ pN l i (j + 1) v) := fun v ne => by
    unfold pN
    refine ⟨fun z => z.elim Or.inl (fun ⟨k, k1, k2⟩ => Or.inr ⟨k, by omega, k2⟩), fun z => z.elim Or.inl (fun ⟨k, k1, k2⟩ => ?_)⟩
    by_cases c : k = j
    · subst c; exact (ne (k2.symm.trans hx)).elim
    · exact Or.inr ⟨k, by omega, k2⟩
  have hB : ∀ v, v ≠ x → (pB l i j v ↔ pB l i (j + 1) v) := fun v ne => by
    unfold pB
    refine ⟨fun z => z.elim Or.inl (fun ⟨k1, k2⟩ => Or.inr ⟨by omega, k2⟩), fun z => z.elim Or.inl (fun ⟨k1, k2⟩ => ?_)⟩
    by_cases c : j = 0
    · subst c; exact (ne (k2.symm.trans hx)).elim
    · exact Or.inr ⟨by omega, k2⟩
  have hE : ∀ v, v ≠ x → (pE l i j v ↔ pE l i (j + 1) v) := fun v ne => by
    unfold pE
    refine ⟨fun z => z.elim Or.inl (fun ⟨k, k1, k2⟩ => Or.inr ⟨k, by omega, k2⟩), fun z => z.elim Or.inl (fun ⟨k, k1, k2, k3⟩ => ?_)⟩
    by_cases c : k = j
    · subst c; exact (ne (k3.symm.trans hx)).elim
    · exact Or.inr ⟨k, by omega, k2, k3⟩
  have A : ∀ v, v < 12 → isB (u2 (u2 (u2 s 37 x 1) 38 x b) 39 x e 37 v) (pN l i (j + 1) v) ∧ isB (u2 (u2 (u2 s 37 x 1) 38 x b) 39 x e 38 v) (pB l i (j + 1) v) ∧ isB (u2 (u2 (u2 s 37 x 1) 38 x b) 39 x e 39 v) (pE l i (j + 1) v) := fun v hv => by
    obtain ⟨a1, a2, a3⟩ := h.1 v hv
    by_cases c : v = x
    · subst c
      rw [u2_a (by decide), u2_a (by decide), u2_s, u2_a (by decide), u2_s, u2_s]
      exact ⟨isB.t (Or.inr ⟨j, by omega, hx⟩), hb, he⟩
    · rw [u2_a (by decide), u2_a (by decide), u2_n (fun z => c z.2), u2_a (by decide), u2_n (fun z => c z.2), u2_a (by decide), u2_n (fun z => c z.2), u2_a (by decide), u2_a (by decide)]
      exact ⟨a1.c (hN v c), a2.c (hB v c), a3.c (hE v c)⟩
  constructor
  · intro j0
    refine ⟨A, fun u v hu hv => ?_⟩
    rw [u2_a (by decide), u2_a (by decide), u2_a (by decide)]
    refine (h.2 u v hu hv).c ?_
    unfold pG
    exact ⟨fun z => z.elim Or.inl (fun ⟨k, k1, _⟩ => by omega), fun z => z.elim Or.inl (fun ⟨k, k1, _⟩ => by omega)⟩
  · intro y j0 hy y12
    refine ⟨fun v hv => ?_, fun u v hu hv => ?_⟩
    · rw [u2_a (a := 36) (by decide), u2_a (a := 36) (by decide), u2_a (a := 36) (by decide)]
      exact A v hv
    · by_cases c : 12 * v + u = 12 * x + y
      · obtain ⟨rfl, rfl⟩ := ix_12 hu y12 c
        rw [u2_s]
        exact isB.t (Or.inr ⟨j - 1, by omega, hy, by rw [Nat.sub_add_cancel j0]; exact hx⟩)
      · rw [u2_n (fun z => c z.2), u2_a (by decide), u2_a (by decide), u2_a (by decide)]
        refine (h.2 u v hu hv).c ?_
        unfold pG
        refine ⟨fun z => z.elim Or.inl (fun ⟨k, k1, k2⟩ => Or.inr ⟨k, by omega, k2⟩), fun z => z.elim Or.inl (fun ⟨k, k1, k2, k3⟩ => ?_)⟩
        by_cases d : k + 1 = j
        · subst d
          rw [Nat.add_sub_cancel] at hy
          exact (c (by rw [← k2, ← k3, hy, hx])).elim
        · exact Or.inr ⟨k, by omega, k2, k3⟩
abbrev sLo (a _k : Nat) : Prop := 36 ≤ a ∧ a ≤ 39
theorem rlook_eq {s : Zr} {l : Rw} {a f : Nat} (ok : xOK l) (ha : a < 200) (h31 : s 31 a = nI f) (h32 : s 32 a = nI l.length) (hf : f + l.length ≤ 12000) (hr : rRow s f l) :
    zS (fX6_look s (nI a)) (fun s' => LK s' (xN l) (xB l) (xE l) (xG l) ∧ rOnly sLo s s') := by
  unfold fX6_look
  refine zS.b (R1 := fun s' => (∀ k, k < 144 → s' 36 k = 0) ∧ rOnly sLo s s') (zS.up (fun i s' => (∀ k, k < i → s' 36 k = 0) ∧ rOnly sLo s s') 0 144 (fun i s' _ hi hJ => ?_) (fun s' hJ => ?_) (Nat.zero_le _) (by omega) ⟨fun k hk => absurd hk (Nat.not_lt_zero _), rOnly.rf⟩) (fun s1 ⟨b1, b2⟩ => ?_)
  · show zS (if (144 : Int32) ≤ nI i then _ else _) _
    rw [if_neg (k144 hi), wr36 hi (Or.inl rfl), Option.bind_some]
    refine zS.s ⟨_, by rw [nI_1], fun k hk => ?_, hJ.2.tr (rOnly.u (by omega))⟩
    by_cases c : k = i
    · subst c; exact u2_s
    · rw [u2_n (fun z => c z.2)]; exact hJ.1 k (by omega)
  · show zS (if (144 : Int32) ≤ nI 144 then _ else _) _
    rw [if_pos e144]
    exact zS.s ⟨_, rfl, hJ⟩
  refine zS.b (R1 := fun s' => (∀ v, v < 12 → s' 37 v = 0 ∧ s' 38 v = 0 ∧ s' 39 v = 0) ∧ (∀ k, k < 144 → s' 36 k = 0) ∧ rOnly sLo s s') (zS.up (fun i s' => (∀ v, v < i → s' 37 v = 0 ∧ s' 38 v = 0 ∧ s' 39 v = 0) ∧ (∀ k, k < 144 → s' 36 k = 0) ∧ rOnly sLo s s') 0 12 (fun i s' _ hi hJ => ?_) (fun s' hJ => ?_) (Nat.zero_le _) (by omega) ⟨fun k hk => absurd hk (Nat.not_lt_zero _), b1, b2⟩) (fun s2 ⟨d1, d2, d3⟩ => ?_)
  · show zS (if (12 : Int32) ≤ nI i then _ else _) _
    rw [if_neg (k12 hi), wr37 hi (Or.inl rfl), Option.bind_some, wr38 hi (Or.inl rfl), Option.bind_some, wr39 hi (Or.inl rfl), Option.bind_some]
    refine zS.s ⟨_, by rw [nI_1], fun v hv => ?_, fun k hk => by rw [u2_a (by decide), u2_a (by decide), u2_a (by decide)]; exact hJ.2.1 k hk, ((hJ.2.2.tr (rOnly.u (by omega))).tr (rOnly.u (by omega))).tr (rOnly.u (by omega))⟩
    by_cases c : v = i
    · subst c
      rw [u2_a (by decide), u2_a (by decide), u2_s, u2_a (by decide), u2_s, u2_s]
      exact ⟨rfl, rfl, rfl⟩
    · rw [u2_a (by decide), u2_a (by decide), u2_n (fun z => c z.2), u2_a (by decide), u2_n (fun z => c z.2), u2_a (by decide), u2_n (fun z => c z.2), u2_a (by decide), u2_a (by decide)]
      exact hJ.1 v (by omega)
  · show zS (if (12 : Int32) ≤ nI 12 then _ else _) _
    rw [if_pos e12]
    exact zS.s ⟨_, rfl, hJ⟩
  have L0 : LK s2 (pN l 0 0) (pB l 0 0) (pE l 0 0) (pG l 0 0) := ⟨fun v hv => by
    obtain ⟨e1, e2, e3⟩ := d1 v hv
    rw [e1, e2, e3]
    exact ⟨isB.f (fun z => z.elim (fun ⟨a, a1, _⟩ => by omega) (fun ⟨a, a1, _⟩ => by omega)), isB.f (fun z => z.elim (fun ⟨a, a1, _⟩ => by omega) (fun ⟨a1, _⟩ => by omega)), isB.f (fun z => z.elim (fun ⟨a, a1, _⟩ => by omega) (fun ⟨a, a1, _⟩ => by omega))⟩, fun u v hu hv => by
    rw [d2 _ (by omega)]
    exact isB.f (fun z => z.elim (fun ⟨a, a1, _⟩ => by omega) (fun ⟨a, a1, _⟩ => by omega))⟩
  refine zS.e (show rdI s2 31 (nI a) = some (nI f) by rw [rd31 ha, d3 31 _ (by omega), h31]) ?_
  have J0 : (fun (k : Nat) (s' : Zr) => ∃ i, k = f + i ∧ i ≤ l.length ∧ LK s' (pN l i 0) (pB l i 0) (pE l i 0) (pG l i 0) ∧ rOnly sLo s s') f s2 := ⟨0, rfl, Nat.zero_le _, L0, d3⟩
  refine zS.b (R1 := fun s' => LK s' (xN l) (xB l) (xE l) (xG l) ∧ rOnly sLo s s') (zS.up (fun k s' => ∃ i, k = f + i ∧ i ≤ l.length ∧ LK s' (pN l i 0) (pB l i 0) (pE l i 0) (pG l i 0) ∧ rOnly sLo s s') f (f + l.length) (fun k s' hk0 hk hJ => ?_) (fun s' hJ => ?_) (by omega) (by omega) J0) (fun r hr => zS.s hr)
  · obtain ⟨i, rfl, il, L, o⟩ := hJ
    have il : i < l.length := by omega
    obtain ⟨g, g1, g2, g3, g4⟩ := hr i il
    have rok := ok.1 (l.getD i []) (by
      rw [List.getD_eq_getElem?_getD, List.getElem?_eq_getElem il]
      exact List.getElem_mem il)
    dsimp only
    rw [rd31 ha, Option.bind_some, rd32 ha, Option.bind_some, o 31 _ (by omega), o 32 _ (by omega), h31, h32, nI_add, if_neg (nI_nle' (by omega) (by omega))]
    refine zS.b (R1 := fun s' => LK s' (pN l (i + 1) 0) (pB l (i + 1) 0) (pE l (i + 1) 0) (pG l (i + 1) 0) ∧ rOnly sLo s s') (zS.up (fun j s' => LK s' (pN l i j) (pB l i j) (pE l i j) (pG l i j) ∧ rOnly sLo s s') 0 (l.getD i []).length (fun j s3 _ hj hJ => ?_) (fun s3 hJ => ?_) (Nat.zero_le _) (by omega) ⟨L, o⟩) (fun r hr => zS.s ⟨_, by rw [nI_1], i + 1, by omega, by omega, hr⟩)
    · obtain ⟨L3, o3⟩ := hJ
      generalize ex : (l.getD i []).getD j 0 = x
      have x12 : x < 12 := by rw [← ex]; exact rok.2 j hj
      obtain ⟨q1, q2, q3⟩ := L3.1 x x12
      dsimp only
      rw [rd34 (by omega), Option.bind_some, o3 34 _ (by omega), g2, if_neg (nI_nle' (by omega) hj), rd33 (by omega), Option.bind_some, o3 33 _ (by omega), g1, nI_add, rd35 (by omega), Option.bind_some, o3 35 _ (by omega), g4 j hj, ex, wr37 x12 (Or.inr rfl), Option.bind_some, rd38 x12, Option.bind_some, u2_a (by decide)]
      refine zS.b (R1 := fun b => isB b (pB l i (j + 1) x)) ?_ (fun b hb => ?_)
      · by_cases c : s3 38 x = 0
        · rw [if_pos c]
          by_cases d : j = 0
          · rw [if_pos (show nI j = 0 by rw [d]; exact nI_0)]
            subst d
            exact zS.s (isB.t (Or.inr ⟨by omega, ex⟩))
          · rw [if_neg (nI_ne0 (by omega) (by omega))]
            exact zS.s (isB.f (fun z => q2.n c (z.elim Or.inl (fun y => Or.inr ⟨by omega, y.2⟩))))
        · rw [if_neg c]
          exact zS.s (isB.t ((q2.p c).elim Or.inl (fun y => Or.inr ⟨by omega, y.2⟩)))
      · rw [wr38 x12 hb.1, Option.bind_some, rd39 x12, Option.bind_some, u2_a (by decide), u2_a (by decide)]
        refine zS.b (R1 := fun e => isB e (pE l i (j + 1) x)) ?_ (fun e he => ?_)
        · by_cases c : s3 39 x = 0
          · rw [if_pos c, rd34 (by omega), Option.bind_some, u2_a (by decide), u2_a (by decide), o3 34 _ (by omega), g2]
            have e1 : nI (l.getD i []).length - (1 : Int32) = nI ((l.getD i []).length - 1) := by
              have := nI_pred ((l.getD i []).length - 1)
              rw [Nat.sub_add_cancel (by omega)] at this
              exact this
            rw [e1]
            by_cases d : j + 1 = (l.getD i []).length
            · rw [if_pos (show nI j = _ by rw [← d, Nat.add_sub_cancel])]
              exact zS.s (isB.t (Or.inr ⟨j, by omega, d, ex⟩))
            · rw [if_neg (fun z => d (by have := (nI_eq (by omega) (by omega)).mp z; omega))]
              refine zS.s (isB.f (fun z => q3.n c (z.elim Or.inl (fun ⟨k, k1, k2, k3⟩ => ?_))))
              exact Or.inr ⟨k, by by_cases w : k = j <;> omega, k2, k3⟩
          · rw [if_neg c]
            exact zS.s (isB.t ((q3.p c).elim Or.inl (fun ⟨k, k1, k2⟩ => Or.inr ⟨k, by omega, k2⟩)))
        · obtain ⟨t1, t2⟩ := LK_step ex x12 L3 hb he
          rw [wr39 x12 he.1, Option.bind_some]
          have oo : rOnly sLo s (u2 (u2 (u2 s3 37 x 1) 38 x b) 39 x e) := ((o3.tr (rOnly.u (by omega))).tr (rOnly.u (by omega))).tr (rOnly.u (by omega))
          by_cases d : j = 0
          · rw [if_pos (show nI j ≤ 0 by rw [d]; decide), Option.bind_some]
            exact zS.s ⟨_, by rw [nI_1], t1 d, oo⟩
          · generalize ey : (l.getD i []).getD (j - 1) 0 = y
            have y12 : y < 12 := by rw [← ey]; exact rok.2 _ (by omega)
            have e2 : nI (g + j) - (1 : Int32) = nI (g + (j - 1)) := by
              have := nI_pred (g + j - 1)
              rw [Nat.sub_add_cancel (by omega)] at this
              rw [this]
              congr 1
              omega
            rw [if_neg (nI_nle (by omega) (by omega)), rd33 (by omega), Option.bind_some, u2_a (by decide), u2_a (by decide), u2_a (by decide), o3 33 _ (by omega), g1, nI_add, e2, rd35 (by omega), Option.bind_some, u2_a (by decide), u2_a (by decide), u2_a (by decide), o3 35 _ (by omega), g4 _ (by omega), ey]
            rw [m12, wr36 (by omega) (Or.inr rfl), Option.bind_some, Option.bind_some]
            exact zS.s ⟨_, by rw [nI_1], t2 y (by omega) ey y12, oo.tr (rOnly.u (by omega))⟩
    · dsimp only
      rw [rd34 (by omega), Option.bind_some, hJ.2 34 _ (by omega), g2, if_pos (nI_le (Nat.le_refl _) (by omega))]
      exact zS.s ⟨_, rfl, LK_row il hJ.1, hJ.2⟩
  · obtain ⟨i, hk, il, L, o⟩ := hJ
    have : i = l.length := by omega
    subst this
    dsimp only
    rw [rd31 ha, Option.bind_some, rd32 ha, Option.bind_some, o 31 _ (by omega), o 32 _ (by omega), h31, h32, nI_add, if_pos (nI_le (Nat.le_refl _) (by omega))]
    exact zS.s ⟨_, rfl, LK_end L, o⟩
/-! found on the reference's side: who reaches whom -/
def T2 (s : Zr) (a : Nat) (T : Nat → Nat → Prop) : Prop := ∀ u v, u < 12 → v < 12 → isB (s a (12 * u + v)) (T u v)
theorem T2.only {S : Nat → Nat → Prop} {s s' : Zr} {a : Nat} {T : Nat → Nat → Prop} (e : rOnly S s s') (h : T2 s a T) (hS : ∀ k, ¬ S a k) : T2 s' a T := fun u v hu hv => by rw [e a _ (hS _)]; exact h u v hu hv
/-- new up to the m-th cell, old from there -/
def nw (T T' : Nat → Nat → Prop) (m u v : Nat) : Prop := (12 * u + v < m ∧ T' u v) ∨ (¬ 12 * u + v < m ∧ T u v)
theorem nw_0 {T T' : Nat → Nat → Prop} {u v : Nat} : nw T T' 0 u v ↔ T u v := ⟨fun z => z.elim (fun y => absurd y.1 (Nat.not_lt_zero _)) (fun y => y.2), fun h => Or.inr ⟨Nat.not_lt_zero _, h⟩⟩
theorem nw_e {T T' : Nat → Nat → Prop} {u v : Nat} (hu : u < 12) (hv : v < 12) : nw T T' 144 u v ↔ T' u v := ⟨fun z => z.elim (fun y => y.2) (fun y => absurd (show 12 * u + v < 144 by omega) y.1), fun h => Or.inl ⟨by omega, h⟩⟩
theorem nw_s {s : Zr} {a i j : Nat} {T T' : Nat → Nat → Prop} {x : Int32} (hi : i < 12) (hj : j < 12) (h : T2 s a (nw T T' (12 * i + j))) (hx : isB x (T' i j)) : T2 (u2 s a (12 * i + j) x) a (nw T T' (12 * i + (j + 1))) := fun u v hu hv => by
  by_cases c : 12 * u + v = 12 * i + j
  · obtain ⟨rfl, rfl⟩ := ix_12 hv hj c
    rw [u2_s]
    exact hx.c ⟨fun z => Or.inl ⟨by omega, z⟩, fun z => z.elim (fun y => y.2) (fun y => absurd (show 12 * u + v < 12 * u + (v + 1) by omega) y.1)⟩
  · rw [u2_n (fun z => c z.2)]
    refine (h u v hu hv).c ?_
    unfold nw
    by_cases d : 12 * u + v < 12 * i + j
    · have d' : 12 * u + v < 12 * i + (j + 1) := by omega
      exact ⟨fun z => z.elim (fun y => Or.inl ⟨d', y.2⟩) (fun y => absurd d y.1), fun z => z.elim (fun y => Or.inl ⟨d, y.2⟩) (fun y => absurd d' y.1)⟩
    · have d' : ¬ 12 * u + v < 12 * i + (j + 1) := by omega
      exact ⟨fun z => z.elim (fun y => absurd y.1 d) (fun y => Or.inr ⟨d', y.2⟩), fun z => z.elim (fun y => absurd y.1 d') (fun y => Or.inr ⟨d, y.2⟩)⟩
def W1 (T : Nat → Nat → Prop) (k u v : Nat) : Prop := T u v ∨ (T u k ∧ T k v)
theorem W1_row {T : Nat → Nat → Prop} {k u : Nat} : W1 T k u k ↔ T u k := ⟨fun z => z.elim id (fun y => y.1), Or.inl⟩
theorem W1_col {T : Nat → Nat → Prop} {k v : Nat} : W1 T k k v ↔ T k v := ⟨fun z => z.elim id (fun y => y.2), Or.inl⟩
theorem nw_row {T : Nat → Nat → Prop} {m k u : Nat} : nw T (W1 T k) m u k ↔ T u k := by
  unfold nw
  rw [W1_row]
  by_cases c : 12 * u + k < m
  · exact ⟨fun z => z.elim (fun y => y.2) (fun y => y.2), fun z => Or.inl ⟨c, z⟩⟩
  · exact ⟨fun z => z.elim (fun y => y.2) (fun y => y.2), fun z => Or.inr ⟨c, z⟩⟩
theorem nw_col {T : Nat → Nat → Prop} {m k v : Nat} : nw T (W1 T k) m k v ↔ T k v := by
  unfold nw
  rw [W1_col]
  by_cases c : 12 * k + v < m
  · exact ⟨fun z => z.elim (fun y => y.2) (fun y => y.2), fun z => Or.inl ⟨c, z⟩⟩
  · exact ⟨fun z => z.elim (fun y => y.2) (fun y => y.2), fun z => Or.inr ⟨c, z⟩⟩
/-- between what follows and what is reached, closed up to k -/
def WK (G T : Nat → Nat → Prop) (k : Nat) : Prop := (∀ u v, u < 12 → v < 12 → G u v → T u v) ∧ (∀ u v, u < 12 → v < 12 → T u v → TC G u v) ∧ ∀ u v w, u < 12 → v < 12 → w < k → T u w → T w v → T u v
theorem WK_s {G T : Nat → Nat → Prop} {k : Nat} (hk : k < 12) (h : WK G T k) : WK G (W1 T k) (k + 1) := by
  obtain ⟨h1, h2, h3⟩ := h
  refine ⟨fun u v hu hv g => Or.inl (h1 u v hu hv g), fun u v hu hv z => z.elim (h2 u v hu hv) (fun y => (h2 u k hu hk y.1).tr (h2 k v hk hv y.2)), fun u v w hu hv hw a b => ?_⟩
  by_cases c : w = k
  · subst c
    exact Or.inr ⟨W1_row.mp a, W1_col.mp b⟩
  · have hw' : w < k := by omega
    have w12 : w < 12 := by omega
    rcases a with a | ⟨a1, a2⟩
    · rcases b with b | ⟨b1, b2⟩
      · exact Or.inl (h3 u v w hu hv hw' a b)
      · exact Or.inr ⟨h3 u k w hu hk hw' a b1, b2⟩
    · rcases b with b | ⟨b1, b2⟩
      · exact Or.inr ⟨a1, h3 k v w hk hv hw' a2 b⟩
      · exact Or.inr ⟨a1, b2⟩
theorem WK_e {G T : Nat → Nat → Prop} (hG : ∀ u v, G u v → u < 12 ∧ v < 12) (h : WK G T 12) {u v : Nat} (hu : u < 12) (hv : v < 12) : T u v ↔ TC G u v := by
  obtain ⟨h1, h2, h3⟩ := h
  refine ⟨h2 u v hu hv, fun c => ?_⟩
  have := TC.le (T := fun a b => a < 12 ∧ b < 12 ∧ T a b) (fun a b g => ⟨(hG a b g).1, (hG a b g).2, h1 a b (hG a b g).1 (hG a b g).2 g⟩) (fun a b c x y => ⟨x.1, y.2.1, h3 a c b x.1 y.2.1 x.2.1 x.2.2 y.2.2⟩) c
  exact this.2.2
def T3 (s : Zr) (a : Nat) (T : Nat → Nat → Prop) (m : Nat) : Prop := ∀ u v, u < 12 → v < 12 → 12 * u + v < m → isB (s a (12 * u + v)) (T u v)
theorem T3_0 {s : Zr} {a : Nat} {T : Nat → Nat → Prop} : T3 s a T 0 := fun _ _ _ _ z => absurd z (Nat.not_lt_zero _)
theorem T3_e {s : Zr} {a : Nat} {T : Nat → Nat → Prop} (h : T3 s a T (12 * 12)) : T2 s a T := fun u v hu hv => h u v hu hv (by omega)
theorem T3_s {s : Zr} {a i j : Nat} {T : Nat → Nat → Prop} {x : Int32} (hj : j < 12) (h : T3 s a T (12 * i + j)) (hx : isB x (T i j)) : T3 (u2 s a (12 * i + j) x) a T (12 * i + (j + 1)) := fun u v hu hv hm => by
  by_cases c : 12 * u + v = 12 * i + j
  · obtain ⟨rfl, rfl⟩ := ix_12 hv hj c
    rw [u2_s]; exact hx
  · rw [u2_n (fun z => c z.2)]
    exact h u v hu hv (by omega)
theorem rreach_eq {s : Zr} {N B E : Nat → Prop} {G : Nat → Nat → Prop} (h : LK s N B E G) (hG : ∀ u v, G u v → u < 12 ∧ v < 12) : zS (fX6_layReach s) (fun s' => T2 s' 43 (TC G) ∧ rOnly (oA 43) s s') := by
  unfold fX6_layReach
  refine zS.b (R1 := fun s' => T2 s' 43 G ∧ rOnly (oA 43) s s') (zS.up (fun i s' => T3 s' 43 G (12 * i) ∧ rOnly (oA 43) s s') 0 12 (fun i s1 _ hi hJ => ?_) (fun s1 hJ => ?_) (Nat.zero_le _) (by omega) ⟨T3_0, rOnly.rf⟩) (fun s1 ⟨b1, b2⟩ => ?_)
  · dsimp only
    rw [if_neg (k12 hi)]
    refine zS.b (R1 := fun s' => T3 s' 43 G (12 * (i + 1)) ∧ rOnly (oA 43) s s') (zS.up (fun j s' => T3 s' 43 G (12 * i + j) ∧ rOnly (oA 43) s s') 0 12 (fun j s2 _ hj hJ2 => ?_) (fun s2 hJ2 => ?_) (Nat.zero_le _) (by omega) hJ) (fun r hr => zS.s ⟨_, by rw [nI_1], hr⟩)
    · dsimp only
      have e36 := h.2 i j hi hj
      rw [if_neg (k12 hj), m12, m12, rd36 (by omega), Option.bind_some, hJ2.2 36 _ (by omega), wr43 (by omega) e36.1, Option.bind_some]
      exact zS.s ⟨_, by rw [nI_1], T3_s hj hJ2.1 e36, hJ2.2.tr (rOnly.u rfl)⟩
    · dsimp only
      rw [if_pos e12]
      exact zS.s ⟨_, rfl, hJ2⟩
  · dsimp only
    rw [if_pos e12]
    exact zS.s ⟨_, rfl, T3_e hJ.1, hJ.2⟩
  refine zS.b (R1 := fun s' => T2 s' 43 (TC G) ∧ rOnly (oA 43) s s') (zS.up (fun k s' => ∃ T, WK G T k ∧ T2 s' 43 T ∧ rOnly (oA 43) s s') 0 12 (fun k s2 _ hk hJ => ?_) (fun s2 hJ => ?_) (Nat.zero_le _) (by omega) ⟨G, ⟨fun _ _ _ _ g => g, fun _ _ _ _ g => TC.b g, fun _ _ _ _ _ z => absurd z (Nat.not_lt_zero _)⟩, b1, b2⟩) (fun r hr => zS.s hr)
  · obtain ⟨T, w, t, o⟩ := hJ
    dsimp only
    rw [if_neg (k12 hk)]
    refine zS.b (R1 := fun s' => T2 s' 43 (nw T (W1 T k) (12 * 12)) ∧ rOnly (oA 43) s s') (zS.up (fun i s' => T2 s' 43 (nw T (W1 T k) (12 * i)) ∧ rOnly (oA 43) s s') 0 12 (fun i s3 _ hi hJ => ?_) (fun s3 hJ => ?_) (Nat.zero_le _) (by omega) ⟨fun u v hu hv => (t u v hu hv).c nw_0.symm, o⟩) (fun r hr => zS.s ⟨_, by rw [nI_1], W1 T k, WK_s hk w, fun u v hu hv => (hr.1 u v hu hv).c (nw_e hu hv), hr.2⟩)
    · dsimp only
      rw [if_neg (k12 hi)]
      refine zS.b (R1 := fun s' => T2 s' 43 (nw T (W1 T k) (12 * (i + 1))) ∧ rOnly (oA 43) s s') (zS.up (fun j s' => T2 s' 43 (nw T (W1 T k) (12 * i + j)) ∧ rOnly (oA 43) s s') 0 12 (fun j s4 _ hj hJ4 => ?_) (fun s4 hJ4 => ?_) (Nat.zero_le _) (by omega) hJ) (fun r hr => zS.s ⟨_, by rw [nI_1], hr⟩)
      · dsimp only
        obtain ⟨t4, o4⟩ := hJ4
        have c1 := (t4 i j hi hj).c (q := T i j) (by
          unfold nw
          exact ⟨fun z => z.elim (fun y => absurd y.1 (Nat.lt_irrefl _)) (fun y => y.2), fun z => Or.inr ⟨Nat.lt_irrefl _, z⟩⟩)
        have c2 := (t4 i k hi hk).c nw_row
        have c3 := (t4 k j hk hj).c nw_col
        rw [if_neg (k12 hj), m12, m12, m12, rd43 (by omega), Option.bind_some]
        refine zS.b (R1 := fun x => isB x (W1 T k i j)) ?_ (fun x hx => ?_)
        · by_cases d1 : s4 43 (12 * i + j) = 0
          · rw [if_pos d1, rd43 (by omega), Option.bind_some]
            by_cases d2 : s4 43 (12 * i + k) = 0
            · rw [if_pos d2]
              exact zS.s (isB.f (fun z => z.elim (c1.n d1) (fun y => c2.n d2 y.1)))
            · rw [if_neg d2, rd43 (by omega), Option.bind_some]
              by_cases d3 : s4 43 (12 * k + j) = 0
              · rw [if_pos d3]
                exact zS.s (isB.f (fun z => z.elim (c1.n d1) (fun y => c3.n d3 y.2)))
              · rw [if_neg d3]
                exact zS.s (isB.t (Or.inr ⟨c2.p d2, c3.p d3⟩))
          · rw [if_neg d1]
            exact zS.s (isB.t (Or.inl (c1.p d1)))
        · rw [wr43 (by omega) hx.1, Option.bind_some]
          exact zS.s ⟨_, by rw [nI_1], nw_s hi hj t4 hx, o4.tr (rOnly.u rfl)⟩
      · dsimp only
        rw [if_pos e12]
        exact zS.s ⟨_, rfl, hJ4⟩
    · dsimp only
      rw [if_pos e12]
      exact zS.s ⟨_, rfl, hJ⟩
  · obtain ⟨T, w, t, o⟩ := hJ
    dsimp only
    rw [if_pos e12]
    exact zS.s ⟨_, rfl, fun u v hu hv => (t u v hu hv).c (WK_e hG w hu hv), o⟩
