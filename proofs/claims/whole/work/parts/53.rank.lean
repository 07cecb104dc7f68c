/-! counting in the naturals; ranks -/
noncomputable def nCnt (P : Nat → Prop) : Nat → Nat
  | 0 => 0
  | k + 1 => @ite _ (P k) (Classical.propDecidable _) (nCnt P k + 1) (nCnt P k)
theorem nCnt_t {P : Nat → Prop} {k : Nat} (h : P k) : nCnt P (k + 1) = nCnt P k + 1 := if_pos h
theorem nCnt_f {P : Nat → Prop} {k : Nat} (h : ¬ P k) : nCnt P (k + 1) = nCnt P k := if_neg h
theorem mCnt_n {P : Nat → Prop} : ∀ n, mCnt P n = nI (nCnt P n)
  | 0 => rfl
  | n + 1 => by
    by_cases h : P n
    · rw [mCnt_t h, nCnt_t h, mCnt_n n, nI_1]
    · rw [mCnt_f h, nCnt_f h, mCnt_n n]
theorem nCnt_mono {P Q : Nat → Prop} : ∀ n, (∀ i, i < n → P i → Q i) → nCnt P n ≤ nCnt Q n
  | 0, _ => Nat.le_refl _
  | n + 1, h => by
    have ih := nCnt_mono n (fun i hi => h i (by omega))
    by_cases p : P n
    · rw [nCnt_t p, nCnt_t (h n (by omega) p)]; omega
    · rw [nCnt_f p]
      by_cases q : Q n
      · rw [nCnt_t q]; omega
      · rw [nCnt_f q]; exact ih
theorem nCnt_lt {P Q : Nat → Prop} {w : Nat} (hq : Q w) (hp : ¬ P w) : ∀ n, w < n → (∀ i, i < n → P i → Q i) → nCnt P n < nCnt Q n
  | 0, hw, _ => absurd hw (by omega)
  | n + 1, hw, h => by
    have m := nCnt_mono n (fun i hi => h i (by omega))
    by_cases e : w = n
    · subst e
      rw [nCnt_f hp, nCnt_t hq]; omega
    · have ih := nCnt_lt hq hp n (by omega) (fun i hi => h i (by omega))
      by_cases p : P n
      · rw [nCnt_t p, nCnt_t (h n (by omega) p)]; omega
      · rw [nCnt_f p]
        by_cases q : Q n
        · rw [nCnt_t q]; omega
        · rw [nCnt_f q]; exact ih
theorem nCnt_congr {P Q : Nat → Prop} (n : Nat) (h : ∀ i, i < n → (P i ↔ Q i)) : nCnt P n = nCnt Q n :=
  Nat.le_antisymm (nCnt_mono n (fun i hi => (h i hi).mp)) (nCnt_mono n (fun i hi => (h i hi).mpr))
theorem nCnt_le {P : Nat → Prop} : ∀ n, nCnt P n ≤ n
  | 0 => Nat.le_refl _
  | n + 1 => by
    have := nCnt_le (P := P) n
    by_cases p : P n
    · rw [nCnt_t p]; omega
    · rw [nCnt_f p]; omega
theorem nCnt_0 {P : Nat → Prop} : ∀ n, (∀ i, i < n → ¬ P i) → nCnt P n = 0
  | 0, _ => rfl
  | n + 1, h => by rw [nCnt_f (h n (by omega)), nCnt_0 n (fun i hi => h i (by omega))]
theorem nCnt_1 {P Q : Nat → Prop} {w : Nat} (hp : ¬ P w) : ∀ n, w < n → (∀ i, i < n → (Q i ↔ P i ∨ i = w)) → nCnt Q n = nCnt P n + 1
  | 0, hw, _ => absurd hw (by omega)
  | n + 1, hw, h => by
    by_cases e : w = n
    · subst e
      rw [nCnt_f hp, nCnt_t ((h w (by omega)).mpr (Or.inr rfl)), nCnt_congr w (fun i hi => ⟨fun z => ((h i (by omega)).mp z).elim id (fun y => absurd y (by omega)), fun z => (h i (by omega)).mpr (Or.inl z)⟩)]
    · have ih := nCnt_1 hp n (by omega) (fun i hi => h i (by omega))
      by_cases p : P n
      · rw [nCnt_t p, nCnt_t ((h n (by omega)).mpr (Or.inl p)), ih]
      · rw [nCnt_f p, nCnt_f (fun z => ((h n (by omega)).mp z).elim p (fun y => e y.symm)), ih]
/-- u stands before v: it waits longer, or as long and comes first -/
abbrev wBef (A : Nat → Prop) (S : Nat → Int32) (v u : Nat) : Prop := A u ∧ (S v < S u ∨ (S u = S v ∧ u < v))
noncomputable def wRank (A : Nat → Prop) (S : Nat → Int32) (n v : Nat) : Nat := nCnt (wBef A S v) n
theorem i32_lt_tr {a b c : Int32} (h1 : a < b) (h2 : b < c) : a < c := by rw [Int32.lt_iff_toInt_lt] at *; omega
theorem i32_tri (a b : Int32) : a < b ∨ a = b ∨ b < a := by
  rw [Int32.lt_iff_toInt_lt, Int32.lt_iff_toInt_lt]
  by_cases e : a = b
  · exact Or.inr (Or.inl e)
  · have : a.toInt ≠ b.toInt := fun z => e (Int32.toInt_inj.mp z)
    omega
theorem i32_irr (a : Int32) : ¬ a < a := by rw [Int32.lt_iff_toInt_lt]; omega
theorem wBef_tr {A : Nat → Prop} {S : Nat → Int32} {v u t : Nat} (h1 : wBef A S v u) (h2 : wBef A S u t) : wBef A S v t := by
  refine ⟨h2.1, ?_⟩
  rcases h1.2 with a | ⟨a, b⟩ <;> rcases h2.2 with c | ⟨c, d⟩
  · exact Or.inl (i32_lt_tr a c)
  · exact Or.inl (by rw [c]; exact a)
  · exact Or.inl (by rw [← a]; exact c)
  · exact Or.inr ⟨c.trans a, by omega⟩
theorem wBef_irr {A : Nat → Prop} {S : Nat → Int32} {v : Nat} : ¬ wBef A S v v := fun z => z.2.elim (i32_irr _) (fun y => by omega)
theorem wBef_tot {A : Nat → Prop} {S : Nat → Int32} {v u : Nat} (hv : A v) (hu : A u) (hne : u ≠ v) : wBef A S v u ∨ wBef A S u v := by
  rcases i32_tri (S v) (S u) with a | a | a
  · exact Or.inl ⟨hu, Or.inl a⟩
  · by_cases l : u < v
    · exact Or.inl ⟨hu, Or.inr ⟨a.symm, l⟩⟩
    · exact Or.inr ⟨hv, Or.inr ⟨a, by omega⟩⟩
  · exact Or.inr ⟨hv, Or.inl a⟩
theorem wRank_lt {A : Nat → Prop} {S : Nat → Int32} {n v u : Nat} (hu : u < n) (h : wBef A S v u) : wRank A S n u < wRank A S n v :=
  nCnt_lt h wBef_irr n hu (fun _ _ z => wBef_tr h z)
theorem wRank_inj {A : Nat → Prop} {S : Nat → Int32} {n v u : Nat} (hu : u < n) (hv : v < n) (au : A u) (av : A v) (e : wRank A S n u = wRank A S n v) : u = v := by
  by_cases hne : u = v
  · exact hne
  · rcases wBef_tot (S := S) av au hne with z | z
    · have := wRank_lt hu z; omega
    · have := wRank_lt hv z; omega
theorem wRank_all {A : Nat → Prop} {S : Nat → Int32} {n v : Nat} (hv : v < n) (av : A v) : wRank A S n v < nCnt A n :=
  nCnt_lt av wBef_irr n hv (fun _ _ z => z.1)
/-- R are those taken already: r of them, all before the rest; w is the first of the rest -/
theorem wRank_next {A R : Nat → Prop} {S : Nat → Int32} {n w : Nat} (hRA : ∀ i, i < n → R i → A i) (hRb : ∀ i j, i < n → j < n → R i → A j → ¬ R j → wBef A S j i) (hw : w < n) (aw : A w) (rw' : ¬ R w) (hmax : ∀ i, i < n → A i → ¬ R i → ¬ wBef A S w i) : wRank A S n w = nCnt R n := by
  refine nCnt_congr n (fun i hi => ⟨fun z => ?_, fun z => hRb i w hi hw z aw rw'⟩)
  exact Classical.byContradiction (fun y => hmax i hi z.1 y z)
