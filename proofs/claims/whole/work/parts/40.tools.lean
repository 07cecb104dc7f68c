/-! tools of the pure proofs -/
def b2 (p : Prop) [Decidable p] : Int32 := if p then 1 else 0
theorem b2_z {p : Prop} [Decidable p] : (b2 p = 0) = (¬ p) := by
  unfold b2
  by_cases h : p
  · rw [if_pos h]; simp [h]
  · rw [if_neg h]; simp [h]
theorem zbo_b2 {p : Prop} [Decidable p] : zbo (b2 p) = some (b2 p) := by
  unfold zbo b2
  by_cases h : p
  · rw [if_pos h]; rfl
  · rw [if_neg h]; rfl
theorem zbo_0 : zbo 0 = some 0 := rfl
theorem zbo_1 : zbo 1 = some 1 := rfl
theorem b2_t {p : Prop} [Decidable p] (h : p) : b2 p = 1 := if_pos h
theorem b2_f {p : Prop} [Decidable p] (h : ¬ p) : b2 p = 0 := if_neg h
theorem b2_c {p q : Prop} [Decidable p] [Decidable q] (h : p ↔ q) : b2 p = b2 q := by
  unfold b2
  by_cases hp : p
  · rw [if_pos hp, if_pos (h.mp hp)]
  · rw [if_neg hp, if_neg (fun z => hp (h.mpr z))]
theorem i2l_le (x y : Int32) : x.toInt64 ≤ y.toInt64 ↔ x.toInt ≤ y.toInt := by
  rw [Int64.le_iff_toInt_le, Int32.toInt_toInt64, Int32.toInt_toInt64]
theorem fin_eq (a b c : Int64) : fX6_in a b c = some (b2 (b ≤ a ∧ a ≤ c)) := by
  unfold fX6_in
  have h1 : lg_cmp a b < 0 ↔ ¬ b ≤ a := by
    unfold lg_cmp
    by_cases h : a > b
    · rw [if_pos h]
      exact ⟨fun z => absurd z (by decide), fun z => absurd (Int64.le_of_lt h) z⟩
    · rw [if_neg h]
      by_cases h2 : a = b
      · rw [if_pos h2]
        exact ⟨fun z => absurd z (by decide), fun z => absurd (by rw [h2]; exact Int64.le_refl _) z⟩
      · rw [if_neg h2]
        refine ⟨fun _ z => ?_, fun _ => by decide⟩
        exact h2 (Int64.le_antisymm (Int64.not_lt.mp h) z)
  have h3 : 0 < lg_cmp a c ↔ ¬ a ≤ c := by
    unfold lg_cmp
    by_cases h : a > c
    · rw [if_pos h]
      exact ⟨fun _ z => absurd h (Int64.not_lt.mpr z), fun _ => by decide⟩
    · rw [if_neg h]
      refine ⟨fun z => ?_, fun z => absurd (Int64.not_lt.mp h) z⟩
      by_cases h2 : a = c
      · rw [if_pos h2] at z; exact absurd z (by decide)
      · rw [if_neg h2] at z; exact absurd z (by decide)
  by_cases p1 : b ≤ a
  · rw [if_neg (fun z => (h1.mp z) p1)]
    by_cases p2 : a ≤ c
    · rw [if_neg (fun z => (h3.mp z) p2), b2_t ⟨p1, p2⟩]; rfl
    · rw [if_pos (h3.mpr p2), b2_f (fun z => p2 z.2)]; rfl
  · rw [if_pos (h1.mpr p1), b2_f (fun z => p1 z.1)]; rfl
theorem nI_in' {c N : Nat} (h : c < N) (hc : c < 2 ^ 31) : ¬ (nI c < 0 ∨ N ≤ (nI c).toNatClampNeg) := by
  rw [nI_clamp hc]
  exact fun z => z.elim (nI_pos hc) (by omega)
theorem nI_nle' {a b : Nat} (hb : b < 2 ^ 31) (h : a < b) : ¬ nI b ≤ nI a := nI_ge h hb
theorem zix_nI {n k : Nat} (h : k < n) (hk : k < 2 ^ 31) : zix n (nI k) = some k := by
  unfold zix
  rw [if_neg (nI_in' h hk), nI_clamp hk]
theorem u2_s {α : Type} {f : Nat → Nat → α} {a k : Nat} {v : α} : u2 f a k v a k = v := by unfold u2; rw [if_pos ⟨rfl, rfl⟩]
theorem u2_n {α : Type} {f : Nat → Nat → α} {a k : Nat} {v : α} {b j : Nat} (h : ¬ (b = a ∧ j = k)) : u2 f a k v b j = f b j := by unfold u2; rw [if_neg h]
theorem u2_a {α : Type} {f : Nat → Nat → α} {a k : Nat} {v : α} {b j : Nat} (h : b ≠ a) : u2 f a k v b j = f b j := u2_n (fun z => h z.1)
/-- a loop whose states are known -/
theorem zloop_eq {σ ρ : Type} {f : σ → Option (σ ⊕ ρ)} (g : Nat → σ) (N : Nat) {r : ρ} {n : Nat} (hs : ∀ k, k < N → f (g k) = some (.inl (g (k + 1)))) (he : f (g N) = some (.inr r)) (hn : N < n) : zloop f n (g 0) = some r := by
  have h : ∀ d k m, k + d = N → d < m → zloop f m (g k) = some r := by
    intro d
    induction d with
    | zero =>
      intro k m hk hm
      obtain ⟨m, rfl⟩ : ∃ q, m = q + 1 := ⟨m - 1, by omega⟩
      have : k = N := by omega
      subst this
      show ((f (g k)).bind _) = _
      rw [he]
      rfl
    | succ d ih =>
      intro k m hk hm
      obtain ⟨m, rfl⟩ : ∃ q, m = q + 1 := ⟨m - 1, by omega⟩
      show ((f (g k)).bind _) = _
      rw [hs k (by omega)]
      exact ih (k + 1) m (by omega) (by omega)
  exact h N 0 n (by omega) hn
/-- a loop with an invariant and a measure -/
theorem zloop_inv {σ ρ : Type} {f : σ → Option (σ ⊕ ρ)} (I : Nat → σ → Prop) (P : ρ → Prop) (hs : ∀ n s, I n s → (∃ s' m, f s = some (.inl s') ∧ m < n ∧ I m s') ∨ ∃ r, f s = some (.inr r) ∧ P r) : ∀ (n : Nat) (s : σ) (fu : Nat), I n s → n < fu → ∃ r, zloop f fu s = some r ∧ P r := by
  intro n
  induction n using Nat.strongRecOn with
  | ind n ih =>
    intro s fu hI hn
    obtain ⟨fu, rfl⟩ : ∃ q, fu = q + 1 := ⟨fu - 1, by omega⟩
    rcases hs n s hI with ⟨s', m, e, hm, hI'⟩ | ⟨r, e, hP⟩
    · obtain ⟨r, e2, hP⟩ := ih m hm s' fu hI' (by omega)
      refine ⟨r, ?_, hP⟩
      show ((f s).bind _) = _
      rw [e]
      exact e2
    · refine ⟨r, ?_, hP⟩
      show ((f s).bind _) = _
      rw [e]
      rfl
theorem zFU_v : zFU = 100000 := rfl
theorem rd1 {s : Zr} {k : Nat} (h : k < 24) : rdI s 1 (nI k) = some (s 1 k) := by unfold rdI; rw [if_pos (by rfl), zix_nI (show k < zRl.getD 1 0 from h) (by omega)]; rfl
theorem wr1 {s : Zr} {k : Nat} {x : Int32} (h : k < 24) : wrI s 1 (nI k) x = some (u2 s 1 k x) := by unfold wrI; rw [if_pos (by rfl), zix_nI (show k < zRl.getD 1 0 from h) (by omega)]; rfl
theorem rd2 {s : Zr} {k : Nat} (h : k < 24) : rdZ s 2 (nI k) = some (s 2 k) := by unfold rdZ; rw [if_pos (by rfl), zix_nI (show k < zRl.getD 2 0 from h) (by omega)]; rfl
theorem wr2 {s : Zr} {k : Nat} {x : Int32} (h : k < 24) (hx : x = 0 ∨ x = 1) : wrZ s 2 (nI k) x = some (u2 s 2 k x) := by unfold wrZ; rw [if_pos (by rfl), zix_nI (show k < zRl.getD 2 0 from h) (by omega)]; unfold zbo; simp only [Option.bind_some]; rw [if_pos hx]; rfl
theorem rd3 {s : Zr} {k : Nat} (h : k < 144) : rdI s 3 (nI k) = some (s 3 k) := by unfold rdI; rw [if_pos (by rfl), zix_nI (show k < zRl.getD 3 0 from h) (by omega)]; rfl
theorem wr3 {s : Zr} {k : Nat} {x : Int32} (h : k < 144) : wrI s 3 (nI k) x = some (u2 s 3 k x) := by unfold wrI; rw [if_pos (by rfl), zix_nI (show k < zRl.getD 3 0 from h) (by omega)]; rfl
theorem rd4 {s : Zr} {k : Nat} (h : k < 144) : rdI s 4 (nI k) = some (s 4 k) := by unfold rdI; rw [if_pos (by rfl), zix_nI (show k < zRl.getD 4 0 from h) (by omega)]; rfl
theorem wr4 {s : Zr} {k : Nat} {x : Int32} (h : k < 144) : wrI s 4 (nI k) x = some (u2 s 4 k x) := by unfold wrI; rw [if_pos (by rfl), zix_nI (show k < zRl.getD 4 0 from h) (by omega)]; rfl
theorem rd5 {s : Zr} {k : Nat} (h : k < 144) : rdI s 5 (nI k) = some (s 5 k) := by unfold rdI; rw [if_pos (by rfl), zix_nI (show k < zRl.getD 5 0 from h) (by omega)]; rfl
theorem wr5 {s : Zr} {k : Nat} {x : Int32} (h : k < 144) : wrI s 5 (nI k) x = some (u2 s 5 k x) := by unfold wrI; rw [if_pos (by rfl), zix_nI (show k < zRl.getD 5 0 from h) (by omega)]; rfl
theorem rd6 {s : Zr} {k : Nat} (h : k < 144) : rdI s 6 (nI k) = some (s 6 k) := by unfold rdI; rw [if_pos (by rfl), zix_nI (show k < zRl.getD 6 0 from h) (by omega)]; rfl
theorem wr6 {s : Zr} {k : Nat} {x : Int32} (h : k < 144) : wrI s 6 (nI k) x = some (u2 s 6 k x) := by unfold wrI; rw [if_pos (by rfl), zix_nI (show k < zRl.getD 6 0 from h) (by omega)]; rfl
theorem rd7 {s : Zr} {k : Nat} (h : k < 200) : rdI s 7 (nI k) = some (s 7 k) := by unfold rdI; rw [if_pos (by rfl), zix_nI (show k < zRl.getD 7 0 from h) (by omega)]; rfl
theorem wr7 {s : Zr} {k : Nat} {x : Int32} (h : k < 200) : wrI s 7 (nI k) x = some (u2 s 7 k x) := by unfold wrI; rw [if_pos (by rfl), zix_nI (show k < zRl.getD 7 0 from h) (by omega)]; rfl
theorem rd8 {s : Zr} {k : Nat} (h : k < 200) : rdI s 8 (nI k) = some (s 8 k) := by unfold rdI; rw [if_pos (by rfl), zix_nI (show k < zRl.getD 8 0 from h) (by omega)]; rfl
theorem wr8 {s : Zr} {k : Nat} {x : Int32} (h : k < 200) : wrI s 8 (nI k) x = some (u2 s 8 k x) := by unfold wrI; rw [if_pos (by rfl), zix_nI (show k < zRl.getD 8 0 from h) (by omega)]; rfl
theorem rd9 {s : Zr} {k : Nat} (h : k < 200) : rdI s 9 (nI k) = some (s 9 k) := by unfold rdI; rw [if_pos (by rfl), zix_nI (show k < zRl.getD 9 0 from h) (by omega)]; rfl
theorem wr9 {s : Zr} {k : Nat} {x : Int32} (h : k < 200) : wrI s 9 (nI k) x = some (u2 s 9 k x) := by unfold wrI; rw [if_pos (by rfl), zix_nI (show k < zRl.getD 9 0 from h) (by omega)]; rfl
theorem rd10 {s : Zr} {k : Nat} (h : k < 200) : rdI s 10 (nI k) = some (s 10 k) := by unfold rdI; rw [if_pos (by rfl), zix_nI (show k < zRl.getD 10 0 from h) (by omega)]; rfl
theorem wr10 {s : Zr} {k : Nat} {x : Int32} (h : k < 200) : wrI s 10 (nI k) x = some (u2 s 10 k x) := by unfold wrI; rw [if_pos (by rfl), zix_nI (show k < zRl.getD 10 0 from h) (by omega)]; rfl
theorem rd11 {s : Zr} {k : Nat} (h : k < 200) : rdI s 11 (nI k) = some (s 11 k) := by unfold rdI; rw [if_pos (by rfl), zix_nI (show k < zRl.getD 11 0 from h) (by omega)]; rfl
theorem wr11 {s : Zr} {k : Nat} {x : Int32} (h : k < 200) : wrI s 11 (nI k) x = some (u2 s 11 k x) := by unfold wrI; rw [if_pos (by rfl), zix_nI (show k < zRl.getD 11 0 from h) (by omega)]; rfl
theorem rd12 {s : Zr} {k : Nat} (h : k < 12000) : rdI s 12 (nI k) = some (s 12 k) := by unfold rdI; rw [if_pos (by rfl), zix_nI (show k < zRl.getD 12 0 from h) (by omega)]; rfl
theorem wr12 {s : Zr} {k : Nat} {x : Int32} (h : k < 12000) : wrI s 12 (nI k) x = some (u2 s 12 k x) := by unfold wrI; rw [if_pos (by rfl), zix_nI (show k < zRl.getD 12 0 from h) (by omega)]; rfl
theorem rd13 {s : Zr} {k : Nat} (h : k < 200) : rdI s 13 (nI k) = some (s 13 k) := by unfold rdI; rw [if_pos (by rfl), zix_nI (show k < zRl.getD 13 0 from h) (by omega)]; rfl
theorem wr13 {s : Zr} {k : Nat} {x : Int32} (h : k < 200) : wrI s 13 (nI k) x = some (u2 s 13 k x) := by unfold wrI; rw [if_pos (by rfl), zix_nI (show k < zRl.getD 13 0 from h) (by omega)]; rfl
theorem rd14 {s : Zr} {k : Nat} (h : k < 200) : rdI s 14 (nI k) = some (s 14 k) := by unfold rdI; rw [if_pos (by rfl), zix_nI (show k < zRl.getD 14 0 from h) (by omega)]; rfl
theorem wr14 {s : Zr} {k : Nat} {x : Int32} (h : k < 200) : wrI s 14 (nI k) x = some (u2 s 14 k x) := by unfold wrI; rw [if_pos (by rfl), zix_nI (show k < zRl.getD 14 0 from h) (by omega)]; rfl
theorem rd15 {s : Zr} {k : Nat} (h : k < 200) : rdI s 15 (nI k) = some (s 15 k) := by unfold rdI; rw [if_pos (by rfl), zix_nI (show k < zRl.getD 15 0 from h) (by omega)]; rfl
theorem wr15 {s : Zr} {k : Nat} {x : Int32} (h : k < 200) : wrI s 15 (nI k) x = some (u2 s 15 k x) := by unfold wrI; rw [if_pos (by rfl), zix_nI (show k < zRl.getD 15 0 from h) (by omega)]; rfl
theorem rd16 {s : Zr} {k : Nat} (h : k < 200) : rdI s 16 (nI k) = some (s 16 k) := by unfold rdI; rw [if_pos (by rfl), zix_nI (show k < zRl.getD 16 0 from h) (by omega)]; rfl
theorem wr16 {s : Zr} {k : Nat} {x : Int32} (h : k < 200) : wrI s 16 (nI k) x = some (u2 s 16 k x) := by unfold wrI; rw [if_pos (by rfl), zix_nI (show k < zRl.getD 16 0 from h) (by omega)]; rfl
theorem rd17 {s : Zr} {k : Nat} (h : k < 20000) : rdI s 17 (nI k) = some (s 17 k) := by unfold rdI; rw [if_pos (by rfl), zix_nI (show k < zRl.getD 17 0 from h) (by omega)]; rfl
theorem wr17 {s : Zr} {k : Nat} {x : Int32} (h : k < 20000) : wrI s 17 (nI k) x = some (u2 s 17 k x) := by unfold wrI; rw [if_pos (by rfl), zix_nI (show k < zRl.getD 17 0 from h) (by omega)]; rfl
theorem rd18 {s : Zr} {k : Nat} (h : k < 200) : rdI s 18 (nI k) = some (s 18 k) := by unfold rdI; rw [if_pos (by rfl), zix_nI (show k < zRl.getD 18 0 from h) (by omega)]; rfl
theorem wr18 {s : Zr} {k : Nat} {x : Int32} (h : k < 200) : wrI s 18 (nI k) x = some (u2 s 18 k x) := by unfold wrI; rw [if_pos (by rfl), zix_nI (show k < zRl.getD 18 0 from h) (by omega)]; rfl
theorem rd19 {s : Zr} {k : Nat} (h : k < 400) : rdI s 19 (nI k) = some (s 19 k) := by unfold rdI; rw [if_pos (by rfl), zix_nI (show k < zRl.getD 19 0 from h) (by omega)]; rfl
theorem wr19 {s : Zr} {k : Nat} {x : Int32} (h : k < 400) : wrI s 19 (nI k) x = some (u2 s 19 k x) := by unfold wrI; rw [if_pos (by rfl), zix_nI (show k < zRl.getD 19 0 from h) (by omega)]; rfl
theorem rd20 {s : Zr} {k : Nat} (h : k < 400) : rdI s 20 (nI k) = some (s 20 k) := by unfold rdI; rw [if_pos (by rfl), zix_nI (show k < zRl.getD 20 0 from h) (by omega)]; rfl
theorem wr20 {s : Zr} {k : Nat} {x : Int32} (h : k < 400) : wrI s 20 (nI k) x = some (u2 s 20 k x) := by unfold wrI; rw [if_pos (by rfl), zix_nI (show k < zRl.getD 20 0 from h) (by omega)]; rfl
theorem rd21 {s : Zr} {k : Nat} (h : k < 200) : rdI s 21 (nI k) = some (s 21 k) := by unfold rdI; rw [if_pos (by rfl), zix_nI (show k < zRl.getD 21 0 from h) (by omega)]; rfl
theorem wr21 {s : Zr} {k : Nat} {x : Int32} (h : k < 200) : wrI s 21 (nI k) x = some (u2 s 21 k x) := by unfold wrI; rw [if_pos (by rfl), zix_nI (show k < zRl.getD 21 0 from h) (by omega)]; rfl
theorem rd22 {s : Zr} {k : Nat} (h : k < 200) : rdI s 22 (nI k) = some (s 22 k) := by unfold rdI; rw [if_pos (by rfl), zix_nI (show k < zRl.getD 22 0 from h) (by omega)]; rfl
theorem wr22 {s : Zr} {k : Nat} {x : Int32} (h : k < 200) : wrI s 22 (nI k) x = some (u2 s 22 k x) := by unfold wrI; rw [if_pos (by rfl), zix_nI (show k < zRl.getD 22 0 from h) (by omega)]; rfl
theorem rd23 {s : Zr} {k : Nat} (h : k < 200) : rdI s 23 (nI k) = some (s 23 k) := by unfold rdI; rw [if_pos (by rfl), zix_nI (show k < zRl.getD 23 0 from h) (by omega)]; rfl
theorem wr23 {s : Zr} {k : Nat} {x : Int32} (h : k < 200) : wrI s 23 (nI k) x = some (u2 s 23 k x) := by unfold wrI; rw [if_pos (by rfl), zix_nI (show k < zRl.getD 23 0 from h) (by omega)]; rfl
theorem rd24 {s : Zr} {k : Nat} (h : k < 200) : rdI s 24 (nI k) = some (s 24 k) := by unfold rdI; rw [if_pos (by rfl), zix_nI (show k < zRl.getD 24 0 from h) (by omega)]; rfl
theorem wr24 {s : Zr} {k : Nat} {x : Int32} (h : k < 200) : wrI s 24 (nI k) x = some (u2 s 24 k x) := by unfold wrI; rw [if_pos (by rfl), zix_nI (show k < zRl.getD 24 0 from h) (by omega)]; rfl
theorem rd25 {s : Zr} {k : Nat} (h : k < 6) : rdI s 25 (nI k) = some (s 25 k) := by unfold rdI; rw [if_pos (by rfl), zix_nI (show k < zRl.getD 25 0 from h) (by omega)]; rfl
theorem wr25 {s : Zr} {k : Nat} {x : Int32} (h : k < 6) : wrI s 25 (nI k) x = some (u2 s 25 k x) := by unfold wrI; rw [if_pos (by rfl), zix_nI (show k < zRl.getD 25 0 from h) (by omega)]; rfl
theorem rd26 {s : Zr} {k : Nat} (h : k < 3904) : rdI s 26 (nI k) = some (s 26 k) := by unfold rdI; rw [if_pos (by rfl), zix_nI (show k < zRl.getD 26 0 from h) (by omega)]; rfl
theorem wr26 {s : Zr} {k : Nat} {x : Int32} (h : k < 3904) : wrI s 26 (nI k) x = some (u2 s 26 k x) := by unfold wrI; rw [if_pos (by rfl), zix_nI (show k < zRl.getD 26 0 from h) (by omega)]; rfl
theorem rd27 {s : Zr} {k : Nat} (h : k < 64) : rdI s 27 (nI k) = some (s 27 k) := by unfold rdI; rw [if_pos (by rfl), zix_nI (show k < zRl.getD 27 0 from h) (by omega)]; rfl
theorem wr27 {s : Zr} {k : Nat} {x : Int32} (h : k < 64) : wrI s 27 (nI k) x = some (u2 s 27 k x) := by unfold wrI; rw [if_pos (by rfl), zix_nI (show k < zRl.getD 27 0 from h) (by omega)]; rfl
theorem rd28 {s : Zr} {k : Nat} (h : k < 64) : rdI s 28 (nI k) = some (s 28 k) := by unfold rdI; rw [if_pos (by rfl), zix_nI (show k < zRl.getD 28 0 from h) (by omega)]; rfl
theorem wr28 {s : Zr} {k : Nat} {x : Int32} (h : k < 64) : wrI s 28 (nI k) x = some (u2 s 28 k x) := by unfold wrI; rw [if_pos (by rfl), zix_nI (show k < zRl.getD 28 0 from h) (by omega)]; rfl
theorem rd29 {s : Zr} {k : Nat} (h : k < 64) : rdI s 29 (nI k) = some (s 29 k) := by unfold rdI; rw [if_pos (by rfl), zix_nI (show k < zRl.getD 29 0 from h) (by omega)]; rfl
theorem wr29 {s : Zr} {k : Nat} {x : Int32} (h : k < 64) : wrI s 29 (nI k) x = some (u2 s 29 k x) := by unfold wrI; rw [if_pos (by rfl), zix_nI (show k < zRl.getD 29 0 from h) (by omega)]; rfl
theorem rd30 {s : Zr} {k : Nat} (h : k < 64) : rdI s 30 (nI k) = some (s 30 k) := by unfold rdI; rw [if_pos (by rfl), zix_nI (show k < zRl.getD 30 0 from h) (by omega)]; rfl
theorem wr30 {s : Zr} {k : Nat} {x : Int32} (h : k < 64) : wrI s 30 (nI k) x = some (u2 s 30 k x) := by unfold wrI; rw [if_pos (by rfl), zix_nI (show k < zRl.getD 30 0 from h) (by omega)]; rfl
theorem rd31 {s : Zr} {k : Nat} (h : k < 200) : rdI s 31 (nI k) = some (s 31 k) := by unfold rdI; rw [if_pos (by rfl), zix_nI (show k < zRl.getD 31 0 from h) (by omega)]; rfl
theorem wr31 {s : Zr} {k : Nat} {x : Int32} (h : k < 200) : wrI s 31 (nI k) x = some (u2 s 31 k x) := by unfold wrI; rw [if_pos (by rfl), zix_nI (show k < zRl.getD 31 0 from h) (by omega)]; rfl
theorem rd32 {s : Zr} {k : Nat} (h : k < 200) : rdI s 32 (nI k) = some (s 32 k) := by unfold rdI; rw [if_pos (by rfl), zix_nI (show k < zRl.getD 32 0 from h) (by omega)]; rfl
theorem wr32 {s : Zr} {k : Nat} {x : Int32} (h : k < 200) : wrI s 32 (nI k) x = some (u2 s 32 k x) := by unfold wrI; rw [if_pos (by rfl), zix_nI (show k < zRl.getD 32 0 from h) (by omega)]; rfl
theorem rd33 {s : Zr} {k : Nat} (h : k < 12000) : rdI s 33 (nI k) = some (s 33 k) := by unfold rdI; rw [if_pos (by rfl), zix_nI (show k < zRl.getD 33 0 from h) (by omega)]; rfl
theorem wr33 {s : Zr} {k : Nat} {x : Int32} (h : k < 12000) : wrI s 33 (nI k) x = some (u2 s 33 k x) := by unfold wrI; rw [if_pos (by rfl), zix_nI (show k < zRl.getD 33 0 from h) (by omega)]; rfl
theorem rd34 {s : Zr} {k : Nat} (h : k < 12000) : rdI s 34 (nI k) = some (s 34 k) := by unfold rdI; rw [if_pos (by rfl), zix_nI (show k < zRl.getD 34 0 from h) (by omega)]; rfl
theorem wr34 {s : Zr} {k : Nat} {x : Int32} (h : k < 12000) : wrI s 34 (nI k) x = some (u2 s 34 k x) := by unfold wrI; rw [if_pos (by rfl), zix_nI (show k < zRl.getD 34 0 from h) (by omega)]; rfl
theorem rd35 {s : Zr} {k : Nat} (h : k < 12000) : rdI s 35 (nI k) = some (s 35 k) := by unfold rdI; rw [if_pos (by rfl), zix_nI (show k < zRl.getD 35 0 from h) (by omega)]; rfl
theorem wr35 {s : Zr} {k : Nat} {x : Int32} (h : k < 12000) : wrI s 35 (nI k) x = some (u2 s 35 k x) := by unfold wrI; rw [if_pos (by rfl), zix_nI (show k < zRl.getD 35 0 from h) (by omega)]; rfl
theorem rd36 {s : Zr} {k : Nat} (h : k < 144) : rdZ s 36 (nI k) = some (s 36 k) := by unfold rdZ; rw [if_pos (by rfl), zix_nI (show k < zRl.getD 36 0 from h) (by omega)]; rfl
theorem wr36 {s : Zr} {k : Nat} {x : Int32} (h : k < 144) (hx : x = 0 ∨ x = 1) : wrZ s 36 (nI k) x = some (u2 s 36 k x) := by unfold wrZ; rw [if_pos (by rfl), zix_nI (show k < zRl.getD 36 0 from h) (by omega)]; unfold zbo; simp only [Option.bind_some]; rw [if_pos hx]; rfl
theorem rd37 {s : Zr} {k : Nat} (h : k < 12) : rdZ s 37 (nI k) = some (s 37 k) := by unfold rdZ; rw [if_pos (by rfl), zix_nI (show k < zRl.getD 37 0 from h) (by omega)]; rfl
theorem wr37 {s : Zr} {k : Nat} {x : Int32} (h : k < 12) (hx : x = 0 ∨ x = 1) : wrZ s 37 (nI k) x = some (u2 s 37 k x) := by unfold wrZ; rw [if_pos (by rfl), zix_nI (show k < zRl.getD 37 0 from h) (by omega)]; unfold zbo; simp only [Option.bind_some]; rw [if_pos hx]; rfl
theorem rd38 {s : Zr} {k : Nat} (h : k < 12) : rdZ s 38 (nI k) = some (s 38 k) := by unfold rdZ; rw [if_pos (by rfl), zix_nI (show k < zRl.getD 38 0 from h) (by omega)]; rfl
theorem wr38 {s : Zr} {k : Nat} {x : Int32} (h : k < 12) (hx : x = 0 ∨ x = 1) : wrZ s 38 (nI k) x = some (u2 s 38 k x) := by unfold wrZ; rw [if_pos (by rfl), zix_nI (show k < zRl.getD 38 0 from h) (by omega)]; unfold zbo; simp only [Option.bind_some]; rw [if_pos hx]; rfl
theorem rd39 {s : Zr} {k : Nat} (h : k < 12) : rdZ s 39 (nI k) = some (s 39 k) := by unfold rdZ; rw [if_pos (by rfl), zix_nI (show k < zRl.getD 39 0 from h) (by omega)]; rfl
theorem wr39 {s : Zr} {k : Nat} {x : Int32} (h : k < 12) (hx : x = 0 ∨ x = 1) : wrZ s 39 (nI k) x = some (u2 s 39 k x) := by unfold wrZ; rw [if_pos (by rfl), zix_nI (show k < zRl.getD 39 0 from h) (by omega)]; unfold zbo; simp only [Option.bind_some]; rw [if_pos hx]; rfl
theorem rd40 {s : Zr} {k : Nat} (h : k < 12) : rdI s 40 (nI k) = some (s 40 k) := by unfold rdI; rw [if_pos (by rfl), zix_nI (show k < zRl.getD 40 0 from h) (by omega)]; rfl
theorem wr40 {s : Zr} {k : Nat} {x : Int32} (h : k < 12) : wrI s 40 (nI k) x = some (u2 s 40 k x) := by unfold wrI; rw [if_pos (by rfl), zix_nI (show k < zRl.getD 40 0 from h) (by omega)]; rfl
theorem rd41 {s : Zr} {k : Nat} (h : k < 12) : rdI s 41 (nI k) = some (s 41 k) := by unfold rdI; rw [if_pos (by rfl), zix_nI (show k < zRl.getD 41 0 from h) (by omega)]; rfl
theorem wr41 {s : Zr} {k : Nat} {x : Int32} (h : k < 12) : wrI s 41 (nI k) x = some (u2 s 41 k x) := by unfold wrI; rw [if_pos (by rfl), zix_nI (show k < zRl.getD 41 0 from h) (by omega)]; rfl
theorem rd42 {s : Zr} {k : Nat} (h : k < 144) : rdZ s 42 (nI k) = some (s 42 k) := by unfold rdZ; rw [if_pos (by rfl), zix_nI (show k < zRl.getD 42 0 from h) (by omega)]; rfl
theorem wr42 {s : Zr} {k : Nat} {x : Int32} (h : k < 144) (hx : x = 0 ∨ x = 1) : wrZ s 42 (nI k) x = some (u2 s 42 k x) := by unfold wrZ; rw [if_pos (by rfl), zix_nI (show k < zRl.getD 42 0 from h) (by omega)]; unfold zbo; simp only [Option.bind_some]; rw [if_pos hx]; rfl
theorem rd43 {s : Zr} {k : Nat} (h : k < 144) : rdZ s 43 (nI k) = some (s 43 k) := by unfold rdZ; rw [if_pos (by rfl), zix_nI (show k < zRl.getD 43 0 from h) (by omega)]; rfl
theorem wr43 {s : Zr} {k : Nat} {x : Int32} (h : k < 144) (hx : x = 0 ∨ x = 1) : wrZ s 43 (nI k) x = some (u2 s 43 k x) := by unfold wrZ; rw [if_pos (by rfl), zix_nI (show k < zRl.getD 43 0 from h) (by omega)]; unfold zbo; simp only [Option.bind_some]; rw [if_pos hx]; rfl
theorem rd44 {s : Zr} {k : Nat} (h : k < 12) : rdZ s 44 (nI k) = some (s 44 k) := by unfold rdZ; rw [if_pos (by rfl), zix_nI (show k < zRl.getD 44 0 from h) (by omega)]; rfl
theorem wr44 {s : Zr} {k : Nat} {x : Int32} (h : k < 12) (hx : x = 0 ∨ x = 1) : wrZ s 44 (nI k) x = some (u2 s 44 k x) := by unfold wrZ; rw [if_pos (by rfl), zix_nI (show k < zRl.getD 44 0 from h) (by omega)]; unfold zbo; simp only [Option.bind_some]; rw [if_pos hx]; rfl
theorem rd45 {s : Zr} {k : Nat} (h : k < 12) : rdZ s 45 (nI k) = some (s 45 k) := by unfold rdZ; rw [if_pos (by rfl), zix_nI (show k < zRl.getD 45 0 from h) (by omega)]; rfl
theorem wr45 {s : Zr} {k : Nat} {x : Int32} (h : k < 12) (hx : x = 0 ∨ x = 1) : wrZ s 45 (nI k) x = some (u2 s 45 k x) := by unfold wrZ; rw [if_pos (by rfl), zix_nI (show k < zRl.getD 45 0 from h) (by omega)]; unfold zbo; simp only [Option.bind_some]; rw [if_pos hx]; rfl
theorem rd46 {s : Zr} {k : Nat} (h : k < 14) : rdI s 46 (nI k) = some (s 46 k) := by unfold rdI; rw [if_pos (by rfl), zix_nI (show k < zRl.getD 46 0 from h) (by omega)]; rfl
theorem wr46 {s : Zr} {k : Nat} {x : Int32} (h : k < 14) : wrI s 46 (nI k) x = some (u2 s 46 k x) := by unfold wrI; rw [if_pos (by rfl), zix_nI (show k < zRl.getD 46 0 from h) (by omega)]; rfl
theorem rd47 {s : Zr} {k : Nat} (h : k < 144) : rdI s 47 (nI k) = some (s 47 k) := by unfold rdI; rw [if_pos (by rfl), zix_nI (show k < zRl.getD 47 0 from h) (by omega)]; rfl
theorem wr47 {s : Zr} {k : Nat} {x : Int32} (h : k < 144) : wrI s 47 (nI k) x = some (u2 s 47 k x) := by unfold wrI; rw [if_pos (by rfl), zix_nI (show k < zRl.getD 47 0 from h) (by omega)]; rfl
theorem rd48 {s : Zr} {k : Nat} (h : k < 144) : rdZ s 48 (nI k) = some (s 48 k) := by unfold rdZ; rw [if_pos (by rfl), zix_nI (show k < zRl.getD 48 0 from h) (by omega)]; rfl
theorem wr48 {s : Zr} {k : Nat} {x : Int32} (h : k < 144) (hx : x = 0 ∨ x = 1) : wrZ s 48 (nI k) x = some (u2 s 48 k x) := by unfold wrZ; rw [if_pos (by rfl), zix_nI (show k < zRl.getD 48 0 from h) (by omega)]; unfold zbo; simp only [Option.bind_some]; rw [if_pos hx]; rfl
