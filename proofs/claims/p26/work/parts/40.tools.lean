/-! tools of the pure proofs -/
def b2 (p : Prop) [Decidable p] : Int32 := if p then 1 else 0
theorem b2_z {p : Prop} [Decidable p] : (b2 p = 0) = (¬ p) := by
  unfold b2
  by_cases h : p
  · rw [if_pos h]; simp [h]
  · rw [if_neg h]; simp [h]
theorem b2_t {p : Prop} [Decidable p] (h : p) : b2 p = 1 := if_pos h
theorem b2_f {p : Prop} [Decidable p] (h : ¬ p) : b2 p = 0 := if_neg h
theorem nI_in' {c N : Nat} (h : c < N) (hc : c < 2 ^ 31) : ¬ (nI c < 0 ∨ N ≤ (nI c).toNatClampNeg) := by
  rw [nI_clamp hc]
  exact fun z => z.elim (nI_pos hc) (by omega)
theorem nI_nle' {a b : Nat} (hb : b < 2 ^ 31) (h : a < b) : ¬ nI b ≤ nI a := nI_ge h hb
theorem zix_nI {n k : Nat} (h : k < n) (hk : k < 2 ^ 31) : zix n (nI k) = some k := by
  unfold zix
  rw [if_neg (nI_in' h hk), nI_clamp hk]
theorem u2_s {α : Type} {f : Nat → Nat → α} {a k : Nat} {v : α} : u2 f a k v a k = v := by unfold u2; rw [if_pos ⟨rfl, rfl⟩]
theorem u2_n {α : Type} {f : Nat → Nat → α} {a k : Nat} {v : α} {b j : Nat} (h : ¬ (b = a ∧ j = k)) : u2 f a k v b j = f b j := by unfold u2; rw [if_neg h]
theorem u2_a {α : Type} {f : Nat → Nat → α} {a k : Nat} {v : α} {b j : Nat} (h : b ≠ a) : u2 f a k v b j = f b j := u2_n (fun z => h z.1)
/-- a loop whose states are known -/
theorem zloop_eq {σ ρ : Type} {f : σ → Option (σ ⊕ ρ)} (g : Nat → σ) (N : Nat) {r : ρ} {n : Nat} (hs : ∀ k, k < N → f (g k) = some (.inl (g (k + 1)))) (he : f (g N) = some (.inr r)) (hn : N < n) : zloop f n (g 0) = some r := by
  have h : ∀ d k m, k + d = N → d < m → zloop f m (g k) = some r := by
    intro d
    induction d with
    | zero =>
      intro k m hk hm
      obtain ⟨m, rfl⟩ : ∃ q, m = q + 1 := ⟨m - 1, by omega⟩
      have : k = N := by omega
      subst this
      show ((f (g k)).bind _) = _
      rw [he]
      rfl
    | succ d ih =>
      intro k m hk hm
      obtain ⟨m, rfl⟩ : ∃ q, m = q + 1 := ⟨m - 1, by omega⟩
      show ((f (g k)).bind _) = _
      rw [hs k (by omega)]
      exact ih (k + 1) m (by omega) (by omega)
  exact h N 0 n (by omega) hn
/-- a loop with an invariant and a measure -/
theorem zloop_inv {σ ρ : Type} {f : σ → Option (σ ⊕ ρ)} (I : Nat → σ → Prop) (P : ρ → Prop) (hs : ∀ n s, I n s → (∃ s' m, f s = some (.inl s') ∧ m < n ∧ I m s') ∨ ∃ r, f s = some (.inr r) ∧ P r) : ∀ (n : Nat) (s : σ) (fu : Nat), I n s → n < fu → ∃ r, zloop f fu s = some r ∧ P r := by
  intro n
  induction n using Nat.strongRecOn with
  | ind n ih =>
    intro s fu hI hn
    obtain ⟨fu, rfl⟩ : ∃ q, fu = q + 1 := ⟨fu - 1, by omega⟩
    rcases hs n s hI with ⟨s', m, e, hm, hI'⟩ | ⟨r, e, hP⟩
    · obtain ⟨r, e2, hP⟩ := ih m hm s' fu hI' (by omega)
      refine ⟨r, ?_, hP⟩
      show ((f s).bind _) = _
      rw [e]
      exact e2
    · refine ⟨r, ?_, hP⟩
      show ((f s).bind _) = _
      rw [e]
      rfl
theorem zFU_v : zFU = 100000 := rfl
theorem rd5 {s : Zr} {k : Nat} (h : k < 144) : rdI s 5 (nI k) = some (s 5 k) := by unfold rdI; rw [if_pos (by rfl), zix_nI (show k < zRl.getD 5 0 from h) (by omega)]; rfl
