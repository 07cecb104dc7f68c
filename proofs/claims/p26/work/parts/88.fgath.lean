/-! found on the reference's side: the parts by who is near whom -/
theorem cN_lt {P Q : Nat → Prop} (h : ∀ v, P v → Q v) {v : Nat} (hv : v < 12) (hp : ¬ P v) (hq : Q v) : cN P < cN Q := by
  have d : dsj [P, fun w => w = v] := List.pairwise_cons.mpr ⟨fun R hR w h1 h2 => by
    rw [List.mem_singleton.mp hR] at h2
    exact hp (h2 ▸ h1), List.pairwise_singleton _ _⟩
  have := dsj_sum (S := Q) _ d (fun R hR w hw => by
    rcases List.mem_cons.mp hR with rfl | hR
    · exact h w hw
    · rw [List.mem_singleton.mp hR] at hw
      have hw : w = v := hw
      exact hw ▸ hq)
  have p1 : 1 ≤ cN (fun w => w = v) := cN_pos hv rfl
  have e : gS cN [P, fun w => w = v] = cN P + (cN (fun w => w = v) + 0) := rfl
  omega
theorem n3_nI {k : Nat} (h : k < 12) : ¬ nI k = (-3 : Int32) := by
  have : ∀ k, k < 12 → ¬ nI k = (-3 : Int32) := by decide
  exact this k h
section GATH
variable {A0 A : Nat → Nat → Prop} {S : Nat → Prop}
def rL (A : Nat → Nat → Prop) (S : Nat → Prop) (s : Zr) : Prop := ∀ v, v < 12 → (S v → ∃ r, r < 12 ∧ isRt A S r ∧ CN A S r v ∧ s 40 v = nI r) ∧ (¬ S v → s 40 v = -3)
end GATH
section GATH2
variable {A0 A : Nat → Nat → Prop} {S : Nat → Prop}
end GATH2
section GATH3
variable {A0 A : Nat → Nat → Prop} {S : Nat → Prop}
def rPs (A : Nat → Nat → Prop) (S : Nat → Prop) (s : Zr) : Prop := rL A S s ∧ s 0 52 = nI (rtL A S).length ∧ ∀ i, i < (rtL A S).length → s 41 i = nI ((rtL A S).getD i 0)
end GATH3
