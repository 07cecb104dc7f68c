/-! times: sum, count, longest, silent -/
abbrev Tm : Type := Int32 × Int32 × Int32 × Int32
/-- the reference: what a call changes -/
def rOnly (S : Nat → Nat → Prop) (s s' : Zr) : Prop := ∀ a k, ¬ S a k → s' a k = s a k
theorem rOnly.rf {S : Nat → Nat → Prop} {s : Zr} : rOnly S s s := fun _ _ _ => rfl
theorem rOnly.tr {S : Nat → Nat → Prop} {s s1 s2 : Zr} (a : rOnly S s s1) (b : rOnly S s1 s2) : rOnly S s s2 := fun x k h => (b x k h).trans (a x k h)
theorem rOnly.mono {S S' : Nat → Nat → Prop} {s s' : Zr} (a : rOnly S s s') (h : ∀ x k, S x k → S' x k) : rOnly S' s s' := fun x k n => a x k (fun z => n (h x k z))
theorem rOnly.u {S : Nat → Nat → Prop} {s : Zr} {a k : Nat} {x : Int32} (h : S a k) : rOnly S s (u2 s a k x) := fun b j n => u2_n (fun z => n (by rw [z.1, z.2]; exact h))
theorem rLog.only {S : Nat → Nat → Prop} {s s' : Zr} {m : Ml} (h : rLog s m) (e : rOnly S s s') (h0 : ¬ S 0 0) (hS : ∀ a k, 1 ≤ a → a ≤ 6 → ¬ S a k) : rLog s' m := by
  refine ⟨(e 0 0 h0).trans h.1, fun c hc => ⟨(e 1 c (hS 1 c (by omega) (by omega))).trans (h.2.1 c hc).1, (e 2 c (hS 2 c (by omega) (by omega))).trans (h.2.1 c hc).2⟩, fun c i hc hi w hw => ?_⟩
  exact (e (3 + w) _ (hS _ _ (by omega) (by omega))).trans (h.2.2 c i hc hi w hw)
