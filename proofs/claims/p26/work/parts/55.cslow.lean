/-! slow, on the class's side -/
theorem cfill_eq {h : Zh} {v n : Nat} (h1 : v < zn h) (h2 : zk h v = 100) (h3 : zl h v = n) (hn : n < 100000) (x : Int32) : ∃ h', fJ7_fill_53178 h (some v) x = some h' ∧ (zExt (fun w => w = v) h h' ∧ zn h' = zn h ∧ zs h' = zs h ∧ zp h' = zp h) ∧ ∀ j, j < n → zi h' v j = x := by
  unfold fJ7_fill_53178
  rw [zaL_v (t := 0) h1 h2, Option.bind_some, h3]
  have q := zloop_inv (f := fun ((v2, h3) : Int32 × Zh) =>
    (if nI n ≤ v2 then
      some (.inr h3)
    else
      (zbI h3 (some v) v2 x).bind fun h7 =>
      some (.inl (v2 + (1 : Int32), h7)) : Option ((Int32 × Zh) ⊕ Zh))) (fun (k : Nat) (s : Int32 × Zh) => ∃ i, k = n - i ∧ i ≤ n ∧ s.1 = nI i ∧ (zExt (fun w => w = v) h s.2 ∧ zn s.2 = zn h ∧ zs s.2 = zs h ∧ zp s.2 = zp h) ∧ ∀ j, j < i → zi s.2 v j = x)
    (fun h' => (zExt (fun w => w = v) h h' ∧ zn h' = zn h ∧ zs h' = zs h ∧ zp h' = zp h) ∧ ∀ j, j < n → zi h' v j = x) (by
    rintro k ⟨w, g⟩ ⟨i, hk, hi, rfl, ⟨e, e1, e2, e3⟩, hv⟩
    dsimp only at e e1 e2 e3 hv
    show (∃ s' m', (if nI n ≤ nI i then _ else _) = _ ∧ _) ∨ ∃ r, (if nI n ≤ nI i then _ else _) = _ ∧ _
    by_cases c1 : n ≤ i
    · rw [if_pos (nI_le c1 (by omega))]
      exact Or.inr ⟨g, rfl, ⟨e, e1, e2, e3⟩, fun j hj => hv j (by omega)⟩
    · rw [if_neg (nI_nle' (by omega) (by omega)), zbI_v (n := n) (by omega) ((e.2 v h1).1.trans h2) ((e.2 v h1).2.1.trans h3) (by omega) (by omega), Option.bind_some, nI_1]
      refine Or.inl ⟨_, n - (i + 1), rfl, by omega, i + 1, rfl, by omega, rfl, ⟨e.up (Or.inl rfl), e1, e2, e3⟩, fun j hj => ?_⟩
      show zi (zsetI g v i x) v j = x
      rw [zi_sI]
      by_cases z : j = i
      · subst z; rw [u2_s]
      · rw [u2_n (by omega)]; exact hv j (by omega)) n (nI 0, h) zFU ⟨0, rfl, by omega, rfl, ⟨zExt.rf, rfl, rfl, rfl⟩, fun j hj => absurd hj (by omega)⟩ (by rw [zFU_v]; omega)
  obtain ⟨h', e, p, hv⟩ := q
  exact ⟨h', congrArg (fun o : Option Zh => o.bind fun h4 => some h4) e, p, hv⟩
