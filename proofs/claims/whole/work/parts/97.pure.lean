/-! what is left: the pure program of the law answers 1, within the room -/
theorem zpure (c : Nat × Nat) (sc : Nat × (Nat → Int32)) (n t0 : Nat) (hc : c.1 = t0) (ht : t0 < n) (hL : sc.1 ≤ 3072) : ∃ hf : Zh, fL_law c sc (((fun v => if v = t0 then 106 else 0), (fun _ => 0), (fun _ _ => 0), (fun _ _ => none), n, 0) : Zh) = some (1, hf) ∧ zn hf - n ≤ 600000 ∧ zs hf - 0 ≤ 7302250 := by
  sorry
