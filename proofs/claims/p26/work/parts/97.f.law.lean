/-! the law from its start -/
theorem fi_new {X : Nat} {h : Zh} (n : X + 94 ≤ zn h) (F0 : cF0 h X) (SK : ∀ q, q < 12 → shK h X q) : Fi h X (fun _ => 0) (fun _ => 0) ((0, fun _ => 0, fun _ => false, fun _ _ _ => 0) : Ml) ((0, fun _ => 0, fun _ => 0, fun _ => [], fun _ => 0) : Mp) := by
  obtain ⟨f1, f2, f3, f4, f5, f6, f7, f8⟩ := F0
  exact ⟨⟨n, f1, f2, f3, f4, f5, f6, f7, SK⟩, ⟨(f8 1).trans nI_0.symm, fun k hk => absurd hk (Nat.not_lt_zero _), fun k d hk => absurd hk (Nat.not_lt_zero _)⟩, ⟨(f8 3).trans nI_0.symm, fun k hk => absurd hk (Nat.not_lt_zero _), fun k d r hk => absurd hk (Nat.not_lt_zero _)⟩, ⟨Nat.zero_le _, fun _ => Nat.zero_le _, fun _ _ => ⟨rfl, rfl⟩, fun k i hi => absurd hi (Nat.not_lt_zero _)⟩, ⟨Nat.zero_le _, fun q hq => absurd hq (Nat.not_lt_zero _)⟩⟩
theorem law_ok (c : Nat × Nat) (sc : Nat × (Nat → Int32)) (n t0 : Nat) (hc : c.1 = t0) (ht : t0 < n) (hL : sc.1 ≤ 260) : ∃ hf : Zh, fL_law c sc (((fun v => if v = t0 then 106 else 0), (fun _ => 0), (fun _ _ => 0), (fun _ _ => none), n, 0) : Zh) = some (1, hf) ∧ zn hf - n ≤ 600000 ∧ zs hf - 0 ≤ 7302250 := by
  generalize e0 : (((fun v => if v = t0 then 106 else 0), (fun _ => 0), (fun _ _ => 0), (fun _ _ => none), n, 0) : Zh) = h0
  have en : zn h0 = n := by rw [← e0]; rfl
  have es : zs h0 = 0 := by rw [← e0]; rfl
  have ek : zk h0 t0 = 106 := by rw [← e0]; exact if_pos rfl
  obtain ⟨h1, e1, F0, SK, n1, s1, fk⟩ := cinit_all h0
  obtain ⟨h2, e2, F1, SK1, n2, s2, fk1⟩ := cinit_all h1
  rw [en] at e1 F0 SK n1 fk
  rw [n1] at e2 F1 SK1 n2 fk1
  obtain ⟨c1, c2⟩ := c
  dsimp only at hc
  subst hc
  have G0 : cF0 h2 n := F0.on (fun u hu => by
    obtain ⟨a1, a2, a3, a4⟩ := fk1 u (by omega)
    exact ⟨a1, a2, a3⟩) (fun u hu => (fk1 u (by omega)).2.2.2)
  have GK : ∀ q, q < 12 → shK h2 n q := fun q hq => by
    obtain ⟨a1, a2, ⟨a3, a4, a5⟩, a6⟩ := SK q hq
    refine ⟨by rw [(fk1 _ (by omega)).2.2.2]; exact a1, by rw [(fk1 _ (by omega)).1]; exact a2, ⟨by rw [(fk1 _ (by omega)).2.2.2]; exact a3, by rw [(fk1 _ (by omega)).1]; exact a4, by rw [(fk1 _ (by omega)).2.1]; exact a5⟩, fun w hw => ?_⟩
    obtain ⟨b1, b2, b3⟩ := a6 w hw
    exact ⟨by rw [(fk1 _ (by omega)).2.2.2]; exact b1, by rw [(fk1 _ (by omega)).1]; exact b2, by rw [(fk1 _ (by omega)).2.1]; exact b3⟩
  have Fx := fi_new (X := n) (h := h2) (by omega) G0 GK
  have Fy := fi_new (X := n + 94) (h := h2) (by omega) F1 SK1
  have k1 : zk h2 c1 = 106 := ((fk1 c1 (by omega)).1.trans (fk c1 ht).1).trans ek
  have T0 : ∃ m p, TwF n (n + 94) c1 h2 m p m p (n + 588 + 2010 * 0) (32400 + 27000 * 0) := by
    refine ⟨_, _, _, _, _, _, Fx, Fy, ⟨fun i j hi => absurd hi (Nat.not_lt_zero _), fun q r hq => absurd hq (Nat.not_lt_zero _)⟩, ⟨by omega, k1⟩, ?_, ?_⟩
    · show zn h2 + ((0 + 200) + (0 + 200)) ≤ _
      omega
    · show zs h2 + 64 * ((0 + 200) + (0 + 200)) ≤ _
      omega
  obtain ⟨r, el, hf, er, bn, bs⟩ := zloop_inv (f := fun v : Int32 × Zh => lwS (c1, c2) sc (some n) (some (n + 94)) v.1 v.2) (fun (N : Nat) (s : Int32 × Zh) => ∃ k, s.1 = nI k ∧ k ≤ 60 ∧ N + k = 60 ∧ ∃ m p, TwF n (n + 94) c1 s.2 m p m p (n + 588 + 2010 * k) (32400 + 27000 * k)) (fun r : Zh ⊕ (Int32 × Zh) => ∃ hf, r = .inl hf ∧ zn hf ≤ n + 588 + 2010 * 60 ∧ zs hf ≤ 32400 + 27000 * 60) (fun N s I => by
    obtain ⟨v, h⟩ := s
    obtain ⟨k, ev, kl, nk, m, p, T⟩ := I
    dsimp only at ev T ⊢
    subst ev
    by_cases E : k = 60
    · right
      obtain ⟨ca, pa, cb, pb, -, -, -, -, z1, z2⟩ := T
      refine ⟨.inl h, ?_, h, rfl, by omega, by omega⟩
      unfold lwS
      rw [if_pos (show (60 : Int32) ≤ nI k from nI_le (a := 60) (by omega) (by omega))]
    · left
      obtain ⟨h', m', p', e', T'⟩ := step_ok (c2 := c2) (sc := sc) hL (Or.inl (Nat.le_refl _)) T (show k < 60 by omega)
      exact ⟨_, N - 1, e', by omega, k + 1, rfl, by omega, by omega, m', p', T'.up (by omega) (by omega)⟩) 60 ((0 : Int32), h2) zFU ⟨0, nI_0.symm, Nat.zero_le _, rfl, T0⟩ (by rw [zFU_v]; omega)
  subst er
  refine ⟨hf, ?_, by omega, by omega⟩
  unfold fL_law
  have k7 : zk (znew h0 7 0 8) n = 7 := by rw [← en]; exact znew_k h0 7 0 8
  have k8 : zk (znew h1 7 0 8) (n + 94) = 7 := by rw [← n1]; exact znew_k h1 7 0 8
  have m1 : zmO h0 6 8 = some (some n, znew h0 7 0 8) := by rw [← en]; rfl
  have m2 : zmO h1 6 8 = some (some (n + 94), znew h1 7 0 8) := by rw [← n1]; rfl
  rw [m1, Option.bind_some]
  show ((zob (znew h0 7 0 8) (some n) 7).bind _) = _
  rw [zob_v (by show n < zn h0 + 1; omega) k7, Option.bind_some, e1, Option.bind_some, m2, Option.bind_some]
  show ((zob (znew h1 7 0 8) (some (n + 94)) 7).bind _) = _
  rw [zob_v (by show n + 94 < zn h1 + 1; omega) k8, Option.bind_some, e2, Option.bind_some]
  show ((zloop (fun v : Int32 × Zh => lwS (c1, c2) sc (some n) (some (n + 94)) v.1 v.2) zFU (0, h2)).bind _) = _
  rw [el]
  rfl
/-! the pure program of the law answers 1, within the room -/
theorem zpure (c : Nat × Nat) (sc : Nat × (Nat → Int32)) (n t0 : Nat) (hc : c.1 = t0) (ht : t0 < n) (hL : sc.1 ≤ 260) : ∃ hf : Zh, fL_law c sc (((fun v => if v = t0 then 106 else 0), (fun _ => 0), (fun _ _ => 0), (fun _ _ => none), n, 0) : Zh) = some (1, hf) ∧ zn hf - n ≤ 600000 ∧ zs hf - 0 ≤ 7302250 := law_ok c sc n t0 hc ht hL
