/-! found on the reference's side: kids, leaves -/
abbrev sTk (a D b k : Nat) : Prop := (b = 0 ∧ k = 20) ∨ (b = 17 ∧ k = D) ∨ (b = 16 ∧ k = a)
theorem rtakes_eq {s : Zr} {a x D c : Nat} (ha : a < 200) (hD : D < 20000) (h20 : s 0 20 = nI D) (h16 : s 16 a = nI c) : ∃ s', fX6_takes s (nI a) (nI x) = some s' ∧ s' 0 20 = nI (D + 1) ∧ s' 16 a = nI (c + 1) ∧ s' 17 D = nI x ∧ rOnly (sTk a D) s s' := by
  unfold fX6_takes
  rw [h20, wr17 hD, Option.bind_some]
  have a1 : u2 s 17 D (nI x) 0 20 = nI D := by rw [u2_a (by decide)]; exact h20
  rw [a1, Option.bind_some, rd16 ha, Option.bind_some]
  have a2 : u2 (u2 s 17 D (nI x)) 0 20 (nI D + 1) 16 a = nI c := by rw [u2_a (by decide), u2_a (by decide)]; exact h16
  rw [a2, wr16 ha, Option.bind_some]
  refine ⟨_, rfl, ?_, ?_, ?_, ((rOnly.u (by omega)).tr (rOnly.u (by omega))).tr (rOnly.u (by omega))⟩
  · rw [u2_a (by decide), u2_s, nI_1]
  · rw [u2_s, nI_1]
  · rw [u2_a (by decide), u2_a (by decide), u2_s]
abbrev sLf (N b k : Nat) : Prop := sNn N b k ∨ (b = 32 ∧ k = N)
theorem rleaf_eq {s : Zr} {N : Nat} {k y : Int32} (hN : N < 200) (e15 : s 0 15 = nI N) : ∃ s', fX6_leaf s k y = some (nI N, s') ∧ s' 0 15 = nI (N + 1) ∧ (s' 13 N = k ∧ s' 14 N = y ∧ s' 15 N = s 0 20 ∧ s' 16 N = 0) ∧ s' 32 N = -1 ∧ rOnly (sLf N) s s' := by
  unfold fX6_leaf
  obtain ⟨s1, e1, n15, ⟨n1, n2, n3, n4⟩, o1⟩ := rnn_eq (k := k) (y := y) hN e15
  rw [e1, Option.bind_some]
  dsimp only
  rw [wr32 hN, Option.bind_some]
  refine ⟨_, rfl, ?_, ⟨?_, ?_, ?_, ?_⟩, u2_s, (o1.mono (fun a k z => Or.inl z)).tr (rOnly.u (Or.inr ⟨rfl, rfl⟩))⟩
  · rw [u2_a (by decide)]; exact n15
  · rw [u2_a (by decide)]; exact n1
  · rw [u2_a (by decide)]; exact n2
  · rw [u2_a (by decide)]; exact n3
  · rw [u2_a (by decide)]; exact n4
/-- kids put down one behind the other -/
theorem rkids_eq {s : Zr} {a D m : Nat} {kid : Nat → Nat} (ha : a < 200) (hD : D + m < 20000) (hm : m < 100) (h20 : s 0 20 = nI D) (h16 : s 16 a = nI 0) (h46 : ∀ i, i < m → s 46 i = nI (kid i)) (m14 : m ≤ 14) : zS (zloop (fun ((v20, s21) : Int32 × Zr) =>
    (if nI m ≤ v20 then
      some (.inr s21)
    else
      (rdI s21 46 v20).bind fun x25 =>
      (fX6_takes s21 (nI a) x25).bind fun s26 =>
      some (.inl (v20 + (1 : Int32), s26)) : Option ((Int32 × Zr) ⊕ Zr))) zFU ((0 : Int32), s))
    (fun s' => s' 0 20 = nI (D + m) ∧ s' 16 a = nI m ∧ (∀ i, i < m → s' 17 (D + i) = nI (kid i)) ∧ rOnly (fun b k => (b = 0 ∧ k = 20) ∨ (b = 17 ∧ D ≤ k) ∨ (b = 16 ∧ k = a)) s s') := by
  refine zS.up (fun j s' => s' 0 20 = nI (D + j) ∧ s' 16 a = nI j ∧ (∀ i, i < j → s' 17 (D + i) = nI (kid i)) ∧ rOnly (fun b k => (b = 0 ∧ k = 20) ∨ (b = 17 ∧ D ≤ k) ∨ (b = 16 ∧ k = a)) s s') 0 m (fun j s' _ hj hJ => ?_) (fun s' hJ => ?_) (Nat.zero_le _) (by omega) ⟨h20, h16, fun i z => absurd z (Nat.not_lt_zero _), rOnly.rf⟩
  · obtain ⟨j1, j2, j3, j4⟩ := hJ
    dsimp only
    rw [if_neg (nI_nle' (by omega) hj), rd46 (by omega), Option.bind_some, j4 46 j (by omega), h46 j hj]
    obtain ⟨s2, e2, t1, t2, t3, t4⟩ := rtakes_eq (x := kid j) ha (by omega) j1 j2
    rw [e2, Option.bind_some]
    refine zS.s ⟨_, by rw [nI_1], by rw [t1, Nat.add_assoc], t2, fun i hi => ?_, j4.tr (t4.mono (fun b k z => by omega))⟩
    by_cases c : i = j
    · subst c; exact t3
    · rw [t4 17 (D + i) (by omega)]; exact j3 i (by omega)
  · dsimp only
    rw [if_pos (nI_le (Nat.le_refl _) (by omega))]
    exact zS.s ⟨_, rfl, hJ⟩
