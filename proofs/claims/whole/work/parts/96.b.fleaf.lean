/-! found on the reference's side: leaves, a loop of two, a flower, a choice of silence and the rest -/
def lfO (s : Zr) (D y : Nat) (k n : Int32) : Prop := s 13 y = k ∧ s 14 y = n ∧ s 16 y = 0 ∧ s 32 y = -1 ∧ ∃ f, s 15 y = nI f ∧ f ≤ D
theorem lfO.on {S : Nat → Nat → Prop} {s s' : Zr} {D D' y : Nat} {k n : Int32} (o : rOnly S s s') (h : lfO s D y k n) (h1 : ∀ a, (13 ≤ a ∧ a ≤ 16) ∨ a = 32 → ¬ S a y) (hD : D ≤ D') : lfO s' D' y k n := by
  obtain ⟨a1, a2, a3, a4, f, a5, a6⟩ := h
  exact ⟨(o _ _ (h1 _ (by omega))).trans a1, (o _ _ (h1 _ (by omega))).trans a2, (o _ _ (h1 _ (by omega))).trans a3, (o _ _ (h1 _ (by omega))).trans a4, f, (o _ _ (h1 _ (by omega))).trans a5, by omega⟩
theorem rleaf_lf {s : Zr} {N D : Nat} {k y : Int32} (hN : N < 200) (e15 : s 0 15 = nI N) (e20 : s 0 20 = nI D) : ∃ s', fX6_leaf s k y = some (nI N, s') ∧ s' 0 15 = nI (N + 1) ∧ lfO s' D N k y ∧ rOnly (sLf N) s s' := by
  obtain ⟨s', e, h1, ⟨h2, h3, h4, h5⟩, h6, h7⟩ := rleaf_eq (k := k) (y := y) hN e15
  exact ⟨s', e, h1, ⟨h2, h3, h5, h6, D, by rw [h4]; exact e20, Nat.le_refl _⟩, h7⟩
theorem rtwo_eq {t : Zr} {x D a b : Nat} (hx : x < 200) (hD : D + 2 < 20000) (e20 : t 0 20 = nI D) (e16 : t 16 x = 0) : ∃ t', (∀ (g : Zr → Option Zr), ((wrI t 15 (nI x) (t 0 20)).bind fun s28 => (fX6_takes s28 (nI x) (nI a)).bind fun s29 => (fX6_takes s29 (nI x) (nI b)).bind g) = g t') ∧ t' 0 20 = nI (D + 2) ∧ t' 16 x = nI 2 ∧ t' 15 x = nI D ∧ t' 17 D = nI a ∧ t' 17 (D + 1) = nI b ∧ rOnly (fun c k => (c = 0 ∧ k = 20) ∨ (c = 17 ∧ D ≤ k) ∨ ((c = 15 ∨ c = 16) ∧ k = x)) t t' := by
  have o0 : rOnly (fun c k => c = 15 ∧ k = x) t (u2 t 15 x (nI D)) := rOnly.u ⟨rfl, rfl⟩
  obtain ⟨t1, f1, f2, f3, f4, f5⟩ := rtakes_eq (s := u2 t 15 x (nI D)) (a := x) (x := a) (D := D) (c := 0) hx (by omega) (by rw [o0 0 20 (by omega)]; exact e20) (by rw [o0 16 x (by omega), e16]; exact nI_0.symm)
  obtain ⟨t2, g1, g2, g3, g4, g5⟩ := rtakes_eq (s := t1) (a := x) (x := b) (D := D + 1) (c := 0 + 1) hx (by omega) f2 f3
  refine ⟨t2, fun g => ?_, g2, g3, ?_, ?_, g4, (o0.mono (fun c k z => by omega)).tr ((f5.mono (fun c k z => by omega)).tr (g5.mono (fun c k z => by omega)))⟩
  · rw [e20, wr15 hx, Option.bind_some, f1, Option.bind_some, g1, Option.bind_some]
  · rw [g5 15 x (by omega), f5 15 x (by omega)]; exact u2_s
  · rw [g5 17 D (by omega)]; exact f4
/-- what a leaf or a few of them may change -/
abbrev sLp (x N D a k : Nat) : Prop := (a = 0 ∧ (k = 15 ∨ k = 20)) ∨ (13 ≤ a ∧ a ≤ 16 ∧ N ≤ k) ∨ ((a = 13 ∨ a = 15 ∨ a = 16) ∧ k = x) ∨ (a = 17 ∧ D ≤ k) ∨ (a = 32 ∧ N ≤ k)
theorem rloop2_eq {s : Zr} {x N D : Nat} {k1 y1 : Int32} (hx : x < N) (hN : N ≤ 60) (hD : D ≤ N) (e15 : s 0 15 = nI N) (e20 : s 0 20 = nI D) (h16 : s 16 x = 0) :
    ∃ s1 s2 t', fX6_leaf (u2 s 13 x 5) k1 y1 = some (nI N, s1) ∧ fX6_leaf s1 1 (-3) = some (nI (N + 1), s2) ∧ (∀ (g : Zr → Option Zr), ((wrI s2 15 (nI x) (s2 0 20)).bind fun s6 => (fX6_takes s6 (nI x) (nI N)).bind fun s7 => (fX6_takes s7 (nI x) (nI (N + 1))).bind g) = g t') ∧ (t' 13 x = nI 5 ∧ t' 15 x = nI D ∧ t' 16 x = nI 2 ∧ ∀ j, j < 2 → t' 17 (D + j) = nI (N + j)) ∧ t' 0 15 = nI (N + 2) ∧ t' 0 20 = nI (D + 2) ∧ lfO t' D N k1 y1 ∧ lfO t' D (N + 1) 1 (-3) ∧ rOnly (sLp x N D) s t' := by
  have x200 : x < 200 := by omega
  have o0 : rOnly (fun c k => c = 13 ∧ k = x) s (u2 s 13 x 5) := rOnly.u ⟨rfl, rfl⟩
  obtain ⟨s1, a1, a2, a3, a4⟩ := rleaf_lf (s := u2 s 13 x 5) (N := N) (D := D) (k := k1) (y := y1) (by omega) (by rw [o0 0 15 (by omega)]; exact e15) (by rw [o0 0 20 (by omega)]; exact e20)
  have b20 : s1 0 20 = nI D := by rw [a4 0 20 (by omega), o0 0 20 (by omega)]; exact e20
  obtain ⟨s2, b1, b2, b3, b4⟩ := rleaf_lf (s := s1) (N := N + 1) (D := D) (k := 1) (y := -3) (by omega) a2 b20
  have c20 : s2 0 20 = nI D := by rw [b4 0 20 (by omega)]; exact b20
  obtain ⟨t', d1, d2, d3, d4, d5, d6, d7⟩ := rtwo_eq (t := s2) (x := x) (D := D) (a := N) (b := N + 1) x200 (by omega) c20 (by rw [b4 16 x (by omega), a4 16 x (by omega), o0 16 x (by omega)]; exact h16)
  refine ⟨s1, s2, t', a1, b1, d1, ⟨?_, d4, d3, fun j hj => ?_⟩, ?_, d2, ?_, ?_, (o0.mono (fun c k z => by omega)).tr ((a4.mono (fun c k z => by rcases z with (z | z) | z <;> omega)).tr ((b4.mono (fun c k z => by rcases z with (z | z) | z <;> omega)).tr (d7.mono (fun c k z => by rcases z with z | z | z <;> omega))))⟩
  · rw [d7 13 x (by omega), b4 13 x (by omega), a4 13 x (by omega)]; exact u2_s
  · by_cases c : j = 0
    · subst c; exact d5
    · have : j = 1 := by omega
      subst this; exact d6
  · rw [d7 0 15 (by omega)]; exact b2
  · exact (a3.on b4 (fun a z => by omega) (Nat.le_refl _)).on d7 (fun a z => by omega) (Nat.le_refl _)
  · exact b3.on d7 (fun a z => by omega) (Nat.le_refl _)
theorem rone_eq {s : Zr} {x N D : Nat} {y b : Int32} {p : Prop} (hx : x < N) (hN : N ≤ 60) (hD : D ≤ N) (e15 : s 0 15 = nI N) (e20 : s 0 20 = nI D) (h16 : s 16 x = 0) (hb : isB b p) :
    zS (fX6_one s (nI x) y b) (fun t' => (p → t' 13 x = nI 0 ∧ t' 14 x = y ∧ rOnly (fun a k => (a = 13 ∨ a = 14) ∧ k = x) s t') ∧ (¬ p → (t' 13 x = nI 5 ∧ t' 15 x = nI D ∧ t' 16 x = nI 2 ∧ ∀ j, j < 2 → t' 17 (D + j) = nI (N + j)) ∧ t' 0 15 = nI (N + 2) ∧ t' 0 20 = nI (D + 2) ∧ lfO t' D N 0 y ∧ lfO t' D (N + 1) 1 (-3) ∧ rOnly (sLp x N D) s t')) := by
  unfold fX6_one
  by_cases c : b = 0
  · rw [if_pos c]
    obtain ⟨s1, s2, t', f1, f2, d1, d2, d3, d4, d5, d6, d7⟩ := rloop2_eq (k1 := 0) (y1 := y) hx hN hD e15 e20 h16
    rw [wr13 (by omega), Option.bind_some, f1, Option.bind_some]
    dsimp only
    rw [f2, Option.bind_some]
    dsimp only
    refine ⟨t', d1 _, fun z => (hb.n c z).elim, fun _ => ⟨d2, d3, d4, d5, d6, d7⟩⟩
  · rw [if_neg c, wr13 (by omega), Option.bind_some, wr14 (by omega), Option.bind_some]
    refine zS.s ⟨fun _ => ⟨?_, u2_s, (rOnly.u (by omega)).tr (rOnly.u (by omega))⟩, fun z => (z (hb.p c)).elim⟩
    rw [u2_a (by decide)]; exact u2_s

/-- deeds put down one behind the other: those of k names -/
theorem rflw1_eq {s : Zr} {M D : Nat} {S : Nat → Prop} (hM : M ≤ 62) (e15 : s 0 15 = nI M) (e20 : s 0 20 = nI D) (h37 : ∀ v, v < 12 → isB (s 37 v) (S v)) :
    zS (zloop (fun ((v9, s10) : Int32 × Zr) =>
    (if (12 : Int32) ≤ v9 then
      some (.inr s10)
    else
      (rdZ s10 37 v9).bind fun x14 =>
      (if x14 = 0 then
        some s10
      else
        (fX6_leaf s10 (0 : Int32) v9).bind fun ((x17, s18) : Int32 × Zr) =>
        some s18).bind fun (s15 : Zr) =>
      some (.inl (v9 + (1 : Int32), s15)) : Option ((Int32 × Zr) ⊕ Zr))) zFU ((0 : Int32), s))
      (fun s' => s' 0 15 = nI (M + (nmL S).length) ∧ (∀ i, i < (nmL S).length → lfO s' D (M + i) 0 (nI ((nmL S).getD i 0))) ∧ rOnly (fun a k => (a = 0 ∧ k = 15) ∨ (13 ≤ a ∧ a ≤ 16 ∧ M ≤ k) ∨ (a = 32 ∧ M ≤ k)) s s') := by
  let G : Nat → List Nat := fun k => (List.range k).filter (fun v => cB (S v))
  have Gl : ∀ k, (G k).length ≤ k := fun k => by
    have := List.length_filter_le (fun v => cB (S v)) (List.range k)
    rw [List.length_range] at this
    exact this
  refine zS.up (fun k s' => s' 0 15 = nI (M + (G k).length) ∧ (∀ i, i < (G k).length → lfO s' D (M + i) 0 (nI ((G k).getD i 0))) ∧ rOnly (fun a k => (a = 0 ∧ k = 15) ∨ (13 ≤ a ∧ a ≤ 16 ∧ M ≤ k) ∨ (a = 32 ∧ M ≤ k)) s s') 0 12 (fun k s' _ hk hJ => ?_) (fun s' hJ => ?_) (Nat.zero_le _) (by omega) ⟨e15, fun i z => absurd z (Nat.not_lt_zero _), rOnly.rf⟩
  · obtain ⟨j1, j2, o⟩ := hJ
    have eG : G (k + 1) = G k ++ (if cB (S k) = true then [k] else []) := by
      show (List.range (k + 1)).filter _ = _
      rw [List.range_succ, List.filter_append]
      congr 1
      by_cases c : cB (S k) = true
      · rw [if_pos c, List.filter_cons_of_pos (p := fun v => cB (S v)) c]; rfl
      · rw [if_neg c, List.filter_cons_of_neg (p := fun v => cB (S v)) c]; rfl
    have b := h37 k hk
    have gk := Gl k
    dsimp only
    rw [if_neg (k12 hk), rd37 hk, Option.bind_some, o 37 k (by omega)]
    by_cases c : s 37 k = 0
    · rw [if_neg (fun z => b.n c (cB_t.mp z)), List.append_nil] at eG
      rw [if_pos c, Option.bind_some]
      refine zS.s ⟨_, by rw [nI_1], ?_⟩
      rw [eG]
      exact ⟨j1, j2, o⟩
    · rw [if_pos (cB_t.mpr (b.p c))] at eG
      have el : (G (k + 1)).length = (G k).length + 1 := by rw [eG, List.length_append]; rfl
      obtain ⟨t, t1, t2, t3, t4⟩ := rleaf_lf (s := s') (N := M + (G k).length) (D := D) (k := 0) (y := nI k) (by omega) j1 (by rw [o 0 20 (by omega)]; exact e20)
      rw [if_neg c, t1, Option.bind_some]
      dsimp only
      rw [Option.bind_some]
      refine zS.s ⟨_, by rw [nI_1], ?_, fun i hi => ?_, o.tr (t4.mono (fun a k z => by rcases z with (z | z) | z <;> omega))⟩
      · rw [el]; exact t2
      · rw [el] at hi
        by_cases d : i = (G k).length
        · subst d
          have : (G (k + 1)).getD (G k).length 0 = k := by
            rw [eG, List.getD_eq_getElem?_getD, List.getElem?_append_right (Nat.le_refl _), Nat.sub_self]; rfl
          rw [this]; exact t3
        · have : (G (k + 1)).getD i 0 = (G k).getD i 0 := by
            rw [eG, List.getD_eq_getElem?_getD, List.getD_eq_getElem?_getD, List.getElem?_append_left (by omega)]
          rw [this]
          exact (j2 i (by omega)).on t4 (fun a z => by omega) (Nat.le_refl _)
  · dsimp only
    rw [if_pos e12]
    exact zS.s ⟨_, rfl, hJ⟩
theorem rflw2_eq {s : Zr} {x D M c : Nat} (hx : x < 200) (hD : D + c < 20000) (hM : M + c ≤ 200) (e15 : s 0 15 = nI (M + c)) (e20 : s 0 20 = nI D) (h16 : s 16 x = nI 0) :
    zS (zloop (fun ((v20, s21) : Int32 × Zr) =>
    (if (s21 0 15) ≤ v20 then
      some (.inr s21)
    else
      (fX6_takes s21 (nI x) v20).bind fun s25 =>
      some (.inl (v20 + (1 : Int32), s25)) : Option ((Int32 × Zr) ⊕ Zr))) zFU (nI M, s))
      (fun s' => s' 0 20 = nI (D + c) ∧ s' 16 x = nI c ∧ (∀ i, i < c → s' 17 (D + i) = nI (M + i)) ∧ rOnly (fun b k => (b = 0 ∧ k = 20) ∨ (b = 17 ∧ D ≤ k) ∨ (b = 16 ∧ k = x)) s s') := by
  refine zS.up (fun q s' => ∃ j, q = M + j ∧ j ≤ c ∧ s' 0 20 = nI (D + j) ∧ s' 16 x = nI j ∧ (∀ i, i < j → s' 17 (D + i) = nI (M + i)) ∧ rOnly (fun b k => (b = 0 ∧ k = 20) ∨ (b = 17 ∧ D ≤ k) ∨ (b = 16 ∧ k = x)) s s') M (M + c) (fun q s' hq0 hq hJ => ?_) (fun s' hJ => ?_) (by omega) (by omega) ⟨0, rfl, Nat.zero_le _, e20, h16, fun i z => absurd z (Nat.not_lt_zero _), rOnly.rf⟩
  · obtain ⟨j, rfl, jc, j1, j2, j3, j4⟩ := hJ
    dsimp only
    rw [j4 0 15 (by omega), e15, if_neg (nI_nle' (by omega) hq)]
    obtain ⟨s2, e2, t1, t2, t3, t4⟩ := rtakes_eq (x := M + j) hx (by omega) j1 j2
    rw [e2, Option.bind_some]
    refine zS.s ⟨_, by rw [nI_1], j + 1, by omega, by omega, by rw [t1, Nat.add_assoc], t2, fun i hi => ?_, j4.tr (t4.mono (fun b k z => by omega))⟩
    by_cases d : i = j
    · subst d; exact t3
    · rw [t4 17 (D + i) (by omega)]; exact j3 i (by omega)
  · obtain ⟨j, hj, jc, j1, j2, j3, j4⟩ := hJ
    have : j = c := by omega
    subst this
    dsimp only
    rw [j4 0 15 (by omega), e15, if_pos (nI_le (Nat.le_refl _) (by omega))]
    exact zS.s ⟨_, rfl, j1, j2, j3, j4⟩
theorem zS.rw {α : Type} {o o' : Option α} {R : α → Prop} (e : o = o') (h : zS o' R) : zS o R := by
  rw [e]; exact h
theorem rflower_eq {s : Zr} {x N D : Nat} {S : Nat → Prop} (hx : x < N) (hN : N ≤ 60) (hD : D ≤ N) (e15 : s 0 15 = nI N) (e20 : s 0 20 = nI D) (h16 : s 16 x = 0) (h37 : ∀ v, v < 12 → isB (s 37 v) (S v)) :
    zS (fX6_flower s (nI x)) (fun s' => (s' 13 x = nI 5 ∧ s' 15 x = nI D ∧ s' 16 x = nI 2 ∧ ∀ j, j < 2 → s' 17 (D + j) = nI (N + j)) ∧ s' 0 15 = nI (N + 2 + (nmL S).length) ∧ s' 0 20 = nI (D + 2 + (nmL S).length) ∧
      (s' 13 N = nI 3 ∧ s' 14 N = -3 ∧ s' 15 N = nI (D + 2) ∧ s' 16 N = nI (nmL S).length ∧ s' 32 N = -1 ∧ ∀ i, i < (nmL S).length → s' 17 (D + 2 + i) = nI (N + 2 + i)) ∧ lfO s' (D + 2) (N + 1) 1 (-3) ∧ (∀ i, i < (nmL S).length → lfO s' (D + 2) (N + 2 + i) 0 (nI ((nmL S).getD i 0))) ∧ rOnly (sLp x N D) s s') := by
  have c12 : (nmL S).length ≤ 12 := cN_12 S
  obtain ⟨s1, s2, t, f1, f2, d1, ⟨d2, d3, d4, d5⟩, d6, d7, ⟨d8, d9, d10, d11, -⟩, d12, d13⟩ := rloop2_eq (k1 := 3) (y1 := -3) hx hN hD e15 e20 h16
  unfold fX6_flower
  rw [wr13 (by omega), Option.bind_some, f1, Option.bind_some]
  dsimp only
  rw [f2, Option.bind_some]
  dsimp only
  rw [d1]
  refine zS.b (rflw1_eq (s := t) (M := N + 2) (D := D + 2) (S := S) (by omega) d6 d7 (fun v hv => by rw [d13 37 v (by omega)]; exact h37 v hv)) (fun s2 ⟨b1, b2, b3⟩ => ?_)
  have g20 : s2 0 20 = nI (D + 2) := by rw [b3 0 20 (by omega)]; exact d7
  rw [wr15 (by omega), Option.bind_some, d6, g20]
  have o3 : rOnly (fun a k => a = 15 ∧ k = N) s2 (u2 s2 15 N (nI (D + 2))) := rOnly.u ⟨rfl, rfl⟩
  refine zS.b (rflw2_eq (s := u2 s2 15 N (nI (D + 2))) (x := N) (D := D + 2) (M := N + 2) (c := (nmL S).length) (by omega) (by omega) (by omega) (by rw [o3 0 15 (by omega)]; exact b1) (by rw [o3 0 20 (by omega)]; exact g20) (by rw [o3 16 N (by omega), b3 16 N (by omega), d10]; exact nI_0.symm)) (fun s4 ⟨f1, f2, f3, f4⟩ => ?_)
  refine zS.s ⟨⟨?_, ?_, ?_, fun j hj => ?_⟩, ?_, f1, ⟨?_, ?_, ?_, f2, ?_, f3⟩, ?_, fun i hi => ?_, d13.tr ((b3.mono (fun a k z => by rcases z with z | z | z <;> omega)).tr ((o3.mono (fun a k z => by omega)).tr (f4.mono (fun a k z => by rcases z with z | z | z <;> omega))))⟩
  · rw [f4 13 x (by omega), o3 13 x (by omega), b3 13 x (by omega)]; exact d2
  · rw [f4 15 x (by omega), o3 15 x (by omega), b3 15 x (by omega)]; exact d3
  · rw [f4 16 x (by omega), o3 16 x (by omega), b3 16 x (by omega)]; exact d4
  · rw [f4 17 (D + j) (by omega), o3 17 (D + j) (by omega), b3 17 (D + j) (by omega)]; exact d5 j hj
  · rw [f4 0 15 (by omega), o3 0 15 (by omega)]; exact b1
  · rw [f4 13 N (by omega), o3 13 N (by omega), b3 13 N (by omega), d8]; rfl
  · rw [f4 14 N (by omega), o3 14 N (by omega), b3 14 N (by omega)]; exact d9
  · rw [f4 15 N (by omega)]; exact u2_s
  · rw [f4 32 N (by omega), o3 32 N (by omega), b3 32 N (by omega)]; exact d11
  · exact ((d12.on b3 (fun a z => by omega) (Nat.le_add_right _ _)).on o3 (fun a z => by omega) (Nat.le_refl _)).on f4 (fun a z => by omega) (Nat.le_refl _)
  · exact ((b2 i hi).on o3 (fun a z => by omega) (Nat.le_refl _)).on f4 (fun a z => by omega) (Nat.le_refl _)
theorem rrest_eq {s : Zr} {l : Rw} {x f0 N D F W : Nat} (ok : xOK l) (hx : x < N) (hN : N ≤ 60) (hD : D ≤ N) (hF : F ≤ 144 * N) (hW : W ≤ 144 * N) (e15 : s 0 15 = nI N) (e20 : s 0 20 = nI D) (e42 : s 0 42 = nI F) (e45 : s 0 45 = nI W) (h16 : s 16 x = 0) (h31 : s 31 x = nI f0) (h32 : s 32 x = nI l.length) (hf0 : f0 + l.length ≤ F) (hr : rRb s f0 l W) :
    zS (fX6_rest s (nI x)) (fun s' => (s' 13 x = nI 3 ∧ s' 15 x = nI D ∧ s' 16 x = nI 2 ∧ ∀ j, j < 2 → s' 17 (D + j) = nI (N + j)) ∧ s' 0 15 = nI (N + 2) ∧ s' 0 20 = nI (D + 2) ∧ lfO s' D N 1 (-3) ∧ (∃ F' W', s' 0 42 = nI F' ∧ s' 0 45 = nI W' ∧ (F ≤ F' ∧ F' ≤ F + 144) ∧ (W ≤ W' ∧ W' ≤ W + 144) ∧ nPd s' D F' W' (N + 1) (xNe l)) ∧ rOnly (sCn x N D F W) s s') := by
  have x200 : x < 200 := by omega
  have l144 := ok.2.1
  have g144 := ok.2.2
  unfold fX6_rest
  have o0 : rOnly (fun c k => c = 13 ∧ k = x) s (u2 s 13 x 3) := rOnly.u ⟨rfl, rfl⟩
  obtain ⟨s1, a1, a2, a3, a4⟩ := rleaf_lf (s := u2 s 13 x 3) (N := N) (D := D) (k := 1) (y := -3) (by omega) (by rw [o0 0 15 (by omega)]; exact e15) (by rw [o0 0 20 (by omega)]; exact e20)
  have b20 : s1 0 20 = nI D := by rw [a4 0 20 (by omega), o0 0 20 (by omega)]; exact e20
  obtain ⟨s2, b1, b2, ⟨b3, b4, b5, b6⟩, b7⟩ := rnn_eq (s := s1) (N := N + 1) (k := 1) (y := -3) (by omega) a2
  have o2 : rOnly (fun a k => (a = 0 ∧ k = 15) ∨ (13 ≤ a ∧ a ≤ 16 ∧ N ≤ k) ∨ (a = 13 ∧ k = x) ∨ (a = 32 ∧ k = N)) s s2 := (o0.mono (fun c k z => by omega)).tr ((a4.mono (fun c k z => by rcases z with (z | z) | z <;> omega)).tr (b7.mono (fun c k z => by rcases z with z | z <;> omega)))
  rw [wr13 x200, Option.bind_some, a1, Option.bind_some]
  dsimp only
  rw [b1, Option.bind_some]
  dsimp only
  obtain ⟨s3, c1, c2, c3⟩ := rbegl_eq (s := s2) (x := N + 1) (f := F) (W := W) (by omega) (by rw [o2 0 42 (by omega)]; exact e42) (by rw [o2 0 45 (by omega)]; exact e45)
  have o3 : rOnly (fun a k => (a = 0 ∧ k = 15) ∨ (13 ≤ a ∧ a ≤ 16 ∧ N ≤ k) ∨ (a = 13 ∧ k = x) ∨ (a = 32 ∧ k = N) ∨ sBl (N + 1) F W a k) s s3 := (o2.mono (fun c k z => by rcases z with z | z | z | z <;> omega)).tr (c3.mono (fun c k z => by rcases z with z | z | z | z <;> omega))
  have g31 : s3 31 x = nI f0 := by rw [o3 31 x (by omega)]; exact h31
  rw [c1, Option.bind_some, rd31 x200, Option.bind_some, g31]
  refine zS.b (rnz_eq (s0 := s3) (a := x) (x := N + 1) (f0 := f0) (f := F) (W0 := W) ok (by omega) (by omega) g31 (by rw [o3 32 x (by omega)]; exact h32) hf0 (hr.on o3 (fun k hk => ⟨by omega, by omega⟩) (fun k hk => by omega) (Nat.le_refl _)) (by omega) (by omega) c2 rOnly.rf) (fun s4 ⟨W', w1, w2, B, o4⟩ => ?_)
  obtain ⟨B1, B2, B3, B4, B5⟩ := B
  have nl := xNe_len l
  have o5 : rOnly (fun a k => (a = 0 ∧ k = 15) ∨ (13 ≤ a ∧ a ≤ 16 ∧ N ≤ k) ∨ (a = 13 ∧ k = x) ∨ (a = 32 ∧ k = N) ∨ sBl (N + 1) F W a k) s s4 := o3.tr (o4.mono (fun a k z => by rcases z with z | z | z | z <;> omega))
  obtain ⟨t', d1, d2, d3, d4, d5, d6, d7⟩ := rtwo_eq (t := s4) (x := x) (D := D) (a := N) (b := N + 1) x200 (by omega) (by rw [o5 0 20 (by omega)]; exact e20) (by rw [o5 16 x (by omega)]; exact h16)
  refine ⟨t', d1 _, ⟨?_, d4, d3, fun j hj => ?_⟩, ?_, d2, ?_, ⟨F + (xNe l).length, W', ?_, ?_, ⟨by omega, by omega⟩, ⟨by omega, by omega⟩, ?_, ?_, ⟨D, ?_, Nat.le_refl _⟩, F, ?_, ?_, Nat.le_refl _, ?_⟩, (o5.mono (fun a k z => by rcases z with z | z | z | z | z | z | z | z <;> omega)).tr (d7.mono (fun a k z => by rcases z with z | z | z <;> omega))⟩
  · rw [d7 13 x (by omega), o4 13 x (by omega), c3 13 x (by omega), b7 13 x (by omega), a4 13 x (by omega), u2_s]; rfl
  · by_cases c : j = 0
    · subst c; exact d5
    · have : j = 1 := by omega
      subst this; exact d6
  · rw [d7 0 15 (by omega), o4 0 15 (by omega), c3 0 15 (by omega)]; exact b2
  · exact (((a3.on b7 (fun a z => by omega) (Nat.le_refl _)).on c3 (fun a z => by omega) (Nat.le_refl _)).on o4 (fun a z => by omega) (Nat.le_refl _)).on d7 (fun a z => by omega) (Nat.le_refl _)
  · rw [d7 0 42 (by omega)]; exact B3
  · rw [d7 0 45 (by omega)]; exact B4
  · rw [d7 14 (N + 1) (by omega), o4 14 (N + 1) (by omega), c3 14 (N + 1) (by omega)]; exact b4
  · rw [d7 16 (N + 1) (by omega), o4 16 (N + 1) (by omega), c3 16 (N + 1) (by omega)]; exact b6
  · rw [d7 15 (N + 1) (by omega), o4 15 (N + 1) (by omega), c3 15 (N + 1) (by omega), b5]; exact b20
  · rw [d7 31 (N + 1) (by omega)]; exact B1
  · rw [d7 32 (N + 1) (by omega)]; exact B2
  · exact (B5.rb).on d7 (fun k _ => ⟨by omega, by omega⟩) (fun k _ => by omega) (Nat.le_refl _)
