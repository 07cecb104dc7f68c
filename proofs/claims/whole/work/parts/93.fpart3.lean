/-! found on the reference's side: a part's node -/
abbrev sNn (N a k : Nat) : Prop := (a = 0 ∧ k = 15) ∨ (13 ≤ a ∧ a ≤ 16 ∧ k = N)
theorem rnn_eq {s : Zr} {N : Nat} {k y : Int32} (hN : N < 200) (e15 : s 0 15 = nI N) : ∃ s', fX6_newNode s k y = some (nI N, s') ∧ s' 0 15 = nI (N + 1) ∧ (s' 13 N = k ∧ s' 14 N = y ∧ s' 15 N = s 0 20 ∧ s' 16 N = 0) ∧ rOnly (sNn N) s s' := by
  unfold fX6_newNode
  rw [e15, wr13 hN, Option.bind_some]
  have a1 : u2 s 13 N k 0 15 = nI N := by rw [u2_a (by decide)]; exact e15
  rw [a1, wr14 hN, Option.bind_some]
  have a2 : u2 (u2 s 13 N k) 14 N y 0 15 = nI N := by rw [u2_a (by decide)]; exact a1
  have a3 : u2 (u2 s 13 N k) 14 N y 0 20 = s 0 20 := by rw [u2_a (by decide), u2_a (by decide)]
  rw [a2, a3, wr15 hN, Option.bind_some]
  have a4 : u2 (u2 (u2 s 13 N k) 14 N y) 15 N (s 0 20) 0 15 = nI N := by rw [u2_a (by decide)]; exact a2
  rw [a4, wr16 hN, Option.bind_some]
  have a5 : u2 (u2 (u2 (u2 s 13 N k) 14 N y) 15 N (s 0 20)) 16 N 0 0 15 = nI N := by rw [u2_a (by decide)]; exact a4
  rw [a5, Option.bind_some, u2_s, nI_1, nI_pred]
  generalize et : u2 (u2 (u2 (u2 s 13 N k) 14 N y) 15 N (s 0 20)) 16 N 0 = t
  have o4 : rOnly (sNn N) s t := by
    rw [← et]
    have p1 : rOnly (sNn N) s (u2 s 13 N k) := rOnly.u (Or.inr ⟨by omega, by omega, rfl⟩)
    have p2 : rOnly (sNn N) (u2 s 13 N k) (u2 (u2 s 13 N k) 14 N y) := rOnly.u (Or.inr ⟨by omega, by omega, rfl⟩)
    have p3 : rOnly (sNn N) (u2 (u2 s 13 N k) 14 N y) (u2 (u2 (u2 s 13 N k) 14 N y) 15 N (s 0 20)) := rOnly.u (Or.inr ⟨by omega, by omega, rfl⟩)
    have p4 : rOnly (sNn N) (u2 (u2 (u2 s 13 N k) 14 N y) 15 N (s 0 20)) (u2 (u2 (u2 (u2 s 13 N k) 14 N y) 15 N (s 0 20)) 16 N 0) := rOnly.u (Or.inr ⟨by omega, by omega, rfl⟩)
    exact ((p1.tr p2).tr p3).tr p4
  refine ⟨_, rfl, u2_s, ⟨?_, ?_, ?_, ?_⟩, o4.tr (rOnly.u (Or.inl ⟨rfl, rfl⟩))⟩
  · rw [u2_a (by decide), ← et, u2_a (by decide), u2_a (by decide), u2_a (by decide), u2_s]
  · rw [u2_a (by decide), ← et, u2_a (by decide), u2_a (by decide), u2_s]
  · rw [u2_a (by decide), ← et, u2_a (by decide), u2_s]
  · rw [u2_a (by decide), ← et, u2_s]
theorem xTake_S {k : Nat} {P : Nat → Prop} {l : Rw} {i : Nat} (hi : i < l.length) : xTake k P (l.take (i + 1)) = xTake k P (l.take i) ++ xTk1 k P (l.getD i []) := by
  unfold xTake
  have e : l.take (i + 1) = l.take i ++ [l.getD i []] := by
    rw [List.take_succ, List.getElem?_eq_getElem hi, List.getD_eq_getElem?_getD, List.getElem?_eq_getElem hi]; rfl
  rw [e, List.flatMap_append, List.flatMap_cons, List.flatMap_nil, List.append_nil]
theorem take_row {l : Rw} {i : Nat} (hi : i < l.length) : l.take (i + 1) = l.take i ++ [l.getD i []] := by
  rw [List.take_succ, List.getElem?_eq_getElem hi, List.getD_eq_getElem?_getD, List.getElem?_eq_getElem hi]; rfl
theorem gS_take (l : Rw) (i : Nat) : gS List.length (l.take i) ≤ gS List.length l := by
  have := gS_app List.length (l.drop i) (l.take i)
  rw [List.take_append_drop] at this
  omega
theorem xOK_take {l : Rw} (ok : xOK l) (i : Nat) : xOK (l.take i) := ⟨fun r hr => ok.1 r (List.mem_of_mem_take hr), by rw [List.length_take]; have := ok.2.1; omega, Nat.le_trans (gS_take l i) ok.2.2⟩
abbrev sPo (N f W a k : Nat) : Prop := sNn N a k ∨ sBl N f W a k
theorem rpart_eq {s : Zr} {l : Rw} {a f0 f N W0 k : Nat} {P : Nat → Prop} {a2 : Int32} (ok : xOK l) (ha : a < N) (hN : N < 200) (e15 : s 0 15 = nI N) (h31 : s 31 a = nI f0) (h32 : s 32 a = nI l.length) (hf0 : f0 + l.length ≤ f) (hr : rRb s f0 l W0) (h42 : s 0 42 = nI f) (h45 : s 0 45 = nI W0) (hfm : f ≤ 11500) (hWm : W0 ≤ 11500) (hk : k = 2 ∨ k = 3 ∨ k = 4 ∨ k = 5)
    (h3 : k = 3 → ∀ r, r ∈ l → 0 < r.length ∧ ∀ x, x ∈ r → (P x ↔ P (r.getD 0 0))) (h40 : k = 3 → ∀ v, v < 12 → (s 40 v = a2 ↔ P v))
    (hP : ∀ s', rOnly (sPo N f W0) s s' → ∀ v, v < 12 → zS (if a2 = (-3 : Int32) then (rdZ s' 44 (nI v)).bind fun x30 => some x30 else (rdI s' 40 (nI v)).bind fun x31 => if x31 = a2 then some (1 : Int32) else some (0 : Int32)) (fun y => isB y (P v))) :
    zS (fX6_partNode s (nI a) a2 (nI k)) (fun q => q.1 = nI N ∧ q.2 0 15 = nI (N + 1) ∧ (q.2 13 N = 1 ∧ q.2 14 N = -3 ∧ q.2 15 N = s 0 20 ∧ q.2 16 N = 0) ∧ (∃ W', W0 ≤ W' ∧ W' ≤ W0 + gS List.length l ∧ BL q.2 N f (xTake k P l) W') ∧ rOnly (sPo N f W0) s q.2) := by
  unfold fX6_partNode
  obtain ⟨s1, e1, n15, nn, o1⟩ := rnn_eq (k := 1) (y := -3) hN e15
  refine zS.e e1 ?_
  dsimp only
  obtain ⟨s2, e2, B2, o2⟩ := rbegl_eq (s := s1) (x := N) (f := f) (W := W0) hN (by rw [o1 0 42 (by omega)]; exact h42) (by rw [o1 0 45 (by omega)]; exact h45)
  refine zS.e e2 ?_
  have o12 : rOnly (sPo N f W0) s s2 := (o1.mono (fun a k z => Or.inl z)).tr (o2.mono (fun a k z => Or.inr z))
  rw [rd31 (by omega), Option.bind_some, o12 31 a (by omega), h31]
  have l144 := ok.2.1
  have g144 := ok.2.2
  refine zS.b (R1 := fun s' => ∃ W', W0 ≤ W' ∧ W' ≤ W0 + gS List.length l ∧ BL s' N f (xTake k P l) W' ∧ rOnly (sBl N f W0) s2 s') (zS.up (fun q s' => ∃ i, q = f0 + i ∧ i ≤ l.length ∧ ∃ W', W0 ≤ W' ∧ W' ≤ W0 + gS List.length (l.take i) ∧ BL s' N f (xTake k P (l.take i)) W' ∧ rOnly (sBl N f W0) s2 s') f0 (f0 + l.length) (fun q s' hq0 hq hJ => ?_) (fun s' hJ => ?_) (by omega) (by omega) ⟨0, rfl, Nat.zero_le _, W0, Nat.le_refl _, Nat.le_refl _, B2, rOnly.rf⟩) (fun s' ⟨W', w1, w2, B, o⟩ => ?_)
  · obtain ⟨i, rfl, il, W', w1, w2, B, o⟩ := hJ
    have il : i < l.length := by omega
    have oo : rOnly (sPo N f W0) s s' := o12.tr (o.mono (fun a k z => Or.inr z))
    obtain ⟨g, g1, g2, g3, g4⟩ := hr i il
    have rm : l.getD i [] ∈ l := by
      rw [List.getD_eq_getElem?_getD, List.getElem?_eq_getElem il]
      exact List.getElem_mem il
    have rok := ok.1 _ rm
    have xo := (xTake_ok (k := k) (P := P) (xOK_take ok i)).1.2.1
    have gs : gS List.length (l.take (i + 1)) = gS List.length (l.take i) + (l.getD i []).length := by
      rw [take_row il, gS_app]; rfl
    have gt := gS_take l (i + 1)
    have xs := xTake_S (k := k) (P := P) il
    have h3' : k = 3 → 0 < (l.getD i []).length ∧ ∀ x, x ∈ l.getD i [] → (P x ↔ P ((l.getD i []).getD 0 0)) := fun z => h3 z _ rm
    generalize l.getD i [] = r at g2 g3 g4 rm rok gs xs h3'
    generalize xTake k P (l.take i) = R at B xo xs
    dsimp only
    rw [rd32 (by omega), Option.bind_some, oo 32 a (by omega), h32, nI_add, if_neg (nI_nle' (by omega) (by omega))]
    refine zS.b (R1 := fun s6 => BL s6 N f (prS k P R r 0) W' ∧ rOnly (sBl N f W0) s2 s6) ?_ (fun s6 ⟨B6, o6⟩ => ?_)
    · obtain ⟨t, t1, t2, t3⟩ := rbegr_eq hN B (by omega)
      have t4 : rOnly (sBl N f W0) s2 t := o.tr (t3.mono (fun a k z => by omega))
      have n0 : xW P (r.take 0) = [] := rfl
      rcases hk with rfl | rfl | rfl | rfl
      · rw [if_pos (show nI 2 = (2 : Int32) from rfl), t1]
        have e : prS 2 P R r 0 = R ++ [[]] := (if_neg (by omega)).trans (if_neg (fun z => absurd z.1 (by omega)))
        rw [e]
        exact zS.s ⟨t2, t4⟩
      · obtain ⟨r1, r2⟩ := h3' rfl
        have r12 := rok.2 0 r1
        rw [if_neg (show ¬ nI 3 = (2 : Int32) by decide), if_neg (show ¬ nI 3 = (4 : Int32) by decide), if_pos (show nI 3 = (3 : Int32) from rfl), rd33 (by omega), Option.bind_some, oo 33 _ (by omega), g1, rd35 (by omega), Option.bind_some, oo 35 g (by omega)]
        have g40 := g4 0 r1
        rw [Nat.add_zero] at g40
        rw [g40, rd40 r12, Option.bind_some, oo 40 _ (by omega)]
        by_cases c : s 40 (r.getD 0 0) = a2
        · have p0 := (h40 rfl _ r12).mp c
          have e : prS 3 P R r 0 = R ++ [[]] := (if_neg (by omega)).trans (if_neg (fun z => z.2 (cB_t.mpr p0)))
          rw [if_pos c, t1, e]
          exact zS.s ⟨t2, t4⟩
        · have e : prS 3 P R r 0 = R := (if_neg (by omega)).trans (if_pos ⟨rfl, fun z => c ((h40 rfl _ r12).mpr (cB_t.mp z))⟩)
          rw [if_neg c, e]
          exact zS.s ⟨B, o⟩
      · rw [if_neg (show ¬ nI 4 = (2 : Int32) by decide), if_pos (show nI 4 = (4 : Int32) from rfl), t1]
        have e : prS 4 P R r 0 = R ++ [[]] := (if_neg (by omega)).trans (if_neg (fun z => absurd z.1 (by omega)))
        rw [e]
        exact zS.s ⟨t2, t4⟩
      · rw [if_neg (show ¬ nI 5 = (2 : Int32) by decide), if_neg (show ¬ nI 5 = (4 : Int32) by decide), if_neg (show ¬ nI 5 = (3 : Int32) by decide)]
        have e : prS 5 P R r 0 = R := if_pos rfl
        rw [e]
        exact zS.s ⟨B, o⟩
    · refine zS.b (rpname_eq (s0 := s2) (W0 := W0) hN (by omega) (show f0 + i < f by omega) rok (fun z => (h3' z).2) (g := g) (by rw [o12 33 _ (by omega)]; exact g1) (by rw [o12 34 _ (by omega)]; exact g2) g3 (fun j hj => by rw [o12 35 _ (by omega)]; exact g4 j hj) (fun s7 o7 v hv => hP s7 (o12.tr (o7.mono (fun a k z => Or.inr z))) v hv) w1 (by omega) (by omega) B6 o6) (fun s7 ⟨W2, x1, x2, x3, x4⟩ => ?_)
      refine zS.s ⟨_, by rw [nI_1], i + 1, by omega, by omega, W2, by omega, by omega, ?_, x4⟩
      rw [xs, ← prS_end h3']
      exact x3
  · obtain ⟨i, hi, il, W', w1, w2, B, o⟩ := hJ
    have : i = l.length := by omega
    subst this
    rw [List.take_length] at w2 B
    have oo : rOnly (sPo N f W0) s s' := o12.tr (o.mono (fun a k z => Or.inr z))
    dsimp only
    rw [rd32 (by omega), Option.bind_some, oo 32 a (by omega), h32, nI_add, if_pos (nI_le (Nat.le_refl _) (by omega))]
    exact zS.s ⟨_, rfl, W', w1, w2, B, o⟩
  · refine zS.s ⟨rfl, ?_, ?_, ⟨W', w1, w2, B⟩, o12.tr (o.mono (fun a k z => Or.inr z))⟩
    · dsimp only
      rw [o 0 15 (by omega), o2 0 15 (by omega)]; exact n15
    · dsimp only
      rw [o 13 N (by omega), o2 13 N (by omega), o 14 N (by omega), o2 14 N (by omega), o 15 N (by omega), o2 15 N (by omega), o 16 N (by omega), o2 16 N (by omega)]
      exact nn
