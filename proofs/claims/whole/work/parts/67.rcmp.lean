/-! two nodes compared by the reference -/
def cSt (nt : Nat → Tr) (L : List (Nat × Nat)) : Int := L.foldl (fun a pr => if tCmp (nt pr.1) (nt pr.2) ≠ 0 then tCmp (nt pr.1) (nt pr.2) else a) 0
theorem cSt_app (nt : Nat → Tr) (L : List (Nat × Nat)) (x y : Nat) : cSt nt (L ++ [(x, y)]) = if tCmp (nt x) (nt y) ≠ 0 then tCmp (nt x) (nt y) else cSt nt L := by
  unfold cSt
  rw [List.foldl_append]
  rfl
def sSt (nt : Nat → Tr) (L : List (Nat × Nat)) : Nat := L.foldl (fun a pr => a + tSz (nt pr.1)) 0
theorem sSt_app (nt : Nat → Tr) (L : List (Nat × Nat)) (x y : Nat) : sSt nt (L ++ [(x, y)]) = sSt nt L + tSz (nt x) := by
  unfold sSt
  rw [List.foldl_append]
  rfl
theorem snoc_ne : ∀ L : List (Nat × Nat), L ≠ [] → ∃ L' x y, L = L' ++ [(x, y)]
  | [], h => absurd rfl h
  | a :: L, _ => by
    cases L with
    | nil => exact ⟨[], a.1, a.2, rfl⟩
    | cons b L =>
      obtain ⟨L', x, y, e⟩ := snoc_ne (b :: L) (by simp)
      exact ⟨a :: L', x, y, by rw [e]; rfl⟩
theorem sSt_len (nt : Nat → Tr) : ∀ n (L : List (Nat × Nat)), L.length = n → n ≤ sSt nt L := by
  intro n
  induction n with
  | zero => intro L _; omega
  | succ n ih =>
    intro L h
    obtain ⟨L', x, y, rfl⟩ := snoc_ne L (by intro z; rw [z] at h; cases h)
    rw [List.length_append] at h
    have h' : L'.length + 1 = n + 1 := h
    have := ih L' (by omega)
    have := tSz_1 (nt x)
    rw [sSt_app]
    omega
def stk (s : Zr) (L : List (Nat × Nat)) : Prop := ∀ i, i < L.length → s 19 i = nI (L.getD i (0, 0)).1 ∧ s 20 i = nI (L.getD i (0, 0)).2
theorem getDp1 : ∀ (l : List (Nat × Nat)) (j : Nat × Nat) (i : Nat), i < l.length → (l ++ [j]).getD i (0, 0) = l.getD i (0, 0)
  | [], _, _, h => absurd h (Nat.not_lt_zero _)
  | _ :: _, _, 0, _ => rfl
  | _ :: l, j, i + 1, h => getDp1 l j i (Nat.lt_of_succ_lt_succ h)
theorem getDp2 : ∀ (l : List (Nat × Nat)) (j : Nat × Nat), (l ++ [j]).getD l.length (0, 0) = j
  | [], _ => rfl
  | _ :: l, j => getDp2 l j
abbrev sCp (a _k : Nat) : Prop := a = 19 ∨ a = 20
theorem stk_push {s : Zr} {L : List (Nat × Nat)} (h : stk s L) (x y : Nat) : stk (u2 (u2 s 19 L.length (nI x)) 20 L.length (nI y)) (L ++ [(x, y)]) := by
  intro i hi
  rw [List.length_append] at hi
  have hi' : i < L.length + 1 := hi
  by_cases e : i = L.length
  · subst e
    rw [getDp2]
    exact ⟨by rw [u2_a (by decide), u2_s], by rw [u2_s]⟩
  · obtain ⟨a, b⟩ := h i (by omega)
    rw [getDp1 _ _ _ (by omega)]
    exact ⟨by rw [u2_a (by decide), u2_n (by omega)]; exact a, by rw [u2_n (by omega), u2_a (by decide)]; exact b⟩
theorem stk_pop {s : Zr} {L : List (Nat × Nat)} {x y : Nat} (h : stk s (L ++ [(x, y)])) : stk s L ∧ s 19 L.length = nI x ∧ s 20 L.length = nI y := by
  refine ⟨fun i hi => ?_, ?_⟩
  · have := h i (by rw [List.length_append]; exact Nat.lt_add_right _ hi)
    rw [getDp1 _ _ _ hi] at this
    exact this
  · have := h L.length (by rw [List.length_append]; exact Nat.lt_succ_self _)
    rw [getDp2] at this
    exact this
theorem nSt.only {S : Nat → Nat → Prop} {s s' : Zr} {N L : Nat} {nt : Nat → Tr} (o : rOnly S s s') (st : nSt s N L nt) (hS : ∀ a k, 13 ≤ a → a ≤ 17 → ¬ S a k) : nSt s' N L nt := by
  intro x hx
  obtain ⟨c1, c2, c3, f, c4, c5, c6⟩ := st x hx
  refine ⟨(o _ _ (hS _ _ (by omega) (by omega))).trans c1, (o _ _ (hS _ _ (by omega) (by omega))).trans c2, (o _ _ (hS _ _ (by omega) (by omega))).trans c3, f, (o _ _ (hS _ _ (by omega) (by omega))).trans c4, c5, fun j hj => ?_⟩
  obtain ⟨y, y1, y2, y3, y4⟩ := c6 j hj
  exact ⟨y, y1, y2, (o _ _ (hS _ _ (by omega) (by omega))).trans y3, y4⟩
abbrev cpIn (x8 x9 : Int32) : Int32 × Int32 × Zr → Option ((Int32 × Int32 × Zr) ⊕ (Int32 × Zr)) := fun ((v17, v18, s19) : Int32 × Int32 × Zr) =>
              (if v18 < 0 then
                some (.inr (v17, s19))
              else
                (rdI s19 15 x8).bind fun x24 =>
                (rdI s19 17 (x24 + v18)).bind fun x25 =>
                (wrI s19 19 v17 x25).bind fun s26 =>
                (rdI s26 15 x9).bind fun x27 =>
                (rdI s26 17 (x27 + v18)).bind fun x28 =>
                (wrI s26 20 v17 x28).bind fun s29 =>
                some (.inl (v17 + (1 : Int32), v18 + (-1 : Int32), s29)) : Option ((Int32 × Int32 × Zr) ⊕ (Int32 × Zr)))
theorem nI_dec (k : Nat) : nI (k + 1) + (-1 : Int32) = nI k := pk_m1 k
theorem nI_m1neg : (nI 0 - (1 : Int32)) < 0 := by decide
/-- the parts pushed, the last one first -/
theorem cpin_eq {s : Zr} {N L : Nat} {nt : Nat → Tr} (st : nSt s N L nt) (hN : N ≤ 200) (hL : L ≤ 20000) {x y : Nat} (hx : x < N) (hy : y < N) (el : tLen (nt x) = tLen (nt y)) {S : List (Nat × Nat)} (hS : stk s S) (sz : sSt nt S + tSz (nt x) ≤ 400) (hl : ∀ pr, pr ∈ S → pr.1 < N ∧ pr.2 < N) :
    ∃ s' S', zloop (cpIn (nI x) (nI y)) zFU (nI S.length, nI (tLen (nt x)) - (1 : Int32), s) = some (nI S'.length, s') ∧ stk s' S' ∧ rOnly sCp s s' ∧ cSt nt S' = (if tCk (nt x) (nt y) ≠ 0 then tCk (nt x) (nt y) else cSt nt S) ∧ sSt nt S' + 1 = sSt nt S + tSz (nt x) ∧ ∀ pr, pr ∈ S' → pr.1 < N ∧ pr.2 < N := by
  obtain ⟨-, -, -, f, c4, c5, c6⟩ := st x hx
  obtain ⟨-, -, -, g, d4, d5, d6⟩ := st y hy
  have hz := tSz_1 (nt x)
  -- state: kids from i on are pushed
  let I : Nat → Int32 × Int32 × Zr → Prop := fun n q => ∃ i S', n = i ∧ i ≤ tLen (nt x) ∧ q.1 = nI S'.length ∧ (q.2.1 = (if i = 0 then (-1 : Int32) else nI (i - 1))) ∧ stk q.2.2 S' ∧ rOnly sCp s q.2.2 ∧
    (∀ c, (if tCk (tPre (nt x) i) (tPre (nt y) i) ≠ 0 then tCk (tPre (nt x) i) (tPre (nt y) i) else cSt nt S') = c → (if tCk (nt x) (nt y) ≠ 0 then tCk (nt x) (nt y) else cSt nt S) = c) ∧ sSt nt S' + tSz (tPre (nt x) i) = sSt nt S + tSz (nt x) ∧ ∀ pr, pr ∈ S' → pr.1 < N ∧ pr.2 < N
  have q := zloop_inv (f := cpIn (nI x) (nI y)) I (fun r => ∃ S', r.1 = nI S'.length ∧ stk r.2 S' ∧ rOnly sCp s r.2 ∧ (if tCk (nt x) (nt y) ≠ 0 then tCk (nt x) (nt y) else cSt nt S) = cSt nt S' ∧ sSt nt S' + 1 = sSt nt S + tSz (nt x) ∧ ∀ pr, pr ∈ S' → pr.1 < N ∧ pr.2 < N) (by
    rintro n ⟨a, b, s'⟩ ⟨i, S', rfl, hi, e1, e2, e3, e4, e5, e6, e7⟩
    dsimp only at e1 e2 e3 e4
    subst e1 e2
    by_cases z : n = 0
    · subst z
      rw [tPre_0] at e6
      rw [tCk_00] at e5
      refine Or.inr ⟨(nI S'.length, s'), ?_, S', rfl, e3, e4, e5 _ (if_neg (by omega)), e6, e7⟩
      show (if (if 0 = 0 then (-1 : Int32) else nI (0 - 1)) < 0 then _ else _) = _
      rw [if_pos (by decide)]
    · obtain ⟨j, rfl⟩ : ∃ j, n = j + 1 := ⟨n - 1, by omega⟩
      obtain ⟨kx, x1, x2, x3, x4⟩ := c6 j (by omega)
      obtain ⟨ky, y1, y2, y3, y4⟩ := d6 j (by omega)
      have hS := tCk_S (t := nt x) (u := nt y) (j := j) (by omega) (by omega)
      have e6' : sSt nt S' + (tSz (tPre (nt x) j) + tSz (nt kx)) = sSt nt S + tSz (nt x) := by rw [← e6, tPre_S _ j (by omega), x4]; rfl
      have l1 := sSt_len nt _ S' rfl
      have p1 := tSz_1 (tPre (nt x) j)
      have p2 := tSz_1 (nt kx)
      rw [if_neg (by omega), Nat.add_sub_cancel]
      refine Or.inl ⟨(nI (S' ++ [(kx, ky)]).length, (if j = 0 then (-1 : Int32) else nI (j - 1)), u2 (u2 s' 19 S'.length (nI kx)) 20 S'.length (nI ky)), j, ?_, by omega, j, S' ++ [(kx, ky)], rfl, by omega, rfl, rfl, stk_push e3 kx ky, (e4.tr (rOnly.u (Or.inl rfl))).tr (rOnly.u (Or.inr rfl)), fun c hc => e5 c ?_, ?_, fun pr hpr => ?_⟩
      · show (if nI j < 0 then _ else _) = _
        rw [if_neg (nI_pos (by omega)), rd15 (by omega), Option.bind_some, e4 15 x (by omega), c4, nI_add, rd17 (by omega), Option.bind_some, e4 17 _ (by omega), x3, wr19 (by omega), Option.bind_some, rd15 (by omega), Option.bind_some, u2_a (by decide), e4 15 y (by omega), d4, nI_add, rd17 (by omega), Option.bind_some, u2_a (by decide), e4 17 _ (by omega), y3, wr20 (by omega), Option.bind_some, nI_1, List.length_append]
        show some (Sum.inl (nI (S'.length + 1), nI j + -1, _)) = some (Sum.inl (nI (S'.length + 1), _, _))
        by_cases z : j = 0
        · subst z; rfl
        · rw [if_neg z]
          obtain ⟨k, rfl⟩ : ∃ k, j = k + 1 := ⟨j - 1, by omega⟩
          rw [nI_dec, Nat.add_sub_cancel]
      · rw [← hc, hS, cSt_app, x4, y4]
        by_cases z : tCk (tPre (nt x) j) (tPre (nt y) j) = 0
        · rw [z, if_neg (show ¬ ((0 : Int) ≠ 0) by omega), if_neg (show ¬ ((0 : Int) ≠ 0) by omega)]
        · rw [if_pos z, if_pos z, if_pos z]
      · rw [sSt_app]; omega
      · rcases List.mem_append.mp hpr with hpr | hpr
        · exact e7 pr hpr
        · rw [List.mem_singleton.mp hpr]; exact ⟨x2, y2⟩) (tLen (nt x)) (nI S.length, nI (tLen (nt x)) - (1 : Int32), s) zFU ⟨tLen (nt x), S, rfl, Nat.le_refl _, rfl, by
      by_cases z : tLen (nt x) = 0
      · rw [if_pos z, z]; rfl
      · rw [if_neg z]; exact pk_sub (b := 1) (by omega), hS, rOnly.rf, fun c hc => by
      rw [tPre_all] at hc
      rw [el, tPre_all] at hc
      exact hc, by rw [tPre_all], hl⟩ (by rw [zFU_v]; omega)
  obtain ⟨⟨a, s'⟩, e, S', r1, r2, r3, r4, r5, r6⟩ := q
  dsimp only at r1
  subst r1
  exact ⟨s', S', e, r2, r3, r4.symm, r5, r6⟩
def rSg (v : Int32) (c : Int) : Prop := (v = 0 ↔ c = 0) ∧ (0 < v ↔ 0 < c)
theorem rSg_sub {a b : Nat} (ha : a < 2 ^ 30) (hb : b < 2 ^ 30) : rSg (nI a - nI b) (tSg a b) := by
  have e := pk_sub_toInt ha hb
  have z : (nI a - nI b = 0) ↔ a = b := by
    refine ⟨fun q => ?_, fun q => ?_⟩
    · rw [q] at e
      have h0 : (0 : Int32).toInt = 0 := by decide
      omega
    · refine Int32.toInt_inj.mp ?_
      rw [e, q]
      have h0 : (0 : Int32).toInt = 0 := by decide
      omega
  refine ⟨z.trans tSg_0.symm, ?_⟩
  rw [Int32.lt_iff_toInt_lt, e]
  have h0 : (0 : Int32).toInt = 0 := by decide
  unfold tSg
  by_cases c1 : a < b
  · rw [if_pos c1]; omega
  · rw [if_neg c1]
    by_cases c2 : a = b
    · rw [if_pos c2]; omega
    · rw [if_neg c2]; omega
abbrev cpF : Int32 × Zr → Option ((Int32 × Zr) ⊕ (Zr ⊕ (Int32 × Zr))) := fun ((v3, s4) : Int32 × Zr) =>
    (if v3 ≤ 0 then
      some (.inr (.inl s4))
    else
      (rdI s4 19 (v3 + (-1 : Int32))).bind fun x8 =>
      (rdI s4 20 (v3 + (-1 : Int32))).bind fun x9 =>
      (rdI s4 13 x8).bind fun x10 =>
      (rdI s4 13 x9).bind fun x11 =>
      if x10 = x11 then
        (rdI s4 14 x8).bind fun x12 =>
        (rdI s4 14 x9).bind fun x13 =>
        if x12 = x13 then
          (rdI s4 16 x8).bind fun x14 =>
          (rdI s4 16 x9).bind fun x15 =>
          if x14 = x15 then
            (rdI s4 16 x8).bind fun x16 =>
            (zloop (cpIn x8 x9) zFU (v3 + (-1 : Int32), x16 - (1 : Int32), s4)).bind fun ((w20, s21) : Int32 × Zr) =>
            some (.inl (w20, s21))
          else
            (rdI s4 16 x8).bind fun x30 =>
            (rdI s4 16 x9).bind fun x31 =>
            some (.inr (.inr (x30 - x31, s4)))
        else
          (rdI s4 14 x8).bind fun x32 =>
          (rdI s4 14 x9).bind fun x33 =>
          some (.inr (.inr (x32 - x33, s4)))
      else
        (rdI s4 13 x8).bind fun x34 =>
        (rdI s4 13 x9).bind fun x35 =>
        some (.inr (.inr (x34 - x35, s4))) : Option ((Int32 × Zr) ⊕ (Zr ⊕ (Int32 × Zr))))
theorem rcmp_eq {s : Zr} {N L : Nat} {nt : Nat → Tr} (st : nSt s N L nt) (hN : N ≤ 200) (hL : L ≤ 20000) (hG : ∀ x, x < N → tG (nt x)) {a b : Nat} (ha : a < N) (hb : b < N) (hz : tSz (nt a) ≤ 400) :
    ∃ v s', fX6_compare s (nI a) (nI b) = some (v, s') ∧ rSg v (tCmp (nt a) (nt b)) ∧ rOnly sCp s s' := by
  unfold fX6_compare
  show ∃ v s', ((wrI s 19 (nI 0) (nI a)).bind fun s1 => (wrI s1 20 (nI 0) (nI b)).bind fun s2 => (zloop cpF zFU ((1 : Int32), s2)).bind fun q => match q with
    | .inr t => some t
    | .inl s5 => some ((0 : Int32), s5)) = _ ∧ _
  rw [wr19 (by omega), Option.bind_some, wr20 (by omega), Option.bind_some]
  have q := zloop_inv (f := cpF) (fun (n : Nat) (q : Int32 × Zr) => ∃ S, n = sSt nt S ∧ q.1 = nI S.length ∧ stk q.2 S ∧ rOnly sCp s q.2 ∧ cSt nt S = tCmp (nt a) (nt b) ∧ sSt nt S ≤ 400 ∧ ∀ pr, pr ∈ S → pr.1 < N ∧ pr.2 < N)
    (fun r => (∃ s', r = .inl s' ∧ tCmp (nt a) (nt b) = 0 ∧ rOnly sCp s s') ∨ ∃ v s', r = .inr (v, s') ∧ rSg v (tCmp (nt a) (nt b)) ∧ rOnly sCp s s') (by
    rintro n ⟨w, s'⟩ ⟨S, rfl, e1, e2, e3, e4, e5, e6⟩
    dsimp only at e1 e2 e3
    subst e1
    by_cases z : S = []
    · subst z
      refine Or.inr ⟨.inl s', ?_, Or.inl ⟨s', rfl, e4.symm, e3⟩⟩
      show (if nI 0 ≤ 0 then _ else _) = _
      rw [if_pos (by decide)]
    · obtain ⟨S', x, y, rfl⟩ := snoc_ne S z
      obtain ⟨p1, p2, p3⟩ := stk_pop e2
      obtain ⟨hx, hy⟩ := e6 (x, y) (by simp)
      have hx' : x < N := hx
      have hy' : y < N := hy
      have st' := nSt.only e3 st (by omega)
      obtain ⟨a1, a2, a3, -⟩ := st' x hx'
      obtain ⟨b1, b2, b3, _, -, yL, -⟩ := st' y hy'
      rw [cSt_app] at e4
      rw [sSt_app] at e5
      have l1 := sSt_len nt _ S' rfl
      have t1 := tSz_1 (nt x)
      have g1 := hG x hx'
      have g2 := hG y hy'
      have lab1 := tG_lab _ g1
      have lab2 := tG_lab _ g2
      have hdec : nI (S' ++ [(x, y)]).length + (-1 : Int32) = nI S'.length := by
        rw [List.length_append]
        exact nI_dec S'.length
      have hpos : ¬ nI (S' ++ [(x, y)]).length ≤ 0 := by
        rw [List.length_append]
        exact nI_nle (Nat.succ_pos _) (by show S'.length + 1 < _; omega)
      show (∃ s'' m, (if nI (S' ++ [(x, y)]).length ≤ 0 then _ else _) = _ ∧ _) ∨ ∃ r, (if nI (S' ++ [(x, y)]).length ≤ 0 then _ else _) = _ ∧ _
      rw [if_neg hpos, hdec, rd19 (by omega), Option.bind_some, rd20 (by omega), Option.bind_some, p2, p3, rd13 (by omega), Option.bind_some, rd13 (by omega), Option.bind_some, a1, b1]
      by_cases k1 : (tLab (nt x) < 12 ∧ tLab (nt y) < 12) ∨ tLab (nt x) = tLab (nt y)
      · rw [if_pos ((tKd_eq lab1 lab2).mpr k1), rd14 (by omega), Option.bind_some, rd14 (by omega), Option.bind_some, a2, b2]
        by_cases k2 : tLab (nt x) = tLab (nt y)
        · rw [if_pos ((tNm_eq k1).mpr k2), rd16 (by omega), Option.bind_some, rd16 (by omega), Option.bind_some, a3, b3]
          by_cases k3 : tLen (nt x) = tLen (nt y)
          · rw [if_pos (show nI (tLen (nt x)) = nI (tLen (nt y)) by rw [k3]), Option.bind_some]
            obtain ⟨s2, S2, r1, r2, r3, r4, r5, r6⟩ := cpin_eq st' hN hL hx' hy' k3 p1 (by omega) (fun pr hpr => e6 pr (by simp [hpr]))
            rw [r1]
            refine Or.inl ⟨(nI S2.length, s2), sSt nt S2, rfl, by rw [sSt_app]; omega, S2, rfl, rfl, r2, e3.tr r3, ?_, by omega, r6⟩
            rw [r4]
            unfold tCmp at e4
            rw [if_neg (show ¬ (tLab (nt x) ≠ tLab (nt y)) by omega), if_neg (show ¬ (tLen (nt x) ≠ tLen (nt y)) by omega)] at e4
            exact e4
          · have ec : tCmp (nt x) (nt y) = tSg (tLen (nt x)) (tLen (nt y)) := by
              unfold tCmp
              rw [if_neg (show ¬ (tLab (nt x) ≠ tLab (nt y)) by omega), if_pos k3]
            have hne : tSg (tLen (nt x)) (tLen (nt y)) ≠ 0 := fun z => k3 (tSg_0.mp z)
            rw [ec, if_pos hne] at e4
            have ty := tSz_1 (nt y)
            rw [if_neg (fun z => k3 ((nI_eq (by omega) (by omega)).mp z)), Option.bind_some, Option.bind_some]
            exact Or.inr ⟨_, rfl, Or.inr ⟨_, _, rfl, by rw [← e4]; exact rSg_sub (by omega) (by omega), e3⟩⟩
        · have k12 : tLab (nt x) < 12 ∧ tLab (nt y) < 12 := k1.elim (fun z => z) (fun z => absurd z k2)
          have n1 : tNm (tLab (nt x)) = nI (tLab (nt x)) := by unfold tNm; rw [if_pos k12.1]
          have n2 : tNm (tLab (nt y)) = nI (tLab (nt y)) := by unfold tNm; rw [if_pos k12.2]
          have ec : tCmp (nt x) (nt y) = tSg (tLab (nt x)) (tLab (nt y)) := by
            unfold tCmp
            rw [if_pos k2]
          have hne : tSg (tLab (nt x)) (tLab (nt y)) ≠ 0 := fun z => k2 (tSg_0.mp z)
          rw [ec, if_pos hne] at e4
          rw [if_neg (fun z => k2 ((tNm_eq k1).mp z)), Option.bind_some, Option.bind_some, n1, n2]
          exact Or.inr ⟨_, rfl, Or.inr ⟨_, _, rfl, by rw [← e4]; exact rSg_sub (by omega) (by omega), e3⟩⟩
      · have k2 : tLab (nt x) ≠ tLab (nt y) := fun z => k1 (Or.inr z)
        have ec : tCmp (nt x) (nt y) = tSg (tLab (nt x)) (tLab (nt y)) := by
          unfold tCmp
          rw [if_pos k2]
        have hne : tSg (tLab (nt x)) (tLab (nt y)) ≠ 0 := fun z => k2 (tSg_0.mp z)
        rw [ec, if_pos hne] at e4
        rw [if_neg (fun z => k1 ((tKd_eq lab1 lab2).mp z)), Option.bind_some, Option.bind_some]
        exact Or.inr ⟨_, rfl, Or.inr ⟨_, _, rfl, by rw [← e4, ← tKd_sg lab1 lab2 k1]; exact rSg_sub (by unfold tKd; split <;> omega) (by unfold tKd; split <;> omega), e3⟩⟩) (sSt nt [(a, b)]) ((1 : Int32), _) zFU ⟨[(a, b)], rfl, rfl, stk_push (L := []) (fun i hi => absurd hi (Nat.not_lt_zero _)) a b, (rOnly.u (Or.inl rfl)).tr (rOnly.u (Or.inr rfl)), by
      show (if tCmp (nt a) (nt b) ≠ 0 then tCmp (nt a) (nt b) else 0) = _
      by_cases z : tCmp (nt a) (nt b) = 0
      · rw [z]; rfl
      · rw [if_pos z], by
      show 0 + tSz (nt a) ≤ 400
      omega, fun pr hpr => by
      rw [List.mem_singleton.mp hpr]; exact ⟨ha, hb⟩⟩ (by show 0 + tSz (nt a) < _; rw [zFU_v]; omega)
  obtain ⟨r, e, hr⟩ := q
  have e' : zloop cpF zFU ((1 : Int32), u2 (u2 s 19 0 (nI a)) 20 0 (nI b)) = some r := e
  rw [e', Option.bind_some]
  rcases hr with ⟨s', rfl, h0, o⟩ | ⟨v, s', rfl, h0, o⟩
  · exact ⟨0, s', rfl, by rw [h0]; exact ⟨⟨fun _ => rfl, fun _ => rfl⟩, ⟨fun z => absurd z (by decide), fun z => by omega⟩⟩, o⟩
  · exact ⟨v, s', rfl, h0, o⟩
theorem rclr_eq (s : Zr) : fX6_clearTree s = some (u2 (u2 s 0 15 (nI 0)) 0 20 (nI 0)) := rfl
abbrev sLk (a k : Nat) : Prop := sTr a k ∨ sCp a k
theorem rplike_eq {s : Zr} {p : Mp} (h : rPc s p) (ok : pOK p) (a b : Int32) : ∃ s', fX6_like s a b = some (pLike p a b, s') ∧ rOnly sLk s s' := by
  have h200 := ok.1
  unfold fX6_like pLike
  rw [rpiece_at h ok, Option.bind_some]
  by_cases c2 : mnm a (pn p)
  · rw [if_neg (fun z => b2_z.mp z c2), rpiece_at h ok, Option.bind_some]
    by_cases c3 : mnm b (pn p)
    · have hy : mnm a (pn p) ∧ mnm b (pn p) := ⟨c2, c3⟩
      rw [if_neg (fun z => b2_z.mp z c3), if_pos hy]
      obtain ⟨ea, la⟩ := mnm_nI c2
      obtain ⟨eb, lb⟩ := mnm_nI c3
      generalize a.toNatClampNeg = x at ea la
      generalize b.toNatClampNeg = y at eb lb
      subst ea eb
      have x60 := (ok.2 x la).2.2.2.1
      have y60 := (ok.2 y lb).2.2.2.1
      have x1 := psz_1 ok la
      have y1 := psz_1 ok lb
      rw [rclr_eq, Option.bind_some]
      have o0 : rOnly sTr s (u2 (u2 s 0 15 (nI 0)) 0 20 (nI 0)) := (rOnly.u (by omega)).tr (rOnly.u (by omega))
      obtain ⟨s1, nt1, r1, r2, r3, r4, r5, r6, r7, r8⟩ := rexp_eq (h.tr o0) ok la (N0 := 0) (L0 := 0) (nt := fun _ => .var 0) (by rw [u2_n (by omega), u2_s]) (by rw [u2_s]) (by omega) (by omega) (fun x hx => absurd hx (Nat.not_lt_zero _))
      rw [r1, Option.bind_some]
      obtain ⟨s2, nt2, q1, q2, q3, q4, q5, q6, q7, q8⟩ := rexp_eq (h.tr (o0.tr r8)) ok lb r2 r3 (by omega) (by omega) r4
      show ∃ s', ((fX6_expand s1 (nI y)).bind _) = _ ∧ _
      rw [q1, Option.bind_some]
      have e0 : nt2 0 = pT p x := by rw [q5 0 (by omega)]; exact r6
      obtain ⟨v, s3, w1, w2, w3⟩ := rcmp_eq q4 (by omega) (by omega) (fun z hz => by
        by_cases c : z < 0 + psz p x
        · rw [q5 z c]; exact (r7 z (Nat.zero_le _) c).1
        · exact (q7 z (by omega) hz).1) (a := 0) (b := 0 + psz p x) (by omega) (by omega) (by rw [e0, pT_sz ok x la]; omega)
      rw [e0, q6] at w2
      show ∃ s', ((fX6_compare s2 (nI 0) (nI (0 + psz p x))).bind _) = _ ∧ _
      rw [w1, Option.bind_some]
      have oo : rOnly sLk s s3 := (((o0.tr r8).tr q8).mono (fun _ _ z => Or.inl z)).tr (w3.mono (fun _ _ z => Or.inr z))
      by_cases e : tCmp (pT p x) (pT p y) = 0
      · rw [if_pos e]
        refine ⟨s3, ?_, oo⟩
        show (Option.bind (if v = 0 then _ else _) _) = _
        rw [if_pos (w2.1.mpr e)]
        rfl
      · rw [if_neg e]
        refine ⟨s3, ?_, oo⟩
        show (Option.bind (if v = 0 then _ else _) _) = _
        rw [if_neg (fun z => e (w2.1.mp z))]
        rfl
    · rw [if_pos (b2_z.mpr c3), if_neg (fun z : mnm a (pn p) ∧ mnm b (pn p) => c3 z.2)]
      exact ⟨s, rfl, rOnly.rf⟩
  · rw [if_pos (b2_z.mpr c2), if_neg (fun z : mnm a (pn p) ∧ mnm b (pn p) => c2 z.1)]
    exact ⟨s, rfl, rOnly.rf⟩
