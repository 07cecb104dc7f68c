/-! plain, as trees -/
theorem tSg_anti (a b : Nat) : tSg b a = - tSg a b := by
  unfold tSg
  by_cases h : a < b
  · rw [if_pos h, if_neg (by omega), if_neg (by omega)]; rfl
  · rw [if_neg h]
    by_cases e : a = b
    · rw [if_pos e, if_neg (by omega), if_pos e.symm]; rfl
    · rw [if_neg e, if_pos (by omega)]
theorem tCk_anti : ∀ t u : Tr, tCk u t = - tCk t u
  | .var _, .var _ => by unfold tCk; rfl
  | .var _, .op _ _ => by unfold tCk; rfl
  | .op _ _, .var _ => by unfold tCk; rfl
  | .op t k, .op t' k' => by
    rw [tCk_op, tCk_op, tCk_anti t t']
    unfold tCmp
    rw [tCk_anti k k', tSg_anti (tLab k) (tLab k'), tSg_anti (tLen k) (tLen k')]
    by_cases c1 : tCk t t' = 0
    · rw [if_neg (show ¬ (- tCk t t' ≠ 0) by omega), if_neg (show ¬ (tCk t t' ≠ 0) by omega)]
      by_cases c2 : tLab k = tLab k'
      · rw [if_neg (show ¬ (tLab k' ≠ tLab k) by omega), if_neg (show ¬ (tLab k ≠ tLab k') by omega)]
        by_cases c3 : tLen k = tLen k'
        · rw [if_neg (show ¬ (tLen k' ≠ tLen k) by omega), if_neg (show ¬ (tLen k ≠ tLen k') by omega)]
        · rw [if_pos (show (tLen k' ≠ tLen k) by omega), if_pos (show (tLen k ≠ tLen k') by omega)]
      · rw [if_pos (show (tLab k' ≠ tLab k) by omega), if_pos (show (tLab k ≠ tLab k') by omega)]
    · rw [if_pos (show (- tCk t t' ≠ 0) by omega), if_pos (show (tCk t t' ≠ 0) by omega)]
theorem tCmp_anti (t u : Tr) : tCmp u t = - tCmp t u := by
  unfold tCmp
  rw [tCk_anti t u, tSg_anti (tLab t) (tLab u), tSg_anti (tLen t) (tLen u)]
  by_cases c2 : tLab t = tLab u
  · rw [if_neg (show ¬ (tLab u ≠ tLab t) by omega), if_neg (show ¬ (tLab t ≠ tLab u) by omega)]
    by_cases c3 : tLen t = tLen u
    · rw [if_neg (show ¬ (tLen u ≠ tLen t) by omega), if_neg (show ¬ (tLen t ≠ tLen u) by omega)]
    · rw [if_pos (show (tLen u ≠ tLen t) by omega), if_pos (show (tLen t ≠ tLen u) by omega)]
  · rw [if_pos (show (tLab u ≠ tLab t) by omega), if_pos (show (tLab t ≠ tLab u) by omega)]
theorem tSg_neg {a b : Nat} : tSg a b < 0 ↔ a < b := by
  unfold tSg
  by_cases h : a < b
  · rw [if_pos h]; omega
  · rw [if_neg h]
    by_cases e : a = b
    · rw [if_pos e]; omega
    · rw [if_neg e]; omega
theorem tCmp_neg (t u : Tr) : tCmp t u < 0 ↔ tLab t < tLab u ∨ (tLab t = tLab u ∧ (tLen t < tLen u ∨ (tLen t = tLen u ∧ tCk t u < 0))) := by
  unfold tCmp
  by_cases c2 : tLab t = tLab u
  · rw [if_neg (show ¬ (tLab t ≠ tLab u) by omega)]
    by_cases c3 : tLen t = tLen u
    · rw [if_neg (show ¬ (tLen t ≠ tLen u) by omega)]; omega
    · rw [if_pos (show (tLen t ≠ tLen u) by omega), tSg_neg]; omega
  · rw [if_pos (show (tLab t ≠ tLab u) by omega), tSg_neg]; omega
theorem tCk_tr : ∀ a b c : Tr, tLab a = tLab b → tLab b = tLab c → tLen a = tLen b → tLen b = tLen c → tCk a b < 0 → tCk b c < 0 → tCk a c < 0
  | .var _, _, _, _, _, _, _, h, _ => by unfold tCk at h; omega
  | .op _ _, .var _, _, _, _, _, _, h, _ => by unfold tCk at h; omega
  | .op _ _, .op _ _, .var _, _, _, _, _, _, h => by unfold tCk at h; omega
  | .op t k, .op t' k', .op t'' k'', l1, l2, n1, n2, h1, h2 => by
    have l1' : tLab t = tLab t' := l1
    have l2' : tLab t' = tLab t'' := l2
    have n1' : tLen t + 1 = tLen t' + 1 := n1
    have n2' : tLen t' + 1 = tLen t'' + 1 := n2
    have z1 := tCk_0 t t' l1' (by omega)
    have z2 := tCk_0 t' t'' l2' (by omega)
    have ih := tCk_tr t t' t'' l1' l2' (by omega) (by omega)
    rw [tCk_op] at h1 h2 ⊢
    by_cases c1 : tCk t t' = 0
    · have e := z1.mp c1
      subst e
      rw [if_neg (by omega)] at h1
      by_cases c2 : tCk t t'' = 0
      · rw [if_neg (by omega)] at h2 ⊢
        rw [tCmp_neg] at h1 h2 ⊢
        rcases h1 with h1 | ⟨p1, h1⟩
        · rcases h2 with h2 | ⟨p2, h2⟩ <;> exact Or.inl (by omega)
        · rcases h2 with h2 | ⟨p2, h2⟩
          · exact Or.inl (by omega)
          · refine Or.inr ⟨by omega, ?_⟩
            rcases h1 with h1 | ⟨q1, h1⟩
            · rcases h2 with h2 | ⟨q2, h2⟩ <;> exact Or.inl (by omega)
            · rcases h2 with h2 | ⟨q2, h2⟩
              · exact Or.inl (by omega)
              · exact Or.inr ⟨by omega, tCk_tr k k' k'' p1 p2 q1 q2 h1 h2⟩
      · rw [if_pos c2] at h2 ⊢
        exact h2
    · rw [if_pos c1] at h1
      by_cases c2 : tCk t' t'' = 0
      · have e := z2.mp c2
        subst e
        rw [if_pos c1]
        exact h1
      · rw [if_pos c2] at h2
        have := ih h1 h2
        rw [if_pos (by omega)]
        exact this
theorem tCmp_tr {a b c : Tr} (h1 : tCmp a b < 0) (h2 : tCmp b c < 0) : tCmp a c < 0 := by
  rw [tCmp_neg] at h1 h2 ⊢
  rcases h1 with h1 | ⟨p1, h1⟩
  · rcases h2 with h2 | ⟨p2, h2⟩ <;> exact Or.inl (by omega)
  · rcases h2 with h2 | ⟨p2, h2⟩
    · exact Or.inl (by omega)
    · refine Or.inr ⟨by omega, ?_⟩
      rcases h1 with h1 | ⟨q1, h1⟩
      · rcases h2 with h2 | ⟨q2, h2⟩ <;> exact Or.inl (by omega)
      · rcases h2 with h2 | ⟨q2, h2⟩
        · exact Or.inl (by omega)
        · exact Or.inr ⟨by omega, tCk_tr a b c p1 p2 q1 q2 h1 h2⟩
theorem tCmp_le_tr {a b c : Tr} (h1 : tCmp a b ≤ 0) (h2 : tCmp b c < 0) : tCmp a c < 0 := by
  by_cases e : tCmp a b = 0
  · rw [(tCmp_0 a b).mp e]; exact h2
  · exact tCmp_tr (by omega) h2
theorem tCmp_tr_le {a b c : Tr} (h1 : tCmp a b < 0) (h2 : tCmp b c ≤ 0) : tCmp a c < 0 := by
  by_cases e : tCmp b c = 0
  · rw [← (tCmp_0 b c).mp e]; exact h1
  · exact tCmp_tr h1 (by omega)
theorem tCmp_le_le {a b c : Tr} (h1 : tCmp a b ≤ 0) (h2 : tCmp b c ≤ 0) : tCmp a c ≤ 0 := by
  by_cases e : tCmp b c = 0
  · rw [← (tCmp_0 b c).mp e]; exact h1
  · have := tCmp_le_tr h1 (show tCmp b c < 0 by omega); omega
/-- into its place, ahead of the first that is not less; where it stands already, not if it may not stand twice -/
def tIns (one : Bool) (u : Tr) : List Tr → List Tr
  | [] => [u]
  | a :: r => if tCmp a u < 0 then a :: tIns one u r else if one = true ∧ tCmp a u = 0 then a :: r else u :: a :: r
def tPlc (lab : Nat) (l : List Tr) (u : Tr) : List Tr :=
  if lab = 13 then l ++ [u] else if lab = 16 then (match l with
    | [] => [u]
    | a :: r => a :: tIns false u r) else tIns (lab == 14) u l
def tKids : Tr → List Tr
  | .var _ => []
  | .op t k => tKids t ++ [k]
def tMk (lab : Nat) (l : List Tr) : Tr := l.foldl (fun t k => .op t k) (.var lab)
def tTake (lab : Nat) (l : List Tr) (u : Tr) : List Tr :=
  if (lab = 13 ∨ lab = 15) ∧ tLab u = 12 then l else if tLab u = lab ∧ lab ≠ 16 then (tKids u).foldl (tPlc lab) l else tPlc lab l u
def tFn (lab : Nat) : List Tr → Tr
  | [] => .var 12
  | [a] => a
  | a :: b :: r => tMk lab (a :: b :: r)
def tPf (lab len : Nat) (l : List Tr) : Tr := if len = 0 then .var lab else tFn lab l
def tPk : Tr → List Tr
  | .var _ => []
  | .op t k => tTake (tLab t) (tPk t) (tPf (tLab k) (tLen k) (tPk k))
def tPl (t : Tr) : Tr := tPf (tLab t) (tLen t) (tPk t)
theorem tPk_op (t k : Tr) : tPk (.op t k) = tTake (tLab t) (tPk t) (tPl k) := rfl
def tSum (l : List Tr) : Nat := l.foldl (fun a t => a + tSz t) 0
theorem tSum_c : ∀ (l : List Tr) (a : Nat), l.foldl (fun a t => a + tSz t) a = a + tSum l
  | [], _ => rfl
  | x :: l, a => by
    show l.foldl _ (a + tSz x) = a + l.foldl _ (0 + tSz x)
    rw [tSum_c l (a + tSz x), tSum_c l (0 + tSz x)]
    omega
theorem tSum_cons (x : Tr) (l : List Tr) : tSum (x :: l) = tSz x + tSum l := by
  show l.foldl _ (0 + tSz x) = _
  rw [tSum_c]; omega
theorem tSum_app (l r : List Tr) : tSum (l ++ r) = tSum l + tSum r := by
  unfold tSum
  rw [List.foldl_append, tSum_c]
  rfl
theorem tSum_len : ∀ l : List Tr, l.length ≤ tSum l
  | [] => Nat.zero_le _
  | x :: l => by
    have := tSum_len l
    have := tSz_1 x
    rw [tSum_cons, List.length_cons]
    omega
theorem tIns_sum (one : Bool) (u : Tr) : ∀ l, tSum (tIns one u l) ≤ tSum l + tSz u
  | [] => by show tSum [u] ≤ _; rw [tSum_cons]; omega
  | a :: r => by
    have := tIns_sum one u r
    show tSum (if tCmp a u < 0 then a :: tIns one u r else if one = true ∧ tCmp a u = 0 then a :: r else u :: a :: r) ≤ _
    split
    · rw [tSum_cons, tSum_cons]; omega
    · split
      · omega
      · rw [tSum_cons, tSum_cons]; omega
theorem tPlc_sum (lab : Nat) (l : List Tr) (u : Tr) : tSum (tPlc lab l u) ≤ tSum l + tSz u := by
  unfold tPlc
  split
  · rw [tSum_app, tSum_cons]; show tSum l + (tSz u + 0) ≤ _; omega
  · split
    · split
      · rw [tSum_cons]; show tSz u + 0 ≤ _; omega
      · rename_i a r
        rw [tSum_cons, tSum_cons]
        have := tIns_sum false u r
        omega
    · exact tIns_sum _ u l
theorem tKids_sum : ∀ t : Tr, tSum (tKids t) + 1 = tSz t
  | .var _ => rfl
  | .op t k => by
    have := tKids_sum t
    show tSum (tKids t ++ [k]) + 1 = tSz t + tSz k
    rw [tSum_app, tSum_cons]
    show tSum (tKids t) + (tSz k + 0) + 1 = _
    omega
theorem foldPlc_sum (lab : Nat) : ∀ (us l : List Tr), tSum (us.foldl (tPlc lab) l) ≤ tSum l + tSum us
  | [], l => by show tSum l ≤ tSum l + 0; omega
  | u :: us, l => by
    have h1 := foldPlc_sum lab us (tPlc lab l u)
    have h2 := tPlc_sum lab l u
    rw [tSum_cons]
    show tSum (us.foldl (tPlc lab) (tPlc lab l u)) ≤ _
    omega
theorem tTake_sum (lab : Nat) (l : List Tr) (u : Tr) : tSum (tTake lab l u) ≤ tSum l + tSz u := by
  unfold tTake
  split
  · omega
  · split
    · have := foldPlc_sum lab (tKids u) l
      have := tKids_sum u
      omega
    · exact tPlc_sum lab l u
theorem tMk_sz (lab : Nat) (l : List Tr) : tSz (tMk lab l) = 1 + tSum l := by
  have key : ∀ (l : List Tr) (t : Tr), tSz (l.foldl (fun t k => Lean.Data.AC.Expr.op t k) t) = tSz t + tSum l := by
    intro l
    induction l with
    | nil => intro t; rfl
    | cons x l ih =>
      intro t
      show tSz (l.foldl _ (Lean.Data.AC.Expr.op t x)) = _
      rw [ih, tSum_cons]
      show tSz t + tSz x + tSum l = _
      omega
  exact key l _
theorem tPl_sz : ∀ t : Tr, tSum (tPk t) + 1 ≤ tSz t ∧ tSz (tPl t) ≤ tSz t
  | .var x => ⟨Nat.le_refl _, Nat.le_refl _⟩
  | .op t k => by
    have h1 := (tPl_sz t).1
    have h2 := (tPl_sz k).2
    have h3 := tTake_sum (tLab t) (tPk t) (tPl k)
    have a : tSum (tPk (.op t k)) + 1 ≤ tSz (.op t k) := by
      rw [tPk_op]
      show _ ≤ tSz t + tSz k
      omega
    refine ⟨a, ?_⟩
    show tSz (if tLen t + 1 = 0 then Lean.Data.AC.Expr.var (tLab t) else tFn (tLab t) (tPk (.op t k))) ≤ tSz (Lean.Data.AC.Expr.op t k)
    rw [if_neg (by omega)]
    generalize tPk (.op t k) = l at a
    match l, a with
    | [], a => show 1 ≤ _; omega
    | [x], a =>
      rw [tSum_cons] at a
      show tSz x ≤ _
      have : tSum [] = 0 := rfl
      omega
    | x :: y :: r, a =>
      show tSz (tMk _ (x :: y :: r)) ≤ _
      rw [tMk_sz]
      omega
/-! compare, where only some nodes are laid out -/
def nSq (V : Nat → Prop) (s : Zr) (N L : Nat) (nt : Nat → Tr) : Prop := ∀ x, x < N → V x → s 13 x = nI (tKd (tLab (nt x))) ∧ s 14 x = tNm (tLab (nt x)) ∧ s 16 x = nI (tLen (nt x)) ∧ ∃ f, s 15 x = nI f ∧ f + tLen (nt x) ≤ L ∧ ∀ j, j < tLen (nt x) → ∃ y, (x < y ∧ V y) ∧ y < N ∧ s 17 (f + j) = nI y ∧ nt y = tKid (nt x) j
theorem nSq.only {V : Nat → Prop} {S : Nat → Nat → Prop} {s s' : Zr} {N L : Nat} {nt : Nat → Tr} (o : rOnly S s s') (st : nSq V s N L nt) (hS : ∀ a k, 13 ≤ a → a ≤ 17 → ¬ S a k) : nSq V s' N L nt := by
  intro x hx v
  obtain ⟨c1, c2, c3, f, c4, c5, c6⟩ := st x hx v
  refine ⟨(o _ _ (hS _ _ (by omega) (by omega))).trans c1, (o _ _ (hS _ _ (by omega) (by omega))).trans c2, (o _ _ (hS _ _ (by omega) (by omega))).trans c3, f, (o _ _ (hS _ _ (by omega) (by omega))).trans c4, c5, fun j hj => ?_⟩
  obtain ⟨y, y1, y2, y3, y4⟩ := c6 j hj
  exact ⟨y, y1, y2, (o _ _ (hS _ _ (by omega) (by omega))).trans y3, y4⟩
theorem nSt.q {s : Zr} {N L : Nat} {nt : Nat → Tr} (st : nSt s N L nt) : nSq (fun _ => True) s N L nt := by
  intro x hx _
  obtain ⟨c1, c2, c3, f, c4, c5, c6⟩ := st x hx
  refine ⟨c1, c2, c3, f, c4, c5, fun j hj => ?_⟩
  obtain ⟨y, y1, y2, y3, y4⟩ := c6 j hj
  exact ⟨y, ⟨y1, trivial⟩, y2, y3, y4⟩
/-- the parts pushed, the last one first -/
theorem cpinV_eq {V : Nat → Prop} {s : Zr} {N L : Nat} {nt : Nat → Tr} (st : nSq V s N L nt) (hN : N ≤ 200) (hL : L ≤ 20000) {x y : Nat} (hx : x < N) (hy : y < N) (vx : V x) (vy : V y) (el : tLen (nt x) = tLen (nt y)) {S : List (Nat × Nat)} (hS : stk s S) (sz : sSt nt S + tSz (nt x) ≤ 400) (hl : ∀ pr, pr ∈ S → (pr.1 < N ∧ V pr.1) ∧ pr.2 < N ∧ V pr.2) :
    ∃ s' S', zloop (cpIn (nI x) (nI y)) zFU (nI S.length, nI (tLen (nt x)) - (1 : Int32), s) = some (nI S'.length, s') ∧ stk s' S' ∧ rOnly sCp s s' ∧ cSt nt S' = (if tCk (nt x) (nt y) ≠ 0 then tCk (nt x) (nt y) else cSt nt S) ∧ sSt nt S' + 1 = sSt nt S + tSz (nt x) ∧ ∀ pr, pr ∈ S' → (pr.1 < N ∧ V pr.1) ∧ pr.2 < N ∧ V pr.2 := by
  obtain ⟨-, -, -, f, c4, c5, c6⟩ := st x hx vx
  obtain ⟨-, -, -, g, d4, d5, d6⟩ := st y hy vy
  have hz := tSz_1 (nt x)
  -- state: kids from i on are pushed
  let I : Nat → Int32 × Int32 × Zr → Prop := fun n q => ∃ i S', n = i ∧ i ≤ tLen (nt x) ∧ q.1 = nI S'.length ∧ (q.2.1 = (if i = 0 then (-1 : Int32) else nI (i - 1))) ∧ stk q.2.2 S' ∧ rOnly sCp s q.2.2 ∧
    (∀ c, (if tCk (tPre (nt x) i) (tPre (nt y) i) ≠ 0 then tCk (tPre (nt x) i) (tPre (nt y) i) else cSt nt S') = c → (if tCk (nt x) (nt y) ≠ 0 then tCk (nt x) (nt y) else cSt nt S) = c) ∧ sSt nt S' + tSz (tPre (nt x) i) = sSt nt S + tSz (nt x) ∧ ∀ pr, pr ∈ S' → (pr.1 < N ∧ V pr.1) ∧ pr.2 < N ∧ V pr.2
  have q := zloop_inv (f := cpIn (nI x) (nI y)) I (fun r => ∃ S', r.1 = nI S'.length ∧ stk r.2 S' ∧ rOnly sCp s r.2 ∧ (if tCk (nt x) (nt y) ≠ 0 then tCk (nt x) (nt y) else cSt nt S) = cSt nt S' ∧ sSt nt S' + 1 = sSt nt S + tSz (nt x) ∧ ∀ pr, pr ∈ S' → (pr.1 < N ∧ V pr.1) ∧ pr.2 < N ∧ V pr.2) (by
    rintro n ⟨a, b, s'⟩ ⟨i, S', rfl, hi, e1, e2, e3, e4, e5, e6, e7⟩
    dsimp only at e1 e2 e3 e4
    subst e1 e2
    by_cases z : n = 0
    · subst z
      rw [tPre_0] at e6
      rw [tCk_00] at e5
      refine Or.inr ⟨(nI S'.length, s'), ?_, S', rfl, e3, e4, e5 _ (if_neg (by omega)), e6, e7⟩
      show (if (if 0 = 0 then (-1 : Int32) else nI (0 - 1)) < 0 then _ else _) = _
      rw [if_pos (by decide)]
    · obtain ⟨j, rfl⟩ : ∃ j, n = j + 1 := ⟨n - 1, by omega⟩
      obtain ⟨kx, ⟨x1, x5⟩, x2, x3, x4⟩ := c6 j (by omega)
      obtain ⟨ky, ⟨y1, y5⟩, y2, y3, y4⟩ := d6 j (by omega)
      have hS := tCk_S (t := nt x) (u := nt y) (j := j) (by omega) (by omega)
      have e6' : sSt nt S' + (tSz (tPre (nt x) j) + tSz (nt kx)) = sSt nt S + tSz (nt x) := by rw [← e6, tPre_S _ j (by omega), x4]; rfl
      have l1 := sSt_len nt _ S' rfl
      have p1 := tSz_1 (tPre (nt x) j)
      have p2 := tSz_1 (nt kx)
      rw [if_neg (by omega), Nat.add_sub_cancel]
      refine Or.inl ⟨(nI (S' ++ [(kx, ky)]).length, (if j = 0 then (-1 : Int32) else nI (j - 1)), u2 (u2 s' 19 S'.length (nI kx)) 20 S'.length (nI ky)), j, ?_, by omega, j, S' ++ [(kx, ky)], rfl, by omega, rfl, rfl, stk_push e3 kx ky, (e4.tr (rOnly.u (Or.inl rfl))).tr (rOnly.u (Or.inr rfl)), fun c hc => e5 c ?_, ?_, fun pr hpr => ?_⟩
      · show (if nI j < 0 then _ else _) = _
        rw [if_neg (nI_pos (by omega)), rd15 (by omega), Option.bind_some, e4 15 x (by omega), c4, nI_add, rd17 (by omega), Option.bind_some, e4 17 _ (by omega), x3, wr19 (by omega), Option.bind_some, rd15 (by omega), Option.bind_some, u2_a (by decide), e4 15 y (by omega), d4, nI_add, rd17 (by omega), Option.bind_some, u2_a (by decide), e4 17 _ (by omega), y3, wr20 (by omega), Option.bind_some, nI_1, List.length_append]
        show some (Sum.inl (nI (S'.length + 1), nI j + -1, _)) = some (Sum.inl (nI (S'.length + 1), _, _))
        by_cases z : j = 0
        · subst z; rfl
        · rw [if_neg z]
          obtain ⟨k, rfl⟩ : ∃ k, j = k + 1 := ⟨j - 1, by omega⟩
          rw [nI_dec, Nat.add_sub_cancel]
      · rw [← hc, hS, cSt_app, x4, y4]
        by_cases z : tCk (tPre (nt x) j) (tPre (nt y) j) = 0
        · rw [z, if_neg (show ¬ ((0 : Int) ≠ 0) by omega), if_neg (show ¬ ((0 : Int) ≠ 0) by omega)]
        · rw [if_pos z, if_pos z, if_pos z]
      · rw [sSt_app]; omega
      · rcases List.mem_append.mp hpr with hpr | hpr
        · exact e7 pr hpr
        · rw [List.mem_singleton.mp hpr]; exact ⟨⟨x2, x5⟩, y2, y5⟩) (tLen (nt x)) (nI S.length, nI (tLen (nt x)) - (1 : Int32), s) zFU ⟨tLen (nt x), S, rfl, Nat.le_refl _, rfl, by
      by_cases z : tLen (nt x) = 0
      · rw [if_pos z, z]; rfl
      · rw [if_neg z]; exact pk_sub (b := 1) (by omega), hS, rOnly.rf, fun c hc => by
      rw [tPre_all] at hc
      rw [el, tPre_all] at hc
      exact hc, by rw [tPre_all], hl⟩ (by rw [zFU_v]; omega)
  obtain ⟨⟨a, s'⟩, e, S', r1, r2, r3, r4, r5, r6⟩ := q
  dsimp only at r1
  subst r1
  exact ⟨s', S', e, r2, r3, r4.symm, r5, r6⟩
theorem rcmpV_eq {V : Nat → Prop} {s : Zr} {N L : Nat} {nt : Nat → Tr} (st : nSq V s N L nt) (hN : N ≤ 200) (hL : L ≤ 20000) (hG : ∀ x, x < N → V x → tG (nt x)) {a b : Nat} (ha : a < N) (hb : b < N) (va : V a) (vb : V b) (hz : tSz (nt a) ≤ 400) :
    ∃ v s', fX6_compare s (nI a) (nI b) = some (v, s') ∧ rSg v (tCmp (nt a) (nt b)) ∧ rOnly sCp s s' := by
  unfold fX6_compare
  show ∃ v s', ((wrI s 19 (nI 0) (nI a)).bind fun s1 => (wrI s1 20 (nI 0) (nI b)).bind fun s2 => (zloop cpF zFU ((1 : Int32), s2)).bind fun q => match q with
    | .inr t => some t
    | .inl s5 => some ((0 : Int32), s5)) = _ ∧ _
  rw [wr19 (by omega), Option.bind_some, wr20 (by omega), Option.bind_some]
  have q := zloop_inv (f := cpF) (fun (n : Nat) (q : Int32 × Zr) => ∃ S, n = sSt nt S ∧ q.1 = nI S.length ∧ stk q.2 S ∧ rOnly sCp s q.2 ∧ cSt nt S = tCmp (nt a) (nt b) ∧ sSt nt S ≤ 400 ∧ ∀ pr, pr ∈ S → (pr.1 < N ∧ V pr.1) ∧ pr.2 < N ∧ V pr.2)
    (fun r => (∃ s', r = .inl s' ∧ tCmp (nt a) (nt b) = 0 ∧ rOnly sCp s s') ∨ ∃ v s', r = .inr (v, s') ∧ rSg v (tCmp (nt a) (nt b)) ∧ rOnly sCp s s') (by
    rintro n ⟨w, s'⟩ ⟨S, rfl, e1, e2, e3, e4, e5, e6⟩
    dsimp only at e1 e2 e3
    subst e1
    by_cases z : S = []
    · subst z
      refine Or.inr ⟨.inl s', ?_, Or.inl ⟨s', rfl, e4.symm, e3⟩⟩
      show (if nI 0 ≤ 0 then _ else _) = _
      rw [if_pos (by decide)]
    · obtain ⟨S', x, y, rfl⟩ := snoc_ne S z
      obtain ⟨p1, p2, p3⟩ := stk_pop e2
      obtain ⟨⟨hx, vx⟩, hy, vy⟩ := e6 (x, y) (by simp)
      have hx' : x < N := hx
      have hy' : y < N := hy
      have st' := nSq.only e3 st (by omega)
      obtain ⟨a1, a2, a3, -⟩ := st' x hx' vx
      obtain ⟨b1, b2, b3, _, -, yL, -⟩ := st' y hy' vy
      rw [cSt_app] at e4
      rw [sSt_app] at e5
      have l1 := sSt_len nt _ S' rfl
      have t1 := tSz_1 (nt x)
      have g1 := hG x hx' vx
      have g2 := hG y hy' vy
      have lab1 := tG_lab _ g1
      have lab2 := tG_lab _ g2
      have hdec : nI (S' ++ [(x, y)]).length + (-1 : Int32) = nI S'.length := by
        rw [List.length_append]
        exact nI_dec S'.length
      have hpos : ¬ nI (S' ++ [(x, y)]).length ≤ 0 := by
        rw [List.length_append]
        exact nI_nle (Nat.succ_pos _) (by show S'.length + 1 < _; omega)
      show (∃ s'' m, (if nI (S' ++ [(x, y)]).length ≤ 0 then _ else _) = _ ∧ _) ∨ ∃ r, (if nI (S' ++ [(x, y)]).length ≤ 0 then _ else _) = _ ∧ _
      rw [if_neg hpos, hdec, rd19 (by omega), Option.bind_some, rd20 (by omega), Option.bind_some, p2, p3, rd13 (by omega), Option.bind_some, rd13 (by omega), Option.bind_some, a1, b1]
      by_cases k1 : (tLab (nt x) < 12 ∧ tLab (nt y) < 12) ∨ tLab (nt x) = tLab (nt y)
      · rw [if_pos ((tKd_eq lab1 lab2).mpr k1), rd14 (by omega), Option.bind_some, rd14 (by omega), Option.bind_some, a2, b2]
        by_cases k2 : tLab (nt x) = tLab (nt y)
        · rw [if_pos ((tNm_eq k1).mpr k2), rd16 (by omega), Option.bind_some, rd16 (by omega), Option.bind_some, a3, b3]
          by_cases k3 : tLen (nt x) = tLen (nt y)
          · rw [if_pos (show nI (tLen (nt x)) = nI (tLen (nt y)) by rw [k3]), Option.bind_some]
            obtain ⟨s2, S2, r1, r2, r3, r4, r5, r6⟩ := cpinV_eq st' hN hL hx' hy' vx vy k3 p1 (by omega) (fun pr hpr => e6 pr (by simp [hpr]))
            rw [r1]
            refine Or.inl ⟨(nI S2.length, s2), sSt nt S2, rfl, by rw [sSt_app]; omega, S2, rfl, rfl, r2, e3.tr r3, ?_, by omega, r6⟩
            rw [r4]
            unfold tCmp at e4
            rw [if_neg (show ¬ (tLab (nt x) ≠ tLab (nt y)) by omega), if_neg (show ¬ (tLen (nt x) ≠ tLen (nt y)) by omega)] at e4
            exact e4
          · have ec : tCmp (nt x) (nt y) = tSg (tLen (nt x)) (tLen (nt y)) := by
              unfold tCmp
              rw [if_neg (show ¬ (tLab (nt x) ≠ tLab (nt y)) by omega), if_pos k3]
            have hne : tSg (tLen (nt x)) (tLen (nt y)) ≠ 0 := fun z => k3 (tSg_0.mp z)
            rw [ec, if_pos hne] at e4
            have ty := tSz_1 (nt y)
            rw [if_neg (fun z => k3 ((nI_eq (by omega) (by omega)).mp z)), Option.bind_some, Option.bind_some]
            exact Or.inr ⟨_, rfl, Or.inr ⟨_, _, rfl, by rw [← e4]; exact rSg_sub (by omega) (by omega), e3⟩⟩
        · have k12 : tLab (nt x) < 12 ∧ tLab (nt y) < 12 := k1.elim (fun z => z) (fun z => absurd z k2)
          have n1 : tNm (tLab (nt x)) = nI (tLab (nt x)) := by unfold tNm; rw [if_pos k12.1]
          have n2 : tNm (tLab (nt y)) = nI (tLab (nt y)) := by unfold tNm; rw [if_pos k12.2]
          have ec : tCmp (nt x) (nt y) = tSg (tLab (nt x)) (tLab (nt y)) := by
            unfold tCmp
            rw [if_pos k2]
          have hne : tSg (tLab (nt x)) (tLab (nt y)) ≠ 0 := fun z => k2 (tSg_0.mp z)
          rw [ec, if_pos hne] at e4
          rw [if_neg (fun z => k2 ((tNm_eq k1).mp z)), Option.bind_some, Option.bind_some, n1, n2]
          exact Or.inr ⟨_, rfl, Or.inr ⟨_, _, rfl, by rw [← e4]; exact rSg_sub (by omega) (by omega), e3⟩⟩
      · have k2 : tLab (nt x) ≠ tLab (nt y) := fun z => k1 (Or.inr z)
        have ec : tCmp (nt x) (nt y) = tSg (tLab (nt x)) (tLab (nt y)) := by
          unfold tCmp
          rw [if_pos k2]
        have hne : tSg (tLab (nt x)) (tLab (nt y)) ≠ 0 := fun z => k2 (tSg_0.mp z)
        rw [ec, if_pos hne] at e4
        rw [if_neg (fun z => k1 ((tKd_eq lab1 lab2).mp z)), Option.bind_some, Option.bind_some]
        exact Or.inr ⟨_, rfl, Or.inr ⟨_, _, rfl, by rw [← e4, ← tKd_sg lab1 lab2 k1]; exact rSg_sub (by unfold tKd; split <;> omega) (by unfold tKd; split <;> omega), e3⟩⟩) (sSt nt [(a, b)]) ((1 : Int32), _) zFU ⟨[(a, b)], rfl, rfl, stk_push (L := []) (fun i hi => absurd hi (Nat.not_lt_zero _)) a b, (rOnly.u (Or.inl rfl)).tr (rOnly.u (Or.inr rfl)), by
      show (if tCmp (nt a) (nt b) ≠ 0 then tCmp (nt a) (nt b) else 0) = _
      by_cases z : tCmp (nt a) (nt b) = 0
      · rw [z]; rfl
      · rw [if_pos z], by
      show 0 + tSz (nt a) ≤ 400
      omega, fun pr hpr => by
      rw [List.mem_singleton.mp hpr]; exact ⟨⟨ha, va⟩, hb, vb⟩⟩ (by show 0 + tSz (nt a) < _; rw [zFU_v]; omega)
  obtain ⟨r, e, hr⟩ := q
  have e' : zloop cpF zFU ((1 : Int32), u2 (u2 s 19 0 (nI a)) 20 0 (nI b)) = some r := e
  rw [e', Option.bind_some]
  rcases hr with ⟨s', rfl, h0, o⟩ | ⟨v, s', rfl, h0, o⟩
  · exact ⟨0, s', rfl, by rw [h0]; exact ⟨⟨fun _ => rfl, fun _ => rfl⟩, ⟨fun z => absurd z (by decide), fun z => by omega⟩⟩, o⟩
  · exact ⟨v, s', rfl, h0, o⟩
/-! gathered first, sorted then: the same parts -/
def rG0 (lab : Nat) (G : List Tr) (u : Tr) : List Tr := if lab = 14 ∧ G.any (fun a => tCmp a u == 0) = true then G else G ++ [u]
def rTk (lab : Nat) (G : List Tr) (u : Tr) : List Tr := if (lab = 13 ∨ lab = 15) ∧ tLab u = 12 then G else if tLab u = lab ∧ lab ≠ 16 then (tKids u).foldl (rG0 lab) G else rG0 lab G u
def tSort (l : List Tr) : List Tr := l.foldl (fun r u => tIns false u r) []
def rFn (lab : Nat) (G : List Tr) : List Tr := if lab = 13 then G else if lab = 16 then (match G with
    | [] => []
    | a :: r => a :: tSort r) else tSort G
abbrev tSd : List Tr → Prop := List.Pairwise (fun a b => tCmp a b ≤ 0)
theorem tIns_mem {x u : Tr} : ∀ {l : List Tr}, x ∈ tIns false u l ↔ x = u ∨ x ∈ l
  | [] => by show x ∈ [u] ↔ _; simp
  | a :: r => by
    show x ∈ (if tCmp a u < 0 then a :: tIns false u r else if false = true ∧ tCmp a u = 0 then a :: r else u :: a :: r) ↔ _
    by_cases c : tCmp a u < 0
    · rw [if_pos c, List.mem_cons, tIns_mem (l := r), List.mem_cons]
      constructor
      · rintro (h | h | h)
        · exact Or.inr (Or.inl h)
        · exact Or.inl h
        · exact Or.inr (Or.inr h)
      · rintro (h | h | h)
        · exact Or.inr (Or.inl h)
        · exact Or.inl h
        · exact Or.inr (Or.inr h)
    · rw [if_neg c, if_neg (fun z => absurd z.1 (by decide)), List.mem_cons]
theorem tIns_sd {u : Tr} : ∀ {l : List Tr}, tSd l → tSd (tIns false u l)
  | [], _ => by show tSd [u]; exact List.pairwise_singleton _ _
  | a :: r, h => by
    show tSd (if tCmp a u < 0 then a :: tIns false u r else if false = true ∧ tCmp a u = 0 then a :: r else u :: a :: r)
    obtain ⟨h1, h2⟩ := List.pairwise_cons.mp h
    by_cases c : tCmp a u < 0
    · rw [if_pos c]
      refine List.pairwise_cons.mpr ⟨fun b hb => ?_, tIns_sd h2⟩
      rcases tIns_mem.mp hb with rfl | hb
      · omega
      · exact h1 b hb
    · rw [if_neg c, if_neg (fun z => absurd z.1 (by decide))]
      have ua : tCmp u a ≤ 0 := by rw [tCmp_anti a u]; omega
      refine List.pairwise_cons.mpr ⟨fun b hb => ?_, h⟩
      rcases List.mem_cons.mp hb with rfl | hb
      · exact ua
      · exact tCmp_le_le ua (h1 b hb)
theorem tSort_app (l : List Tr) (u : Tr) : tSort (l ++ [u]) = tIns false u (tSort l) := by
  unfold tSort
  rw [List.foldl_append]
  rfl
theorem snocT {P : List Tr → Prop} (h0 : P []) (h1 : ∀ l x, P l → P (l ++ [x])) (l : List Tr) : P l := by
  have key : ∀ r : List Tr, P r.reverse := by
    intro r
    induction r with
    | nil => exact h0
    | cons x r ih => rw [List.reverse_cons]; exact h1 _ _ ih
  have := key l.reverse
  rwa [List.reverse_reverse] at this
theorem tSort_sd : ∀ l, tSd (tSort l) := by
  apply snocT
  · exact List.Pairwise.nil
  · intro l x ih
    rw [tSort_app]
    exact tIns_sd ih
theorem tSort_mem {x : Tr} : ∀ l, x ∈ tSort l ↔ x ∈ l := by
  apply snocT
  · exact Iff.rfl
  · intro l y ih
    rw [tSort_app, tIns_mem, ih, List.mem_append, List.mem_singleton]
    exact Or.comm
theorem tIns_1m {u : Tr} : ∀ {l : List Tr}, tSd l → u ∈ l → tIns true u l = l
  | [], _, h => absurd h List.not_mem_nil
  | a :: r, s, h => by
    show (if tCmp a u < 0 then a :: tIns true u r else if true = true ∧ tCmp a u = 0 then a :: r else u :: a :: r) = _
    obtain ⟨h1, h2⟩ := List.pairwise_cons.mp s
    by_cases c : tCmp a u < 0
    · rw [if_pos c]
      rcases List.mem_cons.mp h with rfl | h
      · have := (tCmp_0 u u).mpr rfl; omega
      · rw [tIns_1m h2 h]
    · rw [if_neg c, if_pos]
      refine ⟨rfl, ?_⟩
      rcases List.mem_cons.mp h with rfl | h
      · exact (tCmp_0 u u).mpr rfl
      · have := h1 u h; omega
theorem tIns_1n {u : Tr} : ∀ {l : List Tr}, u ∉ l → tIns true u l = tIns false u l
  | [], _ => rfl
  | a :: r, h => by
    show (if tCmp a u < 0 then a :: tIns true u r else if true = true ∧ tCmp a u = 0 then a :: r else u :: a :: r) = (if tCmp a u < 0 then a :: tIns false u r else if false = true ∧ tCmp a u = 0 then a :: r else u :: a :: r)
    rw [tIns_1n (fun z => h (List.mem_cons_of_mem _ z))]
    have ne : tCmp a u ≠ 0 := fun z => h (by rw [(tCmp_0 a u).mp z]; exact List.mem_cons_self)
    by_cases c : tCmp a u < 0
    · rw [if_pos c, if_pos c]
    · rw [if_neg c, if_neg c, if_neg (fun z => ne z.2), if_neg (fun z => ne z.2)]
theorem any_mem (G : List Tr) (u : Tr) : G.any (fun a => tCmp a u == 0) = true ↔ u ∈ G := by
  rw [List.any_eq_true]
  constructor
  · rintro ⟨a, h1, h2⟩
    have : tCmp a u = 0 := by simpa using h2
    rw [← (tCmp_0 a u).mp this]
    exact h1
  · intro h
    exact ⟨u, h, by simpa using (tCmp_0 u u).mpr rfl⟩
theorem rFn_G0 (lab : Nat) (G : List Tr) (u : Tr) : rFn lab (rG0 lab G u) = tPlc lab (rFn lab G) u := by
  unfold rG0
  by_cases c1 : lab = 14
  · subst c1
    have e : ∀ G, rFn 14 G = tSort G := fun G => rfl
    have e2 : ∀ l u, tPlc 14 l u = tIns true u l := fun l u => rfl
    rw [e2, e, e]
    by_cases c2 : u ∈ G
    · rw [if_pos ⟨rfl, (any_mem G u).mpr c2⟩, tIns_1m (tSort_sd G) ((tSort_mem G).mpr c2)]
    · rw [if_neg (fun z => c2 ((any_mem G u).mp z.2)), tSort_app, tIns_1n (fun z => c2 ((tSort_mem G).mp z))]
  · rw [if_neg (fun z => c1 z.1)]
    unfold rFn tPlc
    by_cases c2 : lab = 13
    · rw [if_pos c2, if_pos c2, if_pos c2]
    · rw [if_neg c2, if_neg c2, if_neg c2]
      by_cases c3 : lab = 16
      · rw [if_pos c3, if_pos c3, if_pos c3]
        cases G with
        | nil => rfl
        | cons a r =>
          show a :: tSort (r ++ [u]) = a :: tIns false u (tSort r)
          rw [tSort_app]
      · rw [if_neg c3, if_neg c3, if_neg c3, tSort_app]
        have : (lab == 14) = false := by simpa using c1
        rw [this]
theorem rFn_fold (lab : Nat) : ∀ (us G : List Tr), rFn lab (us.foldl (rG0 lab) G) = us.foldl (tPlc lab) (rFn lab G)
  | [], _ => rfl
  | u :: us, G => by
    show rFn lab (us.foldl (rG0 lab) (rG0 lab G u)) = us.foldl (tPlc lab) (tPlc lab (rFn lab G) u)
    rw [rFn_fold lab us, rFn_G0]
theorem rFn_Tk (lab : Nat) (G : List Tr) (u : Tr) : rFn lab (rTk lab G u) = tTake lab (rFn lab G) u := by
  unfold rTk tTake
  by_cases c1 : (lab = 13 ∨ lab = 15) ∧ tLab u = 12
  · rw [if_pos c1, if_pos c1]
  · rw [if_neg c1, if_neg c1]
    by_cases c2 : tLab u = lab ∧ lab ≠ 16
    · rw [if_pos c2, if_pos c2, rFn_fold]
    · rw [if_neg c2, if_neg c2, rFn_G0]
/-- what is gathered of a tree's parts -/
def tGt : Tr → List Tr
  | .var _ => []
  | .op t k => rTk (tLab t) (tGt t) (tPl k)
theorem tGt_pk : ∀ t : Tr, rFn (tLab t) (tGt t) = tPk t
  | .var x => by
    show rFn x [] = []
    unfold rFn
    split
    · rfl
    · split <;> rfl
  | .op t k => by
    show rFn (tLab t) (rTk (tLab t) (tGt t) (tPl k)) = tTake (tLab t) (tPk t) (tPl k)
    rw [rFn_Tk, tGt_pk t]
/-- found from behind -/
theorem tIns_at {x : Tr} : ∀ (l : List Tr) (k : Nat), tSd l → k ≤ l.length → (∀ j, k ≤ j → j < l.length → 0 < tCmp (l.getD j (.var 0)) x) → (k = 0 ∨ tCmp (l.getD (k - 1) (.var 0)) x ≤ 0) → tIns false x l = l.take k ++ x :: l.drop k
  | [], k, _, hk, _, _ => by
    have : k = 0 := by simpa using hk
    subst this
    rfl
  | a :: r, 0, _, _, h, _ => by
    have := h 0 (Nat.le_refl _) (Nat.succ_pos _)
    have this' : 0 < tCmp a x := this
    show (if tCmp a x < 0 then a :: tIns false x r else if false = true ∧ tCmp a x = 0 then a :: r else x :: a :: r) = x :: a :: r
    rw [if_neg (by omega), if_neg (fun z => absurd z.1 (by decide))]
  | a :: r, k + 1, s, hk, h, h0 => by
    obtain ⟨s1, s2⟩ := List.pairwise_cons.mp s
    have hk' : k ≤ r.length := Nat.le_of_succ_le_succ hk
    have last : tCmp ((a :: r).getD k (.var 0)) x ≤ 0 := h0.resolve_left (by omega)
    have ih := tIns_at (x := x) r k s2 hk' (fun j h1 h2 => h (j + 1) (by omega) (Nat.succ_lt_succ h2)) (by
      cases k with
      | zero => exact Or.inl rfl
      | succ k => exact Or.inr last)
    have mem : ∀ j, j < r.length → r.getD j (.var 0) ∈ r := fun j hj => by
      rw [List.getD_eq_getElem?_getD, List.getElem?_eq_getElem hj]
      exact List.getElem_mem hj
    show (if tCmp a x < 0 then a :: tIns false x r else if false = true ∧ tCmp a x = 0 then a :: r else x :: a :: r) = a :: (r.take k ++ x :: r.drop k)
    by_cases c : tCmp a x < 0
    · rw [if_pos c, ih]
    · rw [if_neg c, if_neg (fun z => absurd z.1 (by decide)), ← ih]
      have ax : tCmp a x ≤ 0 := by
        cases k with
        | zero => exact last
        | succ k => exact tCmp_le_le (s1 _ (mem k (by omega))) last
      have e : a = x := (tCmp_0 a x).mp (by omega)
      subst e
      congr 1
      cases r with
      | nil => rfl
      | cons b r' =>
        have := s1 b List.mem_cons_self
        show _ = (if tCmp b a < 0 then b :: tIns false a r' else if false = true ∧ tCmp b a = 0 then b :: r' else a :: b :: r')
        rw [if_neg (by rw [tCmp_anti a b]; omega), if_neg (fun z => absurd z.1 (by decide))]
