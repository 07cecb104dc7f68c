/-! found on the reference's side: one row, as a part takes it -/
noncomputable def stS (P : Nat → Prop) (q : Rw × List Nat) (x : Nat) : Rw × List Nat := if cB (P x) = true then (q.1, q.2 ++ [x]) else if q.2 = [] then (q.1, []) else (q.1 ++ [q.2], [])
def finS (q : Rw × List Nat) : Rw := if q.2 = [] then q.1 else q.1 ++ [q.2]
theorem xSt_fold {P : Nat → Prop} : ∀ (r : List Nat) (d : Rw) (c : List Nat), finS (r.foldl (stS P) (d, c)) = d ++ xSt P c r
  | [], d, c => by
    show finS (d, c) = d ++ (if c = [] then [] else [c])
    unfold finS
    by_cases e : c = []
    · rw [if_pos e, if_pos e, List.append_nil]
    · rw [if_neg e, if_neg e]
  | x :: r, d, c => by
    rw [List.foldl_cons]
    unfold xSt
    by_cases e : cB (P x) = true
    · rw [show stS P (d, c) x = (d, c ++ [x]) from if_pos e, if_pos e]
      exact xSt_fold r d _
    · rw [if_neg e]
      by_cases g : c = []
      · rw [show stS P (d, c) x = (d, []) from (if_neg e).trans (if_pos g), if_pos g]
        exact xSt_fold r d _
      · rw [show stS P (d, c) x = (d ++ [c], []) from (if_neg e).trans (if_neg g), if_neg g, xSt_fold r (d ++ [c]) [], List.append_assoc]
        rfl
/-- the rows that are there after j names of r; the flag: the last name was taken -/
noncomputable def prS (k : Nat) (P : Nat → Prop) (R : Rw) (r : List Nat) (j : Nat) : Rw :=
  if k = 5 then finS ((r.take j).foldl (stS P) (R, [])) else if k = 3 ∧ ¬ cB (P (r.getD 0 0)) = true then R else R ++ [xW P (r.take j)]
theorem prS_end {k : Nat} {P : Nat → Prop} {R : Rw} {r : List Nat} (h3 : k = 3 → 0 < r.length ∧ ∀ x, x ∈ r → (P x ↔ P (r.getD 0 0))) : prS k P R r r.length = R ++ xTk1 k P r := by
  unfold prS xTk1
  rw [List.take_length]
  by_cases c5 : k = 5
  · rw [if_pos c5, if_pos c5]
    exact xSt_fold r R []
  · rw [if_neg c5, if_neg c5]
    by_cases c3 : k = 3
    · obtain ⟨h1, h2⟩ := h3 c3
      have m0 : r.getD 0 0 ∈ r := mem_gd.mp ⟨0, h1, rfl⟩
      by_cases p0 : cB (P (r.getD 0 0)) = true
      · rw [if_neg (fun z => z.2 p0), if_neg (fun z => by
          have : r.getD 0 0 ∈ xW P r := List.mem_filter.mpr ⟨m0, p0⟩
          rw [z.2] at this
          exact absurd this List.not_mem_nil)]
      · have e : xW P r = [] := List.filter_eq_nil_iff.mpr (fun x hx z => p0 (cB_t.mpr ((h2 x hx).mp (cB_t.mp z))))
        rw [if_pos ⟨c3, p0⟩, if_pos ⟨c3, e⟩, List.append_nil]
    · rw [if_neg (fun z => c3 z.1), if_neg (fun z => c3 z.1)]
noncomputable def cuS (P : Nat → Prop) (R : Rw) (r : List Nat) (j : Nat) : Rw × List Nat := (r.take j).foldl (stS P) (R, [])
theorem cuS_s {P : Nat → Prop} {R : Rw} {r : List Nat} {j : Nat} (hj : j < r.length) : cuS P R r (j + 1) = stS P (cuS P R r j) (r.getD j 0) := by
  unfold cuS
  rw [take_gd hj, List.foldl_append]; rfl
theorem xW_s {P : Nat → Prop} {r : List Nat} {j : Nat} (hj : j < r.length) : xW P (r.take (j + 1)) = xW P (r.take j) ++ (if cB (P (r.getD j 0)) = true then [r.getD j 0] else []) := by
  unfold xW
  rw [take_gd hj, List.filter_append]
  congr 1
  by_cases c : cB (P (r.getD j 0)) = true
  · rw [if_pos c, List.filter_cons_of_pos (p := fun x => cB (P x)) c]; rfl
  · rw [if_neg c, List.filter_cons_of_neg (p := fun x => cB (P x)) c]; rfl
/-- how the rows grow by a name -/
theorem prS_s {k : Nat} {P : Nat → Prop} {R : Rw} {r : List Nat} {j : Nat} (hj : j < r.length) (h3 : k = 3 → ∀ x, x ∈ r → (P x ↔ P (r.getD 0 0))) :
    (¬ P (r.getD j 0) → prS k P R r (j + 1) = prS k P R r j) ∧ (P (r.getD j 0) → (k = 5 ∧ (cuS P R r j).2 = [] ∧ prS k P R r (j + 1) = prS k P R r j ++ [[r.getD j 0]]) ∨ ((k = 5 → (cuS P R r j).2 ≠ []) ∧ ∃ A q, prS k P R r j = A ++ [q] ∧ prS k P R r (j + 1) = A ++ [q ++ [r.getD j 0]])) := by
  have mj : r.getD j 0 ∈ r := mem_gd.mp ⟨j, hj, rfl⟩
  by_cases c5 : k = 5
  · have e : ∀ i, prS k P R r i = finS (cuS P R r i) := fun i => if_pos c5
    rw [e, e, cuS_s hj]
    generalize cuS P R r j = q
    obtain ⟨d, c⟩ := q
    constructor
    · intro np
      have np' : ¬ cB (P (r.getD j 0)) = true := fun z => np (cB_t.mp z)
      by_cases g : c = []
      · rw [show stS P (d, c) (r.getD j 0) = (d, []) from (if_neg np').trans (if_pos g), g]
      · rw [show stS P (d, c) (r.getD j 0) = (d ++ [c], []) from (if_neg np').trans (if_neg g)]
        unfold finS
        rw [if_pos rfl, if_neg g]
    · intro p
      rw [show stS P (d, c) (r.getD j 0) = (d, c ++ [r.getD j 0]) from if_pos (cB_t.mpr p)]
      have ne : ¬ c ++ [r.getD j 0] = [] := by simp
      unfold finS
      rw [if_neg ne]
      by_cases g : c = []
      · refine Or.inl ⟨c5, g, ?_⟩
        rw [if_pos g, g]; rfl
      · refine Or.inr ⟨fun _ => g, d, c, ?_, rfl⟩
        rw [if_neg g]
  · by_cases c3 : k = 3 ∧ ¬ cB (P (r.getD 0 0)) = true
    · have e : ∀ i, prS k P R r i = R := fun i => (if_neg c5).trans (if_pos c3)
      rw [e, e]
      exact ⟨fun _ => rfl, fun p => (c3.2 (cB_t.mpr ((h3 c3.1 _ mj).mp p))).elim⟩
    · have e : ∀ i, prS k P R r i = R ++ [xW P (r.take i)] := fun i => (if_neg c5).trans (if_neg c3)
      rw [e, e, xW_s hj]
      constructor
      · intro np
        rw [if_neg (fun z => np (cB_t.mp z)), List.append_nil]
      · intro p
        rw [if_pos (cB_t.mpr p)]
        exact Or.inr ⟨fun z => (c5 z).elim, R, _, rfl, rfl⟩
/-! found on the reference's side: the names of a row go over to the new node -/
theorem prS_len {k : Nat} {P : Nat → Prop} {R : Rw} {r : List Nat} (h3 : k = 3 → ∀ x, x ∈ r → (P x ↔ P (r.getD 0 0))) : ∀ j, j ≤ r.length → (prS k P R r j).length ≤ R.length + 1 + j
  | 0, _ => by
    unfold prS
    by_cases c5 : k = 5
    · rw [if_pos c5]; show R.length ≤ _; omega
    · rw [if_neg c5]
      by_cases c3 : k = 3 ∧ ¬ cB (P (r.getD 0 0)) = true
      · rw [if_pos c3]; omega
      · rw [if_neg c3, List.length_append]; show R.length + 1 ≤ _; omega
  | j + 1, hj => by
    have ih := prS_len (R := R) h3 j (by omega)
    obtain ⟨a, b⟩ := prS_s (k := k) (P := P) (R := R) (r := r) (j := j) (by omega) h3
    by_cases p : P (r.getD j 0)
    · rcases b p with ⟨-, -, e⟩ | ⟨-, A, q, e1, e2⟩
      · rw [e, List.length_append]; show (prS k P R r j).length + 1 ≤ _; omega
      · rw [e1, List.length_append] at ih
        rw [e2, List.length_append]
        have z1 : [q].length = 1 := rfl
        have z2 : [q ++ [r.getD j 0]].length = 1 := rfl
        omega
    · rw [a p]; omega
def rRb (s : Zr) (f : Nat) (l : Rw) (W : Nat) : Prop := ∀ i, i < l.length → ∃ g, s 33 (f + i) = nI g ∧ s 34 (f + i) = nI (l.getD i []).length ∧ g + (l.getD i []).length ≤ W ∧ ∀ j, j < (l.getD i []).length → s 35 (g + j) = nI ((l.getD i []).getD j 0)
theorem rpname_eq {s s0 : Zr} {x f W0 W g u : Nat} {R : Rw} {r : List Nat} {k : Nat} {P : Nat → Prop} {a2 : Int32} (hx : x < 200) (hk : k < 100) (hu : u < f) (rok : rOK r) (h3 : k = 3 → ∀ y, y ∈ r → (P y ↔ P (r.getD 0 0)))
    (e33 : s0 33 u = nI g) (e34 : s0 34 u = nI r.length) (gW : g + r.length ≤ W0) (e35 : ∀ j, j < r.length → s0 35 (g + j) = nI (r.getD j 0))
    (hP : ∀ s', rOnly (sBl x f W0) s0 s' → ∀ v, v < 12 → zS (if a2 = (-3 : Int32) then (rdZ s' 44 (nI v)).bind fun x30 => some x30 else (rdI s' 40 (nI v)).bind fun x31 => if x31 = a2 then some (1 : Int32) else some (0 : Int32)) (fun y => isB y (P v)))
    (hW : W0 ≤ W) (hW2 : W + r.length < 12000) (hR : f + R.length + 20 < 12000) (h : BL s x f (prS k P R r 0) W) (o : rOnly (sBl x f W0) s0 s) :
    zS (zloop (fun ((v19, v20, s21) : Int32 × Int32 × Zr) =>
        ((rdI s21 34 (nI u)).bind fun x25 =>
        if x25 ≤ v20 then
          some (.inr s21)
        else
          (rdI s21 33 (nI u)).bind fun x26 =>
          (rdI s21 35 (x26 + v20)).bind fun x27 =>
          (if a2 = (-3 : Int32) then
            (rdZ s21 44 x27).bind fun x30 =>
            some x30
          else
            (rdI s21 40 x27).bind fun x31 =>
            if x31 = a2 then
              some (1 : Int32)
            else
              some (0 : Int32)).bind fun (v28 : Int32) =>
          (if v28 = 0 then
            some s21
          else
            if nI k = (5 : Int32) then
              if v19 = 0 then
                (fX6_beginRow s21 (nI x)).bind fun s34 =>
                some s34
              else
                some s21
            else
              some s21).bind fun (s32 : Zr) =>
          (if v28 = 0 then
            some s32
          else
            (fX6_addName s32 x27).bind fun s37 =>
            some s37).bind fun (s35 : Zr) =>
          some (.inl (v28, v20 + (1 : Int32), s35)) : Option ((Int32 × Int32 × Zr) ⊕ Zr))) zFU ((0 : Int32), (0 : Int32), s))
      (fun s' => ∃ W', W ≤ W' ∧ W' ≤ W + r.length ∧ BL s' x f (prS k P R r r.length) W' ∧ rOnly (sBl x f W0) s0 s') := by
  have r6 := rok.1
  refine zS.mid (fun j y s' => ∃ W', W ≤ W' ∧ W' ≤ W + j ∧ BL s' x f (prS k P R r j) W' ∧ rOnly (sBl x f W0) s0 s' ∧ (k = 5 → isB y ((cuS P R r j).2 ≠ []))) 0 r.length (fun j y s' _ hj hJ => ?_) (fun y s' hJ => ?_) (Nat.zero_le _) (by omega) ⟨W, Nat.le_refl _, Nat.le_refl _, h, o, fun _ => isB.f (fun z => z rfl)⟩
  · obtain ⟨W', w1, w2, B, o', fl⟩ := hJ
    have pl := prS_len (k := k) (P := P) (R := R) (r := r) h3 j (by omega)
    obtain ⟨pn, pp⟩ := prS_s (k := k) (P := P) (R := R) (r := r) hj h3
    have v12 := rok.2 j hj
    dsimp only
    rw [rd34 (by omega), Option.bind_some, o' 34 u (by omega), e34, if_neg (nI_nle' (by omega) hj), rd33 (by omega), Option.bind_some, o' 33 u (by omega), e33, nI_add, rd35 (by omega), Option.bind_some, o' 35 (g + j) (by omega), e35 j hj]
    refine zS.b (hP s' o' _ v12) (fun y' hy' => ?_)
    have cu := cuS_s (P := P) (R := R) hj
    by_cases c : y' = 0
    · have np := hy'.n c
      rw [if_pos c, Option.bind_some, if_pos c, Option.bind_some]
      refine zS.s (Or.inl ⟨y', s', by rw [nI_1], W', w1, by omega, by rw [pn np]; exact B, o', fun k5 => hy'.c ⟨fun z => (np z).elim, fun z => ?_⟩⟩)
      rw [cu] at z
      unfold stS at z
      rw [if_neg (fun w => np (cB_t.mp w))] at z
      by_cases e : (cuS P R r j).2 = []
      · rw [if_pos e] at z; exact (z rfl).elim
      · rw [if_neg e] at z; exact (z rfl).elim
    · have p := hy'.p c
      have fl' : k = 5 → isB y' ((cuS P R r (j + 1)).2 ≠ []) := fun _ => hy'.c ⟨fun _ => by
        rw [cu]
        unfold stS
        rw [if_pos (cB_t.mpr p)]
        simp, fun _ => p⟩
      rw [if_neg c]
      rcases pp p with ⟨k5, cn, e⟩ | ⟨k5, A, q, e1, e2⟩
      · have y0 : y = 0 := ((fl k5).2).mpr (fun z => z cn)
        subst k5
        obtain ⟨s2, f1, f2, f3⟩ := rbegr_eq hx B (by omega)
        obtain ⟨s3, t1, t2, t3⟩ := raddn_eq (v := r.getD j 0) f2 (by omega) (by omega)
        rw [if_pos (show nI 5 = (5 : Int32) from rfl), if_pos y0, f1, Option.bind_some, Option.bind_some, if_neg c, t1, Option.bind_some, Option.bind_some]
        refine zS.s (Or.inl ⟨y', s3, by rw [nI_1], W' + 1, by omega, by omega, by rw [e]; exact t2, (o'.tr (f3.mono (fun a k z => by omega))).tr (t3.mono (fun a k z => by omega)), fl'⟩)
      · rw [e1] at B
        have la : A.length + 1 ≤ R.length + 1 + j := by
          rw [e1, List.length_append] at pl
          exact pl
        obtain ⟨s3, t1, t2, t3⟩ := raddn_eq (v := r.getD j 0) B (by omega) (by omega)
        have st : (if nI k = (5 : Int32) then (if y = 0 then (fX6_beginRow s' (nI x)).bind fun s34 => some s34 else some s') else some s') = some s' := by
          by_cases k5' : k = 5
          · have y1 : ¬ y = 0 := fun z => (fl k5').n z (k5 k5')
            subst k5'
            rw [if_pos (show nI 5 = (5 : Int32) from rfl), if_neg y1]
          · rw [if_neg (show ¬ nI k = (5 : Int32) from fun z => k5' ((nI_eq (b := 5) (by omega) (by omega)).mp z))]
        rw [st, Option.bind_some, if_neg c, t1, Option.bind_some, Option.bind_some]
        refine zS.s (Or.inl ⟨y', s3, by rw [nI_1], W' + 1, by omega, by omega, by rw [e2]; exact t2, o'.tr (t3.mono (fun a k z => by omega)), fl'⟩)
  · obtain ⟨W', w1, w2, B, o', fl⟩ := hJ
    dsimp only
    rw [rd34 (by omega), Option.bind_some, o' 34 u (by omega), e34, if_pos (nI_le (Nat.le_refl _) (by omega))]
    exact zS.s ⟨_, rfl, W', w1, w2, B, o'⟩
