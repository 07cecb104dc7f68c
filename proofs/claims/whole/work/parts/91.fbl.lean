/-! found on the reference's side: rows are written for a node -/
def RW (s : Zr) (f : Nat) (l : Rw) (W : Nat) : Prop := ∀ i, i < l.length → ∃ g, s 33 (f + i) = nI g ∧ s 34 (f + i) = nI (l.getD i []).length ∧ g + (l.getD i []).length ≤ W ∧ (i + 1 = l.length → g + (l.getD i []).length = W) ∧ ∀ j, j < (l.getD i []).length → s 35 (g + j) = nI ((l.getD i []).getD j 0)
theorem RW.row {s : Zr} {f W : Nat} {l : Rw} (h : RW s f l W) (hW : W ≤ 12000) : rRow s f l := fun i hi => by
  obtain ⟨g, h1, h2, h3, -, h5⟩ := h i hi
  exact ⟨g, h1, h2, by omega, h5⟩
/-- where rows of a new node x are written: rows from f, names from W -/
abbrev sBl (x f W a k : Nat) : Prop := (a = 0 ∧ (k = 42 ∨ k = 45)) ∨ ((a = 31 ∨ a = 32) ∧ k = x) ∨ ((a = 33 ∨ a = 34) ∧ f ≤ k) ∨ (a = 35 ∧ W ≤ k)
def BL (s : Zr) (x f : Nat) (l : Rw) (W : Nat) : Prop := s 31 x = nI f ∧ s 32 x = nI l.length ∧ s 0 42 = nI (f + l.length) ∧ s 0 45 = nI W ∧ RW s f l W
theorem rbegl_eq {s : Zr} {x f W : Nat} (hx : x < 200) (h42 : s 0 42 = nI f) (h45 : s 0 45 = nI W) : ∃ s', fX6_beginLog s (nI x) = some s' ∧ BL s' x f [] W ∧ rOnly (sBl x f W) s s' := by
  unfold fX6_beginLog
  rw [h42, wr31 hx, Option.bind_some, wr32 hx, Option.bind_some]
  refine ⟨_, rfl, ⟨?_, u2_s, ?_, ?_, fun i hi => absurd hi (Nat.not_lt_zero _)⟩, (rOnly.u (by omega)).tr (rOnly.u (by omega))⟩
  · rw [u2_a (by decide), u2_s]
  · rw [u2_a (by decide), u2_a (by decide)]; exact h42
  · rw [u2_a (by decide), u2_a (by decide)]; exact h45
theorem rbegr_eq {s : Zr} {x f W : Nat} {l : Rw} (hx : x < 200) (h : BL s x f l W) (hf : f + l.length < 12000) : ∃ s', fX6_beginRow s (nI x) = some s' ∧ BL s' x f (l ++ [[]]) W ∧ rOnly (sBl x f W) s s' := by
  obtain ⟨h1, h2, h3, h4, h5⟩ := h
  have el : (l ++ [[]]).length = l.length + 1 := by rw [List.length_append]; rfl
  unfold fX6_beginRow
  rw [h3, h4, wr33 hf, Option.bind_some, u2_a (by decide), h3, wr34 hf, Option.bind_some, Option.bind_some, rd32 hx, Option.bind_some, wr32 hx, Option.bind_some]
  refine ⟨_, rfl, ⟨?_, ?_, ?_, ?_, fun i hi => ?_⟩, (((rOnly.u (by omega)).tr (rOnly.u (by omega))).tr (rOnly.u (by omega))).tr (rOnly.u (by omega))⟩
  · rw [u2_a (by decide), u2_a (by decide), u2_a (by decide), u2_a (by decide)]; exact h1
  · rw [u2_s, u2_a (by decide), u2_a (by decide), u2_a (by decide), h2, nI_1, el]
  · rw [u2_a (by decide), u2_s, u2_a (by decide), u2_a (by decide), h3, nI_1, el, Nat.add_assoc]
  · rw [u2_a (by decide), u2_n (by omega), u2_a (by decide), u2_a (by decide)]; exact h4
  · rw [el] at hi
    rw [u2_a (by decide), u2_a (by decide), u2_a (by decide)]
    by_cases c : i = l.length
    · subst c
      have e : (l ++ [[]]).getD l.length [] = ([] : List Nat) := by rw [List.getD_eq_getElem?_getD, List.getElem?_append_right (Nat.le_refl _), Nat.sub_self]; rfl
      rw [e, u2_s]
      refine ⟨W, rfl, ?_, by show W + 0 ≤ W; omega, fun _ => rfl, fun j hj => absurd hj (Nat.not_lt_zero _)⟩
      rw [u2_a (by decide), u2_a (by decide), u2_s]; rfl
    · have hi' : i < l.length := by omega
      have e : (l ++ [[]]).getD i [] = l.getD i [] := by rw [List.getD_eq_getElem?_getD, List.getD_eq_getElem?_getD, List.getElem?_append_left hi']
      obtain ⟨g, g1, g2, g3, -, g5⟩ := h5 i hi'
      rw [e]
      refine ⟨g, ?_, ?_, g3, fun z => by rw [el] at z; omega, fun j hj => ?_⟩
      · rw [u2_n (by omega)]; exact g1
      · rw [u2_a (by decide), u2_a (by decide), u2_n (by omega), u2_a (by decide)]; exact g2
      · rw [u2_a (by decide), u2_a (by decide), u2_a (by decide), u2_a (by decide)]; exact g5 j hj
theorem raddn_eq {s : Zr} {x f W v : Nat} {l : Rw} {r : List Nat} (h : BL s x f (l ++ [r]) W) (hW : W < 12000) (hf : f + l.length < 12000) : ∃ s', fX6_addName s (nI v) = some s' ∧ BL s' x f (l ++ [r ++ [v]]) (W + 1) ∧ rOnly (fun a k => (a = 0 ∧ k = 45) ∨ (a = 35 ∧ k = W) ∨ (a = 34 ∧ k = f + l.length)) s s' := by
  obtain ⟨h1, h2, h3, h4, h5⟩ := h
  have el : ∀ q : List Nat, (l ++ [q]).length = l.length + 1 := fun q => by rw [List.length_append]; rfl
  have eg : ∀ q : List Nat, (l ++ [q]).getD l.length [] = q := fun q => by rw [List.getD_eq_getElem?_getD, List.getElem?_append_right (Nat.le_refl _), Nat.sub_self]; rfl
  have eo : ∀ (q : List Nat) (i : Nat), i < l.length → (l ++ [q]).getD i [] = l.getD i [] := fun q i hi => by rw [List.getD_eq_getElem?_getD, List.getD_eq_getElem?_getD, List.getElem?_append_left hi]
  rw [el] at h2 h3
  obtain ⟨g, g1, g2, g3, g4, g5⟩ := h5 l.length (by rw [el]; omega)
  rw [eg] at g2 g3 g4 g5
  have g4 := g4 (by rw [el])
  have ep : nI (f + (l.length + 1)) - (1 : Int32) = nI (f + l.length) := nI_pred (f + l.length)
  unfold fX6_addName
  rw [h4, wr35 hW, Option.bind_some, Option.bind_some, u2_n (a := 0) (by omega), u2_a (a := 35) (b := 0) (by decide), u2_a (a := 35) (b := 0) (by decide), h4, h3, ep, rd34 hf, Option.bind_some, u2_a (by decide), u2_a (by decide), g2, wr34 hf, Option.bind_some]
  refine ⟨_, rfl, ⟨?_, ?_, ?_, ?_, fun i hi => ?_⟩, ((rOnly.u (by omega)).tr (rOnly.u (by omega))).tr (rOnly.u (by omega))⟩
  · rw [u2_a (by decide), u2_a (by decide), u2_a (by decide)]; exact h1
  · rw [u2_a (by decide), u2_a (by decide), u2_a (by decide), h2, el]
  · rw [u2_a (by decide), u2_n (by omega), u2_a (by decide), h3, el]
  · rw [u2_a (by decide), u2_s, nI_1]
  · rw [el] at hi
    by_cases c : i = l.length
    · subst c
      rw [eg]
      have el2 : (r ++ [v]).length = r.length + 1 := by rw [List.length_append]; rfl
      refine ⟨g, ?_, ?_, by rw [el2]; omega, fun _ => by rw [el2]; omega, fun j hj => ?_⟩
      · rw [u2_a (by decide), u2_a (by decide), u2_a (by decide)]; exact g1
      · rw [u2_s, el2, nI_1]
      · rw [el2] at hj
        rw [u2_a (by decide), u2_a (by decide)]
        by_cases d : j = r.length
        · subst d
          rw [g4, u2_s, List.getD_eq_getElem?_getD, List.getElem?_append_right (Nat.le_refl _), Nat.sub_self]; rfl
        · rw [u2_n (by omega), g5 j (by omega), List.getD_eq_getElem?_getD, List.getD_eq_getElem?_getD, List.getElem?_append_left (by omega)]
    · have hi' : i < l.length := by omega
      obtain ⟨g', q1, q2, q3, -, q5⟩ := h5 i (by rw [el]; omega)
      rw [eo _ _ hi'] at q2 q3 q5
      rw [eo _ _ hi']
      refine ⟨g', ?_, ?_, by omega, fun z => by rw [el] at z; omega, fun j hj => ?_⟩
      · rw [u2_a (by decide), u2_a (by decide), u2_a (by decide)]; exact q1
      · rw [u2_n (by omega), u2_a (by decide), u2_a (by decide)]; exact q2
      · rw [u2_a (by decide), u2_a (by decide), u2_n (by omega)]; exact q5 j hj
