/-! one piece more -/
def pAdd (p : Mp) (k : Nat) (x : Int32) (l : List Nat) : Mp := (pn p + 1, m1 (pkd p) (pn p) k, m1 (pnm p) (pn p) x, m1 (ppt p) (pn p) l, m1 (psz p) (pn p) (1 + pSum (psz p) l))
theorem m1_s {α : Type} {f : Nat → α} {a : Nat} {v : α} : m1 f a v a = v := if_pos rfl
theorem m1_n {α : Type} {f : Nat → α} {a b : Nat} {v : α} (h : b ≠ a) : m1 f a v b = f b := if_neg h
theorem pAdd_all {p : Mp} {k : Nat} {x : Int32} {l : List Nat} : ∀ q, q ≤ pn p → pAll (pAdd p k x l) q = pAll p q
  | 0, _ => by show (0 : Nat) = 0; rfl
  | q + 1, h => by
    show pAll (pAdd p k x l) q + (m1 (ppt p) (pn p) l q).length = pAll p q + (ppt p q).length
    rw [pAdd_all q (by omega), m1_n (by omega)]
theorem pAdd_all1 {p : Mp} {k : Nat} {x : Int32} {l : List Nat} : pAll (pAdd p k x l) (pn p + 1) = pAll p (pn p) + l.length := by
  show pAll (pAdd p k x l) (pn p) + (m1 (ppt p) (pn p) l (pn p)).length = _
  rw [pAdd_all (pn p) (Nat.le_refl _), m1_s]
abbrev sPc (a k : Nat) : Prop := (a = 0 ∧ (k = 7 ∨ k = 13)) ∨ (7 ≤ a ∧ a ≤ 12)
theorem rnewp_eq {s : Zr} {p : Mp} (h : rPc s p) (hn : pn p < 200) (k : Nat) (x : Int32) : ∃ s', fX6_newPiece s (nI k) x = some (nI (pn p), s') ∧ rPc s' (pAdd p k x []) ∧ rOnly sPc s s' := by
  unfold fX6_newPiece
  rw [h.1, Option.bind_some, wr7 hn, Option.bind_some, wr8 hn, Option.bind_some, wr9 hn, Option.bind_some, wr10 hn, Option.bind_some, wr11 hn, Option.bind_some]
  refine ⟨_, rfl, ⟨?_, ?_, fun q hq => ?_⟩, ?_⟩
  · rw [u2_a (by decide), u2_a (by decide), u2_a (by decide), u2_a (by decide), u2_a (by decide), u2_s, nI_1]; rfl
  · rw [u2_a (by decide), u2_a (by decide), u2_a (by decide), u2_a (by decide), u2_a (by decide), u2_n (by decide), h.2.1]
    have e : pAll (pAdd p k x []) (pn p + 1) = pAll p (pn p) := pAdd_all1
    exact congrArg nI e.symm
  · have hq' : q < pn p + 1 := hq
    by_cases e : q = pn p
    · subst e
      refine ⟨?_, ?_, ?_, ?_, ?_, fun j hj => ?_⟩
      · rw [u2_a (by decide), u2_a (by decide), u2_a (by decide), u2_a (by decide), u2_s]; exact congrArg nI m1_s.symm
      · rw [u2_a (by decide), u2_a (by decide), u2_a (by decide), u2_s]; exact m1_s.symm
      · rw [u2_a (by decide), u2_a (by decide), u2_s, u2_a (by decide), u2_a (by decide), u2_n (by decide), h.2.1]
        exact congrArg nI (pAdd_all _ (Nat.le_refl _)).symm
      · rw [u2_a (by decide), u2_s]
        exact congrArg nI (congrArg List.length (m1_s (f := ppt p) (a := pn p) (v := []))).symm
      · rw [u2_s]; exact congrArg nI (m1_s (f := psz p) (a := pn p) (v := 1 + pSum (psz p) [])).symm
      · have : (ppt (pAdd p k x []) (pn p)).length = 0 := congrArg List.length (m1_s (f := ppt p) (a := pn p) (v := []))
        omega
    · obtain ⟨v1, v2, v3, v4, v5, v6⟩ := h.2.2 q (by omega)
      have ek : pkd (pAdd p k x []) q = pkd p q := m1_n e
      have en : pnm (pAdd p k x []) q = pnm p q := m1_n e
      have et : ppt (pAdd p k x []) q = ppt p q := m1_n e
      have ez : psz (pAdd p k x []) q = psz p q := m1_n e
      rw [ek, en, et, ez, pAdd_all q (by omega)]
      refine ⟨?_, ?_, ?_, ?_, ?_, fun j hj => ?_⟩
      · rw [u2_a (by decide), u2_a (by decide), u2_a (by decide), u2_a (by decide), u2_n (by omega), u2_a (by decide)]; exact v1
      · rw [u2_a (by decide), u2_a (by decide), u2_a (by decide), u2_n (by omega), u2_a (by decide), u2_a (by decide)]; exact v2
      · rw [u2_a (by decide), u2_a (by decide), u2_n (by omega), u2_a (by decide), u2_a (by decide), u2_a (by decide)]; exact v3
      · rw [u2_a (by decide), u2_n (by omega), u2_a (by decide), u2_a (by decide), u2_a (by decide), u2_a (by decide)]; exact v4
      · rw [u2_n (by omega), u2_a (by decide), u2_a (by decide), u2_a (by decide), u2_a (by decide), u2_a (by decide)]; exact v5
      · rw [u2_a (by decide), u2_a (by decide), u2_a (by decide), u2_a (by decide), u2_a (by decide), u2_a (by decide)]; exact v6 j hj
  · exact (((((rOnly.u (Or.inl ⟨rfl, Or.inl rfl⟩)).tr (rOnly.u (Or.inr ⟨by omega, by omega⟩))).tr (rOnly.u (Or.inr ⟨by omega, by omega⟩))).tr (rOnly.u (Or.inr ⟨by omega, by omega⟩))).tr (rOnly.u (Or.inr ⟨by omega, by omega⟩))).tr (rOnly.u (Or.inr ⟨by omega, by omega⟩))
theorem getD_app1 : ∀ (l : List Nat) (j i : Nat), i < l.length → (l ++ [j]).getD i 0 = l.getD i 0
  | [], _, _, h => absurd h (Nat.not_lt_zero _)
  | _ :: _, _, 0, _ => rfl
  | _ :: l, j, i + 1, h => getD_app1 l j i (Nat.lt_of_succ_lt_succ h)
theorem getD_app2 : ∀ (l : List Nat) (j : Nat), (l ++ [j]).getD l.length 0 = j
  | [], _ => rfl
  | _ :: l, j => getD_app2 l j
theorem raddp_eq {s : Zr} {p : Mp} {k : Nat} {x : Int32} {l : List Nat} (h : rPc s (pAdd p k x l)) (hn : pn p < 200) (hA : pAll p (pn p) + l.length < 12000) {j : Nat} (hj : j < pn p) : ∃ s', fX6_addPart s (nI (pn p)) (nI j) = some s' ∧ rPc s' (pAdd p k x (l ++ [j])) ∧ rOnly sPc s s' := by
  have h13 : s 0 13 = nI (pAll p (pn p) + l.length) := h.2.1.trans (congrArg nI pAdd_all1)
  have nw : pn p < pn (pAdd p k x l) := Nat.lt_succ_self _
  obtain ⟨v1, v2, v3, v4, v5, v6⟩ := h.2.2 (pn p) nw
  have old : ∀ q, q < pn p → q < pn (pAdd p k x l) := fun q hq => Nat.lt_succ_of_lt hq
  obtain ⟨w1, w2, w3, w4, w5, w6⟩ := h.2.2 j (old j hj)
  have ek : pkd (pAdd p k x l) (pn p) = k := m1_s
  have en : pnm (pAdd p k x l) (pn p) = x := m1_s
  have et : ppt (pAdd p k x l) (pn p) = l := m1_s
  have ez : psz (pAdd p k x l) (pn p) = 1 + pSum (psz p) l := m1_s
  rw [pAdd_all (pn p) (Nat.le_refl _)] at v3 v6
  rw [ek] at v1
  rw [en] at v2
  rw [et] at v4 v6
  rw [ez] at v5
  have ezj : psz (pAdd p k x l) j = psz p j := m1_n (by omega)
  rw [ezj] at w5
  unfold fX6_addPart
  rw [h13, wr12 hA, Option.bind_some, Option.bind_some, rd10 hn, Option.bind_some, wr10 hn, Option.bind_some, rd11 hn, Option.bind_some, rd11 (by omega), Option.bind_some, wr11 hn, Option.bind_some]
  refine ⟨_, rfl, ⟨?_, ?_, fun q hq => ?_⟩, ?_⟩
  · rw [u2_a (by decide), u2_a (by decide), u2_n (by decide), u2_a (by decide)]; exact h.1
  · rw [u2_a (by decide), u2_a (by decide), u2_s, u2_a (by decide), h13, nI_1]
    have e : pAll (pAdd p k x (l ++ [j])) (pn p + 1) = pAll p (pn p) + l.length + 1 := by rw [pAdd_all1, List.length_append]; rfl
    exact congrArg nI e.symm
  · have hq' : q < pn p + 1 := hq
    by_cases e : q = pn p
    · subst e
      have et' : ppt (pAdd p k x (l ++ [j])) (pn p) = l ++ [j] := m1_s
      have ez' : psz (pAdd p k x (l ++ [j])) (pn p) = 1 + pSum (psz p) (l ++ [j]) := m1_s
      rw [show pkd (pAdd p k x (l ++ [j])) (pn p) = k from m1_s, show pnm (pAdd p k x (l ++ [j])) (pn p) = x from m1_s, et', ez', pAdd_all (pn p) (Nat.le_refl _), List.length_append]
      refine ⟨?_, ?_, ?_, ?_, ?_, fun i hi => ?_⟩
      · rw [u2_a (by decide), u2_a (by decide), u2_a (by decide), u2_a (by decide)]; exact v1
      · rw [u2_a (by decide), u2_a (by decide), u2_a (by decide), u2_a (by decide)]; exact v2
      · rw [u2_a (by decide), u2_a (by decide), u2_a (by decide), u2_a (by decide)]; exact v3
      · rw [u2_a (by decide), u2_s, u2_a (by decide), u2_a (by decide), v4, nI_1]; rfl
      · rw [u2_s, u2_a (by decide), u2_a (by decide), u2_a (by decide), u2_a (by decide), u2_a (by decide), u2_a (by decide), v5, w5, nI_add, pSum_app, Nat.add_assoc]
      · rw [u2_a (by decide), u2_a (by decide), u2_a (by decide)]
        by_cases z : i = l.length
        · subst z
          rw [u2_s, getD_app2]
        · have hi' : i < l.length := by
            have : i < l.length + 1 := hi
            omega
          rw [u2_n (by omega), getD_app1 _ _ _ hi']; exact v6 i hi'
    · obtain ⟨a1, a2, a3, a4, a5, a6⟩ := h.2.2 q (old q (by omega))
      have ek1 : pkd (pAdd p k x l) q = pkd p q := m1_n e
      have en1 : pnm (pAdd p k x l) q = pnm p q := m1_n e
      have et1 : ppt (pAdd p k x l) q = ppt p q := m1_n e
      have ez1 : psz (pAdd p k x l) q = psz p q := m1_n e
      rw [pAdd_all q (by omega)] at a3 a6
      rw [ek1] at a1
      rw [en1] at a2
      rw [et1] at a4 a6
      rw [ez1] at a5
      rw [show pkd (pAdd p k x (l ++ [j])) q = pkd p q from m1_n e, show pnm (pAdd p k x (l ++ [j])) q = pnm p q from m1_n e, show ppt (pAdd p k x (l ++ [j])) q = ppt p q from m1_n e, show psz (pAdd p k x (l ++ [j])) q = psz p q from m1_n e, pAdd_all q (by omega)]
      have mono : pAll p q + (ppt p q).length ≤ pAll p (pn p) := by
        have key : ∀ n, q + 1 ≤ n → pAll p (q + 1) ≤ pAll p n := by
          intro n
          induction n with
          | zero => intro z; omega
          | succ n ih =>
            intro z
            by_cases y : q = n
            · rw [y]; omega
            · have := ih (by omega)
              show _ ≤ pAll p n + (ppt p n).length
              omega
        exact key (pn p) (by omega)
      refine ⟨?_, ?_, ?_, ?_, ?_, fun i hi => ?_⟩
      · rw [u2_a (by decide), u2_a (by decide), u2_a (by decide), u2_a (by decide)]; exact a1
      · rw [u2_a (by decide), u2_a (by decide), u2_a (by decide), u2_a (by decide)]; exact a2
      · rw [u2_a (by decide), u2_a (by decide), u2_a (by decide), u2_a (by decide)]; exact a3
      · rw [u2_a (by decide), u2_n (by omega), u2_a (by decide), u2_a (by decide)]; exact a4
      · rw [u2_n (by omega), u2_a (by decide), u2_a (by decide), u2_a (by decide)]; exact a5
      · rw [u2_a (by decide), u2_a (by decide), u2_a (by decide), u2_n (by omega)]; exact a6 i hi
  · exact (((rOnly.u (Or.inr ⟨by omega, by omega⟩)).tr (rOnly.u (Or.inl ⟨rfl, Or.inr rfl⟩))).tr (rOnly.u (Or.inr ⟨by omega, by omega⟩))).tr (rOnly.u (Or.inr ⟨by omega, by omega⟩))
