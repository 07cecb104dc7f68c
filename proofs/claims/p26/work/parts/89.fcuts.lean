/-! found on the reference's side: reaching, ordering, the cuts -/
theorem zbo_B {x : Int32} {p : Prop} (h : isB x p) : zbo x = some x := by
  unfold zbo
  rw [if_pos h.1]
section RCH
variable {A R : Nat → Nat → Prop} {S : Nat → Prop}
theorem rPs.at (hA : ∀ a b, A a b → A b a) {s : Zr} (h : rPs A S s) {i : Nat} (hi : i < (rtL A S).length) : ∃ r, r < 12 ∧ isRt A S r ∧ s 41 i = nI r ∧ r = (rtL A S).getD i 0 := by
  have : (rtL A S).getD i 0 ∈ rtL A S := mem_gd.mp ⟨i, hi, rfl⟩
  obtain ⟨h1, h2⟩ := rtL_mem.mp this
  exact ⟨_, h1, h2, h.2.2 i hi, rfl⟩
theorem rtL_12 : (rtL A S).length ≤ 12 := by
  have := List.length_filter_le (fun v => cB (isRt A S v)) (List.range 12)
  rw [List.length_range] at this
  exact this
end RCH
/-! found: the parts put in order -/
section ORD
variable {R : Nat → Nat → Prop} {Pt : Nat → Nat → Prop} {val : Nat → Int32}
def OA (arr : Nat → Int32) (val : Nat → Int32) (acc : List Nat) : Prop := ∀ j, j < acc.length → arr (acc.length - 1 - j) = val (acc.getD j 0)
/-- m parts have moved to let x in -/
def OI (R : Nat → Nat → Prop) (Pt : Nat → Nat → Prop) (arr : Nat → Int32) (val : Nat → Int32) (acc : List Nat) (x m : Nat) : Prop := m ≤ acc.length ∧ (∀ j, j < m → arr (acc.length - j) = val (acc.getD j 0)) ∧ (∀ j, m ≤ j → j < acc.length → arr (acc.length - 1 - j) = val (acc.getD j 0)) ∧ insR R Pt x acc = acc.take m ++ insR R Pt x (acc.drop m)
theorem OI_0 {arr : Nat → Int32} {acc : List Nat} {x : Nat} (h : OA arr val acc) : OI R Pt arr val acc x 0 := ⟨Nat.zero_le _, fun _ z => absurd z (Nat.not_lt_zero _), fun j _ hj => h j hj, rfl⟩
theorem drop_gd {l : List Nat} {m : Nat} (h : m < l.length) : l.drop m = l.getD m 0 :: l.drop (m + 1) := mkR_drop h
theorem take_gd {l : List Nat} {m : Nat} (h : m < l.length) : l.take (m + 1) = l.take m ++ [l.getD m 0] := take_1 l m h
theorem OI_s {arr arr' : Nat → Int32} {acc : List Nat} {x m : Nat} (h : OI R Pt arr val acc x m) (hm : m < acc.length) (hr : rch R (Pt x) (Pt (acc.getD m 0))) (e : ∀ p, arr' p = if p = acc.length - m then arr (acc.length - m - 1) else arr p) : OI R Pt arr' val acc x (m + 1) := by
  obtain ⟨h1, h2, h3, h4⟩ := h
  refine ⟨hm, fun j hj => ?_, fun j hj hl => ?_, ?_⟩
  · rw [e]
    by_cases c : j = m
    · subst c
      rw [if_pos rfl, show acc.length - j - 1 = acc.length - 1 - j by omega]
      exact h3 j (Nat.le_refl _) hm
    · rw [if_neg (by omega)]
      exact h2 j (by omega)
  · rw [e, if_neg (by omega)]
    exact h3 j (by omega) hl
  · rw [h4, drop_gd hm, take_gd hm, List.append_assoc]
    congr 1
    show (if cB (rch R (Pt x) (Pt (acc.getD m 0))) = true then _ else _) = _
    rw [if_pos (cB_t.mpr hr)]
    rfl
theorem OI_e {arr arr' : Nat → Int32} {acc : List Nat} {x m : Nat} (h : OI R Pt arr val acc x m) (hm : m = acc.length ∨ (m < acc.length ∧ ¬ rch R (Pt x) (Pt (acc.getD m 0)))) (e : ∀ p, arr' p = if p = acc.length - m then val x else arr p) : OA arr' val (insR R Pt x acc) := by
  obtain ⟨h1, h2, h3, h4⟩ := h
  have e4 : insR R Pt x acc = acc.take m ++ x :: acc.drop m := by
    rw [h4]
    congr 1
    rcases hm with rfl | ⟨hm, hr⟩
    · rw [List.drop_length]; rfl
    · rw [drop_gd hm]
      show (if cB (rch R (Pt x) (Pt (acc.getD m 0))) = true then _ else _) = _
      rw [if_neg (fun z => hr (cB_t.mp z))]
  have el : (insR R Pt x acc).length = acc.length + 1 := (insR_perm acc).length_eq
  have lt : (acc.take m).length = m := by rw [List.length_take]; omega
  intro j hj
  rw [el] at hj ⊢
  rw [e, e4]
  rcases Nat.lt_trichotomy j m with c | c | c
  · rw [if_neg (by omega), show acc.length + 1 - 1 - j = acc.length - j by omega, h2 j c, List.getD_eq_getElem?_getD, List.getD_eq_getElem?_getD, List.getElem?_append_left (by omega), List.getElem?_take_of_lt c]
  · subst c
    rw [if_pos (by omega), List.getD_eq_getElem?_getD, List.getElem?_append_right (by omega), lt, Nat.sub_self]
    rfl
  · rw [if_neg (by omega), show acc.length + 1 - 1 - j = acc.length - 1 - (j - 1) by omega, h3 (j - 1) (by omega) (by omega), List.getD_eq_getElem?_getD, List.getD_eq_getElem?_getD, List.getElem?_append_right (by omega), lt, show j - m = (j - m - 1) + 1 by omega, List.getElem?_cons_succ, List.getElem?_drop, show m + (j - m - 1) = j - 1 by omega]
theorem OI_at {arr : Nat → Int32} {acc : List Nat} {x m : Nat} (h : OI R Pt arr val acc x m) (hm : m < acc.length) : arr (acc.length - m - 1) = val (acc.getD m 0) := by
  have := h.2.2.1 m (Nat.le_refl _) hm
  rw [show acc.length - m - 1 = acc.length - 1 - m by omega]
  exact this
end ORD
/-! found on the reference's side: to choice, row, beside -/
theorem isB_eq {x y : Int32} {p q : Prop} (h1 : isB x p) (h2 : isB y q) : x = y ↔ (p ↔ q) := by
  rcases h1.1 with rfl | rfl
  · have np := h1.n rfl
    rcases h2.1 with rfl | rfl
    · have nq := h2.n rfl
      exact ⟨fun _ => ⟨fun z => (np z).elim, fun z => (nq z).elim⟩, fun _ => rfl⟩
    · have hq := h2.p (by decide)
      exact ⟨fun z => absurd z (by decide), fun z => (np (z.2 hq)).elim⟩
  · have hp := h1.p (by decide)
    rcases h2.1 with rfl | rfl
    · have nq := h2.n rfl
      exact ⟨fun z => absurd z (by decide), fun z => (nq (z.1 hp)).elim⟩
    · have hq := h2.p (by decide)
      exact ⟨fun _ => ⟨fun _ => hq, fun _ => hp⟩, fun _ => rfl⟩
theorem OA_fw {arr : Nat → Int32} {val : Nat → Int32} {acc : List Nat} (h : OA arr val acc) {i : Nat} (hi : i < acc.reverse.length) : arr i = val (acc.reverse.getD i 0) := by
  rw [List.length_reverse] at hi
  have := h (acc.length - 1 - i) (by omega)
  rw [show acc.length - 1 - (acc.length - 1 - i) = i by omega] at this
  rw [this, getD_rev hi]
section CUTS
variable {s : Zr} {l : Rw}
theorem two_B {n : Nat} (h : n ≤ 12) : isB (if nI n ≤ (1 : Int32) then (0 : Int32) else 1) (1 < n) := by
  by_cases c : n ≤ 1
  · rw [if_pos (show nI n ≤ (1 : Int32) from nI_le (b := 1) c (by omega))]
    exact isB.f (by omega)
  · rw [if_neg (show ¬ nI n ≤ (1 : Int32) from nI_nle' (a := 1) (by omega) (by omega))]
    exact isB.t (by omega)
end CUTS
/-! found on the reference's side: to beside -/
theorem zS.gen {β σ ρ : Type} {f : σ → Option (σ ⊕ ρ)} (e : Nat → β → σ) (J : Nat → β → Prop) {P : ρ → Prop} (a N : Nat) {x0 : β}
    (hf : ∀ k x, a ≤ k → k < N → J k x → zS (f (e k x)) (fun q => (∃ x', q = .inl (e (k + 1) x') ∧ J (k + 1) x') ∨ ∃ r, q = .inr r ∧ P r))
    (hN : ∀ x, J N x → zS (f (e N x)) (fun q => ∃ r, q = .inr r ∧ P r)) (ha : a ≤ N) (hN' : N < 100000) (h0 : J a x0) : zS (zloop f zFU (e a x0)) P := by
  obtain ⟨r, er, p⟩ := zloop_inv (f := f) (fun (n : Nat) (s : σ) => ∃ k x, n = N - k ∧ a ≤ k ∧ k ≤ N ∧ s = e k x ∧ J k x) P (by
    rintro n s ⟨k, x, hn, hk0, hk, rfl, hJ⟩
    by_cases c : k = N
    · subst c
      obtain ⟨q, e1, r, e2, e3⟩ := hN x hJ
      exact Or.inr ⟨r, by rw [e1, e2], e3⟩
    · obtain ⟨q, e1, ⟨x', e2, e3⟩ | ⟨r, e2, e3⟩⟩ := hf k x hk0 (by omega) hJ
      · exact Or.inl ⟨_, N - (k + 1), by rw [e1, e2], by omega, k + 1, x', rfl, by omega, by omega, rfl, e3⟩
      · exact Or.inr ⟨r, by rw [e1, e2], e3⟩) (N - a) (e a x0) zFU ⟨a, x0, rfl, Nat.le_refl _, ha, rfl, h0⟩ (by rw [zFU_v]; omega)
  exact ⟨r, er, p⟩
section BES
variable {s : Zr} {l : Rw}
def bsR (l : Rw) (r : Nat) : Prop := (∃ v, CN (xA3 l) (xN l) r v ∧ xB l v) ∧ ∃ v, CN (xA3 l) (xN l) r v ∧ xE l v
end BES
/-! found on the reference's side: which parts go into the body -/
section GOES
variable {s : Zr} {l : Rw}
end GOES
