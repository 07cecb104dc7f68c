/-! found on the reference's side: a node is settled -/
theorem xNe_all {l : Rw} (h : ∀ r, r ∈ l → 0 < r.length) : xNe l = l := List.filter_eq_self.mpr (fun r hr => by
  have := h r hr
  cases r with
  | nil => exact absurd this (Nat.lt_irrefl _)
  | cons a r => rfl)
theorem xNe_eq {l : Rw} (h : ¬ (xNe l).length < l.length) : ∀ r, r ∈ l → 0 < r.length := by
  have e : xNe l = l := (List.filter_sublist (p := fun r : List Nat => !r.isEmpty) (l := l)).eq_of_length (by
    have := xNe_len l
    show (xNe l).length = l.length
    omega)
  intro r hr
  rw [← e] at hr
  exact List.length_pos_iff.mpr (xNe_mem.mp hr).2
theorem xNe_2 (l : Rw) : xNe (xNe l) = xNe l := xNe_all (fun _ hr => List.length_pos_iff.mpr (xNe_mem.mp hr).2)
theorem nm_0 {l : Rw} (ok : xOK l) : (nmL (xN l)).length = 0 ↔ (xNe l).length = 0 := by
  constructor
  · intro h
    by_cases c : (xNe l).length = 0
    · exact c
    · have := xNm_pos (xNe_ok ok) (xNe_nz c)
      have e : cN (xN (xNe l)) ≤ cN (xN l) := cN_le (fun v hv => xNe_N.mp hv)
      have e1 : cN (xN (xNe l)) = (nmL (xN (xNe l))).length := rfl
      have e2 : cN (xN l) = (nmL (xN l)).length := rfl
      omega
  · intro h
    have hn : ∀ v, ¬ xN l v := fun v hv => by
      obtain ⟨r, h1, h2⟩ := xN_mem.mp (xNe_N.mpr hv)
      have := List.length_pos_of_mem h1
      omega
    have : ∀ v, v ∉ nmL (xN l) := fun v hv => hn v (nmL_mem.mp hv).2
    exact List.length_eq_zero_iff.mpr (List.eq_nil_iff_forall_not_mem.mpr this)
theorem xFnd_0 {n : Nat} {l : Rw} (h : (xNe l).length = 0) : xFnd n l = .var 12 := by
  cases n with
  | zero => rfl
  | succ n => unfold xFnd; rw [if_pos h]
theorem xFnd_r {n : Nat} {l : Rw} (h : ¬ (xNe l).length = 0) (h2 : (xNe l).length < l.length) : xFnd (n + 1) l = tMk 14 [.var 12, xFnd (n + 1) (xNe l)] := by
  unfold xFnd
  rw [xNe_2, if_neg h, if_pos h2, if_neg h, if_neg (Nat.lt_irrefl _)]
theorem xFnd_f {n : Nat} {l : Rw} (h : ¬ (xNe l).length = 0) (h2 : ¬ (xNe l).length < l.length) : xFnd (n + 1) l = xFull n (xFnd n) l := by
  unfold xFnd
  rw [if_neg h, if_neg h2, xNe_all (xNe_eq h2)]
theorem part_lt {l : Rw} (ok : xOK l) (h0 : ∃ v, xB l v) (hk : (xCut l).1 ≠ 0) : ∀ P, P ∈ (xCut l).2 → cN P + 1 ≤ cN (xN l) := by
  obtain ⟨k1, k2, k3, k4, k5, k6⟩ := xCut_ok ok h0 hk
  intro P hP
  obtain ⟨A, B, e⟩ := List.append_of_mem hP
  have s1 := dsj_sum (S := xN l) _ k5 (fun Q hQ => (k6 Q hQ).2)
  rw [e, gS_app] at s1
  have s1' : gS cN A + (cN P + gS cN B) ≤ cN (xN l) := s1
  rw [e, List.length_append, List.length_cons] at k3
  have pos : ∀ C : List (Nat → Prop), (∀ Q, Q ∈ C → Q ∈ (xCut l).2) → C.length ≤ gS cN C := fun C hC => by
    have := gS_le (fun _ => 1) cN C (fun Q hQ => by
      obtain ⟨⟨v, v1, v2⟩, -⟩ := k6 Q (hC Q hQ)
      exact cN_pos v1 v2)
    rw [gS_one] at this
    exact this
  have a1 := pos A (fun Q hQ => by rw [e]; exact List.mem_append_left _ hQ)
  have a2 := pos B (fun Q hQ => by rw [e]; exact List.mem_append_right _ (List.mem_cons_of_mem _ hQ))
  omega
theorem mapP_gd {α β : Type} (f : α → β) (d : β) (d' : α) : ∀ (l : List α) (i : Nat), i < l.length → (l.map f).getD i d = f (l.getD i d')
  | [], _, h => absurd h (Nat.not_lt_zero _)
  | _ :: _, 0, _ => rfl
  | _ :: l, i + 1, h => mapP_gd f d d' l i (Nat.lt_of_succ_lt_succ h)
theorem gd_memP {α : Type} {d : α} : ∀ {l : List α} {i : Nat}, i < l.length → l.getD i d ∈ l
  | [], _, h => absurd h (Nat.not_lt_zero _)
  | _ :: _, 0, _ => List.mem_cons_self
  | _ :: _, i + 1, h => List.mem_cons_of_mem _ (gd_memP (Nat.lt_of_succ_lt_succ h))
/-- names of a row are together -/
theorem row_cn {l : Rw} {r : List Nat} (hr : r ∈ l) {p y : Nat} (hy : y ∈ r) : CN (xA1 l) (xN l) p y ↔ CN (xA1 l) (xN l) p (r.getD 0 0) := by
  have key : ∀ i, i < r.length → CN (xA1 l) (xN l) (r.getD 0 0) (r.getD i 0) := by
    intro i
    induction i with
    | zero => intro hi; exact CN.rf ⟨r, hr, 0, hi, rfl⟩
    | succ i ih => intro hi; exact (ih (by omega)).st ⟨r, hr, i + 1, hi, rfl⟩ (Or.inl ⟨r, hr, i, hi, rfl, rfl⟩)
  obtain ⟨i, h1, h2⟩ := mem_gd.mpr hy
  have k := key i h1
  rw [h2] at k
  exact ⟨fun c => c.tr (k.sy xA1_sy), fun c => c.tr k⟩
theorem se_fd {x N D F W a k : Nat} (z : sSe a k) : sFd x N D F W a k := by
  rcases z with z | z
  · exact Or.inr (Or.inr (Or.inl z))
  · exact Or.inr (Or.inr (Or.inr z))
theorem se_fi {a k : Nat} (z : sSe a k) : sFi a k := by
  rcases z with z | z
  · exact Or.inr (Or.inr ⟨by omega, by omega⟩)
  · exact Or.inl ⟨z.1, by omega⟩
theorem lp_fd {x N D F W a k : Nat} (z : sLp x N D a k) : sFd x N D F W a k := by
  refine Or.inl ?_
  rcases z with z | z | z | z | z
  · exact Or.inl ⟨z.1, by omega⟩
  · exact Or.inr (Or.inl z)
  · exact Or.inr (Or.inr (Or.inl z))
  · exact Or.inr (Or.inr (Or.inr (Or.inl z)))
  · exact Or.inr (Or.inr (Or.inr (Or.inr (Or.inl ⟨Or.inr z.1, z.2⟩))))
theorem fd_fi {x N D F W a k : Nat} (z : sFd x N D F W a k) : sFi a k := by
  rcases z with (z | z | z | z | z | z | z | z) | z | z | z <;> omega
theorem one_fd {x N D F W a k : Nat} (z : (a = 13 ∨ a = 14) ∧ k = x) : sFd x N D F W a k := by
  obtain ⟨z | z, rfl⟩ := z
  · exact Or.inl (Or.inr (Or.inr (Or.inl ⟨Or.inl z, rfl⟩)))
  · exact Or.inr (Or.inl ⟨z, rfl⟩)
theorem rset_cut {s s2 : Zr} {x N D F W n k b : Nat} {nt : Nat → Tr} {par : Nat → Nat} {l : Rw} {L : List Nat} {qs : List (Nat → Prop)} (J : fInv s x N D F W nt par) (hx : x < N) (hN : N ≤ 60) (ok : xOK l) (nz : xNz l) (pd : nPd s D F W x l) (cn : cN (xN l) ≤ n + 1) (o : rOnly sSe s s2) (hcut : xCut l = (k, qs)) (e : nt x = xFull n (xFnd n) l) (n1 : ¬ (nmL (xN l)).length = 1)
    (hq : qs.length = b + L.length) (hL : L.length ≤ 12) (h52 : s2 0 52 = nI L.length) (h41 : ∀ i, i < L.length → s2 41 i = nI (L.getD i 0) ∧ L.getD i 0 < 12 ∧ ∀ v, v < 12 → (s2 40 v = nI (L.getD i 0) ↔ qs.getD (b + i) (fun _ => False) v)) (hk : k = 2 ∨ k = 3 ∨ k = 4 ∨ k = 5) (hb : (k = 5 ∧ b = 1) ∨ (k ≠ 5 ∧ b = 0))
    (h3 : k = 3 → ∀ i, i < L.length → ∀ r, r ∈ l → 0 < r.length ∧ ∀ y, y ∈ r → (qs.getD (b + i) (fun _ => False) y ↔ qs.getD (b + i) (fun _ => False) (r.getD 0 0))) (h5 : k = 5 → ∀ v, v < 12 → isB (s2 44 v) (qs.getD 0 (fun _ => False) v)) :
    zS (fX6_cutNode s2 (nI x) (nI k)) (fun s' => fRes s s' x N nt) := by
  obtain ⟨⟨c1, c2, c3, c4⟩, ⟨b1, b2, b3, b4, b5, b6⟩, -, -, -⟩ := id J
  have h32 := pd.n1 ok
  obtain ⟨p1, p2, ⟨g0, p7, p8⟩, f0, p3, p4, p5, p6⟩ := pd
  have kc1 : (xCut l).1 = k := by rw [hcut]
  have kc2 : (xCut l).2 = qs := by rw [hcut]
  have k0 : (xCut l).1 ≠ 0 := by rw [kc1]; omega
  have plt := part_lt ok nz.b k0
  have c13 := (xCut_ok ok nz.b k0).2.2.2.1
  rw [kc2] at plt c13
  have n0 : ¬ n = 0 := fun z => by
    have h2 := xNm_pos ok nz
    have e2 : cN (xN l) = (nmL (xN l)).length := rfl
    omega
  have e' : nt x = tMk (11 + k) (qs.map fun P => xFnd n (xTake k P l)) := by
    rw [e]
    unfold xFull
    rw [if_neg n1, if_neg (fun z => z.elim k0 n0), kc1, kc2]
  refine zS.m (rcutn_eq (s := s2) (l := l) (x := x) (f0 := f0) (N := N) (D := D) (F := F) (W := W) (k := k) (b := b) (L := L) (Q := fun j => qs.getD j (fun _ => False)) ok hx hN b2 b3 b4 (by rw [o 0 15 (by omega)]; exact c1) (by rw [o 0 20 (by omega)]; exact c2) (by rw [o 0 42 (by omega)]; exact c3) (by rw [o 0 45 (by omega)]; exact c4) (by rw [o 16 x (by omega)]; exact p2) (by rw [o 31 x (by omega)]; exact p3) (by rw [o 32 x (by omega)]; exact p4) p5 (p6.on o (fun k _ => ⟨by omega, by omega⟩) (fun k _ => by omega) (Nat.le_refl _)) hL h52 h41 hk hb h3 h5) (fun s' hs' => ?_)
  obtain ⟨⟨q1, q2, q3, q4⟩, q5, q6, ⟨F', W', r1, r2, r3, r4, r5⟩, q8⟩ := hs'
  have len : (qs.map fun P => xFnd n (xTake k P l)).length = b + L.length := by rw [List.length_map]; exact hq
  rw [← len] at q3 q4 q5 q6 r3 r4 r5
  refine fRes_kids (F' := F') (W' := W') (lab := 11 + k) J hx hN h32 ((o.mono (fun a k z => se_fd z)).tr (q8.mono (fun a k z => Or.inl z))) (by omega) (by omega) (by rw [q1, Nat.add_sub_cancel_left]) (by rw [q8 14 x (by omega), o 14 x (by omega)]; exact p1) q2 q3 q4 q5 q6 r1 r2 r3 r4 e' (fun j hj => Or.inr ?_)
  have hj' : j < qs.length := by rw [List.length_map] at hj; exact hj
  refine ⟨xTake k (qs.getD j (fun _ => False)) l, n, (xTake_ok ok).1, (r5 j hj).on (rOnly.rf (S := fun _ _ => False)) ⟨id, id, id, id, id⟩ (fun _ _ => ⟨id, id⟩) (fun _ _ => id) (Nat.le_add_right _ _) (Nat.le_refl _) (Nat.le_refl _), ?_, mapP_gd _ _ _ _ _ hj'⟩
  have := plt _ (gd_memP (d := fun _ => False) hj')
  have := cN_take (k := k) (P := qs.getD j (fun _ => False)) ok
  omega
theorem nmL_1 {S : Nat → Prop} (h : (nmL S).length = 1) {v : Nat} (hv : v < 12) (hs : S v) : v = (nmL S).getD 0 0 := by
  obtain ⟨i, h1, h2⟩ := mem_gd.mpr (nmL_mem.mpr ⟨hv, hs⟩)
  have : i = 0 := by omega
  subst this
  exact h2.symm
theorem rset_one {s s2 : Zr} {x N D F W n : Nat} {nt : Nat → Tr} {par : Nat → Nat} {l : Rw} {b : Int32} (J : fInv s x N D F W nt par) (hx : x < N) (hN : N ≤ 60) (ok : xOK l) (nz : xNz l) (pd : nPd s D F W x l) (o : rOnly sSe s s2) (e : nt x = xFull n (xFnd n) l) (n1 : (nmL (xN l)).length = 1) (hb : isB b (∀ i, i < l.length → (l.getD i []).length = 1)) :
    zS (fX6_one s2 (nI x) (nI ((nmL (xN l)).getD 0 0)) b) (fun s' => fRes s s' x N nt) := by
  obtain ⟨⟨c1, c2, c3, c4⟩, ⟨b1, b2, b3, b4, b5, b6⟩, -, -, p⟩ := id J
  have h32 := pd.n1 ok
  obtain ⟨p1, p2, ⟨g0, p7, p8⟩, f0, p3, p4, p5, p6⟩ := pd
  have v12 := (nmL_one n1).1
  generalize hv : (nmL (xN l)).getD 0 0 = v at v12
  have sg : (∀ i, i < l.length → (l.getD i []).length = 1) ↔ ¬ ∃ r, r ∈ l ∧ 1 < r.length := by
    constructor
    · rintro h ⟨r, h1, h2⟩
      obtain ⟨i, h3, h4⟩ := List.getElem_of_mem h1
      have := h i h3
      rw [List.getD_eq_getElem?_getD, List.getElem?_eq_getElem h3] at this
      have : l[i].length = 1 := this
      rw [h4] at this; omega
    · intro h i hi
      have m : l.getD i [] ∈ l := gd_memP hi
      have := nz.1 _ m
      by_cases c : 1 < (l.getD i []).length
      · exact (h ⟨_, m, c⟩).elim
      · omega
  have e1 : nt x = xOne l := by rw [e]; unfold xFull; rw [if_pos n1]
  have kv : tKd v = 0 ∧ tNm v = nI v := ⟨if_pos v12, if_pos v12⟩
  refine zS.m (rone_eq (s := s2) (x := x) (N := N) (D := D) (y := nI v) hx hN b2 (by rw [o 0 15 (by omega)]; exact c1) (by rw [o 0 20 (by omega)]; exact c2) (by rw [o 16 x (by omega)]; exact p2) hb) (fun s' hs' => ?_)
  by_cases c : ∀ i, i < l.length → (l.getD i []).length = 1
  · obtain ⟨d1, d2, d3⟩ := hs'.1 c
    have e2 : nt x = .var v := by rw [e1]; unfold xOne; rw [if_neg (fun z => sg.mp c (cB_t.mp z)), hv]
    have o2 : rOnly (sFd x N D F W) s s' := (o.mono (fun a k z => se_fd z)).tr (d3.mono (fun a k z => one_fd z))
    refine ⟨N, D, F, W, nt, par, ?_, Nat.le_refl _, rfl, o2.mono (fun a k z => fd_fi z)⟩
    refine J.step hx h32 o2 ⟨?_, ?_, ?_, ?_⟩ ⟨Nat.le_refl _, b6⟩ ⟨Nat.le_refl _, b2⟩ ⟨Nat.le_refl _, b3⟩ ⟨Nat.le_refl _, b4⟩ (fun _ _ => rfl) (fun _ _ => rfl) p ?_ (fun y h1 h2 => by omega) ?_
    · rw [d3 0 15 (by omega), o 0 15 (by omega)]; exact c1
    · rw [d3 0 20 (by omega), o 0 20 (by omega)]; exact c2
    · rw [d3 0 42 (by omega), o 0 42 (by omega)]; exact c3
    · rw [d3 0 45 (by omega), o 0 45 (by omega)]; exact c4
    · unfold fDn
      rw [e2]
      refine ⟨by rw [d1]; exact congrArg nI kv.1.symm, d2.trans kv.2.symm, ?_, g0, N, ?_, ⟨p8, hx, Nat.le_refl _⟩, fun j hj => absurd (show j < 0 from hj) (Nat.not_lt_zero _)⟩
      · rw [d3 16 x (by omega), o 16 x (by omega), p2]; exact nI_0.symm
      · rw [d3 15 x (by omega), o 15 x (by omega)]; exact p7
    · rw [Nat.sub_self, e2]; rfl
  · obtain ⟨⟨d1, d2, d3, d4⟩, d5, d6, d7, d8, d9⟩ := hs'.2 c
    have e2 : nt x = tMk 16 [.var v, .var 12] := by rw [e1]; unfold xOne; rw [if_pos (cB_t.mpr (Classical.not_not.mp (fun z => c (sg.mpr z)))), hv]
    refine fRes_kids (F' := F) (W' := W) (lab := 16) (Lk := [.var v, .var 12]) J hx hN h32 ((o.mono (fun a k z => se_fd z)).tr (d9.mono (fun a k z => lp_fd z))) (by omega) (by show 2 ≤ 13; omega) d1 (by rw [d9 14 x (by omega), o 14 x (by omega)]; exact p1) d2 d3 d4 d5 d6 ?_ ?_ ⟨Nat.le_refl _, Nat.le_add_right _ _⟩ ⟨Nat.le_refl _, Nat.le_add_right _ _⟩ e2 (fun j hj => Or.inl ?_)
    · rw [d9 0 42 (by omega), o 0 42 (by omega)]; exact c3
    · rw [d9 0 45 (by omega), o 0 45 (by omega)]; exact c4
    · have hj' : j < 2 := hj
      by_cases z : j = 0
      · subst z
        refine ⟨v, ?_, rfl⟩
        rw [kv.1, kv.2, nI_0]
        exact d7.on (rOnly.rf (S := fun _ _ => False)) (fun a _ w => w) (Nat.le_add_right _ _)
      · have : j = 1 := by omega
        subst this
        refine ⟨12, ?_, rfl⟩
        exact d8.on (rOnly.rf (S := fun _ _ => False)) (fun a _ w => w) (Nat.le_add_right _ _)
theorem rset_flower {s s2 : Zr} {x N D F W n : Nat} {nt : Nat → Tr} {par : Nat → Nat} {l : Rw} (J : fInv s x N D F W nt par) (hx : x < N) (hN : N ≤ 60) (ok : xOK l) (pd : nPd s D F W x l) (o : rOnly sSe s s2) (h37 : ∀ v, v < 12 → isB (s2 37 v) (xN l v)) (e : nt x = xFull n (xFnd n) l) (n1 : ¬ (nmL (xN l)).length = 1) (hc : (xCut l).1 = 0) :
    zS (fX6_flower s2 (nI x)) (fun s' => fRes s s' x N nt) := by
  obtain ⟨⟨c1, c2, c3, c4⟩, ⟨b1, b2, b3, b4, b5, b6⟩, -, -, p⟩ := id J
  have h32 := pd.n1 ok
  obtain ⟨p1, p2, ⟨g0, p7, p8⟩, f0, p3, p4, p5, p6⟩ := pd
  have e1 : nt x = xFlw l := by rw [e]; unfold xFull; rw [if_neg n1, if_pos (Or.inl hc)]
  have c12 : (nmL (xN l)).length ≤ 12 := cN_12 _
  refine zS.m (rflower_eq (s := s2) (x := x) (N := N) (D := D) (S := xN l) hx hN b2 (by rw [o 0 15 (by omega)]; exact c1) (by rw [o 0 20 (by omega)]; exact c2) (by rw [o 16 x (by omega)]; exact p2) h37) (fun s' hs' => ?_)
  obtain ⟨⟨d1, d2, d3, d4⟩, d5, d6, ⟨f1, f2, f3, f4, f5, f6⟩, d8, d9, d10⟩ := hs'
  have sm : ∀ v, v ∈ nmL (xN l) → v < 12 := fun v hv => (nmL_mem.mp hv).1
  generalize hM : nmL (xN l) = M at d5 d6 f4 f6 d9 c12 sm
  have e2 : nt x = tMk 16 [tMk 14 (M.map fun v => .var v), .var 12] := by rw [e1]; unfold xFlw; rw [hM]
  have lm : (M.map fun v => (Lean.Data.AC.Expr.var v)).length = M.length := List.length_map _
  have sz1 : tSum (M.map fun v => (Lean.Data.AC.Expr.var v)) = M.length := by
    rw [tSum_map]
    exact gS_one M
  let g : Nat → Tr := fun i => if i = 0 then tMk 14 (M.map fun v => .var v) else if i = 1 then .var 12 else .var (M.getD (i - 2) 0)
  let pa : Nat → Nat := fun i => if i < 2 then x else N
  have g0' : g 0 = tMk 14 (M.map fun v => .var v) := rfl
  have g1' : g 1 = .var 12 := rfl
  have g2' : ∀ j, g (2 + j) = .var (M.getD j 0) := fun j => by
    show (if 2 + j = 0 then _ else if 2 + j = 1 then _ else Lean.Data.AC.Expr.var (M.getD (2 + j - 2) 0)) = _
    rw [if_neg (by omega), if_neg (by omega), Nat.add_sub_cancel_left]
  have pa1 : ∀ j, j < 2 → pa j = x := fun j hj => if_pos hj
  have pa2 : ∀ j, pa (2 + j) = N := fun j => if_neg (by omega)
  have O : rOnly (sFd x N D F W) s s' := (o.mono (fun a k z => se_fd z)).tr (d10.mono (fun a k z => lp_fd z))
  refine ⟨N + 2 + M.length, D + 2 + M.length, F, W, aft N nt g, aft N par pa, ?_, by omega, aft_o (by omega), O.mono (fun a k z => fd_fi z)⟩
  refine J.step hx h32 O ⟨d5, d6, ?_, ?_⟩ ⟨by omega, by omega⟩ ⟨by omega, by omega⟩ ⟨Nat.le_refl _, by omega⟩ ⟨Nat.le_refl _, by omega⟩ (fun y hy => aft_o hy) (fun y hy => aft_o hy) (aft_le p (fun j => by
    show (if j < 2 then x else N) ≤ N
    by_cases z : j < 2
    · rw [if_pos z]; omega
    · rw [if_neg z]; exact Nat.le_refl _)) (fDn_mk (lab := 16) (Lk := [tMk 14 (M.map fun v => .var v), .var 12]) (by omega) d1 (by rw [d10 14 x (by omega), o 14 x (by omega)]; exact p1) d2 d3 d4 hx (by show N + 2 ≤ _; omega) (by show D + 2 ≤ _; omega) (by rw [aft_o hx]; exact e2) (fun j hj => ?_) (fun j hj => by rw [aft_n]; exact pa1 j hj)) (fun y hy1 hy2 => Or.inl ?_) ?_
  · rw [d10 0 42 (by omega), o 0 42 (by omega)]; exact c3
  · rw [d10 0 45 (by omega), o 0 45 (by omega)]; exact c4
  · have hj' : j < 2 := hj
    rw [aft_n]
    by_cases z : j = 0
    · subst z; rfl
    · have : j = 1 := by omega
      subst this; rfl
  · by_cases z0 : y = N
    · replace z0 := z0.symm
      subst z0
      refine ⟨f5, fDn_mk (N := N + 2) (D := D + 2) (lab := 14) (Lk := M.map fun v => .var v) (by omega) f1 f2 f3 (by rw [lm]; exact f4) (fun j hj => f6 j (by rw [lm] at hj; exact hj)) (by omega) (by rw [lm]; omega) (by rw [lm]; omega) ?_ (fun j hj => ?_) (fun j hj => ?_)⟩
      · have := aft_n (N := N) (j := 0) (f := nt) (g := g)
        rw [Nat.add_zero] at this
        rw [this, g0']
      · rw [lm] at hj
        rw [Nat.add_assoc, aft_n, g2', mapP_gd _ _ 0 _ _ hj]
      · rw [Nat.add_assoc, aft_n]; exact pa2 j
    · by_cases z1 : y = N + 1
      · subst z1
        exact ⟨d8.2.2.2.1, (d8.on (D' := D + 2 + M.length) (rOnly.rf (S := fun _ _ => False)) (fun a _ w => w) (Nat.le_add_right _ _)).dn (v := 12) (by omega) (by rw [aft_n, g1'])⟩
      · obtain ⟨j, rfl⟩ : ∃ j, y = N + 2 + j := ⟨y - N - 2, by omega⟩
        have q := d9 j (by omega)
        have v12 : M.getD j 0 < 12 := sm _ (mem_gd.mp ⟨j, by omega, rfl⟩)
        have kv : tKd (M.getD j 0) = 0 ∧ tNm (M.getD j 0) = nI (M.getD j 0) := ⟨if_pos v12, if_pos v12⟩
        refine ⟨q.2.2.2.1, lfO.dn (v := M.getD j 0) ?_ (by omega) (by rw [Nat.add_assoc, aft_n, g2'])⟩
        rw [kv.1, kv.2, nI_0]
        exact q.on (rOnly.rf (S := fun _ _ => False)) (fun a _ w => w) (Nat.le_add_right _ _)
  · have w1 : ∀ i, i < 2 + M.length → fWt s' (x + 1) (aft N nt g) (N + i) = 1 := fun i hi => by
      refine if_pos (Or.inr ?_)
      by_cases z0 : i = 0
      · subst z0; exact f5
      · by_cases z1 : i = 1
        · subst z1; exact d8.2.2.2.1
        · have := (d9 (i - 2) (by omega)).2.2.2.1
          rw [show N + 2 + (i - 2) = N + i by omega] at this
          exact this
    have w2 : nsum (fWt s' (x + 1) (aft N nt g)) N (2 + M.length) = nsum (fun _ => 1) N (2 + M.length) := nsum_congr _ w1
    have w3 : ∀ d, nsum (fun _ => 1) N d = d := fun d => by
      induction d with
      | zero => rfl
      | succ d ih => show nsum (fun _ => 1) N d + 1 = _; rw [ih]
    rw [show N + 2 + M.length - N = 2 + M.length by omega, w2, w3, e2, two_sz, tMk_sz, sz1]
    show _ = 1 + (1 + M.length) + 1
    omega
theorem rset_rest {s s2 : Zr} {x N D F W n : Nat} {nt : Nat → Tr} {par : Nat → Nat} {l : Rw} (J : fInv s x N D F W nt par) (hx : x < N) (hN : N ≤ 60) (ok : xOK l) (pd : nPd s D F W x l) (cn : cN (xN l) ≤ n) (o : rOnly sSe s s2) (e : nt x = tMk 14 [.var 12, xFnd n (xNe l)]) :
    zS (fX6_rest s2 (nI x)) (fun s' => fRes s s' x N nt) := by
  obtain ⟨⟨c1, c2, c3, c4⟩, ⟨b1, b2, b3, b4, b5, b6⟩, -, -, p⟩ := id J
  have h32 := pd.n1 ok
  obtain ⟨p1, p2, ⟨g0, p7, p8⟩, f0, p3, p4, p5, p6⟩ := pd
  refine zS.m (rrest_eq (s := s2) (l := l) (x := x) (f0 := f0) (N := N) (D := D) (F := F) (W := W) ok hx hN b2 b3 b4 (by rw [o 0 15 (by omega)]; exact c1) (by rw [o 0 20 (by omega)]; exact c2) (by rw [o 0 42 (by omega)]; exact c3) (by rw [o 0 45 (by omega)]; exact c4) (by rw [o 16 x (by omega)]; exact p2) (by rw [o 31 x (by omega)]; exact p3) (by rw [o 32 x (by omega)]; exact p4) p5 (p6.on o (fun k _ => ⟨by omega, by omega⟩) (fun k _ => by omega) (Nat.le_refl _))) (fun s' hs' => ?_)
  obtain ⟨⟨d1, d2, d3, d4⟩, d5, d6, d7, ⟨F', W', r1, r2, r3, r4, r5⟩, d9⟩ := hs'
  refine fRes_kids (F' := F') (W' := W') (lab := 14) (Lk := [.var 12, xFnd n (xNe l)]) J hx hN h32 ((o.mono (fun a k z => se_fd z)).tr (d9.mono (fun a k z => Or.inl z))) (by omega) (by show 2 ≤ 13; omega) d1 (by rw [d9 14 x (by omega), o 14 x (by omega)]; exact p1) d2 d3 d4 d5 d6 r1 r2 ⟨r3.1, by show F' ≤ F + 144 * 2; omega⟩ ⟨r4.1, by show W' ≤ W + 144 * 2; omega⟩ e (fun j hj => ?_)
  have hj' : j < 2 := hj
  by_cases z : j = 0
  · subst z
    exact Or.inl ⟨12, d7.on (rOnly.rf (S := fun _ _ => False)) (fun a _ w => w) (Nat.le_add_right _ _), rfl⟩
  · have : j = 1 := by omega
    subst this
    have ce : cN (xN (xNe l)) ≤ cN (xN l) := cN_le (fun v hv => xNe_N.mp hv)
    exact Or.inr ⟨xNe l, n, xNe_ok ok, r5.on (rOnly.rf (S := fun _ _ => False)) ⟨id, id, id, id, id⟩ (fun _ _ => ⟨id, id⟩) (fun _ _ => id) (Nat.le_add_right _ _) (Nat.le_refl _) (Nat.le_refl _), Nat.le_trans ce cn, rfl⟩
theorem rset_silent {s s2 : Zr} {x N D F W : Nat} {nt : Nat → Tr} {par : Nat → Nat} {l : Rw} (J : fInv s x N D F W nt par) (hx : x < N) (ok : xOK l) (pd : nPd s D F W x l) (o : rOnly sSe s s2) (e : nt x = .var 12) : fRes s (u2 s2 13 x 1) x N nt := by
  obtain ⟨⟨c1, c2, c3, c4⟩, ⟨b1, b2, b3, b4, b5, b6⟩, -, -, p⟩ := id J
  have h32 := pd.n1 ok
  obtain ⟨p1, p2, ⟨g0, p7, p8⟩, f0, p3, p4, p5, p6⟩ := pd
  have d3 : rOnly (fun a k => a = 13 ∧ k = x) s2 (u2 s2 13 x 1) := rOnly.u ⟨rfl, rfl⟩
  have O : rOnly (sFd x N D F W) s (u2 s2 13 x 1) := (o.mono (fun a k z => se_fd z)).tr (d3.mono (fun a k z => one_fd ⟨Or.inl z.1, z.2⟩))
  refine ⟨N, D, F, W, nt, par, ?_, Nat.le_refl _, rfl, O.mono (fun a k z => fd_fi z)⟩
  refine J.step hx h32 O ⟨?_, ?_, ?_, ?_⟩ ⟨Nat.le_refl _, b6⟩ ⟨Nat.le_refl _, b2⟩ ⟨Nat.le_refl _, b3⟩ ⟨Nat.le_refl _, b4⟩ (fun _ _ => rfl) (fun _ _ => rfl) p ?_ (fun y h1 h2 => by omega) ?_
  · rw [d3 0 15 (by omega), o 0 15 (by omega)]; exact c1
  · rw [d3 0 20 (by omega), o 0 20 (by omega)]; exact c2
  · rw [d3 0 42 (by omega), o 0 42 (by omega)]; exact c3
  · rw [d3 0 45 (by omega), o 0 45 (by omega)]; exact c4
  · unfold fDn
    rw [e]
    refine ⟨by rw [u2_s]; rfl, ?_, ?_, g0, N, ?_, ⟨p8, hx, Nat.le_refl _⟩, fun j hj => absurd (show j < 0 from hj) (Nat.not_lt_zero _)⟩
    · rw [d3 14 x (by omega), o 14 x (by omega), p1]; rfl
    · rw [d3 16 x (by omega), o 16 x (by omega), p2]; exact nI_0.symm
    · rw [d3 15 x (by omega), o 15 x (by omega)]; exact p7
  · rw [Nat.sub_self, e]; rfl
