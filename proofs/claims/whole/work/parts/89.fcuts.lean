/-! found on the reference's side: reaching, ordering, the cuts -/
theorem zS.pr {α ρ : Type} {f : α × Int32 → Option ((α × Int32) ⊕ ρ)} (J : Nat → α → Prop) {P : ρ → Prop} (a N : Nat) {x0 : α}
    (hf : ∀ k x, a ≤ k → k < N → J k x → zS (f (x, nI k)) (fun q => (∃ x', q = .inl (x', nI (k + 1)) ∧ J (k + 1) x') ∨ ∃ r, q = .inr r ∧ P r))
    (hN : ∀ x, J N x → zS (f (x, nI N)) (fun q => ∃ r, q = .inr r ∧ P r)) (ha : a ≤ N) (hN' : N < 100000) (h0 : J a x0) : zS (zloop f zFU (x0, nI a)) P := by
  obtain ⟨r, e, p⟩ := zloop_inv (f := f) (fun (n : Nat) (s : α × Int32) => ∃ k, n = N - k ∧ a ≤ k ∧ k ≤ N ∧ s.2 = nI k ∧ J k s.1) P (by
    rintro n ⟨x, w⟩ ⟨k, hn, hk0, hk, rfl, hJ⟩
    dsimp only at hJ ⊢
    by_cases c : k = N
    · subst c
      obtain ⟨q, e1, r, e2, e3⟩ := hN x hJ
      exact Or.inr ⟨r, by rw [e1, e2], e3⟩
    · obtain ⟨q, e1, ⟨x', e2, e3⟩ | ⟨r, e2, e3⟩⟩ := hf k x hk0 (by omega) hJ
      · exact Or.inl ⟨_, N - (k + 1), by rw [e1, e2], by omega, k + 1, rfl, by omega, by omega, rfl, e3⟩
      · exact Or.inr ⟨r, by rw [e1, e2], e3⟩) (N - a) (x0, nI a) zFU ⟨a, rfl, Nat.le_refl _, ha, rfl, h0⟩ (by rw [zFU_v]; omega)
  exact ⟨r, e, p⟩
theorem zbo_B {x : Int32} {p : Prop} (h : isB x p) : zbo x = some x := by
  unfold zbo
  rw [if_pos h.1]
section RCH
variable {A R : Nat → Nat → Prop} {S : Nat → Prop}
theorem rL_cn (hA : ∀ a b, A a b → A b a) {s : Zr} (h : rL A S s) {r v : Nat} (hr : r < 12) (ir : isRt A S r) (hv : v < 12) : s 40 v = nI r ↔ CN A S r v := by
  by_cases c : S v
  · obtain ⟨q, q1, q2, q3, q4⟩ := (h v hv).1 c
    rw [q4, nI_eq (by omega) (by omega)]
    exact ⟨fun e => e ▸ q3, fun e => rt_one hA q2 ir q3 e⟩
  · rw [(h v hv).2 c]
    exact ⟨fun z => (n3_nI hr z.symm).elim, fun z => (c z.s2).elim⟩
theorem rreaches_eq (hA : ∀ a b, A a b → A b a) (hS : ∀ v, S v → v < 12) {s : Zr} (h : rL A S s) (h43 : T2 s 43 R) {r q : Nat} (hr : r < 12) (ir : isRt A S r) (hq : q < 12) (iq : isRt A S q) : zS (fX6_reaches s (nI r) (nI q)) (fun x => isB x (rch R (CN A S r) (CN A S q))) := by
  unfold fX6_reaches
  let Q : Nat → Prop := fun m => ∃ a b, 12 * a + b < m ∧ a < 12 ∧ b < 12 ∧ CN A S r a ∧ CN A S q b ∧ R a b
  refine zS.b (R1 := fun x => isB x (Q (12 * 12))) (zS.pr (fun i x => isB x (Q (12 * i))) 0 12 (fun i x _ hi hJ => ?_) (fun x hJ => ?_) (Nat.zero_le _) (by omega) (isB.f (fun ⟨_, _, z, _⟩ => absurd z (Nat.not_lt_zero _)))) (fun x hx => ?_)
  · dsimp only
    rw [if_neg (k12 hi)]
    refine zS.b (R1 := fun x => isB x (Q (12 * (i + 1)))) (zS.pr (fun j x => isB x (Q (12 * i + j))) 0 12 (fun j x _ hj hJ => ?_) (fun x hJ => ?_) (Nat.zero_le _) (by omega) hJ) (fun x hx => zS.s (Or.inl ⟨_, by rw [nI_1], hx⟩))
    · dsimp only
      rw [if_neg (k12 hj)]
      have up : Q (12 * i + j) → Q (12 * i + (j + 1)) := fun ⟨a, b, z, y⟩ => ⟨a, b, by omega, y⟩
      have dn : ¬ Q (12 * i + j) → ¬ (CN A S r i ∧ CN A S q j ∧ R i j) → ¬ Q (12 * i + (j + 1)) := fun n1 n2 ⟨a, b, z, ha, hb, y⟩ => by
        by_cases e : 12 * a + b = 12 * i + j
        · obtain ⟨rfl, rfl⟩ := ix_12 hb hj e
          exact n2 y
        · exact n1 ⟨a, b, by omega, ha, hb, y⟩
      refine zS.b (R1 := fun x => isB x (Q (12 * i + (j + 1)))) ?_ (fun x hx => zS.s (Or.inl ⟨_, by rw [nI_1], hx⟩))
      by_cases c0 : x = 0
      · rw [if_pos c0, rd40 hi, Option.bind_some]
        by_cases c1 : s 40 i = nI r
        · rw [if_pos c1, rd40 hj, Option.bind_some]
          by_cases c2 : s 40 j = nI q
          · rw [if_pos c2, m12, rd43 (by omega), Option.bind_some]
            by_cases c3 : s 43 (12 * i + j) = 0
            · rw [if_pos c3]
              exact zS.s (isB.f (dn (hJ.n c0) (fun z => (h43 i j hi hj).n c3 z.2.2)))
            · rw [if_neg c3]
              exact zS.s (isB.t ⟨i, j, by omega, hi, hj, (rL_cn hA h hr ir hi).mp c1, (rL_cn hA h hq iq hj).mp c2, (h43 i j hi hj).p c3⟩)
          · rw [if_neg c2]
            exact zS.s (isB.f (dn (hJ.n c0) (fun z => c2 ((rL_cn hA h hq iq hj).mpr z.2.1))))
        · rw [if_neg c1]
          exact zS.s (isB.f (dn (hJ.n c0) (fun z => c1 ((rL_cn hA h hr ir hi).mpr z.1))))
      · rw [if_neg c0]
        exact zS.s (isB.t (up (hJ.p c0)))
    · dsimp only
      rw [if_pos e12]
      exact zS.s ⟨_, rfl, hJ⟩
  · dsimp only
    rw [if_pos e12]
    exact zS.s ⟨_, rfl, hJ⟩
  · rw [zbo_B hx, Option.bind_some]
    exact zS.s (hx.c ⟨fun ⟨a, b, _, _, _, y1, y2, y3⟩ => ⟨a, b, y1, y2, y3⟩, fun ⟨a, b, y1, y2, y3⟩ => ⟨a, b, by have := hS a y1.s2; have := hS b y2.s2; omega, hS a y1.s2, hS b y2.s2, y1, y2, y3⟩⟩)
theorem rPs.at (hA : ∀ a b, A a b → A b a) {s : Zr} (h : rPs A S s) {i : Nat} (hi : i < (rtL A S).length) : ∃ r, r < 12 ∧ isRt A S r ∧ s 41 i = nI r ∧ r = (rtL A S).getD i 0 := by
  have : (rtL A S).getD i 0 ∈ rtL A S := mem_gd.mp ⟨i, hi, rfl⟩
  obtain ⟨h1, h2⟩ := rtL_mem.mp this
  exact ⟨_, h1, h2, h.2.2 i hi, rfl⟩
theorem rtL_12 : (rtL A S).length ≤ 12 := by
  have := List.length_filter_le (fun v => cB (isRt A S v)) (List.range 12)
  rw [List.length_range] at this
  exact this
/-- no two parts are joined -/
theorem rjoin0_eq (ht : ∀ a b c, R a b → R b c → R a c) (hS : ∀ v, S v → v < 12) {s : Zr} (h : rPs (A2 R) S s) (h43 : T2 s 43 R) : zS (fX6_joinParts s) (fun s' => rPs (A2 R) S s' ∧ T2 s' 43 R ∧ rOnly sGt s s') := by
  unfold fX6_joinParts
  have l12 := rtL_12 (A := A2 R) (S := S)
  refine zS.b (R1 := fun s' => rPs (A2 R) S s' ∧ T2 s' 43 R ∧ rOnly sGt s s') ?_ (fun r hr => zS.s hr)
  refine zloop_inv (fun (n : Nat) (q : Int32 × Zr) => ((q.1 = 1 ∧ n = 1) ∨ (q.1 = 0 ∧ n = 0)) ∧ rPs (A2 R) S q.2 ∧ T2 q.2 43 R ∧ rOnly sGt s q.2) _ ?_ 1 _ _ ⟨Or.inl ⟨rfl, rfl⟩, h, h43, rOnly.rf⟩ (by rw [zFU_v]; omega)
  · rintro n ⟨x, s1⟩ ⟨hx, h1, h2, h3⟩
    dsimp only at hx h1 h2 h3 ⊢
    rcases hx with ⟨rfl, rfl⟩ | ⟨rfl, rfl⟩
    · refine Or.inl ?_
      have key : zS _ (fun q : Int32 × Zr => q = (0, s1)) := zS.mid (ρ := Int32 × Zr) (f := fun ((v6, v7, s8) : Int32 × Int32 × Zr) =>
        (if (s8 0 52) ≤ v7 then
          some (.inr (v6, s8))
        else
          if v6 = 0 then
            (zloop (fun ((v13, v14, s15) : Int32 × Int32 × Zr) =>
              (if (s15 0 52) ≤ v14 then
                some (.inr (v13, s15))
              else
                if v13 = 0 then
                  (rdI s15 41 v7).bind fun x20 =>
                  (rdI s15 41 v14).bind fun x21 =>
                  (fX6_reaches s15 x20 x21).bind fun x22 =>
                  (if x22 = 0 then
                    some (v13, s15)
                  else
                    (fX6_reaches s15 x21 x20).bind fun x26 =>
                    if x26 = 0 then
                      some (v13, s15)
                    else
                      (zloop (fun ((v27, s28) : Int32 × Zr) =>
                        (if (12 : Int32) ≤ v27 then
                          some (.inr s28)
                        else
                          (rdI s28 40 v27).bind fun x32 =>
                          (if x32 = x21 then
                            some x20
                          else
                            (rdI s28 40 v27).bind fun x35 =>
                            some x35).bind fun (v33 : Int32) =>
                          (wrI s28 40 v27 v33).bind fun s36 =>
                          some (.inl (v27 + (1 : Int32), s36)) : Option ((Int32 × Zr) ⊕ Zr))) zFU ((0 : Int32), s15)).bind fun (s29 : Zr) =>
                      some ((1 : Int32), s29)).bind fun ((v23, s24) : Int32 × Zr) =>
                  some (.inl (v23, v14 + (1 : Int32), s24))
                else
                  some (.inr (v13, s15)) : Option ((Int32 × Int32 × Zr) ⊕ (Int32 × Zr)))) zFU (v6, v7 + (1 : Int32), s8)).bind fun ((w16, s17) : Int32 × Zr) =>
            some (.inl (w16, v7 + (1 : Int32), s17))
          else
            some (.inr (v6, s8)) : Option ((Int32 × Int32 × Zr) ⊕ (Int32 × Zr)))) (fun _ x s2 => x = 0 ∧ s2 = s1) 0 (rtL (A2 R) S).length (fun i x s2 _ hi hJ => by
          obtain ⟨rfl, rfl⟩ := hJ
          dsimp only
          rw [if_neg (show ¬ s2 0 52 ≤ nI i by rw [h1.2.1]; exact nI_nle' (by omega) hi), if_pos rfl, nI_1]
          refine zS.b (R1 := fun q : Int32 × Zr => q = (0, s2)) (zS.mid (fun _ x s3 => x = 0 ∧ s3 = s2) (i + 1) (rtL (A2 R) S).length (fun j x s3 hj0 hj hJ => ?_) (fun x s3 hJ => ?_) (by omega) (by omega) ⟨rfl, rfl⟩) (fun q hq => ?_)
          · obtain ⟨rfl, rfl⟩ := hJ
            obtain ⟨r, r1, r2, r3, r4⟩ := h1.at A2.sy hi
            obtain ⟨t, t1, t2, t3, t4⟩ := h1.at A2.sy hj
            have ne : r ≠ t := fun e => by
              have nd := rtL_nd (A := A2 R) (S := S)
              rw [r4, t4, List.getD_eq_getElem?_getD, List.getD_eq_getElem?_getD, List.getElem?_eq_getElem hi, List.getElem?_eq_getElem hj] at e
              exact List.pairwise_iff_getElem.mp nd i j hi hj (by omega) e
            dsimp only
            rw [if_neg (show ¬ s3 0 52 ≤ nI j by rw [h1.2.1]; exact nI_nle' (by omega) hj), if_pos rfl, rd41 (by omega), Option.bind_some, rd41 (by omega), Option.bind_some, r3, t3]
            refine zS.b (rreaches_eq A2.sy hS h1.1 h2 r1 r2 t1 t2) (fun x22 hx22 => ?_)
            refine zS.b (R1 := fun q : Int32 × Zr => q = (0, s3)) ?_ (fun q hq => by subst hq; exact zS.s (Or.inl ⟨_, _, by rw [nI_1], rfl, rfl⟩))
            by_cases c : x22 = 0
            · rw [if_pos c]; exact zS.s rfl
            · rw [if_neg c]
              refine zS.b (rreaches_eq A2.sy hS h1.1 h2 t1 t2 r1 r2) (fun x26 hx26 => ?_)
              by_cases d : x26 = 0
              · rw [if_pos d]; exact zS.s rfl
              · exact (nojoin ht r2 t2 ne (hx22.p c) (hx26.p d)).elim
          · obtain ⟨rfl, rfl⟩ := hJ
            dsimp only
            rw [if_pos (show s3 0 52 ≤ nI (rtL (A2 R) S).length by rw [h1.2.1]; exact nI_le (Nat.le_refl _) (by omega))]
            exact zS.s ⟨_, rfl, rfl⟩
          · subst hq
            exact zS.s (Or.inl ⟨_, _, rfl, rfl, rfl⟩)) (fun x s2 hJ => by
          obtain ⟨rfl, rfl⟩ := hJ
          dsimp only
          rw [if_pos (show s2 0 52 ≤ nI (rtL (A2 R) S).length by rw [h1.2.1]; exact nI_le (Nat.le_refl _) (by omega))]
          exact zS.s ⟨_, rfl, rfl⟩) (Nat.zero_le _) (by omega) ⟨rfl, rfl⟩
      obtain ⟨q, eq1, rfl⟩ := key
      obtain ⟨s4, e4, f1, f2, f3⟩ := rlist_eq (s := s1) (Q := isRt (A2 R) S) (fun v hv => rL_rt A2.sy h1.1 hv)
      refine ⟨(0, s4), 0, ?_, by omega, Or.inr ⟨rfl, rfl⟩, ⟨fun v hv => by show (S v → ∃ r, _ ∧ _ ∧ _ ∧ s4 40 v = _) ∧ (_ → s4 40 v = _); rw [f3 40 v (by omega)]; exact h1.1 v hv, f1, f2⟩, h2.only f3 (fun k => by omega), h3.tr (f3.mono (fun a k z => by omega))⟩
      show (if (1 : Int32) = 0 then _ else _) = _
      rw [if_neg (by decide)]
      refine (congrArg (fun o : Option (Int32 × Zr) => o.bind _) eq1).trans ?_
      show (fX6_listParts s1).bind _ = _
      rw [e4]; rfl
    · refine Or.inr ⟨s1, ?_, h1, h2, h3⟩
      show (if (0 : Int32) = 0 then _ else _) = _
      rw [if_pos rfl]
end RCH
/-! found: the parts put in order -/
section ORD
variable {R : Nat → Nat → Prop} {Pt : Nat → Nat → Prop} {val : Nat → Int32}
def OA (arr : Nat → Int32) (val : Nat → Int32) (acc : List Nat) : Prop := ∀ j, j < acc.length → arr (acc.length - 1 - j) = val (acc.getD j 0)
/-- m parts have moved to let x in -/
def OI (R : Nat → Nat → Prop) (Pt : Nat → Nat → Prop) (arr : Nat → Int32) (val : Nat → Int32) (acc : List Nat) (x m : Nat) : Prop := m ≤ acc.length ∧ (∀ j, j < m → arr (acc.length - j) = val (acc.getD j 0)) ∧ (∀ j, m ≤ j → j < acc.length → arr (acc.length - 1 - j) = val (acc.getD j 0)) ∧ insR R Pt x acc = acc.take m ++ insR R Pt x (acc.drop m)
theorem OI_0 {arr : Nat → Int32} {acc : List Nat} {x : Nat} (h : OA arr val acc) : OI R Pt arr val acc x 0 := ⟨Nat.zero_le _, fun _ z => absurd z (Nat.not_lt_zero _), fun j _ hj => h j hj, rfl⟩
theorem drop_gd {l : List Nat} {m : Nat} (h : m < l.length) : l.drop m = l.getD m 0 :: l.drop (m + 1) := mkR_drop h
theorem take_gd {l : List Nat} {m : Nat} (h : m < l.length) : l.take (m + 1) = l.take m ++ [l.getD m 0] := take_1 l m h
theorem OI_s {arr arr' : Nat → Int32} {acc : List Nat} {x m : Nat} (h : OI R Pt arr val acc x m) (hm : m < acc.length) (hr : rch R (Pt x) (Pt (acc.getD m 0))) (e : ∀ p, arr' p = if p = acc.length - m then arr (acc.length - m - 1) else arr p) : OI R Pt arr' val acc x (m + 1) := by
  obtain ⟨h1, h2, h3, h4⟩ := h
  refine ⟨hm, fun j hj => ?_, fun j hj hl => ?_, ?_⟩
  · rw [e]
    by_cases c : j = m
    · subst c
      rw [if_pos rfl, show acc.length - j - 1 = acc.length - 1 - j by omega]
      exact h3 j (Nat.le_refl _) hm
    · rw [if_neg (by omega)]
      exact h2 j (by omega)
  · rw [e, if_neg (by omega)]
    exact h3 j (by omega) hl
  · rw [h4, drop_gd hm, take_gd hm, List.append_assoc]
    congr 1
    show (if cB (rch R (Pt x) (Pt (acc.getD m 0))) = true then _ else _) = _
    rw [if_pos (cB_t.mpr hr)]
    rfl
theorem OI_e {arr arr' : Nat → Int32} {acc : List Nat} {x m : Nat} (h : OI R Pt arr val acc x m) (hm : m = acc.length ∨ (m < acc.length ∧ ¬ rch R (Pt x) (Pt (acc.getD m 0)))) (e : ∀ p, arr' p = if p = acc.length - m then val x else arr p) : OA arr' val (insR R Pt x acc) := by
  obtain ⟨h1, h2, h3, h4⟩ := h
  have e4 : insR R Pt x acc = acc.take m ++ x :: acc.drop m := by
    rw [h4]
    congr 1
    rcases hm with rfl | ⟨hm, hr⟩
    · rw [List.drop_length]; rfl
    · rw [drop_gd hm]
      show (if cB (rch R (Pt x) (Pt (acc.getD m 0))) = true then _ else _) = _
      rw [if_neg (fun z => hr (cB_t.mp z))]
  have el : (insR R Pt x acc).length = acc.length + 1 := (insR_perm acc).length_eq
  have lt : (acc.take m).length = m := by rw [List.length_take]; omega
  intro j hj
  rw [el] at hj ⊢
  rw [e, e4]
  rcases Nat.lt_trichotomy j m with c | c | c
  · rw [if_neg (by omega), show acc.length + 1 - 1 - j = acc.length - j by omega, h2 j c, List.getD_eq_getElem?_getD, List.getD_eq_getElem?_getD, List.getElem?_append_left (by omega), List.getElem?_take_of_lt c]
  · subst c
    rw [if_pos (by omega), List.getD_eq_getElem?_getD, List.getElem?_append_right (by omega), lt, Nat.sub_self]
    rfl
  · rw [if_neg (by omega), show acc.length + 1 - 1 - j = acc.length - 1 - (j - 1) by omega, h3 (j - 1) (by omega) (by omega), List.getD_eq_getElem?_getD, List.getD_eq_getElem?_getD, List.getElem?_append_right (by omega), lt, show j - m = (j - m - 1) + 1 by omega, List.getElem?_cons_succ, List.getElem?_drop, show m + (j - m - 1) = j - 1 by omega]
theorem OI_at {arr : Nat → Int32} {acc : List Nat} {x m : Nat} (h : OI R Pt arr val acc x m) (hm : m < acc.length) : arr (acc.length - m - 1) = val (acc.getD m 0) := by
  have := h.2.2.1 m (Nat.le_refl _) hm
  rw [show acc.length - m - 1 = acc.length - 1 - m by omega]
  exact this
end ORD
theorem rorder_eq {R : Nat → Nat → Prop} {S : Nat → Prop} {s : Zr} (hS : ∀ v, S v → v < 12) (h : rPs (A2 R) S s) (h43 : T2 s 43 R) :
    zS (fX6_orderParts s) (fun s' => OA (s' 41) nI (ordR R (CN (A2 R) S) (rtL (A2 R) S)) ∧ rOnly (oA 41) s s') := by
  unfold fX6_orderParts
  have l12 := rtL_12 (A := A2 R) (S := S)
  generalize eL : rtL (A2 R) S = L at *
  have mem : ∀ i, i < L.length → L.getD i 0 < 12 ∧ isRt (A2 R) S (L.getD i 0) := fun i hi => by
    have : L.getD i 0 ∈ L := mem_gd.mp ⟨i, hi, rfl⟩
    rw [← eL] at this ⊢
    exact rtL_mem.mp this
  have memA : ∀ k y, k ≤ L.length → y ∈ ordR R (CN (A2 R) S) (L.take k) → y < 12 ∧ isRt (A2 R) S y := fun k y _ hy => by
    have h1 := List.mem_of_mem_take ((ordR_perm _).subset hy)
    rw [← eL] at h1
    exact rtL_mem.mp h1
  have l52 : s 0 52 = nI L.length := by rw [← eL]; exact h.2.1
  have l41 : ∀ i, i < L.length → s 41 i = nI (L.getD i 0) := fun i hi => by rw [← eL]; exact h.2.2 i (by rw [eL]; exact hi)
  have oS : ∀ k, k < L.length → ordR R (CN (A2 R) S) (L.take (k + 1)) = insR R (CN (A2 R) S) (L.getD k 0) (ordR R (CN (A2 R) S) (L.take k)) := fun k hk => by
    unfold ordR
    rw [take_gd hk, List.foldl_append]; rfl
  have oL : ∀ k, k ≤ L.length → (ordR R (CN (A2 R) S) (L.take k)).length = k := fun k hk => by
    rw [(ordR_perm _).length_eq, List.length_take]; omega
  refine zS.b (R1 := fun s' => OA (s' 41) nI (ordR R (CN (A2 R) S) L) ∧ rOnly (oA 41) s s') ?_ (fun r hr => zS.s hr)
  by_cases c0 : L.length = 0
  · have eL0 : L = [] := List.eq_nil_of_length_eq_zero c0
    refine zloop_inv (fun (_ : Nat) (q : Int32 × Zr) => q = (1, s)) _ ?_ 0 _ _ rfl (by rw [zFU_v]; omega)
    rintro n q rfl
    refine Or.inr ⟨s, ?_, by rw [eL0]; exact fun j hj => absurd hj (Nat.not_lt_zero _), rOnly.rf⟩
    show (if s 0 52 ≤ 1 then _ else _) = _
    rw [if_pos (by rw [l52, c0]; decide)]
  · refine zS.up (fun k s' => k ≤ L.length ∧ OA (s' 41) nI (ordR R (CN (A2 R) S) (L.take k)) ∧ (∀ i, k ≤ i → i < L.length → s' 41 i = nI (L.getD i 0)) ∧ rOnly (oA 41) s s') 1 L.length (fun k s' hk0 hk hJ => ?_) (fun s' hJ => ?_) (by omega) (by omega) ⟨by omega, ?_, fun i _ hi => l41 i hi, rOnly.rf⟩
    · obtain ⟨-, j1, j2, j3⟩ := hJ
      have lk := oL k (by omega)
      generalize eA : ordR R (CN (A2 R) S) (L.take k) = acc at j1 lk
      have ma : ∀ j, j < k → acc.getD j 0 < 12 ∧ isRt (A2 R) S (acc.getD j 0) := fun j hj => memA k _ (by omega) (by rw [eA]; exact mem_gd.mp ⟨j, by omega, rfl⟩)
      obtain ⟨x12, xr⟩ := mem k hk
      have ex := j2 k (Nat.le_refl _) hk
      have eS := oS k hk
      rw [eA] at eS
      generalize L.getD k 0 = x at x12 xr ex eS
      have h40 : ∀ s1 : Zr, rOnly (oA 41) s s1 → rL (A2 R) S s1 ∧ T2 s1 43 R := fun s1 o => ⟨fun v hv => by rw [o 40 v (by omega)]; exact h.1 v hv, h43.only o (fun k => by omega)⟩
      dsimp only
      rw [j3 0 52 (by omega), l52, if_neg (nI_nle' (by omega) hk), rd41 (by omega), Option.bind_some, ex]
      refine zS.b (R1 := fun q : Int32 × Zr => ∃ m, m ≤ k ∧ q.1 = nI (k - m) ∧ OI R (CN (A2 R) S) (q.2 41) nI acc x m ∧ (m = k ∨ (m < k ∧ ¬ rch R (CN (A2 R) S x) (CN (A2 R) S (acc.getD m 0)))) ∧ (∀ i, k + 1 ≤ i → q.2 41 i = s' 41 i) ∧ rOnly (oA 41) s q.2) ?_ (fun q ⟨m, m1, m2, m3, m4, m5, m6⟩ => ?_)
      · refine zloop_inv (fun (n : Nat) (q : Int32 × Zr) => ∃ m, m ≤ k ∧ n = k - m ∧ q.1 = nI (k - m) ∧ OI R (CN (A2 R) S) (q.2 41) nI acc x m ∧ (∀ i, k + 1 ≤ i → q.2 41 i = s' 41 i) ∧ rOnly (oA 41) s q.2) _ ?_ k _ _ ⟨0, Nat.zero_le _, rfl, rfl, OI_0 j1, fun _ _ => rfl, j3⟩ (by rw [zFU_v]; omega)
        rintro n ⟨w, s1⟩ ⟨m, m1, rfl, rfl, m3, m5, m6⟩
        dsimp only at m3 m5 m6
        by_cases c : m = k
        · subst c
          refine Or.inr ⟨(nI (m - m), s1), ?_, m, Nat.le_refl _, rfl, m3, Or.inl rfl, m5, m6⟩
          show (if nI (m - m) ≤ 0 then _ else _) = _
          rw [if_pos (by rw [Nat.sub_self]; decide)]
        · have mk : m < k := by omega
          obtain ⟨a12, ar⟩ := ma m mk
          have e1 : nI (k - m) - (1 : Int32) = nI (k - m - 1) := by
            have := nI_pred (k - m - 1)
            rw [Nat.sub_add_cancel (by omega)] at this
            exact this
          have eat := OI_at m3 (by omega)
          rw [lk] at eat
          obtain ⟨r, er, hr⟩ := rreaches_eq A2.sy hS (h40 s1 m6).1 (h40 s1 m6).2 x12 xr a12 ar
          have body : (if nI (k - m) ≤ 0 then
          some (.inr (nI (k - m), s1))
        else
          (rdI s1 41 (nI (k - m) - (1 : Int32))).bind fun x13 =>
          (fX6_reaches s1 (nI x) x13).bind fun x14 =>
          if x14 = 0 then
            some (.inr (nI (k - m), s1))
          else
            (rdI s1 41 (nI (k - m) - (1 : Int32))).bind fun x15 =>
            (wrI s1 41 (nI (k - m)) x15).bind fun s16 =>
            some (.inl (nI (k - m) + (-1 : Int32), s16)) : Option ((Int32 × Zr) ⊕ (Int32 × Zr))) = if r = 0 then some (.inr (nI (k - m), s1)) else some (.inl (nI (k - m - 1), u2 s1 41 (k - m) (nI (acc.getD m 0)))) := by
            rw [if_neg (nI_nle (by omega) (by omega)), e1, rd41 (by omega), Option.bind_some, eat, er, Option.bind_some, Option.bind_some, wr41 (by omega), Option.bind_some]
            have e2 : nI (k - m) + (-1 : Int32) = nI (k - m - 1) := by
              have := nI_dec (k - m - 1)
              rw [Nat.sub_add_cancel (by omega)] at this
              exact this
            rw [e2]
          by_cases d : r = 0
          · refine Or.inr ⟨(nI (k - m), s1), ?_, m, m1, rfl, m3, Or.inr ⟨mk, hr.n d⟩, m5, m6⟩
            refine body.trans ?_
            rw [if_pos d]
          · refine Or.inl ⟨(nI (k - m - 1), u2 s1 41 (k - m) (nI (acc.getD m 0))), k - m - 1, ?_, by omega, m + 1, by omega, by omega, by rw [Nat.sub_add_eq], OI_s m3 (by omega) (hr.p d) (fun p => ?_), fun i hi => ?_, m6.tr (rOnly.u rfl)⟩
            · refine body.trans ?_
              rw [if_neg d]
            · dsimp only
              rw [lk, eat]
              by_cases c : p = k - m
              · subst c; rw [u2_s, if_pos rfl]
              · rw [u2_n (fun z => c z.2), if_neg c]
            · dsimp only
              rw [u2_n (by omega)]
              exact m5 i hi
      · obtain ⟨w, s1⟩ := q
        dsimp only at m2 m3 m5 m6 ⊢
        subst m2
        rw [wr41 (by omega), Option.bind_some]
        refine zS.s ⟨_, by rw [nI_1], by omega, ?_, fun i hi hl => ?_, m6.tr (rOnly.u rfl)⟩
        · rw [eS]
          refine OI_e m3 (by rw [lk]; exact m4) (fun p => ?_)
          rw [lk]
          by_cases c : p = k - m
          · subst c; rw [u2_s, if_pos rfl]
          · rw [u2_n (fun z => c z.2), if_neg c]
        · rw [u2_n (by omega), m5 i (by omega)]
          exact j2 i (by omega) hl
    · obtain ⟨-, j1, -, j3⟩ := hJ
      dsimp only
      rw [j3 0 52 (by omega), l52, if_pos (nI_le (Nat.le_refl _) (by omega))]
      rw [List.take_length] at j1
      exact zS.s ⟨_, rfl, j1, j3⟩
    · have e := oS 0 (by omega)
      rw [Nat.zero_add] at e
      rw [e]
      intro j hj
      have hj : j < 1 := hj
      have : j = 0 := by omega
      subst this
      exact l41 0 (by omega)
/-! found on the reference's side: to choice, row, beside -/
theorem isB_eq {x y : Int32} {p q : Prop} (h1 : isB x p) (h2 : isB y q) : x = y ↔ (p ↔ q) := by
  rcases h1.1 with rfl | rfl
  · have np := h1.n rfl
    rcases h2.1 with rfl | rfl
    · have nq := h2.n rfl
      exact ⟨fun _ => ⟨fun z => (np z).elim, fun z => (nq z).elim⟩, fun _ => rfl⟩
    · have hq := h2.p (by decide)
      exact ⟨fun z => absurd z (by decide), fun z => (np (z.2 hq)).elim⟩
  · have hp := h1.p (by decide)
    rcases h2.1 with rfl | rfl
    · have nq := h2.n rfl
      exact ⟨fun z => absurd z (by decide), fun z => (nq (z.1 hp)).elim⟩
    · have hq := h2.p (by decide)
      exact ⟨fun _ => ⟨fun _ => hq, fun _ => hp⟩, fun _ => rfl⟩
def rCt (s : Zr) (L : List Nat) (ps : List (Nat → Prop)) : Prop := L.length = ps.length ∧ L.length ≤ 12 ∧ s 0 52 = nI L.length ∧ ∀ i, i < L.length → s 41 i = nI (L.getD i 0) ∧ L.getD i 0 < 12 ∧ ∀ v, v < 12 → (s 40 v = nI (L.getD i 0) ↔ ps.getD i (fun _ => False) v)
theorem map_gd {α : Type} (f : Nat → α) (d : α) : ∀ (l : List Nat) (i : Nat), i < l.length → (l.map f).getD i d = f (l.getD i 0)
  | [], _, h => absurd h (Nat.not_lt_zero _)
  | _ :: _, 0, _ => rfl
  | _ :: l, i + 1, h => map_gd f d l i (Nat.lt_of_succ_lt_succ h)
theorem rCt_of {A : Nat → Nat → Prop} {S : Nat → Prop} (hA : ∀ a b, A a b → A b a) {s : Zr} {L : List Nat} (h : rL A S s) (hp : L.Perm (rtL A S)) (h52 : s 0 52 = nI L.length) (h41 : ∀ i, i < L.length → s 41 i = nI (L.getD i 0)) : rCt s L (L.map (CN A S)) := by
  refine ⟨(List.length_map _).symm, by rw [hp.length_eq]; exact rtL_12, h52, fun i hi => ?_⟩
  have : L.getD i 0 ∈ rtL A S := hp.subset (mem_gd.mp ⟨i, hi, rfl⟩)
  obtain ⟨h1, h2⟩ := rtL_mem.mp this
  refine ⟨h41 i hi, h1, fun v hv => ?_⟩
  rw [map_gd _ _ _ _ hi]
  exact rL_cn hA h h1 h2 hv
theorem OA_fw {arr : Nat → Int32} {val : Nat → Int32} {acc : List Nat} (h : OA arr val acc) {i : Nat} (hi : i < acc.reverse.length) : arr i = val (acc.reverse.getD i 0) := by
  rw [List.length_reverse] at hi
  have := h (acc.length - 1 - i) (by omega)
  rw [show acc.length - 1 - (acc.length - 1 - i) = i by omega] at this
  rw [this, getD_rev hi]
abbrev sCut (a k : Nat) : Prop := (40 ≤ a ∧ a ≤ 45) ∨ (a = 0 ∧ k = 52)
theorem sGt_c (a k : Nat) (z : sGt a k) : sCut a k := by omega
section CUTS
variable {s : Zr} {l : Rw}
theorem two_B {n : Nat} (h : n ≤ 12) : isB (if nI n ≤ (1 : Int32) then (0 : Int32) else 1) (1 < n) := by
  by_cases c : n ≤ 1
  · rw [if_pos (show nI n ≤ (1 : Int32) from nI_le (b := 1) c (by omega))]
    exact isB.f (by omega)
  · rw [if_neg (show ¬ nI n ≤ (1 : Int32) from nI_nle' (a := 1) (by omega) (by omega))]
    exact isB.t (by omega)
theorem cp144 {s0 : Zr} (o0 : rOnly sCut s s0) (h : LK s (xN l) (xB l) (xE l) (xG l)) : zS (zloop (fun ((v1, s2) : Int32 × Zr) =>
    (if (144 : Int32) ≤ v1 then
      some (.inr s2)
    else
      (rdZ s2 36 v1).bind fun x6 =>
      (wrZ s2 42 v1 x6).bind fun s7 =>
      some (.inl (v1 + (1 : Int32), s7)) : Option ((Int32 × Zr) ⊕ Zr))) zFU ((0 : Int32), s0)) (fun s' => T2 s' 42 (fun a b => xG l b a) ∧ rOnly sCut s s') := by
  refine zS.up (fun k s' => (∀ i, i < k → s' 42 i = s 36 i) ∧ rOnly sCut s s') 0 144 (fun k s' _ hk hJ => ?_) (fun s' hJ => ?_) (Nat.zero_le _) (by omega) ⟨fun _ z => absurd z (Nat.not_lt_zero _), o0⟩
  · dsimp only
    have hv : s' 36 k = 0 ∨ s' 36 k = 1 := by
      rw [hJ.2 36 k (by omega)]
      have := (h.2 (k % 12) (k / 12) (by omega) (by omega)).1
      rw [show 12 * (k / 12) + k % 12 = k by omega] at this
      exact this
    rw [if_neg (k144 hk), rd36 hk, Option.bind_some, wr42 hk hv, Option.bind_some]
    refine zS.s ⟨_, by rw [nI_1], fun i hi => ?_, hJ.2.tr (rOnly.u (by omega))⟩
    by_cases c : i = k
    · subst c; rw [u2_s, hJ.2 36 i (by omega)]
    · rw [u2_n (fun z => c z.2)]; exact hJ.1 i (by omega)
  · dsimp only
    rw [if_pos e144]
    exact zS.s ⟨_, rfl, fun u v hu hv => by rw [hJ.1 _ (by omega)]; exact h.2 v u hv hu, hJ.2⟩
theorem LK.cut {s' : Zr} (h : LK s (xN l) (xB l) (xE l) (xG l)) (o : rOnly sCut s s') : LK s' (xN l) (xB l) (xE l) (xG l) := h.only o (fun a k _ _ => by omega)
theorem rchoice_eq (ok : xOK l) (h : LK s (xN l) (xB l) (xE l) (xG l)) : zS (fX6_cutsChoice s) (fun q => isB q.1 (1 < (rtL (xA1 l) (xN l)).length) ∧ rCt q.2 (rtL (xA1 l) (xN l)) (xPt (xA1 l) (xN l)) ∧ rOnly sCut s q.2) := by
  unfold fX6_cutsChoice
  refine zS.b (cp144 rOnly.rf h) (fun s1 ⟨b1, b2⟩ => ?_)
  refine zS.b (rgather_eq (A0 := fun a b => xG l b a) (A := xA1 l) (S := xN l) (Or.inl rfl) (fun v hv => ((h.cut b2).1 v hv).1) b1 (fun u v => ⟨fun z => z.symm, fun z => z.symm⟩) (fun v hv => xN_12 ok hv)) (fun s2 ⟨d1, d2⟩ => ?_)
  have l12 := rtL_12 (A := xA1 l) (S := xN l)
  refine zS.b (R1 := fun x => isB x (1 < (rtL (xA1 l) (xN l)).length)) ?_ (fun x hx => ?_)
  · have := two_B l12
    rw [d1.2.1]
    by_cases c : nI (rtL (xA1 l) (xN l)).length ≤ (1 : Int32)
    · rw [if_pos c] at this ⊢; exact zS.s this
    · rw [if_neg c] at this ⊢; exact zS.s this
  · rw [zbo_B hx, Option.bind_some]
    exact zS.s ⟨hx, rCt_of xA1_sy d1.1 (List.Perm.refl _) d1.2.1 d1.2.2, b2.tr (d2.mono sGt_c)⟩
theorem rrowc_eq (ok : xOK l) (h : LK s (xN l) (xB l) (xE l) (xG l)) : zS (fX6_cutsRow s) (fun q => isB q.1 (1 < (rtL (A2 (TC (xG l))) (xN l)).length) ∧ rCt q.2 ((ordR (TC (xG l)) (CN (A2 (TC (xG l))) (xN l)) (rtL (A2 (TC (xG l))) (xN l))).reverse) (xP2 l) ∧ rOnly sCut s q.2) := by
  unfold fX6_cutsRow
  have hS : ∀ v, xN l v → v < 12 := fun v hv => xN_12 ok hv
  have l12 := rtL_12 (A := A2 (TC (xG l))) (S := xN l)
  refine zS.b (rreach_eq h (fun u v g => ⟨hS u (xG_N g).1, hS v (xG_N g).2⟩)) (fun s1 ⟨b1, b2⟩ => ?_)
  have o1 : rOnly sCut s s1 := b2.mono (fun a k z => by omega)
  refine zS.b (R1 := fun s' => T2 s' 42 (A2 (TC (xG l))) ∧ rOnly (oA 42) s1 s') (zS.up (fun i s' => T3 s' 42 (A2 (TC (xG l))) (12 * i) ∧ rOnly (oA 42) s1 s') 0 12 (fun i s2 _ hi hJ => ?_) (fun s2 hJ => ?_) (Nat.zero_le _) (by omega) ⟨T3_0, rOnly.rf⟩) (fun s2 ⟨d1, d2⟩ => ?_)
  · dsimp only
    rw [if_neg (k12 hi)]
    refine zS.b (R1 := fun s' => T3 s' 42 (A2 (TC (xG l))) (12 * (i + 1)) ∧ rOnly (oA 42) s1 s') (zS.up (fun j s' => T3 s' 42 (A2 (TC (xG l))) (12 * i + j) ∧ rOnly (oA 42) s1 s') 0 12 (fun j s3 _ hj hJ2 => ?_) (fun s3 hJ2 => ?_) (Nat.zero_le _) (by omega) hJ) (fun r hr => zS.s ⟨_, by rw [nI_1], hr⟩)
    · dsimp only
      have c1 := b1 i j hi hj
      have c2 := b1 j i hj hi
      have ee := isB_eq c1 c2
      rw [if_neg (k12 hj), m12, m12, rd43 (by omega), Option.bind_some, rd43 (by omega), Option.bind_some, hJ2.2 43 _ (by omega), hJ2.2 43 _ (by omega)]
      refine zS.b (R1 := fun x => isB x (A2 (TC (xG l)) i j)) ?_ (fun x hx => ?_)
      · by_cases e : s1 43 (12 * i + j) = s1 43 (12 * j + i)
        · rw [if_pos e]; exact zS.s (isB.t (ee.mp e))
        · rw [if_neg e]; exact zS.s (isB.f (fun z => e (ee.mpr z)))
      · rw [wr42 (by omega) hx.1, Option.bind_some]
        exact zS.s ⟨_, by rw [nI_1], T3_s hj hJ2.1 hx, hJ2.2.tr (rOnly.u rfl)⟩
    · dsimp only
      rw [if_pos e12]
      exact zS.s ⟨_, rfl, hJ2⟩
  · dsimp only
    rw [if_pos e12]
    exact zS.s ⟨_, rfl, T3_e hJ.1, hJ.2⟩
  have o2 : rOnly sCut s s2 := o1.tr (d2.mono (fun a k z => by omega))
  refine zS.b (rgather_eq (A0 := A2 (TC (xG l))) (A := A2 (TC (xG l))) (S := xN l) (Or.inl rfl) (fun v hv => ((h.cut o2).1 v hv).1) d1 (fun u v => ⟨Or.inl, fun z => z.elim id (A2.sy v u)⟩) hS) (fun s3 ⟨g1, g2⟩ => ?_)
  refine zS.b (rjoin0_eq (R := TC (xG l)) (fun a b c x y => TC.tr x y) hS g1 ((b1.only d2 (fun k => by omega)).only g2 (fun k => by omega))) (fun s4 ⟨j1, j2, j3⟩ => ?_)
  refine zS.b (rorder_eq hS j1 j2) (fun s5 ⟨r1, r2⟩ => ?_)
  have e52 : s5 0 52 = nI (rtL (A2 (TC (xG l))) (xN l)).length := by rw [r2 0 52 (by omega)]; exact j1.2.1
  refine zS.b (R1 := fun x => isB x (1 < (rtL (A2 (TC (xG l))) (xN l)).length)) ?_ (fun x hx => ?_)
  · have := two_B l12
    rw [e52]
    by_cases c : nI (rtL (A2 (TC (xG l))) (xN l)).length ≤ (1 : Int32)
    · rw [if_pos c] at this ⊢; exact zS.s this
    · rw [if_neg c] at this ⊢; exact zS.s this
  · rw [zbo_B hx, Option.bind_some]
    have pm : ((ordR (TC (xG l)) (CN (A2 (TC (xG l))) (xN l)) (rtL (A2 (TC (xG l))) (xN l))).reverse).Perm (rtL (A2 (TC (xG l))) (xN l)) := (List.reverse_perm _).trans (ordR_perm _)
    refine zS.s ⟨hx, rCt_of A2.sy (fun v hv => by dsimp only; rw [r2 40 v (by omega)]; exact j1.1 v hv) pm (by rw [pm.length_eq]; exact e52) (fun i hi => OA_fw r1 hi), ((o2.tr (g2.mono sGt_c)).tr (j3.mono sGt_c)).tr (r2.mono (fun a k z => by omega))⟩
end CUTS
/-! found on the reference's side: to beside -/
theorem zS.gen {β σ ρ : Type} {f : σ → Option (σ ⊕ ρ)} (e : Nat → β → σ) (J : Nat → β → Prop) {P : ρ → Prop} (a N : Nat) {x0 : β}
    (hf : ∀ k x, a ≤ k → k < N → J k x → zS (f (e k x)) (fun q => (∃ x', q = .inl (e (k + 1) x') ∧ J (k + 1) x') ∨ ∃ r, q = .inr r ∧ P r))
    (hN : ∀ x, J N x → zS (f (e N x)) (fun q => ∃ r, q = .inr r ∧ P r)) (ha : a ≤ N) (hN' : N < 100000) (h0 : J a x0) : zS (zloop f zFU (e a x0)) P := by
  obtain ⟨r, er, p⟩ := zloop_inv (f := f) (fun (n : Nat) (s : σ) => ∃ k x, n = N - k ∧ a ≤ k ∧ k ≤ N ∧ s = e k x ∧ J k x) P (by
    rintro n s ⟨k, x, hn, hk0, hk, rfl, hJ⟩
    by_cases c : k = N
    · subst c
      obtain ⟨q, e1, r, e2, e3⟩ := hN x hJ
      exact Or.inr ⟨r, by rw [e1, e2], e3⟩
    · obtain ⟨q, e1, ⟨x', e2, e3⟩ | ⟨r, e2, e3⟩⟩ := hf k x hk0 (by omega) hJ
      · exact Or.inl ⟨_, N - (k + 1), by rw [e1, e2], by omega, k + 1, x', rfl, by omega, by omega, rfl, e3⟩
      · exact Or.inr ⟨r, by rw [e1, e2], e3⟩) (N - a) (e a x0) zFU ⟨a, x0, rfl, Nat.le_refl _, ha, rfl, h0⟩ (by rw [zFU_v]; omega)
  exact ⟨r, er, p⟩
theorem ex_up {m : Nat} {x : Int32} {Q : Nat → Prop} {o : Option Int32} (h : isB x (∃ v, v < m ∧ Q v)) (ho : zS o (fun y => isB y (Q m))) : zS (if x = 0 then o else some 1) (fun y => isB y (∃ v, v < m + 1 ∧ Q v)) := by
  by_cases c : x = 0
  · rw [if_pos c]
    obtain ⟨y, e, hy⟩ := ho
    exact ⟨y, e, hy.c ⟨fun z => ⟨m, by omega, z⟩, fun ⟨v, v1, v2⟩ => by
      by_cases d : v = m
      · subst d; exact v2
      · exact (h.n c ⟨v, by omega, v2⟩).elim⟩⟩
  · rw [if_neg c]
    obtain ⟨v, v1, v2⟩ := h.p c
    exact zS.s (isB.t ⟨v, by omega, v2⟩)
theorem all_up {m : Nat} {x : Int32} {Q : Nat → Prop} {o : Option Int32} (h : isB x (∀ v, v < m → Q v)) (ho : zS o (fun y => isB y (Q m))) : zS (if x = 0 then some 0 else o) (fun y => isB y (∀ v, v < m + 1 → Q v)) := by
  by_cases c : x = 0
  · rw [if_pos c]
    exact zS.s (isB.f (fun z => h.n c (fun v hv => z v (by omega))))
  · rw [if_neg c]
    obtain ⟨y, e, hy⟩ := ho
    have hx := h.p c
    exact ⟨y, e, hy.c ⟨fun z v hv => by
      by_cases d : v = m
      · subst d; exact z
      · exact hx v (by omega), fun z => z m (by omega)⟩⟩
theorem bb_id {x : Int32} {p : Prop} (h : isB x p) : zS (if x = 0 then some (0 : Int32) else some 1) (fun y => isB y p) := by
  by_cases c : x = 0
  · rw [if_pos c]; exact zS.s (isB.f (h.n c))
  · rw [if_neg c]; exact zS.s (isB.t (h.p c))
section BES
variable {s : Zr} {l : Rw}
def bsR (l : Rw) (r : Nat) : Prop := (∃ v, CN (xA3 l) (xN l) r v ∧ xB l v) ∧ ∃ v, CN (xA3 l) (xN l) r v ∧ xE l v
theorem rbeside_eq (ok : xOK l) (h : LK s (xN l) (xB l) (xE l) (xG l)) : zS (fX6_cutsBeside s) (fun q => isB q.1 (1 < (rtL (xA3 l) (xN l)).length ∧ ∀ r, r ∈ rtL (xA3 l) (xN l) → bsR l r) ∧ rCt q.2 (rtL (xA3 l) (xN l)) (xPt (xA3 l) (xN l)) ∧ rOnly sCut s q.2) := by
  unfold fX6_cutsBeside
  have hS : ∀ v, xN l v → v < 12 := fun v hv => xN_12 ok hv
  have l12 := rtL_12 (A := xA3 l) (S := xN l)
  refine zS.b (R1 := fun s' => T2 s' 42 (xA3 l) ∧ rOnly (oA 42) s s') (zS.up (fun i s' => T3 s' 42 (xA3 l) (12 * i) ∧ rOnly (oA 42) s s') 0 12 (fun i s2 _ hi hJ => ?_) (fun s2 hJ => ?_) (Nat.zero_le _) (by omega) ⟨T3_0, rOnly.rf⟩) (fun s2 ⟨d1, d2⟩ => ?_)
  · dsimp only
    rw [if_neg (k12 hi)]
    refine zS.b (R1 := fun s' => T3 s' 42 (xA3 l) (12 * (i + 1)) ∧ rOnly (oA 42) s s') (zS.up (fun j s' => T3 s' 42 (xA3 l) (12 * i + j) ∧ rOnly (oA 42) s s') 0 12 (fun j s3 _ hj hJ2 => ?_) (fun s3 hJ2 => ?_) (Nat.zero_le _) (by omega) hJ) (fun r hr => zS.s ⟨_, by rw [nI_1], hr⟩)
    · dsimp only
      have c1 := h.2 j i hj hi
      have c2 := h.2 i j hi hj
      rw [if_neg (k12 hj), m12, m12, rd36 (by omega), Option.bind_some, hJ2.2 36 _ (by omega)]
      refine zS.b (R1 := fun x => isB x (xA3 l i j)) ?_ (fun x hx => ?_)
      · by_cases e1 : s 36 (12 * i + j) = 0
        · rw [if_pos e1]; exact zS.s (isB.t (fun z => c1.n e1 z.2))
        · rw [if_neg e1, rd36 (by omega), Option.bind_some, hJ2.2 36 _ (by omega)]
          by_cases e2 : s 36 (12 * j + i) = 0
          · rw [if_pos e2]; exact zS.s (isB.t (fun z => c2.n e2 z.1))
          · rw [if_neg e2]; exact zS.s (isB.f (fun z => z ⟨c2.p e2, c1.p e1⟩))
      · rw [wr42 (by omega) hx.1, Option.bind_some]
        exact zS.s ⟨_, by rw [nI_1], T3_s hj hJ2.1 hx, hJ2.2.tr (rOnly.u rfl)⟩
    · dsimp only
      rw [if_pos e12]
      exact zS.s ⟨_, rfl, hJ2⟩
  · dsimp only
    rw [if_pos e12]
    exact zS.s ⟨_, rfl, T3_e hJ.1, hJ.2⟩
  have o2 : rOnly sCut s s2 := d2.mono (fun a k z => by omega)
  refine zS.b (rgather_eq (A0 := xA3 l) (A := xA3 l) (S := xN l) (Or.inl rfl) (fun v hv => ((h.cut o2).1 v hv).1) d1 (fun u v => ⟨Or.inl, fun z => z.elim id (xA3_sy v u)⟩) hS) (fun s3 ⟨g1, g2⟩ => ?_)
  have o3 : rOnly sCut s s3 := o2.tr (g2.mono sGt_c)
  have h3 := h.cut o3
  have e52 := g1.2.1
  refine zS.b (R1 := fun x => isB x (1 < (rtL (xA3 l) (xN l)).length)) ?_ (fun x hx => ?_)
  · have := two_B l12
    rw [e52]
    by_cases c : nI (rtL (xA3 l) (xN l)).length ≤ (1 : Int32)
    · rw [if_pos c] at this ⊢; exact zS.s this
    · rw [if_neg c] at this ⊢; exact zS.s this
  generalize eL : rtL (xA3 l) (xN l) = L at *
  refine zS.b (R1 := fun x => isB x (1 < L.length ∧ ∀ i, i < L.length → bsR l (L.getD i 0))) (zS.gen (fun k (x : Int32) => (x, nI k)) (fun k x => isB x (1 < L.length ∧ ∀ i, i < k → bsR l (L.getD i 0))) 0 L.length (fun k x _ hk hJ => ?_) (fun x hJ => ?_) (Nat.zero_le _) (by omega) (hx.c ⟨fun z => ⟨z, fun _ y => absurd y (Nat.not_lt_zero _)⟩, fun z => z.1⟩)) (fun y hy => ?_)
  · obtain ⟨r, r1, r2, r3, r4⟩ := g1.at xA3_sy (i := k) (by rw [eL]; exact hk)
    rw [eL] at r4
    dsimp only
    rw [if_neg (show ¬ s3 0 52 ≤ nI k by rw [e52]; exact nI_nle' (by omega) hk)]
    refine zS.b (R1 := fun q : Int32 × Int32 => isB q.1 (∃ v, v < 12 ∧ CN (xA3 l) (xN l) r v ∧ xB l v) ∧ isB q.2 (∃ v, v < 12 ∧ CN (xA3 l) (xN l) r v ∧ xE l v)) (zS.gen (fun k (q : Int32 × Int32) => (q.1, q.2, nI k)) (fun k q => isB q.1 (∃ v, v < k ∧ CN (xA3 l) (xN l) r v ∧ xB l v) ∧ isB q.2 (∃ v, v < k ∧ CN (xA3 l) (xN l) r v ∧ xE l v)) 0 12 (fun j q _ hj hJ2 => ?_) (fun q hJ2 => ?_) (Nat.zero_le _) (by omega) (x0 := ((0 : Int32), (0 : Int32))) ⟨isB.f (fun ⟨_, y, _⟩ => absurd y (Nat.not_lt_zero _)), isB.f (fun ⟨_, y, _⟩ => absurd y (Nat.not_lt_zero _))⟩) (fun q hq => ?_)
    · obtain ⟨y1, y2⟩ := hJ2
      obtain ⟨-, b38, b39⟩ := h3.1 j hj
      have cn := rL_cn xA3_sy g1.1 r1 r2 hj
      dsimp only
      rw [if_neg (k12 hj)]
      refine zS.b (R1 := fun y => isB y (∃ v, v < j + 1 ∧ CN (xA3 l) (xN l) r v ∧ xB l v)) (ex_up y1 ?_) (fun y hy => ?_)
      · rw [rd40 hj, Option.bind_some, rd41 (by omega), Option.bind_some, r3]
        by_cases c : s3 40 j = nI r
        · rw [if_pos c, rd38 hj, Option.bind_some]
          exact zS.m (bb_id b38) (fun y hy => hy.c ⟨fun z => ⟨cn.mp c, z⟩, fun z => z.2⟩)
        · rw [if_neg c]
          exact zS.s (isB.f (fun z => c (cn.mpr z.1)))
      · refine zS.b (R1 := fun y => isB y (∃ v, v < j + 1 ∧ CN (xA3 l) (xN l) r v ∧ xE l v)) (ex_up y2 ?_) (fun y' hy' => ?_)
        · rw [rd40 hj, Option.bind_some, rd41 (by omega), Option.bind_some, r3]
          by_cases c : s3 40 j = nI r
          · rw [if_pos c, rd39 hj, Option.bind_some]
            exact zS.m (bb_id b39) (fun y hy => hy.c ⟨fun z => ⟨cn.mp c, z⟩, fun z => z.2⟩)
          · rw [if_neg c]
            exact zS.s (isB.f (fun z => c (cn.mpr z.1)))
        · exact zS.s (Or.inl ⟨(y, y'), by rw [nI_1], hy, hy'⟩)
    · dsimp only
      rw [if_pos e12]
      exact zS.s ⟨_, rfl, hJ2⟩
    · obtain ⟨w27, w28⟩ := q
      obtain ⟨q1, q2⟩ := hq
      dsimp only at q1 q2 ⊢
      have q1' : isB w27 (∃ v, CN (xA3 l) (xN l) r v ∧ xB l v) := q1.c ⟨fun ⟨v, _, z⟩ => ⟨v, z⟩, fun ⟨v, z⟩ => ⟨v, hS v z.1.s2, z⟩⟩
      have q2' : isB w28 (∃ v, CN (xA3 l) (xN l) r v ∧ xE l v) := q2.c ⟨fun ⟨v, _, z⟩ => ⟨v, z⟩, fun ⟨v, z⟩ => ⟨v, hS v z.1.s2, z⟩⟩
      refine zS.b (R1 := fun y => isB y (1 < L.length ∧ ∀ i, i < k + 1 → bsR l (L.getD i 0))) ?_ (fun y hy => zS.s (Or.inl ⟨y, by rw [nI_1], hy⟩))
      have fin : 1 < L.length ∧ (∀ i, i < k → bsR l (L.getD i 0)) → bsR l r → 1 < L.length ∧ ∀ i, i < k + 1 → bsR l (L.getD i 0) := fun z y => ⟨z.1, fun i hi => by
        by_cases c : i = k
        · subst c; rw [← r4]; exact y
        · exact z.2 i (by omega)⟩
      by_cases c0 : x = 0
      · rw [if_pos c0]
        exact zS.s (isB.f (fun z => hJ.n c0 ⟨z.1, fun i hi => z.2 i (by omega)⟩))
      · rw [if_neg c0]
        by_cases c1 : w27 = 0
        · rw [if_pos c1]
          exact zS.s (isB.f (fun z => q1'.n c1 (by have := z.2 k (by omega); rw [← r4] at this; exact this.1)))
        · rw [if_neg c1]
          by_cases c2 : w28 = 0
          · rw [if_pos c2]
            exact zS.s (isB.f (fun z => q2'.n c2 (by have := z.2 k (by omega); rw [← r4] at this; exact this.2)))
          · rw [if_neg c2]
            exact zS.s (isB.t (fin (hJ.p c0) ⟨q1'.p c1, q2'.p c2⟩))
  · dsimp only
    rw [if_pos (show s3 0 52 ≤ nI L.length by rw [e52]; exact nI_le (Nat.le_refl _) (by omega))]
    exact zS.s ⟨_, rfl, hJ⟩
  · rw [zbo_B hy, Option.bind_some]
    refine zS.s ⟨hy.c ⟨fun z => ⟨z.1, fun r hr => ?_⟩, fun z => ⟨z.1, fun i hi => z.2 _ (mem_gd.mp ⟨i, hi, rfl⟩)⟩⟩, ?_, o3⟩
    · obtain ⟨i, i1, i2⟩ := mem_gd.mpr hr
      rw [← i2]; exact z.2 i i1
    · have := rCt_of xA3_sy g1.1 (List.Perm.refl _) g1.2.1 g1.2.2
      rw [eL] at this
      unfold xPt
      rw [eL]
      exact this
end BES
/-! found on the reference's side: which parts go into the body -/
section GOES
variable {s : Zr} {l : Rw}
def gX (l : Rw) (M : Nat → Prop) (v : Nat) : Prop := (∃ u, u < 12 ∧ M u ∧ ((xG l u v ∧ ¬ xE l u) ∨ (xG l v u ∧ ¬ xB l u))) ∨
  ((∃ u, u < 12 ∧ (xE l u ∧ xG l u v)) ∧ ¬ ∀ u, u < 12 → (xE l u → xG l u v)) ∨ ((∃ u, u < 12 ∧ (xB l u ∧ xG l v u)) ∧ ¬ ∀ u, u < 12 → (xB l u → xG l v u))
theorem rgoes_eq {M : Nat → Prop} (h : LK s (xN l) (xB l) (xE l) (xG l)) (h44 : ∀ v, v < 12 → isB (s 44 v) (M v)) {v : Nat} (hv : v < 12) : zS (fX6_goesIn s (nI v)) (fun x => isB x (gX l M v)) := by
  unfold fX6_goesIn
  let Q5 : Nat → Prop := fun u => M u ∧ ((xG l u v ∧ ¬ xE l u) ∨ (xG l v u ∧ ¬ xB l u))
  let Q1 : Nat → Prop := fun u => xE l u ∧ xG l u v
  let Q2 : Nat → Prop := fun u => xE l u → xG l u v
  let Q3 : Nat → Prop := fun u => xB l u ∧ xG l v u
  let Q4 : Nat → Prop := fun u => xB l u → xG l v u
  let J : Nat → Int32 × Int32 × Int32 × Int32 × Int32 → Prop := fun k q => isB q.1 (∃ u, u < k ∧ Q1 u) ∧ isB q.2.1 (∀ u, u < k → Q2 u) ∧ isB q.2.2.1 (∃ u, u < k ∧ Q3 u) ∧ isB q.2.2.2.1 (∀ u, u < k → Q4 u) ∧ isB q.2.2.2.2 (∃ u, u < k ∧ Q5 u)
  refine zS.b (R1 := J 12) (zS.gen (fun k (q : Int32 × Int32 × Int32 × Int32 × Int32) => (q.1, q.2.1, q.2.2.1, q.2.2.2.1, q.2.2.2.2, nI k)) J 0 12 (fun k q _ hk hJ => ?_) (fun q hJ => ?_) (Nat.zero_le _) (by omega) (x0 := ((0 : Int32), (1 : Int32), (0 : Int32), (1 : Int32), (0 : Int32))) ⟨isB.f (fun ⟨_, y, _⟩ => absurd y (Nat.not_lt_zero _)), isB.t (fun _ y => absurd y (Nat.not_lt_zero _)), isB.f (fun ⟨_, y, _⟩ => absurd y (Nat.not_lt_zero _)), isB.t (fun _ y => absurd y (Nat.not_lt_zero _)), isB.f (fun ⟨_, y, _⟩ => absurd y (Nat.not_lt_zero _))⟩) (fun q hq => ?_)
  · obtain ⟨a1, a2, a3, a4, a5⟩ := hJ
    obtain ⟨-, b38, b39⟩ := h.1 k hk
    have c14 := h.2 k v hk hv
    have c15 := h.2 v k hv hk
    have b44 := h44 k hk
    dsimp only
    rw [if_neg (k12 hk), m12, m12, rd36 (by omega), Option.bind_some, rd36 (by omega), Option.bind_some]
    generalize s 36 (12 * v + k) = x14 at c14
    generalize s 36 (12 * k + v) = x15 at c15
    refine zS.b (R1 := fun y => isB y (∃ u, u < k + 1 ∧ Q5 u)) (ex_up a5 ?_) (fun y5 hy5 => ?_)
    · rw [rd44 hk, Option.bind_some]
      by_cases d : s 44 k = 0
      · rw [if_pos d]; exact zS.s (isB.f (fun z => b44.n d z.1))
      · rw [if_neg d]
        have m44 := b44.p d
        have tail : ∀ p : Prop, p = (xG l v k ∧ ¬ xB l k) → zS (if x15 = 0 then some (0 : Int32) else (rdZ s 38 (nI k)).bind fun x19 => if x19 = 0 then some 1 else some 0) (fun y => isB y p) := fun p hp => by
          subst hp
          by_cases e : x15 = 0
          · rw [if_pos e]; exact zS.s (isB.f (fun z => c15.n e z.1))
          · rw [if_neg e, rd38 hk, Option.bind_some]
            by_cases f : s 38 k = 0
            · rw [if_pos f]; exact zS.s (isB.t ⟨c15.p e, b38.n f⟩)
            · rw [if_neg f]; exact zS.s (isB.f (fun z => z.2 (b38.p f)))
        by_cases e : x14 = 0
        · rw [if_pos e]
          exact zS.m (tail _ rfl) (fun y hy => hy.c ⟨fun z => ⟨m44, Or.inr z⟩, fun z => z.2.elim (fun w => (c14.n e w.1).elim) id⟩)
        · rw [if_neg e, rd39 hk, Option.bind_some]
          by_cases f : s 39 k = 0
          · rw [if_pos f]; exact zS.s (isB.t ⟨m44, Or.inl ⟨c14.p e, b39.n f⟩⟩)
          · rw [if_neg f]
            exact zS.m (tail _ rfl) (fun y hy => hy.c ⟨fun z => ⟨m44, Or.inr z⟩, fun z => z.2.elim (fun w => (w.2 (b39.p f)).elim) id⟩)
    refine zS.b (R1 := fun y => isB y (∃ u, u < k + 1 ∧ Q1 u)) (ex_up a1 ?_) (fun y1 hy1 => ?_)
    · rw [rd39 hk, Option.bind_some]
      by_cases d : s 39 k = 0
      · rw [if_pos d]; exact zS.s (isB.f (fun z => b39.n d z.1))
      · rw [if_neg d]
        exact zS.m (bb_id c14) (fun y hy => hy.c ⟨fun z => ⟨b39.p d, z⟩, fun z => z.2⟩)
    refine zS.b (R1 := fun y => isB y (∀ u, u < k + 1 → Q2 u)) (all_up a2 ?_) (fun y2 hy2 => ?_)
    · rw [rd39 hk, Option.bind_some]
      by_cases d : s 39 k = 0
      · rw [if_pos d]; exact zS.s (isB.t (fun z => (b39.n d z).elim))
      · rw [if_neg d]
        exact zS.m (bb_id c14) (fun y hy => hy.c ⟨fun z _ => z, fun z => z (b39.p d)⟩)
    refine zS.b (R1 := fun y => isB y (∃ u, u < k + 1 ∧ Q3 u)) (ex_up a3 ?_) (fun y3 hy3 => ?_)
    · rw [rd38 hk, Option.bind_some]
      by_cases d : s 38 k = 0
      · rw [if_pos d]; exact zS.s (isB.f (fun z => b38.n d z.1))
      · rw [if_neg d]
        exact zS.m (bb_id c15) (fun y hy => hy.c ⟨fun z => ⟨b38.p d, z⟩, fun z => z.2⟩)
    refine zS.b (R1 := fun y => isB y (∀ u, u < k + 1 → Q4 u)) (all_up a4 ?_) (fun y4 hy4 => ?_)
    · rw [rd38 hk, Option.bind_some]
      by_cases d : s 38 k = 0
      · rw [if_pos d]; exact zS.s (isB.t (fun z => (b38.n d z).elim))
      · rw [if_neg d]
        exact zS.m (bb_id c15) (fun y hy => hy.c ⟨fun z _ => z, fun z => z (b38.p d)⟩)
    exact zS.s (Or.inl ⟨(y1, y2, y3, y4, y5), by rw [nI_1], hy1, hy2, hy3, hy4, hy5⟩)
  · dsimp only
    rw [if_pos e12]
    exact zS.s ⟨_, rfl, hJ⟩
  · obtain ⟨w7, w8, w9, w10, w11⟩ := q
    obtain ⟨a1, a2, a3, a4, a5⟩ := hq
    dsimp only at a1 a2 a3 a4 a5 ⊢
    refine zS.b (R1 := fun x => isB x (gX l M v)) ?_ (fun x hx => by rw [zbo_B hx, Option.bind_some]; exact zS.s hx)
    by_cases c11 : w11 = 0
    · rw [if_pos c11]
      have n5 := a5.n c11
      have t34 : ∀ p : Prop, (gX l M v ↔ p ∨ ((∃ u, u < 12 ∧ Q3 u) ∧ ¬ ∀ u, u < 12 → Q4 u)) → ¬ p → zS (if w9 = 0 then some (0 : Int32) else if w10 = 0 then some 1 else some 0) (fun x => isB x (gX l M v)) := fun p hp np => by
        by_cases c9 : w9 = 0
        · rw [if_pos c9]
          exact zS.s (isB.f (fun z => (hp.mp z).elim np (fun y => a3.n c9 y.1)))
        · rw [if_neg c9]
          by_cases c10 : w10 = 0
          · rw [if_pos c10]
            exact zS.s (isB.t (hp.mpr (Or.inr ⟨a3.p c9, a4.n c10⟩)))
          · rw [if_neg c10]
            exact zS.s (isB.f (fun z => (hp.mp z).elim np (fun y => y.2 (a4.p c10))))
      by_cases c7 : w7 = 0
      · rw [if_pos c7]
        exact t34 False ⟨fun z => Or.inr (z.elim (fun y => (n5 y).elim) (fun y => y.elim (fun w => (a1.n c7 w.1).elim) id)), fun z => z.elim False.elim (fun y => Or.inr (Or.inr y))⟩ id
      · rw [if_neg c7]
        by_cases c8 : w8 = 0
        · rw [if_pos c8]
          exact zS.s (isB.t (Or.inr (Or.inl ⟨a1.p c7, a2.n c8⟩)))
        · rw [if_neg c8]
          exact t34 False ⟨fun z => Or.inr (z.elim (fun y => (n5 y).elim) (fun y => y.elim (fun w => (w.2 (a2.p c8)).elim) id)), fun z => z.elim False.elim (fun y => Or.inr (Or.inr y))⟩ id
    · rw [if_neg c11]
      exact zS.s (isB.t (Or.inl (a5.p c11)))
/-- whether a name goes into the body does not change when other parts have gone -/
theorem gX_go (ok : xOK l) {K : Nat → Prop} {v r : Nat} (rr : isRt (xA1 l) (xS0 l) r) (cv : CN (xA1 l) (xS0 l) r v) (nk : ¬ K r) : gX l (fun u => (xB l u ∨ xE l u) ∨ ∃ t, isRt (xA1 l) (xS0 l) t ∧ K t ∧ CN (xA1 l) (xS0 l) t u) v ↔ xGo l v := by
  have hS : ∀ v, xN l v → v < 12 := fun v hv => xN_12 ok hv
  have sv := cv.s2
  have far : ∀ u, xA1 l u v → (∃ t, isRt (xA1 l) (xS0 l) t ∧ K t ∧ CN (xA1 l) (xS0 l) t u) → False := fun u a ⟨t, t1, t2, t3⟩ => by
    have := rt_one xA1_sy t1 rr (t3.st sv a) cv
    subst this
    exact nk t2
  unfold gX xGo
  constructor
  · rintro (⟨u, hu, m, h⟩ | ⟨⟨u, hu, h⟩, n⟩ | ⟨⟨u, hu, h⟩, n⟩)
    · rcases h with ⟨h1, h2⟩ | ⟨h1, h2⟩
      · exact Or.inl ⟨u, h1, m.elim id (fun z => (far u (Or.inl h1) z).elim), h2⟩
      · exact Or.inr (Or.inl ⟨u, h1, m.elim id (fun z => (far u (Or.inr h1) z).elim), h2⟩)
    · exact Or.inr (Or.inr (Or.inl ⟨⟨u, h⟩, fun z => n (fun u _ => z u)⟩))
    · exact Or.inr (Or.inr (Or.inr ⟨⟨u, h⟩, fun z => n (fun u _ => z u)⟩))
  · rintro (⟨u, h1, h2, h3⟩ | ⟨u, h1, h2, h3⟩ | ⟨⟨u, h⟩, n⟩ | ⟨⟨u, h⟩, n⟩)
    · exact Or.inl ⟨u, hS u (xG_N h1).1, Or.inl h2, Or.inl ⟨h1, h3⟩⟩
    · exact Or.inl ⟨u, hS u (xG_N h1).2, Or.inl h2, Or.inr ⟨h1, h3⟩⟩
    · exact Or.inr (Or.inl ⟨⟨u, hS u (xE_N h.1), h⟩, fun z => n (fun u e => z u (hS u (xE_N e)) e)⟩)
    · exact Or.inr (Or.inr ⟨⟨u, hS u (xB_N h.1), h⟩, fun z => n (fun u e => z u (hS u (xB_N e)) e)⟩)
end GOES
