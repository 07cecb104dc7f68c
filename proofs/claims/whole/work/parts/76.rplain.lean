/-! a node made plain, on the reference's side -/
theorem tGt_sum : ∀ t : Tr, tSum (tGt t) + 1 ≤ tSz t
  | .var _ => Nat.le_refl _
  | .op t k => by
    have h1 := tGt_sum t
    have h2 := (tPl_sz k).2
    have h3 := rTk_sum (tLab t) (tGt t) (tPl k)
    show tSum (rTk (tLab t) (tGt t) (tPl k)) + 1 ≤ tSz t + tSz k
    omega
theorem tGt_S (t : Tr) (j : Nat) (h : j < tLen t) : tGt (tPre t (j + 1)) = rTk (tLab t) (tGt (tPre t j)) (tPl (tKid t j)) := by
  rw [tPre_S t j h]
  show rTk (tLab (tPre t j)) _ _ = _
  rw [tPre_lab]
theorem tMk_app (lab : Nat) (l : List Tr) (x : Tr) : tMk lab (l ++ [x]) = .op (tMk lab l) x := by
  unfold tMk
  rw [List.foldl_append]
  rfl
theorem tMk_lab (lab : Nat) : ∀ l, tLab (tMk lab l) = lab := by
  apply snocT
  · rfl
  · intro l x ih
    rw [tMk_app]
    exact ih
theorem tMk_len (lab : Nat) : ∀ l, tLen (tMk lab l) = l.length := by
  apply snocT
  · rfl
  · intro l x ih
    rw [tMk_app, List.length_append]
    show tLen (tMk lab l) + 1 = _
    rw [ih]
    rfl
theorem tMk_kid (lab : Nat) : ∀ (l : List Tr) (j : Nat), j < l.length → tKid (tMk lab l) j = l.getD j (.var 0) := by
  apply snocT
  · intro j h; exact absurd h (Nat.not_lt_zero _)
  · intro l x ih j hj
    rw [tMk_app]
    show (if j = tLen (tMk lab l) then x else tKid (tMk lab l) j) = _
    rw [tMk_len]
    rw [List.length_append] at hj
    have hj' : j < l.length + 1 := hj
    by_cases e : j = l.length
    · subst e
      rw [if_pos rfl, List.getD_eq_getElem?_getD, List.getElem?_append_right (Nat.le_refl _), Nat.sub_self]
      rfl
    · rw [if_neg e, ih j (by omega), List.getD_eq_getElem?_getD, List.getD_eq_getElem?_getD, List.getElem?_append_left (by omega)]
theorem tMk_G (lab : Nat) (h13 : 13 ≤ lab) (h16 : lab ≤ 16) : ∀ l, (∀ t, t ∈ l → tOK t) → tG (tMk lab l) := by
  apply snocT
  · intro _; exact h16
  · intro l x ih h
    rw [tMk_app]
    have hx := h x (by simp)
    exact ⟨by rw [tMk_lab]; exact h13, ih (fun t ht => h t (by simp [ht])), hx.1, hx.2⟩
theorem tFn_2 (lab : Nat) : ∀ l : List Tr, 2 ≤ l.length → tFn lab l = tMk lab l
  | [], h => absurd h (by decide)
  | [_], h => absurd h (by show ¬ 2 ≤ 1; decide)
  | _ :: _ :: _, _ => rfl
theorem sg_mem {nt : Nat → Tr} {g : Nat → Nat} {a : Nat} {t : Tr} : ∀ n, t ∈ sg nt g a n → ∃ i, i < n ∧ t = nt (g (a + i))
  | 0, h => absurd h List.not_mem_nil
  | n + 1, h => by
    rcases List.mem_append.mp (show t ∈ sg nt g a n ++ [nt (g (a + n))] from h) with h | h
    · obtain ⟨i, h1, h2⟩ := sg_mem n h
      exact ⟨i, by omega, h2⟩
    · exact ⟨n, by omega, List.mem_singleton.mp h⟩
/-- the nodes not yet made plain -/
def nRw (par : Nat → Nat) (c : Nat) (s : Zr) (N L : Nat) (nt : Nat → Tr) : Prop := ∀ x, x < c → s 13 x = nI (tKd (tLab (nt x))) ∧ s 14 x = tNm (tLab (nt x)) ∧ s 16 x = nI (tLen (nt x)) ∧ ∃ f y0, s 15 x = nI f ∧ (f + tLen (nt x) ≤ L ∧ x < y0 ∧ y0 + tLen (nt x) ≤ N) ∧ ∀ j, j < tLen (nt x) → s 17 (f + j) = nI (y0 + j) ∧ nt (y0 + j) = tKid (nt x) j ∧ par (y0 + j) = x
def pJ (par : Nat → Nat) (c : Nat) (s : Zr) (N L0 L : Nat) (ot pt : Nat → Tr) (V : Nat → Prop) (po : Nat → Nat) : Prop := (s 0 20 = nI L ∧ L0 ≤ L ∧ L ≤ 100 + 100 * (N - c)) ∧ nRw par c s N L0 ot ∧ nSq V s N L pt ∧ (∀ y, y < N → V y → c ≤ y ∧ tOK (pt y)) ∧ ∀ x, c ≤ x → x < N → (s 22 x = nI (po x) ∧ V (po x) ∧ po x < N ∧ pt (po x) = tPl (ot x)) ∧ (nP s (po x)).Nodup ∧ ∀ z, z ∈ nP s (po x) → pD par z x
abbrev sPl (a k : Nat) : Prop := sGa a k ∨ (13 ≤ a ∧ a ≤ 17) ∨ a = 22 ∨ (a = 0 ∧ k = 20)
theorem rplainn_eq {par : Nat → Nat} (hp : ∀ z, par z ≤ z) {c : Nat} {s : Zr} {N L0 L : Nat} {ot pt : Nat → Tr} {V : Nat → Prop} {po : Nat → Nat} (J : pJ par (c + 1) s N L0 L ot pt V po) (hN : N ≤ 60) (hc : c < N) (hO : tOK (ot c)) (hz : tSz (ot c) ≤ 60) :
    zS (fX6_plainNode s (nI c)) (fun s' => ∃ L' pt' V' po', pJ par c s' N L0 L' ot pt' V' po' ∧ rOnly sPl s s') := by
  obtain ⟨⟨a1, a2, a3⟩, rw, sq, vo, pl⟩ := J
  obtain ⟨c1, c2, c3, f, yk, c4, ⟨c5, cy1, cy2⟩, c6⟩ := rw c (Nat.lt_succ_self _)
  have labc := tG_lab _ hO.1
  have hzl := tSz_1 (ot c)
  have hG : ∀ x, x < N → V x → tG (pt x) := fun x hx vx => (vo x hx vx).2.1
  unfold fX6_plainNode
  rw [wr22 (by omega), Option.bind_some, rd16 (by omega), Option.bind_some, u2_a (by decide), c3]
  have rwc : ∀ s', (∀ a k, (a = 13 ∨ a = 14 ∨ a = 15 ∨ a = 16) → k < c → s' a k = s a k) → (∀ k, k < L0 → s' 17 k = s 17 k) → nRw par c s' N L0 ot := fun s' e1 e2 x hx => by
    obtain ⟨d1, d2, d3, f', y0, d4, d5, d6⟩ := rw x (by omega)
    refine ⟨(e1 _ _ (by omega) hx).trans d1, (e1 _ _ (by omega) hx).trans d2, (e1 _ _ (by omega) hx).trans d3, f', y0, (e1 _ _ (by omega) hx).trans d4, d5, fun j hj => ?_⟩
    obtain ⟨y3, y4⟩ := d6 j hj
    exact ⟨(e2 _ (by omega)).trans y3, y4⟩
  have nPc : ∀ s', (∀ y, y < N → V y → s' 15 y = s 15 y ∧ s' 16 y = s 16 y) → (∀ z, z < L → s' 17 z = s 17 z) → ∀ x, x < N → V x → nP s' x = nP s x := fun s' e1 e2 x hx vx => nPs_congr sq (by omega) (by omega) e1 e2 nF x hx vx
  by_cases z : tLen (ot c) = 0
  · rw [if_pos (by rw [z]; rfl)]
    have el := tG_0 (ot c) z
    refine zS.s ⟨L, m1 pt c (ot c), fun y => y = c ∨ V y, m1 po c c, ⟨⟨by rw [u2_a (by decide)]; exact a1, a2, by omega⟩, rwc _ (fun a k h1 h2 => by rw [u2_a (by omega)]) (fun k hk => by rw [u2_a (by decide)]), fun y hy vy => ?_, fun y hy vy => ?_, fun x x1 x2 => ?_⟩, rOnly.u (by omega)⟩
    · by_cases e : y = c
      · subst e
        rw [m1_s, u2_a (by decide), u2_a (by decide), u2_a (by decide), u2_a (by decide)]
        exact ⟨c1, c2, c3, f, c4, by omega, fun j hj => by omega⟩
      · have vy' : V y := vy.resolve_left e
        obtain ⟨d1, d2, d3, f', d4, d5, d6⟩ := sq y hy vy'
        rw [m1_n e, u2_a (by decide), u2_a (by decide), u2_a (by decide), u2_a (by decide)]
        refine ⟨d1, d2, d3, f', d4, d5, fun j hj => ?_⟩
        obtain ⟨w, ⟨w1, w5⟩, w2, w3, w4⟩ := d6 j hj
        refine ⟨w, ⟨w1, Or.inr w5⟩, w2, by rw [u2_a (by decide)]; exact w3, ?_⟩
        have := (vo w w2 w5).1
        rw [m1_n (by omega)]; exact w4
    · by_cases e : y = c
      · subst e; rw [m1_s]; exact ⟨Nat.le_refl _, hO⟩
      · have := vo y hy (vy.resolve_left e)
        rw [m1_n e]; exact ⟨by omega, this.2⟩
    · by_cases e : x = c
      · subst e
        rw [u2_s, m1_s, m1_s]
        refine ⟨⟨rfl, Or.inl rfl, hc, ?_⟩, ?_⟩
        · unfold tPl tPf
          rw [if_pos z]
          exact el
        · have e1 : nP (u2 s 22 x (nI x)) x = [x] := by
            have hF : nF = 199 + 1 := rfl
            unfold nP
            rw [hF, nPs_S, u2_a (by decide), c3, nI_clamp (by omega), z]
            rfl
          rw [e1]
          exact ⟨List.nodup_cons.mpr ⟨List.not_mem_nil, List.nodup_nil⟩, fun w hw => by rw [List.mem_singleton.mp hw]; exact ⟨0, rfl⟩⟩
      · obtain ⟨⟨d1, d2, d3, d4⟩, d5⟩ := pl x (by omega) x2
        rw [u2_n (by omega), m1_n e]
        refine ⟨⟨d1, Or.inr d2, d3, ?_⟩, ?_⟩
        · have := (vo _ d3 d2).1
          rw [m1_n (by omega)]; exact d4
        · rw [nPc _ (fun y _ _ => ⟨by rw [u2_a (by decide)], by rw [u2_a (by decide)]⟩) (fun z _ => by rw [u2_a (by decide)]) _ d3 d2]
          exact d5
  · have l13 : 13 ≤ tLab (ot c) := by
      by_cases y : 13 ≤ tLab (ot c)
      · exact y
      · have := tG_leaf _ hO.1 (by omega); omega
    rw [if_neg (nI_ne0 (by omega) (by omega))]
    refine zS.e rfl ?_
    generalize es : u2 (u2 s 22 c (nI c)) 0 25 0 = s1
    have o1 : rOnly (fun a k => (a = 22 ∧ k = c) ∨ (a = 0 ∧ k = 25)) s s1 := by rw [← es]; exact (rOnly.u (by omega)).tr (rOnly.u (by omega))
    have g25 : s1 0 25 = nI 0 := by rw [← es, u2_s]; rfl
    have c22 : s1 22 c = nI c := by rw [← es, u2_a (by decide), u2_s]
    clear es
    have comb : ∀ s', rOnly sGa s1 s' → rOnly (fun a k => sGa a k ∨ (a = 22 ∧ k = c)) s s' := fun s' o => (o1.mono (fun a k z => by omega)).tr (o.mono (fun a k z => by omega))
    have sqO : ∀ s', rOnly sGa s1 s' → nSq V s' N L pt := fun s' o => sq.only (comb s' o) (by omega)
    refine zS.b (R1 := fun s' => ∃ g len, gl V s' N g len ∧ sg pt g 0 len = tGt (ot c) ∧ rOnly sGa s1 s' ∧ ((gN g len).flatMap (nP s)).Nodup ∧ ∀ z, z ∈ (gN g len).flatMap (nP s) → ∃ i, i < tLen (ot c) ∧ pD par z (yk + i)) (zS.up (fun j s' => ∃ g len, gl V s' N g len ∧ sg pt g 0 len = tGt (tPre (ot c) j) ∧ rOnly sGa s1 s' ∧ ((gN g len).flatMap (nP s)).Nodup ∧ ∀ z, z ∈ (gN g len).flatMap (nP s) → ∃ i, i < j ∧ pD par z (yk + i)) 0 (tLen (ot c)) (fun j s' _ hj hJ => ?_) (fun s' hJ => ?_) (Nat.zero_le _) (by omega) ⟨fun _ => 0, 0, ⟨g25, fun i hi => absurd hi (Nat.not_lt_zero _)⟩, by rw [tPre_0]; rfl, rOnly.rf, List.nodup_nil, fun z hz => absurd hz List.not_mem_nil⟩) (fun s2 ⟨g, len, b1, b2, b3', b4, b5⟩ => ?_)
    · obtain ⟨g, len, j1, j2, j3', j4, j5⟩ := hJ
      have j3 := comb _ j3'
      obtain ⟨y3, y4, y5⟩ := c6 j hj
      have y2 : yk + j < N := by omega
      obtain ⟨⟨p1, p2, p3, p4⟩, p5, p6⟩ := pl (yk + j) (by omega) y2
      have bs := tGt_sum (tPre (ot c) j)
      have bs2 := tPre_sz (ot c) j
      have bs3 := (tPl_sz (tKid (ot c) j)).2
      have bs4 := tKid_sz (ot c) j hj
      dsimp only
      rw [rd16 (by omega), Option.bind_some, j3 16 _ (by omega), c3, if_neg (nI_nle' (by omega) hj), rd13 (by omega), Option.bind_some, j3 13 _ (by omega), c1, rd15 (by omega), Option.bind_some, j3 15 _ (by omega), c4, nI_add, rd17 (by omega), Option.bind_some, j3 17 _ (by omega), y3, rd22 (by omega), Option.bind_some, j3 22 _ (by omega), p1]
      refine zS.b (rgat_eq (sqO s' j3') (by omega) (by omega) hG j1 p3 p2 l13 labc (by rw [j2, p4, y4]; omega)) (fun s3 ⟨g', len', q1, q2, q3, R, q4, q5⟩ => zS.s ⟨_, by rw [nI_1], g', len', q1, ?_, j3'.tr q3, ?_⟩)
      · rw [q2, j2, p4, y4, tGt_S _ j hj]
      · have sub : (R.flatMap (nP s)).Sublist (nP s (po (yk + j))) := by
          rcases q5 with q5 | q5
          · have := sub_flat (nP s) q5
            rwa [List.flatMap_cons, List.flatMap_nil, List.append_nil] at this
          · have e : nks s' (po (yk + j)) (tLen (pt (po (yk + j)))) = nks s (po (yk + j)) (tLen (pt (po (yk + j)))) := sg_congr _ (fun i hi => by
              show nk s' _ _ = nk s _ _
              unfold nk
              rw [j3 15 _ (by omega), j3 17 _ (by omega)])
            rw [e] at q5
            rw [nP_eq sq (by omega) (by omega) p3 p2]
            exact (sub_flat (nP s) q5).trans (List.sublist_append_left _ _)
        rw [q4, List.flatMap_append]
        refine ⟨List.nodup_append.mpr ⟨j4, sub.nodup p5, fun a ha b hb hab => ?_⟩, fun z hz => ?_⟩
        · subst hab
          obtain ⟨i, i1, i2⟩ := j5 a ha
          have i3 := p6 a (sub.subset hb)
          have := pD.one hp i2 i3 (c6 i (by omega)).2.2 y5 (by omega) (by omega)
          omega
        · rcases List.mem_append.mp hz with hz | hz
          · obtain ⟨i, i1, i2⟩ := j5 z hz
            exact ⟨i, by omega, i2⟩
          · exact ⟨j, by omega, p6 z (sub.subset hz)⟩
    · obtain ⟨g, len, j1, j2, j3', j4⟩ := hJ
      have j3 := comb _ j3'
      dsimp only
      rw [rd16 (by omega), Option.bind_some, j3 16 _ (by omega), c3, if_pos (nI_le (Nat.le_refl _) (by omega))]
      rw [tPre_all] at j2
      exact zS.s ⟨_, rfl, g, len, j1, j2, j3', j4⟩
    · have b3 := comb _ b3'
      have bs := tGt_sum (ot c)
      have bl := tSum_len (sg pt g 0 len)
      rw [sg_len, b2] at bl
      refine zS.e (rd13 (by omega)) ?_
      rw [b3 13 _ (by omega), c1]
      refine zS.b (R1 := fun s' => ∃ g', gl V s' N g' len ∧ sg pt g' 0 len = tPk (ot c) ∧ rOnly sGa s1 s' ∧ (gN g' len).Perm (gN g len)) ?_ (fun s3 ⟨g', d1, d2, d3', dP⟩ => ?_)
      · rw [← tGt_pk (ot c), ← b2]
        by_cases k2 : tLab (ot c) = 13
        · rw [if_pos ((tKd_2 labc).mpr k2)]
          refine zS.s ⟨g, b1, ?_, b3', List.Perm.refl _⟩
          unfold rFn
          rw [if_pos k2]
        · rw [if_neg (fun z => k2 ((tKd_2 labc).mp z))]
          refine zS.e (rd13 (by omega)) ?_
          rw [b3 13 _ (by omega), c1]
          by_cases k5 : tLab (ot c) = 16
          · rw [if_pos ((tKd_5 labc).mpr k5)]
            refine zS.e (x := nI 1) rfl ?_
            refine zS.b (rsort_eq (sqO s2 b3') (by omega) (by omega) hG b1 (Nat.le_refl 1) (by rw [b2]; omega)) (fun s3 ⟨g', q1, q2, q3, q4, q5⟩ => zS.s ⟨g', q1, ?_, b3'.tr q4, q5⟩)
            unfold rFn
            rw [if_neg k2, if_pos k5]
            cases len with
            | zero => rfl
            | succ len =>
              rw [sg_cons, sg_cons, q2 0 (by omega)]
              rw [Nat.add_sub_cancel] at q3
              show _ :: sg pt g' 1 len = _ :: tSort (sg pt g 1 len)
              rw [q3]
          · rw [if_neg (fun z => k5 ((tKd_5 labc).mp z))]
            refine zS.e (x := nI 0) rfl ?_
            refine zS.b (rsort_eq (sqO s2 b3') (by omega) (by omega) hG b1 (Nat.zero_le 1) (by rw [b2]; omega)) (fun s3 ⟨g', q1, q2, q3, q4, q5⟩ => zS.s ⟨g', q1, ?_, b3'.tr q4, q5⟩)
            unfold rFn
            rw [if_neg k2, if_neg k5]
            rw [Nat.sub_zero] at q3
            exact q3
      · have d3 := comb _ d3'
        have dN : ((gN g' len).flatMap (nP s)).Nodup := (List.Perm.flatMap_right _ dP).nodup_iff.mpr b4
        have dD : ∀ z, z ∈ (gN g' len).flatMap (nP s) → c < z ∧ pD par z c := fun z hz => by
          obtain ⟨i, i1, i2⟩ := b5 z ((List.Perm.flatMap_right _ dP).mem_iff.mp hz)
          refine ⟨by have := i2.le hp; omega, ?_⟩
          have := i2.up
          rwa [(c6 i i1).2.2] at this
        have epl : tPl (ot c) = tFn (tLab (ot c)) (sg pt g' 0 len) := by
          unfold tPl tPf
          rw [if_neg z, d2]
        have old22 : ∀ x, c + 1 ≤ x → s3 22 x = s 22 x := fun x hx => d3 22 x (by omega)
        by_cases e1 : len = 1
        · subst e1
          obtain ⟨w1, w2, w3⟩ := d1.2 0 (by omega)
          have ep : tPl (ot c) = pt (g' 0) := by
            rw [epl]
            rfl
          refine ⟨u2 s3 22 c (nI (g' 0)), ?_, L, pt, V, m1 po c (g' 0), ⟨⟨?_, a2, by omega⟩, rwc _ (fun a k h1 h2 => ?_) (fun k hk => ?_), nSq.only (rOnly.u (S := oA 22) rfl) (sqO s3 d3') (by omega), fun y hy vy => ⟨by have := (vo y hy vy).1; omega, (vo y hy vy).2⟩, fun x x1 x2 => ?_⟩, (d3.mono (fun a k z => by omega)).tr (rOnly.u (by omega))⟩
          · show (if s3 0 25 = 1 then _ else _) = _
            rw [if_pos (show s3 0 25 = 1 from d1.1)]
            show (rdI s3 21 (nI 0)).bind _ = _
            rw [rd21 (by omega), Option.bind_some, w1, wr22 (by omega), Option.bind_some]
          · rw [u2_a (by decide), d3 0 20 (by omega)]; exact a1
          · rw [u2_a (by omega), d3 a k (by omega)]
          · rw [u2_a (by decide), d3 17 k (by omega)]
          · by_cases e : x = c
            · subst e
              rw [u2_s, m1_s, nPc _ (fun y _ _ => ⟨by rw [u2_a (by decide), d3 15 y (by omega)], by rw [u2_a (by decide), d3 16 y (by omega)]⟩) (fun z _ => by rw [u2_a (by decide), d3 17 z (by omega)]) _ w2 w3]
              have e1 : (gN g' 1).flatMap (nP s) = nP s (g' 0) := by
                show [g' (0 + 0)].flatMap (nP s) = _
                rw [List.flatMap_cons, List.flatMap_nil, List.append_nil]
              rw [e1] at dN dD
              exact ⟨⟨rfl, w3, w2, ep.symm⟩, dN, fun z hz => (dD z hz).2⟩
            · obtain ⟨⟨y1, y2, y3, y4⟩, y5⟩ := pl x (by omega) x2
              rw [u2_n (by omega), m1_n e, old22 x (by omega), nPc _ (fun y _ _ => ⟨by rw [u2_a (by decide), d3 15 y (by omega)], by rw [u2_a (by decide), d3 16 y (by omega)]⟩) (fun z _ => by rw [u2_a (by decide), d3 17 z (by omega)]) _ y3 y2]
              exact ⟨⟨y1, y2, y3, y4⟩, y5⟩
        · have n25 : s3 0 25 = nI len := d1.1
          rw [if_neg (show ¬ s3 0 25 = 1 by rw [n25]; exact fun y => e1 ((nI_eq (b := 1) (by omega) (by omega)).mp y)), wr15 (by omega)]
          refine zS.e rfl ?_
          rw [wr16 (by omega)]
          refine zS.e rfl ?_
          rw [u2_a (by decide), n25, d3 0 20 (by omega), a1]
          generalize es5 : u2 (u2 s3 15 c (nI L)) 16 c (nI len) = s5
          have o5 : rOnly (fun a k => (a = 15 ∨ a = 16) ∧ k = c) s3 s5 := by rw [← es5]; exact (rOnly.u (by omega)).tr (rOnly.u (by omega))
          have f15 : s5 15 c = nI L := by rw [← es5, u2_a (by decide), u2_s]
          have f16 : s5 16 c = nI len := by rw [← es5, u2_s]
          clear es5
          refine zS.b (R1 := fun s' => s' 0 20 = nI (L + len) ∧ (∀ j, j < len → s' 17 (L + j) = nI (g' j)) ∧ rOnly (fun a k => (a = 0 ∧ k = 20) ∨ (a = 17 ∧ L ≤ k)) s5 s') (zS.up (fun j s' => s' 0 20 = nI (L + j) ∧ (∀ i, i < j → s' 17 (L + i) = nI (g' i)) ∧ rOnly (fun a k => (a = 0 ∧ k = 20) ∨ (a = 17 ∧ L ≤ k)) s5 s') 0 len (fun j s' _ hj hJ => ?_) (fun s' hJ => ?_) (Nat.zero_le _) (by omega) ⟨?_, fun i hi => absurd hi (Nat.not_lt_zero _), rOnly.rf⟩) (fun s6 ⟨r1, r2, r3⟩ => ?_)
          · obtain ⟨j1, j2, j3⟩ := hJ
            dsimp only
            have m25 : s' 0 25 = nI len := by rw [j3 0 25 (by omega), o5 0 25 (by omega)]; exact n25
            have m21 : s' 21 j = nI (g' j) := by rw [j3 21 j (by omega), o5 21 j (by omega)]; exact (d1.2 j hj).1
            rw [if_neg (show ¬ s' 0 25 ≤ nI j by rw [m25]; exact nI_nle' (by omega) hj), rd21 (by omega), Option.bind_some, m21, j1, wr17 (by omega)]
            refine zS.e rfl (zS.e rfl (zS.s ⟨_, by rw [nI_1], ?_, fun i hi => ?_, (j3.tr (rOnly.u (by omega))).tr (rOnly.u (by omega))⟩))
            · rw [u2_s, u2_a (by decide), j1, nI_1]; rfl
            · rw [u2_a (by decide)]
              by_cases e : i = j
              · subst e; rw [u2_s]
              · rw [u2_n (by omega)]; exact j2 i (by omega)
          · obtain ⟨j1, j2, j3⟩ := hJ
            dsimp only
            have m25 : s' 0 25 = nI len := by rw [j3 0 25 (by omega), o5 0 25 (by omega)]; exact n25
            rw [if_pos (show s' 0 25 ≤ nI len by rw [m25]; exact nI_le (Nat.le_refl _) (by omega))]
            exact zS.s ⟨_, rfl, j1, j2, j3⟩
          · rw [o5 0 20 (by omega), d3 0 20 (by omega)]; exact a1
          · -- the node becomes what it is
            have m25 : s6 0 25 = nI len := by rw [r3 0 25 (by omega), o5 0 25 (by omega)]; exact n25
            have fin : ∀ s7, (s7 = s6 ∧ len ≠ 0) ∨ (s7 = u2 s6 13 c 1 ∧ len = 0) → (∃ L' pt' V' po', pJ par c s7 N L0 L' ot pt' V' po' ∧ rOnly sPl s s7) := by
              intro s7 h7
              have s7o : rOnly (fun a k => a = 13 ∧ k = c) s6 s7 := by
                rcases h7 with ⟨rfl, -⟩ | ⟨rfl, -⟩
                · exact rOnly.rf
                · exact rOnly.u (by omega)
              have all : ∀ a k, ¬ (a = 13 ∧ k = c) → ¬ ((a = 0 ∧ k = 20) ∨ (a = 17 ∧ L ≤ k)) → ¬ ((a = 15 ∨ a = 16) ∧ k = c) → ¬ (sGa a k ∨ (a = 22 ∧ k = c)) → s7 a k = s a k := fun a k h1 h2 h3 h4 => by
                rw [s7o a k h1, r3 a k h2, o5 a k h3, d3 a k h4]
              have t13 : s7 13 c = nI (tKd (tLab (tFn (tLab (ot c)) (sg pt g' 0 len)))) := by
                rcases h7 with ⟨rfl, h0⟩ | ⟨rfl, h0⟩
                · rw [tFn_2 _ _ (by rw [sg_len]; omega), tMk_lab, r3 13 _ (by omega), o5 13 _ (by omega), d3 13 _ (by omega)]; exact c1
                · subst h0; rw [u2_s]; rfl
              have t14 : s7 14 c = tNm (tLab (tFn (tLab (ot c)) (sg pt g' 0 len))) := by
                rw [all 14 c (by omega) (by omega) (by omega) (by omega), c2]
                rcases h7 with ⟨-, h0⟩ | ⟨-, h0⟩
                · rw [tFn_2 _ _ (by rw [sg_len]; omega), tMk_lab]
                · subst h0
                  show tNm (tLab (ot c)) = tNm 12
                  unfold tNm
                  rw [if_neg (by omega), if_neg (by omega)]
              have tl : tLen (tFn (tLab (ot c)) (sg pt g' 0 len)) = len := by
                rcases h7 with ⟨-, h0⟩ | ⟨-, h0⟩
                · rw [tFn_2 _ _ (by rw [sg_len]; omega), tMk_len, sg_len]
                · subst h0; rfl
              have tk : ∀ j, j < len → tKid (tFn (tLab (ot c)) (sg pt g' 0 len)) j = pt (g' j) := fun j hj => by
                rw [tFn_2 _ _ (by rw [sg_len]; omega), tMk_kid _ _ _ (by rw [sg_len]; exact hj), sg_get _ _ _ _ _ hj, Nat.zero_add]
              have tok : tOK (tFn (tLab (ot c)) (sg pt g' 0 len)) := by
                rcases h7 with ⟨-, h0⟩ | ⟨-, h0⟩
                · rw [tFn_2 _ _ (by rw [sg_len]; omega)]
                  refine ⟨tMk_G _ l13 labc _ (fun t ht => ?_), fun _ => by rw [tMk_len, sg_len]; omega⟩
                  obtain ⟨i, h1, rfl⟩ := sg_mem _ ht
                  rw [Nat.zero_add]
                  exact (vo _ (d1.2 i h1).2.1 (d1.2 i h1).2.2).2
                · subst h0
                  exact ⟨show (12 : Nat) ≤ 16 by omega, fun h => absurd (show 13 ≤ 12 from h) (by omega)⟩
              refine ⟨L + len, m1 pt c (tFn (tLab (ot c)) (sg pt g' 0 len)), fun y => y = c ∨ V y, m1 po c c, ⟨⟨by rw [s7o 0 20 (by omega)]; exact r1, by omega, by omega⟩, rwc _ (fun a k h1 h2 => all a k (by omega) (by omega) (by omega) (by omega)) (fun k hk => all 17 k (by omega) (by omega) (by omega) (by omega)), fun y hy vy => ?_, fun y hy vy => ?_, fun x x1 x2 => ?_⟩, ((((d3.mono (fun a k z => by omega)).tr (o5.mono (fun a k z => by omega))).tr (r3.mono (fun a k z => by omega))).tr (s7o.mono (fun a k z => by omega)))⟩
              · by_cases e : y = c
                · subst e
                  rw [m1_s]
                  refine ⟨t13, t14, ?_, L, ?_, by rw [tl]; exact Nat.le_refl _, fun j hj => ?_⟩
                  · rw [tl, s7o 16 _ (by omega), r3 16 _ (by omega)]; exact f16
                  · rw [s7o 15 _ (by omega), r3 15 _ (by omega)]; exact f15
                  · rw [tl] at hj
                    obtain ⟨w1, w2, w3⟩ := d1.2 j hj
                    have := (vo _ w2 w3).1
                    refine ⟨g' j, ⟨by omega, Or.inr w3⟩, w2, ?_, ?_⟩
                    · rw [s7o 17 _ (by omega)]; exact r2 j hj
                    · rw [m1_n (by omega), tk j hj]
                · have vy' : V y := vy.resolve_left e
                  have yc := (vo y hy vy').1
                  obtain ⟨x1, x2, x3, f', x4, x5, x6⟩ := sq y hy vy'
                  rw [m1_n e, all 13 y (by omega) (by omega) (by omega) (by omega), all 14 y (by omega) (by omega) (by omega) (by omega), all 15 y (by omega) (by omega) (by omega) (by omega), all 16 y (by omega) (by omega) (by omega) (by omega)]
                  refine ⟨x1, x2, x3, f', x4, by omega, fun j hj => ?_⟩
                  obtain ⟨w, ⟨w1, w5⟩, w2, w3, w4⟩ := x6 j hj
                  refine ⟨w, ⟨w1, Or.inr w5⟩, w2, by rw [all 17 _ (by omega) (by omega) (by omega) (by omega)]; exact w3, ?_⟩
                  have := (vo w w2 w5).1
                  rw [m1_n (by omega)]; exact w4
              · by_cases e : y = c
                · subst e; rw [m1_s]; exact ⟨Nat.le_refl _, tok⟩
                · have := vo y hy (vy.resolve_left e)
                  rw [m1_n e]; exact ⟨by omega, this.2⟩
              · have q22 : ∀ x, s7 22 x = s3 22 x := fun x => by rw [s7o 22 x (by omega), r3 22 x (by omega), o5 22 x (by omega)]
                by_cases e : x = c
                · subst e
                  rw [m1_s, m1_s, q22]
                  refine ⟨⟨?_, Or.inl rfl, hc, epl.symm⟩, ?_⟩
                  · rw [d3' 22 x (by omega)]
                    exact c22
                  · have e1 : nP s7 x = (gN g' len).flatMap (nP s) ++ [x] := by
                      have hF : nF = 200 := rfl
                      have e16 : (s7 16 x).toNatClampNeg = len := by rw [s7o 16 _ (by omega), r3 16 _ (by omega), f16, nI_clamp (by omega)]
                      have e15 : s7 15 x = nI L := by rw [s7o 15 _ (by omega), r3 15 _ (by omega)]; exact f15
                      have ek : nks s7 x len = gN g' len := sg_congr len (fun i hi => by
                        rw [Nat.zero_add]
                        exact nk_at e15 (by rw [s7o 17 _ (by omega)]; exact r2 i hi) (by omega) (by have := (d1.2 i hi).2.1; omega))
                      have e199 : nF = 199 + 1 := rfl
                      unfold nP
                      rw [e199, nPs_S, e16, ek]
                      refine congrArg (fun w : List Nat => w ++ [x]) (flatMap_congr' (f := nPs s7 199) (g := nP s) _ (fun y hy => ?_))
                      obtain ⟨i, i1, i2⟩ : ∃ i, i < len ∧ y = g' i := by
                        have := nks_mem (s := s7) (x := x) (z := y) len (by rw [ek]; exact hy)
                        obtain ⟨j, h3, h4⟩ := this
                        refine ⟨j, h3, ?_⟩
                        rw [h4]
                        exact nk_at e15 (by rw [s7o 17 _ (by omega)]; exact r2 j h3) (by omega) (by have := (d1.2 j h3).2.1; omega)
                      obtain ⟨w1, w2, w3⟩ := d1.2 i i1
                      subst i2
                      rw [nPs_congr sq (by omega) (by omega) (fun y hy vy => ?_) (fun z hz => all 17 z (by omega) (by omega) (by omega) (by omega)) 199 _ w2 w3]
                      · exact nPs_fuel sq (by omega) (by omega) 199 nF (g' i) w2 w3 (by omega) (by rw [hF]; omega)
                      · have := (vo y hy vy).1
                        exact ⟨all 15 y (by omega) (by omega) (by omega) (by omega), all 16 y (by omega) (by omega) (by omega) (by omega)⟩
                    rw [e1]
                    refine ⟨List.nodup_append.mpr ⟨dN, List.nodup_cons.mpr ⟨List.not_mem_nil, List.nodup_nil⟩, fun a ha b hb hab => ?_⟩, fun z hz => ?_⟩
                    · rw [List.mem_singleton.mp hb] at hab
                      have := (dD a ha).1
                      omega
                    · rcases List.mem_append.mp hz with hz | hz
                      · exact (dD z hz).2
                      · rw [List.mem_singleton.mp hz]; exact ⟨0, rfl⟩
                · obtain ⟨⟨y1, y2, y3, y4⟩, y5⟩ := pl x (by omega) x2
                  rw [m1_n e, q22, old22 x (by omega)]
                  refine ⟨⟨y1, Or.inr y2, y3, ?_⟩, ?_⟩
                  · have := (vo _ y3 y2).1
                    rw [m1_n (by omega)]; exact y4
                  · rw [nPc s7 (fun y hy vy => ?_) (fun z hz => all 17 z (by omega) (by omega) (by omega) (by omega)) _ y3 y2]
                    · exact y5
                    · have := (vo y hy vy).1
                      exact ⟨all 15 y (by omega) (by omega) (by omega) (by omega), all 16 y (by omega) (by omega) (by omega) (by omega)⟩
            by_cases z0 : len = 0
            · rw [if_pos (show s6 0 25 = 0 by rw [m25, z0]; rfl)]
              show zS (((wrI s6 13 (nI c) (1 : Int32)).bind fun s36 => some s36).bind _) _
              rw [wr13 (by omega)]
              exact zS.s (fin _ (Or.inr ⟨rfl, z0⟩))
            · rw [if_neg (show ¬ s6 0 25 = 0 by rw [m25]; exact nI_ne0 (by omega) (by omega))]
              exact zS.s (fin _ (Or.inl ⟨rfl, z0⟩))
