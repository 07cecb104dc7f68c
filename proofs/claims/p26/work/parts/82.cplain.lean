/-! plain on the class's side -/
theorem gE.nodes {X : Nat} {h : Zh} {x : En} (g : gE X h x) : ∀ y, y ∈ eN x → aB X y ∧ y < zn h ∧ zk h y = 4 := by
  obtain ⟨w, n, f⟩ := g
  intro y hy
  rcases List.mem_append.mp hy with hy | hy
  · exact zFo_P _ _ _ f y hy
  · rw [List.mem_singleton.mp hy]
    exact ⟨n.1.1, n.1.2.1, n.1.2.2.1⟩
theorem nNew.on {h h' : Zh} {l : List Nat} (k : kF h h') (hl : ∀ y, y ∈ l → y < zn h ∧ zk h y = 4) (n : nNew h l) : nNew h' l := fun y hy => by
  obtain ⟨a, b⟩ := k y (hl y hy).1 (by rw [(hl y hy).2]; decide) (by rw [(hl y hy).2]; decide)
  rw [a, b]
  exact n y hy
theorem zFo_mk {P : Nat → Prop} {h : Zh} {w lab : Nat} : ∀ (L : List En), (∀ i, i < L.length → zp h w i = some (L.getD i (0, .var 0, [])).1) → (∀ x, x ∈ L → ∃ u, zNd P h x.1 u x.2.1 ∧ zFo P h x.2.1 u x.2.2) → zFo P h (tMk lab (eT L)) w (L.flatMap eN) := by
  intro L
  have key : ∀ r : List En, (∀ i, i < r.reverse.length → zp h w i = some (r.reverse.getD i (0, .var 0, [])).1) → (∀ x, x ∈ r.reverse → ∃ u, zNd P h x.1 u x.2.1 ∧ zFo P h x.2.1 u x.2.2) → zFo P h (tMk lab (eT r.reverse)) w (r.reverse.flatMap eN) := by
    intro r
    induction r with
    | nil => intro _ _; exact rfl
    | cons x r ih =>
      intro h1 h2
      rw [List.reverse_cons] at h1 h2 ⊢
      have e1 : eT (r.reverse ++ [x]) = eT r.reverse ++ [x.2.1] := by show (r.reverse ++ [x]).map _ = _; rw [List.map_append]; rfl
      rw [e1, tMk_app, List.flatMap_append, List.flatMap_cons, List.flatMap_nil, List.append_nil]
      obtain ⟨u, n, f⟩ := h2 x (by simp)
      refine ⟨r.reverse.flatMap eN, x.2.2, x.1, u, rfl, ih (fun i hi => ?_) (fun y hy => h2 y (List.mem_append_left _ hy)), ?_, n, f⟩
      · rw [h1 i (by rw [List.length_append]; exact Nat.lt_add_right _ hi), List.getD_eq_getElem?_getD, List.getD_eq_getElem?_getD, List.getElem?_append_left hi]
      · have e2 : tLen (tMk lab (eT r.reverse)) = r.reverse.length := by rw [tMk_len]; exact List.length_map _
        rw [e2, h1 r.reverse.length (by rw [List.length_append]; exact Nat.lt_succ_self _), List.getD_eq_getElem?_getD, List.getElem?_append_right (Nat.le_refl _), Nat.sub_self]
        rfl
  have := key L.reverse
  rwa [List.reverse_reverse] at this
/-- a leaf is made -/
theorem cleaf2 {h : Zh} {X lab : Nat} (f0 : X + 94 ≤ zn h) (hl : lab < 13) : zS ((zmO h 3 7).bind fun ((r1, h2) : Option Nat × Zh) =>
      (zmA h2 3 (0 : Int32)).bind fun ((r3, h4) : Option Nat × Zh) =>
      (zob h4 r1 4).bind fun p5 =>
      (fX2_init h4 (some p5) (nI (tKd lab)) (tNm lab) r3).bind fun h6 =>
      some (r1, h6)) (fun r => r.1 = some (zn h) ∧ gE X r.2 (zn h, .var lab, []) ∧ nNew r.2 [zn h] ∧ fN h r.2 ∧ zn r.2 = zn h + 2 ∧ zs r.2 = zs h + 7) := by
  obtain ⟨⟨m1, m2⟩, m3, m4, m5, m6, m7⟩ := cmk_eq (n := 0) f0
  obtain ⟨h4, i1, ⟨i2, i3, i4⟩, ⟨i5, i6⟩, i7, i8⟩ := cinit_eq (P := fun _ => False) (t := .var lab) (l := []) (v := zn h) (w := zn h + 1) (h := znew (znew h 4 0 7) 103 0 0) (by omega) m4 (fun z => z) (by omega) m5 m6 rfl (show lab ≤ 16 by omega) (show 1 < 90000 by omega)
  have ef : fN h h4 := (m3.mono (fun _ _ z => z.elim)).tr (i2.mono (fun u _ (z : u = zn h) => by omega))
  refine ⟨(some (zn h), h4), ?_, rfl, ⟨zn h + 1, i7 (aB X) f0 (show X + 94 ≤ zn h + 1 by omega), rfl⟩, fun u hu => ?_, ef, by show zn h4 = _; omega, by show zs h4 = _; omega⟩
  · rw [zmO_v, Option.bind_some]
    show (((zmA (znew h 4 0 7) 3 (nI 0)).bind _)) = _
    rw [zmA_v (by omega), Option.bind_some]
    show (((zob (znew (znew h 4 0 7) 103 0 0) (some (zn h)) 4).bind _)) = _
    rw [zob_v (by rw [m1]; omega) m4, Option.bind_some]
    show (((fX2_init (znew (znew h 4 0 7) 103 0 0) (some (zn h)) (nI (tKd lab)) (tNm lab) (some (zn h + 1))).bind _)) = _
    have i1' : fX2_init (znew (znew h 4 0 7) 103 0 0) (some (zn h)) (nI (tKd lab)) (tNm lab) (some (zn h + 1)) = some h4 := i1
    rw [i1']
    rfl
  · rw [List.mem_singleton.mp hu]
    exact ⟨i5, by rw [i6]; exact m7⟩
theorem tFn_OK {lab : Nat} (h13 : 13 ≤ lab) (h16 : lab ≤ 16) : ∀ l : List Tr, (∀ t, t ∈ l → tOK t) → tOK (tFn lab l)
  | [], _ => ⟨show (12 : Nat) ≤ 16 by omega, fun h => absurd (show 13 ≤ 12 from h) (by omega)⟩
  | [a], h => h a List.mem_cons_self
  | a :: b :: r, h => ⟨tMk_G lab h13 h16 _ h, fun _ => by show 2 ≤ tLen (tMk lab (a :: b :: r)); rw [tMk_len]; show 2 ≤ r.length + 1 + 1; omega⟩
theorem clist0 {c1 c2 X : Nat} {h : Zh} (f0 : X + 94 ≤ zn h) (hc : c1 < zn h ∧ zk h c1 = 106) : ∃ h11, fJx4a65c_init_da8c8 (c1, c2) (znew h 1 0 3) (some (zn h)) = some h11 ∧ al c1 (zn h) h11 (zn h) [] 0 ∧ fN h h11 ∧ zn h11 = zn h + 1 ∧ zs h11 = zs h + 3 := by
  unfold fJx4a65c_init_da8c8 fJxc12de_init_da8c8 fJxa1e45_init_da8c8
  have kv : zk (znew h 1 0 3) (zn h) = 1 := znew_k h 1 0 3
  have nv : zn h < zn (znew h 1 0 3) := Nat.lt_succ_self _
  rw [zob_v nv kv, Option.bind_some, zob_v nv kv, Option.bind_some, zob_v nv kv, Option.bind_some, Option.bind_some, zgI_v (ci := 0) nv kv, Option.bind_some, Option.bind_some, zgP_v (ci := 0) (by exact nv) (by exact kv)]
  have ex : fN h (zsetP (zsetI (znew h 1 0 3) (zn h) 0 0) (zn h) 1 (some c1)) := (zExt.nw.tr (zExt.sI (Or.inl (Nat.le_refl _)))).tr (zExt.sP (Or.inl (Nat.le_refl _)))
  refine ⟨_, rfl, ⟨⟨Nat.le_refl _, nv, kv, ?_, Nat.le_refl _, by omega⟩, fun u hu => absurd hu List.not_mem_nil, ⟨by show c1 < zn h + 1; omega, (ex.at hc.1).1.trans hc.2⟩, Or.inl ⟨rfl, by rw [zp_sP, u2_s]⟩⟩, ex, rfl, rfl⟩
  rw [zi_sP, zi_sI, u2_n (by omega), znew_i]
  rfl
theorem cplainOf_eq {c1 c2 X : Nat} : ∀ (fu d : Nat) (h : Zh) (v : Nat) (t : Tr) (w : Nat) (l : List Nat), zNd (aB X) h v w t → zFo (aB X) h t w l → tOK t → tHt t < fu → d + tHt t ≤ 40 → tSz t ≤ 60 → X + 94 ≤ zn h → c1 < zn h ∧ zk h c1 = 106 →
    zS (fX5_plainOf (c1, c2) fu h (some v) (nI d)) (fun r => ∃ x : En, r.1 = some x.1 ∧ gE X r.2 x ∧ x.2.1 = tPl t ∧ tOK x.2.1 ∧ (eN x).Nodup ∧ nNew r.2 (eN x) ∧ (∀ y, y ∈ eN x → zn h ≤ y ∧ y < zn r.2) ∧ fN h r.2 ∧ zn r.2 + 9 ≤ zn h + 12 * tSz t ∧ zs r.2 + 211 ≤ zs h + 219 * tSz t) := by
  intro fu
  induction fu with
  | zero => intro d h v t w l _ _ _ hf; omega
  | succ fu ih =>
    intro d h v t w l nd fo ht hf hd hz f0 hc
    have nd' := nd
    obtain ⟨⟨a1, a2, a3, a4, a5, a6, a7, a8⟩, b1, b2, b3, b4⟩ := nd'
    have lab := tG_lab t ht.1
    have sl := tSz_1 t
    show zS (fX5_plainOfB (c1, c2) (fX5_plainOf (c1, c2) fu) h (some v) (nI d)) _
    unfold fX5_plainOfB
    have leaf : ∀ (h1 : Zh) (lb : Nat), X + 94 ≤ zn h1 → lb < 13 → fN h h1 → zn h ≤ zn h1 → zn h1 + 11 ≤ zn h + 12 * tSz t → zs h1 + 218 ≤ zs h + 219 * tSz t → Lean.Data.AC.Expr.var lb = tPl t → zS (((zmO h1 3 7).bind fun ((r1, h2) : Option Nat × Zh) =>
      (zmA h2 3 (0 : Int32)).bind fun ((r3, h4) : Option Nat × Zh) =>
      (zob h4 r1 4).bind fun p5 =>
      (fX2_init h4 (some p5) (nI (tKd lb)) (tNm lb) r3).bind fun h6 =>
      some (r1, h6)).bind fun ((r3, h4) : Option Nat × Zh) => some (r3, h4)) (fun r => ∃ x : En, r.1 = some x.1 ∧ gE X r.2 x ∧ x.2.1 = tPl t ∧ tOK x.2.1 ∧ (eN x).Nodup ∧ nNew r.2 (eN x) ∧ (∀ y, y ∈ eN x → zn h ≤ y ∧ y < zn r.2) ∧ fN h r.2 ∧ zn r.2 + 9 ≤ zn h + 12 * tSz t ∧ zs r.2 + 211 ≤ zs h + 219 * tSz t) := by
      intro h1 lb f1 l1 e1 n1 n2 n3 ep
      refine zS.b (cleaf2 f1 l1) (fun ⟨r1, h2⟩ ⟨q1, q2, q3, q4, q5, q6⟩ => ?_)
      dsimp only at q1 q2 q3 q4 q5 q6
      refine zS.s ⟨(zn h1, .var lb, []), q1, q2, ep, ⟨show lb ≤ 16 by omega, fun y => absurd (show 13 ≤ lb from y) (by omega)⟩, List.nodup_cons.mpr ⟨List.not_mem_nil, List.nodup_nil⟩, q3, fun y hy => ?_, e1.tr q4, ?_, ?_⟩
      · rw [List.mem_singleton.mp (show y ∈ [zn h1] from hy)]
        exact ⟨n1, by show zn h1 < zn h2; omega⟩
      · show zn h2 + 9 ≤ _; omega
      · show zs h2 + 211 ≤ _; omega
    rw [zfI_v (ci := 3) a2 a3, a4, Option.bind_some]
    by_cases k0 : tLab t < 12
    · rw [if_pos ((tKd_0 lab).mpr k0), zfI_v (ci := 3) a2 a3, a5, Option.bind_some]
      have e0 : (0 : Int32) = nI (tKd (tLab t)) := ((tKd_0 lab).mpr k0).symm
      unfold fX5_deedOf
      rw [e0]
      have el := tG_0 t (tG_leaf t ht.1 (by omega))
      have := leaf h (tLab t) f0 (by omega) zExt.rf (Nat.le_refl _) (by omega) (by omega) (by
        unfold tPl tPf
        rw [if_pos (tG_leaf t ht.1 (by omega))])
      rw [show nI (tKd (tLab t)) = (0 : Int32) from e0.symm] at this ⊢
      exact this
    · rw [if_neg (fun z => k0 ((tKd_0 lab).mp z)), Option.bind_some]
      by_cases k1 : tLab t = 12
      · rw [if_pos ((tKd_1 lab).mpr k1)]
        unfold fX5_silence
        exact leaf h 12 f0 (by omega) zExt.rf (Nat.le_refl _) (by omega) (by omega) (by
          unfold tPl tPf
          rw [if_pos (tG_leaf t ht.1 (by omega)), k1])
      · have l13 : 13 ≤ tLab t := by omega
        have len2 := ht.2 l13
        rw [if_neg (fun z => k1 ((tKd_1 lab).mp z)), if_pos (show nI d ≤ (40 : Int32) from nI_le (b := 40) (by omega) (by omega)), zmO_v, Option.bind_some]
        obtain ⟨h11, i1, A0, i3, i4, i5⟩ := clist0 (c2 := c2) (X := X) f0 hc
        show zS (((zob (znew h 1 0 3) (some (zn h)) 1).bind _)) _
        rw [zob_v (Nat.lt_succ_self _) (znew_k h 1 0 3), Option.bind_some, i1, Option.bind_some]
        refine zS.b (R1 := fun h' => ∃ cap L, eL c1 (zn h) X h' (zn h) cap L ∧ eT L = tPk t ∧ (L.flatMap eN).Nodup ∧ nNew h' (L.flatMap eN) ∧ (∀ y, y ∈ L.flatMap eN → zn h ≤ y ∧ y < zn h') ∧ fN h h' ∧ 5 * zn h' + 45 * tLen t ≤ 5 * zn h + 5 + cap + 60 * (tSz t - 1) ∧ zs h' + 211 * tLen t ≤ zs h + 3 + 4 * cap + 219 * (tSz t - 1)) (zS.up (fun j h' => ∃ cap L, eL c1 (zn h) X h' (zn h) cap L ∧ eT L = tPk (tPre t j) ∧ (L.flatMap eN).Nodup ∧ nNew h' (L.flatMap eN) ∧ (∀ y, y ∈ L.flatMap eN → zn h ≤ y ∧ y < zn h') ∧ fN h h' ∧ 5 * zn h' + 45 * j ≤ 5 * zn h + 5 + cap + 60 * (tSz (tPre t j) - 1) ∧ zs h' + 211 * j ≤ zs h + 3 + 4 * cap + 219 * (tSz (tPre t j) - 1)) 0 (tLen t) (fun j h' _ hj hJ => ?_) (fun h' hJ => ?_) (Nat.zero_le _) (by omega) ⟨0, [], ⟨A0, fun x hx => absurd hx List.not_mem_nil⟩, by rw [tPre_0]; rfl, List.nodup_nil, fun y hy => absurd hy List.not_mem_nil, fun y hy => absurd hy List.not_mem_nil, i3, by omega, by omega⟩) (fun h14 hr => ?_)
        · obtain ⟨cap, L, j1, j2, j3, j4, j5, j6, j7, j8⟩ := hJ
          have ndj := nd.on (h' := h') j6.sm
          have arr := nd.arr (h' := h') j6.sm
          obtain ⟨⟨y1, y2, y3, y4, y5, y6, y7, y8⟩, z1, z2, z3, z4⟩ := ndj
          obtain ⟨u, x, l', g1, g2, g3⟩ := fo.kid t w l j hj
          have kz := tKid_sz t j hj
          have kh := tKid_ht t j hj
          have pz : tSz (tPre t j) + tSz (tKid t j) ≤ tSz t := by
            have := tPre_sz t (j + 1)
            rw [tPre_S t j hj] at this
            exact this
          have pz' : tSz (tPre t (j + 1)) = tSz (tPre t j) + tSz (tKid t j) := by rw [tPre_S t j hj]; rfl
          have p1 := tSz_1 (tPre t j)
          have p2 := tSz_1 (tKid t j)
          have pl1 := (tPl_sz (tPre t j)).1
          have pl2 := (tPl_sz (tKid t j)).2
          dsimp only
          rw [zfP_v (ci := 3) y2 y3, y6, Option.bind_some, zaL_v (t := 3) z2 z3, z4, Option.bind_some, if_neg (nI_nle' (by omega) hj), zfI_v (ci := 3) y2 y3, y4, Option.bind_some, Option.bind_some, zaP_v (t := 3) (n := tLen t) z2 z3 z4 hj (by omega), Option.bind_some, arr, g1, nI_1]
          refine zS.b (ih (d + 1) h' u (tKid t j) x l' (g2.on j6.sm) (g3.on j6.sm _ _ _ (g2.arr j6.sm)) (tKid_OK t j ht.1 hj) (by omega) (by omega) (by omega) (by have := j6.1.1; omega) ⟨by have := j6.1.1; omega, (j6.at hc.1).1.trans hc.2⟩) (fun ⟨r1, h1⟩ ⟨e, q1, q2, q3, q4, q5, q6, q7, q8, q9, q10⟩ => ?_)
          dsimp only at q1 q2 q6 q7 q8 q9 q10
          subst q1
          have le1 : zn h' ≤ zn h1 := q8.1.1
          have le0 : zn h ≤ zn h' := j6.1.1
          have jn : ∀ y, y ∈ L.flatMap eN → y < zn h' ∧ zk h' y = 4 := fun y hy => by
            obtain ⟨x', hx', hy'⟩ := List.mem_flatMap.mp hy
            exact ((j1.2 x' hx').1.nodes y hy').2
          show zS ((fX5_takeIn (c1, c2) h1 (some (zn h)) (nI (tKd (tLab t))) (some e.1)).bind _) _
          refine zS.b (ctakein_eq (c2 := c2) (h := h1) (n0 := zn h) (lab := tLab t) (x0 := e) (L := L) ⟨j1.1.on q8, fun x' hx' => ⟨(j1.2 x' hx').1.on q8.sm, (j1.2 x' hx').2⟩⟩ (by have := j6.1.1; omega) (by rw [j2, q3]; omega) l13 lab q2 q4) (fun h2 ⟨cap2, L2, R, r1, r2, r3, r4, r5⟩ => zS.s ⟨h2, by rw [nI_1], cap2, L2, r1, ?_, ?_, ?_, ?_, ?_, ?_, ?_⟩)
          · rw [r2, j2, q3, tPre_S t j hj, tPk_op, tPre_lab]
          · refine r3.nodup_iff.mpr (List.nodup_append.mpr ⟨j3, r4.nodup q5, fun a ha b hb hab => ?_⟩)
            have h1' := (j5 a ha).2
            have h2' := (q7 b (r4.subset hb)).1
            omega
          · intro y hy
            have nn : nNew h1 (L.flatMap eN ++ R) := fun y hy => by
              rcases List.mem_append.mp hy with hy | hy
              · exact (nNew.on q8.k jn j4) y hy
              · exact q6 y (r4.subset hy)
            have kk : ∀ y, y ∈ L.flatMap eN ++ R → y < zn h1 ∧ zk h1 y = 4 := fun y hy => by
              rcases List.mem_append.mp hy with hy | hy
              · obtain ⟨w1, w2⟩ := jn y hy
                exact ⟨by omega, (q8.at w1).1.trans w2⟩
              · exact (q2.nodes y (r4.subset hy)).2
            exact (nNew.on r5.1.2 kk nn) y (r3.mem_iff.mp hy)
          · intro y hy
            have le2 := r5.1.1.1.1
            rcases List.mem_append.mp (r3.mem_iff.mp hy) with hy | hy
            · have := j5 y hy; exact ⟨this.1, by omega⟩
            · have := q7 y (r4.subset hy)
              have := j6.1.1
              exact ⟨by omega, by omega⟩
          · exact (show fN h h2 from zExt.tr (S := fun u => zn h ≤ u) (fN.tr j6 q8) r5.1.1)
          · have c5 := r5.2.1.2
            rw [pz']
            omega
          · have c5 := r5.2.2
            rw [pz']
            omega
        · obtain ⟨cap, L, j1, j2, j3, j4, j5, j6, j7, j8⟩ := hJ
          have ndj := nd.on (h' := h') j6.sm
          obtain ⟨⟨y1, y2, y3, y4, y5, y6, y7, y8⟩, z1, z2, z3, z4⟩ := ndj
          dsimp only
          rw [zfP_v (ci := 3) y2 y3, y6, Option.bind_some, zaL_v (t := 3) z2 z3, z4, Option.bind_some, if_pos (nI_le (Nat.le_refl _) (by omega))]
          rw [tPre_all] at j2 j7 j8
          exact zS.s ⟨_, rfl, cap, L, j1, j2, j3, j4, j5, j6, j7, j8⟩
        · obtain ⟨cap, L, j1, j2, j3, j4, j5, j6, j7, j8⟩ := hr
          have cap90 := j1.1.1.2.2.2.2.2
          have lp : (eP L).length = L.length := List.length_map _
          have lt : (eT L).length = L.length := List.length_map _
          have le6 := j6.1.1
          have ep : tPl t = tFn (tLab t) (eT L) := by
            unfold tPl tPf
            rw [if_neg (by omega), j2]
          have okp : tOK (tPl t) := by
            rw [ep]
            refine tFn_OK l13 lab _ (fun t' ht' => ?_)
            obtain ⟨x', hx', rfl⟩ := List.mem_map.mp ht'
            exact (j1.2 x' hx').2.1
          have ls := eT_sum_len L
          have ps := (tPl_sz t).1
          rw [j2] at ls
          rw [al_ob j1.1, Option.bind_some, al_size j1.1, lp, Option.bind_some]
          by_cases z0 : L.length = 0
          · rw [if_pos (by rw [z0]; rfl)]
            have eL0 : L = [] := List.eq_nil_of_length_eq_zero z0
            unfold fX5_silence
            exact leaf h14 12 (by omega) (by omega) j6 (by omega) (by omega) (by omega) (by rw [ep, eL0]; rfl)
          · rw [if_neg (nI_ne0 (by omega) (by omega)), Option.bind_some, al_size j1.1, lp, Option.bind_some]
            by_cases z1 : L.length = 1
            · rw [if_pos (by rw [z1]; rfl), Option.bind_some]
              have mem := eL_mem (L := L) (i := 0) (by omega)
              have g0 := (j1.2 _ mem).1
              have nds := g0.nodes
              obtain ⟨w', n', f'⟩ := g0
              rw [show fJx4a65c_get_915e3 h14 (some (zn h)) (0 : Int32) = some (some (L.getD 0 (0, .var 0, [])).1) from by
                rw [show (0 : Int32) = nI 0 from rfl, al_get j1.1 (by rw [lp]; omega), eP_get (by omega)], Option.bind_some, zck_v n'.1.2.1 n'.1.2.2.1, Option.bind_some]
              have e1 : L = [L.getD 0 (0, .var 0, [])] := by
                cases L with
                | nil => exact absurd rfl z0
                | cons a r =>
                  cases r with
                  | nil => rfl
                  | cons b r => exact absurd z1 (by simp)
              have e2 : tPl t = (L.getD 0 (0, .var 0, [])).2.1 := by rw [ep, e1]; rfl
              have e3 : L.flatMap eN = eN (L.getD 0 (0, .var 0, [])) := by
                conv => lhs; rw [e1]
                rw [List.flatMap_cons, List.flatMap_nil, List.append_nil]
              rw [e3] at j3 j4 j5
              exact zS.s ⟨_, rfl, ⟨w', n', f'⟩, e2.symm, by rw [← e2]; exact okp, j3, j4, j5, j6, by show zn h14 + 9 ≤ _; omega, by show zs h14 + 211 ≤ _; omega⟩
            · rw [if_neg (show ¬ nI L.length = (1 : Int32) from fun y => z1 ((nI_eq (b := 1) (by omega) (by omega)).mp y)), Option.bind_some, al_size j1.1, lp, Option.bind_some, zmA_v (by omega), Option.bind_some]
              -- the row of parts is filled
              have k37 : zk (znew h14 103 L.length L.length) (zn h14) = 103 := znew_k h14 103 _ _
              refine zS.b (R1 := fun h' => (fN h14 h' ∧ zn h' = zn h14 + 1 ∧ zs h' = zs h14 + L.length ∧ zk h' (zn h14) = 103 ∧ zl h' (zn h14) = L.length) ∧ ∀ i, i < L.length → zp h' (zn h14) i = some (L.getD i (0, .var 0, [])).1) (zS.up (fun j h' => (fN h14 h' ∧ zn h' = zn h14 + 1 ∧ zs h' = zs h14 + L.length ∧ zk h' (zn h14) = 103 ∧ zl h' (zn h14) = L.length) ∧ ∀ i, i < j → zp h' (zn h14) i = some (L.getD i (0, .var 0, [])).1) 0 L.length (fun j h' _ hj hJ => ?_) (fun h' hJ => ?_) (Nat.zero_le _) (by omega) ⟨⟨zExt.nw, rfl, rfl, k37, if_pos rfl⟩, fun i hi => absurd hi (Nat.not_lt_zero _)⟩) (fun h40 hr => ?_)
              · obtain ⟨⟨q1, q2, q3, q4, q5⟩, q6⟩ := hJ
                have A' := j1.1.on q1
                obtain ⟨w', n', f'⟩ := (j1.2 _ (eL_mem hj)).1.on (h' := h') q1.sm
                dsimp only
                rw [zaL_v (t := 3) (by omega) q4, q5, Option.bind_some, if_neg (nI_nle' (by omega) hj), al_ob A', Option.bind_some, al_get A' (by rw [lp]; exact hj), eP_get hj, Option.bind_some, zck_v n'.1.2.1 n'.1.2.2.1, Option.bind_some, zbP_v (t := 3) (n := L.length) (ci := 3) (by omega) q4 q5 hj (by omega) n'.1.2.1 n'.1.2.2.1, Option.bind_some, nI_1]
                refine zS.s ⟨_, rfl, ⟨zExt.tr (S := fun u => zn h14 ≤ u) q1 (zExt.sP (Or.inl (Nat.le_refl (zn h14)))), q2, q3, q4, q5⟩, fun i hi => ?_⟩
                rw [zp_sP]
                by_cases y : i = j
                · subst y; rw [u2_s]
                · rw [u2_n (by omega)]; exact q6 i (by omega)
              · obtain ⟨⟨q1, q2, q3, q4, q5⟩, q6⟩ := hJ
                dsimp only
                rw [zaL_v (t := 3) (by omega) q4, q5, Option.bind_some, if_pos (nI_le (Nat.le_refl _) (by omega))]
                exact zS.s ⟨_, rfl, ⟨q1, q2, q3, q4, q5⟩, q6⟩
              · obtain ⟨⟨q1, q2, q3, q4, q5⟩, q6⟩ := hr
                rw [zmO_v, Option.bind_some]
                have e49 : fN h14 (znew h40 4 0 7) := q1.tr zExt.nw
                have fN49 : fN h (znew h40 4 0 7) := fN.tr j6 e49
                have hv40 : v < zn (znew h40 (3 + 1) 0 7) := by show v < zn h40 + 1; have := q1.1.1; omega
                have kv49 : zk (znew h40 (3 + 1) 0 7) v = 4 := (fN49.at a2).1.trans a3
                show zS (((zfI (znew h40 4 0 7) (some v) 3 0).bind _)) _
                rw [zfI_v (ci := 3) hv40 kv49, (fN49.at a2).2.2.1, a4, Option.bind_some, zob_v (by show zn h40 < zn h40 + 1; omega) (znew_k h40 4 0 7), Option.bind_some]
                have ws : ∀ x, x ∈ L → ∃ u, zNd (aL X (zn h14)) (znew h40 4 0 7) x.1 u x.2.1 ∧ zFo (aL X (zn h14)) (znew h40 4 0 7) x.2.1 u x.2.2 := fun x hx => by
                  obtain ⟨u, n', f'⟩ := (j1.2 x hx).1
                  exact ⟨u, n'.lt.on e49.sm, f'.lt.on e49.sm _ _ _ (n'.lt.arr e49.sm)⟩
                have fo2 := zFo_mk (P := aL X (zn h14)) (h := znew h40 4 0 7) (w := zn h14) (lab := tLab t) L (fun i hi => by rw [zp_nw (by omega)]; exact q6 i hi) ws
                have tf : tFn (tLab t) (eT L) = tMk (tLab t) (eT L) := tFn_2 _ _ (by rw [lt]; omega)
                rw [tf] at ep
                rw [← ep] at fo2
                have labp : tLab (tPl t) = tLab t := by rw [ep, tMk_lab]
                have lenp : tLen (tPl t) = L.length := by rw [ep, tMk_len, lt]
                have szp := (tPl_sz t).2
                obtain ⟨h52, u1, ⟨u2', u3, u4⟩, ⟨u5, u6⟩, u7, -⟩ := cinit_eq (P := aL X (zn h14)) (v := zn h40) (w := zn h14) (t := tPl t) (h := znew h40 4 0 7) (Nat.lt_succ_self _) (znew_k h40 4 0 7) (fun z => by have := z.2; omega) (by show zn h14 < zn h40 + 1; omega) (by rw [zk_nw (by omega)]; exact q4) (by rw [zl_nw (by omega), lenp]; exact q5) fo2 okp.1 (by omega)
                rw [labp] at u1
                have nm3 : tNm (tLab t) = -3 := by unfold tNm; rw [if_neg (by omega)]
                rw [nm3] at u1
                rw [u1, Option.bind_some]
                have e52 : fN h14 h52 := zExt.tr (S := fun u => zn h14 ≤ u) e49 (u2'.mono (fun z _ hz => by
                  have hz' : z = zn h40 := hz
                  show zn h14 ≤ z
                  omega))
                have nd14 : ∀ y, y ∈ L.flatMap eN → y < zn h14 ∧ zk h14 y = 4 := fun y hy => by
                  obtain ⟨x', hx', hy'⟩ := List.mem_flatMap.mp hy
                  exact ((j1.2 x' hx').1.nodes y hy').2
                have n14 := nNew.on e52.k nd14 j4
                have u3' : zn h52 = zn h40 + 1 := u3
                have u4' : zs h52 = zs h40 + 7 := u4
                refine zS.s ⟨(zn h40, tPl t, L.flatMap eN), rfl, ⟨zn h14, u7 (aB X) (show X + 94 ≤ zn h40 by omega) (show X + 94 ≤ zn h14 by omega), ?_⟩, rfl, okp, ?_, fun y hy => ?_, fun y hy => ?_, fN.tr j6 e52, ?_, ?_⟩
                · show zFo (aB X) h52 (tPl t) (zn h14) (L.flatMap eN)
                  have fo3 := zFo_mk (P := aB X) (h := h52) (w := zn h14) (lab := tLab t) L (fun i hi => by
                    rw [((u2'.2 (zn h14) (by show zn h14 < zn h40 + 1; omega)).2.2 (by omega)).2, zp_nw (by omega)]
                    exact q6 i hi) (fun x hx => (j1.2 x hx).1.on e52.sm)
                  rw [← ep] at fo3
                  exact fo3
                · refine List.nodup_append.mpr ⟨j3, List.nodup_cons.mpr ⟨List.not_mem_nil, List.nodup_nil⟩, fun a ha b hb hab => ?_⟩
                  have hb' : b = zn h40 := List.mem_singleton.mp hb
                  have := (nd14 a ha).1
                  omega
                · rcases List.mem_append.mp hy with hy | hy
                  · exact n14 y hy
                  · have hy' : y = zn h40 := List.mem_singleton.mp hy
                    subst hy'
                    refine ⟨u5, ?_⟩
                    show zp h52 (zn h40) 6 = none
                    rw [u6]
                    exact if_pos rfl
                · rcases List.mem_append.mp hy with hy | hy
                  · have := j5 y hy
                    exact ⟨this.1, by show y < zn h52; omega⟩
                  · have hy' : y = zn h40 := List.mem_singleton.mp hy
                    subst hy'
                    exact ⟨by omega, by show zn h40 < zn h52; omega⟩
                · show zn h52 + 9 ≤ _
                  omega
                · show zs h52 + 211 ≤ _
                  omega
theorem fN.fix {h h' : Zh} {X : Nat} (e : fN h h') (f : cFix h X) : cFix h' X := cFix.ext e f (fun v hv hs => by
  exfalso
  have f0 := f.1
  have hs' : zn h ≤ v := hs
  rcases hv with y | y | y | ⟨d, _, y⟩ <;> omega)
theorem fN.pc {h h' : Zh} {X : Nat} {pa : Nat → Nat} {p : Mp} (e : fN h h') (f0 : X + 94 ≤ zn h) (c : cPc h X pa p) : cPc h' X pa p := by
  refine ⟨by rw [(e.at (by omega)).2.2.1]; exact c.1, c.2.ext e (fun j => by rw [(e.at (u := X + 2) (by omega)).2.2.2]) (fun u hu hlt _ z => ?_)⟩
  have z' : zn h ≤ u := z
  omega
/-- a new tree is kept: what the whole call leaves -/
theorem ckeepN {h h4 : Zh} {X : Nat} {pa : Nat → Nat} {p : Mp} {x : En} (e : fN h h4) (f : cFix h X) (c : cPc h X pa p) (ok : pOK p) (g : gE X h4 x) (ht : tOK x.2.1) (hz : tSz x.2.1 < 90000) (no : (eN x).Nodup) (nw : nNew h4 (eN x)) (hb : ∀ y, y ∈ eN x → zn h ≤ y ∧ y < zn h4) :
    ∃ h' pa', fX5_keep h4 (some X) (some x.1) (nI (tSz x.2.1)) = some ((if tSz x.2.1 ≤ 60 ∧ pn p + tSz x.2.1 ≤ 200 then nI (pn p + tSz x.2.1 - 1) else -2), h') ∧ cPw h h' X pa pa' p (if tSz x.2.1 ≤ 60 ∧ pn p + tSz x.2.1 ≤ 200 then pEnt p x.2.1 else p) ∧ zPf X h h' ∧ zn h' = zn h4 ∧ zs h' = zs h4 := by
  have f0 := f.1
  have le := e.1.1
  have f4 := e.fix f
  have c4 := e.pc f0 c
  obtain ⟨w, nd, fo⟩ := g
  obtain ⟨h', pa', r1, r2, ⟨r3, r4, r5, r6⟩, r7, r8⟩ := ckeepT f4 c4 ok ht hz nd fo no nw
  refine ⟨h', pa', r1, ⟨r2.1, r2.2.1, r2.2.2.1, fun q h1 h2 => (hb _ (r2.2.2.2 q h1 h2)).1⟩, ⟨⟨⟨by omega, by have := e.1.2; omega⟩, fun u hu => ⟨by rw [r5]; exact (e.at hu).1, by rw [r6]; exact (e.at hu).2.1, fun hn => ⟨?_, ?_⟩⟩⟩, fun j hj => ?_, ?_, ?_⟩, r3, r4⟩
  · funext k
    rw [r8 u k (fun z => by have := (hb u z.1).1; omega) (fun z => hn (Or.inl z.1)), (e.at hu).2.2.1]
  · rw [r7 u (fun z => hn (Or.inr z)), (e.at hu).2.2.2]
  · rw [r8 X j (fun z => by have := (hb X z.1).1; omega) (fun z => hj z.2), (e.at (by omega)).2.2.1]
  · rw [r7 X (by omega), (e.at (by omega)).2.2.2]
  · funext k
    rw [r8 (X + 2) k (fun z => by have := (hb (X + 2) z.1).1; omega) (by omega), (e.at (by omega)).2.2.1]
theorem cplain_eq {c1 c2 : Nat} {h : Zh} {X : Nat} {pa : Nat → Nat} {p : Mp} (f : cFix h X) (c : cPc h X pa p) (ok : pOK p) (hc : c1 < zn h ∧ zk h c1 = 106) (a : Int32) : ∃ h', fX5_plain (c1, c2) h (some X) a = some ((pPlain p a).1, h') ∧ zPf X h h' ∧ (zn h' ≤ zn h + 1000 ∧ zs h' ≤ zs h + 13000) ∧ ∃ pa', cPw h h' X pa pa' p (pPlain p a).2 := by
  have h200 := ok.1
  have f0 := f.1
  unfold fX5_plain pPlain
  rw [zob_v (by omega) f.2.1.1, Option.bind_some, cpiece_at f c ok, Option.bind_some]
  by_cases y2 : mnm a (pn p)
  · rw [if_pos y2, if_neg sn, if_pos y2]
    obtain ⟨-, la⟩ := mnm_nI y2
    generalize a.toNatClampNeg = q at la
    obtain ⟨w, l, nd, -, fo⟩ := c.2.tree ok q la
    have sz := pT_sz ok q la
    have s60 := (ok.2 q la).2.2.2.1
    have hh := pT_ht ok la
    obtain ⟨⟨r1, h4⟩, e1, x, q1, q2, q3, q4, q5, q6, q7, q8, q9, q10⟩ := cplainOf_eq (c1 := c1) (c2 := c2) 64 0 h (pa q) (pT p q) w l nd fo (pT_OK ok q la) (by omega) (by omega) (by omega) f0 hc
    dsimp only at q1 q2 q6 q7 q8 q9 q10
    subst q1
    have e1' : fX5_plainOf (c1, c2) 64 h (some (pa q)) (0 : Int32) = some (some x.1, h4) := e1
    have sp := (tPl_sz (pT p q)).2
    obtain ⟨h', pa', k1, k2, k3, k4, k5⟩ := ckeepN q8 f c ok q2 q4 (by rw [q3]; omega) q5 q6 q7
    obtain ⟨w', n', f'⟩ := q2
    have f4 := q8.fix f
    have f40 := f4.1
    rw [e1', Option.bind_some]
    show ∃ h', ((zfI h4 (some x.1) 3 3).bind _) = _ ∧ _
    rw [zfI_v (ci := 3) n'.1.2.1 n'.1.2.2.1, n'.1.2.2.2.2.2.2.1, Option.bind_some, zob_v (by omega) f4.2.1.1, Option.bind_some, k1, Option.bind_some]
    rw [q3] at k2
    refine ⟨h', ?_, k3, ⟨by omega, by omega⟩, pa', ?_⟩
    · rw [q3]
      show some (_, _) = some (_, _)
      congr 2
      by_cases cc : tSz (tPl (pT p q)) ≤ 60 ∧ pn p + tSz (tPl (pT p q)) ≤ 200
      · rw [if_pos cc, if_pos cc]
      · rw [if_neg cc, if_neg cc]
    · by_cases cc : tSz (tPl (pT p q)) ≤ 60 ∧ pn p + tSz (tPl (pT p q)) ≤ 200
      · rw [if_pos cc] at k2 ⊢; exact k2
      · rw [if_neg cc] at k2 ⊢; exact k2
  · rw [if_neg y2, if_pos rfl, if_neg y2]
    exact ⟨h, rfl, zPf.rf, ⟨by omega, by omega⟩, pa, cPw.rf c⟩
theorem tPl_OK : ∀ t : Tr, tOK t → tOK (tPl t) := by
  have key : ∀ n t, tSz t ≤ n → tOK t → tOK (tPl t) := by
    intro n
    induction n with
    | zero => intro t h; have := tSz_1 t; omega
    | succ n ih =>
      intro t h ht
      have lab := tG_lab t ht.1
      by_cases z : tLen t = 0
      · unfold tPl tPf
        rw [if_pos z]
        have := tG_0 t z
        rw [← this]
        exact ht
      · have l13 : 13 ≤ tLab t := by
          by_cases y : 13 ≤ tLab t
          · exact y
          · have := tG_leaf t ht.1 (by omega); omega
        have mIns : ∀ one u (l : List Tr), (∀ x, x ∈ l → tOK x) → tOK u → ∀ x, x ∈ tIns one u l → tOK x := by
          intro one u l
          induction l with
          | nil => intro _ hu x hx; rw [List.mem_singleton.mp (show x ∈ [u] from hx)]; exact hu
          | cons a r ih2 =>
            intro hl hu x hx
            have hx' : x ∈ (if tCmp a u < 0 then a :: tIns one u r else if one = true ∧ tCmp a u = 0 then a :: r else u :: a :: r) := hx
            split at hx'
            · rcases List.mem_cons.mp hx' with rfl | hx'
              · exact hl x List.mem_cons_self
              · exact ih2 (fun y hy => hl y (List.mem_cons_of_mem _ hy)) hu x hx'
            · split at hx'
              · exact hl x hx'
              · rcases List.mem_cons.mp hx' with rfl | hx'
                · exact hu
                · exact hl x hx'
        have mPlc : ∀ lb (l : List Tr) u, (∀ x, x ∈ l → tOK x) → tOK u → ∀ x, x ∈ tPlc lb l u → tOK x := by
          intro lb l u hl hu x hx
          unfold tPlc at hx
          split at hx
          · rcases List.mem_append.mp hx with hx | hx
            · exact hl x hx
            · rw [List.mem_singleton.mp hx]; exact hu
          · split at hx
            · split at hx
              · rw [List.mem_singleton.mp hx]; exact hu
              · rcases List.mem_cons.mp hx with rfl | hx
                · exact hl x List.mem_cons_self
                · exact mIns false u _ (fun y hy => hl y (List.mem_cons_of_mem _ hy)) hu x hx
            · exact mIns _ u l hl hu x hx
        have mFold : ∀ lb (us l : List Tr), (∀ x, x ∈ l → tOK x) → (∀ x, x ∈ us → tOK x) → ∀ x, x ∈ us.foldl (tPlc lb) l → tOK x := by
          intro lb us
          induction us with
          | nil => intro l hl _ x hx; exact hl x hx
          | cons u us ih2 => intro l hl hus x hx; exact ih2 (tPlc lb l u) (mPlc lb l u hl (hus u List.mem_cons_self)) (fun y hy => hus y (List.mem_cons_of_mem _ hy)) x hx
        have pre : ∀ j, j ≤ tLen t → ∀ x, x ∈ tPk (tPre t j) → tOK x := by
          intro j
          induction j with
          | zero => intro _ x hx; rw [tPre_0] at hx; exact absurd hx List.not_mem_nil
          | succ j jh =>
            intro hj x hx
            have kz := tKid_sz t j (by omega)
            have ok1 := ih (tKid t j) (by omega) (tKid_OK t j ht.1 (by omega))
            rw [tPre_S t j (by omega), tPk_op] at hx
            unfold tTake at hx
            split at hx
            · exact jh (by omega) x hx
            · split at hx
              · exact mFold _ _ _ (jh (by omega)) (fun y hy => (tKids_OK _ _ ok1.1 hy).1) x hx
              · exact mPlc _ _ _ (jh (by omega)) ok1 x hx
        have all := pre _ (Nat.le_refl _)
        rw [tPre_all] at all
        unfold tPl tPf
        rw [if_neg z]
        exact tFn_OK l13 lab _ all
  exact fun t ht => key (tSz t) t (Nat.le_refl _) ht
theorem pPlain_OK {p : Mp} (ok : pOK p) (a : Int32) : pOK (pPlain p a).2 := by
  unfold pPlain
  by_cases c : mnm a (pn p)
  · rw [if_pos c]
    obtain ⟨-, la⟩ := mnm_nI c
    generalize a.toNatClampNeg = q at la
    by_cases cc : tSz (tPl (pT p q)) ≤ 60 ∧ pn p + tSz (tPl (pT p q)) ≤ 200
    · rw [if_pos cc]
      have okt := tPl_OK _ (pT_OK ok q la)
      exact (pEnt_ok ok okt cc.1 cc.2 (pEn_ok _ _ ok okt.1 cc.1 (by omega))).1
    · rw [if_neg cc]; exact ok
  · rw [if_neg c]; exact ok
