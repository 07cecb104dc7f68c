/-! found on the class's side: of one name, a flower -/
theorem Shf.fN {h h' : Zh} {S : Nat} (e : fN h h') (f : Shf h S) : Shf h' S := by
  obtain ⟨f1, f2, ⟨f3, f4, f5⟩, f6⟩ := f
  have le := e.1.1
  refine ⟨by omega, (e.at (by omega)).1.trans f2, ⟨by rw [(e.at (by omega)).2.2.2]; exact f3, (e.at (by omega)).1.trans f4, (e.at (by omega)).2.1.trans f5⟩, fun q hq => ?_⟩
  obtain ⟨g1, g2, g3⟩ := f6 q hq
  exact ⟨by rw [(e.at (by omega)).2.2.2]; exact g1, (e.at (by omega)).1.trans g2, (e.at (by omega)).2.1.trans g3⟩
theorem shR.fN {h h' : Zh} {S : Nat} {l : Rw} (e : fN h h') (f : Shf h S) (r : shR h S l) : shR h' S l := by
  have f1 := f.1
  exact ⟨r.1, by rw [(e.at (by omega)).2.2.1]; exact r.2.1, fun i hi => by rw [(e.at (by omega)).2.2.1]; exact r.2.2 i hi⟩
theorem fN.ex {h h' : Zh} (e : fN h h') : zExt (fun _ => False) h h' := e.mono (fun v hv (z : zn h ≤ v) => by omega)
theorem bT_two {n0 : Nat} {h h' : Zh} {a b : Option Nat} {ta tb : Tr} (hn : n0 ≤ zn h) (B1 : bT n0 h a ta) (e : fN h h') (B2 : bT (zn h) h' b tb) : ∃ x y : En, a = some x.1 ∧ b = some y.1 ∧ x.2.1 = ta ∧ y.2.1 = tb ∧ gP (fun u => n0 ≤ u) h' x ∧ gP (fun u => n0 ≤ u) h' y ∧ (eN x ++ eN y).Nodup ∧ (eN y ++ eN x).Nodup ∧ nNew h' (eN x) ∧ nNew h' (eN y) := by
  obtain ⟨x, x1, x2, x3, x4, x5⟩ := B1
  obtain ⟨y, y1, y2, y3, y4, y5⟩ := B2
  have nx := x3.nodes
  have ny := y3.nodes
  refine ⟨x, y, x1, y1, x2, y2, x3.on (zSm.ext e.ex (fun _ _ => id)), y3.mono (fun u hu => Nat.le_trans hn hu), List.nodup_append.mpr ⟨x4, y4, fun u hu v hv huv => ?_⟩, List.nodup_append.mpr ⟨y4, x4, fun u hu v hv huv => ?_⟩, nNew_on e.ex (fun u hu => ⟨(nx u hu).2.1, id⟩) x5, y5⟩
  · have := (nx u hu).2.1
    have := (ny v hv).1
    omega
  · have := (nx v hv).2.1
    have := (ny u hu).1
    omega
theorem ctwo2 {n0 lab : Nat} {h h' : Zh} {a b : Option Nat} {ta tb : Tr} (hn : n0 ≤ zn h) (B1 : bT n0 h a ta) (e : fN h h') (B2 : bT (zn h) h' b tb) (oa : tOK ta) (ob : tOK tb) (h13 : 13 ≤ lab) (h16 : lab ≤ 16) (hz : tSz ta + tSz tb < 80000) : zS (fX5_two h' (nI (tKd lab)) a b) (fun r => bT n0 r.2 r.1 (tMk lab [ta, tb]) ∧ fN h' r.2 ∧ zn r.2 = zn h' + 2 ∧ zs r.2 = zs h' + 9) := by
  obtain ⟨x, y, rfl, rfl, rfl, rfl, g1, g2, d1, -, w1, w2⟩ := bT_two hn B1 e B2
  exact ctwo_eq (Nat.le_trans hn e.1.1) g1 g2 oa ob d1 w1 w2 h13 h16 hz
theorem ctwo2r {n0 lab : Nat} {h h' : Zh} {a b : Option Nat} {ta tb : Tr} (hn : n0 ≤ zn h) (B1 : bT n0 h a ta) (e : fN h h') (B2 : bT (zn h) h' b tb) (oa : tOK ta) (ob : tOK tb) (h13 : 13 ≤ lab) (h16 : lab ≤ 16) (hz : tSz tb + tSz ta < 80000) : zS (fX5_two h' (nI (tKd lab)) b a) (fun r => bT n0 r.2 r.1 (tMk lab [tb, ta]) ∧ fN h' r.2 ∧ zn r.2 = zn h' + 2 ∧ zs r.2 = zs h' + 9) := by
  obtain ⟨x, y, rfl, rfl, rfl, rfl, g1, g2, -, d2, w1, w2⟩ := bT_two hn B1 e B2
  exact ctwo_eq (Nat.le_trans hn e.1.1) g2 g1 ob oa d2 w2 w1 h13 h16 hz
theorem cone_eq {h : Zh} {S : Nat} {l : Rw} (ok : xOK l) (nz : xNz l) (f : Shf h S) (r : shR h S l) (n1 : (nmL (xN l)).length = 1) : zS (fX5_foundOfOneName h (some S)) (fun r => bT (zn h) r.2 r.1 (xOne l) ∧ fN h r.2 ∧ zn r.2 = zn h + 2 * tSz (xOne l) ∧ zs r.2 + 1 = zs h + 8 * tSz (xOne l)) := by
  have l0 := nz.2
  have l144 := r.1
  have m0 : l.getD 0 [] ∈ l := gd_memP l0
  have q0 := nz.1 _ m0
  have rok := ok.1 _ m0
  have v12 := rok.2 0 q0
  have nx : xN l ((l.getD 0 []).getD 0 0) := ⟨_, m0, 0, q0, rfl⟩
  have ev := nmL_1 n1 v12 nx
  unfold fX5_foundOfOneName
  rw [f.p0, Option.bind_some, show (0 : Int32) = nI 0 from nI_0.symm, f.a1 (by omega), Option.bind_some, r.2.2 0 l0, cnmi_eq rok (by omega), Option.bind_some, if_pos q0]
  refine zS.b (cdeo_eq h v12) (fun q hq => ?_)
  obtain ⟨r4, h5⟩ := q
  obtain ⟨B4, e4, n4, z4⟩ := hq
  dsimp only at B4 e4 n4 z4 ⊢
  have f5 := f.fN e4
  rw [f5.ob, Option.bind_some]
  refine zS.b (clong_eq ok f5 (r.fN e4 f)) (fun x7 hx => ?_)
  refine zS.b (R1 := fun r => bT (zn h) r.2 r.1 (xOne l) ∧ fN h r.2 ∧ zn r.2 = zn h + 2 * tSz (xOne l) ∧ zs r.2 + 1 = zs h + 8 * tSz (xOne l)) ?_ (fun q hq => by
    obtain ⟨a, b⟩ := q
    exact zS.s hq)
  by_cases c : x7 = 0
  · have nl := hx.n c
    have e : xOne l = .var ((l.getD 0 []).getD 0 0) := by
      unfold xOne
      rw [if_neg (fun z => nl (cB_t.mp z)), ev]
    rw [if_pos (show x7 = nI 0 by rw [c]; exact nI_0.symm), e]
    exact zS.s ⟨B4, e4, n4, by show zs h5 + 1 = zs h + 8 * 1; omega⟩
  · have pl := hx.p c
    have e : xOne l = tMk 16 [.var ((l.getD 0 []).getD 0 0), .var 12] := by
      unfold xOne
      rw [if_pos (cB_t.mpr pl), ev]
    have sz : tSz (xOne l) = 3 := by rw [e, two_sz]; rfl
    rw [if_neg (show ¬ x7 = nI 0 by rw [nI_0]; exact c), sz, e]
    refine zS.b (csil_eq h5) (fun q hq => ?_)
    obtain ⟨r11, h12⟩ := q
    obtain ⟨B11, e11, n11, z11⟩ := hq
    dsimp only at B11 e11 n11 z11 ⊢
    refine zS.b (ctwo2 (lab := 16) e4.1.1 B4 e11 B11 (leaf_OK (by omega)) (leaf_OK (Nat.le_refl _)) (by omega) (by omega) (by show 1 + 1 < 80000; omega)) (fun q hq => ?_)
    obtain ⟨r13, h14⟩ := q
    obtain ⟨B13, e13, n13, z13⟩ := hq
    dsimp only at B13 e13 n13 z13 ⊢
    exact zS.s ⟨B13, (e4.tr e11).tr e13, by dsimp only; omega, by dsimp only; omega⟩
/-- names up to k that are there -/
noncomputable def nmK (P : Nat → Prop) (k : Nat) : List Nat := (List.range k).filter (fun v => cB (P v))
theorem nmK_S (P : Nat → Prop) (k : Nat) : nmK P (k + 1) = nmK P k ++ (if cB (P k) = true then [k] else []) := by
  unfold nmK
  rw [List.range_succ, List.filter_append]
  congr 1
  by_cases c : cB (P k) = true
  · rw [if_pos c, List.filter_cons_of_pos (p := fun v => cB (P v)) c]; rfl
  · rw [if_neg c, List.filter_cons_of_neg (p := fun v => cB (P v)) c]; rfl
theorem nmK_le (P : Nat → Prop) (k : Nat) : ∀ d, (nmK P k).length ≤ (nmK P (k + d)).length
  | 0 => Nat.le_refl _
  | d + 1 => by
    have := nmK_le P k d
    rw [← Nat.add_assoc, nmK_S, List.length_append]
    omega
theorem cflower_eq {h : Zh} {x : Int32} {P : Nat → Prop} (hx : sM x P) (h2 : 2 ≤ (nmL P).length) : zS (fX5_flower h x) (fun r => bT (zn h) r.2 r.1 (tMk 16 [tMk 14 ((nmL P).map fun v => .var v), .var 12]) ∧ fN h r.2 ∧ zn r.2 = zn h + 2 * ((nmL P).length + 3) ∧ zs r.2 + 1 = zs h + 8 * ((nmL P).length + 3)) := by
  have c12 : (nmL P).length ≤ 12 := cN_12 P
  have hk : ∀ k, k ≤ 12 → (nmK P k).length ≤ (nmL P).length := fun k hk => by
    have := nmK_le P k (12 - k)
    rw [Nat.add_sub_of_le hk] at this
    exact this
  unfold fX5_flower
  rw [cbc_eq hx, Option.bind_some, zmA_v (by omega), Option.bind_some]
  dsimp only
  generalize ec : (nmL P).length = c at *
  have k3 : zk (znew h 103 c c) (zn h) = 103 := znew_k h 103 c c
  have l3 : zl (znew h 103 c c) (zn h) = c := if_pos rfl
  have e3 : zExt (fun _ => False) h (znew h 103 c c) := zExt.nw
  have n3 : zn (znew h 103 c c) = zn h + 1 := rfl
  have z3 : zs (znew h 103 c c) = zs h + c := rfl
  show zS (((zloop (fun ((v4, v5, h6) : Int32 × Int32 × Zh) =>
    (if (12 : Int32) ≤ v5 then
      some (.inr h6)
    else
      (if (x &&& ((1 : Int32) <<< (v5 &&& 31))) = 0 then
        some (v4, h6)
      else
        (zaL h6 (some (zn h)) 3).bind fun x13 =>
        if v4 < x13 then
          (fX5_deedOf h6 v5).bind fun ((r14, h15) : Option Nat × Zh) =>
          (zbP h15 (some (zn h)) 3 3 v4 r14).bind fun h16 =>
          some (v4 + (1 : Int32), h16)
        else
          some (v4, h6)).bind fun ((v10, h11) : Int32 × Zh) =>
      some (.inl (v10, v5 + (1 : Int32), h11)) : Option ((Int32 × Int32 × Zh) ⊕ Zh))) zFU ((0 : Int32), (0 : Int32), znew h 103 c c)).bind _)) _
  generalize znew h 103 c c = h3 at k3 l3 e3 n3 z3 ⊢
  have e3' : fN h h3 := e3.mono (fun _ _ z => z.elim)
  refine zS.b (R1 := fun h7 => ∃ L : List En, eT L = (nmL P).map (fun v => .var v) ∧ bLs (zn h) (zn h) h7 L ∧ fN h h7 ∧ (zk h7 (zn h) = 103 ∧ zl h7 (zn h) = c) ∧ L.length = c ∧ zn h7 = zn h + 1 + 2 * c ∧ zs h7 = zs h + c + 7 * c) (zS.gen (fun k (b : Int32 × Zh) => (b.1, nI k, b.2)) (fun k b => ∃ L : List En, b.1 = nI L.length ∧ eT L = (nmK P k).map (fun v => .var v) ∧ bLs (zn h) (zn h) b.2 L ∧ fN h b.2 ∧ (zk b.2 (zn h) = 103 ∧ zl b.2 (zn h) = c) ∧ L.length = (nmK P k).length ∧ zn b.2 = zn h + 1 + 2 * L.length ∧ zs b.2 = zs h + c + 7 * L.length) 0 12 (fun k b _ hk' hJ => ?_) (fun b hJ => ?_) (Nat.zero_le _) (by omega) (x0 := ((0 : Int32), h3)) ⟨[], nI_0.symm, rfl, ⟨fun x hx => absurd hx List.not_mem_nil, List.nodup_nil, fun u hu => absurd hu List.not_mem_nil, fun i hi => absurd hi (Nat.not_lt_zero _)⟩, e3', ⟨k3, l3⟩, rfl, n3, z3⟩) (fun h7 hh => ?_)
  · obtain ⟨v4, h6⟩ := b
    obtain ⟨L, rfl, j2, j3, j4, ⟨j5, j6⟩, j7, j8, j9⟩ := hJ
    dsimp only at j3 j4 j5 j6 j8 j9 ⊢
    have eS := nmK_S P k
    rw [if_neg (k12 hk')]
    by_cases c0 : P k
    · rw [if_pos (cB_t.mpr c0)] at eS
      have el : (nmK P (k + 1)).length = (nmK P k).length + 1 := by rw [eS, List.length_append]; rfl
      have kc := hk (k + 1) (by omega)
      rw [if_neg (fun z => (hx.at hk').mp z c0), zaL_v (t := 3) (by omega) j5, j6, Option.bind_some, if_pos (nI_lt (by omega) (by omega))]
      refine zS.b (R1 := fun q : Int32 × Zh => ∃ L' : List En, q.1 = nI L'.length ∧ eT L' = (nmK P (k + 1)).map (fun v => .var v) ∧ bLs (zn h) (zn h) q.2 L' ∧ fN h q.2 ∧ (zk q.2 (zn h) = 103 ∧ zl q.2 (zn h) = c) ∧ L'.length = (nmK P (k + 1)).length ∧ zn q.2 = zn h + 1 + 2 * L'.length ∧ zs q.2 = zs h + c + 7 * L'.length) ?_ (fun q hq => ?_)
      · refine zS.b (cdeo_eq h6 hk') (fun q hq => ?_)
        obtain ⟨r14, h15⟩ := q
        obtain ⟨⟨y, rfl, y2, y3, y4, y5⟩, e14, n14, z14⟩ := hq
        dsimp only at y3 y5 e14 n14 z14 ⊢
        have w15 := e14.at (u := zn h) (by omega)
        have ty := y3.top
        rw [zbP_v (n := c) (by omega) (w15.1.trans j5) (w15.2.1.trans j6) (by omega) (by omega) ty.2.1 ty.2.2, Option.bind_some]
        have bs := bLs_s j3 ⟨Nat.le_refl _, by omega⟩ e14.ex (fun _ _ => id) y3 (by rw [y2]; exact leaf_OK (by omega)) y4 y5
        have ll : (L ++ [y]).length = L.length + 1 := by rw [List.length_append]; rfl
        refine zS.s ⟨L ++ [y], by rw [ll, nI_1], ?_, bs, zExt.tr (show zExt (fun u => zn h ≤ u) h h15 from j4.tr e14) (zExt.sP (Or.inl (Nat.le_refl _))), ⟨w15.1.trans j5, w15.2.1.trans j6⟩, by rw [ll, el, j7], ?_, ?_⟩
        · show (L ++ [y]).map _ = _
          rw [List.map_append, eS, List.map_append]
          congr 1
          show [y.2.1] = [_]
          rw [y2]
        · show zn h15 = _
          rw [ll]; omega
        · show zs h15 = _
          rw [ll]; omega
      · obtain ⟨v10, h11⟩ := q
        exact zS.s (Or.inl ⟨(v10, h11), by rw [nI_1], hq⟩)
    · rw [if_neg (fun z => c0 (cB_t.mp z)), List.append_nil] at eS
      rw [if_pos ((hx.at hk').mpr c0), Option.bind_some]
      refine zS.s (Or.inl ⟨(nI L.length, h6), by rw [nI_1], L, rfl, ?_, j3, j4, ⟨j5, j6⟩, ?_, j8, j9⟩)
      · rw [eS]; exact j2
      · rw [eS]; exact j7
  · obtain ⟨v4, h6⟩ := b
    obtain ⟨L, rfl, j2, j3, j4, j5, j7, j8, j9⟩ := hJ
    dsimp only at j3 j4 j5 j8 j9 ⊢
    have e12' : nmK P 12 = nmL P := rfl
    rw [e12'] at j2 j7
    rw [if_pos e12]
    exact zS.s ⟨_, rfl, L, j2, j3, j4, j5, by omega, by omega, by omega⟩
  · obtain ⟨L, j2, j3, j4, ⟨j5, j6⟩, j7, j8, j9⟩ := hh
    have eL : tSum (eT L) = c := by rw [j2, tSum_map, ← ec]; exact gS_one _
    obtain ⟨k18, h20, i1, B20, e20, n20, z20⟩ := cmkF (lab := 14) j3 ⟨Nat.le_refl _, by omega⟩ j5 (by rw [j6, j7]) (by omega) (by omega) (by rw [tMk_sz, eL]; omega)
    have i1' : fX2_init (znew h7 4 0 7) (some (zn h7)) (3 : Int32) (-3 : Int32) (some (zn h)) = some h20 := i1
    rw [zmO_v, Option.bind_some]
    dsimp only
    rw [zob_v (by show zn h7 < zn h7 + 1; omega) k18, Option.bind_some, i1', Option.bind_some]
    refine zS.b (csil_eq h20) (fun q hq => ?_)
    obtain ⟨r21, h22⟩ := q
    obtain ⟨B21, e21, n21, z21⟩ := hq
    dsimp only at B21 e21 n21 z21 ⊢
    have oc : tOK (tMk 14 (eT L)) := ⟨tMk_G 14 (by omega) (by omega) _ (fun t ht => by
      obtain ⟨x, x1, rfl⟩ := List.mem_map.mp ht
      exact (j3.1 x x1).2), fun _ => by rw [tMk_len, List.length_map, j7]; exact h2⟩
    refine zS.b (ctwo2 (lab := 16) (show zn h ≤ zn h20 by omega) B20 e21 B21 oc (leaf_OK (Nat.le_refl _)) (by omega) (by omega) (by rw [tMk_sz, eL]; show 1 + c + 1 < 80000; omega)) (fun q hq => ?_)
    obtain ⟨r23, h24⟩ := q
    obtain ⟨B23, e23, n23, z23⟩ := hq
    dsimp only at B23 e23 n23 z23 ⊢
    rw [j2] at B23
    exact zS.s ⟨B23, ((j4.tr e20).tr e21).tr e23, by dsimp only; omega, by dsimp only; omega⟩
