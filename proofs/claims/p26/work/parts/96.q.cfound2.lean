/-! found on the class's side: shares one behind the other -/
abbrev aSh (X d u : Nat) : Prop := X + 10 + 7 * d ≤ u ∧ u < X + 94
def fF (X d : Nat) (h h' : Zh) : Prop := zExt (aSh X d) h h' ∧ ∀ u, u < zn h → zp h' u = zp h u
theorem fF.rf {X d : Nat} {h : Zh} : fF X d h h := ⟨zExt.rf, fun _ _ => rfl⟩
theorem fF.tr {X d : Nat} {h h1 h2 : Zh} (a : fF X d h h1) (b : fF X d h1 h2) : fF X d h h2 := ⟨a.1.tr b.1, fun u hu => (b.2 u (Nat.lt_of_lt_of_le hu a.1.1.1)).trans (a.2 u hu)⟩
theorem fF.mono {X d d' : Nat} {h h' : Zh} (a : fF X d h h') (hd : d' ≤ d) : fF X d' h h' := ⟨a.1.mono (fun u _ z => by omega), a.2⟩
theorem fN.F {X d : Nat} {h h' : Zh} (e : fN h h') : fF X d h h' := ⟨e.mono (fun u hu (z : zn h ≤ u) => by omega), fun u hu => (e.at hu).2.2.2⟩
theorem iO.F {X d : Nat} {Q : Nat → Nat → Prop} {h h' : Zh} (o : iO Q h h') (hQ : ∀ u k, Q u k → aSh X d u) : fF X d h h' := by
  obtain ⟨⟨n, s, k, l, p⟩, z⟩ := o
  refine ⟨⟨⟨by rw [n]; exact Nat.le_refl _, by rw [s]; exact Nat.le_refl _⟩, fun v hv => ⟨by rw [k], by rw [l], fun nS => ⟨?_, by rw [p]⟩⟩⟩, fun u _ => by rw [p]⟩
  funext j
  exact z v j (fun q => nS (hQ v j q))
theorem fF.fix {X d : Nat} {h h' : Zh} (a : fF X d h h') (f : cFix h X) : cFix h' X := cFix.ext a.1 f (fun v hv hs k => by
  have f0 := f.1
  have : v < zn h := by omega
  rw [a.2 v this])
theorem fF.sh {X d : Nat} {h h' : Zh} {l : Rw} (a : fF X (d + 1) h h') (f : cFix h X) (hd : d < 12) (r : shR h (X + 10 + 7 * d) l) : shR h' (X + 10 + 7 * d) l := by
  have f0 := f.1
  have g : ∀ u, u < X + 10 + 7 * (d + 1) → zi h' u = zi h u := fun u hu => ((a.1.2 u (by omega)).2.2 (by omega)).1
  exact ⟨r.1, by rw [g _ (by omega)]; exact r.2.1, fun i hi => by rw [g _ (by omega)]; exact r.2.2 i hi⟩
theorem fF.pa {X d : Nat} {h h' : Zh} {ps : List (Nat → Prop)} (a : fF X (d + 1) h h') (f : cFix h X) (hd : d < 12) (p : shP h (X + 10 + 7 * d) ps) : shP h' (X + 10 + 7 * d) ps := by
  have f0 := f.1
  have g : ∀ u, u < X + 10 + 7 * (d + 1) → zi h' u = zi h u := fun u hu => ((a.1.2 u (by omega)).2.2 (by omega)).1
  exact ⟨p.1, by rw [g _ (by omega)]; exact p.2.1, fun i hi => by rw [g _ (by omega)]; exact p.2.2 i hi⟩
theorem csh_at {h : Zh} {X d : Nat} (f : cFix h X) (hd : d < 12) : zaP h (some (X + 7)) 4 (nI d) = some (some (X + 10 + 7 * d)) ∧ zaL h (some (X + 7)) 4 = some (nI 12) := by
  have f0 := f.1
  obtain ⟨-, -, -, -, -, -, ⟨g1, g2⟩, -, g⟩ := f
  exact ⟨by rw [zaP_v (t := 4) (n := 12) (by omega) g1 g2 hd (by omega), (g d hd).1], by rw [zaL_v (t := 4) (by omega) g1, g2]⟩
/-- what is found at a depth -/
def FOK (X n : Nat) (rc : Zh → Option Nat → Int32 → Option (Option Nat × Zh)) : Prop := ∀ (d : Nat) (h : Zh) (l : Rw), n + d = 12 → cFix h X → shR h (X + 10 + 7 * d) l → xOK l → zS (rc h (some (X + 7)) (nI d)) (fun r => bT (zn h) r.2 r.1 (xFnd n l) ∧ fF X d h r.2 ∧ zn r.2 = zn h + 2 * tSz (xFnd n l) ∧ zs r.2 + 1 = zs h + 8 * tSz (xFnd n l))
theorem ccutp_eq {X n d : Nat} {rc : Zh → Option Nat → Int32 → Option (Option Nat × Zh)} (R : FOK X n rc) {h : Zh} {l : Rw} (hd : n + (d + 1) = 12) (n0 : ¬ n = 0) (f : cFix h X) (ok : xOK l) (nz : xNz l) (r : shR h (X + 10 + 7 * d) l) (k0 : (xCut l).1 ≠ 0) (p : shP h (X + 10 + 7 * d) (xCut l).2) :
    zS ((zfI h (some (X + 10 + 7 * d)) 4 10).bind fun x18 =>
            (zmA h 3 x18).bind fun ((r19, h20) : Option Nat × Zh) =>
            (zloop (fun ((v21, h22) : Int32 × Zh) =>
              ((zaL h22 r19 3).bind fun x26 =>
              if x26 ≤ v21 then
                some (.inr h22)
              else
                (zaP h22 (some (X + 7)) 4 (nI d + (1 : Int32))).bind fun r27 =>
                (zfP h22 (some (X + 10 + 7 * d)) 4 9).bind fun r28 =>
                (zaI h22 r28 v21).bind fun x29 =>
                (zob h22 r27 5).bind fun p30 =>
                (fX3_takeFrom h22 (some p30) (some (X + 10 + 7 * d)) x29 (nI (xCut l).1)).bind fun h31 =>
                (rc h31 (some (X + 7)) (nI d + (1 : Int32))).bind fun ((r32, h33) : Option Nat × Zh) =>
                (zbP h33 r19 3 3 v21 r32).bind fun h34 =>
                some (.inl (v21 + (1 : Int32), h34)) : Option ((Int32 × Zh) ⊕ Zh))) zFU ((0 : Int32), h20)).bind fun (h23 : Zh) =>
            (zmO h23 3 7).bind fun ((r35, h36) : Option Nat × Zh) =>
            (zob h36 r35 4).bind fun p37 =>
            (fX2_init h36 (some p37) (nI (xCut l).1) (-3 : Int32) r19).bind fun h38 =>
            some (r35, h38)) (fun q => bT (zn h) q.2 q.1 (tMk (11 + (xCut l).1) ((xCut l).2.map fun P => xFnd n (xTake (xCut l).1 P l))) ∧ fF X (d + 1) h q.2 ∧ zn q.2 = zn h + 2 * tSz (tMk (11 + (xCut l).1) ((xCut l).2.map fun P => xFnd n (xTake (xCut l).1 P l))) ∧ zs q.2 + 1 = zs h + 8 * tSz (tMk (11 + (xCut l).1) ((xCut l).2.map fun P => xFnd n (xTake (xCut l).1 P l)))) := by
  obtain ⟨k1, k2, k3, k4, -, -⟩ := xCut_ok ok nz.b k0
  have f0 := f.1
  have hsz : ∀ P : Nat → Prop, tSz (xFnd n (xTake (xCut l).1 P l)) ≤ 93 ∧ tOK (xFnd n (xTake (xCut l).1 P l)) := fun P => ⟨xFnd_93 (xTake_ok ok).1, (xFnd_ok n _ (xTake_ok ok).1).1⟩
  generalize xCut l = kq at *
  obtain ⟨k, ps⟩ := kq
  dsimp only at k0 p k1 k2 k3 k4 hsz ⊢
  have fs := f.sh (d := d) (by omega)
  rw [fs.fI, Option.bind_some, p.2.1, zmA_v (by omega), Option.bind_some]
  dsimp only
  have m3 : zk (znew h 103 ps.length ps.length) (zn h) = 103 := znew_k h 103 ps.length ps.length
  have l3 : zl (znew h 103 ps.length ps.length) (zn h) = ps.length := if_pos rfl
  have e3 : zExt (fun _ => False) h (znew h 103 ps.length ps.length) := zExt.nw
  have n3 : zn (znew h 103 ps.length ps.length) = zn h + 1 := rfl
  have z3 : zs (znew h 103 ps.length ps.length) = zs h + ps.length := rfl
  show zS (((zloop (fun ((v21, h22) : Int32 × Zh) =>
              ((zaL h22 (some (zn h)) 3).bind fun x26 =>
              if x26 ≤ v21 then
                some (.inr h22)
              else
                (zaP h22 (some (X + 7)) 4 (nI d + (1 : Int32))).bind fun r27 =>
                (zfP h22 (some (X + 10 + 7 * d)) 4 9).bind fun r28 =>
                (zaI h22 r28 v21).bind fun x29 =>
                (zob h22 r27 5).bind fun p30 =>
                (fX3_takeFrom h22 (some p30) (some (X + 10 + 7 * d)) x29 (nI k)).bind fun h31 =>
                (rc h31 (some (X + 7)) (nI d + (1 : Int32))).bind fun ((r32, h33) : Option Nat × Zh) =>
                (zbP h33 (some (zn h)) 3 3 v21 r32).bind fun h34 =>
                some (.inl (v21 + (1 : Int32), h34)) : Option ((Int32 × Zh) ⊕ Zh))) zFU ((0 : Int32), znew h 103 ps.length ps.length)).bind _)) _
  generalize znew h 103 ps.length ps.length = h20 at m3 l3 e3 n3 z3 ⊢
  have e3' : fN h h20 := e3.mono (fun _ _ z => z.elim)
  let T : (Nat → Prop) → Tr := fun P => xFnd n (xTake k P l)
  refine zS.b (R1 := fun h7 => ∃ L : List En, eT L = ps.map T ∧ bLs (zn h) (zn h) h7 L ∧ fF X (d + 1) h h7 ∧ (zk h7 (zn h) = 103 ∧ zl h7 (zn h) = ps.length) ∧ zn h7 = zn h + 1 + 2 * tSum (eT L) ∧ zs h7 + L.length = zs h + ps.length + 8 * tSum (eT L)) (zS.up (fun j h7 => ∃ L : List En, eT L = (ps.take j).map T ∧ bLs (zn h) (zn h) h7 L ∧ fF X (d + 1) h h7 ∧ (zk h7 (zn h) = 103 ∧ zl h7 (zn h) = ps.length) ∧ zn h7 = zn h + 1 + 2 * tSum (eT L) ∧ zs h7 + L.length = zs h + ps.length + 8 * tSum (eT L)) 0 ps.length (fun j h22 _ hj hJ => ?_) (fun h22 hJ => ?_) (Nat.zero_le _) (by omega) ⟨[], rfl, ⟨fun x hx => absurd hx List.not_mem_nil, List.nodup_nil, fun u hu => absurd hu List.not_mem_nil, fun i hi => absurd hi (Nat.not_lt_zero _)⟩, e3'.F, ⟨m3, l3⟩, n3, z3⟩) (fun h23 hh => ?_)
  · obtain ⟨L, j1, j2, j3, ⟨j4, j5⟩, j6, j7⟩ := hJ
    have f22 := j3.fix f
    have r22 := j3.sh f (by omega) r
    have p22 := j3.pa f (by omega) p
    have fs22 := f22.sh (d := d) (by omega)
    have ft22 := f22.sh (d := d + 1) (by omega)
    have le22 := j3.1.1.1
    have Lj : L.length = j := by
      have := congrArg List.length j1
      rw [List.length_map, List.length_map, List.length_take] at this
      omega
    dsimp only
    rw [zaL_v (t := 3) (by omega) j4, j5, Option.bind_some, if_neg (nI_nle' (by omega) hj), nI_1, (csh_at f22 (by omega)).1, Option.bind_some, fs22.p9, Option.bind_some, fs22.a6 (by omega), Option.bind_some, p22.2.2 j hj, ft22.ob, Option.bind_some]
    refine zS.b (ctkf_eq ok (mOf_s (ps.getD j (fun _ => False))) fs22 ft22 (by omega) r22 (by omega)) (fun h31 ⟨r31, o31⟩ => ?_)
    have F31 : fF X (d + 1) h22 h31 := o31.F (fun u k z => by omega)
    have n31 : zn h31 = zn h22 := o31.1.1
    have z31 : zs h31 = zs h22 := o31.1.2.1
    have f31 := F31.fix f22
    refine zS.b (R (d + 1) h31 _ hd f31 r31 (xTake_ok ok).1) (fun q hq => ?_)
    obtain ⟨r32, h33⟩ := q
    obtain ⟨⟨y, rfl, y2, y3, y4, y5⟩, F33, n33, z33⟩ := hq
    dsimp only at y3 y5 F33 n33 z33 ⊢
    have F : fF X (d + 1) h22 h33 := F31.tr F33
    have w33 := F.1.2 (zn h) (by omega)
    have ty := y3.top
    rw [zbP_v (n := ps.length) (by have := F.1.1.1; omega) (w33.1.trans j4) (w33.2.1.trans j5) hj (by omega) ty.2.1 ty.2.2, Option.bind_some]
    have hP := hsz (ps.getD j (fun _ => False))
    have bs := bLs_s (x := y) j2 ⟨Nat.le_refl _, by omega⟩ F.1 (fun u hu => by omega) (y3.mono (fun u hu => by omega)) (by rw [y2]; exact hP.2) y4 y5
    rw [Lj] at bs
    have eS : ps.take (j + 1) = ps.take j ++ [ps.getD j (fun _ => False)] := by
      rw [List.take_succ, List.getElem?_eq_getElem hj, List.getD_eq_getElem?_getD, List.getElem?_eq_getElem hj]; rfl
    have e1 : eT (L ++ [y]) = eT L ++ [y.2.1] := List.map_append
    have s1 : tSum (eT (L ++ [y])) = tSum (eT L) + tSz y.2.1 := by
      rw [e1, tSum_app, tSum_cons]; rfl
    have ll : (L ++ [y]).length = L.length + 1 := by rw [List.length_append]; rfl
    refine zS.s ⟨_, by rw [nI_1], L ++ [y], ?_, bs, ?_, ⟨w33.1.trans j4, w33.2.1.trans j5⟩, ?_, ?_⟩
    · rw [e1, j1, eS, List.map_append, y2]; rfl
    · have FF := j3.tr F
      exact ⟨⟨FF.1.1, fun v hv => ⟨(FF.1.2 v hv).1, (FF.1.2 v hv).2.1, fun nS => ⟨((FF.1.2 v hv).2.2 nS).1, by
        rw [zp_sP]
        funext i
        rw [u2_a (by omega), ((FF.1.2 v hv).2.2 nS).2]⟩⟩⟩, fun u hu => by
        rw [zp_sP]
        funext i
        rw [u2_a (by omega), FF.2 u hu]⟩
    · show zn h33 = _
      rw [s1, y2]; omega
    · show zs h33 + _ = _
      rw [s1, y2, ll]; omega
  · obtain ⟨L, j1, j2, j3, ⟨j4, j5⟩, j6, j7⟩ := hJ
    have le22 := j3.1.1.1
    dsimp only
    rw [zaL_v (t := 3) (by omega) j4, j5, Option.bind_some, if_pos (nI_le (Nat.le_refl _) (by omega))]
    rw [List.take_length] at j1
    exact zS.s ⟨_, rfl, L, j1, j2, j3, ⟨j4, j5⟩, j6, j7⟩
  · obtain ⟨L, j1, j2, j3, ⟨j4, j5⟩, j6, j7⟩ := hh
    have Lj : L.length = ps.length := by
      have := congrArg List.length j1
      rw [List.length_map, List.length_map] at this
      exact this
    have sb : tSum (eT L) ≤ 93 * 12 := by
      rw [j1, tSum_map]
      have h1 : gS (fun P => tSz (T P)) ps ≤ gS (fun _ => 93) ps := gS_le _ _ _ (fun P _ => (hsz P).1)
      have h2 : gS (fun _ : Nat → Prop => 93) ps = 93 * gS (fun _ => 1) ps := gS_m (fun _ => 1) 93 ps
      rw [gS_one] at h2
      omega
    obtain ⟨k18, h38, i1, B38, e38, n38, z38⟩ := cmkF (lab := 11 + k) j2 ⟨Nat.le_refl _, by omega⟩ j4 (by rw [j5, Lj]) (by omega) (by omega) (by rw [tMk_sz]; omega)
    have kt : tKd (11 + k) = k := by unfold tKd; rw [if_neg (by omega), Nat.add_sub_cancel_left]
    have kn : tNm (11 + k) = -3 := if_neg (by omega)
    rw [kt, kn] at i1
    have eT' : tMk (11 + k) (eT L) = tMk (11 + k) (ps.map fun P => xFnd n (xTake k P l)) := by rw [j1]
    rw [zmO_v, Option.bind_some]
    dsimp only
    rw [zob_v (by show zn h23 < zn h23 + 1; omega) k18, Option.bind_some, i1, Option.bind_some, ← eT', tMk_sz]
    exact zS.s ⟨B38, j3.tr e38.F, by dsimp only; omega, by dsimp only; omega⟩
theorem FOK.full {X n d : Nat} {rc : Zh → Option Nat → Int32 → Option (Option Nat × Zh)} (R : FOK X n rc) {h : Zh} {l : Rw} (hd : n + (d + 1) = 12) (f : cFix h X) (ok : xOK l) (nz : xNz l) (r : shR h (X + 10 + 7 * d) l) :
    zS (fX5_foundOfFull rc h (some (X + 7)) (nI d)) (fun q => bT (zn h) q.2 q.1 (xFull n (xFnd n) l) ∧ fF X d h q.2 ∧ zi q.2 (X + 10 + 7 * d) 1 = zi h (X + 10 + 7 * d) 1 ∧ zn q.2 = zn h + 2 * tSz (xFull n (xFnd n) l) ∧ zs q.2 + 1 = zs h + 8 * tSz (xFull n (xFnd n) l)) := by
  have fs := f.sh (d := d) (by omega)
  have f0 := f.1
  obtain ⟨a1, a2⟩ := csh_at f (d := d) (by omega)
  have np := xNm_pos ok nz
  unfold fX5_foundOfFull
  rw [if_neg (nI_pos (by omega)), a2, Option.bind_some, if_pos (nI_lt (by omega) (by omega)), a1, Option.bind_some, fs.ob, Option.bind_some]
  refine zS.b (clk_eq ok fs r) (fun h6 ⟨s6, o6⟩ => ?_)
  have F6 : fF X d h h6 := o6.F (fun u k z => by omega)
  have fs6 := fs.on o6
  have f6 := F6.fix f
  have r6 := r.on o6 (by omega) (fun j _ => by omega)
  have n6 : zn h6 = zn h := o6.1.1
  have z6 : zs h6 = zs h := o6.1.2.1
  have i6 : zi h6 (X + 10 + 7 * d) 1 = zi h (X + 10 + 7 * d) 1 := o6.2 _ _ (by omega)
  rw [fs6.fI, Option.bind_some, cbc_eq s6.1, Option.bind_some]
  by_cases c1 : (nmL (xN l)).length = 1
  · have e : xFull n (xFnd n) l = xOne l := by unfold xFull; rw [if_pos c1]
    rw [if_pos (show nI (nmL (xN l)).length = (1 : Int32) by rw [c1]; rfl), e]
    refine zS.b (cone_eq ok nz fs6 r6 c1) (fun q hq => ?_)
    obtain ⟨r9, h10⟩ := q
    obtain ⟨B, eN', n10, z10⟩ := hq
    dsimp only at B eN' n10 z10 ⊢
    exact zS.s ⟨by rw [← n6]; exact B, F6.tr eN'.F, by dsimp only; rw [(eN'.at (by omega)).2.2.1]; exact i6, by dsimp only; omega, by dsimp only; omega⟩
  · have c12 : (nmL (xN l)).length ≤ 12 := cN_12 _
    rw [if_neg (show ¬ nI (nmL (xN l)).length = (1 : Int32) from fun z => c1 ((nI_eq (b := 1) (by omega) (by omega)).mp z)), fs6.ob, Option.bind_some]
    refine zS.b (ccutsTo_eq ok nz.b fs6 s6) (fun q hq => ?_)
    obtain ⟨x12, h13⟩ := q
    obtain ⟨q1, q2, o13⟩ := hq
    dsimp only at q1 q2 o13 ⊢
    have F13 : fF X d h h13 := F6.tr (o13.F (fun u k z => by omega))
    have fs13 := fs6.on o13
    have f13 := F13.fix f
    have r13 := r6.on o13 (by omega) (fun j _ => by omega)
    have s13 := s6.ct o13
    have n13 : zn h13 = zn h := o13.1.1.trans n6
    have z13 : zs h13 = zs h := o13.1.2.1.trans z6
    have i13 : zi h13 (X + 10 + 7 * d) 1 = zi h (X + 10 + 7 * d) 1 := (o13.2 _ _ (by omega)).trans i6
    have flw : xFull n (xFnd n) l = xFlw l → zS ((zfI h13 (some (X + 10 + 7 * d)) 4 2).bind fun x14 => (fX5_flower h13 x14).bind fun ((r15, h16) : Option Nat × Zh) => some (r15, h16)) (fun q => bT (zn h) q.2 q.1 (xFull n (xFnd n) l) ∧ fF X d h q.2 ∧ zi q.2 (X + 10 + 7 * d) 1 = zi h (X + 10 + 7 * d) 1 ∧ zn q.2 = zn h + 2 * tSz (xFull n (xFnd n) l) ∧ zs q.2 + 1 = zs h + 8 * tSz (xFull n (xFnd n) l)) := fun e => by
      have sz := (xFlw_ok (l := l) (by omega)).2
      rw [fs13.fI, Option.bind_some, e, sz]
      refine zS.b (cflower_eq s13.1 (by omega)) (fun q hq => ?_)
      obtain ⟨r15, h16⟩ := q
      obtain ⟨B, eN', n16, z16⟩ := hq
      dsimp only at B eN' n16 z16 ⊢
      exact zS.s ⟨by rw [← n13]; exact B, F13.tr eN'.F, by dsimp only; rw [(eN'.at (by omega)).2.2.1]; exact i13, by dsimp only; omega, by dsimp only; omega⟩
    by_cases k0 : (xCut l).1 = 0
    · rw [if_pos k0] at q1
      rw [if_pos q1]
      exact flw (by unfold xFull; rw [if_neg c1, if_pos (Or.inl k0)])
    · rw [if_neg k0] at q1
      obtain ⟨k1, k2, -⟩ := xCut_ok ok nz.b k0
      rw [q1, if_neg (n3_nI (by omega)), (csh_at f13 (d := d) (by omega)).2, Option.bind_some]
      by_cases n0 : n = 0
      · rw [if_neg (show ¬ nI d + (1 : Int32) < nI 12 by rw [nI_1]; exact nI_nlt (by omega) (by omega))]
        exact flw (by unfold xFull; rw [if_neg c1, if_pos (Or.inr n0)])
      · have e : xFull n (xFnd n) l = tMk (11 + (xCut l).1) ((xCut l).2.map fun P => xFnd n (xTake (xCut l).1 P l)) := by
          unfold xFull
          rw [if_neg c1, if_neg (fun z => z.elim k0 n0)]
        rw [if_pos (show nI d + (1 : Int32) < nI 12 by rw [nI_1]; exact nI_lt (by omega) (by omega)), e]
        refine zS.m (ccutp_eq R hd n0 f13 ok nz r13 k0 (q2 k0)) (fun q hq => ?_)
        obtain ⟨B, F, nn, zz⟩ := hq
        have g := ((F.1.2 (X + 10 + 7 * d) (by omega)).2.2 (by omega)).1
        exact ⟨by rw [← n13]; exact B, F13.tr (F.mono (by omega)), by rw [g]; exact i13, by omega, by omega⟩
theorem cfound_eq {X : Nat} : ∀ (n fu : Nat), n < fu → FOK X n (fX5_found fu) := by
  intro n
  induction n with
  | zero =>
    intro fu hfu d h l hd f r ok
    obtain ⟨fu, rfl⟩ : ∃ m, fu = m + 1 := ⟨fu - 1, by omega⟩
    have d12 : d = 12 := by omega
    subst d12
    have k := (csh_at f (d := 0) (by omega)).2
    show zS (fX5_foundB (fX5_found fu) h (some (X + 7)) (nI 12)) _
    unfold fX5_foundB
    rw [if_neg (nI_pos (by omega)), k, Option.bind_some, if_neg (nI_nlt (Nat.le_refl _) (by omega))]
    refine zS.b (csil_eq h) (fun q hq => ?_)
    obtain ⟨r1, h2⟩ := q
    obtain ⟨B, e, n2, z2⟩ := hq
    dsimp only at B e n2 z2 ⊢
    exact zS.s ⟨B, e.F, n2, by show zs h2 + 1 = zs h + 8 * 1; omega⟩
  | succ n ih =>
    intro fu hfu d h l hd f r ok
    obtain ⟨fu, rfl⟩ : ∃ m, fu = m + 1 := ⟨fu - 1, by omega⟩
    have R := ih fu (by omega)
    have l144 := ok.2.1
    have xl := xNe_len l
    have fs := f.sh (d := d) (by omega)
    have f0 := f.1
    obtain ⟨a1, a2⟩ := csh_at f (d := d) (by omega)
    show zS (fX5_foundB (fX5_found fu) h (some (X + 7)) (nI d)) _
    unfold fX5_foundB
    rw [if_neg (nI_pos (by omega)), a2, Option.bind_some, if_pos (nI_lt (by omega) (by omega)), a1, Option.bind_some, fs.fI, Option.bind_some, fs.ob, Option.bind_some, r.2.1]
    refine zS.b (cleave_eq ok fs r) (fun h7 ⟨r7, o7⟩ => ?_)
    have F7 : fF X d h h7 := o7.F (fun u k z => by omega)
    have fs7 := fs.on o7
    have f7 := F7.fix f
    have n7 : zn h7 = zn h := o7.1.1
    have z7 : zs h7 = zs h := o7.1.2.1
    rw [fs7.fI, Option.bind_some, r7.2.1]
    by_cases c : (xNe l).length = 0
    · rw [if_pos (show nI (xNe l).length = 0 by rw [c]; exact nI_0), xFnd_0 c]
      refine zS.b (csil_eq h7) (fun q hq => ?_)
      obtain ⟨r9, h10⟩ := q
      obtain ⟨B, e, n10, z10⟩ := hq
      dsimp only at B e n10 z10 ⊢
      exact zS.s ⟨by rw [← n7]; exact B, F7.tr e.F, by show zn h10 = zn h + 2 * 1; omega, by show zs h10 + 1 = zs h + 8 * 1; omega⟩
    · have nz := xNe_nz c
      have xok := xNe_ok ok
      rw [if_neg (nI_ne0 (by omega) (by omega))]
      refine zS.b (R.full (by omega) f7 xok nz r7) (fun q hq => ?_)
      obtain ⟨r11, h12⟩ := q
      obtain ⟨B, F, i12, n12, z12⟩ := hq
      dsimp only at B F i12 n12 z12 ⊢
      have F12 := F7.tr F
      have f12 := F12.fix f
      have fs12 := f12.sh (d := d) (by omega)
      have fok := xFull_ok (n := n) xok nz (xFnd_ok n)
      have c12 := cN_12 (xN (xNe l))
      rw [fs12.fI, Option.bind_some, i12, r7.2.1]
      refine zS.b (R1 := fun q => bT (zn h) q.2 q.1 (xFnd (n + 1) l) ∧ fF X d h q.2 ∧ zn q.2 = zn h + 2 * tSz (xFnd (n + 1) l) ∧ zs q.2 + 1 = zs h + 8 * tSz (xFnd (n + 1) l)) ?_ (fun q hq => by
        obtain ⟨a, b⟩ := q
        exact zS.s hq)
      by_cases lt : (xNe l).length < l.length
      · have e : xFnd (n + 1) l = tMk 14 [.var 12, xFull n (xFnd n) (xNe l)] := by
          unfold xFnd
          rw [if_neg c, if_pos lt]
        have sz : tSz (xFnd (n + 1) l) = tSz (xFull n (xFnd n) (xNe l)) + 2 := by
          rw [e, two_sz]
          show 1 + 1 + _ = _
          omega
        rw [if_neg (nI_nle' (by omega) lt), sz, e]
        refine zS.b (csil_eq h12) (fun q hq => ?_)
        obtain ⟨r17, h18⟩ := q
        obtain ⟨B17, e17, n17, z17⟩ := hq
        dsimp only at B17 e17 n17 z17 ⊢
        have le := F12.1.1.1
        refine zS.b (ctwo2r (lab := 14) (show zn h ≤ zn h12 from le) (by rw [← n7]; exact B) e17 B17 fok.1 (leaf_OK (Nat.le_refl _)) (by omega) (by omega) (by show 1 + _ < 80000; omega)) (fun q hq => ?_)
        obtain ⟨r19, h20⟩ := q
        obtain ⟨B19, e19, n19, z19⟩ := hq
        dsimp only at B19 e19 n19 z19 ⊢
        exact zS.s ⟨B19, (F12.tr e17.F).tr e19.F, by dsimp only; omega, by dsimp only; omega⟩
      · have e : xFnd (n + 1) l = xFull n (xFnd n) (xNe l) := by
          unfold xFnd
          rw [if_neg c, if_neg lt]
        rw [if_pos (nI_le (by omega) (by omega)), e]
        exact zS.s ⟨by rw [← n7]; exact B, F12, by dsimp only; omega, by dsimp only; omega⟩
