/-! found on the reference's side: settle -/
theorem rset_cuts {s s2 : Zr} {x N D F W n : Nat} {nt : Nat → Tr} {par : Nat → Nat} {l : Rw} (J : fInv s x N D F W nt par) (hx : x < N) (hN : N ≤ 60) (ok : xOK l) (nz : xNz l) (pd : nPd s D F W x l) (cn : cN (xN l) ≤ n + 1) (o : rOnly sSe s s2) (lk : LK s2 (xN l) (xB l) (xE l) (xG l)) (e : nt x = xFull n (xFnd n) l) (n1 : ¬ (nmL (xN l)).length = 1) :
    zS ((fX6_cutsChoice s2).bind fun ((x35, s36) : Int32 × Zr) =>
        if x35 = 0 then
          (fX6_cutsRow s36).bind fun ((x37, s38) : Int32 × Zr) =>
          if x37 = 0 then
            (fX6_cutsBeside s38).bind fun ((x39, s40) : Int32 × Zr) =>
            if x39 = 0 then
              (fX6_cutsLoop s40).bind fun ((x41, s42) : Int32 × Zr) =>
              if x41 = 0 then
                (fX6_flower s42 (nI x)).bind fun s43 =>
                some s43
              else
                (fX6_cutNode s42 (nI x) (5 : Int32)).bind fun s44 =>
                some s44
            else
              (fX6_cutNode s40 (nI x) (4 : Int32)).bind fun s45 =>
              some s45
          else
            (fX6_cutNode s38 (nI x) (2 : Int32)).bind fun s46 =>
            some s46
        else
          (fX6_cutNode s36 (nI x) (3 : Int32)).bind fun s47 =>
          some s47) (fun s' => fRes s s' x N nt) := by
  have oc : ∀ t t', rOnly sSe s t → rOnly sCut t t' → rOnly sSe s t' := fun t t' a b => a.tr (b.mono (fun a k z => by omega))
  refine zS.b (rchoice_eq ok lk) (fun q hq => ?_)
  obtain ⟨b1, t1⟩ := q
  obtain ⟨q1, q2, q3⟩ := hq
  dsimp only at q1 q2 q3 ⊢
  have o1 := oc _ _ o q3
  have lk1 := lk.cut q3
  by_cases c1 : b1 = 0
  · have m1 := q1.n c1
    rw [if_pos c1]
    refine zS.b (rrowc_eq ok lk1) (fun q hq => ?_)
    obtain ⟨b2, t2⟩ := q
    obtain ⟨r1, r2, r3⟩ := hq
    dsimp only at r1 r2 r3 ⊢
    have o2 := oc _ _ o1 r3
    have lk2 := lk1.cut r3
    by_cases c2 : b2 = 0
    · have m2 := r1.n c2
      rw [if_pos c2]
      refine zS.b (rbeside_eq ok lk2) (fun q hq => ?_)
      obtain ⟨b3, t3⟩ := q
      obtain ⟨u1, u2, u3⟩ := hq
      dsimp only at u1 u2 u3 ⊢
      have o3 := oc _ _ o2 u3
      have lk3 := lk2.cut u3
      by_cases c3 : b3 = 0
      · have m3 := u1.n c3
        rw [if_pos c3]
        refine zS.b (rloopc_eq ok lk3) (fun q hq => ?_)
        obtain ⟨b4, t4⟩ := q
        obtain ⟨v1, v2, v3, v4⟩ := hq
        dsimp only at v1 v2 v3 v4 ⊢
        have o4 := oc _ _ o3 v4
        have lk4 := lk3.cut v4
        by_cases c4 : b4 = 0
        · have m4 := v1.n c4
          rw [if_pos c4]
          refine zS.b (rset_flower J hx hN ok pd o4 (fun v hv => (lk4.1 v hv).1) e n1 ?_) (fun r hr => zS.s hr)
          unfold xCut
          rw [if_neg m1, if_neg m2, if_neg (fun z => m3 ⟨z.1, cB_t.mp z.2⟩), if_neg m4]
        · have m4 := v1.p c4
          have hc : xCut l = (5, xBd l :: xPt (xA1 l) (xS1 l)) := by
            unfold xCut
            rw [if_neg m1, if_neg m2, if_neg (fun z => m3 ⟨z.1, cB_t.mp z.2⟩), if_pos m4]
          rw [if_neg c4]
          obtain ⟨w1, w2, w3, w4⟩ := v2
          refine zS.b (rset_cut (k := 5) (b := 1) J hx hN ok nz pd cn o4 hc e n1 (by rw [List.length_cons, w1, Nat.add_comm]) w2 w3 (fun i hi => ?_) (by omega) (Or.inl ⟨rfl, rfl⟩) (fun z => absurd z (by omega)) (fun _ v hv => v3 v hv)) (fun r hr => zS.s hr)
          obtain ⟨y1, y2, y3⟩ := w4 i hi
          refine ⟨y1, y2, fun v hv => ?_⟩
          rw [Nat.add_comm 1 i]
          exact y3 v hv
      · have m3 := u1.p c3
        have hc : xCut l = (4, xPt (xA3 l) (xN l)) := by
          unfold xCut
          rw [if_neg m1, if_neg m2, if_pos ⟨m3.1, cB_t.mpr m3.2⟩]
        rw [if_neg c3]
        obtain ⟨w1, w2, w3, w4⟩ := u2
        refine zS.b (rset_cut (k := 4) (b := 0) J hx hN ok nz pd cn o3 hc e n1 (by rw [Nat.zero_add, w1]) w2 w3 (fun i hi => ?_) (by omega) (Or.inr ⟨by omega, rfl⟩) (fun z => absurd z (by omega)) (fun z => absurd z (by omega))) (fun r hr => zS.s hr)
        rw [Nat.zero_add]
        exact w4 i hi
    · have m2 := r1.p c2
      have hc : xCut l = (2, xP2 l) := by
        unfold xCut
        rw [if_neg m1, if_pos m2]
      rw [if_neg c2]
      obtain ⟨w1, w2, w3, w4⟩ := r2
      refine zS.b (rset_cut (k := 2) (b := 0) J hx hN ok nz pd cn o2 hc e n1 (by rw [Nat.zero_add, w1]) w2 w3 (fun i hi => ?_) (by omega) (Or.inr ⟨by omega, rfl⟩) (fun z => absurd z (by omega)) (fun z => absurd z (by omega))) (fun r hr => zS.s hr)
      rw [Nat.zero_add]
      exact w4 i hi
  · have m1 := q1.p c1
    have hc : xCut l = (3, xPt (xA1 l) (xN l)) := by
      unfold xCut
      rw [if_pos m1]
    rw [if_neg c1]
    obtain ⟨w1, w2, w3, w4⟩ := q2
    refine zS.b (rset_cut (k := 3) (b := 0) J hx hN ok nz pd cn o1 hc e n1 (by rw [Nat.zero_add, w1]) w2 w3 (fun i hi => ?_) (by omega) (Or.inr ⟨by omega, rfl⟩) (fun _ i hi r hr => ⟨nz.1 r hr, fun y hy => ?_⟩) (fun z => absurd z (by omega))) (fun r hr => zS.s hr)
    · rw [Nat.zero_add]
      exact w4 i hi
    · rw [Nat.zero_add]
      unfold xPt
      rw [mapP_gd _ _ 0 _ _ hi]
      exact row_cn hr hy
theorem rsettle_eq {s : Zr} {x N D F W : Nat} {nt : Nat → Tr} {par : Nat → Nat} (J : fInv s x N D F W nt par) (hx : x < N) (hN : N ≤ 60) (h32 : ¬ s 32 x = -1) : zS (fX6_settle s (nI x)) (fun s' => fRes s s' x N nt) := by
  obtain ⟨l, n, ok, pd, cn, e⟩ : fPn s D F W nt x := (J.2.2.1 x hx).elim (fun z => (z.1.elim (Nat.lt_irrefl _) h32).elim) (fun z => z.2)
  obtain ⟨b1, b2, b3, b4, b5, b6⟩ := J.2.1
  obtain ⟨p1, p2, ⟨g0, p7, p8⟩, f0, p3, p4, p5, p6⟩ := id pd
  have l144 := ok.2.1
  unfold fX6_settle
  refine zS.e (show rdI s 31 (nI x) = some (nI f0) by rw [rd31 (by omega), p3]) ?_
  refine zS.b (rsee1_eq ok (by omega) p3 p4 (by omega) p6) (fun q hq => ?_)
  obtain ⟨w5, w6⟩ := q
  obtain ⟨q1, q2⟩ := hq
  dsimp only at q1 q2 ⊢
  refine zS.b (rlook_eq ok (by omega) p3 p4 (by omega) (fun i hi => by
    obtain ⟨g, g1, g2, g3, g4⟩ := p6 i hi
    exact ⟨g, g1, g2, by omega, g4⟩)) (fun s2 ⟨lk, o⟩ => ?_)
  have o2 : rOnly sSe s s2 := o.mono (fun a k z => by omega)
  refine zS.b (rsee2_eq (s := s2) (S := xN l) (fun v hv => (lk.1 v hv).1)) (fun q hq => ?_)
  obtain ⟨w21, w22⟩ := q
  obtain ⟨q3, q4⟩ := hq
  dsimp only at q3 q4 ⊢
  have c12 : (nmL (xN l)).length ≤ 12 := cN_12 _
  refine zS.b (R1 := fun s' => fRes s s' x N nt) ?_ (fun r hr => zS.s hr)
  by_cases c0 : (nmL (xN l)).length = 0
  · rw [if_pos (show w21 = 0 by rw [q3, c0]; exact nI_0), wr13 (by omega), Option.bind_some]
    refine zS.s (rset_silent J hx ok pd o2 ?_)
    rw [e]
    exact xFnd_0 ((nm_0 ok).mp c0)
  · have ne0 : ¬ (xNe l).length = 0 := fun z => c0 ((nm_0 ok).mpr z)
    have ec : cN (xN l) = (nmL (xN l)).length := rfl
    obtain ⟨n, rfl⟩ : ∃ m, n = m + 1 := ⟨n - 1, by omega⟩
    have el := emp_le l l.length (Nat.le_refl _)
    rw [if_neg (show ¬ w21 = 0 by rw [q3]; exact nI_ne0 (by omega) (by omega))]
    by_cases c1 : emp l l.length = 0
    · have nz : xNz l := ⟨emp_0.mp c1, by
        have := xNe_len l
        omega⟩
      have lt : ¬ (xNe l).length < l.length := by
        rw [xNe_all nz.1]
        exact Nat.lt_irrefl _
      have e' : nt x = xFull n (xFnd n) l := by rw [e]; exact xFnd_f ne0 lt
      rw [if_pos (show w5 ≤ 0 by rw [q1, c1]; decide)]
      by_cases c2 : (nmL (xN l)).length = 1
      · rw [if_pos (show w21 = (1 : Int32) by rw [q3, c2]; rfl), q4 c2]
        exact zS.b (rset_one J hx hN ok nz pd o2 e' c2 q2) (fun r hr => zS.s hr)
      · rw [if_neg (show ¬ w21 = (1 : Int32) by rw [q3]; exact fun z => c2 ((nI_eq (b := 1) (by omega) (by omega)).mp z))]
        exact rset_cuts J hx hN ok nz pd cn o2 lk e' c2
    · have lt : (xNe l).length < l.length := Classical.byContradiction fun z => c1 (emp_0.mpr (xNe_eq z))
      rw [if_neg (show ¬ w5 ≤ 0 by rw [q1]; exact nI_nle (by omega) (by omega))]
      exact zS.b (rset_rest J hx hN ok pd cn o2 (by rw [e]; exact xFnd_r ne0 lt)) (fun r hr => zS.s hr)
