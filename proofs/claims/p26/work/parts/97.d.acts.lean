/-! the law's own methods on one finder -/
section AC
variable {X : Nat} {h : Zh} {ca pa : Nat → Nat} {m : Ml} {p : Mp} {o : Option (Int32 × Zh)} {v : Int32} {m' : Ml} {p' : Mp} {a b : Nat}
theorem OpW.pp (O : OpW X h o v ca pa m p m' p' a b) : OpW X h (o.bind fun ((x, g) : Int32 × Zh) => some (x, g)) v ca pa m p m' p' a b := by
  obtain ⟨h', ca', pa', e, r⟩ := O
  exact ⟨h', ca', pa', by rw [e]; rfl, r⟩
theorem OpW.mm (f : Int32 → Int32) (O : OpW X h o v ca pa m p m' p' a b) : OpW X h (o.bind fun ((x, g) : Int32 × Zh) => some (f x, g)) (f v) ca pa m p m' p' a b := by
  obtain ⟨h', ca', pa', e, r⟩ := O
  exact ⟨h', ca', pa', by rw [e]; rfl, r⟩
end AC
theorem mnc_add (m : Ml) (c n h b e : Int32) : mnc (mAdd m c n h b e).2 = mnc m := by
  unfold mAdd
  split
  · split <;> rfl
  · rfl
theorem mnc_cut (m : Ml) (c : Int32) : mnc (mCut m c).2 = mnc m := by
  unfold mCut
  split <;> rfl
theorem mnc_drop (m : Ml) (c x : Int32) : mnc (mDrop m c x).2 = mnc m := by
  unfold mDrop
  split <;> rfl
section AD
variable {X : Nat} {h : Zh} {ca pa : Nat → Nat} {m : Ml} {p : Mp}
theorem ow_add (F : Fi h X ca pa m p) (a n g b e : Int32) : OpW X h (fX5_add h (some X) a n g b e) (mAdd m a n g b e).1 ca pa m p (mAdd m a n g b e).2 p 0 0 := ow_log F (mOK_add F.2.2.2.1 a n g b e) (mnc_add m a n g b e) (cadd_eq F.1 F.2.1 F.2.2.2.1 a n g b e)
theorem ow_cut (F : Fi h X ca pa m p) (a : Int32) : OpW X h (fX5_cut h (some X) a) (mCut m a).1 ca pa m p (mCut m a).2 p 0 0 := ow_log F (mOK_cut F.2.2.2.1 a) (mnc_cut m a) (ccut_eq F.1 F.2.1 F.2.2.2.1 a)
theorem ow_drop (F : Fi h X ca pa m p) (a x : Int32) (hx : x = 0 ∨ x = 1) : OpW X h (fX5_drop h (some X) a x) (mDrop m a x).1 ca pa m p (mDrop m a x).2 p 0 0 := ow_log F (mOK_drop F.2.2.2.1 a x) (mnc_drop m a x) (cdrop_eq F.1 F.2.1 F.2.2.2.1 a x hx)
theorem ow_deed (F : Fi h X ca pa m p) (a : Int32) : OpW X h (fX5_deed h (some X) a) (pDeed p a).1 ca pa m p m (pDeed p a).2 2 200 := ow_pf F (pDeed_OK F.2.2.2.2 a) (cdeed_eq F.1 F.2.2.1 F.2.2.2.2 a)
theorem ow_join (F : Fi h X ca pa m p) (k a b : Int32) : OpW X h (fX5_join h (some X) k a b) (pJoin p k a b).1 ca pa m p m (pJoin p k a b).2 2 200 := ow_pf F (pJoin_OK F.2.2.2.2 k a b) (cjoin_eq F.1 F.2.2.1 F.2.2.2.2 k a b)
theorem ow_more (F : Fi h X ca pa m p) (a b : Int32) : OpW X h (fX5_more h (some X) a b) (pMore p a b).1 ca pa m p m (pMore p a b).2 2 200 := ow_pf F (pMore_OK F.2.2.2.2 a b) (cmore_eq F.1 F.2.2.1 F.2.2.2.2 a b)
theorem ow_plain {c1 c2 : Nat} (F : Fi h X ca pa m p) (hc : c1 < zn h ∧ zk h c1 = 106) (a : Int32) : OpW X h (fX5_plain (c1, c2) h (some X) a) (pPlain p a).1 ca pa m p m (pPlain p a).2 1000 13000 := ow_pf F (pPlain_OK F.2.2.2.2 a) (cplain_eq F.1 F.2.2.1 F.2.2.2.2 hc a)
theorem ow_price (F : Fi h X ca pa m p) (a b : Int32) : OpW X h (fX5_price h (some X) a b) (pPrice m p a b) ca pa m p m p 0 0 := ow_lay F (cpb_eq F.1 F.2.1 F.2.2.2.1 F.2.2.1.2 F.2.2.1.1 F.2.2.2.2 a b).1
theorem ow_both (F : Fi h X ca pa m p) (a b : Int32) : OpW X h (fX5_both h (some X) a b) (pBoth m p a b) ca pa m p m p 0 0 := ow_lay F (cpb_eq F.1 F.2.1 F.2.2.2.1 F.2.2.1.2 F.2.2.1.1 F.2.2.2.2 a b).2
theorem ow_fit (F : Fi h X ca pa m p) (a w : Int32) : OpW X h (fX5_fit h (some X) a w) (pFit m p a w) ca pa m p m p 0 0 := ow_lay F (cfit_eq F.1 F.2.1 F.2.2.2.1 F.2.2.1.2 F.2.2.1.1 F.2.2.2.2 a w)
theorem Fi.ob (F : Fi h X ca pa m p) : zob h (some X) 7 = some X := by
  have f0 := F.1.1
  exact zob_v (by omega) F.1.2.1.1
end AD
set_option maxHeartbeats 4000000 in
theorem act_ok (m : Ml) (p : Mp) (x : Int32) : ∃ v m' p', ∀ (X : Nat) (h : Zh) (ca pa : Nat → Nat) (c1 c2 : Nat), Fi h X ca pa m p → c1 < zn h ∧ zk h c1 = 106 → OpW X h (fL_act (c1, c2) h (some X) x) v ca pa m p m' p' 1000 13000 := by
  obtain ⟨j1, -, e1⟩ := some_v (x >>> ((4 : Int32) &&& 31)) (d := 6) (by omega) (by omega)
  obtain ⟨j2, -, e2⟩ := some_v (x >>> ((7 : Int32) &&& 31)) (d := 40) (by omega) (by omega)
  obtain ⟨j3, -, e3⟩ := some_v (x >>> ((13 : Int32) &&& 31)) (d := 40) (by omega) (by omega)
  obtain ⟨j4, -, e4⟩ := some_v (x >>> ((8 : Int32) &&& 31)) (d := 5) (by omega) (by omega)
  obtain ⟨j5, -, e5⟩ := some_v (x >>> ((14 : Int32) &&& 31)) (d := 90) (by omega) (by omega)
  obtain ⟨j6, -, e6⟩ := some_v (x >>> ((16 : Int32) &&& 31)) (d := 90) (by omega) (by omega)
  obtain ⟨j7, -, e7⟩ := some_v (x >>> ((8 : Int32) &&& 31)) (d := 8) (by omega) (by omega)
  have e1 : fL_some (x >>> ((4 : Int32) &&& 31)) (6 : Int32) = some (nI j1) := e1
  have e2 : fL_some (x >>> ((7 : Int32) &&& 31)) (40 : Int32) = some (nI j2) := e2
  have e3 : fL_some (x >>> ((13 : Int32) &&& 31)) (40 : Int32) = some (nI j3) := e3
  have e4 : fL_some (x >>> ((8 : Int32) &&& 31)) (5 : Int32) = some (nI j4) := e4
  have e5 : fL_some (x >>> ((14 : Int32) &&& 31)) (90 : Int32) = some (nI j5) := e5
  have e6 : fL_some (x >>> ((16 : Int32) &&& 31)) (90 : Int32) = some (nI j6) := e6
  have e7 : fL_some (x >>> ((8 : Int32) &&& 31)) (8 : Int32) = some (nI j7) := e7
  by_cases k0 : x &&& (15 : Int32) = (0 : Int32)
  · refine ⟨(mOpen m).1, (mOpen m).2, p, fun X h ca pa c1 c2 F hc => ?_⟩
    unfold fL_act
    rw [e1, Option.bind_some, e2, Option.bind_some, e3, Option.bind_some, if_pos k0, F.ob, Option.bind_some]
    exact (ow_open F).pp.up (by omega) (by omega)
  by_cases kA : x &&& (15 : Int32) = (1 : Int32) ∨ x &&& (15 : Int32) = (2 : Int32) ∨ x &&& (15 : Int32) = (3 : Int32) ∨ x &&& (15 : Int32) = (4 : Int32) ∨ x &&& (15 : Int32) = (5 : Int32)
  · refine ⟨(mAdd m (nI j1) (nI j4) ((x >>> ((11 : Int32) &&& 31)) &&& (7 : Int32)) (nI j5 - (1 : Int32)) (nI j6 - (1 : Int32))).1, (mAdd m (nI j1) (nI j4) ((x >>> ((11 : Int32) &&& 31)) &&& (7 : Int32)) (nI j5 - (1 : Int32)) (nI j6 - (1 : Int32))).2, p, fun X h ca pa c1 c2 F hc => ?_⟩
    have O := (ow_add F (nI j1) (nI j4) ((x >>> ((11 : Int32) &&& 31)) &&& (7 : Int32)) (nI j5 - (1 : Int32)) (nI j6 - (1 : Int32))).pp.up (a' := 1000) (b' := 13000) (by omega) (by omega)
    unfold fL_act
    rw [e1, Option.bind_some, e2, Option.bind_some, e3, Option.bind_some, if_neg k0]
    simp only [e4, e5, e6, Option.bind_some]
    rw [F.ob, Option.bind_some]
    by_cases k1 : x &&& (15 : Int32) = (1 : Int32)
    · rw [if_pos k1]; exact O
    rw [if_neg k1]
    by_cases k2 : x &&& (15 : Int32) = (2 : Int32)
    · rw [if_pos k2]; exact O
    rw [if_neg k2]
    by_cases k3 : x &&& (15 : Int32) = (3 : Int32)
    · rw [if_pos k3]; exact O
    rw [if_neg k3]
    by_cases k4 : x &&& (15 : Int32) = (4 : Int32)
    · rw [if_pos k4]; exact O
    rw [if_neg k4]
    by_cases k5 : x &&& (15 : Int32) = (5 : Int32)
    · rw [if_pos k5]; exact O
    exact absurd kA (fun z => by rcases z with z | z | z | z | z <;> contradiction)
  have k1 : ¬ x &&& (15 : Int32) = (1 : Int32) := fun z => kA (Or.inl z)
  have k2 : ¬ x &&& (15 : Int32) = (2 : Int32) := fun z => kA (Or.inr (Or.inl z))
  have k3 : ¬ x &&& (15 : Int32) = (3 : Int32) := fun z => kA (Or.inr (Or.inr (Or.inl z)))
  have k4 : ¬ x &&& (15 : Int32) = (4 : Int32) := fun z => kA (Or.inr (Or.inr (Or.inr (Or.inl z))))
  have k5 : ¬ x &&& (15 : Int32) = (5 : Int32) := fun z => kA (Or.inr (Or.inr (Or.inr (Or.inr z))))
  by_cases k6 : x &&& (15 : Int32) = (6 : Int32)
  · refine ⟨(mCut m (nI j1)).1, (mCut m (nI j1)).2, p, fun X h ca pa c1 c2 F hc => ?_⟩
    unfold fL_act
    rw [e1, Option.bind_some, e2, Option.bind_some, e3, Option.bind_some, if_neg k0, if_neg k1, if_neg k2, if_neg k3, if_neg k4, if_neg k5, if_pos k6, F.ob, Option.bind_some]
    exact (ow_cut F (nI j1)).pp.up (by omega) (by omega)
  by_cases k7 : x &&& (15 : Int32) = (7 : Int32)
  · obtain ⟨b2, hb2, eb2⟩ : ∃ b : Int32, (b = 0 ∨ b = 1) ∧ (if (x &&& (256 : Int32)) = 0 then some (0 : Int32) else some (1 : Int32)) = some b := by
      by_cases z : (x &&& (256 : Int32)) = 0
      · exact ⟨0, Or.inl rfl, if_pos z⟩
      · exact ⟨1, Or.inr rfl, if_neg z⟩
    refine ⟨(mDrop m (nI j1) b2).1, (mDrop m (nI j1) b2).2, p, fun X h ca pa c1 c2 F hc => ?_⟩
    unfold fL_act
    rw [e1, Option.bind_some, e2, Option.bind_some, e3, Option.bind_some, if_neg k0, if_neg k1, if_neg k2, if_neg k3, if_neg k4, if_neg k5, if_neg k6, if_pos k7, eb2, Option.bind_some, F.ob, Option.bind_some]
    exact (ow_drop F (nI j1) b2 hb2).pp.up (by omega) (by omega)
  by_cases k8 : x &&& (15 : Int32) = (8 : Int32)
  · refine ⟨(pDeed p (nI j7 - (1 : Int32))).1, m, (pDeed p (nI j7 - (1 : Int32))).2, fun X h ca pa c1 c2 F hc => ?_⟩
    unfold fL_act
    rw [e1, Option.bind_some, e2, Option.bind_some, e3, Option.bind_some, if_neg k0, if_neg k1, if_neg k2, if_neg k3, if_neg k4, if_neg k5, if_neg k6, if_neg k7, if_pos k8, e7, Option.bind_some, F.ob, Option.bind_some]
    exact (ow_deed F (nI j7 - (1 : Int32))).pp.up (by omega) (by omega)
  by_cases k9 : x &&& (15 : Int32) = (9 : Int32) ∨ x &&& (15 : Int32) = (10 : Int32)
  · refine ⟨(pJoin p ((2 : Int32) + ((x >>> ((19 : Int32) &&& 31)) &&& (3 : Int32))) (nI j2) (nI j3)).1, m, (pJoin p ((2 : Int32) + ((x >>> ((19 : Int32) &&& 31)) &&& (3 : Int32))) (nI j2) (nI j3)).2, fun X h ca pa c1 c2 F hc => ?_⟩
    have O := (ow_join F ((2 : Int32) + ((x >>> ((19 : Int32) &&& 31)) &&& (3 : Int32))) (nI j2) (nI j3)).pp.up (a' := 1000) (b' := 13000) (by omega) (by omega)
    unfold fL_act
    rw [e1, Option.bind_some, e2, Option.bind_some, e3, Option.bind_some, if_neg k0, if_neg k1, if_neg k2, if_neg k3, if_neg k4, if_neg k5, if_neg k6, if_neg k7, if_neg k8, F.ob, Option.bind_some]
    by_cases z : x &&& (15 : Int32) = (9 : Int32)
    · rw [if_pos z]; exact O
    · rw [if_neg z, if_pos (k9.resolve_left z)]; exact O
  have k9' : ¬ x &&& (15 : Int32) = (9 : Int32) := fun z => k9 (Or.inl z)
  have k10 : ¬ x &&& (15 : Int32) = (10 : Int32) := fun z => k9 (Or.inr z)
  by_cases k11 : x &&& (15 : Int32) = (11 : Int32)
  · refine ⟨(pMore p (nI j2) (nI j3)).1, m, (pMore p (nI j2) (nI j3)).2, fun X h ca pa c1 c2 F hc => ?_⟩
    unfold fL_act
    rw [e1, Option.bind_some, e2, Option.bind_some, e3, Option.bind_some, if_neg k0, if_neg k1, if_neg k2, if_neg k3, if_neg k4, if_neg k5, if_neg k6, if_neg k7, if_neg k8, if_neg k9', if_neg k10, if_pos k11, F.ob, Option.bind_some]
    exact (ow_more F (nI j2) (nI j3)).pp.up (by omega) (by omega)
  by_cases k12 : x &&& (15 : Int32) = (12 : Int32)
  · refine ⟨(pPlain p (nI j2)).1, m, (pPlain p (nI j2)).2, fun X h ca pa c1 c2 F hc => ?_⟩
    unfold fL_act
    rw [e1, Option.bind_some, e2, Option.bind_some, e3, Option.bind_some, if_neg k0, if_neg k1, if_neg k2, if_neg k3, if_neg k4, if_neg k5, if_neg k6, if_neg k7, if_neg k8, if_neg k9', if_neg k10, if_neg k11, if_pos k12, F.ob, Option.bind_some]
    exact (ow_plain F hc (nI j2)).pp.up (by omega) (by omega)
  by_cases k13 : x &&& (15 : Int32) = (13 : Int32)
  · refine ⟨(pFnd p (xFnd 12 (mRws m))).1, m, (pFnd p (xFnd 12 (mRws m))).2, fun X h ca pa c1 c2 F hc => ?_⟩
    unfold fL_act
    rw [e1, Option.bind_some, e2, Option.bind_some, e3, Option.bind_some, if_neg k0, if_neg k1, if_neg k2, if_neg k3, if_neg k4, if_neg k5, if_neg k6, if_neg k7, if_neg k8, if_neg k9', if_neg k10, if_neg k11, if_neg k12, if_pos k13, F.ob, Option.bind_some]
    exact (ow_find F).pp.up (by omega) (by omega)
  · refine ⟨pPrice m p (nI j1) (nI j2) + ((1000 : Int32) * pBoth m p (nI j1) (nI j2)), m, p, fun X h ca pa c1 c2 F hc => ?_⟩
    unfold fL_act
    rw [e1, Option.bind_some, e2, Option.bind_some, e3, Option.bind_some, if_neg k0, if_neg k1, if_neg k2, if_neg k3, if_neg k4, if_neg k5, if_neg k6, if_neg k7, if_neg k8, if_neg k9', if_neg k10, if_neg k11, if_neg k12, if_neg k13, F.ob, Option.bind_some]
    refine OpW.up (OpW.b (a2 := 0) (b2 := 0) (ow_price F (nI j1) (nI j2)) (fun h1 ca1 pa1 F1 _ => ?_)) (by omega) (by omega)
    dsimp only
    rw [F1.ob, Option.bind_some]
    exact OpW.mm (fun z => pPrice m p (nI j1) (nI j2) + ((1000 : Int32) * z)) (ow_both F1 (nI j1) (nI j2))
set_option maxHeartbeats 4000000 in
theorem asked_ok {X : Nat} {h : Zh} {ca pa : Nat → Nat} {m : Ml} {p : Mp} (F : Fi h X ca pa m p) (x : Int32) : OpW X h (fL_asked h (some X) x) 1 ca pa m p m p 10 1000 := by
  obtain ⟨y, hy, e1⟩ := some_v x (d := 40) (by omega) (by omega)
  have e1 : fL_some x (40 : Int32) = some (nI y) := e1
  have ok := F.2.2.2.2
  have om := F.2.2.2.1
  have h200 := ok.1
  have cnt : fX5_count h (some X) (4 : Int32) = some (nI (pn p)) := by rw [ccount_eq F.1 F.2.1 om, mCount_4, F.2.2.1.1]
  unfold fL_asked
  rw [e1, Option.bind_some, F.ob, Option.bind_some, cshort_eq F.1 F.2.2.1.2 F.2.2.1.1 ok, Option.bind_some, Option.bind_some, cnt, Option.bind_some]
  -- the refused calls
  have tail : ∀ (h1 : Zh) (ca1 pa1 : Nat → Nat), Fi h1 X ca1 pa1 m p → OpW X h1 ((if (1 : Int32) = 0 then
      some ((0 : Int32), h1)
    else
      (zob h1 (some X) 7).bind fun p31 =>
      (fX5_join h1 (some p31) (1 : Int32) (0 : Int32) (0 : Int32)).bind fun ((x32, h33) : Int32 × Zh) =>
      if x32 = (-1 : Int32) then
        (zob h33 (some X) 7).bind fun p34 =>
        (fX5_more h33 (some p34) (-1 : Int32) (0 : Int32)).bind fun ((x35, h36) : Int32 × Zh) =>
        if x35 = (-1 : Int32) then
          (zob h36 (some X) 7).bind fun p37 =>
          (fX5_deed h36 (some p37) (12 : Int32)).bind fun ((x38, h39) : Int32 × Zh) =>
          if x38 = (-1 : Int32) then
            (zob h39 (some X) 7).bind fun p40 =>
            (fX5_add h39 (some p40) (-1 : Int32) (0 : Int32) (0 : Int32) (0 : Int32) (0 : Int32)).bind fun ((x41, h42) : Int32 × Zh) =>
            if x41 = (-1 : Int32) then
              (zob h42 (some X) 7).bind fun p43 =>
              (fX5_drop h42 (some p43) (24 : Int32) (1 : Int32)).bind fun ((x44, h45) : Int32 × Zh) =>
              if x44 = (-1 : Int32) then
                (zob h45 (some X) 7).bind fun p46 =>
                (fX5_follows h45 (some p46) (0 : Int32) (12 : Int32)).bind fun x47 =>
                if x47 = (-1 : Int32) then
                  (zob h45 (some X) 7).bind fun p48 =>
                  (fX5_told h45 (some p48) (24 : Int32) (0 : Int32) (0 : Int32)).bind fun x49 =>
                  if x49 = (-9 : Int32) then
                    some ((1 : Int32), h45)
                  else
                    some ((0 : Int32), h45)
                else
                  some ((0 : Int32), h45)
              else
                some ((0 : Int32), h45)
            else
              some ((0 : Int32), h42)
          else
            some ((0 : Int32), h39)
        else
          some ((0 : Int32), h36)
      else
        some ((0 : Int32), h33)).bind fun ((v28, h29) : Int32 × Zh) => (zbo v28).bind fun _ => some (v28, h29)) 1 ca1 pa1 m p m p 10 1000 := by
    intro h1 ca1 pa1 F1
    rw [if_neg (by decide), F1.ob, Option.bind_some]
    refine OpW.up (OpW.b (a := 10) (b := 1000) (a2 := 0) (b2 := 0) (v := 1) (m1 := m) (p1 := p) ?_ (fun h2 ca2 pa2 F2 _ => ow_id F2)) (by omega) (by omega)
    have O := ow_join F1 1 0 0
    rw [no_join] at O
    refine OpW.up (OpW.b (a2 := 8) (b2 := 800) O (fun h2 ca2 pa2 F2 _ => ?_)) (by omega) (by omega)
    dsimp only
    rw [if_pos rfl, F2.ob, Option.bind_some]
    have O := ow_more F2 (-1) 0
    rw [no_more] at O
    refine OpW.up (OpW.b (a2 := 6) (b2 := 600) O (fun h3 ca3 pa3 F3 _ => ?_)) (by omega) (by omega)
    dsimp only
    rw [if_pos rfl, F3.ob, Option.bind_some]
    have O := ow_deed F3 12
    rw [no_deed] at O
    refine OpW.up (OpW.b (a2 := 4) (b2 := 400) O (fun h4 ca4 pa4 F4 _ => ?_)) (by omega) (by omega)
    dsimp only
    rw [if_pos rfl, F4.ob, Option.bind_some]
    have O := ow_add F4 (-1) 0 0 0 0
    rw [no_add] at O
    refine OpW.up (OpW.b (a2 := 4) (b2 := 400) O (fun h5 ca5 pa5 F5 _ => ?_)) (by omega) (by omega)
    dsimp only
    rw [if_pos rfl, F5.ob, Option.bind_some]
    have O := ow_drop F5 24 1 (Or.inr rfl)
    rw [no_drop om] at O
    refine OpW.up (OpW.b (a2 := 4) (b2 := 400) O (fun h6 ca6 pa6 F6 _ => ?_)) (by omega) (by omega)
    dsimp only
    rw [if_pos rfl, F6.ob, Option.bind_some, cfollows_eq F6.1 F6.2.1 om, no_follows, Option.bind_some, if_pos rfl, Option.bind_some, ctold_eq F6.1 F6.2.1 om, no_told om, Option.bind_some, if_pos rfl]
    exact (ow_id F6).up (by omega) (by omega)
  by_cases c : y < pn p
  · have ha : mnm (nI y) (pn p) := nI_mnm c (by omega)
    have la : (nI y).toNatClampNeg = y := nI_clamp (by omega)
    have sz := tFw_sz (pT p y)
    have sp := pT_sz ok y c
    have s60 := (ok.2 y c).2.2.2.1
    have es : pShort p (nI y) = nI (tFw (pT p y)) := by
      unfold pShort
      rw [if_pos ha, la]
    rw [if_neg (nI_nle' (by omega) c), Option.bind_some, es, if_neg (nI_pos (by omega)), Option.bind_some, if_pos rfl, if_neg (by decide), Option.bind_some]
    obtain ⟨w1, w2⟩ := fit_law om ok ha
    obtain ⟨w3, w4⟩ := piece_law ok ha
    refine OpW.up (OpW.b (a := 0) (b := 0) (a2 := 10) (b2 := 1000) (v := 1) (m1 := m) (p1 := p) ?_ (fun h2 ca2 pa2 F2 _ => tail h2 ca2 pa2 F2)) (by omega) (by omega)
    refine OpW.up (OpW.b (a2 := 0) (b2 := 0) (ow_fit F (nI y) 1) (fun h2 ca2 pa2 F2 _ => ?_)) (by omega) (by omega)
    dsimp only
    rw [F2.ob, Option.bind_some]
    refine OpW.up (OpW.b (a2 := 0) (b2 := 0) (ow_fit F2 (nI y) 2) (fun h3 ca3 pa3 F3 _ => ?_)) (by omega) (by omega)
    dsimp only
    rw [if_neg w1, F3.ob, Option.bind_some]
    refine OpW.up (OpW.b (a2 := 0) (b2 := 0) (ow_fit F3 (nI y) 1) (fun h4 ca4 pa4 F4 _ => ?_)) (by omega) (by omega)
    dsimp only
    rw [if_neg w2, F4.ob, Option.bind_some, clike_eq F4.1 F4.2.2.1 ok, like_law ha, Option.bind_some, if_pos rfl, Option.bind_some, cpiece_eq F4.1 F4.2.2.1 ok, Option.bind_some, if_neg w3, Option.bind_some, cpiece_eq F4.1 F4.2.2.1 ok, Option.bind_some, if_neg w4]
    exact ow_id F4
  · have ha : ¬ mnm (nI y) (pn p) := fun z => c (by
      have := z.2
      rw [nI_toInt (by omega)] at this
      omega)
    have es : pShort p (nI y) = -1 := by
      unfold pShort
      rw [if_neg ha]
    rw [if_pos (nI_le (by omega) (by omega)), Option.bind_some, es, if_pos (by decide), Option.bind_some, if_pos rfl, if_pos rfl, Option.bind_some]
    exact tail h ca pa F
