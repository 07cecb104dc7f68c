/-! found -/
theorem mDig_rw {m : Ml} (om : mOK m) (c : Nat) : mRow (mDig m c) (mlen m c) = rwN (mRl m c) := by
  have el := mRl_len m c
  unfold rwN
  rw [el]
  refine mRow_cg _ (fun i hi => ?_)
  obtain ⟨e1, e2⟩ := mRl_at om hi
  unfold mDig rwD
  rw [if_pos hi, if_pos (by rw [el]; exact hi), e1, nI_clamp (by omega)]
theorem pFnd_OK {p : Mp} (ok : pOK p) {t : Tr} (okt : tOK t) : pOK (pFnd p t).2 := by
  unfold pFnd
  by_cases cc : tSz t ≤ 60 ∧ pn p + tSz t ≤ 200
  · rw [if_pos cc]
    exact (pEnt_ok ok okt cc.1 cc.2 (pEn_ok _ _ ok okt.1 cc.1 (by omega))).1
  · rw [if_neg cc]; exact ok
theorem cfind_eq {X : Nat} {h : Zh} {ca pa : Nat → Nat} {m : Ml} {p : Mp} (f : cFix h X) (c : cLog h X ca m) (om : mOK m) (pc : cPc h X pa p) (ok : pOK p) : OpW X h (fX5_find h (some X)) (pFnd p (xFnd 12 (mRws m))).1 ca pa m p m (pFnd p (xFnd 12 (mRws m))).2 1000 13000 := by
  have f0 := f.1
  have h24 := om.1
  have xo := mRws_ok om
  have okt := (xFnd_ok 12 _ xo).1
  have t93 := xFnd_93 (n := 12) xo
  have fs := f.sh (d := 0) (by omega)
  have hX5 : zfP h (some X) 6 5 = some (some (X + 7)) := by rw [zfP_v (ci := 6) (by omega) f.2.1.1, f.2.1.2.2.2.2.1]
  have a0 := (csh_at f (d := 0) (by omega)).1
  have o1 : iO (sRo (X + 10 + 7 * 0)) h (zsetI h (X + 10 + 7 * 0) 1 (nI 0)) := iO.s (Or.inl ⟨rfl, rfl⟩)
  have key : zS (fX5_find h (some X)) (fun r => r.1 = (pFnd p (xFnd 12 (mRws m))).1 ∧ zExt (fun u => aSh X 0 u ∨ u = X ∨ u = X + 2) h r.2 ∧ cFix r.2 X ∧ cLog r.2 X ca m ∧ (∃ pa', cPw h r.2 X pa pa' p (pFnd p (xFnd 12 (mRws m))).2) ∧ (zn r.2 ≤ zn h + 1000 ∧ zs r.2 ≤ zs h + 13000) ∧ ∀ u, u < zn h → u ≠ X + 2 → zp r.2 u = zp h u) := by
    unfold fX5_find
    rw [hX5, Option.bind_some, show (0 : Int32) = nI 0 from nI_0.symm, a0, Option.bind_some, fs.gI, Option.bind_some]
    refine zS.b (zS.up (fun k h' => shR h' (X + 10 + 7 * 0) (mRk m k) ∧ iO (sRo (X + 10 + 7 * 0)) h h') 0 (mnc m) (fun k h' _ hk hJ => ?_) (fun h' hJ => ?_) (Nat.zero_le _) (by omega) ⟨⟨Nat.zero_le _, by rw [zi_sI, u2_s]; rfl, fun i z => absurd z (Nat.not_lt_zero _)⟩, o1⟩) (fun h6 hh => ?_) (R1 := fun h' => shR h' (X + 10 + 7 * 0) (mRws m) ∧ iO (sRo (X + 10 + 7 * 0)) h h')
    · obtain ⟨r', o⟩ := hJ
      have F : fF X 0 h h' := o.F (fun u k z => by omega)
      have f' := F.fix f
      have fs' := fs.on o
      have c' : cLog h' X ca m := c.ext F.1 f0 (by rw [((F.1.2 X (by omega)).2.2 (by omega)).1]) (fun j => by rw [F.2 (X + 1) (by omega)]) (fun q hq => by
        have := (c.2.1 q hq).2.1
        exact ⟨by omega, by omega⟩)
      have f0' := f'.1
      have lk := mRk_len m k
      dsimp only
      rw [zfI_v (ci := 6) (by omega) f'.2.1.1, c'.1, Option.bind_some, if_neg (nI_nle' (by omega) hk), zob_v (by omega) f'.2.1.1, Option.bind_some, clog_eq f' c' om, Option.bind_some, nI_clamp (by omega)]
      have mn : mnm (nI k) (mnc m) := nI_mnm hk (by omega)
      by_cases d : mdr m k = true
      · have ei : (if mnm (nI k) (mnc m) ∧ mdr m k = false then some (ca k) else none) = none := if_neg (fun z => by
          have z2 := z.2
          rw [d] at z2
          exact absurd z2 (by decide))
        rw [ei, if_pos rfl, Option.bind_some]
        refine zS.s ⟨_, by rw [nI_1], ?_, o⟩
        rw [mRk_S, if_pos d, List.append_nil]
        exact r'
      · have d' : mdr m k = false := by rw [Bool.not_eq_true] at d; exact d
        obtain ⟨e1, e2, e3, e4, -⟩ := c'.2.1 k hk
        have ei : (if mnm (nI k) (mnc m) ∧ mdr m k = false then some (ca k) else none) = some (ca k) := if_pos ⟨mn, d'⟩
        rw [ei, if_neg (by intro z; cases z), zob_v (by omega) e4, Option.bind_some, crow_eq c' om hk, Option.bind_some, fs'.ob, Option.bind_some, mDig_rw om]
        obtain ⟨h2, p1, p2, p3⟩ := cputr_eq (x := mRl m k) fs' r' (by omega)
        rw [p1, Option.bind_some, Option.bind_some]
        refine zS.s ⟨_, by rw [nI_1], ?_, o.tr (p3.mono (fun u j z => by omega))⟩
        rw [mRk_S, if_neg d]
        exact p2
    · obtain ⟨r', o⟩ := hJ
      have F : fF X 0 h h' := o.F (fun u k z => by omega)
      have f' := F.fix f
      have f0' := f'.1
      dsimp only
      rw [zfI_v (ci := 6) (by omega) f'.2.1.1, ((F.1.2 X (by omega)).2.2 (by omega)).1, c.1, Option.bind_some, if_pos (nI_le (Nat.le_refl _) (by omega))]
      exact zS.s ⟨_, rfl, r', o⟩
    · obtain ⟨r6, o6⟩ := hh
      have F6 : fF X 0 h h6 := o6.F (fun u k z => by omega)
      have f6 := F6.fix f
      have f06 := f6.1
      have n6 : zn h6 = zn h := o6.1.1
      have z6 : zs h6 = zs h := o6.1.2.1
      rw [zfP_v (ci := 6) (by omega) f6.2.1.1, f6.2.1.2.2.2.2.1, Option.bind_some]
      refine zS.b (cfound_eq (X := X) 12 64 (by omega) 0 h6 (mRws m) rfl f6 r6 xo) (fun q hq => ?_)
      obtain ⟨r19, h20⟩ := q
      obtain ⟨⟨x, rfl, x2, x3, x4, x5⟩, F20, n20, z20⟩ := hq
      dsimp only at x3 x5 F20 n20 z20 ⊢
      have F : fF X 0 h h20 := F6.tr F20
      have f20 := F.fix f
      have f020 := f20.1
      have nodes := x3.nodes
      obtain ⟨w, nd, fo⟩ := x3
      have lt : ∀ u : Nat, zn h6 ≤ u → X + 94 ≤ u := fun u hu => by omega
      have nd' : zNd (aB X) h20 x.1 w x.2.1 := nd.mono lt
      have fo' : zFo (aB X) h20 x.2.1 w x.2.2 := fo.mono lt
      have pc20 : cPc h20 X pa p := pc.ext F.1 (by rw [((F.1.2 X (by omega)).2.2 (by omega)).1]) (fun k => by rw [F.2 (X + 2) (by omega)]) (fun u hu _ _ z => by omega)
      obtain ⟨h', pa', k1, ⟨k2, nw1, nw2, nw3⟩, ⟨k3, k4, k5, k6⟩, k7, k8⟩ := ckeepT f20 pc20 ok (by rw [x2]; exact okt) (by rw [x2]; omega) nd' fo' x4 x5
      rw [zfI_v (ci := 3) nd'.1.2.1 nd'.1.2.2.1, nd'.1.2.2.2.2.2.2.1, Option.bind_some, zob_v (by omega) f20.2.1.1, Option.bind_some, k1, Option.bind_some]
      rw [x2] at k2 nw1 nw3
      have nn : ∀ u, u < zn h → ¬ u ∈ x.2.2 ++ [x.1] := fun u hu z => by
        have := (nodes u z).1
        omega
      have E : zExt (fun u => aSh X 0 u ∨ u = X ∨ u = X + 2) h h' := by
        refine ⟨⟨by have := F.1.1.1; omega, by have := F.1.1.2; omega⟩, fun u hu => ?_⟩
        obtain ⟨g1, g2, g3⟩ := F.1.2 u hu
        refine ⟨by rw [k5]; exact g1, by rw [k6]; exact g2, fun nS => ⟨?_, ?_⟩⟩
        · funext j
          rw [k8 u j (fun z => nn u hu z.1) (fun z => nS (Or.inr (Or.inl z.1))), (g3 (fun z => nS (Or.inl z))).1]
        · rw [k7 u (fun z => nS (Or.inr (Or.inr z))), F.2 u hu]
      have Ep : ∀ u, u < zn h → u ≠ X + 2 → zp h' u = zp h u := fun u hu n => by rw [k7 u n, F.2 u hu]
      have X1 : zi h' X 1 = zi h X 1 := by
        rw [k8 X 1 (fun z => nn X (by omega) z.1) (by omega), ((F.1.2 X (by omega)).2.2 (by omega)).1]
      have f' : cFix h' X := cFix.ext E f (fun v hv hs k => by
        rw [Ep v]
        · rcases hv with z | z | z | ⟨d, hd, z⟩ <;> omega
        · rcases hv with z | z | z | ⟨d, hd, z⟩ <;> omega)
      have c' : cLog h' X ca m := c.ext E f0 X1 (fun j => by rw [Ep (X + 1) (by omega) (by omega)]) (fun q hq => by
        have := (c.2.1 q hq).2.1
        exact ⟨by omega, by omega⟩)
      have k2' : cPw h h' X pa pa' p (if tSz (xFnd 12 (mRws m)) ≤ 60 ∧ pn p + tSz (xFnd 12 (mRws m)) ≤ 200 then pEnt p (xFnd 12 (mRws m)) else p) := ⟨k2, nw1, nw2, fun q h1 h2 => by
        have := (nodes _ (nw3 q h1 h2)).1
        omega⟩
      refine zS.s ⟨?_, E, f', c', ⟨pa', ?_⟩, ⟨by dsimp only; omega, by dsimp only; omega⟩, Ep⟩
      · dsimp only
        unfold pFnd
        rw [x2]
        by_cases cc : tSz (xFnd 12 (mRws m)) ≤ 60 ∧ pn p + tSz (xFnd 12 (mRws m)) ≤ 200
        · rw [if_pos cc, if_pos cc]
        · rw [if_neg cc, if_neg cc]
      · dsimp only
        unfold pFnd
        by_cases cc : tSz (xFnd 12 (mRws m)) ≤ 60 ∧ pn p + tSz (xFnd 12 (mRws m)) ≤ 200
        · rw [if_pos cc] at k2' ⊢; exact k2'
        · rw [if_neg cc] at k2' ⊢; exact k2'
  obtain ⟨⟨v, h'⟩, e, rfl, q1, q2, q3, ⟨pa', q4, nw⟩, ⟨q5, q6⟩, q7⟩ := key
  dsimp only at q1 q2 q3 q4 nw q5 q6 q7
  have ok' : pOK (pFnd p (xFnd 12 (mRws m))).2 := pFnd_OK ok okt
  have pe : pot h' pa' (pFnd p (xFnd 12 (mRws m))).2 ≤ pot h pa p := pot_cg nw.1 ok'.1 (fun q hq => by
    obtain ⟨-, -, ⟨w, nd, -⟩, -⟩ := pc.2.1 q hq
    have n1 : X + 94 ≤ pa q := nd.1.1
    rw [nw.2.1 q hq, q7 (pa q) nd.1.2.1 (by omega)])
  exact ⟨h', ca, pa', e, gFr.e q1 (fun u z => by
    rcases z with z | z | z
    · exact ⟨by have := z.1; omega, z.2⟩
    · omega
    · omega), ⟨q2, q3, q4, om, ok'⟩, ⟨pNw.rf, nw⟩, by omega, by omega⟩
theorem ow_find {X : Nat} {h : Zh} {ca pa : Nat → Nat} {m : Ml} {p : Mp} (F : Fi h X ca pa m p) : OpW X h (fX5_find h (some X)) (pFnd p (xFnd 12 (mRws m))).1 ca pa m p m (pFnd p (xFnd 12 (mRws m))).2 1000 13000 := cfind_eq F.1 F.2.1 F.2.2.2.1 F.2.2.1 F.2.2.2.2
