/-! the best set on the class's side, and laying a case -/
def zh0 : Zh := ((fun _ => 0), (fun _ => 0), (fun _ _ => 0), (fun _ _ => none), 0, 0)
theorem cbits_eq (h : Zh) : ∀ s, s < 64 → fJ6_bitCount_0f7a4 h (nI s) = some (nI (cBit s 6)) := by
  have e : ∀ x, fJ6_bitCount_0f7a4 h x = fJ6_bitCount_0f7a4 zh0 x := fun x => rfl
  have d : ∀ s, s < 64 → fJ6_bitCount_0f7a4 zh0 (nI s) = some (nI (cBit s 6)) := by decide +kernel
  intro s hs
  rw [e, d s hs]
theorem cBit_hi {n s : Nat} (hs : s < 2 ^ n) : ∀ d, cBit s (n + d) = cBit s n
  | 0 => rfl
  | d + 1 => by
    show cBit s (n + d) + s / 2 ^ (n + d) % 2 = _
    have : s < 2 ^ (n + d) := Nat.lt_of_lt_of_le hs (Nat.pow_le_pow_right (by omega) (by omega))
    rw [cBit_hi hs d, Nat.div_eq_of_lt this]
    rfl
theorem cTel_hi {n s : Nat} (hs : s < 2 ^ n) : ∀ d, cTel s (n + d) = cTel s n
  | 0 => rfl
  | d + 1 => by
    show cTel s (n + d) + s / 2 ^ (n + d) % 2 * (32 / 2 ^ (n + d)) = _
    have : s < 2 ^ (n + d) := Nat.lt_of_lt_of_le hs (Nat.pow_le_pow_right (by omega) (by omega))
    rw [cTel_hi hs d, Nat.div_eq_of_lt this]
    omega
theorem cnum_eq (h : Zh) {s : Nat} (hs : s < 64) : fX1_numberOf h (nI s) = some (nI (cTel s 6)) := by
  unfold fX1_numberOf
  refine congrArg (fun o : Option Int32 => o.bind fun w3 => some w3) (foldL (fun j => nI (cTel s j)) 6 (fun j hj => ?_) ?_ (by omega))
  · dsimp only
    rw [if_neg (show ¬ (6 : Int32) ≤ nI j from nI_nle' (b := 6) (by omega) hj)]
    have h2 : s / 2 ^ j % 2 < 2 := Nat.mod_lt _ (by omega)
    have e : cTel s (j + 1) = cTel s j + s / 2 ^ j % 2 * (32 / 2 ^ j) := rfl
    by_cases z : s / 2 ^ j % 2 = 0
    · rw [if_pos ((bt_is s hs j hj).mpr z), Option.bind_some, nI_1, e, z, Nat.zero_mul]
      rfl
    · rw [if_neg (fun y => z ((bt_is s hs j hj).mp y)), Option.bind_some, nI_1, e, show s / 2 ^ j % 2 = 1 by omega, Nat.one_mul, bt_32 j hj, nI_add]
  · dsimp only
    rw [if_pos (show (6 : Int32) ≤ nI 6 from nI_le (Nat.le_refl 6) (by omega))]
theorem cchoose_eq {h : Zh} {Y n a : Nat} {nm : Nat → Int32} {c : Nat → Nat} (hn : n ≤ 6) (L : LY h Y n nm) (ga : aG h a) (H : aH h a n c) (hc : ∀ k, c k ≤ 1000000) : zS (fX1_choose h (some Y) (some a)) (fun h' => (zi h' Y 5 = nI (cBst 1000000 n c (2 ^ n)).1 ∧ zi h' Y 6 = nI (cBst 1000000 n c (2 ^ n)).2) ∧ zExt (fun u => u = Y) h h' ∧ zn h' = zn h ∧ zs h' = zs h ∧ zp h' = zp h ∧ ∀ j, j ≠ 5 → j ≠ 6 → zi h' Y j = zi h Y j) := by
  have h64 := p2_64 hn
  have y0 : Y < zn h := by have := L.1.1; omega
  have ky := L.1.2.1
  have ya : a ≠ Y := by rintro rfl; have := ga.2.1; omega
  unfold fX1_choose
  rw [zgI_v (ci := 2) y0 ky, Option.bind_some, zgI_v (ci := 2) (by exact y0) (by exact ky), Option.bind_some]
  let I : Zh → Prop := fun h' => zExt (fun u => u = Y) h h' ∧ zn h' = zn h ∧ zs h' = zs h ∧ zp h' = zp h ∧ ∀ j, j ≠ 5 → j ≠ 6 → zi h' Y j = zi h Y j
  have up : ∀ h' (x y : Int32), I h' → I (zsetI (zsetI h' Y 5 x) Y 6 y) := fun h' x y i => by
    refine ⟨(i.1.tr (zExt.sI (Or.inl rfl))).tr (zExt.sI (Or.inl rfl)), i.2.1, i.2.2.1, i.2.2.2.1, fun j h5 h6 => ?_⟩
    rw [zi_sI, u2_n (by omega), zi_sI, u2_n (by omega)]
    exact i.2.2.2.2 j h5 h6
  refine zS.b (R1 := fun h' => (zi h' Y 5 = nI (cBst 1000000 n c (2 ^ n)).1 ∧ zi h' Y 6 = nI (cBst 1000000 n c (2 ^ n)).2) ∧ I h') (zS.up (fun k h' => (zi h' Y 5 = nI (cBst 1000000 n c k).1 ∧ zi h' Y 6 = nI (cBst 1000000 n c k).2) ∧ I h') 0 (2 ^ n) (fun k h' _ hk hJ => ?_) (fun h' hJ => ?_) (Nat.zero_le _) (by omega) ⟨⟨?_, ?_⟩, up h _ _ ⟨zExt.rf, rfl, rfl, rfl, fun _ _ _ => rfl⟩⟩) (fun r hr => zS.s hr)
  · dsimp only
    obtain ⟨⟨j1, j2⟩, j3⟩ := hJ
    obtain ⟨i1, i2, i3, i4, i5⟩ := j3
    have b1 := cBst_leM 1000000 n c k
    have b2 := cBst_2 1000000 n c k
    have b3 := hc k
    have b4 := cBit_le k n
    have b5 := cTel_le k n
    have ky' := (i1.2 Y y0).1.trans ky
    have yn : Y < zn h' := by rw [i2]; exact y0
    have bit := cBit_hi hk (6 - n)
    have tel := cTel_hi hk (6 - n)
    rw [Nat.add_sub_of_le hn] at bit tel
    rw [zfI_v (ci := 2) yn ky', i5 2 (by omega) (by omega), L.1.2.2.2, Option.bind_some, if_neg (nI_nle' (by omega) hk)]
    refine zS.e (zfI_v (ci := 2) yn ky') ?_
    rw [i5 1 (by omega) (by omega), L.1.2.2.1]
    refine zS.e (cbits_eq h' k (by omega)) ?_
    rw [bit]
    have ga' : aG h' a := ⟨by rw [i2]; exact ga.1, (i1.2 a ga.1).1.trans ga.2.1, (i1.2 a ga.1).2.1.trans ga.2.2⟩
    refine zS.e (zaI_g ga' (by omega)) ?_
    rw [((i1.2 a ga.1).2.2 ya).1, H k hk]
    refine zS.e (cnum_eq h' (by omega)) ?_
    rw [tel]
    refine zS.e (zfI_v (ci := 2) yn ky') ?_
    have ev : nI n - nI (cBit k n) + nI (c k) = nI (c k + n - cBit k n) := by
      rw [pk_sub b4, nI_add]
      congr 1
      omega
    rw [ev, j1]
    have step : cBst 1000000 n c (k + 1) = if c k + n - cBit k n < (cBst 1000000 n c k).1 ∨ (c k + n - cBit k n = (cBst 1000000 n c k).1 ∧ (cBst 1000000 n c k).2 < cTel k n) then (c k + n - cBit k n, cTel k n) else cBst 1000000 n c k := rfl
    refine zS.b (R1 := fun h2 => (zi h2 Y 5 = nI (cBst 1000000 n c (k + 1)).1 ∧ zi h2 Y 6 = nI (cBst 1000000 n c (k + 1)).2) ∧ I h2) ?_ (fun r hr => zS.s ⟨_, by rw [nI_1], hr⟩)
    have put : zS ((zgI h' (some Y) 2 5 (nI (c k + n - cBit k n))).bind fun h16 => (zgI h16 (some Y) 2 6 (nI (cTel k n))).bind fun h17 => some h17) (fun h2 => (zi h2 Y 5 = nI (c k + n - cBit k n) ∧ zi h2 Y 6 = nI (cTel k n)) ∧ I h2) := by
      rw [zgI_v (ci := 2) yn ky', Option.bind_some, zgI_v (ci := 2) (by exact yn) (by exact ky'), Option.bind_some]
      refine zS.s ⟨⟨?_, ?_⟩, up h' _ _ ⟨i1, i2, i3, i4, i5⟩⟩
      · rw [zi_sI, u2_n (by omega), zi_sI, u2_s]
      · rw [zi_sI, u2_s]
    rw [step]
    by_cases q1 : c k + n - cBit k n < (cBst 1000000 n c k).1
    · rw [if_pos (nI_lt q1 (by omega)), if_pos (Or.inl q1)]
      exact put
    · rw [if_neg (nI_nlt (by omega) (by omega)), zfI_v (ci := 2) yn ky', j1, Option.bind_some]
      by_cases q2 : c k + n - cBit k n = (cBst 1000000 n c k).1
      · rw [if_pos (by rw [q2]), zfI_v (ci := 2) yn ky', j2, Option.bind_some]
        by_cases q3 : (cBst 1000000 n c k).2 < cTel k n
        · rw [if_neg (nI_nle' (by omega) q3), if_pos (Or.inr ⟨q2, q3⟩)]
          exact put
        · rw [if_pos (nI_le (by omega) (by omega)), if_neg (by omega)]
          exact zS.s ⟨⟨j1, j2⟩, i1, i2, i3, i4, i5⟩
      · rw [if_neg (fun z => q2 ((nI_eq (by omega) (by omega)).mp z)), if_neg (by omega)]
        exact zS.s ⟨⟨j1, j2⟩, i1, i2, i3, i4, i5⟩
  · dsimp only
    obtain ⟨i1, i2, i3, i4, i5⟩ := hJ.2
    rw [zfI_v (ci := 2) (by rw [i2]; exact y0) ((i1.2 Y y0).1.trans ky), i5 2 (by omega) (by omega), L.1.2.2.2, Option.bind_some, if_pos (nI_le (Nat.le_refl _) (by omega))]
    exact zS.s ⟨_, rfl, hJ⟩
  · rw [zi_sI, u2_n (by omega), zi_sI, u2_s]; rfl
  · rw [zi_sI, u2_s]; rfl
/-- what laying leaves as it was -/
def lF (O : Nat → Prop) (X : Nat) (h h' : Zh) : Prop := (zn h ≤ zn h' ∧ zs h ≤ zs h') ∧ ∀ v, v < zn h → zk h' v = zk h v ∧ zl h' v = zl h v ∧ (¬ (zk h v = 100 ∧ zl h v = 64 ∧ (v < X + 94 ∨ X + 94 ≤ v)) → v ≠ X + 3 → v ≠ X + 4 → zi h' v = zi h v) ∧ ∀ k, ¬ (zk h v = 4 ∧ k = 6 ∧ O v) → zp h' v k = zp h v k
theorem lF.rf {O : Nat → Prop} {X : Nat} {h : Zh} : lF O X h h := ⟨⟨Nat.le_refl _, Nat.le_refl _⟩, fun v _ => ⟨rfl, rfl, fun _ _ _ => rfl, fun _ _ => rfl⟩⟩
theorem lF.tr {O : Nat → Prop} {X : Nat} {h h1 h2 : Zh} (a : lF O X h h1) (b : lF O X h1 h2) : lF O X h h2 := by
  refine ⟨⟨Nat.le_trans a.1.1 b.1.1, Nat.le_trans a.1.2 b.1.2⟩, fun v hv => ?_⟩
  obtain ⟨a1, a2, a3, a4⟩ := a.2 v hv
  obtain ⟨b1, b2, b3, b4⟩ := b.2 v (Nat.lt_of_lt_of_le hv a.1.1)
  exact ⟨b1.trans a1, b2.trans a2, fun n n1 n2 => (b3 (by rw [a1, a2]; exact n) n1 n2).trans (a3 n n1 n2), fun k n => (b4 k (by rw [a1]; exact n)).trans (a4 k n)⟩
theorem lF.of {O : Nat → Prop} {X : Nat} {h h' : Zh} (a : wF O X h h') : lF O X h h' := ⟨a.1, fun v hv => ⟨(a.2 v hv).1, (a.2 v hv).2.1, fun n _ _ => (a.2 v hv).2.2.1 n, (a.2 v hv).2.2.2⟩⟩
theorem lF.ex {O : Nat → Prop} {X : Nat} {h h' : Zh} (e : zExt (fun u => u = X + 3 ∨ u = X + 4) h h') (hp : zp h' = zp h) : lF O X h h' := ⟨e.1, fun v hv => ⟨(e.2 v hv).1, (e.2 v hv).2.1, fun _ n1 n2 => ((e.2 v hv).2.2 (fun z => z.elim n1 n2)).1, fun k _ => by rw [hp]⟩⟩
theorem lF.fix {O : Nat → Prop} {h h' : Zh} {X : Nat} (w : lF O X h h') (f : cFix h X) : cFix h' X := by
  have e : zExt (fun u => u = u) h h' := ⟨w.1, fun v hv => ⟨(w.2 v hv).1, (w.2 v hv).2.1, fun n => absurd rfl n⟩⟩
  have f0 := f.1
  have key : ∀ v, v < zn h → zk h v ≠ 4 → ∀ k, zp h' v k = zp h v k := fun v hv hk k => (w.2 v hv).2.2.2 k (fun z => hk z.1)
  refine cFix.on e f (fun v k hv _ _ => ?_) (fun k => key _ (by omega) (by rw [f.2.2.2.2.2.2.1.1]; omega) k) (key _ (by omega) (by rw [f.2.2.2.2.1.1]; omega) 3)
  rcases hv with y | y | y | ⟨d, hd, y⟩
  · subst y; exact key _ (by omega) (by rw [f.2.1.1]; omega) k
  · subst y; exact key _ (by omega) (by rw [f.2.2.2.2.1.1]; omega) k
  · subst y; exact key _ (by omega) (by rw [f.2.2.2.2.2.2.1.1]; omega) k
  · subst y; exact key _ (by omega) (by rw [(f.2.2.2.2.2.2.2.2 d hd).2.1]; omega) k
theorem lF.log {O : Nat → Prop} {h h' : Zh} {X : Nat} {ca : Nat → Nat} {m : Ml} (w : lF O X h h') (f : cFix h X) (c : cLog h X ca m) : cLog h' X ca m := by
  have f0 := f.1
  obtain ⟨c1, c2, c3⟩ := c
  refine ⟨?_, fun k hk => ?_, c3⟩
  · rw [(w.2 X (by omega)).2.2.1 (by rw [f.2.1.1]; omega) (by omega) (by omega)]; exact c1
  · obtain ⟨d1, d2, d3, d4, d5, d6, d7, d8, d9, d10⟩ := c2 k hk
    obtain ⟨e1, e2, e3, e4⟩ := w.2 (ca k) (by omega)
    obtain ⟨g1, g2, g3, g4⟩ := w.2 (ca k + 1) d3
    have i1 := e3 (by rw [d4]; omega) (by omega) (by omega)
    have i2 := g3 (by rw [d6, d7]; omega) (by omega) (by omega)
    refine ⟨?_, d2, Nat.lt_of_lt_of_le d3 w.1.1, e1.trans d4, ?_, g1.trans d6, g2.trans d7, by rw [i1]; exact d8, by rw [i1]; exact d9, fun i w hi hw => by rw [i2]; exact d10 i w hi hw⟩
    · rw [(w.2 (X + 1) (by omega)).2.2.2 k (by rw [f.2.2.1.1]; omega)]; exact d1
    · rw [e4 0 (by omega)]; exact d5
theorem cBst_eqM {n : Nat} {nm : Nat → Int32} {t : Tr} (hn : n ≤ 6) (g : tG t) (hs : tSz t ≤ 1000) : cBst 1000000 n (tCost 1000000 n nm t) (2 ^ n) = cBst 100000 n (tCost 100000 n nm t) (2 ^ n) := by
  have z := tFw_sz t
  have e0 := tCost_0 (M := 1000000) (n := n) nm g (by omega)
  have p0 := Nat.two_pow_pos n
  have e := cBst_cut (K := 100000) (M := 1000000) (n := n) (c := tCost 1000000 n nm t) (c' := tCost 100000 n nm t) (by omega) hn (by rw [e0]; omega) (tCost_cut (by omega) (by omega) nm t) (2 ^ n - 1)
  rw [Nat.sub_add_cancel p0] at e
  exact e.symm
theorem clay_eq {h : Zh} {X : Nat} {ca pa : Nat → Nat} {m : Ml} {p : Mp} (f : cFix h X) (cl : cLog h X ca m) (om : mOK m) (c : cPs h X pa p) (ok : pOK p) {k q : Nat} (hk : k < mnc m) (hq : q < pn p) : zS (fX1_lay h (some (X + 3)) (some (ca k)) (some (pa q))) (fun h' => (zi h' (X + 3) 5 = nI (pCst m p k q).1 ∧ zi h' (X + 3) 6 = nI (pCst m p k q).2) ∧ lF (oP pa p) X h h' ∧ cPs h' X pa p ∧ wC h h' pa (pn p)) := by
  have f0 := f.1
  have hn := om.2.1 k
  generalize en : mlen m k = n at hn
  have h64 := p2_64 hn
  obtain ⟨d1, d2, d3, d4, d5, d6, d7, d8, d9, d10⟩ := cl.2.1 k hk
  have kY : zk h (X + 3) = 3 := f.2.2.2.2.1.1
  unfold fX1_lay
  refine zS.e (zfI_v (ci := 1) (by omega) d4) ?_
  rw [d8, en, if_neg (show ¬ (6 : Int32) < nI n from nI_nlt (a := 6) hn (by omega)), zgI_v (ci := 2) (by omega) kY, Option.bind_some, zfI_v (ci := 2) (by show X + 3 < zn h; omega) (by exact kY), zi_sI, u2_s, Option.bind_some, bt_pow n hn, zgI_v (ci := 2) (by show X + 3 < zn h; omega) (by exact kY), Option.bind_some]
  generalize eh4 : zsetI (zsetI h (X + 3) 1 (nI n)) (X + 3) 2 (nI (2 ^ n)) = h4
  have e4 : zExt (fun u => u = X + 3 ∨ u = X + 4) h h4 := by rw [← eh4]; exact (zExt.sI (Or.inl (Or.inl rfl))).tr (zExt.sI (Or.inl (Or.inl rfl)))
  have s4 : zp h4 = zp h ∧ zn h4 = zn h ∧ zs h4 = zs h := by rw [← eh4]; exact ⟨rfl, rfl, rfl⟩
  have i1 : zi h4 (X + 3) 1 = nI n := by rw [← eh4, zi_sI, u2_n (by omega), zi_sI, u2_s]
  have i2 : zi h4 (X + 3) 2 = nI (2 ^ n) := by rw [← eh4, zi_sI, u2_s]
  clear eh4
  let I : Zh → Prop := fun h' => zExt (fun u => u = X + 3 ∨ u = X + 4) h h' ∧ zp h' = zp h ∧ zn h' = zn h ∧ zs h' = zs h ∧ zi h' (X + 3) = zi h4 (X + 3)
  refine zS.b (R1 := fun h' => (∀ i, i < n → zi h' (X + 4) i = mNm m k i) ∧ I h') (zS.up (fun j h' => (∀ i, i < j → zi h' (X + 4) i = mNm m k i) ∧ I h') 0 n (fun j h' _ hj hJ => ?_) (fun h' hJ => ?_) (Nat.zero_le _) (by omega) ⟨fun i hi => absurd hi (Nat.not_lt_zero _), e4, s4.1, s4.2.1, s4.2.2, rfl⟩) (fun h7 ⟨a1, a2, a3, a4, a5, a6⟩ => ?_)
  · dsimp only
    obtain ⟨j1, j2, j3, j4, j5, j6⟩ := hJ
    have fl : lF (oP pa p) X h h' := lF.ex j2 j3
    have f' := fl.fix f
    have cl' := fl.log f cl
    rw [zfI_v (ci := 2) (by omega) f'.2.2.2.2.1.1, j6, i1, Option.bind_some, if_neg (nI_nle' (by omega) hj)]
    refine zS.e (zfP_v (ci := 2) (by omega) f'.2.2.2.2.1.1) ?_
    rw [f'.2.2.2.2.1.2.1]
    refine zS.e (cob_m cl' hk) (zS.e (show fX0_tell h' (some (ca k)) (nI j) (nI 0) = _ from ctell_m cl' om hk (by omega) (by omega)) ?_)
    refine zS.e (zbI_v (n := 6) (by omega) f'.2.2.2.2.2.1.1.1 f'.2.2.2.2.2.1.1.2 (by omega) (by omega)) (zS.s ⟨_, by rw [nI_1], fun i hi => ?_, j2.tr (zExt.sI (Or.inl (Or.inr rfl))), j3, j4, j5, ?_⟩)
    · rw [zi_sI]
      by_cases e : i = j
      · subst e; rw [u2_s]; rfl
      · rw [u2_n (by omega)]; exact j1 i (by omega)
    · rw [zi_sI, ← j6]
      funext z
      rw [u2_a (by omega)]
  · dsimp only
    obtain ⟨j1, j2, j3, j4, j5, j6⟩ := hJ
    have f' := (lF.ex (O := oP pa p) j2 j3).fix f
    rw [zfI_v (ci := 2) (by omega) f'.2.2.2.2.1.1, j6, i1, Option.bind_some, if_pos (nI_le (Nat.le_refl _) (by omega))]
    exact zS.s ⟨_, rfl, j1, j2, j3, j4, j5, j6⟩
  · have fl7 : lF (oP pa p) X h h7 := lF.ex a2 a3
    have f7 := fl7.fix f
    have L7 : LY h7 (X + 3) n (mNm m k) := ⟨⟨by omega, f7.2.2.2.2.1.1, by rw [a6]; exact i1, by rw [a6]; exact i2⟩, ⟨f7.2.2.2.2.1.2.1, f7.2.2.2.2.2.1.1.1, f7.2.2.2.2.2.1.1.2, a1⟩, ⟨f7.2.2.2.2.1.2.2.1, by omega, f7.2.2.2.2.2.1.2.1⟩, f7.2.2.2.2.1.2.2.2, by omega, f7.2.2.2.2.2.1.2.2⟩
    have c7 : cPs h7 X pa p := c.ext a2 (fun j => by rw [a3]) (fun u hu _ _ z => by omega)
    have ht := pT_ht ok hq
    refine zS.b (show zS (fX1_weigh 64 h7 (some (X + 3)) (some (pa q)) (nI 0)) _ from cweigh_eq (nm := mNm m k) ok hn (fun i hi => (om.2.2.2 k i (by omega)).1) 64 0 q h7 hq (by omega) (by omega) f7 c7 L7) (fun h8 ⟨b1, b, b2, b3⟩ => ?_)
    obtain ⟨-, -, ⟨w', nd', -⟩, -⟩ := b1.2.1.1 q hq
    refine zS.e (ccost_s nd'.1.2.1 nd'.1.2.2.1 b2) ?_
    have L8 := b1.1.Y L7
    refine zS.e L8.o ?_
    obtain ⟨gb, gB⟩ := b1.2.1.cost hq b2
    refine zS.b (cchoose_eq hn L8 gb b3 (tCost_le (by omega) _ _)) (fun h9 ⟨y1, y2, y3, y4, y5, y6⟩ => zS.s ?_)
    have ex9 : zExt (fun u => u = X + 3 ∨ u = X + 4) h8 h9 := y2.mono (fun v _ (z : v = X + 3) => Or.inl z)
    have fl9 : lF (oP pa p) X h8 h9 := lF.ex ex9 y5
    have sz := pT_sz ok q hq
    have s60 := (ok.2 q hq).2.2.2.1
    have eM := cBst_eqM (nm := mNm m k) hn (pT_OK ok q hq).1 (by omega)
    refine ⟨⟨?_, ?_⟩, (fl7.tr (lF.of b1.1)).tr fl9, b1.2.1.ext ex9 (fun j => by rw [y5]) (fun u hu _ _ z => by omega), ?_⟩
    · rw [y1.1, eM]
      unfold pCst
      rw [en]
    · rw [y1.2, eM]
      unfold pCst
      rw [en]
    · have w1 : wC h h7 pa (pn p) := by
        have := nul_same (h := h) (h' := h7) (pa := pa) (pn p) (fun r hr => by rw [a3])
        exact ⟨by rw [this, a4], by rw [this, a5]⟩
      have w2 : wC h8 h9 pa (pn p) := by
        have := nul_same (h := h8) (h' := h9) (pa := pa) (pn p) (fun r hr => by rw [y5])
        exact ⟨by rw [this, y3], by rw [this, y4]⟩
      exact (w1.tr b1.2.2.1).tr w2
/-! price, both, shortest, fit on the class's side -/
theorem sn {x : Nat} : ¬ some x = none := by intro z; cases z
theorem cpb_eq {h : Zh} {X : Nat} {ca pa : Nat → Nat} {m : Ml} {p : Mp} (f : cFix h X) (cl : cLog h X ca m) (om : mOK m) (c : cPs h X pa p) (c3 : zi h X 3 = nI (pn p)) (ok : pOK p) (a b : Int32) :
    zS (fX5_price h (some X) a b) (fun r => r.1 = pPrice m p a b ∧ lF (oP pa p) X h r.2 ∧ cPs r.2 X pa p ∧ wC h r.2 pa (pn p)) ∧ zS (fX5_both h (some X) a b) (fun r => r.1 = pBoth m p a b ∧ lF (oP pa p) X h r.2 ∧ cPs r.2 X pa p ∧ wC h r.2 pa (pn p)) := by
  have f0 := f.1
  have h24 := om.1
  unfold fX5_price fX5_both pPrice pBoth
  rw [zob_v (by omega) f.2.1.1, Option.bind_some, Option.bind_some, clog_eq f cl om, Option.bind_some, Option.bind_some, Option.bind_some, Option.bind_some, cpiece_at f ⟨c3, c⟩ ok, Option.bind_some, Option.bind_some]
  by_cases c1 : mnm a (mnc m) ∧ mdr m a.toNatClampNeg = false
  · rw [if_pos c1, if_neg sn, if_neg sn]
    by_cases c2 : mnm b (pn p)
    · have hyes : (mnm a (mnc m) ∧ mdr m a.toNatClampNeg = false) ∧ mnm b (pn p) := ⟨c1, c2⟩
      rw [if_pos c2, if_neg sn, if_neg sn, if_pos hyes, if_pos hyes]
      obtain ⟨-, la⟩ := mnm_nI c1.1
      obtain ⟨-, lb⟩ := mnm_nI c2
      generalize a.toNatClampNeg = x at la
      generalize b.toNatClampNeg = y at lb
      rw [zfP_v (ci := 6) (by omega) f.2.1.1, f.2.1.2.2.2.1, Option.bind_some, Option.bind_some, zob_v (by omega) f.2.2.2.2.1.1, Option.bind_some, Option.bind_some]
      constructor
      · refine zS.b (clay_eq f cl om c ok la lb) (fun h' ⟨r1, r2, r3, r4⟩ => ?_)
        have f' := r2.fix f
        have f0' := f'.1
        rw [zfP_v (ci := 6) (by omega) f'.2.1.1, f'.2.1.2.2.2.1, Option.bind_some, zfI_v (ci := 2) (by omega) f'.2.2.2.2.1.1, Option.bind_some]
        exact zS.s ⟨r1.1, r2, r3, r4⟩
      · refine zS.b (clay_eq f cl om c ok la lb) (fun h' ⟨r1, r2, r3, r4⟩ => ?_)
        have f' := r2.fix f
        have f0' := f'.1
        rw [zfP_v (ci := 6) (by omega) f'.2.1.1, f'.2.1.2.2.2.1, Option.bind_some, zfI_v (ci := 2) (by omega) f'.2.2.2.2.1.1, Option.bind_some]
        exact zS.s ⟨r1.2, r2, r3, r4⟩
    · have hno : ¬ ((mnm a (mnc m) ∧ mdr m a.toNatClampNeg = false) ∧ mnm b (pn p)) := fun z => c2 z.2
      rw [if_neg c2, if_pos rfl, if_pos rfl, if_neg hno, if_neg hno]
      exact ⟨zS.s ⟨rfl, lF.rf, c, rfl, rfl⟩, zS.s ⟨rfl, lF.rf, c, rfl, rfl⟩⟩
  · have hno : ¬ ((mnm a (mnc m) ∧ mdr m a.toNatClampNeg = false) ∧ mnm b (pn p)) := fun z => c1 z.1
    rw [if_neg c1, if_pos rfl, if_pos rfl, if_neg hno, if_neg hno]
    exact ⟨zS.s ⟨rfl, lF.rf, c, rfl, rfl⟩, zS.s ⟨rfl, lF.rf, c, rfl, rfl⟩⟩
theorem cfw_at {h : Zh} {X : Nat} {pa : Nat → Nat} {p : Mp} (c : cPs h X pa p) {q : Nat} (hq : q < pn p) : zfI h (some (pa q)) 3 4 = some (nI (tFw (pT p q))) := by
  obtain ⟨-, -, ⟨w', nd', -⟩, -⟩ := c.1 q hq
  rw [zfI_v (ci := 3) nd'.1.2.1 nd'.1.2.2.1, nd'.1.2.2.2.2.2.2.2]
theorem cshort_eq {h : Zh} {X : Nat} {pa : Nat → Nat} {p : Mp} (f : cFix h X) (c : cPs h X pa p) (c3 : zi h X 3 = nI (pn p)) (ok : pOK p) (a : Int32) : fX5_shortest h (some X) a = some (pShort p a) := by
  have f0 := f.1
  unfold fX5_shortest pShort
  rw [zob_v (by omega) f.2.1.1, Option.bind_some, cpiece_at f ⟨c3, c⟩ ok, Option.bind_some]
  by_cases c2 : mnm a (pn p)
  · obtain ⟨-, lb⟩ := mnm_nI c2
    rw [if_pos c2, if_neg sn, if_pos c2, cfw_at c lb]
    rfl
  · rw [if_neg c2, if_pos rfl, if_neg c2]
    rfl
theorem mFit_3 {m : Ml} (om : mOK m) (p : Mp) (q : Nat) : ∀ k, k ≤ mnc m → (mFit m p q k).2.2.1 = mCnt (mIn m) (6 * k) + mCnt (fun c => mdr m c = false) k * nI (tFw (pT p q))
  | 0, _ => by
    show (0 : Int32) = 0 + 0 * _
    rw [Int32.zero_mul]
    rfl
  | k + 1, hk => by
    have ih := mFit_3 om p q k (by omega)
    have hl6 := om.2.1 k
    have h24 := om.1
    show (if mdr m k = false then (_, _, (mFit m p q k).2.2.1 + (nI (mlen m k) + nI (tFw (pT p q))), _, _) else mFit m p q k).2.2.1 = _
    by_cases hd : mdr m k = false
    · rw [if_pos hd, mCnt_t hd]
      show (mFit m p q k).2.2.1 + _ = _
      have e : mCnt (mIn m) (6 * (k + 1)) = mCnt (mIn m) (6 * k) + nI (mlen m k) := by
        rw [show 6 * (k + 1) = 6 * k + 6 by omega, mCnt_add 6]
        refine congrArg (fun z => mCnt (mIn m) (6 * k) + z) ?_
        have t2 := mCnt_skip (P := fun i => mIn m (6 * k + i)) (a := mlen m k) (6 - mlen m k) (fun j j1 j2 z => by
          have := ((mIn_at (show j < 6 by omega)).mp z).2
          omega)
        rw [Nat.add_sub_of_le hl6] at t2
        rw [t2, mCnt_all]
        intro i hi
        exact (mIn_at (by omega)).mpr ⟨⟨by omega, hd⟩, hi⟩
      rw [ih, e]
      generalize mCnt (mIn m) (6 * k) = A
      generalize mCnt (fun c => mdr m c = false) k = B
      generalize nI (mlen m k) = C
      generalize nI (tFw (pT p q)) = D
      rw [Int32.add_mul, Int32.one_mul, Int32.add_assoc, Int32.add_assoc]
      congr 1
      rw [← Int32.add_assoc, Int32.add_comm (B * D) C, Int32.add_assoc]
    · rw [if_neg hd, mCnt_f hd, ih]
      have e : mCnt (mIn m) (6 * (k + 1)) = mCnt (mIn m) (6 * k) := mCnt_none (fun _ z => z) (fun y => hd y.2)
      rw [e]
theorem cfit_eq {h : Zh} {X : Nat} {ca pa : Nat → Nat} {m : Ml} {p : Mp} (f : cFix h X) (cl : cLog h X ca m) (om : mOK m) (c : cPs h X pa p) (c3 : zi h X 3 = nI (pn p)) (ok : pOK p) (a w : Int32) : zS (fX5_fit h (some X) a w) (fun r => r.1 = pFit m p a w ∧ lF (oP pa p) X h r.2 ∧ cPs r.2 X pa p ∧ wC h r.2 pa (pn p)) := by
  have f0 := f.1
  have h24 := om.1
  unfold fX5_fit pFit
  rw [zob_v (by omega) f.2.1.1, Option.bind_some, cpiece_at f ⟨c3, c⟩ ok, Option.bind_some]
  by_cases c2 : mnm a (pn p)
  · obtain ⟨-, lb⟩ := mnm_nI c2
    rw [if_pos c2, if_neg sn]
    generalize a.toNatClampNeg = q at lb
    by_cases c4 : mnm w 4
    · have hyes : mnm a (pn p) ∧ mnm w 4 := ⟨c2, c4⟩
      rw [if_pos hyes]
      obtain ⟨ew, lw⟩ := mnm_nI c4
      generalize w.toNatClampNeg = x at ew lw
      subst ew
      rw [if_neg (nI_pos (by omega)), if_pos (show nI x ≤ (3 : Int32) from nI_le (b := 3) (by omega) (by omega))]
      by_cases d2 : nI x = 2
      · have n0 : ¬ nI x = 0 := by rw [d2]; decide
        have n1 : ¬ nI x = 1 := by rw [d2]; decide
        rw [if_pos d2, if_neg n0, if_neg n1, if_pos d2, Option.bind_some, cdeeds_eq f cl om, Option.bind_some, Option.bind_some, ctrails_eq f cl om, Option.bind_some, cfw_at c lb, Option.bind_some]
        refine zS.s ⟨?_, lF.rf, c, rfl, rfl⟩
        rw [mFit_3 om p q _ (Nat.le_refl _), mCnt_144 om (fun _ z => z)]
      · rw [if_neg d2, if_neg d2]
        refine zS.b (R1 := fun r => (r.1 = (mFit m p q (mnc m)).1 ∧ r.2.1 = (mFit m p q (mnc m)).2.1 ∧ r.2.2.1 = (mFit m p q (mnc m)).2.2.2.1) ∧ lF (oP pa p) X h r.2.2.2 ∧ cPs r.2.2.2 X pa p ∧ wC h r.2.2.2 pa (pn p)) ?_ (fun r hr => ?_)
        · refine zloop_inv (fun (n : Nat) (st : Int32 × Int32 × Int32 × Int32 × Int32 × Zh) => ∃ k, n = mnc m - k ∧ k ≤ mnc m ∧ st.2.2.2.2.1 = nI k ∧ (st.1 = (mFit m p q k).1 ∧ st.2.1 = (mFit m p q k).2.1 ∧ st.2.2.1 = (mFit m p q k).2.2.2.1 ∧ st.2.2.2.1 = (mFit m p q k).2.2.2.2) ∧ lF (oP pa p) X h st.2.2.2.2.2 ∧ cPs st.2.2.2.2.2 X pa p ∧ wC h st.2.2.2.2.2 pa (pn p)) _ ?_ (mnc m) _ _ ⟨0, rfl, Nat.zero_le _, rfl, ⟨rfl, rfl, rfl, rfl⟩, lF.rf, c, rfl, rfl⟩ (by rw [zFU_v]; omega)
          rintro n ⟨v8, v9, v10, v11, v12, h1⟩ ⟨k, hn, hk, e12, ⟨g1, g2, g3, g4⟩, r2, r3, r4⟩
          dsimp only at e12 g1 g2 g3 g4 r2 r3 r4
          subst e12
          have f1 := r2.fix f
          have cl1 := r2.log f cl
          have f01 := f1.1
          by_cases z : k = mnc m
          · subst z
            refine Or.inr ⟨(v8, v9, v10, h1), ?_, ⟨g1, g2, g3⟩, r2, r3, r4⟩
            show ((zfI h1 (some X) 6 1).bind _) = _
            rw [zfI_v (ci := 6) (by omega) f1.2.1.1, cl1.1, Option.bind_some, if_pos (nI_le (Nat.le_refl _) (by omega))]
          · have hk' : k < mnc m := by omega
            refine Or.inl ?_
            have step : mFit m p q (k + 1) = if mdr m k = false then ((mFit m p q k).1 + (if nI (pCst m p k q).1 = 0 then 1 else 0), (mFit m p q k).2.1 + nI (pCst m p k q).1, (mFit m p q k).2.2.1 + (nI (mlen m k) + nI (tFw (pT p q))),
              if nI (pCst m p k q).1 ≤ (mFit m p q k).2.2.2.2 then (mFit m p q k).2.2.2.1 else nI k, if nI (pCst m p k q).1 ≤ (mFit m p q k).2.2.2.2 then (mFit m p q k).2.2.2.2 else nI (pCst m p k q).1) else mFit m p q k := rfl
            have emn : mnm (nI k) (mnc m) := nI_mnm hk' (by omega)
            show ∃ s' m', ((zfI h1 (some X) 6 1).bind _) = _ ∧ _
            rw [zfI_v (ci := 6) (by omega) f1.2.1.1, cl1.1, Option.bind_some, if_neg (nI_nle' (by omega) hk'), zob_v (by omega) f1.2.1.1, Option.bind_some, clog_eq f1 cl1 om, Option.bind_some, nI_clamp (by omega)]
            by_cases c2 : mdr m k = false
            · have hy : mnm (nI k) (mnc m) ∧ mdr m k = false := ⟨emn, c2⟩
              rw [if_pos hy, if_neg sn]
              rw [if_pos c2] at step
              rw [zfP_v (ci := 6) (by omega) f1.2.1.1, f1.2.1.2.2.2.1, Option.bind_some, zob_v (by omega) f1.2.2.2.2.1.1, Option.bind_some]
              obtain ⟨h2, e2, ⟨b1, -⟩, b2, b3, b4⟩ := clay_eq f1 cl1 om r3 ok hk' lb
              have f2 := b2.fix f1
              have f02 := f2.1
              have rdY : zfP h2 (some X) 6 4 = some (some (X + 3)) := by rw [zfP_v (ci := 6) (by omega) f2.2.1.1, f2.2.1.2.2.2.1]
              have rd5 : zfI h2 (some (X + 3)) 2 5 = some (nI (pCst m p k q).1) := by rw [zfI_v (ci := 2) (by omega) f2.2.2.2.2.1.1, b1]
              rw [e2, Option.bind_some, rdY, Option.bind_some, rd5, Option.bind_some, Option.bind_some, rd5, Option.bind_some]
              refine ⟨(v8 + (if nI (pCst m p k q).1 = 0 then 1 else 0), v9 + nI (pCst m p k q).1, (if nI (pCst m p k q).1 ≤ v11 then v10 else nI k), (if nI (pCst m p k q).1 ≤ v11 then v11 else nI (pCst m p k q).1), nI (k + 1), h2), mnc m - (k + 1), ?_, by omega, k + 1, rfl, by omega, rfl, ⟨by rw [step, g1], by rw [step, g2], by rw [step, g3, g4], by rw [step, g4]⟩, r2.tr b2, b3, r4.tr b4⟩
              by_cases p1 : nI (pCst m p k q).1 = 0
              · rw [if_pos p1, if_pos p1, Option.bind_some, Option.bind_some, rd5, Option.bind_some]
                by_cases p2 : nI (pCst m p k q).1 ≤ v11
                · rw [if_pos p2, if_pos p2, if_pos p2, Option.bind_some, nI_1]
                · rw [if_neg p2, if_neg p2, if_neg p2, Option.bind_some, rd5, Option.bind_some, Option.bind_some, nI_1]
              · rw [if_neg p1, if_neg p1, Option.bind_some, Option.bind_some, rd5, Option.bind_some, Int32.add_zero]
                by_cases p2 : nI (pCst m p k q).1 ≤ v11
                · rw [if_pos p2, if_pos p2, if_pos p2, Option.bind_some, nI_1]
                · rw [if_neg p2, if_neg p2, if_neg p2, Option.bind_some, rd5, Option.bind_some, Option.bind_some, nI_1]
            · rw [if_neg (show ¬ (mnm (nI k) (mnc m) ∧ mdr m k = false) from fun z => c2 z.2), if_pos rfl, Option.bind_some]
              rw [if_neg c2] at step
              exact ⟨_, mnc m - (k + 1), rfl, by omega, k + 1, rfl, by omega, nI_1 k, by rw [step]; exact ⟨g1, g2, g3, g4⟩, r2, r3, r4⟩
        · obtain ⟨w1, w2, w3, h3⟩ := r
          obtain ⟨⟨q1, q2, q3⟩, q4, q5, q6⟩ := hr
          dsimp only at q1 q2 q3 q4 q5 q6
          rw [← q1, ← q2, ← q3]
          by_cases d0 : nI x = 0
          · rw [if_pos d0]
            refine ⟨(w1, h3), ?_, rfl, q4, q5, q6⟩
            show Option.bind (if nI x = 0 then _ else _) _ = _
            rw [if_pos d0]; rfl
          · rw [if_neg d0]
            by_cases d1 : nI x = 1
            · rw [if_pos d1]
              refine ⟨(w2, h3), ?_, rfl, q4, q5, q6⟩
              show Option.bind (if nI x = 0 then _ else _) _ = _
              rw [if_neg d0, if_pos d1]; rfl
            · rw [if_neg d1]
              refine ⟨(w3, h3), ?_, rfl, q4, q5, q6⟩
              show Option.bind (if nI x = 0 then _ else _) _ = _
              rw [if_neg d0, if_neg d1]; rfl
    · rw [if_neg (fun z : mnm a (pn p) ∧ mnm w 4 => c4 z.2)]
      refine zS.m (R := fun r => r = ((-1 : Int32), h)) ?_ (fun r hr => by rw [hr]; exact ⟨rfl, lF.rf, c, rfl, rfl⟩)
      rcases mnm_not (by omega) c4 with y | y
      · rw [if_pos y]; exact zS.s rfl
      · by_cases z : w < 0
        · rw [if_pos z]; exact zS.s rfl
        · rw [if_neg z, if_neg (fun t => by
            have a1 := Int32.le_iff_toInt_le.mp t
            have a2 := Int32.le_iff_toInt_le.mp y
            rw [nI_toInt (by omega)] at a2
            have a3 : (3 : Int32).toInt = 3 := by decide
            omega)]
          exact zS.s rfl
  · rw [if_neg c2, if_pos rfl, if_neg (fun z : mnm a (pn p) ∧ mnm w 4 => c2 z.1)]
    exact zS.s ⟨rfl, lF.rf, c, rfl, rfl⟩
