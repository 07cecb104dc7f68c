/-! two finders in one heap: what a call on one leaves alone of the other -/
theorem fixk {h : Zh} {X : Nat} (f : cFix h X) {v : Nat} (h1 : X ≤ v) (h2 : v < X + 94) : zk h v ≠ 2 ∧ zk h v ≠ 4 ∧ (zk h v = 103 → zl h v = 200) ∧ (zk h v = 100 → zl h v ≠ 24) := by
  obtain ⟨f0, ⟨f1, -⟩, ⟨g1, g2⟩, ⟨g3, g4⟩, ⟨g5, -⟩, ⟨⟨k1, k2⟩, ⟨k3, k4⟩, ⟨k5, k6⟩⟩, ⟨k7, k8⟩, ⟨⟨l1, l2⟩, ⟨l3, l4⟩⟩, l5⟩ := f
  by_cases z : v < X + 10
  · rcases (show v = X ∨ v = X + 1 ∨ v = X + 2 ∨ v = X + 3 ∨ v = X + 4 ∨ v = X + 5 ∨ v = X + 6 ∨ v = X + 7 ∨ v = X + 8 ∨ v = X + 9 by omega) with y | y | y | y | y | y | y | y | y | y <;> subst y <;> omega
  · obtain ⟨d, r, hd, hr, e⟩ : ∃ d r, d < 12 ∧ r < 7 ∧ v = X + 10 + 7 * d + r := ⟨(v - X - 10) / 7, (v - X - 10) % 7, by omega, by omega, by omega⟩
    obtain ⟨-, m2, ⟨-, m4, m5⟩, m6⟩ := l5 d hd
    by_cases r0 : r = 0
    · subst r0
      rw [show v = X + 10 + 7 * d by omega]
      omega
    · by_cases r1 : r = 1
      · subst r1
        rw [show v = X + 11 + 7 * d by omega]
        omega
      · obtain ⟨-, n2, n3⟩ := m6 (r - 2) (by omega)
        rw [show X + 12 + 7 * d + (r - 2) = v by omega] at n2 n3
        omega
def gFr (X : Nat) (ca pa : Nat → Nat) (m : Ml) (p : Mp) (h h' : Zh) : Prop := (zn h ≤ zn h' ∧ zs h ≤ zs h') ∧ ∀ v, v < zn h → (zk h' v = zk h v ∧ zl h' v = zl h v) ∧ (¬ (X ≤ v ∧ v < X + 94) → (¬ cSc ca m v → ¬ (zk h v = 100 ∧ zl h v = 64) → zi h' v = zi h v) ∧ ∀ k, ¬ (zk h v = 4 ∧ k = 6 ∧ oP pa p v) → zp h' v k = zp h v k)
section GF
variable {X Y c1 : Nat} {ca pa cb pb : Nat → Nat} {m m2 : Ml} {p p2 : Mp} {h h' : Zh}
theorem gFr.e {S : Nat → Prop} (e : zExt S h h') (hS : ∀ v, S v → X ≤ v ∧ v < X + 94) : gFr X ca pa m p h h' := ⟨e.1, fun v hv => ⟨⟨(e.2 v hv).1, (e.2 v hv).2.1⟩, fun n => by
  have q := (e.2 v hv).2.2 (fun z => n (hS v z))
  exact ⟨fun _ _ => q.1, fun k _ => by rw [q.2]⟩⟩⟩
theorem gFr.c (e : zExt (cSc ca m) h h') (hp : zp h' = zp h) : gFr X ca pa m p h h' := ⟨e.1, fun v hv => ⟨⟨(e.2 v hv).1, (e.2 v hv).2.1⟩, fun _ => ⟨fun n2 _ => ((e.2 v hv).2.2 n2).1, fun k _ => by rw [hp]⟩⟩⟩
theorem gFr.l (e : lF (oP pa p) X h h') : gFr X ca pa m p h h' := ⟨e.1, fun v hv => ⟨⟨(e.2 v hv).1, (e.2 v hv).2.1⟩, fun n => ⟨fun _ n3 => (e.2 v hv).2.2.1 (fun z => n3 ⟨z.1, z.2.1⟩) (by omega) (by omega), (e.2 v hv).2.2.2⟩⟩⟩
theorem gFr.rf : gFr X ca pa m p h h := ⟨⟨Nat.le_refl _, Nat.le_refl _⟩, fun _ _ => ⟨⟨rfl, rfl⟩, fun _ => ⟨fun _ _ => rfl, fun _ _ => rfl⟩⟩⟩
/-- a finder in the heap: its log, its pieces -/
def Fi (h : Zh) (X : Nat) (ca pa : Nat → Nat) (m : Ml) (p : Mp) : Prop := cFix h X ∧ cLog h X ca m ∧ cPc h X pa p ∧ mOK m ∧ pOK p
/-- two finders share no case and no piece -/
def Di (ca cb : Nat → Nat) (m m2 : Ml) (pa pb : Nat → Nat) (p p2 : Mp) : Prop := (∀ i j, i < mnc m → j < mnc m2 → ca i ≠ cb j) ∧ ∀ q r, q < pn p → r < pn p2 → pa q ≠ pb r
theorem Di.sw (D : Di ca cb m m2 pa pb p p2) : Di cb ca m2 m pb pa p2 p := ⟨fun i j hi hj z => D.1 j i hj hi z.symm, fun q r hq hr z => D.2 r q hr hq z.symm⟩
theorem Di.nw {ca' pa' : Nat → Nat} {m' : Ml} {p' : Mp} (D : Di ca cb m m2 pa pb p p2) (E : Fi h Y cb pb m2 p2) (a : pNw (zn h) ca ca' (mnc m) (mnc m')) (b : pNw (zn h) pa pa' (pn p) (pn p')) : Di ca' cb m' m2 pa' pb p' p2 := by
  refine ⟨fun i j hi hj => ?_, fun q r hq hr => ?_⟩
  · by_cases z : i < mnc m
    · rw [a.2.1 i z]; exact D.1 i j z hj
    · have := a.2.2 i (by omega) hi
      have := (E.2.1.2.1 j hj).2.2.1
      omega
  · by_cases z : q < pn p
    · rw [b.2.1 q z]; exact D.2 q r z hr
    · have := b.2.2 q (by omega) hq
      obtain ⟨-, -, ⟨w, n, -⟩, -⟩ := E.2.2.1.2.1 r hr
      have := n.1.2.1
      omega
theorem gFr.keep (d : X + 94 ≤ Y ∨ Y + 94 ≤ X) (g : gFr X ca pa m p h h') (F : Fi h X ca pa m p) (E : Fi h Y cb pb m2 p2) (D : Di ca cb m m2 pa pb p p2) : Fi h' Y cb pb m2 p2 ∧ nul h' pb (pn p2) = nul h pb (pn p2) := by
  obtain ⟨fx, cx, px, -, -⟩ := F
  obtain ⟨f, c, pc, om, ok⟩ := E
  have f0 := f.1
  have le := g.1.1
  have out : ∀ v, Y ≤ v → v < Y + 94 → ¬ (X ≤ v ∧ v < X + 94) := fun v _ _ => by omega
  have outk : ∀ v, (zk h v = 2 ∨ zk h v = 4 ∨ (zk h v = 103 ∧ zl h v ≠ 200) ∨ (zk h v = 100 ∧ zl h v = 24)) → ¬ (X ≤ v ∧ v < X + 94) := fun v hk z => by
    have := fixk fx z.1 z.2
    omega
  have nSc : ∀ v, (zk h v ≠ 2 ∧ ¬ (zk h v = 100 ∧ zl h v = 24)) → ¬ cSc ca m v := by
    rintro v hk ⟨i, hi, z⟩
    obtain ⟨-, -, -, d4, -, d6, d7, -⟩ := cx.2.1 i hi
    rcases z with z | z <;> subst z <;> omega
  have zpY : ∀ v k, Y ≤ v → v < Y + 94 → zp h' v k = zp h v k := fun v k h1 h2 => ((g.2 v (by omega)).2 (out v h1 h2)).2 k (fun z => (fixk f h1 h2).2.1 z.1)
  have e : zExt (fun _ => True) h h' := ⟨g.1, fun v hv => ⟨(g.2 v hv).1.1, (g.2 v hv).1.2, fun n => absurd trivial n⟩⟩
  have f' : cFix h' Y := cFix.on e f (fun v k hv _ _ => by
    rcases hv with rfl | rfl | rfl | ⟨d, hd, rfl⟩ <;> exact zpY _ k (by omega) (by omega)) (fun k => zpY _ k (by omega) (by omega)) (zpY _ 3 (by omega) (by omega))
  have ziY : zi h' Y = zi h Y := ((g.2 Y (by omega)).2 (out Y (by omega) (by omega))).1 (nSc Y (by rw [f.2.1.1]; omega)) (by rw [f.2.1.1]; omega)
  have c' : cLog h' Y cb m2 := by
    refine ⟨by rw [ziY]; exact c.1, fun j hj => ?_, c.2.2⟩
    obtain ⟨d1, d2, d3, d4, d5, d6, d7, d8, d9, d10⟩ := c.2.1 j hj
    have o1 := outk (cb j) (Or.inl d4)
    have o2 := outk (cb j + 1) (Or.inr (Or.inr (Or.inr ⟨d6, d7⟩)))
    have s1 : ¬ cSc ca m (cb j) := by
      rintro ⟨i, hi, z⟩
      rcases z with z | z
      · exact D.1 i j hi hj z.symm
      · have := (cx.2.1 i hi).2.2.2.2.2.1
        rw [← z, d4] at this
        omega
    have s2 : ¬ cSc ca m (cb j + 1) := by
      rintro ⟨i, hi, z⟩
      rcases z with z | z
      · have := (cx.2.1 i hi).2.2.2.1
        rw [← z, d6] at this
        omega
      · exact D.1 i j hi hj (by omega)
    have g1 := g.2 (cb j) (by omega)
    have g2 := g.2 (cb j + 1) d3
    have i1 := (g1.2 o1).1 s1 (by rw [d4]; omega)
    have i2 := (g2.2 o2).1 s2 (by rw [d7]; omega)
    exact ⟨(zpY (Y + 1) j (by omega) (by omega)).trans d1, d2, by omega, g1.1.1.trans d4, by rw [(g1.2 o1).2 0 (by omega)]; exact d5, g2.1.1.trans d6, g2.1.2.trans d7, by rw [i1]; exact d8, by rw [i1]; exact d9, fun i w hi hw => by rw [i2]; exact d10 i w hi hw⟩
  have six : ∀ r, r < pn p2 → (∀ k, zp h' (pb r) k = zp h (pb r) k) ∧ zi h' (pb r) = zi h (pb r) := fun r hr => by
    obtain ⟨-, -, ⟨w, n, -⟩, -⟩ := pc.2.1 r hr
    have k4 := n.1.2.2.1
    have o := outk (pb r) (Or.inr (Or.inl k4))
    have gr := (g.2 (pb r) n.1.2.1).2 o
    exact ⟨fun k => gr.2 k (fun z => by
      obtain ⟨q, hq, e⟩ := z.2.2
      exact D.2 q r hq hr e.symm), gr.1 (nSc _ (by rw [k4]; omega)) (by rw [k4]; omega)⟩
  have ps : cPs h' Y pb p2 := by
    refine ⟨fun q hq => ?_, fun q r d hq hr e1 e2 => pc.2.2 q r d hq hr (by rw [← (six q hq).1 6]; exact e1) (by rw [← (six r hr).1 6]; exact e2)⟩
    obtain ⟨c1, c2, ⟨w, n, a⟩, c4⟩ := pc.2.1 q hq
    have l60 := plen_60 ok hq
    have lw := n.2.2.2.2
    rw [pT_len ok hq] at lw
    have ow := outk w (Or.inr (Or.inr (Or.inl ⟨n.2.2.2.1, by omega⟩)))
    have gw := g.2 w n.2.2.1
    have wp : ∀ k, zp h' w k = zp h w k := fun k => (gw.2 ow).2 k (fun z => by rw [n.2.2.2.1] at z; omega)
    have gq := g.2 (pb q) n.1.2.1
    obtain ⟨s1, s2⟩ := six q hq
    refine ⟨(zpY (Y + 2) q (by omega) (by omega)).trans c1, by rw [s2]; exact c2, ⟨w, ⟨⟨n.1.1, Nat.lt_of_lt_of_le n.1.2.1 le, gq.1.1.trans n.1.2.2.1, by rw [s2]; exact n.1.2.2.2.1, by rw [s2]; exact n.1.2.2.2.2.1, (s1 2).trans n.1.2.2.2.2.2.1, by rw [s2]; exact n.1.2.2.2.2.2.2.1, by rw [s2]; exact n.1.2.2.2.2.2.2.2⟩, n.2.1, Nat.lt_of_lt_of_le n.2.2.1 le, gw.1.1.trans n.2.2.2.1, gw.1.2.trans n.2.2.2.2⟩, fun j hj => by rw [wp]; exact a j hj⟩, ?_⟩
    rw [s1 6]
    rcases c4 with c4 | ⟨d, d1, d2, d3, d4, d5⟩
    · exact Or.inl c4
    · have gd := (g.2 d d3).1
      exact Or.inr ⟨d, d1, d2, Nat.lt_of_lt_of_le d3 le, gd.1.trans d4, gd.2.trans d5⟩
  exact ⟨⟨f', c', ⟨by rw [ziY]; exact pc.1, ps⟩, om, ok⟩, nul_same (pn p2) (fun r hr => (six r hr).1 6)⟩
end GF
/-! a call on one finder: what it answers, what it leaves, what it costs -/
theorem nul_cg {h h' : Zh} {pa pa' : Nat → Nat} : ∀ n, (∀ q, q < n → zp h' (pa' q) 6 = zp h (pa q) 6) → nul h' pa' n = nul h pa n
  | 0, _ => rfl
  | n + 1, e => by
    show nul h' pa' n + @ite _ (zp h' (pa' n) 6 = none) (Classical.propDecidable _) 1 0 = nul h pa n + @ite _ (zp h (pa n) 6 = none) (Classical.propDecidable _) 1 0
    rw [nul_cg n (fun q hq => e q (by omega)), e n (by omega)]
theorem nul_up (h : Zh) (pa : Nat → Nat) (n : Nat) : ∀ d, nul h pa (n + d) ≤ nul h pa n + d
  | 0 => Nat.le_refl _
  | d + 1 => by
    have := nul_up h pa n d
    show nul h pa (n + d) + @ite _ (zp h (pa (n + d)) 6 = none) (Classical.propDecidable _) 1 0 ≤ _
    split <;> omega
/-- the rows of costs that may still be made -/
noncomputable def pot (h : Zh) (pa : Nat → Nat) (p : Mp) : Nat := nul h pa (pn p) + (200 - pn p)
theorem pot_cg {h h' : Zh} {pa pa' : Nat → Nat} {p p' : Mp} (hn : pn p ≤ pn p') (h2 : pn p' ≤ 200) (e : ∀ q, q < pn p → zp h' (pa' q) 6 = zp h (pa q) 6) : pot h' pa' p' ≤ pot h pa p := by
  have a := nul_up h' pa' (pn p) (pn p' - pn p)
  rw [Nat.add_sub_of_le hn, nul_cg (pn p) e] at a
  unfold pot
  omega
def OpW (X : Nat) (h : Zh) (o : Option (Int32 × Zh)) (v : Int32) (ca pa : Nat → Nat) (m : Ml) (p : Mp) (m' : Ml) (p' : Mp) (a b : Nat) : Prop := ∃ h' ca' pa', o = some (v, h') ∧ gFr X ca pa m p h h' ∧ Fi h' X ca' pa' m' p' ∧ (pNw (zn h) ca ca' (mnc m) (mnc m') ∧ pNw (zn h) pa pa' (pn p) (pn p')) ∧ zn h' + pot h' pa' p' ≤ zn h + pot h pa p + a ∧ zs h' + 64 * pot h' pa' p' ≤ zs h + 64 * pot h pa p + b
section OW
variable {X : Nat} {h : Zh} {ca pa : Nat → Nat} {m : Ml} {p : Mp} {o : Option (Int32 × Zh)} {v : Int32}
theorem ow_log {m' : Ml} (F : Fi h X ca pa m p) (om' : mOK m') (hm : mnc m' = mnc m) (q : ∃ h', o = some (v, h') ∧ cLog h' X ca m' ∧ zExt (cSc ca m) h h' ∧ zn h' = zn h ∧ zs h' = zs h ∧ zp h' = zp h) : OpW X h o v ca pa m p m' p 0 0 := by
  obtain ⟨f, c, pc, om, ok⟩ := F
  obtain ⟨h', e, c', ex, n, s, zp'⟩ := q
  have f0 := f.1
  have out : ∀ u, u < X + 94 → ¬ cSc ca m u := fun u hu z => by
    obtain ⟨k, hk, z⟩ := z
    have := (c.2.1 k hk).2.1
    omega
  have X3 : zi h' X = zi h X := ((ex.2 X (by omega)).2.2 (out X (by omega))).1
  have f' : cFix h' X := cFix.ext ex f (fun u hu hs k => by rw [zp'])
  have pc' : cPc h' X pa p := pc.ext ex (by rw [X3]) (fun k => by rw [zp']) (fun u h1 h2 hk z => by
    obtain ⟨k, hk2, z⟩ := z
    obtain ⟨-, -, -, d4, -, d6, -⟩ := c.2.1 k hk2
    rcases z with rfl | rfl
    · rw [d4] at hk; omega
    · rw [d6] at hk; omega)
  have pe : pot h' pa p ≤ pot h pa p := pot_cg (Nat.le_refl _) ok.1 (fun q _ => by rw [zp'])
  exact ⟨h', ca, pa, e, gFr.c ex zp', ⟨f', c', pc', om', ok⟩, ⟨by rw [hm]; exact pNw.rf, pNw.rf⟩, by omega, by omega⟩
theorem ow_open (F : Fi h X ca pa m p) : OpW X h (fX5_open h (some X)) (mOpen m).1 ca pa m p (mOpen m).2 p 2 27 := by
  obtain ⟨f, c, pc, om, ok⟩ := F
  obtain ⟨h', ca', e, c', ex, n, s, pX, iX, nw⟩ := copen_eq f c om
  have f0 := f.1
  have X2 : zp h' (X + 2) = zp h (X + 2) := ((ex.2 (X + 2) (by omega)).2.2 (fun z => z.elim (by omega) (by omega))).2
  have f' : cFix h' X := cFix.ext ex f (fun u hu hs k => by
    rcases hs with z | z
    · subst z; rw [pX]
    · exfalso
      rcases hu with y | y | y | ⟨d, _, y⟩ <;> omega)
  have pc' : cPc h' X pa p := pc.ext ex (iX 3 (by omega)) (fun k => by rw [X2]) (fun u h1 h2 _ z => z.elim (by omega) (by omega))
  have pe : pot h' pa p ≤ pot h pa p := pot_cg (Nat.le_refl _) ok.1 (fun q hq => by
    obtain ⟨-, -, ⟨w, nd, -⟩, -⟩ := pc.2.1 q hq
    have n1 : X + 94 ≤ pa q := nd.1.1
    rw [((ex.2 (pa q) nd.1.2.1).2.2 (fun z => z.elim (by omega) (by omega))).2])
  exact ⟨h', ca', pa, e, gFr.e ex (fun u z => z.elim (fun z => by omega) (fun z => by omega)), ⟨f', c', pc', mOK_open om, ok⟩, ⟨nw, pNw.rf⟩, by omega, by omega⟩
theorem ow_pf {p' : Mp} {a b : Nat} (F : Fi h X ca pa m p) (ok' : pOK p') (q : ∃ h', o = some (v, h') ∧ zPf X h h' ∧ (zn h' ≤ zn h + a ∧ zs h' ≤ zs h + b) ∧ ∃ pa', cPw h h' X pa pa' p p') : OpW X h o v ca pa m p m p' a b := by
  obtain ⟨f, c, pc, om, ok⟩ := F
  obtain ⟨h', e, z, ⟨n, s⟩, pa', pc', nw⟩ := q
  have f0 := f.1
  obtain ⟨f', c'⟩ := z.on f c
  have pe : pot h' pa' p' ≤ pot h pa p := pot_cg nw.1 ok'.1 (fun q hq => by
    obtain ⟨-, -, ⟨w, nd, -⟩, -⟩ := pc.2.1 q hq
    have n1 : X + 94 ≤ pa q := nd.1.1
    rw [nw.2.1 q hq, ((z.1.2 (pa q) nd.1.2.1).2.2 (fun z => z.elim (by omega) (by omega))).2])
  exact ⟨h', ca, pa', e, gFr.e z.1 (fun u z => z.elim (fun z => by omega) (fun z => by omega)), ⟨f', c', pc', om, ok'⟩, ⟨pNw.rf, nw⟩, by omega, by omega⟩
theorem ow_lay (F : Fi h X ca pa m p) (q : zS o (fun r => r.1 = v ∧ lF (oP pa p) X h r.2 ∧ cPs r.2 X pa p ∧ wC h r.2 pa (pn p))) : OpW X h o v ca pa m p m p 0 0 := by
  obtain ⟨f, c, pc, om, ok⟩ := F
  obtain ⟨⟨v', h'⟩, e, rfl, l, ps, w⟩ := q
  have f0 := f.1
  dsimp only at l ps w
  have X3 : zi h' X = zi h X := (l.2 X (by omega)).2.2.1 (by rw [f.2.1.1]; omega) (by omega) (by omega)
  have w1 := w.1
  have w2 := w.2
  refine ⟨h', ca, pa, e, gFr.l l, ⟨l.fix f, l.log f c, ⟨by rw [X3]; exact pc.1, ps⟩, om, ok⟩, ⟨pNw.rf, pNw.rf⟩, ?_, ?_⟩
  · unfold pot; omega
  · unfold pot; omega
theorem ow_id (F : Fi h X ca pa m p) : OpW X h (some (v, h)) v ca pa m p m p 0 0 := ⟨h, ca, pa, rfl, gFr.rf, F, ⟨pNw.rf, pNw.rf⟩, Nat.le_refl _, Nat.le_refl _⟩
theorem OpW.up {m' : Ml} {p' : Mp} {a b a' b' : Nat} (O : OpW X h o v ca pa m p m' p' a b) (ha : a ≤ a') (hb : b ≤ b') : OpW X h o v ca pa m p m' p' a' b' := by
  obtain ⟨h', ca', pa', e, g, F', N, n, s⟩ := O
  exact ⟨h', ca', pa', e, g, F', N, by omega, by omega⟩
theorem gFr.tr {h1 h2 : Zh} {ca1 pa1 : Nat → Nat} {m1 : Ml} {p1 : Mp} (F1 : Fi h1 X ca1 pa1 m1 p1) (g : gFr X ca pa m p h h1) (g1 : gFr X ca1 pa1 m1 p1 h1 h2) (N : pNw (zn h) ca ca1 (mnc m) (mnc m1) ∧ pNw (zn h) pa pa1 (pn p) (pn p1)) : gFr X ca pa m p h h2 := by
  refine ⟨⟨Nat.le_trans g.1.1 g1.1.1, Nat.le_trans g.1.2 g1.1.2⟩, fun v hv => ?_⟩
  obtain ⟨⟨a1, a2⟩, a3⟩ := g.2 v hv
  obtain ⟨⟨b1, b2⟩, b3⟩ := g1.2 v (Nat.lt_of_lt_of_le hv g.1.1)
  refine ⟨⟨b1.trans a1, b2.trans a2⟩, fun n => ?_⟩
  obtain ⟨a4, a5⟩ := a3 n
  obtain ⟨b4, b5⟩ := b3 n
  refine ⟨fun n1 n2 => (b4 (fun z => n1 ?_) (by rw [a1, a2]; exact n2)).trans (a4 n1 n2), fun k n1 => (b5 k (fun z => n1 ⟨by rw [← a1]; exact z.1, z.2.1, ?_⟩)).trans (a5 k n1)⟩
  · obtain ⟨i, hi, z⟩ := z
    by_cases y : i < mnc m
    · rw [N.1.2.1 i y] at z; exact ⟨i, y, z⟩
    · have := N.1.2.2 i (by omega) hi
      omega
  · obtain ⟨q, hq, z⟩ := z.2.2
    by_cases y : q < pn p
    · rw [N.2.2.1 q y] at z; exact ⟨q, y, z⟩
    · have := N.2.2.2 q (by omega) hq
      omega
theorem pNw.tr {n n1 : Nat} {a b c : Nat} {f f1 f2 : Nat → Nat} (hn : n ≤ n1) (x : pNw n f f1 a b) (y : pNw n1 f1 f2 b c) : pNw n f f2 a c := ⟨Nat.le_trans x.1 y.1, fun q hq => (y.2.1 q (Nat.lt_of_lt_of_le hq x.1)).trans (x.2.1 q hq), fun q h1 h2 => by
  by_cases z : q < b
  · rw [y.2.1 q z]; exact x.2.2 q h1 z
  · exact Nat.le_trans hn (y.2.2 q (by omega) h2)⟩
/-- one call behind another -/
theorem OpW.b {G : Int32 × Zh → Option (Int32 × Zh)} {v2 : Int32} {m1 m2 : Ml} {p1 p2 : Mp} {a b a2 b2 : Nat} (O : OpW X h o v ca pa m p m1 p1 a b) (k : ∀ h1 ca1 pa1, Fi h1 X ca1 pa1 m1 p1 → (∀ u, u < zn h → u < zn h1 ∧ zk h1 u = zk h u) → OpW X h1 (G (v, h1)) v2 ca1 pa1 m1 p1 m2 p2 a2 b2) : OpW X h (o.bind G) v2 ca pa m p m2 p2 (a + a2) (b + b2) := by
  obtain ⟨h1, ca1, pa1, e, g, F1, N, n, s⟩ := O
  obtain ⟨h2, ca2, pa2, e2, g2, F2, N2, n2, s2⟩ := k h1 ca1 pa1 F1 (fun u hu => ⟨Nat.lt_of_lt_of_le hu g.1.1, (g.2 u hu).1.1⟩)
  refine ⟨h2, ca2, pa2, by rw [e]; exact e2, gFr.tr F1 g g2 N, F2, ⟨pNw.tr g.1.1 N.1 N2.1, pNw.tr g.1.1 N.2 N2.2⟩, by omega, by omega⟩
end OW
