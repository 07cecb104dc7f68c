/-! weighing a piece of the store -/
def oP (pa : Nat → Nat) (p : Mp) (v : Nat) : Prop := ∃ q, q < pn p ∧ v = pa q
def wF (O : Nat → Prop) (X : Nat) (h h' : Zh) : Prop := (zn h ≤ zn h' ∧ zs h ≤ zs h') ∧ ∀ v, v < zn h → zk h' v = zk h v ∧ zl h' v = zl h v ∧ (¬ (zk h v = 100 ∧ zl h v = 64 ∧ (v < X + 94 ∨ X + 94 ≤ v)) → zi h' v = zi h v) ∧ ∀ k, ¬ (zk h v = 4 ∧ k = 6 ∧ O v) → zp h' v k = zp h v k
theorem wF.rf {O : Nat → Prop} {X : Nat} {h : Zh} : wF O X h h := ⟨⟨Nat.le_refl _, Nat.le_refl _⟩, fun v _ => ⟨rfl, rfl, fun _ => rfl, fun _ _ => rfl⟩⟩
theorem wF.tr {O : Nat → Prop} {X : Nat} {h h1 h2 : Zh} (a : wF O X h h1) (b : wF O X h1 h2) : wF O X h h2 := by
  refine ⟨⟨Nat.le_trans a.1.1 b.1.1, Nat.le_trans a.1.2 b.1.2⟩, fun v hv => ?_⟩
  obtain ⟨a1, a2, a3, a4⟩ := a.2 v hv
  obtain ⟨b1, b2, b3, b4⟩ := b.2 v (Nat.lt_of_lt_of_le hv a.1.1)
  exact ⟨b1.trans a1, b2.trans a2, fun n => (b3 (by rw [a1, a2]; exact n)).trans (a3 n), fun k n => (b4 k (by rw [a1]; exact n)).trans (a4 k n)⟩
theorem wF.a3 {O : Nat → Prop} {a X : Nat} {h h' : Zh} (o : a3 a (X + 3) h h') (g : aG h a) (gb : aB X a) (g2 : aG h (X + 3 + 2)) (g3 : aG h (X + 3 + 3)) : wF O X h h' := by
  refine ⟨⟨Nat.le_of_eq o.2.1.symm, Nat.le_of_eq o.2.2.1.symm⟩, fun v hv => ?_⟩
  obtain ⟨e1, e2, e3⟩ := o.1.2 v hv
  refine ⟨e1, e2, fun n => (e3 (fun z => ?_)).1, fun k _ => by rw [o.2.2.2]⟩
  rcases z with z | z | z
  · subst z; exact n ⟨g.2.1, g.2.2, Or.inr gb⟩
  · subst z; exact n ⟨g2.2.1, g2.2.2, Or.inl (by omega)⟩
  · subst z; exact n ⟨g3.2.1, g3.2.2, Or.inl (by omega)⟩
theorem wF.fix {O : Nat → Prop} {h h' : Zh} {X : Nat} (w : wF O X h h') (f : cFix h X) : cFix h' X := by
  have e : zExt (fun u => u = u) h h' := ⟨w.1, fun v hv => ⟨(w.2 v hv).1, (w.2 v hv).2.1, fun n => absurd rfl n⟩⟩
  have f0 := f.1
  have key : ∀ v, v < zn h → zk h v ≠ 4 → ∀ k, zp h' v k = zp h v k := fun v hv hk k => (w.2 v hv).2.2.2 k (fun z => hk z.1)
  refine cFix.on e f (fun v k hv _ _ => ?_) (fun k => key _ (by omega) (by rw [f.2.2.2.2.2.2.1.1]; omega) k) (key _ (by omega) (by rw [f.2.2.2.2.1.1]; omega) 3)
  rcases hv with y | y | y | ⟨d, hd, y⟩
  · subst y; exact key _ (by omega) (by rw [f.2.1.1]; omega) k
  · subst y; exact key _ (by omega) (by rw [f.2.2.2.2.1.1]; omega) k
  · subst y; exact key _ (by omega) (by rw [f.2.2.2.2.2.2.1.1]; omega) k
  · subst y; exact key _ (by omega) (by rw [(f.2.2.2.2.2.2.2.2 d hd).2.1]; omega) k
theorem wF.log {O : Nat → Prop} {h h' : Zh} {X : Nat} {ca : Nat → Nat} {m : Ml} (w : wF O X h h') (f : cFix h X) (c : cLog h X ca m) : cLog h' X ca m := by
  have f0 := f.1
  obtain ⟨c1, c2, c3⟩ := c
  refine ⟨?_, fun k hk => ?_, c3⟩
  · rw [(w.2 X (by omega)).2.2.1 (by rw [f.2.1.1]; omega)]; exact c1
  · obtain ⟨d1, d2, d3, d4, d5, d6, d7, d8, d9, d10⟩ := c2 k hk
    obtain ⟨e1, e2, e3, e4⟩ := w.2 (ca k) (by omega)
    obtain ⟨g1, g2, g3, g4⟩ := w.2 (ca k + 1) d3
    have i1 := e3 (by rw [d4]; omega)
    have i2 := g3 (by rw [d6, d7]; omega)
    refine ⟨?_, d2, Nat.lt_of_lt_of_le d3 w.1.1, e1.trans d4, ?_, g1.trans d6, g2.trans d7, by rw [i1]; exact d8, by rw [i1]; exact d9, fun i w hi hw => by rw [i2]; exact d10 i w hi hw⟩
    · rw [(w.2 (X + 1) (by omega)).2.2.2 k (by rw [f.2.2.1.1]; omega)]; exact d1
    · rw [e4 0 (by omega)]; exact d5
theorem wF.Y {O : Nat → Prop} {h h' : Zh} {X Y n : Nat} {nm : Nat → Int32} (w : wF O X h h') (L : LY h Y n nm) : LY h' Y n nm := by
  obtain ⟨⟨a1, a2, a3, a4⟩, ⟨b1, b2, b3, b4⟩, ⟨c1, c2, c3, c4⟩, d1, d2, d3, d4⟩ := L
  obtain ⟨e1, e2, e3, e4⟩ := w.2 Y (by omega)
  obtain ⟨g1, g2, g3, g4⟩ := w.2 (Y + 1) (by omega)
  have i0 := e3 (by omega)
  have i1 := g3 (by omega)
  have w2 := w.2 (Y + 2) (by omega)
  have w3 := w.2 (Y + 3) (by omega)
  have l1 := w.1.1
  refine ⟨⟨by omega, e1.trans a2, by rw [i0]; exact a3, by rw [i0]; exact a4⟩, ⟨by rw [e4 0 (by omega)]; exact b1, g1.trans b2, g2.trans b3, fun i hi => by rw [i1]; exact b4 i hi⟩, ⟨by rw [e4 3 (by omega)]; exact c1, by omega, w2.1.trans c3, w2.2.1.trans c4⟩, by rw [e4 4 (by omega)]; exact d1, by omega, w3.1.trans d3, w3.2.1.trans d4⟩
/-- how many pieces have no row of costs yet -/
noncomputable def nul (h : Zh) (pa : Nat → Nat) : Nat → Nat
  | 0 => 0
  | n + 1 => nul h pa n + @ite _ (zp h (pa n) 6 = none) (Classical.propDecidable _) 1 0
theorem nul_same {h h' : Zh} {pa : Nat → Nat} : ∀ n, (∀ q, q < n → zp h' (pa q) 6 = zp h (pa q) 6) → nul h' pa n = nul h pa n
  | 0, _ => rfl
  | n + 1, e => by
    show nul h' pa n + @ite _ (zp h' (pa n) 6 = none) (Classical.propDecidable _) 1 0 = nul h pa n + @ite _ (zp h (pa n) 6 = none) (Classical.propDecidable _) 1 0
    rw [nul_same n (fun q hq => e q (by omega)), e n (by omega)]
theorem nul_one {h h' : Zh} {pa : Nat → Nat} {q : Nat} (h1 : zp h (pa q) 6 = none) (h2 : zp h' (pa q) 6 ≠ none) : ∀ n, q < n → (∀ r, r < n → r ≠ q → zp h' (pa r) 6 = zp h (pa r) 6) → nul h' pa n + 1 = nul h pa n
  | 0, h, _ => absurd h (Nat.not_lt_zero _)
  | n + 1, hq, e => by
    show nul h' pa n + @ite _ (zp h' (pa n) 6 = none) (Classical.propDecidable _) 1 0 + 1 = nul h pa n + @ite _ (zp h (pa n) 6 = none) (Classical.propDecidable _) 1 0
    by_cases z : n = q
    · subst z
      rw [if_neg h2, if_pos h1, nul_same n (fun r hr => e r (by omega) (by omega))]
    · rw [e n (by omega) z]
      have := nul_one h1 h2 n (by omega) (fun r hr hn => e r (by omega) hn)
      omega
def wC (h h' : Zh) (pa : Nat → Nat) (n : Nat) : Prop := zn h' + nul h' pa n = zn h + nul h pa n ∧ zs h' + 64 * nul h' pa n = zs h + 64 * nul h pa n
theorem wC.tr {h h1 h2 : Zh} {pa : Nat → Nat} {n : Nat} (a : wC h h1 pa n) (b : wC h1 h2 pa n) : wC h h2 pa n := ⟨b.1.trans a.1, b.2.trans a.2⟩
/-- pieces after weighing -/
theorem cPs.wF {O : Nat → Prop} {h h' : Zh} {X : Nat} {pa : Nat → Nat} {p : Mp} (w : wF O X h h') (f : cFix h X) (c : cPs h X pa p) (hc : ∀ q, q < pn p → zp h' (pa q) 6 = none ∨ ∃ c, zp h' (pa q) 6 = some c ∧ aB X c ∧ c < zn h' ∧ zk h' c = 100 ∧ zl h' c = 64)
    (hi : ∀ q r c, q < pn p → r < pn p → zp h' (pa q) 6 = some c → zp h' (pa r) 6 = some c → q = r) : cPs h' X pa p := by
  have f0 := f.1
  refine ⟨fun q hq => ?_, hi⟩
  obtain ⟨c1, c2, ⟨v, n, a⟩, -⟩ := c.1 q hq
  obtain ⟨e1, e2, e3, e4⟩ := w.2 (pa q) n.1.2.1
  obtain ⟨g1, g2, g3, g4⟩ := w.2 v n.2.2.1
  have i1 := e3 (by rw [n.1.2.2.1]; omega)
  have gp : ∀ k, zp h' v k = zp h v k := fun k => g4 k (by rw [n.2.2.2.1]; omega)
  refine ⟨?_, by rw [i1]; exact c2, ⟨v, ⟨⟨n.1.1, Nat.lt_of_lt_of_le n.1.2.1 w.1.1, e1.trans n.1.2.2.1, ?_, ?_, ?_, ?_, ?_⟩, n.2.1, Nat.lt_of_lt_of_le n.2.2.1 w.1.1, g1.trans n.2.2.2.1, g2.trans n.2.2.2.2⟩, fun j hj => by rw [gp]; exact a j hj⟩, hc q hq⟩
  · rw [(w.2 (X + 2) (by omega)).2.2.2 q (by rw [f.2.2.2.1.1]; omega)]; exact c1
  · rw [i1]; exact n.1.2.2.2.1
  · rw [i1]; exact n.1.2.2.2.2.1
  · rw [e4 2 (by omega)]; exact n.1.2.2.2.2.2.1
  · rw [i1]; exact n.1.2.2.2.2.2.2.1
  · rw [i1]; exact n.1.2.2.2.2.2.2.2
theorem ccostq {h : Zh} {X : Nat} {pa : Nat → Nat} {p : Mp} (f : cFix h X) (c : cPs h X pa p) (ok : pOK p) {q : Nat} (hq : q < pn p) : zS (fX1_costsOf h (some (pa q))) (fun r => ∃ a, r.1 = some a ∧ zp r.2 (pa q) 6 = some a ∧ aG r.2 a ∧ aB X a ∧ wF (oP pa p) X h r.2 ∧ cPs r.2 X pa p ∧ wC h r.2 pa (pn p) ∧ (∀ u, u < zn h → zi r.2 u = zi h u) ∧ ∀ r' c, r' < pn p → zp h (pa r') 6 = some c → zp r.2 (pa r') 6 = some c) := by
  have f0 := f.1
  obtain ⟨c1, c2, ⟨v, n, a⟩, c4⟩ := c.1 q hq
  have nq : pa q < zn h := n.1.2.1
  have kq : zk h (pa q) = 4 := n.1.2.2.1
  rcases c4 with c4 | ⟨b, b1, b2, b3, b4, b5⟩
  · unfold fX1_costsOf
    rw [zfP_v (ci := 3) nq kq, Option.bind_some, c4, if_pos rfl, show (64 : Int32) = nI 64 from rfl, zmA_v (by omega), Option.bind_some]
    have e1 : zExt (fun u => u = pa q) h (zsetP (znew h 100 64 64) (pa q) 6 (some (zn h))) := zExt.nw.tr (zExt.sP (Or.inl rfl))
    have kk : zk (znew h 100 64 64) (pa q) = 4 := by rw [zk_nw (by omega)]; exact kq
    refine zS.e (show (zgP (znew h (100 + 0) 64 64) (some (pa q)) 3 6 (some (zn h))).bind _ = some (zsetP (znew h 100 64 64) (pa q) 6 (some (zn h))) by rw [zgP_v (ci := 3) (by show pa q < zn h + 1; omega) kk]; rfl) ?_
    have e6 : zp (zsetP (znew h 100 64 64) (pa q) 6 (some (zn h))) (pa q) 6 = some (zn h) := by rw [zp_sP, u2_s]
    rw [zfP_v (ci := 3) (by show pa q < zn h + 1; omega) (by exact kk), e6, Option.bind_some]
    have other : ∀ u k, u < zn h → ¬ (u = pa q ∧ k = 6) → zp (zsetP (znew h 100 64 64) (pa q) 6 (some (zn h))) u k = zp h u k := fun u k hu hn => by
      rw [zp_sP, u2_n hn, zp_nw (by omega)]
    have ints : ∀ u, u < zn h → zi (zsetP (znew h 100 64 64) (pa q) 6 (some (zn h))) u = zi h u := fun u hu => by
      rw [zi_sP, zi_nw (by omega)]
    have w : wF (oP pa p) X h (zsetP (znew h 100 64 64) (pa q) 6 (some (zn h))) := by
      refine ⟨⟨Nat.le_succ _, Nat.le_add_right _ _⟩, fun u hu => ⟨(e1.2 u hu).1, (e1.2 u hu).2.1, fun _ => ints u hu, fun k hk => other u k hu (fun z => hk ⟨by rw [z.1]; exact kq, z.2, q, hq, z.1⟩)⟩⟩
    have six : ∀ r, r < pn p → r ≠ q → zp (zsetP (znew h 100 64 64) (pa q) 6 (some (zn h))) (pa r) 6 = zp h (pa r) 6 := fun r hr hn => by
      obtain ⟨-, -, ⟨v', n', -⟩, -⟩ := c.1 r hr
      exact other _ 6 n'.1.2.1 (fun z => hn (c.inj ok hr hq z.1))
    have ga : aG (zsetP (znew h 100 64 64) (pa q) 6 (some (zn h))) (zn h) := ⟨Nat.lt_succ_self _, znew_k h 100 64 64, if_pos rfl⟩
    have cps : cPs (zsetP (znew h 100 64 64) (pa q) 6 (some (zn h))) X pa p := by
      refine c.wF w f (fun r hr => ?_) (fun r r' d hr hr' d1 d2 => ?_)
      · by_cases z : r = q
        · subst z
          exact Or.inr ⟨zn h, e6, f0, ga.1, ga.2.1, ga.2.2⟩
        · rw [six r hr z]
          obtain ⟨-, -, -, x4⟩ := c.1 r hr
          rcases x4 with x4 | ⟨d, d1, d2, d3, d4, d5⟩
          · exact Or.inl x4
          · exact Or.inr ⟨d, d1, d2, Nat.lt_succ_of_lt d3, (e1.2 d d3).1.trans d4, (e1.2 d d3).2.1.trans d5⟩
      · have old : ∀ r d, r < pn p → zp h (pa r) 6 = some d → d < zn h := fun r d hr e => by
          obtain ⟨-, -, -, x4⟩ := c.1 r hr
          rcases x4 with x4 | ⟨d', y1, y2, y3, -⟩
          · rw [x4] at e; cases e
          · rw [y1] at e; cases e; exact y3
        by_cases z : r = q
        · by_cases z' : r' = q
          · omega
          · subst z
            rw [e6] at d1
            rw [six r' hr' z'] at d2
            have := old r' d hr' d2
            cases d1
            omega
        · by_cases z' : r' = q
          · subst z'
            rw [e6] at d2
            rw [six r hr z] at d1
            have := old r d hr d1
            cases d2
            omega
          · rw [six r hr z] at d1
            rw [six r' hr' z'] at d2
            exact c.2 r r' d hr hr' d1 d2
    have cnt := nul_one (h' := zsetP (znew h 100 64 64) (pa q) 6 (some (zn h))) (pa := pa) c4 (by rw [e6]; intro z; cases z) (pn p) hq six
    refine zS.s ⟨zn h, rfl, e6, ga, f0, w, cps, ⟨?_, ?_⟩, ints, fun r' d hr' e => ?_⟩
    · show zn h + 1 + nul (zsetP (znew h 100 64 64) (pa q) 6 (some (zn h))) pa (pn p) = _
      omega
    · show zs h + 64 + 64 * nul (zsetP (znew h 100 64 64) (pa q) 6 (some (zn h))) pa (pn p) = _
      omega
    · rw [six r' hr' (fun z => by rw [z, c4] at e; cases e)]; exact e
  · exact ⟨_, ccost_s nq kq b1, b, rfl, b1, ⟨b3, b4, b5⟩, b2, wF.rf, c, ⟨rfl, rfl⟩, fun _ _ => rfl, fun _ _ _ e => e⟩
/-- a piece's row of costs holds what it should -/
def rt (h : Zh) (pa : Nat → Nat) (p : Mp) (n : Nat) (nm : Nat → Int32) (q : Nat) : Prop := ∃ a, zp h (pa q) 6 = some a ∧ aH h a n (tCost 1000000 n nm (pT p q))
theorem cPs.cost {h : Zh} {X : Nat} {pa : Nat → Nat} {p : Mp} (c : cPs h X pa p) {q a : Nat} (hq : q < pn p) (e : zp h (pa q) 6 = some a) : aG h a ∧ aB X a := by
  obtain ⟨-, -, -, x4⟩ := c.1 q hq
  rcases x4 with x4 | ⟨d', y1, y2, y3, y4, y5⟩
  · rw [x4] at e; cases e
  · rw [y1] at e; cases e; exact ⟨⟨y3, y4, y5⟩, y2⟩
abbrev wGood (h : Zh) (X : Nat) (pa : Nat → Nat) (p : Mp) (n : Nat) (nm : Nat → Int32) (h' : Zh) : Prop := wF (oP pa p) X h h' ∧ cPs h' X pa p ∧ wC h h' pa (pn p) ∧ ∀ r, r < pn p → rt h pa p n nm r → rt h' pa p n nm r
theorem wGood.tr {h h1 h2 : Zh} {X : Nat} {pa : Nat → Nat} {p : Mp} {n : Nat} {nm : Nat → Int32} (a : wGood h X pa p n nm h1) (b : wGood h1 X pa p n nm h2) : wGood h X pa p n nm h2 := ⟨a.1.tr b.1, b.2.1, a.2.2.1.tr b.2.2.1, fun r hr z => b.2.2.2 r hr (a.2.2.2 r hr z)⟩
theorem cweigh_eq {X : Nat} {pa : Nat → Nat} {p : Mp} {n : Nat} {nm : Nat → Int32} (ok : pOK p) (hn : n ≤ 6) (hnm : ∀ i, i < n → mnm (nm i) 12) : ∀ (fu d q : Nat) (h : Zh), q < pn p → tHt (pT p q) < fu → d + tHt (pT p q) ≤ 40 → cFix h X → cPs h X pa p → LY h (X + 3) n nm →
    zS (fX1_weigh fu h (some (X + 3)) (some (pa q)) (nI d)) (fun h' => wGood h X pa p n nm h' ∧ rt h' pa p n nm q) := by
  intro fu
  induction fu with
  | zero => intro d q h _ hf; omega
  | succ fu ih =>
    intro d q h hq hf hd f c L
    have f0 := f.1
    have g := (pT_OK ok q hq)
    have lab := tG_lab _ g.1
    obtain ⟨-, c2, ⟨w, nd, a⟩, -⟩ := c.1 q hq
    obtain ⟨⟨n1, n2, n3, n4, n5, n6, n7, n8⟩, m1, m2, m3, m4⟩ := nd
    have el := pT_len ok hq
    have l60 := plen_60 ok hq
    show zS (fX1_weighB (fX1_weigh fu) h (some (X + 3)) (some (pa q)) (nI d)) _
    unfold fX1_weighB
    rw [zfP_v (ci := 3) n2 n3, n6, Option.bind_some, zaL_v (t := 3) m2 m3, m4, Option.bind_some]
    by_cases z : tLen (pT p q) = 0
    · rw [if_pos (by rw [z]; rfl)]
      have lab13 : tLab (pT p q) < 13 := by
        by_cases y : 13 ≤ tLab (pT p q)
        · have := g.2 y; omega
        · omega
      refine zS.b (ccostq f c ok hq) (fun ⟨r1, h1⟩ ⟨b, e1, e2, e3, e4, e5, e6, e7, e8, e9⟩ => ?_)
      dsimp only at e1 e2 e3 e5 e6 e7 e8 e9
      subst e1
      dsimp only
      have L1 := e5.Y L
      refine zS.e L1.o ?_
      obtain ⟨-, -, ⟨w', nd', -⟩, -⟩ := e6.1 q hq
      refine zS.b (cwdeed_eq hn hnm L1 e3 nd' g.1 z lab13) (fun h2 ⟨y1, y2⟩ => zS.s ?_)
      have A := a3.of (a := b) (Y := X + 3) y2 (Or.inl rfl)
      have w2 := wF.a3 (O := oP pa p) A e3 e4 L1.2.2.1.2 L1.2.2.2.2
      have f1 := e5.fix f
      have cps2 : cPs h2 X pa p := e6.wF w2 f1 (fun r hr => by
        rw [y2.2.2.2]
        obtain ⟨-, -, -, x4⟩ := e6.1 r hr
        rcases x4 with x4 | ⟨d', z1, z2, z3, z4, z5⟩
        · exact Or.inl x4
        · exact Or.inr ⟨d', z1, z2, (y2.g ⟨z3, z4, z5⟩).1, (y2.g ⟨z3, z4, z5⟩).2.1, (y2.g ⟨z3, z4, z5⟩).2.2⟩) (fun r r' d hr hr' d1 d2 => by rw [y2.2.2.2] at d1 d2; exact e6.2 r r' d hr hr' d1 d2)
      have wc2 : wC h1 h2 pa (pn p) := by
        have := nul_same (h := h1) (h' := h2) (pa := pa) (pn p) (fun r hr => by rw [y2.2.2.2])
        exact ⟨by rw [this, y2.2.1], by rw [this, y2.2.2.1]⟩
      have rq : rt h2 pa p n nm q := ⟨b, by rw [y2.2.2.2]; exact e2, y1⟩
      refine ⟨⟨e5.tr w2, cps2, e7.tr wc2, fun r hr ⟨b', u1, u2'⟩ => ?_⟩, rq⟩
      by_cases y : r = q
      · subst y; exact rq
      · obtain ⟨g', gb⟩ := c.cost hr u1
        refine ⟨b', by rw [y2.2.2.2]; exact e9 r b' hr u1, fun k hk => ?_⟩
        have hb : b' ≠ b := fun t => y (e6.2 r q b' hr hq (e9 r b' hr u1) (by rw [t]; exact e2))
        rw [y2.i (Nat.lt_of_lt_of_le g'.1 e5.1.1) hb, e8 b' g'.1]
        exact u2' k hk
    · rw [if_neg (nI_ne0 (by omega) (by omega)), if_pos (show nI d ≤ (40 : Int32) from nI_le (b := 40) (by omega) (by omega))]
      have l13 : 13 ≤ tLab (pT p q) := by
        by_cases y : 13 ≤ tLab (pT p q)
        · exact y
        · have := tG_leaf _ g.1 (by omega); omega
      have kid : ∀ j, j < tLen (pT p q) → (ppt p q).getD j 0 < q ∧ tKid (pT p q) j = pT p ((ppt p q).getD j 0) := fun j hj => by
        rw [el] at hj
        refine ⟨(ok.2 q hq).2.1 _ (getD_mem _ j hj), ?_⟩
        rw [pT_eq ok hq, tFold_kid _ _ _ j hj]
      refine zS.b (R1 := fun h' => wGood h X pa p n nm h' ∧ ∀ i, i < tLen (pT p q) → rt h' pa p n nm ((ppt p q).getD i 0)) (zS.up (fun j h' => wGood h X pa p n nm h' ∧ ∀ i, i < j → rt h' pa p n nm ((ppt p q).getD i 0)) 0 (tLen (pT p q)) (fun j h' _ hj hJ => ?_) (fun h' hJ => ?_) (Nat.zero_le _) (by omega) ⟨⟨wF.rf, c, ⟨rfl, rfl⟩, fun _ _ z => z⟩, fun i hi => absurd hi (Nat.not_lt_zero _)⟩) (fun s2 ⟨b1, b2⟩ => ?_)
      · dsimp only
        obtain ⟨j1, j2⟩ := hJ
        obtain ⟨-, -, ⟨w', nd', a'⟩, -⟩ := j1.2.1.1 q hq
        obtain ⟨⟨n1', n2', n3', n4', n5', n6', n7', n8'⟩, m1', m2', m3', m4'⟩ := nd'
        obtain ⟨k1, k2⟩ := kid j hj
        rw [zfP_v (ci := 3) n2' n3', n6', Option.bind_some, zaL_v (t := 3) m2' m3', m4', Option.bind_some, if_neg (nI_nle' (by omega) hj), Option.bind_some]
        refine zS.e (zaP_v (t := 3) (n := tLen (pT p q)) m2' m3' m4' hj (by omega)) ?_
        rw [a' j (by rw [← el]; exact hj), nI_1]
        have hh := tKid_ht (pT p q) j hj
        rw [k2] at hh
        refine zS.b (ih (d + 1) ((ppt p q).getD j 0) h' (by omega) (by omega) (by omega) (j1.1.fix f) j1.2.1 (j1.1.Y L)) (fun h2 ⟨y1, y2⟩ => zS.s ⟨h2, by rw [nI_1], j1.tr y1, fun i hi => ?_⟩)
        by_cases y : i = j
        · subst y; exact y2
        · have ki := (kid i (by omega)).1
          exact y1.2.2.2 _ (by omega) (j2 i (by omega))
      · dsimp only
        obtain ⟨-, -, ⟨w', nd', a'⟩, -⟩ := hJ.1.2.1.1 q hq
        obtain ⟨⟨n1', n2', n3', n4', n5', n6', n7', n8'⟩, m1', m2', m3', m4'⟩ := nd'
        rw [zfP_v (ci := 3) n2' n3', n6', Option.bind_some, zaL_v (t := 3) m2' m3', m4', Option.bind_some, if_pos (nI_le (Nat.le_refl _) (by omega))]
        exact zS.s ⟨_, rfl, hJ⟩
      · have f2 := b1.1.fix f
        refine zS.b (ccostq f2 b1.2.1 ok hq) (fun ⟨r1, h1⟩ ⟨b, e1, e2, e3, e4, e5, e6, e7, e8, e9⟩ => ?_)
        dsimp only at e1 e2 e3 e5 e6 e7 e8 e9
        subst e1
        dsimp only
        have L1 := e5.Y (b1.1.Y L)
        obtain ⟨-, -, ⟨w', nd', a'⟩, -⟩ := e6.1 q hq
        obtain ⟨⟨n1', n2', n3', n4', n5', n6', n7', n8'⟩, m1', m2', m3', m4'⟩ := nd'
        refine zS.e (zfI_v (ci := 3) n2' n3') ?_
        rw [n4']
        refine zS.e (zfP_v (ci := 3) n2' n3') ?_
        rw [n6']
        refine zS.e L1.o ?_
        have e4' : X + 94 ≤ b := e4
        have K : kRow h1 (X + 3) n b w' nm (pT p q) := by
          refine ⟨m2', m3', m4', fun j hj => ?_⟩
          obtain ⟨k1, k2⟩ := kid j hj
          obtain ⟨b', u1, u2'⟩ := b2 j hj
          obtain ⟨g', gb⟩ := b1.2.1.cost (by omega) u1
          obtain ⟨-, -, ⟨w3, nd3, -⟩, -⟩ := e6.1 ((ppt p q).getD j 0) (by omega)
          have u1' := e9 _ b' (by omega) u1
          have gb' : X + 94 ≤ b' := gb
          refine ⟨pa ((ppt p q).getD j 0), b', a' j (by rw [← el]; exact hj), nd3.1.2.1, nd3.1.2.2.1, u1', (e6.cost (by omega) u1').1, ⟨fun t => ?_, by omega, by omega⟩, fun k hk => ?_⟩
          · have := e6.2 _ q b' (by omega) hq u1' (by rw [t]; exact e2)
            omega
          · rw [e8 b' g'.1, k2]
            exact u2' k hk
        refine zS.b (cparts_eq hn L1 e3 (by omega) (by omega) K lab l13 (by omega) (by omega)) (fun h2 ⟨y1, A⟩ => zS.s ?_)
        have w2 := wF.a3 (O := oP pa p) A e3 e4 L1.2.2.1.2 L1.2.2.2.2
        have f1 := e5.fix f2
        have cps2 : cPs h2 X pa p := e6.wF w2 f1 (fun r hr => by
          rw [A.2.2.2]
          obtain ⟨-, -, -, x4⟩ := e6.1 r hr
          rcases x4 with x4 | ⟨d', z1, z2, z3, z4, z5⟩
          · exact Or.inl x4
          · exact Or.inr ⟨d', z1, z2, (A.g ⟨z3, z4, z5⟩).1, (A.g ⟨z3, z4, z5⟩).2.1, (A.g ⟨z3, z4, z5⟩).2.2⟩) (fun r r' d hr hr' d1 d2 => by rw [A.2.2.2] at d1 d2; exact e6.2 r r' d hr hr' d1 d2)
        have wc2 : wC h1 h2 pa (pn p) := by
          have := nul_same (h := h1) (h' := h2) (pa := pa) (pn p) (fun r hr => by rw [A.2.2.2])
          exact ⟨by rw [this, A.2.1], by rw [this, A.2.2.1]⟩
        have rq : rt h2 pa p n nm q := ⟨b, by rw [A.2.2.2]; exact e2, y1⟩
        refine ⟨b1.tr ⟨e5.tr w2, cps2, e7.tr wc2, fun r hr ⟨b', u1, u2'⟩ => ?_⟩, rq⟩
        by_cases y : r = q
        · subst y; exact rq
        · obtain ⟨g', gb⟩ := b1.2.1.cost hr u1
          have gb' : X + 94 ≤ b' := gb
          refine ⟨b', by rw [A.2.2.2]; exact e9 r b' hr u1, fun k hk => ?_⟩
          have hb : b' ≠ b := fun t => y (e6.2 r q b' hr hq (e9 r b' hr u1) (by rw [t]; exact e2))
          rw [A.i (Nat.lt_of_lt_of_le g'.1 e5.1.1) hb (by omega) (by omega), e8 b' g'.1]
          exact u2' k hk
