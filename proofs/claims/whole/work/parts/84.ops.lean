/-! each call, on both sides -/
def zU (X : Nat) (h h' : Zh) : Prop := (zn h ≤ zn h' ∧ zs h ≤ zs h') ∧ (∀ u, u < zn h → zk h' u = zk h u ∧ zl h' u = zl h u) ∧ ∀ u, X + 94 ≤ u → u < X + 143 → zi h' u = zi h u ∧ zp h' u = zp h u
theorem zU.of {S : Nat → Prop} {X : Nat} {h h' : Zh} (f0 : X + 143 ≤ zn h) (e : zExt S h h') (hS : ∀ u, X + 94 ≤ u → u < X + 143 → ¬ S u) : zU X h h' := ⟨e.1, fun u hu => ⟨(e.2 u hu).1, (e.2 u hu).2.1⟩, fun u h1 h2 => (e.2 u (by omega)).2.2 (hS u h1 h2)⟩
theorem zU.lF {X : Nat} {h h' : Zh} (f0 : X + 143 ≤ zn h) (R : zRF (X + 94) h) (e : lF X h h') : zU X h h' := by
  refine ⟨e.1, fun u hu => ⟨(e.2 u hu).1, (e.2 u hu).2.1⟩, fun u h1 h2 => ?_⟩
  obtain ⟨-, -, a3, a4⟩ := e.2 u (by omega)
  have k4 : zk h u ≠ 4 := by
    have := (R.2.1 (u - (X + 94)) (by show u - (X + 94) < 49; omega)).1
    rw [Nat.add_sub_of_le h1] at this
    rw [this]
    have key : ∀ a, a < 49 → zRk.getD a 0 ≠ 4 := by decide
    exact key _ (by omega)
  exact ⟨a3 (fun z => by omega) (by omega) (by omega), by funext k; exact a4 k (fun z => k4 z.1)⟩
theorem zU.rf {X : Nat} {h : Zh} : zU X h h := ⟨⟨Nat.le_refl _, Nat.le_refl _⟩, fun _ _ => ⟨rfl, rfl⟩, fun _ _ _ => ⟨rfl, rfl⟩⟩
theorem zU.RF {X : Nat} {h h' : Zh} (u : zU X h h') (R : zRF (X + 94) h) : zRF (X + 94) h' := by
  have r0 : X + 94 + 49 ≤ zn h := R.1
  refine ⟨Nat.le_trans R.1 u.1.1, fun a ha => ?_, fun k hk hz => ?_⟩
  · have ha' : a < 49 := ha
    obtain ⟨e1, e2⟩ := u.2.1 (X + 94 + a) (by omega)
    rw [e1, e2]
    exact R.2.1 a ha
  · rw [(u.2.2 (X + 94) (by omega) (by omega)).2]
    exact R.2.2 k hk hz
theorem zU.get {X : Nat} {h h' : Zh} (u : zU X h h') : rOnly (fun a _ => 49 ≤ a) (zget (X + 94) h) (zget (X + 94) h') := fun a k hn => by
  show zi h' (X + 94 + a) k = zi h (X + 94 + a) k
  have hn' : ¬ 49 ≤ a := hn
  rw [(u.2.2 (X + 94 + a) (by omega) (by omega)).1]
/-- a call of the class that changes the state -/
def OpC (X : Nat) (h : Zh) (o : Option (Int32 × Zh)) (v : Int32) (m' : Ml) (p' : Mp) : Prop := ∃ h', o = some (v, h') ∧ zU X h h' ∧ cFix h' X ∧ (∃ ca', cLog h' X ca' m') ∧ (∃ pa', cPc h' X pa' p') ∧ zn h' ≤ zn h + 1000 ∧ zs h' ≤ zs h + 13000
def OpR (o : Option (Int32 × Zr)) (v : Int32) (m' : Ml) (p' : Mp) : Prop := ∃ s', o = some (v, s') ∧ rLog s' m' ∧ rPc s' p'
section OPS
variable {X : Nat} {h : Zh} {ca pa : Nat → Nat} {m : Ml} {p : Mp}
theorem oc_log {o : Option (Int32 × Zh)} {v : Int32} {m' : Ml} (f : cFix h X) (c : cLog h X ca m) (pc : cPc h X pa p) (q : ∃ h', o = some (v, h') ∧ cLog h' X ca m' ∧ zExt (cSc ca m) h h' ∧ zn h' = zn h ∧ zs h' = zs h ∧ zp h' = zp h) : OpC X h o v m' p := by
  obtain ⟨h', e, c', ex, n, s, zp'⟩ := q
  have f0 := f.1
  have out : ∀ u, u < X + 143 → ¬ cSc ca m u := fun u hu z => by
    obtain ⟨k, hk, z⟩ := z
    have := (c.2.1 k hk).2.1
    omega
  have X3 : zi h' X = zi h X := ((ex.2 X (by omega)).2.2 (out X (by omega))).1
  refine ⟨h', e, zU.of f0 ex (fun u h1 h2 => out u (by omega)), cFix.ext ex f (fun u hu hs k => by rw [zp']), ⟨ca, c'⟩, ⟨pa, pc.ext ex (by rw [X3]) (fun k => by rw [zp']) (fun u h1 h2 hk z => ?_)⟩, by omega, by omega⟩
  obtain ⟨k, hk2, z⟩ := z
  obtain ⟨-, -, -, d4, -, d6, -⟩ := c.2.1 k hk2
  rcases z with rfl | rfl
  · rw [d4] at hk; omega
  · rw [d6] at hk; omega
theorem oc_open (f : cFix h X) (c : cLog h X ca m) (om : mOK m) (pc : cPc h X pa p) : OpC X h (fX5_open h (some X)) (mOpen m).1 (mOpen m).2 p := by
  obtain ⟨h', ca', e, c', ex, n, s, pX, iX⟩ := copen_eq f c om
  have f0 := f.1
  have X2 : zp h' (X + 2) = zp h (X + 2) := ((ex.2 (X + 2) (by omega)).2.2 (fun z => z.elim (by omega) (by omega))).2
  refine ⟨h', e, zU.of f0 ex (fun u h1 h2 z => z.elim (by omega) (by omega)), cFix.ext ex f (fun u hu hs k => ?_), ⟨ca', c'⟩, ⟨pa, pc.ext ex (iX 3 (by omega)) (fun k => by rw [X2]) (fun u h1 h2 _ z => z.elim (by omega) (by omega))⟩, by omega, by omega⟩
  rcases hs with z | z
  · subst z; rw [pX]
  · exfalso
    rcases hu with y | y | y | ⟨d, _, y⟩ <;> omega
theorem oc_pf {o : Option (Int32 × Zh)} {v : Int32} {p' : Mp} {a b : Nat} (f : cFix h X) (c : cLog h X ca m) (ha : a ≤ 1000) (hb : b ≤ 13000) (q : ∃ h', o = some (v, h') ∧ zPf X h h' ∧ (zn h' ≤ zn h + a ∧ zs h' ≤ zs h + b) ∧ ∃ pa', cPc h' X pa' p') : OpC X h o v m p' := by
  obtain ⟨h', e, z, ⟨n, s⟩, pc'⟩ := q
  obtain ⟨f', c'⟩ := z.on f c
  exact ⟨h', e, zU.of f.1 z.1 (fun u h1 h2 y => y.elim (by omega) (by omega)), f', ⟨ca, c'⟩, pc', by omega, by omega⟩
theorem oc_lay {o : Option (Int32 × Zh)} {v : Int32} (f : cFix h X) (R : zRF (X + 94) h) (c : cLog h X ca m) (pc : cPc h X pa p) (ok : pOK p) (q : zS o (fun r => r.1 = v ∧ lF X h r.2 ∧ cPs r.2 X pa p ∧ wC h r.2 pa (pn p))) : OpC X h o v m p := by
  obtain ⟨⟨v', h'⟩, e, rfl, l, ps, w⟩ := q
  have f0 := f.1
  have h200 := ok.1
  have nl := nul_le h pa (pn p)
  dsimp only at l ps w
  have X3 : zi h' X = zi h X := (l.2 X (by omega)).2.2.1 (by rw [f.2.1.1]; omega) (by omega) (by omega)
  refine ⟨h', e, zU.lF f0 R l, l.fix f, ⟨ca, l.log f c⟩, ⟨pa, by rw [X3]; exact pc.1, ps⟩, ?_, ?_⟩
  · have := w.1; omega
  · have := w.2; omega
theorem oc_no {o : Option (Int32 × Zh)} {v : Int32} (f : cFix h X) (c : cLog h X ca m) (pc : cPc h X pa p) (q : ∃ h', o = some (v, h') ∧ zExt sNo h h' ∧ zn h' ≤ zn h + 1 ∧ zs h' ≤ zs h + 4) : OpC X h o v m p := by
  obtain ⟨h', e, z, n, s⟩ := q
  obtain ⟨f', c'⟩ := ext0 z f c
  have f0 := f.1
  exact ⟨h', e, zU.of f.1 z (fun u h1 h2 y => y), f', ⟨ca, c'⟩, ⟨pa, pc.ext z (by rw [((z.2 X (by omega)).2.2 id).1]) (fun k => by rw [((z.2 (X + 2) (by omega)).2.2 id).2]) (fun u _ _ _ y => y)⟩, by omega, by omega⟩
theorem oc_slow {o : Option (Int32 × Zh)} {v : Int32} {h' : Zh} (f : cFix h X) (c : cLog h X ca m) (pc : cPc h X pa p) (e : o = some (v, h')) (z : zExt (sWait X) h h') (n : zn h' = zn h) (s : zs h' = zs h) (hp : zp h' = zp h) : OpC X h o v m p := by
  obtain ⟨f', c'⟩ := extW z f c
  have f0 := f.1
  exact ⟨h', e, zU.of f.1 z (fun u h1 h2 y => y.elim (by omega) (by omega)), f', ⟨ca, c'⟩, ⟨pa, pc.ext z (by rw [((z.2 X (by omega)).2.2 (fun y => y.elim (by omega) (by omega))).1]) (fun k => by rw [hp]) (fun u h1 _ _ y => y.elim (by omega) (by omega))⟩, by omega, by omega⟩
end OPS
theorem or_log {S : Nat → Nat → Prop} {s s' : Zr} {p : Mp} {m' : Ml} {v : Int32} {o : Option (Int32 × Zr)} (e : o = some (v, s')) (l : rLog s' m') (d : rOnly S s s') (h : rPc s p) (h7 : ¬ S 0 7) (h13 : ¬ S 0 13) (ha : ∀ a k, 7 ≤ a → a ≤ 12 → ¬ S a k) : OpR o v m' p := ⟨s', e, l, h.only d h7 h13 ha⟩
theorem or_pc {S : Nat → Nat → Prop} {s s' : Zr} {p' : Mp} {m : Ml} {v : Int32} {o : Option (Int32 × Zr)} (e : o = some (v, s')) (l : rLog s m) (d : rOnly S s s') (h : rPc s' p') (h0 : ¬ S 0 0) (hS : ∀ a k, 1 ≤ a → a ≤ 6 → ¬ S a k) : OpR o v m p' := ⟨s', e, l.only d h0 hS, h⟩
theorem or_no {S : Nat → Nat → Prop} {s s' : Zr} {p : Mp} {m : Ml} {v : Int32} {o : Option (Int32 × Zr)} (e : o = some (v, s')) (l : rLog s m) (d : rOnly S s s') (h : rPc s p) (h0 : ¬ S 0 0) (h7 : ¬ S 0 7) (h13 : ¬ S 0 13) (hS : ∀ a k, 1 ≤ a → a ≤ 12 → ¬ S a k) : OpR o v m p := ⟨s', e, l.only d h0 (fun a k h1 h2 => hS a k h1 (by omega)), h.only d h7 h13 (fun a k h1 h2 => hS a k (by omega) h2)⟩
/-! the law's loop -/
def LwS (X c1 : Nat) (h : Zh) : Prop := ∃ ca pa m p, cFix h X ∧ cLog h X ca m ∧ mOK m ∧ cPc h X pa p ∧ pOK p ∧ zRF (X + 94) h ∧ rLog (zget (X + 94) h) m ∧ rPc (zget (X + 94) h) p ∧ c1 < zn h ∧ zk h c1 = 106
theorem zput_o {R : Nat} {h : Zh} {s : Zr} {u : Nat} (hu : u < R ∨ R + 49 ≤ u) : zi (zput R h s) u = zi h u := by
  funext j
  show (if R ≤ u ∧ u < R + 49 then _ else _) = _
  rw [if_neg (by omega)]
theorem LwS.put {X c1 : Nat} {h : Zh} {s : Zr} {ca pa : Nat → Nat} {m : Ml} {p : Mp} (f : cFix h X) (c : cLog h X ca m) (om : mOK m) (pc : cPc h X pa p) (ok : pOK p) (R : zRF (X + 94) h) (rl : rLog s m) (rp : rPc s p) (hc : c1 < zn h ∧ zk h c1 = 106) : LwS X c1 (zput (X + 94) h s) := by
  have f0 := f.1
  have get : rOnly (fun a _ => 49 ≤ a) s (zget (X + 94) (zput (X + 94) h s)) := fun a k hn => by
    have hn' : ¬ 49 ≤ a := hn
    show zi (zput (X + 94) h s) (X + 94 + a) k = s a k
    show (if X + 94 ≤ X + 94 + a ∧ X + 94 + a < X + 94 + 49 then s (X + 94 + a - (X + 94)) k else _) = _
    rw [if_pos ⟨by omega, by omega⟩, Nat.add_sub_cancel_left]
  refine ⟨ca, pa, m, p, ⟨f0, f.2⟩, ⟨?_, fun k hk => ?_, c.2.2⟩, om, ⟨?_, fun q hq => ?_, pc.2.2⟩, ok, R, rl.only get (by omega) (fun a k _ _ => by omega), rp.only get (by omega) (by omega) (fun a k _ _ => by omega), hc⟩
  · rw [zput_o (Or.inl (by omega))]; exact c.1
  · obtain ⟨d1, d2, d3, d4, d5, d6, d7, d8, d9, d10⟩ := c.2.1 k hk
    exact ⟨d1, d2, d3, d4, d5, d6, d7, by rw [zput_o (Or.inr (by omega))]; exact d8, by rw [zput_o (Or.inr (by omega))]; exact d9, fun i w hi hw => by rw [zput_o (Or.inr (by omega))]; exact d10 i w hi hw⟩
  · rw [zput_o (Or.inl (by omega))]; exact pc.1
  · obtain ⟨c1, c2, ⟨w, n, a⟩, c4⟩ := pc.2.1 q hq
    obtain ⟨⟨n1, n2, n3, n4, n5, n6, n7, n8⟩, nb⟩ := n
    have n1' : X + 143 ≤ pa q := n1
    have e : zi (zput (X + 94) h s) (pa q) = zi h (pa q) := zput_o (Or.inr (by omega))
    exact ⟨c1, by rw [e]; exact c2, ⟨w, ⟨⟨n1, n2, n3, by rw [e]; exact n4, by rw [e]; exact n5, n6, by rw [e]; exact n7, by rw [e]; exact n8⟩, nb⟩, a⟩, c4⟩
theorem zchk_v {R : Nat} {h : Zh} (r : zRF R h) : zchk R h = some () := by
  unfold zchk
  rw [if_pos r]
/-- a step of the law that goes well -/
def LW (X c1 : Nat) (h : Zh) (K : Int32) (o : Option ((Int32 × Zh) ⊕ (Zh ⊕ (Int32 × Zh)))) : Prop := ∃ h', o = some (.inl (K, h')) ∧ LwS X c1 h' ∧ zn h' ≤ zn h + 1000 ∧ zs h' ≤ zs h + 13000
section LAWS
variable {X c1 : Nat} {h : Zh} {ca pa : Nat → Nat} {m : Ml} {p : Mp}
theorem lw_op {oC : Option (Int32 × Zh)} {opR : Zr → Option (Int32 × Zr)} {v : Int32} {m' : Ml} {p' : Mp} (K : Int32) (R : zRF (X + 94) h) (rl : rLog (zget (X + 94) h) m) (rp : rPc (zget (X + 94) h) p) (hc : c1 < zn h ∧ zk h c1 = 106) (C : OpC X h oC v m' p') (Rr : ∀ s, rLog s m → rPc s p → OpR (opR s) v m' p') (om' : mOK m') (ok' : pOK p') :
    LW X c1 h K (oC.bind fun ((x16, h17) : Int32 × Zh) => (zob h17 (some (X + 94)) 8).bind fun p18 => (zchk p18 h17).bind fun _ => (opR (zget p18 h17)).bind fun ((x19, h20) : Int32 × Zr) => if x16 = x19 then some (.inl (K, zput p18 h17 h20)) else some (.inr (.inr ((0 : Int32), zput p18 h17 h20)))) := by
  obtain ⟨h', e, u, f', ⟨ca', c'⟩, ⟨pa', pc'⟩, n, s⟩ := C
  have R' := u.RF R
  have k8 : zk h' (X + 94) = 8 := (R'.2.1 0 (by show 0 < 49; omega)).1
  have f0' := f'.1
  obtain ⟨s', e2, rl', rp'⟩ := Rr (zget (X + 94) h') (rl.only u.get (by omega) (fun a k _ _ => by omega)) (rp.only u.get (by omega) (by omega) (fun a k _ _ => by omega))
  refine ⟨zput (X + 94) h' s', ?_, LwS.put f' c' om' pc' ok' R' rl' rp' ⟨Nat.lt_of_lt_of_le hc.1 u.1.1, (u.2.1 c1 hc.1).1.trans hc.2⟩, n, s⟩
  rw [e, Option.bind_some]
  show ((zob h' (some (X + 94)) 8).bind _) = _
  rw [zob_v (by omega) k8, Option.bind_some, zchk_v R', Option.bind_some, e2, Option.bind_some]
  show (if v = v then _ else _) = _
  rw [if_pos rfl]
theorem lw_pure {oC : Option Int32} {opR : Zr → Option Int32} {v : Int32} (K : Int32) (st : LwS X c1 h) (R : zRF (X + 94) h) (rl : rLog (zget (X + 94) h) m) (rp : rPc (zget (X + 94) h) p) (e : oC = some v) (Rr : ∀ s, rLog s m → rPc s p → opR s = some v) :
    LW X c1 h K (oC.bind fun x16 => (zob h (some (X + 94)) 8).bind fun p18 => (zchk p18 h).bind fun _ => (opR (zget p18 h)).bind fun x19 => if x16 = x19 then some (.inl (K, h)) else some (.inr (.inr ((0 : Int32), h)))) := by
  have k8 : zk h (X + 94) = 8 := (R.2.1 0 (by show 0 < 49; omega)).1
  have r0 : X + 94 + 49 ≤ zn h := R.1
  refine ⟨h, ?_, st, by omega, by omega⟩
  rw [e, Option.bind_some, zob_v (by omega) k8, Option.bind_some, zchk_v R, Option.bind_some, Rr _ rl rp, Option.bind_some, if_pos rfl]
theorem lw_mix {oC : Option Int32} {opR : Zr → Option (Int32 × Zr)} {v : Int32} (K : Int32) (f : cFix h X) (c : cLog h X ca m) (om : mOK m) (pc : cPc h X pa p) (ok : pOK p) (R : zRF (X + 94) h) (rl : rLog (zget (X + 94) h) m) (rp : rPc (zget (X + 94) h) p) (hc : c1 < zn h ∧ zk h c1 = 106) (e : oC = some v) (Rr : ∀ s, rLog s m → rPc s p → OpR (opR s) v m p) :
    LW X c1 h K (oC.bind fun x16 => (zob h (some (X + 94)) 8).bind fun p18 => (zchk p18 h).bind fun _ => (opR (zget p18 h)).bind fun ((x19, h20) : Int32 × Zr) => if x16 = x19 then some (.inl (K, zput p18 h h20)) else some (.inr (.inr ((0 : Int32), zput p18 h h20)))) := by
  have C : OpC X h (oC.map fun x => (x, h)) v m p := ⟨h, by rw [e]; rfl, zU.rf, f, ⟨ca, c⟩, ⟨pa, pc⟩, by omega, by omega⟩
  obtain ⟨h', q1, q2⟩ := lw_op K R rl rp hc C Rr om ok
  refine ⟨h', ?_, q2⟩
  rw [← q1, e]
  rfl
end LAWS
def FindOK : Prop := ∀ (X : Nat) (h : Zh) (ca pa : Nat → Nat) (m : Ml) (p : Mp), cFix h X → cLog h X ca m → mOK m → cPc h X pa p → pOK p → ∃ v p', pOK p' ∧ OpC X h (fX5_find h (some X)) v m p' ∧ ∀ s, rLog s m → rPc s p → OpR (fX6_find s) v m p'
