/-! times on the class's side -/
abbrev sNo (_ : Nat) : Prop := False
theorem zExt.up {S : Nat → Prop} {h h1 : Zh} {v k : Nat} {x : Int32} (e : zExt S h h1) (hv : S v ∨ zn h ≤ v) : zExt S h (zsetI h1 v k x) := by
  refine ⟨e.1, fun w hw => ⟨(e.2 w hw).1, (e.2 w hw).2.1, fun hn => ⟨?_, ((e.2 w hw).2.2 hn).2⟩⟩⟩
  have hne : w ≠ v := by rintro rfl; exact hv.elim hn (fun q => by omega)
  refine Eq.trans ?_ ((e.2 w hw).2.2 hn).1
  funext j
  rw [zi_sI, u2_a hne]
def tT (h : Zh) (v : Nat) (t : Tm) : Prop := zi h v 0 = t.1 ∧ zi h v 1 = t.2.1 ∧ zi h v 2 = t.2.2.1 ∧ zi h v 3 = t.2.2.2
/-- h1 is h with one object more, at v = zn h, that keeps the times t -/
def cTs (h h1 : Zh) (t : Tm) : Prop := zExt sNo h h1 ∧ zn h1 = zn h + 1 ∧ zs h1 = zs h + 4 ∧ zk h1 (zn h) = 6 ∧ tT h1 (zn h) t
theorem cTs.up {h h1 : Zh} {t t' : Tm} (c : cTs h h1 t) {k : Nat} {x : Int32} (hT : tT (zsetI h1 (zn h) k x) (zn h) t') : cTs h (zsetI h1 (zn h) k x) t' :=
  ⟨c.1.up (Or.inr (Nat.le_refl _)), c.2.1, c.2.2.1, c.2.2.2.1, hT⟩
