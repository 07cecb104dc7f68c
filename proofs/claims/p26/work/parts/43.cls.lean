/-! the class's heap: reading and writing where the kinds are known -/
theorem zob_v {h : Zh} {v kd : Nat} (h1 : v < zn h) (h2 : zk h v = kd) : zob h (some v) kd = some v := by
  unfold zob; rw [Option.bind_some, if_pos ⟨h1, h2⟩]
theorem zfI_v {h : Zh} {v ci k : Nat} (h1 : v < zn h) (h2 : zk h v = ci + 1) : zfI h (some v) ci k = some (zi h v k) := by
  unfold zfI; rw [zob_v h1 h2]; rfl
theorem zfP_v {h : Zh} {v ci k : Nat} (h1 : v < zn h) (h2 : zk h v = ci + 1) : zfP h (some v) ci k = some (zp h v k) := by
  unfold zfP; rw [zob_v h1 h2]; rfl
theorem zgI_v {h : Zh} {v ci k : Nat} {x : Int32} (h1 : v < zn h) (h2 : zk h v = ci + 1) : zgI h (some v) ci k x = some (zsetI h v k x) := by
  unfold zgI; rw [zob_v h1 h2]; rfl
theorem zgP_v {h : Zh} {v ci k : Nat} {x : Option Nat} (h1 : v < zn h) (h2 : zk h v = ci + 1) : zgP h (some v) ci k x = some (zsetP h v k x) := by
  unfold zgP; rw [zob_v h1 h2]; rfl
theorem zaI_v {h : Zh} {v k n : Nat} (h1 : v < zn h) (h2 : zk h v = 100) (h3 : zl h v = n) (h4 : k < n) (h5 : n < 2 ^ 31) : zaI h (some v) (nI k) = some (zi h v k) := by
  unfold zaI; rw [zob_v h1 h2, Option.bind_some, zix_nI (by omega) (by omega)]; rfl
theorem zbI_v {h : Zh} {v k n : Nat} {x : Int32} (h1 : v < zn h) (h2 : zk h v = 100) (h3 : zl h v = n) (h4 : k < n) (h5 : n < 2 ^ 31) : zbI h (some v) (nI k) x = some (zsetI h v k x) := by
  unfold zbI; rw [zob_v h1 h2, Option.bind_some, zix_nI (by omega) (by omega)]; rfl
theorem zaP_v {h : Zh} {v t k n : Nat} (h1 : v < zn h) (h2 : zk h v = 100 + t) (h3 : zl h v = n) (h4 : k < n) (h5 : n < 2 ^ 31) : zaP h (some v) t (nI k) = some (zp h v k) := by
  unfold zaP; rw [zob_v h1 h2, Option.bind_some, zix_nI (by omega) (by omega)]; rfl
theorem zbP_v {h : Zh} {v t ci k n w : Nat} (h1 : v < zn h) (h2 : zk h v = 100 + t) (h3 : zl h v = n) (h4 : k < n) (h5 : n < 2 ^ 31) (h6 : w < zn h) (h7 : zk h w = ci + 1) : zbP h (some v) t ci (nI k) (some w) = some (zsetP h v k (some w)) := by
  unfold zbP; rw [zob_v h1 h2, Option.bind_some, zix_nI (by omega) (by omega), Option.bind_some, if_pos (Or.inr (zob_v h6 h7))]
theorem zaL_v {h : Zh} {v t : Nat} (h1 : v < zn h) (h2 : zk h v = 100 + t) : zaL h (some v) t = some (nI (zl h v)) := by
  unfold zaL; rw [zob_v h1 h2]; rfl
theorem zi_sI (h : Zh) (v k : Nat) (x : Int32) : zi (zsetI h v k x) = u2 (zi h) v k x := rfl
theorem zp_sI (h : Zh) (v k : Nat) (x : Int32) : zp (zsetI h v k x) = zp h := rfl
theorem zk_sI (h : Zh) (v k : Nat) (x : Int32) : zk (zsetI h v k x) = zk h := rfl
theorem zl_sI (h : Zh) (v k : Nat) (x : Int32) : zl (zsetI h v k x) = zl h := rfl
theorem zn_sI (h : Zh) (v k : Nat) (x : Int32) : zn (zsetI h v k x) = zn h := rfl
theorem zs_sI (h : Zh) (v k : Nat) (x : Int32) : zs (zsetI h v k x) = zs h := rfl
theorem zi_sP (h : Zh) (v k : Nat) (x : Option Nat) : zi (zsetP h v k x) = zi h := rfl
theorem zp_sP (h : Zh) (v k : Nat) (x : Option Nat) : zp (zsetP h v k x) = u2 (zp h) v k x := rfl
theorem zn_sP (h : Zh) (v k : Nat) (x : Option Nat) : zn (zsetP h v k x) = zn h := rfl
theorem zs_sP (h : Zh) (v k : Nat) (x : Option Nat) : zs (zsetP h v k x) = zs h := rfl
theorem zn_nw (h : Zh) (a b c : Nat) : zn (znew h a b c) = zn h + 1 := rfl
theorem zs_nw (h : Zh) (a b c : Nat) : zs (znew h a b c) = zs h + c := rfl
theorem zk_nw {h : Zh} {a b c v : Nat} (hv : v ≠ zn h) : zk (znew h a b c) v = zk h v := by show u1 _ _ _ _ = _; unfold u1; rw [if_neg hv]; rfl
theorem zl_nw {h : Zh} {a b c v : Nat} (hv : v ≠ zn h) : zl (znew h a b c) v = zl h v := by show u1 _ _ _ _ = _; unfold u1; rw [if_neg hv]; rfl
theorem zi_nw {h : Zh} {a b c v : Nat} (hv : v ≠ zn h) : zi (znew h a b c) v = zi h v := by funext j; show (if v = zn h then _ else _) = _; rw [if_neg hv]
theorem zp_nw {h : Zh} {a b c v : Nat} (hv : v ≠ zn h) : zp (znew h a b c) v = zp h v := by funext j; show (if v = zn h then _ else _) = _; rw [if_neg hv]
theorem zmO_v (h : Zh) (ci N : Nat) : zmO h ci N = some (some (zn h), znew h (ci + 1) 0 N) := rfl
theorem zmA_v {h : Zh} {t n : Nat} (hn : n < 100000) : zmA h t (nI n) = some (some (zn h), znew h (100 + t) n n) := by
  unfold zmA
  rw [nI_clamp (by omega), if_neg (fun z => z.elim (nI_pos (by omega)) (by omega))]
/-- what a call leaves as it was: the kinds, and the cells outside S -/
def zExt (S : Nat → Prop) (h h' : Zh) : Prop := (zn h ≤ zn h' ∧ zs h ≤ zs h') ∧ ∀ v, v < zn h → zk h' v = zk h v ∧ zl h' v = zl h v ∧ (¬ S v → zi h' v = zi h v ∧ zp h' v = zp h v)
theorem zExt.rf {S : Nat → Prop} {h : Zh} : zExt S h h := ⟨⟨Nat.le_refl _, Nat.le_refl _⟩, fun v _ => ⟨rfl, rfl, fun _ => ⟨rfl, rfl⟩⟩⟩
theorem zExt.tr {S : Nat → Prop} {h h1 h2 : Zh} (a : zExt S h h1) (b : zExt S h1 h2) : zExt S h h2 := by
  refine ⟨⟨Nat.le_trans a.1.1 b.1.1, Nat.le_trans a.1.2 b.1.2⟩, fun v hv => ?_⟩
  obtain ⟨a1, a2, a3⟩ := a.2 v hv
  obtain ⟨b1, b2, b3⟩ := b.2 v (Nat.lt_of_lt_of_le hv a.1.1)
  exact ⟨b1.trans a1, b2.trans a2, fun h => ⟨(b3 h).1.trans (a3 h).1, (b3 h).2.trans (a3 h).2⟩⟩
theorem zExt.mono {S S' : Nat → Prop} {h h' : Zh} (a : zExt S h h') (hS : ∀ v, v < zn h → S v → S' v) : zExt S' h h' := ⟨a.1, fun v hv => ⟨(a.2 v hv).1, (a.2 v hv).2.1, fun n => (a.2 v hv).2.2 (fun z => n (hS v hv z))⟩⟩
theorem zExt.sI {S : Nat → Prop} {h : Zh} {v k : Nat} {x : Int32} (hv : S v ∨ zn h ≤ v) : zExt S h (zsetI h v k x) := by
  refine ⟨⟨Nat.le_refl _, Nat.le_refl _⟩, fun w hw => ⟨rfl, rfl, fun hn => ⟨?_, rfl⟩⟩⟩
  have hne : w ≠ v := by rintro rfl; exact hv.elim hn (fun q => by omega)
  funext j
  rw [zi_sI, u2_a hne]
theorem zExt.sP {S : Nat → Prop} {h : Zh} {v k : Nat} {x : Option Nat} (hv : S v ∨ zn h ≤ v) : zExt S h (zsetP h v k x) := by
  refine ⟨⟨Nat.le_refl _, Nat.le_refl _⟩, fun w hw => ⟨rfl, rfl, fun hn => ⟨rfl, ?_⟩⟩⟩
  have hne : w ≠ v := by rintro rfl; exact hv.elim hn (fun q => by omega)
  funext j
  rw [zp_sP, u2_a hne]
theorem zExt.nw {S : Nat → Prop} {h : Zh} {a b c : Nat} : zExt S h (znew h a b c) := by
  refine ⟨⟨Nat.le_succ _, Nat.le_add_right _ _⟩, fun w hw => ?_⟩
  have hne : w ≠ zn h := by omega
  exact ⟨zk_nw hne, zl_nw hne, fun _ => ⟨zi_nw hne, zp_nw hne⟩⟩
/-- what never changes of the class's object, at X: its rows (X + 1 cases, X + 2 pieces, X + 3 laying (X + 4 names, 5 others, 6 rounds), X + 7 shares, X + 8 waits, X + 9 waited), its twelve shares (X + 10 + 7 d, their rows behind each), the reference at X + 94 -/
def cFix (h : Zh) (X : Nat) : Prop := X + 94 ≤ zn h ∧ (zk h X = 7 ∧ zp h X 0 = some (X + 1) ∧ zp h X 2 = some (X + 2) ∧ zp h X 4 = some (X + 3) ∧ zp h X 5 = some (X + 7) ∧ zp h X 6 = some (X + 8) ∧ zp h X 7 = some (X + 9)) ∧
  (zk h (X + 1) = 102 ∧ zl h (X + 1) = 24) ∧ (zk h (X + 2) = 103 ∧ zl h (X + 2) = 200) ∧ (zk h (X + 3) = 3 ∧ zp h (X + 3) 0 = some (X + 4) ∧ zp h (X + 3) 3 = some (X + 5) ∧ zp h (X + 3) 4 = some (X + 6)) ∧
  ((zk h (X + 4) = 100 ∧ zl h (X + 4) = 6) ∧ (zk h (X + 5) = 100 ∧ zl h (X + 5) = 64) ∧ (zk h (X + 6) = 100 ∧ zl h (X + 6) = 64)) ∧ (zk h (X + 7) = 104 ∧ zl h (X + 7) = 12) ∧ ((zk h (X + 8) = 100 ∧ zl h (X + 8) = 144) ∧ (zk h (X + 9) = 100 ∧ zl h (X + 9) = 144)) ∧
  (∀ d, d < 12 → zp h (X + 7) d = some (X + 10 + 7 * d) ∧ zk h (X + 10 + 7 * d) = 5 ∧ (zp h (X + 10 + 7 * d) 0 = some (X + 11 + 7 * d) ∧ zk h (X + 11 + 7 * d) = 100 ∧ zl h (X + 11 + 7 * d) = 144) ∧ ∀ q, q < 5 → zp h (X + 10 + 7 * d) (5 + q) = some (X + 12 + 7 * d + q) ∧ zk h (X + 12 + 7 * d + q) = 100 ∧ zl h (X + 12 + 7 * d + q) = 12)
/-- the cells whose references are fixed -/
def cFixed (X : Nat) (v : Nat) : Prop := v = X ∨ v = X + 3 ∨ v = X + 7 ∨ ∃ d, d < 12 ∧ v = X + 10 + 7 * d
/-- the log as the class keeps it; ca: the places of the cases -/
def cLog (h : Zh) (X : Nat) (ca : Nat → Nat) (m : Ml) : Prop := zi h X 1 = nI (mnc m) ∧ (∀ c, c < mnc m → zp h (X + 1) c = some (ca c) ∧ X + 94 ≤ ca c ∧ ca c + 1 < zn h ∧ zk h (ca c) = 2 ∧ zp h (ca c) 0 = some (ca c + 1) ∧ zk h (ca c + 1) = 100 ∧ zl h (ca c + 1) = 24 ∧ zi h (ca c) 1 = nI (mlen m c) ∧ zi h (ca c) 2 = b2 (mdr m c = true) ∧ ∀ i w, i < mlen m c → w < 4 → zi h (ca c + 1) (4 * i + w) = mdt m c i w) ∧
  ∀ c d, c < mnc m → d < mnc m → ca c = ca d → c = d
theorem cFix.on {S : Nat → Prop} {h h' : Zh} {X : Nat} (e : zExt S h h') (f : cFix h X) (hz : ∀ v k, cFixed X v → k ≠ 1 → k ≠ 3 → zp h' v k = zp h v k) (h7 : ∀ k, zp h' (X + 7) k = zp h (X + 7) k) (h3 : zp h' (X + 3) 3 = zp h (X + 3) 3) : cFix h' X := by
  obtain ⟨f0, ⟨f1, f2, f3, f4, f5, f6, f7⟩, ⟨g1, g2⟩, ⟨g3, g4⟩, ⟨g5, g6, g7, g8⟩, ⟨⟨k1, k2⟩, ⟨k3, k4⟩, ⟨k5, k6⟩⟩, ⟨k7, k8⟩, ⟨⟨l1, l2⟩, ⟨l3, l4⟩⟩, l5⟩ := f
  have kk : ∀ v, v < X + 94 → zk h' v = zk h v ∧ zl h' v = zl h v := fun v hv => ⟨(e.2 v (by omega)).1, (e.2 v (by omega)).2.1⟩
  have x0 : cFixed X X := Or.inl rfl
  have x3 : cFixed X (X + 3) := Or.inr (Or.inl rfl)
  refine ⟨Nat.le_trans f0 e.1.1, ⟨(kk _ (by omega)).1.trans f1, (hz _ _ x0 (by decide) (by decide)).trans f2, (hz _ _ x0 (by decide) (by decide)).trans f3, (hz _ _ x0 (by decide) (by decide)).trans f4, (hz _ _ x0 (by decide) (by decide)).trans f5, (hz _ _ x0 (by decide) (by decide)).trans f6, (hz _ _ x0 (by decide) (by decide)).trans f7⟩,
    ⟨(kk _ (by omega)).1.trans g1, (kk _ (by omega)).2.trans g2⟩, ⟨(kk _ (by omega)).1.trans g3, (kk _ (by omega)).2.trans g4⟩, ⟨(kk _ (by omega)).1.trans g5, (hz _ _ x3 (by decide) (by decide)).trans g6, h3.trans g7, (hz _ _ x3 (by decide) (by decide)).trans g8⟩,
    ⟨⟨(kk _ (by omega)).1.trans k1, (kk _ (by omega)).2.trans k2⟩, ⟨(kk _ (by omega)).1.trans k3, (kk _ (by omega)).2.trans k4⟩, ⟨(kk _ (by omega)).1.trans k5, (kk _ (by omega)).2.trans k6⟩⟩, ⟨(kk _ (by omega)).1.trans k7, (kk _ (by omega)).2.trans k8⟩, ⟨⟨(kk _ (by omega)).1.trans l1, (kk _ (by omega)).2.trans l2⟩, ⟨(kk _ (by omega)).1.trans l3, (kk _ (by omega)).2.trans l4⟩⟩, fun d hd => ?_⟩
  obtain ⟨m1, m2, ⟨m3, m4, m5⟩, m6⟩ := l5 d hd
  have xd : cFixed X (X + 10 + 7 * d) := Or.inr (Or.inr (Or.inr ⟨d, hd, rfl⟩))
  refine ⟨(h7 d).trans m1, (kk _ (by omega)).1.trans m2, ⟨(hz _ _ xd (by decide) (by decide)).trans m3, (kk _ (by omega)).1.trans m4, (kk _ (by omega)).2.trans m5⟩, fun q hq => ?_⟩
  obtain ⟨n1, n2, n3⟩ := m6 q hq
  exact ⟨(hz _ _ xd (by omega) (by omega)).trans n1, (kk _ (by omega)).1.trans n2, (kk _ (by omega)).2.trans n3⟩
theorem cFix.ext {S : Nat → Prop} {h h' : Zh} {X : Nat} (e : zExt S h h') (f : cFix h X) (hS : ∀ v, cFixed X v → S v → ∀ k, zp h' v k = zp h v k) : cFix h' X := by
  have f0 := f.1
  have key : ∀ v, cFixed X v → ∀ k, zp h' v k = zp h v k := by
    intro v hv k
    by_cases hs : S v
    · exact hS v hv hs k
    · have hl : v < zn h := by
        rcases hv with rfl | rfl | rfl | ⟨d, hd, rfl⟩ <;> omega
      rw [((e.2 v hl).2.2 hs).2]
  exact cFix.on e f (fun v k hv _ _ => key v hv k) (fun k => key _ (Or.inr (Or.inr (Or.inl rfl))) k) (key _ (Or.inr (Or.inl rfl)) 3)
/-- the log stays where its cells stay -/
theorem cLog.ext {S : Nat → Prop} {h h' : Zh} {X : Nat} {ca : Nat → Nat} {m : Ml} (e : zExt S h h') (f0 : X + 94 ≤ zn h) (c : cLog h X ca m) (h0 : zi h' X 1 = zi h X 1) (hp : ∀ k, zp h' (X + 1) k = zp h (X + 1) k) (hS : ∀ c, c < mnc m → ¬ S (ca c) ∧ ¬ S (ca c + 1)) : cLog h' X ca m := by
  obtain ⟨c1, c2, c3⟩ := c
  refine ⟨h0.trans c1, fun c hc => ?_, c3⟩
  obtain ⟨d1, d2, d3, d4, d5, d6, d7, d8, d9, d10⟩ := c2 c hc
  obtain ⟨s1, s2⟩ := hS c hc
  obtain ⟨e1, e2, e3⟩ := e.2 (ca c) (by omega)
  obtain ⟨g1, g2, g3⟩ := e.2 (ca c + 1) d3
  have e4 := e3 s1
  have g4 := g3 s2
  refine ⟨(hp c).trans d1, d2, Nat.lt_of_lt_of_le d3 e.1.1, e1.trans d4, by rw [e4.2]; exact d5, g1.trans d6, g2.trans d7, by rw [e4.1]; exact d8, by rw [e4.1]; exact d9, fun i w hi hw => by rw [g4.1]; exact d10 i w hi hw⟩
