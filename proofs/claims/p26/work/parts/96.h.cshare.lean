/-! found on the class's side: a share -/
def iO (Q : Nat → Nat → Prop) (h h' : Zh) : Prop := (zn h' = zn h ∧ zs h' = zs h ∧ zk h' = zk h ∧ zl h' = zl h ∧ zp h' = zp h) ∧ ∀ u k, ¬ Q u k → zi h' u k = zi h u k
theorem iO.rf {Q : Nat → Nat → Prop} {h : Zh} : iO Q h h := ⟨⟨rfl, rfl, rfl, rfl, rfl⟩, fun _ _ _ => rfl⟩
theorem iO.tr {Q : Nat → Nat → Prop} {h h1 h2 : Zh} (a : iO Q h h1) (b : iO Q h1 h2) : iO Q h h2 := by
  obtain ⟨⟨a1, a2, a3, a4, a5⟩, a6⟩ := a
  obtain ⟨⟨b1, b2, b3, b4, b5⟩, b6⟩ := b
  exact ⟨⟨b1.trans a1, b2.trans a2, b3.trans a3, b4.trans a4, b5.trans a5⟩, fun u k n => (b6 u k n).trans (a6 u k n)⟩
theorem iO.mono {Q Q' : Nat → Nat → Prop} {h h' : Zh} (a : iO Q h h') (e : ∀ u k, Q u k → Q' u k) : iO Q' h h' := ⟨a.1, fun u k n => a.2 u k (fun z => n (e u k z))⟩
theorem iO.s {Q : Nat → Nat → Prop} {h : Zh} {v k : Nat} {x : Int32} (hv : Q v k) : iO Q h (zsetI h v k x) := ⟨⟨rfl, rfl, rfl, rfl, rfl⟩, fun u j n => by
  rw [zi_sI]
  exact u2_n (fun z => n (by rw [z.1, z.2]; exact hv))⟩
/-- a share at S, its rows behind it -/
def Shf (h : Zh) (S : Nat) : Prop := S + 6 < zn h ∧ zk h S = 5 ∧ (zp h S 0 = some (S + 1) ∧ zk h (S + 1) = 100 ∧ zl h (S + 1) = 144) ∧ ∀ q, q < 5 → zp h S (5 + q) = some (S + 2 + q) ∧ zk h (S + 2 + q) = 100 ∧ zl h (S + 2 + q) = 12
theorem Shf.on {Q : Nat → Nat → Prop} {h h' : Zh} {S : Nat} (o : iO Q h h') (f : Shf h S) : Shf h' S := by
  obtain ⟨⟨n, s, k, l, p⟩, -⟩ := o
  unfold Shf
  rw [n, k, l, p]
  exact f
theorem cFix.sh {h : Zh} {X d : Nat} (f : cFix h X) (hd : d < 12) : Shf h (X + 10 + 7 * d) := by
  have f0 := f.1
  obtain ⟨-, -, -, -, -, -, -, -, g⟩ := f
  obtain ⟨g1, g2, ⟨g3, g4, g5⟩, g6⟩ := g d hd
  have e1 : X + 10 + 7 * d + 1 = X + 11 + 7 * d := by omega
  refine ⟨by omega, g2, ⟨by rw [e1]; exact g3, by rw [e1]; exact g4, by rw [e1]; exact g5⟩, fun q hq => ?_⟩
  have e2 : X + 10 + 7 * d + 2 + q = X + 12 + 7 * d + q := by omega
  rw [e2]
  exact g6 q hq
section SHA
variable {h : Zh} {S : Nat}
theorem Shf.ob (f : Shf h S) : zob h (some S) 5 = some S := zob_v (by have := f.1; omega) f.2.1
theorem Shf.fI (f : Shf h S) (k : Nat) : zfI h (some S) 4 k = some (zi h S k) := zfI_v (by have := f.1; omega) f.2.1
theorem Shf.gI (f : Shf h S) (k : Nat) (x : Int32) : zgI h (some S) 4 k x = some (zsetI h S k x) := zgI_v (by have := f.1; omega) f.2.1
theorem Shf.p0 (f : Shf h S) : zfP h (some S) 4 0 = some (some (S + 1)) := by rw [zfP_v (by have := f.1; omega) f.2.1, f.2.2.1.1]
theorem Shf.a1 (f : Shf h S) {i : Nat} (hi : i < 144) : zaI h (some (S + 1)) (nI i) = some (zi h (S + 1) i) := zaI_v (n := 144) (by have := f.1; omega) f.2.2.1.2.1 f.2.2.1.2.2 hi (by omega)
theorem Shf.b1 (f : Shf h S) {i : Nat} (hi : i < 144) (x : Int32) : zbI h (some (S + 1)) (nI i) x = some (zsetI h (S + 1) i x) := zbI_v (n := 144) (by have := f.1; omega) f.2.2.1.2.1 f.2.2.1.2.2 hi (by omega)
theorem Shf.l1 (f : Shf h S) : zaL h (some (S + 1)) 0 = some (nI 144) := by rw [zaL_v (t := 0) (by have := f.1; omega) f.2.2.1.2.1, f.2.2.1.2.2]
theorem Shf.pq (f : Shf h S) (q : Nat) (hq : q < 5) : zfP h (some S) 4 (5 + q) = some (some (S + 2 + q)) := by rw [zfP_v (by have := f.1; omega) f.2.1, (f.2.2.2 q hq).1]
theorem Shf.aq (f : Shf h S) (q : Nat) (hq : q < 5) {i : Nat} (hi : i < 12) : zaI h (some (S + 2 + q)) (nI i) = some (zi h (S + 2 + q) i) := zaI_v (n := 12) (by have := f.1; omega) (f.2.2.2 q hq).2.1 (f.2.2.2 q hq).2.2 hi (by omega)
theorem Shf.bq (f : Shf h S) (q : Nat) (hq : q < 5) {i : Nat} (hi : i < 12) (x : Int32) : zbI h (some (S + 2 + q)) (nI i) x = some (zsetI h (S + 2 + q) i x) := zbI_v (n := 12) (by have := f.1; omega) (f.2.2.2 q hq).2.1 (f.2.2.2 q hq).2.2 hi (by omega)
theorem Shf.lq (f : Shf h S) (q : Nat) (hq : q < 5) : zaL h (some (S + 2 + q)) 0 = some (nI 12) := by rw [zaL_v (t := 0) (by have := f.1; omega) (f.2.2.2 q hq).2.1, (f.2.2.2 q hq).2.2]
theorem Shf.p5 (f : Shf h S) : zfP h (some S) 4 5 = some (some (S + 2)) := f.pq 0 (by omega)
theorem Shf.a2 (f : Shf h S) {i : Nat} (hi : i < 12) : zaI h (some (S + 2)) (nI i) = some (zi h (S + 2) i) := f.aq 0 (by omega) hi
theorem Shf.b2 (f : Shf h S) {i : Nat} (hi : i < 12) (x : Int32) : zbI h (some (S + 2)) (nI i) x = some (zsetI h (S + 2) i x) := f.bq 0 (by omega) hi x
theorem Shf.p6 (f : Shf h S) : zfP h (some S) 4 6 = some (some (S + 3)) := f.pq 1 (by omega)
theorem Shf.a3 (f : Shf h S) {i : Nat} (hi : i < 12) : zaI h (some (S + 3)) (nI i) = some (zi h (S + 3) i) := f.aq 1 (by omega) hi
theorem Shf.b3 (f : Shf h S) {i : Nat} (hi : i < 12) (x : Int32) : zbI h (some (S + 3)) (nI i) x = some (zsetI h (S + 3) i x) := f.bq 1 (by omega) hi x
theorem Shf.p7 (f : Shf h S) : zfP h (some S) 4 7 = some (some (S + 4)) := f.pq 2 (by omega)
theorem Shf.a4 (f : Shf h S) {i : Nat} (hi : i < 12) : zaI h (some (S + 4)) (nI i) = some (zi h (S + 4) i) := f.aq 2 (by omega) hi
theorem Shf.b4 (f : Shf h S) {i : Nat} (hi : i < 12) (x : Int32) : zbI h (some (S + 4)) (nI i) x = some (zsetI h (S + 4) i x) := f.bq 2 (by omega) hi x
theorem Shf.p8 (f : Shf h S) : zfP h (some S) 4 8 = some (some (S + 5)) := f.pq 3 (by omega)
theorem Shf.a5 (f : Shf h S) {i : Nat} (hi : i < 12) : zaI h (some (S + 5)) (nI i) = some (zi h (S + 5) i) := f.aq 3 (by omega) hi
theorem Shf.b5 (f : Shf h S) {i : Nat} (hi : i < 12) (x : Int32) : zbI h (some (S + 5)) (nI i) x = some (zsetI h (S + 5) i x) := f.bq 3 (by omega) hi x
theorem Shf.p9 (f : Shf h S) : zfP h (some S) 4 9 = some (some (S + 6)) := f.pq 4 (by omega)
theorem Shf.a6 (f : Shf h S) {i : Nat} (hi : i < 12) : zaI h (some (S + 6)) (nI i) = some (zi h (S + 6) i) := f.aq 4 (by omega) hi
theorem Shf.b6 (f : Shf h S) {i : Nat} (hi : i < 12) (x : Int32) : zbI h (some (S + 6)) (nI i) x = some (zsetI h (S + 6) i x) := f.bq 4 (by omega) hi x
theorem Shf.l6 (f : Shf h S) : zaL h (some (S + 6)) 0 = some (nI 12) := f.lq 4 (by omega)
theorem Shf.fill (f : Shf h S) (q : Nat) (hq : q < 5) : zS (fJ7_fill_53178 h (some (S + 2 + q)) 0) (fun h' => iO (fun u _ => u = S + 2 + q) h h' ∧ ∀ j, j < 12 → zi h' (S + 2 + q) j = 0) := by
  unfold fJ7_fill_53178
  rw [f.lq q hq, Option.bind_some]
  refine zS.b (zS.up (fun i h' => iO (fun u _ => u = S + 2 + q) h h' ∧ ∀ j, j < i → zi h' (S + 2 + q) j = 0) 0 12 (fun i h' _ hi hJ => ?_) (fun h' hJ => ?_) (Nat.zero_le _) (by omega) ⟨iO.rf, fun j z => absurd z (Nat.not_lt_zero _)⟩) (fun r hr => zS.s hr)
  · dsimp only
    rw [if_neg (nI_nle' (by omega) hi), (f.on hJ.1).bq q hq hi, Option.bind_some]
    refine zS.s ⟨_, by rw [nI_1], hJ.1.tr (iO.s rfl), fun j hj => ?_⟩
    rw [zi_sI]
    by_cases c : j = i
    · subst c; exact u2_s
    · rw [u2_n (fun z => c z.2)]; exact hJ.2 j (by omega)
  · dsimp only
    rw [if_pos (nI_le (Nat.le_refl _) (by omega))]
    exact zS.s ⟨_, rfl, hJ⟩
end SHA
/-- the rows of a share -/
def shR (h : Zh) (S : Nat) (l : Rw) : Prop := l.length ≤ 144 ∧ zi h S 1 = nI l.length ∧ ∀ i, i < l.length → zi h (S + 1) i = nI (rwN (l.getD i []))
theorem shR.on {Q : Nat → Nat → Prop} {h h' : Zh} {S : Nat} {l : Rw} (o : iO Q h h') (r : shR h S l) (h1 : ¬ Q S 1) (h2 : ∀ i, i < l.length → ¬ Q (S + 1) i) : shR h' S l := ⟨r.1, (o.2 _ _ h1).trans r.2.1, fun i hi => (o.2 _ _ (h2 i hi)).trans (r.2.2 i hi)⟩
theorem app_gd {l : Rw} {x : List Nat} {i : Nat} (hi : i < l.length + 1) : (l ++ [x]).getD i [] = if i < l.length then l.getD i [] else x := by
  by_cases c : i < l.length
  · rw [if_pos c, List.getD_eq_getElem?_getD, List.getD_eq_getElem?_getD, List.getElem?_append_left c]
  · have : i = l.length := by omega
    subst this
    rw [if_neg c, List.getD_eq_getElem?_getD, List.getElem?_append_right (Nat.le_refl _), Nat.sub_self]; rfl
theorem cputr_eq {h : Zh} {S : Nat} {l : Rw} {x : List Nat} (f : Shf h S) (r : shR h S l) (hl : l.length < 144) : ∃ h', fX3_put h (some S) (nI (rwN x)) = some h' ∧ shR h' S (l ++ [x]) ∧ iO (fun u k => (u = S ∧ k = 1) ∨ (u = S + 1 ∧ k = l.length)) h h' := by
  have o1 : iO (fun u k => (u = S ∧ k = 1) ∨ (u = S + 1 ∧ k = l.length)) h (zsetI h (S + 1) l.length (nI (rwN x))) := iO.s (Or.inr ⟨rfl, rfl⟩)
  have f1 := f.on o1
  have e1 : zi (zsetI h (S + 1) l.length (nI (rwN x))) S 1 = nI l.length := by
    rw [zi_sI, u2_a (by omega)]; exact r.2.1
  have el : (l ++ [x]).length = l.length + 1 := by rw [List.length_append]; rfl
  unfold fX3_put
  rw [f.fI, Option.bind_some, f.p0, Option.bind_some, f.l1, Option.bind_some, r.2.1, if_pos (nI_lt hl (by omega)), Option.bind_some, Option.bind_some, f.b1 (by omega), Option.bind_some, f1.fI, Option.bind_some, e1, f1.gI, Option.bind_some, nI_1]
  refine ⟨_, rfl, ⟨by rw [el]; omega, ?_, fun i hi => ?_⟩, o1.tr (iO.s (Or.inl ⟨rfl, rfl⟩))⟩
  · rw [zi_sI, u2_s, el]
  · rw [el] at hi
    rw [zi_sI, u2_a (by omega), zi_sI, app_gd hi]
    by_cases c : i < l.length
    · rw [if_pos c, u2_n (by omega)]; exact r.2.2 i c
    · have : i = l.length := by omega
      subst this
      rw [if_neg c, u2_s]
theorem cleave_eq {h : Zh} {S : Nat} {l : Rw} (ok : xOK l) (f : Shf h S) (r : shR h S l) : zS (fX3_leaveOutEmpty h (some S)) (fun h' => shR h' S (xNe l) ∧ iO (fun u k => (u = S ∧ k = 1) ∨ u = S + 1) h h') := by
  have l144 := r.1
  unfold fX3_leaveOutEmpty
  rw [f.fI, Option.bind_some, f.gI, Option.bind_some, r.2.1]
  have o1 : iO (fun u k => (u = S ∧ k = 1) ∨ (u = S + 1 ∧ k < 0)) h (zsetI h S 1 0) := iO.s (Or.inl ⟨rfl, rfl⟩)
  refine zS.b (zS.up (fun i h' => shR h' S (xNe (l.take i)) ∧ iO (fun u k => (u = S ∧ k = 1) ∨ (u = S + 1 ∧ k < i)) h h') 0 l.length (fun i h' _ hi hJ => ?_) (fun h' hJ => ?_) (Nat.zero_le _) (by omega) ⟨⟨Nat.zero_le _, by rw [zi_sI, u2_s]; exact nI_0.symm, fun i z => absurd z (Nat.not_lt_zero _)⟩, o1⟩) (fun r hr => zS.s hr)
  · obtain ⟨r', o⟩ := hJ
    have f' := f.on o
    have rm : l.getD i [] ∈ l := gd_memP hi
    have rok := ok.1 _ rm
    have xs := xNe_S hi
    have xl : (xNe (l.take i)).length ≤ i := Nat.le_trans (xNe_len _) (by rw [List.length_take]; omega)
    have e := (o.2 (S + 1) i (by omega)).trans (r.2.2 i hi)
    dsimp only
    rw [if_neg (nI_nle' (by omega) hi), f'.p0, Option.bind_some, f'.a1 (by omega), Option.bind_some, e]
    by_cases c : l.getD i [] = []
    · rw [if_pos ((rwN_0 rok).mpr c), Option.bind_some]
      refine zS.s ⟨_, by rw [nI_1], ?_, o.mono (fun u k z => by omega)⟩
      rw [xs, if_pos (by rw [c]; rfl), List.append_nil]
      exact r'
    · obtain ⟨h2, q1, q2, q3⟩ := cputr_eq (x := l.getD i []) f' r' (by omega)
      rw [if_neg (fun z => c ((rwN_0 rok).mp z)), Option.bind_some, f'.a1 (by omega), Option.bind_some, f'.ob, Option.bind_some, e, q1, Option.bind_some, Option.bind_some]
      refine zS.s ⟨_, by rw [nI_1], ?_, (o.mono (fun u k z => by omega)).tr (q3.mono (fun u k z => by omega))⟩
      rw [xs, if_neg (fun z => c (List.eq_nil_of_length_eq_zero z))]
      exact q2
  · dsimp only
    rw [if_pos (nI_le (Nat.le_refl _) (by omega))]
    refine zS.s ⟨_, rfl, ?_, hJ.2.mono (fun u k z => by omega)⟩
    have := hJ.1
    rw [List.take_length] at this
    exact this
theorem clong_eq {h : Zh} {S : Nat} {l : Rw} (ok : xOK l) (f : Shf h S) (r : shR h S l) : zS (fX3_hasLongRow h (some S)) (fun x => isB x (∃ r, r ∈ l ∧ 1 < r.length)) := by
  have l144 := r.1
  unfold fX3_hasLongRow
  refine zS.b (R1 := fun q : Unit ⊕ Int32 => (q = .inl () ∧ ¬ ∃ r, r ∈ l ∧ 1 < r.length) ∨ (q = .inr 1 ∧ ∃ r, r ∈ l ∧ 1 < r.length)) (zS.gen (fun k (_ : Unit) => nI k) (fun k _ => ∀ i, i < k → ¬ 1 < (l.getD i []).length) 0 l.length (fun k _ _ hk hJ => ?_) (fun _ hJ => ?_) (Nat.zero_le _) (by omega) (x0 := ()) (fun i z => absurd z (Nat.not_lt_zero _))) (fun q hq => ?_)
  · have rm : l.getD k [] ∈ l := gd_memP hk
    rw [f.fI, Option.bind_some, r.2.1, if_neg (nI_nle' (by omega) hk), f.p0, Option.bind_some, f.a1 (by omega), Option.bind_some, r.2.2 k hk, show (1 : Int32) = nI 1 from rfl, cnmi_eq (ok.1 _ rm) (by omega), Option.bind_some]
    by_cases c : 1 < (l.getD k []).length
    · rw [if_pos c, if_neg (n3_nI ((ok.1 _ rm).2 1 c))]
      exact zS.s (Or.inr ⟨_, rfl, Or.inr ⟨rfl, _, rm, c⟩⟩)
    · rw [if_neg c, if_pos rfl]
      refine zS.s (Or.inl ⟨(), by rw [nI_add], fun i hi => ?_⟩)
      by_cases d : i = k
      · subst d; exact c
      · exact hJ i (by omega)
  · rw [f.fI, Option.bind_some, r.2.1, if_pos (nI_le (Nat.le_refl _) (by omega))]
    refine zS.s ⟨_, rfl, Or.inl ⟨rfl, ?_⟩⟩
    rintro ⟨r', h1, h2⟩
    obtain ⟨i, h3, h4⟩ := List.getElem_of_mem h1
    have := hJ i h3
    rw [List.getD_eq_getElem?_getD, List.getElem?_eq_getElem h3] at this
    exact this (by show 1 < (l[i]).length; rw [h4]; exact h2)
  · rcases hq with ⟨rfl, n⟩ | ⟨rfl, p⟩
    · exact zS.s (isB.f n)
    · exact zS.s (isB.t p)
