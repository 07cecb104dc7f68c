/-! found on the class's side: what is seen in a share's rows -/
def SL (h : Zh) (S : Nat) (N B E : Nat → Prop) (G : Nat → Nat → Prop) : Prop := sM (zi h S 2) N ∧ sM (zi h S 3) B ∧ sM (zi h S 4) E ∧ (∀ u, u < 12 → sM (zi h (S + 2) u) (fun v => G u v)) ∧ ∀ v, v < 12 → sM (zi h (S + 3) v) (fun u => G u v)
theorem SL.c {h : Zh} {S : Nat} {N B E N' B' E' : Nat → Prop} {G G' : Nat → Nat → Prop} (s : SL h S N B E G) (h1 : ∀ v, N v ↔ N' v) (h2 : ∀ v, B v ↔ B' v) (h3 : ∀ v, E v ↔ E' v) (h4 : ∀ u v, G u v ↔ G' u v) : SL h S N' B' E' G' :=
  ⟨s.1.c (fun v _ => h1 v), s.2.1.c (fun v _ => h2 v), s.2.2.1.c (fun v _ => h3 v), fun u hu => (s.2.2.2.1 u hu).c (fun v _ => h4 u v), fun v hv => (s.2.2.2.2 v hv).c (fun u _ => h4 u v)⟩
theorem SL.on {Q : Nat → Nat → Prop} {h h' : Zh} {S : Nat} {N B E : Nat → Prop} {G : Nat → Nat → Prop} (o : iO Q h h') (s : SL h S N B E G) (h1 : ¬ Q S 2 ∧ ¬ Q S 3 ∧ ¬ Q S 4) (h2 : ∀ k, ¬ Q (S + 2) k ∧ ¬ Q (S + 3) k) : SL h' S N B E G := by
  obtain ⟨s1, s2, s3, s4, s5⟩ := s
  refine ⟨?_, ?_, ?_, fun u hu => ?_, fun v hv => ?_⟩
  · rw [o.2 _ _ h1.1]; exact s1
  · rw [o.2 _ _ h1.2.1]; exact s2
  · rw [o.2 _ _ h1.2.2]; exact s3
  · rw [o.2 _ _ (h2 u).1]; exact s4 u hu
  · rw [o.2 _ _ (h2 v).2]; exact s5 v hv
theorem pN_s {l : Rw} {i j v : Nat} : pN l i (j + 1) v ↔ pN l i j v ∨ v = (l.getD i []).getD j 0 := by
  unfold pN
  constructor
  · rintro (a | ⟨k, k1, k2⟩)
    · exact Or.inl (Or.inl a)
    · by_cases c : k = j
      · subst c; exact Or.inr k2.symm
      · exact Or.inl (Or.inr ⟨k, by omega, k2⟩)
  · rintro ((a | ⟨k, k1, k2⟩) | e)
    · exact Or.inl a
    · exact Or.inr ⟨k, by omega, k2⟩
    · exact Or.inr ⟨j, by omega, e.symm⟩
theorem pB_s {l : Rw} {i j v : Nat} : pB l i (j + 1) v ↔ pB l i j v ∨ (j = 0 ∧ v = (l.getD i []).getD j 0) := by
  unfold pB
  constructor
  · rintro (a | ⟨k1, k2⟩)
    · exact Or.inl (Or.inl a)
    · by_cases c : j = 0
      · subst c; exact Or.inr ⟨rfl, k2.symm⟩
      · exact Or.inl (Or.inr ⟨by omega, k2⟩)
  · rintro ((a | ⟨k1, k2⟩) | ⟨rfl, e⟩)
    · exact Or.inl a
    · exact Or.inr ⟨by omega, k2⟩
    · exact Or.inr ⟨by omega, e.symm⟩
theorem pG_s {l : Rw} {i j u v : Nat} : pG l i (j + 1) u v ↔ pG l i j u v ∨ (0 < j ∧ u = (l.getD i []).getD (j - 1) 0 ∧ v = (l.getD i []).getD j 0) := by
  unfold pG
  constructor
  · rintro (a | ⟨k, k1, k2, k3⟩)
    · exact Or.inl (Or.inl a)
    · by_cases c : k + 1 = j
      · subst c
        rw [Nat.add_sub_cancel]
        exact Or.inr ⟨by omega, k2.symm, k3.symm⟩
      · exact Or.inl (Or.inr ⟨k, by omega, k2, k3⟩)
  · rintro ((a | ⟨k, k1, k2⟩) | ⟨j0, e1, e2⟩)
    · exact Or.inl a
    · exact Or.inr ⟨k, by omega, k2⟩
    · exact Or.inr ⟨j - 1, by omega, e1.symm, by rw [Nat.sub_add_cancel j0]; exact e2.symm⟩
theorem pE_s {l : Rw} {i v : Nat} (hi : i < l.length) : pE l (i + 1) 0 v ↔ pE l i 0 v ∨ (0 < (l.getD i []).length ∧ v = (l.getD i []).getD ((l.getD i []).length - 1) 0) := by
  unfold pE
  constructor
  · rintro (⟨a, a1, a2, k, k1, k2⟩ | ⟨k, k1, k2⟩)
    · by_cases c : a = i
      · subst c
        refine Or.inr ⟨by omega, ?_⟩
        rw [← k1, Nat.add_sub_cancel]
        exact k2.symm
      · exact Or.inl (Or.inl ⟨a, by omega, a2, k, k1, k2⟩)
    · omega
  · rintro ((⟨a, a1, a2⟩ | ⟨k, k1, k2⟩) | ⟨e0, e⟩)
    · exact Or.inl ⟨a, by omega, a2⟩
    · omega
    · exact Or.inl ⟨i, by omega, hi, _, Nat.sub_add_cancel e0, e.symm⟩
theorem pN_r {l : Rw} {i v : Nat} (hi : i < l.length) : pN l i (l.getD i []).length v ↔ pN l (i + 1) 0 v := by
  unfold pN
  constructor
  · rintro (⟨a, a1, a2⟩ | ⟨k, k1, k2⟩)
    · exact Or.inl ⟨a, by omega, a2⟩
    · exact Or.inl ⟨i, by omega, hi, k, k1, k2⟩
  · rintro (⟨a, a1, a2, k, k1, k2⟩ | ⟨k, k1, k2⟩)
    · by_cases c : a = i
      · subst c; exact Or.inr ⟨k, k1, k2⟩
      · exact Or.inl ⟨a, by omega, a2, k, k1, k2⟩
    · omega
theorem pB_r {l : Rw} {i v : Nat} (hi : i < l.length) : pB l i (l.getD i []).length v ↔ pB l (i + 1) 0 v := by
  unfold pB
  constructor
  · rintro (⟨a, a1, a2⟩ | ⟨k1, k2⟩)
    · exact Or.inl ⟨a, by omega, a2⟩
    · exact Or.inl ⟨i, by omega, hi, k1, k2⟩
  · rintro (⟨a, a1, a2, k1, k2⟩ | ⟨k1, k2⟩)
    · by_cases c : a = i
      · subst c; exact Or.inr ⟨k1, k2⟩
      · exact Or.inl ⟨a, by omega, a2, k1, k2⟩
    · omega
theorem pG_r {l : Rw} {i u v : Nat} (hi : i < l.length) : pG l i (l.getD i []).length u v ↔ pG l (i + 1) 0 u v := by
  unfold pG
  constructor
  · rintro (⟨a, a1, a2⟩ | ⟨k, k1, k2, k3⟩)
    · exact Or.inl ⟨a, by omega, a2⟩
    · exact Or.inl ⟨i, by omega, hi, k, k1, k2, k3⟩
  · rintro (⟨a, a1, a2, k, k1, k2⟩ | ⟨k, k1, k2⟩)
    · by_cases c : a = i
      · subst c; exact Or.inr ⟨k, k1, k2⟩
      · exact Or.inl ⟨a, by omega, a2, k, k1, k2⟩
    · omega
abbrev sLk2 (S u k : Nat) : Prop := (u = S ∧ (k = 2 ∨ k = 3 ∨ k = 4)) ∨ u = S + 2 ∨ u = S + 3
/-- a row is looked at -/
theorem clookat_eq {h : Zh} {S i : Nat} {l : Rw} (ok : xOK l) (hi : i < l.length) (f : Shf h S) (s : SL h S (pN l i 0) (pB l i 0) (pE l i 0) (pG l i 0)) : zS (fX3_lookAt h (some S) (nI (rwN (l.getD i [])))) (fun h' => SL h' S (pN l (i + 1) 0) (pB l (i + 1) 0) (pE l (i + 1) 0) (pG l (i + 1) 0) ∧ iO (sLk2 S) h h') := by
  have rok := ok.1 _ (gd_memP (d := []) hi)
  have l6 := rok.1
  have e1 := fun v => pN_r (v := v) hi
  have e2 := fun v => pB_r (v := v) hi
  have e3 := fun v => pE_s (v := v) hi
  have e4 := fun u v => pG_r (u := u) (v := v) hi
  have n1 := fun j v => pN_s (l := l) (i := i) (j := j) (v := v)
  have n2 := fun j v => pB_s (l := l) (i := i) (j := j) (v := v)
  have n4 := fun j u v => pG_s (l := l) (i := i) (j := j) (u := u) (v := v)
  generalize l.getD i [] = r at *
  unfold fX3_lookAt
  refine zS.b (R1 := fun q : Int32 × Zh => q.1 = (if r.length = 0 then -3 else nI (r.getD (r.length - 1) 0)) ∧ SL q.2 S (pN l i r.length) (pB l i r.length) (pE l i 0) (pG l i r.length) ∧ iO (sLk2 S) h q.2) (zS.gen (fun k (b : Int32 × Zh) => (b.1, nI k, b.2)) (fun k b => b.1 = (if k = 0 then -3 else nI (r.getD (k - 1) 0)) ∧ SL b.2 S (pN l i k) (pB l i k) (pE l i 0) (pG l i k) ∧ iO (sLk2 S) h b.2) 0 r.length (fun k b _ hk hJ => ?_) (fun b hJ => ?_) (Nat.zero_le _) (by omega) (x0 := ((-3 : Int32), h)) ⟨rfl, s, iO.rf⟩) (fun q hq => ?_)
  · obtain ⟨w, h1⟩ := b
    obtain ⟨ew, s1, o⟩ := hJ
    dsimp only at ew s1 o ⊢
    have f1 := f.on o
    have v12 := rok.2 k hk
    rw [if_neg (show ¬ (6 : Int32) ≤ nI k from nI_nle' (b := 6) (by omega) (by omega)), cnmi_eq rok (by omega), Option.bind_some, if_pos hk, if_neg (n3_nI v12), f1.fI, Option.bind_some, f1.gI, Option.bind_some]
    obtain ⟨t1, t2, t3, t4, t5⟩ := s1
    have oN : iO (fun u k => u = S ∧ k = 2) h1 (zsetI h1 S 2 (zi h1 S 2 ||| bI (r.getD k 0))) := iO.s ⟨rfl, rfl⟩
    have zN : zi (zsetI h1 S 2 (zi h1 S 2 ||| bI (r.getD k 0))) S 2 = zi h1 S 2 ||| bI (r.getD k 0) := u2_s
    show zS ((if w = (-3 : Int32) then (zfI (zsetI h1 S 2 (zi h1 S 2 ||| bI (r.getD k 0))) (some S) 4 3).bind _ else _).bind _) _
    generalize eh2 : zsetI h1 S 2 (zi h1 S 2 ||| bI (r.getD k 0)) = h2 at oN zN
    have f2 := f1.on oN
    have a2 : sM (zi h2 S 2) (pN l i (k + 1)) := by
      rw [zN]
      exact (t1.or (sM_bit v12)).c (fun v _ => (n1 k v).symm)
    by_cases k0 : k = 0
    · rw [if_pos k0] at ew
      rw [if_pos ew, f2.fI, Option.bind_some, f2.gI, Option.bind_some, Option.bind_some]
      have o3 : iO (fun u k => u = S ∧ k = 3) h2 (zsetI h2 S 3 (zi h2 S 3 ||| bI (r.getD k 0))) := iO.s ⟨rfl, rfl⟩
      have z3 : zi (zsetI h2 S 3 (zi h2 S 3 ||| bI (r.getD k 0))) S 3 = zi h2 S 3 ||| bI (r.getD k 0) := u2_s
      show zS (some (Sum.inl (nI (r.getD k 0), nI k + (1 : Int32), zsetI h2 S 3 (zi h2 S 3 ||| bI (r.getD k 0))))) _
      generalize zsetI h2 S 3 (zi h2 S 3 ||| bI (r.getD k 0)) = h3 at o3 z3 ⊢
      refine zS.s (Or.inl ⟨(nI (r.getD k 0), h3), by rw [nI_1], ?_, ⟨?_, ?_, ?_, fun u hu => ?_, fun v hv => ?_⟩, (o.tr (oN.mono (fun u k z => by omega))).tr (o3.mono (fun u k z => by omega))⟩)
      · dsimp only; rw [if_neg (by omega), Nat.add_sub_cancel]
      · dsimp only; rw [o3.2 S 2 (by omega)]; exact a2
      · dsimp only
        rw [z3, oN.2 S 3 (by omega)]
        exact (t2.or (sM_bit v12)).c (fun v _ => ⟨fun z => (n2 k v).mpr (z.imp id (fun y => ⟨k0, y⟩)), fun z => ((n2 k v).mp z).imp id (fun y => y.2)⟩)
      · dsimp only; rw [o3.2 S 4 (by omega), oN.2 S 4 (by omega)]; exact t3
      · dsimp only; rw [o3.2 (S + 2) u (by omega), oN.2 (S + 2) u (by omega)]
        exact (t4 u hu).c (fun v _ => ⟨fun z => (n4 k u v).mpr (Or.inl z), fun z => ((n4 k u v).mp z).elim id (fun y => by omega)⟩)
      · dsimp only; rw [o3.2 (S + 3) v (by omega), oN.2 (S + 3) v (by omega)]
        exact (t5 v hv).c (fun u _ => ⟨fun z => (n4 k u v).mpr (Or.inl z), fun z => ((n4 k u v).mp z).elim id (fun y => by omega)⟩)
    · rw [if_neg k0] at ew
      have y12 := rok.2 (k - 1) (by omega)
      rw [ew, if_neg (n3_nI y12), f2.p5, Option.bind_some, f2.a2 y12, Option.bind_some, f2.b2 y12, Option.bind_some]
      generalize ey : r.getD (k - 1) 0 = y at *
      generalize ex : r.getD k 0 = x at *
      have o3 : iO (fun u k => u = S + 2 ∧ k = y) h2 (zsetI h2 (S + 2) y (zi h2 (S + 2) y ||| bI x)) := iO.s ⟨rfl, rfl⟩
      have z3 : zi (zsetI h2 (S + 2) y (zi h2 (S + 2) y ||| bI x)) (S + 2) y = zi h2 (S + 2) y ||| bI x := u2_s
      show zS (((zfP (zsetI h2 (S + 2) y (zi h2 (S + 2) y ||| bI x)) (some S) 4 6).bind _).bind _) _
      generalize zsetI h2 (S + 2) y (zi h2 (S + 2) y ||| bI x) = h3 at o3 z3
      have f3 := f2.on o3
      rw [f3.p6, Option.bind_some, f3.a3 v12, Option.bind_some, f3.b3 v12, Option.bind_some, Option.bind_some]
      have o4 : iO (fun u k => u = S + 3 ∧ k = x) h3 (zsetI h3 (S + 3) x (zi h3 (S + 3) x ||| bI y)) := iO.s ⟨rfl, rfl⟩
      have z4 : zi (zsetI h3 (S + 3) x (zi h3 (S + 3) x ||| bI y)) (S + 3) x = zi h3 (S + 3) x ||| bI y := u2_s
      show zS (some (Sum.inl (nI x, nI k + (1 : Int32), zsetI h3 (S + 3) x (zi h3 (S + 3) x ||| bI y)))) _
      generalize zsetI h3 (S + 3) x (zi h3 (S + 3) x ||| bI y) = h4 at o4 z4 ⊢
      refine zS.s (Or.inl ⟨(nI x, h4), by rw [nI_1], ?_, ⟨?_, ?_, ?_, fun u hu => ?_, fun v hv => ?_⟩, ((o.tr (oN.mono (fun u k z => by omega))).tr (o3.mono (fun u k z => by omega))).tr (o4.mono (fun u k z => by omega))⟩)
      · dsimp only; rw [if_neg (by omega), Nat.add_sub_cancel, ex]
      · dsimp only; rw [o4.2 S 2 (by omega), o3.2 S 2 (by omega)]; exact a2
      · dsimp only; rw [o4.2 S 3 (by omega), o3.2 S 3 (by omega), oN.2 S 3 (by omega)]
        exact t2.c (fun v _ => ⟨fun z => (n2 k v).mpr (Or.inl z), fun z => ((n2 k v).mp z).elim id (fun y => absurd y.1 k0)⟩)
      · dsimp only; rw [o4.2 S 4 (by omega), o3.2 S 4 (by omega), oN.2 S 4 (by omega)]; exact t3
      · dsimp only; rw [o4.2 (S + 2) u (by omega)]
        by_cases c : u = y
        · subst c
          rw [z3, oN.2 (S + 2) u (by omega)]
          refine ((t4 u hu).or (sM_bit v12)).c (fun v _ => ⟨fun z => (n4 k u v).mpr (z.imp id (fun w => ⟨by omega, ey.symm, w.trans ex.symm⟩)), fun z => ((n4 k u v).mp z).imp id (fun w => w.2.2.trans ex)⟩)
        · rw [o3.2 (S + 2) u (by omega), oN.2 (S + 2) u (by omega)]
          exact (t4 u hu).c (fun v _ => ⟨fun z => (n4 k u v).mpr (Or.inl z), fun z => ((n4 k u v).mp z).elim id (fun w => absurd (w.2.1.trans ey) c)⟩)
      · dsimp only
        by_cases c : v = x
        · subst c
          rw [z4, o3.2 (S + 3) v (by omega), oN.2 (S + 3) v (by omega)]
          refine ((t5 v hv).or (sM_bit y12)).c (fun u _ => ⟨fun z => (n4 k u v).mpr (z.imp id (fun w => ⟨by omega, w.trans ey.symm, ex.symm⟩)), fun z => ((n4 k u v).mp z).imp id (fun w => w.2.1.trans ey)⟩)
        · rw [o4.2 (S + 3) v (by omega), o3.2 (S + 3) v (by omega), oN.2 (S + 3) v (by omega)]
          exact (t5 v hv).c (fun u _ => ⟨fun z => (n4 k u v).mpr (Or.inl z), fun z => ((n4 k u v).mp z).elim id (fun w => absurd (w.2.2.trans ex) c)⟩)
  · obtain ⟨w, h1⟩ := b
    obtain ⟨ew, s1, o⟩ := hJ
    dsimp only at ew s1 o ⊢
    by_cases c : r.length = 6
    · rw [if_pos (show (6 : Int32) ≤ nI r.length by rw [c]; decide)]
      exact zS.s ⟨_, rfl, ew, s1, o⟩
    · rw [if_neg (show ¬ (6 : Int32) ≤ nI r.length from nI_nle' (b := 6) (by omega) (by omega)), cnmi_eq rok (by omega), Option.bind_some, if_neg (Nat.lt_irrefl _), if_pos rfl]
      exact zS.s ⟨_, rfl, ew, s1, o⟩
  · obtain ⟨w, h1⟩ := q
    obtain ⟨ew, s1, o⟩ := hq
    dsimp only at ew s1 o ⊢
    have f1 := f.on o
    by_cases c : r.length = 0
    · rw [if_pos c] at ew
      rw [if_pos ew, Option.bind_some]
      exact zS.s ⟨s1.c e1 e2 (fun v => ⟨fun z => (e3 v).mpr (Or.inl z), fun z => ((e3 v).mp z).elim id (fun y => by omega)⟩) e4, o⟩
    · rw [if_neg c] at ew
      have y12 := rok.2 (r.length - 1) (by omega)
      rw [ew, if_neg (n3_nI y12), f1.fI, Option.bind_some, f1.gI, Option.bind_some, Option.bind_some]
      have o2 : iO (fun u k => u = S ∧ k = 4) h1 (zsetI h1 S 4 (zi h1 S 4 ||| bI (r.getD (r.length - 1) 0))) := iO.s ⟨rfl, rfl⟩
      refine zS.s ⟨⟨?_, ?_, ?_, fun u hu => ?_, fun v hv => ?_⟩, o.tr (o2.mono (fun u k z => by omega))⟩
      · rw [o2.2 S 2 (by omega)]; exact s1.1.c (fun v _ => e1 v)
      · rw [o2.2 S 3 (by omega)]; exact s1.2.1.c (fun v _ => e2 v)
      · rw [zi_sI, u2_s]
        exact (s1.2.2.1.or (sM_bit y12)).c (fun v _ => ⟨fun z => (e3 v).mpr (z.imp id (fun y => ⟨by omega, y⟩)), fun z => ((e3 v).mp z).imp id (fun y => y.2)⟩)
      · rw [o2.2 (S + 2) u (by omega)]; exact (s1.2.2.2.1 u hu).c (fun v _ => e4 u v)
      · rw [o2.2 (S + 3) v (by omega)]; exact (s1.2.2.2.2 v hv).c (fun u _ => e4 u v)
theorem clk_eq {h : Zh} {S : Nat} {l : Rw} (ok : xOK l) (f : Shf h S) (r : shR h S l) : zS (fX3_look h (some S)) (fun h' => SL h' S (xN l) (xB l) (xE l) (xG l) ∧ iO (sLk2 S) h h') := by
  have l144 := r.1
  unfold fX3_look
  have o1 : iO (fun u k => u = S ∧ (k = 2 ∨ k = 3 ∨ k = 4)) h (zsetI (zsetI (zsetI h S 2 0) S 3 0) S 4 0) := ((iO.s ⟨rfl, Or.inl rfl⟩).tr (iO.s ⟨rfl, Or.inr (Or.inl rfl)⟩)).tr (iO.s ⟨rfl, Or.inr (Or.inr rfl)⟩)
  have q2 : zi (zsetI (zsetI (zsetI h S 2 0) S 3 0) S 4 0) S 2 = 0 := by rw [zi_sI, u2_n (by omega), zi_sI, u2_n (by omega), zi_sI, u2_s]
  have q3 : zi (zsetI (zsetI (zsetI h S 2 0) S 3 0) S 4 0) S 3 = 0 := by rw [zi_sI, u2_n (by omega), zi_sI, u2_s]
  have q4 : zi (zsetI (zsetI (zsetI h S 2 0) S 3 0) S 4 0) S 4 = 0 := by rw [zi_sI, u2_s]
  have fa := f.on (iO.s (Q := fun _ _ => True) (v := S) (k := 2) (x := 0) trivial)
  have fb := fa.on (iO.s (Q := fun _ _ => True) (v := S) (k := 3) (x := 0) trivial)
  rw [f.gI, Option.bind_some, fa.gI, Option.bind_some, fb.gI, Option.bind_some]
  generalize zsetI (zsetI (zsetI h S 2 0) S 3 0) S 4 0 = h1 at *
  have f1 := f.on o1
  rw [f1.p5, Option.bind_some]
  refine zS.b (f1.fill 0 (by omega)) (fun h2 ⟨o2, e2⟩ => ?_)
  have f2 := f1.on o2
  rw [f2.p6, Option.bind_some]
  refine zS.b (f2.fill 1 (by omega)) (fun h3 ⟨o3, e3⟩ => ?_)
  have f3 := f2.on o3
  have O3 : iO (sLk2 S) h h3 := (o1.mono (fun u k z => by omega)).tr ((o2.mono (fun u k z => by omega)).tr (o3.mono (fun u k z => by omega)))
  have s0 : SL h3 S (pN l 0 0) (pB l 0 0) (pE l 0 0) (pG l 0 0) := by
    have zN : ∀ v, ¬ pN l 0 0 v := fun v z => z.elim (fun ⟨a, a1, _⟩ => by omega) (fun ⟨a, a1, _⟩ => by omega)
    have zB : ∀ v, ¬ pB l 0 0 v := fun v z => z.elim (fun ⟨a, a1, _⟩ => by omega) (fun ⟨a1, _⟩ => by omega)
    have zE : ∀ v, ¬ pE l 0 0 v := fun v z => z.elim (fun ⟨a, a1, _⟩ => by omega) (fun ⟨a, a1, _⟩ => by omega)
    have zG : ∀ u v, ¬ pG l 0 0 u v := fun u v z => z.elim (fun ⟨a, a1, _⟩ => by omega) (fun ⟨a, a1, _⟩ => by omega)
    refine ⟨?_, ?_, ?_, fun u hu => ?_, fun v hv => ?_⟩
    · rw [o3.2 S 2 (by omega), o2.2 S 2 (by omega), q2]; exact sM_0.c (fun v _ => ⟨fun z => z.elim, fun z => zN v z⟩)
    · rw [o3.2 S 3 (by omega), o2.2 S 3 (by omega), q3]; exact sM_0.c (fun v _ => ⟨fun z => z.elim, fun z => zB v z⟩)
    · rw [o3.2 S 4 (by omega), o2.2 S 4 (by omega), q4]; exact sM_0.c (fun v _ => ⟨fun z => z.elim, fun z => zE v z⟩)
    · rw [o3.2 (S + 2) u (by omega), e2 u hu]; exact sM_0.c (fun v _ => ⟨fun z => z.elim, fun z => zG u v z⟩)
    · rw [e3 v hv]; exact sM_0.c (fun u _ => ⟨fun z => z.elim, fun z => zG u v z⟩)
  refine zS.b (zS.up (fun i h' => SL h' S (pN l i 0) (pB l i 0) (pE l i 0) (pG l i 0) ∧ iO (sLk2 S) h h') 0 l.length (fun i h' _ hi hJ => ?_) (fun h' hJ => ?_) (Nat.zero_le _) (by omega) ⟨s0, O3⟩) (fun r hr => zS.s hr)
  · obtain ⟨s', o⟩ := hJ
    have f' := f.on o
    have r' := r.on o (by omega) (fun j _ => by omega)
    dsimp only
    rw [f'.fI, Option.bind_some, r'.2.1, if_neg (nI_nle' (by omega) hi), f'.p0, Option.bind_some, f'.a1 (by omega), Option.bind_some, r'.2.2 i hi, f'.ob, Option.bind_some]
    refine zS.b (clookat_eq ok hi f' s') (fun h2 hh => ?_)
    exact zS.s ⟨_, by rw [nI_1], hh.1, o.tr hh.2⟩
  · have r' := r.on hJ.2 (by omega) (fun j _ => by omega)
    dsimp only
    rw [(f.on hJ.2).fI, Option.bind_some, r'.2.1, if_pos (nI_le (Nat.le_refl _) (by omega))]
    refine zS.s ⟨_, rfl, hJ.1.c (fun v => ?_) (fun v => ?_) (fun v => ?_) (fun u v => ?_), hJ.2⟩
    · refine Iff.trans ?_ (ex_row (Q := fun r => ∃ i, i < r.length ∧ r.getD i 0 = v))
      exact ⟨fun z => z.elim (fun ⟨a, a1, _, a2⟩ => ⟨a, a1, a2⟩) (fun ⟨k, k1, _⟩ => absurd k1 (Nat.not_lt_zero _)), fun ⟨a, a1, a2⟩ => Or.inl ⟨a, a1, a1, a2⟩⟩
    · refine Iff.trans ?_ (ex_row (Q := fun r => 0 < r.length ∧ r.getD 0 0 = v))
      exact ⟨fun z => z.elim (fun ⟨a, a1, _, a2⟩ => ⟨a, a1, a2⟩) (fun ⟨k1, _⟩ => absurd k1 (Nat.not_lt_zero _)), fun ⟨a, a1, a2⟩ => Or.inl ⟨a, a1, a1, a2⟩⟩
    · refine Iff.trans ?_ (ex_row (Q := fun r => ∃ i, i + 1 = r.length ∧ r.getD i 0 = v))
      exact ⟨fun z => z.elim (fun ⟨a, a1, _, a2⟩ => ⟨a, a1, a2⟩) (fun ⟨k, k1, _⟩ => absurd k1 (Nat.not_lt_zero _)), fun ⟨a, a1, a2⟩ => Or.inl ⟨a, a1, a1, a2⟩⟩
    · refine Iff.trans ?_ (ex_row (Q := fun r => ∃ i, i + 1 < r.length ∧ r.getD i 0 = u ∧ r.getD (i + 1) 0 = v))
      exact ⟨fun z => z.elim (fun ⟨a, a1, _, a2⟩ => ⟨a, a1, a2⟩) (fun ⟨k, k1, _⟩ => absurd k1 (Nat.not_lt_zero _)), fun ⟨a, a1, a2⟩ => Or.inl ⟨a, a1, a1, a2⟩⟩
