/-! found on the class's side: what can be come to, parts by who is near whom -/
def cloS (G : Nat → Nat → Prop) (F : Nat → Prop) (v : Nat) : Prop := ∀ C : Nat → Prop, (∀ u, F u → C u) → (∀ a b, C a → G a b → C b) → C v
theorem cclosed_eq {h : Zh} {S q : Nat} (f : Shf h S) (hq : q < 5) {x : Int32} {F0 : Nat → Prop} {G : Nat → Nat → Prop} (hx : sM x F0) (hF : ∀ v, F0 v → v < 12) (hG : ∀ a b, G a b → a < 12 ∧ b < 12) (hs : ∀ u, u < 12 → sM (zi h (S + 2 + q) u) (fun v => G u v)) : zS (fX3_closed h x (some (S + 2 + q))) (fun y => sM y (cloS G F0)) := by
  unfold fX3_closed
  refine zS.b (zS.gen (fun k (w : Int32) => (w, nI k)) (fun k w => ∃ A : Nat → Prop, sM w A ∧ (∀ v, A v → v < 12) ∧ (∀ v, F0 v → A v) ∧ (∀ v, A v → cloS G F0 v) ∧ ((∀ a b, A a → G a b → A b) ∨ k ≤ cN A)) 0 12 (fun k w _ hk hJ => ?_) (fun w hJ => ?_) (Nat.zero_le _) (by omega) (x0 := x) ⟨F0, hx, hF, fun _ z => z, fun v z C h1 _ => h1 v z, Or.inr (Nat.zero_le _)⟩) (fun y hy => zS.s hy)
  · obtain ⟨A, a1, a2, a3, a4, a5⟩ := hJ
    dsimp only
    rw [if_neg (k12 hk)]
    refine zS.b (R1 := fun w' => ∃ B : Nat → Prop, sM w' B ∧ (∀ v, B v → v < 12) ∧ (∀ v, A v → B v) ∧ (∀ v, B v → cloS G F0 v) ∧ (∀ a b, A a → G a b → B b) ∧ ((∀ a b, A a → G a b → A b) → ∀ v, B v → A v)) (zS.gen (fun j (w' : Int32) => (w', nI j)) (fun j w' => ∃ B : Nat → Prop, sM w' B ∧ (∀ v, B v → v < 12) ∧ (∀ v, A v → B v) ∧ (∀ v, B v → cloS G F0 v) ∧ (∀ a b, a < j → A a → G a b → B b) ∧ ((∀ a b, A a → G a b → A b) → ∀ v, B v → A v)) 0 12 (fun j w' _ hj hJ => ?_) (fun w' hJ => ?_) (Nat.zero_le _) (by omega) (x0 := w) ⟨A, a1, a2, fun _ z => z, a4, fun a b z => absurd z (Nat.not_lt_zero _), fun _ _ z => z⟩) (fun w' hw' => ?_)
    · obtain ⟨B, b1, b2, b3, b4, b5, b6⟩ := hJ
      dsimp only
      rw [if_neg (k12 hj), f.lq q hq, Option.bind_some, if_neg (show ¬ nI 12 ≤ nI j from nI_nle' (by omega) hj)]
      by_cases c : B j
      · rw [if_neg (fun z => (b1.at hj).mp z c), f.aq q hq hj, Option.bind_some, Option.bind_some]
        refine zS.s (Or.inl ⟨_, by rw [nI_1], fun v => B v ∨ G j v, b1.or (hs j hj), fun v z => z.elim (b2 v) (fun g => (hG j v g).2), fun v z => Or.inl (b3 v z), fun v z => z.elim (b4 v) (fun g C h1 h2 => h2 j v (b4 j c C h1 h2) g), fun a b ha Aa g => ?_, fun cl v z => z.elim (b6 cl v) (fun g => cl j v (b6 cl j c) g)⟩)
        by_cases d : a = j
        · subst d; exact Or.inr g
        · exact Or.inl (b5 a b (by omega) Aa g)
      · rw [if_pos ((b1.at hj).mpr c), Option.bind_some]
        refine zS.s (Or.inl ⟨w', by rw [nI_1], B, b1, b2, b3, b4, fun a b ha Aa g => ?_, b6⟩)
        by_cases d : a = j
        · subst d; exact absurd (b3 a Aa) c
        · exact b5 a b (by omega) Aa g
    · obtain ⟨B, b1, b2, b3, b4, b5, b6⟩ := hJ
      dsimp only
      rw [if_pos e12]
      exact zS.s ⟨_, rfl, B, b1, b2, b3, b4, fun a b Aa g => b5 a b (a2 a Aa) Aa g, b6⟩
    · obtain ⟨B, b1, b2, b3, b4, b5, b6⟩ := hw'
      refine zS.s (Or.inl ⟨w', by rw [nI_1], B, b1, b2, fun v z => b3 v (a3 v z), b4, ?_⟩)
      by_cases cl : ∀ a b, A a → G a b → A b
      · exact Or.inl (fun a b Ba g => b5 a b (b6 cl a Ba) g)
      · refine Or.inr ?_
        have ka := a5.resolve_left cl
        have : ∃ a b, A a ∧ G a b ∧ ¬ A b := Classical.byContradiction fun n => cl (fun a b Aa g => Classical.byContradiction fun nb => n ⟨a, b, Aa, g, nb⟩)
        obtain ⟨a, b, Aa, g, nb⟩ := this
        have := cN_lt (P := A) (Q := B) b3 (hG a b g).2 nb (b5 a b Aa g)
        omega
  · obtain ⟨A, a1, a2, a3, a4, a5⟩ := hJ
    dsimp only
    rw [if_pos e12]
    have cl : ∀ a b, A a → G a b → A b := by
      rcases a5 with cl | full
      · exact cl
      · intro a b _ g
        refine Classical.byContradiction fun nb => ?_
        have := cN_lt (P := A) (Q := fun v => v < 12) a2 (hG a b g).2 nb (hG a b g).2
        have h12 := cN_12 (fun v => v < 12)
        omega
    exact zS.s ⟨_, rfl, a1.c (fun v _ => ⟨a4 v, fun z => z A a3 cl⟩)⟩
def shP (h : Zh) (S : Nat) (ps : List (Nat → Prop)) : Prop := ps.length ≤ 12 ∧ zi h S 10 = nI ps.length ∧ ∀ i, i < ps.length → zi h (S + 6) i = mOf (ps.getD i (fun _ => False))
abbrev sPa (S u k : Nat) : Prop := (u = S ∧ k = 10) ∨ u = S + 6
theorem cpart_eq {h : Zh} {S : Nat} {x : Int32} {P : Nat → Prop} {A A' : Nat → Nat → Prop} (f : Shf h S) (hx : sM x P) (hP : ∀ v, P v → v < 12) (hG : ∀ a b, A' a b → a < 12 ∧ b < 12) (hs : ∀ u, u < 12 → sM (zi h (S + 4) u) (fun v => A' u v)) (hc : ∀ n, P n → ∀ v, (cloS A' (fun u => u = n) v ∧ P v) ↔ CN A P n v) :
    zS (fX3_partByNear h (some S) x) (fun h' => shP h' S (xPt A P) ∧ iO (sPa S) h h') := by
  let R : Nat → List Nat := fun k => (List.range k).filter (fun v => cB (isRt A P v))
  have Rl : ∀ k, (R k).length ≤ k := fun k => by
    have := List.length_filter_le (fun v => cB (isRt A P v)) (List.range k)
    rw [List.length_range] at this
    exact this
  have RS : ∀ k, R (k + 1) = R k ++ (if cB (isRt A P k) = true then [k] else []) := fun k => by
    show (List.range (k + 1)).filter _ = _
    rw [List.range_succ, List.filter_append]
    congr 1
    by_cases c : cB (isRt A P k) = true
    · rw [if_pos c, List.filter_cons_of_pos (p := fun v => cB (isRt A P v)) c]; rfl
    · rw [if_neg c, List.filter_cons_of_neg (p := fun v => cB (isRt A P v)) c]; rfl
  unfold fX3_partByNear
  rw [f.gI, Option.bind_some]
  have o0 : iO (sPa S) h (zsetI h S 10 0) := iO.s (Or.inl ⟨rfl, rfl⟩)
  have z0 : zi (zsetI h S 10 0) S 10 = 0 := u2_s
  generalize zsetI h S 10 0 = h1 at o0 z0 ⊢
  refine zS.b (zS.gen (fun k (b : Int32 × Zh) => (b.1, nI k, b.2)) (fun k b => (zi b.2 S 10 = nI (R k).length ∧ ∀ i, i < (R k).length → zi b.2 (S + 6) i = mOf (CN A P ((R k).getD i 0))) ∧ sM b.1 (fun v => P v ∧ ∀ r, r < k → isRt A P r → ¬ CN A P r v) ∧ iO (sPa S) h b.2) 0 12 (fun k b _ hk hJ => ?_) (fun b hJ => ?_) (Nat.zero_le _) (by omega) (x0 := (x, h1)) ⟨⟨z0, fun i z => absurd z (Nat.not_lt_zero _)⟩, hx.c (fun v _ => ⟨fun z => ⟨z, fun r z => absurd z (Nat.not_lt_zero _)⟩, fun z => z.1⟩), o0⟩) (fun r hr => zS.s hr)
  · obtain ⟨w, h2⟩ := b
    obtain ⟨⟨j1, j2⟩, j3, o⟩ := hJ
    dsimp only at j1 j2 j3 o ⊢
    have f2 := f.on o
    have Rk := Rl k
    have rt : (P k ∧ ∀ r, r < k → isRt A P r → ¬ CN A P r k) ↔ isRt A P k := by
      constructor
      · rintro ⟨p1, p2⟩
        refine ⟨p1, fun u hu c => ?_⟩
        obtain ⟨r, r1, r2, r3⟩ := rt_ex (A := A) c.1
        exact p2 r (by omega) r2 (r3.tr c)
      · rintro ⟨p1, p2⟩
        exact ⟨p1, fun r hr _ => p2 r hr⟩
    rw [if_neg (k12 hk)]
    by_cases c : P k ∧ ∀ r, r < k → isRt A P r → ¬ CN A P r k
    · have rk := rt.mp c
      have eR := RS k
      rw [if_pos (cB_t.mpr rk)] at eR
      have eRl : (R (k + 1)).length = (R k).length + 1 := by rw [eR, List.length_append]; rfl
      rw [if_neg (fun z => (j3.at hk).mp z c), f2.fI, Option.bind_some, f2.p9, Option.bind_some, f2.l6, Option.bind_some, j1, if_pos (nI_lt (by omega) (by omega)), f2.p7, Option.bind_some]
      refine zS.b (R1 := fun q : Int32 × Zh => sM q.1 (fun v => P v ∧ ∀ r, r < k + 1 → isRt A P r → ¬ CN A P r v) ∧ (zi q.2 S 10 = nI (R (k + 1)).length ∧ ∀ i, i < (R (k + 1)).length → zi q.2 (S + 6) i = mOf (CN A P ((R (k + 1)).getD i 0))) ∧ iO (sPa S) h q.2) ?_ (fun q hq => ?_)
      · refine zS.b (cclosed_eq (q := 2) (x := bI k) (F0 := fun u => u = k) (G := A') f2 (by omega) (sM_bit hk) (fun v z => by omega) hG (fun u hu => by rw [show S + 2 + 2 = S + 4 from rfl, o.2 (S + 4) u (by omega)]; exact hs u hu)) (fun y hy => ?_)
        have hyx : sM (y &&& x) (CN A P k) := (hy.and hx).c (fun v _ => hc k c.1 v)
        have ey := hyx.of
        rw [Option.bind_some, Option.bind_some, f2.b6 (by omega), Option.bind_some]
        have o3 : iO (fun u j => u = S + 6 ∧ j = (R k).length) h2 (zsetI h2 (S + 6) (R k).length (y &&& x)) := iO.s ⟨rfl, rfl⟩
        have z3 : zi (zsetI h2 (S + 6) (R k).length (y &&& x)) (S + 6) (R k).length = y &&& x := u2_s
        generalize zsetI h2 (S + 6) (R k).length (y &&& x) = h3 at o3 z3 ⊢
        have f3 := f2.on o3
        rw [f3.fI, Option.bind_some, f3.gI, Option.bind_some, o3.2 S 10 (by omega), j1, nI_1]
        have o4 : iO (fun u j => u = S ∧ j = 10) h3 (zsetI h3 S 10 (nI ((R k).length + 1))) := iO.s ⟨rfl, rfl⟩
        have z4 : zi (zsetI h3 S 10 (nI ((R k).length + 1))) S 10 = nI ((R k).length + 1) := u2_s
        generalize zsetI h3 S 10 (nI ((R k).length + 1)) = h4 at o4 z4 ⊢
        refine zS.s ⟨?_, ⟨?_, fun i hi => ?_⟩, (o.tr (o3.mono (fun u j z => by omega))).tr (o4.mono (fun u j z => by omega))⟩
        · refine (j3.sub hyx).c (fun v _ => ⟨fun z => ⟨z.1.1, fun r hr ir => ?_⟩, fun z => ⟨⟨z.1, fun r hr => z.2 r (by omega)⟩, z.2 k (by omega) rk⟩⟩)
          by_cases d : r = k
          · subst d; exact z.2
          · exact z.1.2 r (by omega) ir
        · dsimp only; rw [z4, eRl]
        · dsimp only
          rw [eRl] at hi
          rw [o4.2 (S + 6) i (by omega), eR]
          by_cases d : i = (R k).length
          · subst d
            rw [z3, ey, List.getD_eq_getElem?_getD, List.getElem?_append_right (Nat.le_refl _), Nat.sub_self]; rfl
          · rw [o3.2 (S + 6) i (by omega), j2 i (by omega), List.getD_eq_getElem?_getD, List.getD_eq_getElem?_getD, List.getElem?_append_left (by omega)]
      · exact zS.s (Or.inl ⟨q, by rw [nI_1], hq.2.1, hq.1, hq.2.2⟩)
    · have eR := RS k
      rw [if_neg (fun z => c (rt.mpr (cB_t.mp z))), List.append_nil] at eR
      rw [if_pos ((j3.at hk).mpr c), Option.bind_some]
      refine zS.s (Or.inl ⟨(w, h2), by rw [nI_1], ?_, ?_, o⟩)
      · rw [eR]; exact ⟨j1, j2⟩
      · refine j3.c (fun v _ => ⟨fun z => ⟨z.1, fun r hr ir => ?_⟩, fun z => ⟨z.1, fun r hr => z.2 r (by omega)⟩⟩)
        by_cases d : r = k
        · subst d; exact absurd (rt.mpr ir) c
        · exact z.2 r (by omega) ir
  · obtain ⟨w, h2⟩ := b
    obtain ⟨⟨j1, j2⟩, j3, o⟩ := hJ
    dsimp only at j1 j2 j3 o ⊢
    rw [if_pos e12]
    have e : (xPt A P).length = (R 12).length := List.length_map _
    have := Rl 12
    refine zS.s ⟨_, rfl, ⟨by omega, by rw [e]; exact j1, fun i hi => ?_⟩, o⟩
    rw [e] at hi
    rw [j2 i hi]
    unfold xPt
    rw [mapP_gd _ _ 0 _ _ (show i < (rtL A P).length from hi)]; rfl
theorem creach_eq {h : Zh} {S : Nat} {x y : Int32} {P Q : Nat → Prop} {R : Nat → Nat → Prop} (f : Shf h S) (hx : sM x P) (hy : sM y Q) (hP : ∀ v, P v → v < 12) (hQ : ∀ v, Q v → v < 12) (hs : ∀ u, u < 12 → sM (zi h (S + 5) u) (fun v => R u v)) : zS (fX3_reaches h (some S) x y) (fun r => isB r (rch R P Q)) := by
  unfold fX3_reaches
  refine zS.b (R1 := fun q : Unit ⊕ Int32 => (q = .inl () ∧ ¬ rch R P Q) ∨ (q = .inr 1 ∧ rch R P Q)) (zS.gen (fun k (_ : Unit) => nI k) (fun k _ => ∀ a b, a < k → P a → Q b → ¬ R a b) 0 12 (fun k _ _ hk hJ => ?_) (fun _ hJ => ?_) (Nat.zero_le _) (by omega) (x0 := ()) (fun a b z => absurd z (Nat.not_lt_zero _))) (fun q hq => ?_)
  · rw [if_neg (k12 hk)]
    by_cases c : P k
    · rw [if_neg (fun z => (hx.at hk).mp z c), f.p8, Option.bind_some, f.a5 hk, Option.bind_some]
      have e := ((hs k hk).and hy).z
      by_cases d : (zi h (S + 5) k &&& y) = 0
      · rw [if_pos d]
        refine zS.s (Or.inl ⟨(), by rw [nI_1], fun a b ha pa qb r => ?_⟩)
        by_cases g : a = k
        · subst g; exact e.mp d b (hQ b qb) ⟨r, qb⟩
        · exact hJ a b (by omega) pa qb r
      · rw [if_neg d]
        refine zS.s (Or.inr ⟨_, rfl, Or.inr ⟨rfl, Classical.byContradiction fun n => d (e.mpr (fun v _ z => n ⟨k, v, c, z.2, z.1⟩))⟩⟩)
    · rw [if_pos ((hx.at hk).mpr c)]
      refine zS.s (Or.inl ⟨(), by rw [nI_1], fun a b ha pa qb r => ?_⟩)
      by_cases g : a = k
      · subst g; exact c pa
      · exact hJ a b (by omega) pa qb r
  · rw [if_pos e12]
    exact zS.s ⟨_, rfl, Or.inl ⟨rfl, fun ⟨a, b, pa, qb, r⟩ => hJ a b (hP a pa) pa qb r⟩⟩
  · rcases hq with ⟨rfl, n⟩ | ⟨rfl, p⟩
    · exact zS.s (isB.f n)
    · exact zS.s (isB.t p)
