/-! found on the class's side: the loop's cut, and all of them -/
theorem csna_eq {h : Zh} {x y : Int32} {P Q : Nat → Prop} (hx : sM x P) (hy : sM y Q) (hQ : ∀ v, Q v → v < 12) : zS (fX3_someNotAll h x y) (fun b => isB b ((∃ u, Q u ∧ P u) ∧ ¬ ∀ u, Q u → P u)) := by
  have z := (hx.and hy).z
  have e := (hx.and hy).eq hy
  unfold fX3_someNotAll
  refine zS.b (R1 := fun b => isB b ((∃ u, Q u ∧ P u) ∧ ¬ ∀ u, Q u → P u)) ?_ (fun b hb => by
    rw [zbo_B hb, Option.bind_some]
    exact zS.s hb)
  by_cases c : (x &&& y) = 0
  · rw [if_pos c]
    exact zS.s (isB.f (fun w => by
      obtain ⟨⟨u, u1, u2⟩, -⟩ := w
      exact z.mp c u (hQ u u1) ⟨u2, u1⟩))
  · rw [if_neg c]
    by_cases d : (x &&& y) = y
    · rw [if_pos d]
      exact zS.s (isB.f (fun w => w.2 (fun u hu => ((e.mp d u (hQ u hu)).mpr hu).1)))
    · rw [if_neg d]
      refine zS.s (isB.t ⟨Classical.byContradiction fun n => c (z.mpr (fun v _ w => n ⟨v, w.2, w.1⟩)), fun al => d (e.mpr (fun v _ => ⟨fun w => w.2, fun w => ⟨al v w, w⟩⟩))⟩)
section CC3
variable {h : Zh} {S : Nat} {l : Rw}
theorem cgoes_eq (ok : xOK l) (f : Shf h S) (s : SL h S (xN l) (xB l) (xE l) (xG l)) {x y : Int32} {P : Nat → Prop} (hx : sM x (fun v => xB l v ∨ xE l v)) (hy : sM y P) (hP : ∀ v, P v → v < 12) : zS (fX3_goesTo h (some S) x y) (fun b => isB b (∃ w, P w ∧ xGo l w)) := by
  have b12 : ∀ v, xB l v → v < 12 := fun v z => xN_12 ok (xB_N z)
  have e12' : ∀ v, xE l v → v < 12 := fun v z => xN_12 ok (xE_N z)
  have g1 : ∀ u v, xG l u v → u < 12 ∧ v < 12 := fun u v z => ⟨xN_12 ok (xG_N z).1, xN_12 ok (xG_N z).2⟩
  unfold fX3_goesTo
  refine zS.b (R1 := fun q : Unit ⊕ Int32 => (q = .inl () ∧ ¬ ∃ w, P w ∧ xGo l w) ∨ (q = .inr 1 ∧ ∃ w, P w ∧ xGo l w)) (zS.gen (fun k (_ : Unit) => nI k) (fun k _ => ∀ w, w < k → P w → ¬ xGo l w) 0 12 (fun k _ _ hk hJ => ?_) (fun _ hJ => ?_) (Nat.zero_le _) (by omega) (x0 := ()) (fun w z => absurd z (Nat.not_lt_zero _))) (fun q hq => ?_)
  · rw [if_neg (k12 hk)]
    by_cases c : P k
    · have m1 := ((s.2.2.2.2 k hk).and hx)
      have m2 := ((s.2.2.2.1 k hk).and hx)
      have t1 := (m1.sub s.2.2.1).z
      have t2 := (m2.sub s.2.1).z
      rw [if_neg (fun z => (hy.at hk).mp z c), f.p6, Option.bind_some, f.a3 hk, Option.bind_some, f.fI, Option.bind_some]
      by_cases d1 : ((zi h (S + 3) k &&& x) &&& (zi h S 4 ^^^ (-1 : Int32))) = 0
      · have n1 : ¬ ∃ u, xG l u k ∧ (xB l u ∨ xE l u) ∧ ¬ xE l u := fun ⟨u, u1, u2, u3⟩ => t1.mp d1 u (g1 u k u1).1 ⟨⟨u1, u2⟩, u3⟩
        rw [if_pos d1, f.p5, Option.bind_some, f.a2 hk, Option.bind_some, f.fI, Option.bind_some]
        by_cases d2 : ((zi h (S + 2) k &&& x) &&& (zi h S 3 ^^^ (-1 : Int32))) = 0
        · have n2 : ¬ ∃ u, xG l k u ∧ (xB l u ∨ xE l u) ∧ ¬ xB l u := fun ⟨u, u1, u2, u3⟩ => t2.mp d2 u (g1 k u u1).2 ⟨⟨u1, u2⟩, u3⟩
          rw [if_pos d2, Option.bind_some, f.a3 hk, Option.bind_some, Option.bind_some]
          refine zS.b (csna_eq (s.2.2.2.2 k hk) s.2.2.1 e12') (fun b3 hb3 => ?_)
          by_cases d3 : b3 = 0
          · have n3 := hb3.n d3
            rw [if_pos d3, Option.bind_some, f.a2 hk, Option.bind_some, Option.bind_some]
            refine zS.b (csna_eq (s.2.2.2.1 k hk) s.2.1 b12) (fun b4 hb4 => ?_)
            by_cases d4 : b4 = 0
            · have n4 := hb4.n d4
              rw [if_pos d4]
              refine zS.s (Or.inl ⟨(), by rw [nI_1], fun w hw pw => ?_⟩)
              by_cases g : w = k
              · subst g
                rintro (z | z | z | z)
                · exact n1 z
                · exact n2 z
                · exact n3 z
                · exact n4 z
              · exact hJ w (by omega) pw
            · rw [if_neg d4]
              exact zS.s (Or.inr ⟨_, rfl, Or.inr ⟨rfl, k, c, Or.inr (Or.inr (Or.inr (hb4.p d4)))⟩⟩)
          · rw [if_neg d3]
            exact zS.s (Or.inr ⟨_, rfl, Or.inr ⟨rfl, k, c, Or.inr (Or.inr (Or.inl (hb3.p d3)))⟩⟩)
        · rw [if_neg d2]
          refine zS.s (Or.inr ⟨_, rfl, Or.inr ⟨rfl, k, c, Or.inr (Or.inl ?_)⟩⟩)
          exact Classical.byContradiction fun n => d2 (t2.mpr (fun v _ w => n ⟨v, w.1.1, w.1.2, w.2⟩))
      · rw [if_neg d1]
        refine zS.s (Or.inr ⟨_, rfl, Or.inr ⟨rfl, k, c, Or.inl ?_⟩⟩)
        exact Classical.byContradiction fun n => d1 (t1.mpr (fun v _ w => n ⟨v, w.1.1, w.1.2, w.2⟩))
    · rw [if_pos ((hy.at hk).mpr c)]
      refine zS.s (Or.inl ⟨(), by rw [nI_1], fun w hw pw => ?_⟩)
      by_cases g : w = k
      · subst g; exact absurd pw c
      · exact hJ w (by omega) pw
  · rw [if_pos e12]
    exact zS.s ⟨_, rfl, Or.inl ⟨rfl, fun ⟨w, pw, z⟩ => hJ w (hP w pw) pw z⟩⟩
  · rcases hq with ⟨rfl, n⟩ | ⟨rfl, p⟩
    · exact zS.s (isB.f n)
    · exact zS.s (isB.t p)
theorem cahead_eq {ps : List (Nat → Prop)} {P : Nat → Prop} {x : Int32} (f : Shf h S) (p : shP h S ps) (hx : sM x P) (hl : ps.length < 12) : zS (fX3_putAhead h (some S) x) (fun h' => shP h' S (P :: ps) ∧ iO (sPa S) h h') := by
  obtain ⟨p1, p2, p3⟩ := p
  have hn := hx.of
  generalize en : ps.length = n at *
  unfold fX3_putAhead
  rw [f.fI, Option.bind_some, f.p9, Option.bind_some, f.l6, Option.bind_some, p2, if_pos (nI_lt hl (by omega)), Option.bind_some]
  refine zS.b (R1 := fun h' => (∀ j, j ≤ n → zi h' (S + 6) j = if 0 < j then zi h (S + 6) (j - 1) else zi h (S + 6) j) ∧ iO (fun u _ => u = S + 6) h h') (zS.gen (fun k (h' : Zh) => (nI (n - k), h')) (fun k h' => (∀ j, j ≤ n → zi h' (S + 6) j = if n - k < j then zi h (S + 6) (j - 1) else zi h (S + 6) j) ∧ iO (fun u _ => u = S + 6) h h') 0 n (fun k h' _ hk hJ => ?_) (fun h' hJ => ?_) (Nat.zero_le _) (by omega) (x0 := h) ⟨fun j hj => by rw [if_neg (by omega)], iO.rf⟩) (fun h1 hh => ?_)
  · obtain ⟨j1, o⟩ := hJ
    have f' := f.on o
    have e1 : nI (n - k) - (1 : Int32) = nI (n - k - 1) := by
      have := nI_pred (n - k - 1)
      rw [Nat.sub_add_cancel (by omega)] at this
      exact this
    have e2 : nI (n - k) + (-1 : Int32) = nI (n - (k + 1)) := by
      have := nI_dec (n - k - 1)
      rw [Nat.sub_add_cancel (by omega)] at this
      rw [Nat.sub_add_eq]
      exact this
    dsimp only
    rw [if_neg (nI_nle (by omega) (by omega)), f'.p9, Option.bind_some, Option.bind_some, e1, f'.a6 (by omega), Option.bind_some, f'.b6 (by omega), Option.bind_some]
    have o2 : iO (fun u _ => u = S + 6) h' (zsetI h' (S + 6) (n - k) (zi h' (S + 6) (n - k - 1))) := iO.s rfl
    have z2 : ∀ j, zi (zsetI h' (S + 6) (n - k) (zi h' (S + 6) (n - k - 1))) (S + 6) j = if j = n - k then zi h' (S + 6) (n - k - 1) else zi h' (S + 6) j := fun j => by
      rw [zi_sI]
      by_cases c : j = n - k
      · subst c; rw [u2_s, if_pos rfl]
      · rw [u2_n (fun z => c z.2), if_neg c]
    generalize zsetI h' (S + 6) (n - k) (zi h' (S + 6) (n - k - 1)) = h2 at o2 z2 ⊢
    refine zS.s (Or.inl ⟨h2, by rw [e2], fun j hj => ?_, o.tr o2⟩)
    rw [z2 j]
    by_cases c : j = n - k
    · subst c
      rw [if_pos rfl, j1 _ (by omega), if_neg (by omega), if_pos (by omega)]
    · rw [if_neg c, j1 j hj]
      by_cases d : n - k < j
      · rw [if_pos d, if_pos (by omega)]
      · rw [if_neg d, if_neg (by omega)]
  · obtain ⟨j1, o⟩ := hJ
    dsimp only
    rw [if_pos (show nI (n - n) ≤ 0 by rw [Nat.sub_self]; decide)]
    rw [Nat.sub_self] at j1
    exact zS.s ⟨_, rfl, j1, o⟩
  · obtain ⟨j1, o⟩ := hh
    have f1 := f.on o
    rw [f1.p9, Option.bind_some, show (0 : Int32) = nI 0 from nI_0.symm, f1.b6 (by omega), Option.bind_some]
    have o2 : iO (fun u j => u = S + 6 ∧ j = 0) h1 (zsetI h1 (S + 6) 0 x) := iO.s ⟨rfl, rfl⟩
    have z2 : zi (zsetI h1 (S + 6) 0 x) (S + 6) 0 = x := u2_s
    generalize zsetI h1 (S + 6) 0 x = h2 at o2 z2 ⊢
    have f2 := f1.on o2
    rw [f2.fI, Option.bind_some, f2.gI, Option.bind_some, o2.2 S 10 (by omega), o.2 S 10 (by omega), p2, nI_1]
    have o3 : iO (fun u j => u = S ∧ j = 10) h2 (zsetI h2 S 10 (nI (n + 1))) := iO.s ⟨rfl, rfl⟩
    have z3 : zi (zsetI h2 S 10 (nI (n + 1))) S 10 = nI (n + 1) := u2_s
    generalize zsetI h2 S 10 (nI (n + 1)) = h3 at o3 z3 ⊢
    refine zS.s ⟨⟨by rw [List.length_cons, en]; omega, by rw [List.length_cons, en]; exact z3, fun i hi => ?_⟩, (o.mono (fun u k z => by omega)).tr ((o2.mono (fun u k z => by omega)).tr (o3.mono (fun u k z => by omega)))⟩
    rw [List.length_cons, en] at hi
    rw [o3.2 (S + 6) i (by omega)]
    by_cases c : i = 0
    · subst c
      rw [z2, hn]; rfl
    · rw [o2.2 (S + 6) i (by omega), j1 i (by omega), if_pos (by omega), p3 (i - 1) (by omega)]
      obtain ⟨j, rfl⟩ : ∃ j, i = j + 1 := ⟨i - 1, by omega⟩
      rfl
theorem xS1_cl {a b : Nat} (ha : xS1 l a) (ab : xA1 l a b) (hb : xS0 l b) : xS1 l b := ⟨hb, fun ⟨w, c, g⟩ => ha.2 ⟨w, c.st ha.1 (xA1_sy a b ab), g⟩⟩
theorem cloopc_eq (ok : xOK l) (h0 : ∃ v, xB l v) (f : Shf h S) (s : SL h S (xN l) (xB l) (xE l) (xG l)) : zS (fX3_cutsToLoop h (some S)) (fun q => isB q.1 (0 < (rtL (xA1 l) (xS1 l)).length) ∧ shP q.2 S (xBd l :: xPt (xA1 l) (xS1 l)) ∧ iO (sCt S) h q.2) := by
  have a12 : ∀ a b, xA1 l a b → a < 12 ∧ b < 12 := fun a b z => z.elim (fun g => ⟨xN_12 ok (xG_N g).1, xN_12 ok (xG_N g).2⟩) (fun g => ⟨xN_12 ok (xG_N g).2, xN_12 ok (xG_N g).1⟩)
  have hbe : sM (zi h S 3 ||| zi h S 4) (fun v => xB l v ∨ xE l v) := s.2.1.or s.2.2.1
  have hre : sM (zi h S 2 &&& ((zi h S 3 ||| zi h S 4) ^^^ (-1 : Int32))) (xS0 l) := s.1.sub hbe
  unfold fX3_cutsToLoop
  rw [f.fI, Option.bind_some, f.fI, Option.bind_some, f.fI, Option.bind_some]
  generalize ebe : zi h S 3 ||| zi h S 4 = be at *
  generalize ere : zi h S 2 &&& (be ^^^ (-1 : Int32)) = re at *
  refine zS.b (zS.up (fun k h' => (∀ u, u < k → sM (zi h' (S + 4) u) (fun v => xA1 l u v ∧ xS0 l v)) ∧ iO (fun u _ => u = S + 4) h h') 0 12 (fun k h' _ hk hJ => ?_) (fun h' hJ => ?_) (Nat.zero_le _) (by omega) ⟨fun u z => absurd z (Nat.not_lt_zero _), iO.rf⟩) (fun h1 hh => ?_) (R1 := fun h' => (∀ u, u < 12 → sM (zi h' (S + 4) u) (fun v => xA1 l u v ∧ xS0 l v)) ∧ iO (fun u _ => u = S + 4) h h')
  · obtain ⟨j1, o⟩ := hJ
    have f' := f.on o
    dsimp only
    rw [if_neg (k12 hk), f'.p7, Option.bind_some, f'.p5, Option.bind_some, f'.a2 hk, Option.bind_some, f'.p6, Option.bind_some, f'.a3 hk, Option.bind_some, f'.b4 hk, Option.bind_some]
    have o2 : iO (fun u j => u = S + 4 ∧ j = k) h' (zsetI h' (S + 4) k ((zi h' (S + 2) k ||| zi h' (S + 3) k) &&& re)) := iO.s ⟨rfl, rfl⟩
    have z2 : zi (zsetI h' (S + 4) k ((zi h' (S + 2) k ||| zi h' (S + 3) k) &&& re)) (S + 4) k = (zi h' (S + 2) k ||| zi h' (S + 3) k) &&& re := u2_s
    generalize zsetI h' (S + 4) k ((zi h' (S + 2) k ||| zi h' (S + 3) k) &&& re) = h2 at o2 z2 ⊢
    refine zS.s ⟨_, by rw [nI_1], fun u hu => ?_, o.tr (o2.mono (fun u j z => z.1))⟩
    by_cases c : u = k
    · subst c
      rw [z2, o.2 (S + 2) u (by omega), o.2 (S + 3) u (by omega)]
      exact ((s.2.2.2.1 u hk).or (s.2.2.2.2 u hk)).and hre
    · rw [o2.2 (S + 4) u (by omega)]; exact j1 u (by omega)
  · dsimp only
    rw [if_pos e12]
    exact zS.s ⟨_, rfl, hJ⟩
  obtain ⟨j1, o⟩ := hh
  have f1 := f.on o
  have S012 : ∀ v, xS0 l v → v < 12 := fun v z => xN_12 ok z.1
  rw [f1.ob, Option.bind_some]
  refine zS.b (cpart_eq (P := xS0 l) (A := xA1 l) (A' := fun u v => xA1 l u v ∧ xS0 l v) f1 hre S012 (fun a b z => a12 a b z.1) j1 (fun n hn v => cloCN (fun a b _ ab => ⟨ab.2, ab.1⟩) (fun a b _ sb ab => ⟨ab, sb⟩) hn v)) (fun h2 ⟨p, o2⟩ => ?_)
  have f2 := f1.on o2
  have O2 : iO (sCt S) h h2 := (o.mono (fun u k z => by omega)).tr (o2.mono (fun u k z => by omega))
  have s2 := s.ct O2
  obtain ⟨p1, p2, p3⟩ := p
  have e : (xPt (xA1 l) (xS0 l)).length = (rtL (xA1 l) (xS0 l)).length := List.length_map _
  have p3' : ∀ i, i < (rtL (xA1 l) (xS0 l)).length → zi h2 (S + 6) i = mOf (CN (xA1 l) (xS0 l) ((rtL (xA1 l) (xS0 l)).getD i 0)) := fun i hi => by
    rw [p3 i (by rw [e]; exact hi)]
    unfold xPt
    rw [mapP_gd _ _ 0 _ _ hi]
  have rm : ∀ r, r ∈ rtL (xA1 l) (xS0 l) ↔ r < 12 ∧ isRt (xA1 l) (xS0 l) r := fun r => rtL_mem
  rw [e] at p1 p2
  generalize rtL (xA1 l) (xS0 l) = L at *
  refine zS.b (R1 := fun w => sM w (xBd l)) (zS.gen (fun k (w : Int32) => (w, nI k)) (fun k w => sM w (fun v => (xB l v ∨ xE l v) ∨ ∃ i, i < k ∧ gdR l (L.getD i 0) ∧ CN (xA1 l) (xS0 l) (L.getD i 0) v)) 0 L.length (fun k w _ hk hJ => ?_) (fun w hJ => ?_) (Nat.zero_le _) (by omega) (x0 := be) (hbe.c (fun v _ => ⟨Or.inl, fun z => z.elim id (fun ⟨i, hi, _⟩ => by omega)⟩))) (fun w hw => ?_)
  · dsimp only
    rw [f2.fI, Option.bind_some, p2, if_neg (nI_nle' (by omega) hk), f2.p9, Option.bind_some, f2.a6 (by omega), Option.bind_some, f2.ob, Option.bind_some]
    have hk3 := p3' k hk
    have cs : sM (zi h2 (S + 6) k) (CN (xA1 l) (xS0 l) (L.getD k 0)) := by rw [hk3]; exact mOf_s _
    refine zS.b (cgoes_eq ok f2 s2 hbe cs (fun v c => S012 v c.s2)) (fun b hb => ?_)
    by_cases c : b = 0
    · have nb := hb.n c
      rw [if_pos c, Option.bind_some]
      refine zS.s (Or.inl ⟨w, by rw [nI_1], hJ.c (fun v _ => ⟨fun z => z.imp id (fun ⟨i, hi, q⟩ => ⟨i, by omega, q⟩), fun z => z.imp id (fun ⟨i, hi, q⟩ => ⟨i, ?_, q⟩)⟩)⟩)
      by_cases d : i = k
      · subst d
        obtain ⟨⟨w', w1, w2⟩, -⟩ := q
        exact absurd ⟨w', w1, w2⟩ nb
      · omega
    · obtain ⟨w', w1, w2⟩ := hb.p c
      rw [if_neg c, Option.bind_some, f2.a6 (by omega), Option.bind_some, Option.bind_some]
      refine zS.s (Or.inl ⟨_, by rw [nI_1], (hJ.or cs).c (fun v _ => ⟨fun z => ?_, fun z => ?_⟩)⟩)
      · rcases z with (z | ⟨i, hi, q⟩) | z
        · exact Or.inl z
        · exact Or.inr ⟨i, by omega, q⟩
        · exact Or.inr ⟨k, by omega, ⟨w', w1, w2⟩, z⟩
      · rcases z with z | ⟨i, hi, q⟩
        · exact Or.inl (Or.inl z)
        · by_cases d : i = k
          · subst d; exact Or.inr q.2
          · exact Or.inl (Or.inr ⟨i, by omega, q⟩)
  · dsimp only
    rw [f2.fI, Option.bind_some, p2, if_pos (nI_le (Nat.le_refl _) (by omega))]
    refine zS.s ⟨_, rfl, hJ.c (fun v _ => ⟨fun z => ?_, fun z => ?_⟩)⟩
    · rcases z with z | ⟨i, hi, ⟨w', w1, w2⟩, c⟩
      · exact ⟨z.elim xB_N xE_N, fun q => q.1.2 z⟩
      · exact ⟨c.s2.1, fun q => q.2 ⟨w', (w1.sy xA1_sy).tr c, w2⟩⟩
    · by_cases be : xB l v ∨ xE l v
      · exact Or.inl be
      · have s0 : xS0 l v := ⟨z.1, be⟩
        have : ∃ w, CN (xA1 l) (xS0 l) w v ∧ xGo l w := Classical.byContradiction fun n => z.2 ⟨s0, n⟩
        obtain ⟨w', w1, w2⟩ := this
        obtain ⟨r, r1, r2, r3⟩ := rt_ex (A := xA1 l) s0
        obtain ⟨i, i1, i2⟩ := mem_gd.mpr ((rm r).mpr ⟨S012 r r2.1, r2⟩)
        refine Or.inr ⟨i, i1, ?_⟩
        rw [i2]
        exact ⟨⟨w', r3.tr (w1.sy xA1_sy), w2⟩, r3⟩
  · have S112 : ∀ v, xS1 l v → v < 12 := fun v z => S012 v z.1
    have o1' : ∀ u, zi h2 (S + 4) u = zi h1 (S + 4) u := fun u => o2.2 (S + 4) u (by omega)
    have n11 : (rtL (xA1 l) (xS1 l)).length < 12 := by
      have h1 : (rtL (xA1 l) (xS1 l)).length = cN (isRt (xA1 l) (xS1 l)) := rfl
      have h2 := cN_le (P := isRt (xA1 l) (xS1 l)) (Q := xS1 l) (fun v z => z.1)
      obtain ⟨b, hb⟩ := h0
      have h3 := cN_lt (P := xS1 l) (Q := xN l) (fun v z => z.1.1) (xN_12 ok (xB_N hb)) (fun z => z.1.2 (Or.inl hb)) (xB_N hb)
      have h4 := cN_12 (xN l)
      omega
    rw [f2.fI, Option.bind_some, f2.ob, Option.bind_some]
    have hw2 : sM (zi h2 S 2 &&& (w ^^^ (-1 : Int32))) (xS1 l) := (s2.1.sub hw).c (fun v _ => ⟨fun z => Classical.byContradiction fun n => z.2 ⟨z.1, n⟩, fun z => ⟨z.1.1, fun q => q.2 z⟩⟩)
    refine zS.b (cpart_eq (P := xS1 l) (A := xA1 l) (A' := fun u v => xA1 l u v ∧ xS0 l v) f2 hw2 S112 (fun a b z => a12 a b z.1) (fun u hu => by rw [o1' u]; exact j1 u hu) (fun n hn v => cloCN (A := xA1 l) (A' := fun u v => xA1 l u v ∧ xS0 l v) (S := xS1 l) (fun a b sa ab => ⟨xS1_cl sa ab.1 ab.2, ab.1⟩) (fun a b _ sb ab => ⟨ab, sb.1⟩) hn v)) (fun h3 ⟨p', o3⟩ => ?_)
    have f3 := f2.on o3
    rw [f3.ob, Option.bind_some]
    have e1 : (xPt (xA1 l) (xS1 l)).length = (rtL (xA1 l) (xS1 l)).length := List.length_map _
    refine zS.b (cahead_eq f3 p' hw (by rw [e1]; exact n11)) (fun h4 ⟨p4, o4⟩ => ?_)
    have f4 := f3.on o4
    have g := gt1_B p4.1
    have e2 : (xBd l :: xPt (xA1 l) (xS1 l)).length = (rtL (xA1 l) (xS1 l)).length + 1 := by rw [List.length_cons, e1]
    rw [f4.fI, Option.bind_some, p4.2.1]
    rw [e2] at g ⊢
    refine zS.b (R1 := fun x => isB x (0 < (rtL (xA1 l) (xS1 l)).length)) ?_ (fun x hx => ?_)
    · by_cases c : nI ((rtL (xA1 l) (xS1 l)).length + 1) ≤ (1 : Int32)
      · rw [if_pos c] at g ⊢; exact zS.s (g.c ⟨fun z => by omega, fun z => by omega⟩)
      · rw [if_neg c] at g ⊢; exact zS.s (g.c ⟨fun z => by omega, fun z => by omega⟩)
    · rw [zbo_B hx, Option.bind_some]
      exact zS.s ⟨hx, p4, O2.tr ((o3.mono (fun u k z => by omega)).tr (o4.mono (fun u k z => by omega)))⟩
theorem ccutsTo_eq (ok : xOK l) (h0 : ∃ v, xB l v) (f : Shf h S) (s : SL h S (xN l) (xB l) (xE l) (xG l)) : zS (fX3_cutsTo h (some S)) (fun q => q.1 = (if (xCut l).1 = 0 then -3 else nI (xCut l).1) ∧ ((xCut l).1 ≠ 0 → shP q.2 S (xCut l).2) ∧ iO (sCt S) h q.2) := by
  unfold fX3_cutsTo
  rw [f.ob, Option.bind_some]
  refine zS.b (cchoice_eq ok f s) (fun q hq => ?_)
  obtain ⟨b1, h1⟩ := q
  obtain ⟨q1, q2, o1⟩ := hq
  dsimp only at q1 q2 o1 ⊢
  have f1 := f.on o1
  have s1 := s.ct o1
  by_cases c1 : b1 = 0
  · have m1 := q1.n c1
    rw [if_pos c1, f1.ob, Option.bind_some]
    refine zS.b (ccrow_eq ok f1 s1) (fun q hq => ?_)
    obtain ⟨b2, h2⟩ := q
    obtain ⟨r1, r2, o2⟩ := hq
    dsimp only at r1 r2 o2 ⊢
    have f2 := f1.on o2
    have s2 := s1.ct o2
    by_cases c2 : b2 = 0
    · have m2 := r1.n c2
      rw [if_pos c2, f2.ob, Option.bind_some]
      refine zS.b (cbeside_eq ok f2 s2) (fun q hq => ?_)
      obtain ⟨b3, h3⟩ := q
      obtain ⟨u1, u2, o3⟩ := hq
      dsimp only at u1 u2 o3 ⊢
      have f3 := f2.on o3
      have s3 := s2.ct o3
      by_cases c3 : b3 = 0
      · have m3 := u1.n c3
        rw [if_pos c3, f3.ob, Option.bind_some]
        refine zS.b (cloopc_eq ok h0 f3 s3) (fun q hq => ?_)
        obtain ⟨b4, h4⟩ := q
        obtain ⟨v1, v2, o4⟩ := hq
        dsimp only at v1 v2 o4 ⊢
        by_cases c4 : b4 = 0
        · have m4 := v1.n c4
          have hc : (xCut l).1 = 0 := by
            unfold xCut
            rw [if_neg m1, if_neg m2, if_neg (fun z => m3 ⟨z.1, cB_t.mp z.2⟩), if_neg m4]
          rw [if_pos c4, if_pos hc]
          exact zS.s ⟨rfl, fun z => absurd hc z, ((o1.tr o2).tr o3).tr o4⟩
        · have m4 := v1.p c4
          have hc : xCut l = (5, xBd l :: xPt (xA1 l) (xS1 l)) := by
            unfold xCut
            rw [if_neg m1, if_neg m2, if_neg (fun z => m3 ⟨z.1, cB_t.mp z.2⟩), if_pos m4]
          rw [if_neg c4, hc]
          exact zS.s ⟨rfl, fun _ => v2, ((o1.tr o2).tr o3).tr o4⟩
      · have m3 := u1.p c3
        have hc : xCut l = (4, xPt (xA3 l) (xN l)) := by
          unfold xCut
          rw [if_neg m1, if_neg m2, if_pos ⟨m3.1, cB_t.mpr m3.2⟩]
        rw [if_neg c3, hc]
        exact zS.s ⟨rfl, fun _ => u2, (o1.tr o2).tr o3⟩
    · have m2 := r1.p c2
      have hc : xCut l = (2, xP2 l) := by
        unfold xCut
        rw [if_neg m1, if_pos m2]
      rw [if_neg c2, hc]
      exact zS.s ⟨rfl, fun _ => r2, o1.tr o2⟩
  · have m1 := q1.p c1
    have hc : xCut l = (3, xPt (xA1 l) (xN l)) := by
      unfold xCut
      rw [if_pos m1]
    rw [if_neg c1, hc]
    exact zS.s ⟨rfl, fun _ => q2, o1⟩
end CC3
