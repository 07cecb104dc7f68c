/-! found on the class's side: cuts to row and beside -/
section CC2
variable {h : Zh} {S : Nat} {l : Rw}
theorem ccrow_eq (ok : xOK l) (f : Shf h S) (s : SL h S (xN l) (xB l) (xE l) (xG l)) : zS (fX3_cutsToRow h (some S)) (fun q => isB q.1 (1 < (rtL (A2 (TC (xG l))) (xN l)).length) ∧ shP q.2 S (xP2 l) ∧ iO (sCt S) h q.2) := by
  have g12 : ∀ a b, xG l a b → a < 12 ∧ b < 12 := fun a b g => ⟨xN_12 ok (xG_N g).1, xN_12 ok (xG_N g).2⟩
  unfold fX3_cutsToRow
  refine zS.b (zS.up (fun k h' => (∀ u, u < k → sM (zi h' (S + 5) u) (fun v => TC (xG l) u v)) ∧ iO (fun u _ => u = S + 5) h h') 0 12 (fun k h' _ hk hJ => ?_) (fun h' hJ => ?_) (Nat.zero_le _) (by omega) ⟨fun u z => absurd z (Nat.not_lt_zero _), iO.rf⟩) (fun h1 hh => ?_) (R1 := fun h' => (∀ u, u < 12 → sM (zi h' (S + 5) u) (fun v => TC (xG l) u v)) ∧ iO (fun u _ => u = S + 5) h h')
  · obtain ⟨j1, o⟩ := hJ
    have f' := f.on o
    dsimp only
    rw [if_neg (k12 hk), f'.p8, Option.bind_some, f'.p5, Option.bind_some, f'.a2 hk, Option.bind_some]
    have s' : ∀ u, u < 12 → sM (zi h' (S + 2) u) (fun v => xG l u v) := fun u hu => by rw [o.2 (S + 2) u (by omega)]; exact s.2.2.2.1 u hu
    refine zS.e rfl ?_
    refine zS.b (cclosed_eq (q := 0) (F0 := fun v => xG l k v) (G := xG l) f' (by omega) (s' k hk) (fun v g => (g12 k v g).2) g12 s') (fun y hy => ?_)
    rw [f'.b5 hk, Option.bind_some]
    have o2 : iO (fun u j => u = S + 5 ∧ j = k) h' (zsetI h' (S + 5) k y) := iO.s ⟨rfl, rfl⟩
    have z2 : zi (zsetI h' (S + 5) k y) (S + 5) k = y := u2_s
    generalize zsetI h' (S + 5) k y = h2 at o2 z2 ⊢
    refine zS.s ⟨_, by rw [nI_1], fun u hu => ?_, o.tr (o2.mono (fun u j z => z.1))⟩
    by_cases c : u = k
    · subst c
      rw [z2]
      exact hy
    · rw [o2.2 (S + 5) u (by omega)]; exact j1 u (by omega)
  · dsimp only
    rw [if_pos e12]
    exact zS.s ⟨_, rfl, hJ⟩
  obtain ⟨j1, o⟩ := hh
  have f1 := f.on o
  have nm : sM (zi h1 S 2) (xN l) := by rw [o.2 S 2 (by omega)]; exact s.1
  refine zS.b (zS.up (fun k h' => (∀ u, u < k → sM (zi h' (S + 4) u) (fun v => u < 12 ∧ xN l v ∧ A2 (TC (xG l)) u v)) ∧ iO (fun u _ => u = S + 4) h1 h') 0 12 (fun k h' _ hk hJ => ?_) (fun h' hJ => ?_) (Nat.zero_le _) (by omega) ⟨fun u z => absurd z (Nat.not_lt_zero _), iO.rf⟩) (fun h2 hh => ?_) (R1 := fun h' => (∀ u, u < 12 → sM (zi h' (S + 4) u) (fun v => u < 12 ∧ xN l v ∧ A2 (TC (xG l)) u v)) ∧ iO (fun u _ => u = S + 4) h1 h')
  · obtain ⟨i1, o1⟩ := hJ
    have f' := f1.on o1
    dsimp only
    rw [if_neg (k12 hk), f'.p7, Option.bind_some, f'.b4 hk, Option.bind_some]
    have o2 : iO (fun u j => u = S + 4 ∧ j = k) h' (zsetI h' (S + 4) k 0) := iO.s ⟨rfl, rfl⟩
    have z2 : zi (zsetI h' (S + 4) k 0) (S + 4) k = 0 := u2_s
    generalize zsetI h' (S + 4) k 0 = h2 at o2 z2 ⊢
    refine zS.b (R1 := fun h3 => sM (zi h3 (S + 4) k) (fun v => v < 12 ∧ xN l v ∧ A2 (TC (xG l)) k v) ∧ iO (fun u j => u = S + 4 ∧ j = k) h' h3) (zS.up (fun j h3 => sM (zi h3 (S + 4) k) (fun v => v < j ∧ xN l v ∧ A2 (TC (xG l)) k v) ∧ iO (fun u j => u = S + 4 ∧ j = k) h' h3) 0 12 (fun j h3 _ hj hJ => ?_) (fun h3 hJ => ?_) (Nat.zero_le _) (by omega) ⟨by rw [z2]; exact sM_0.c (fun v _ => ⟨fun z => z.elim, fun z => absurd z.1 (Nat.not_lt_zero _)⟩), o2⟩) (fun h3 hh => ?_)
    · obtain ⟨m1, o3⟩ := hJ
      have f3 := f'.on o3
      have rj : ∀ u, u < 12 → sM (zi h3 (S + 5) u) (fun v => TC (xG l) u v) := fun u hu => by rw [o3.2 (S + 5) u (by omega), o1.2 (S + 5) u (by omega)]; exact j1 u hu
      have n3 : sM (zi h3 S 2) (xN l) := by rw [o3.2 S 2 (by omega), o1.2 S 2 (by omega)]; exact nm
      dsimp only
      rw [if_neg (k12 hj), f3.p8, Option.bind_some, f3.a5 hk, Option.bind_some]
      refine zS.b (R1 := fun x => isB x (TC (xG l) k j)) ?_ (fun x hx => ?_)
      · by_cases c : TC (xG l) k j
        · rw [if_neg (fun z => ((rj k hk).at hj).mp z c)]; exact zS.s (isB.t c)
        · rw [if_pos (((rj k hk).at hj).mpr c)]; exact zS.s (isB.f c)
      · rw [Option.bind_some, f3.a5 hj, Option.bind_some]
        refine zS.b (R1 := fun y => isB y (TC (xG l) j k)) ?_ (fun y hy => ?_)
        · by_cases c : TC (xG l) j k
          · rw [if_neg (fun z => ((rj j hj).at hk).mp z c)]; exact zS.s (isB.t c)
          · rw [if_pos (((rj j hj).at hk).mpr c)]; exact zS.s (isB.f c)
        · have exy := isB_eq hx hy
          by_cases c : x = y
          · have a2 : A2 (TC (xG l)) k j := exy.mp c
            rw [if_pos c, f3.p7, Option.bind_some, f3.a4 hk, Option.bind_some, f3.fI, Option.bind_some, f3.b4 hk, Option.bind_some, Option.bind_some]
            have o4 : iO (fun u j => u = S + 4 ∧ j = k) h3 (zsetI h3 (S + 4) k (zi h3 (S + 4) k ||| (zi h3 S 2 &&& bI j))) := iO.s ⟨rfl, rfl⟩
            have z4 : zi (zsetI h3 (S + 4) k (zi h3 (S + 4) k ||| (zi h3 S 2 &&& bI j))) (S + 4) k = zi h3 (S + 4) k ||| (zi h3 S 2 &&& bI j) := u2_s
            show zS (some (Sum.inl (nI j + (1 : Int32), zsetI h3 (S + 4) k (zi h3 (S + 4) k ||| (zi h3 S 2 &&& bI j))))) _
            generalize zsetI h3 (S + 4) k (zi h3 (S + 4) k ||| (zi h3 S 2 &&& bI j)) = h4 at o4 z4 ⊢
            refine zS.s ⟨_, by rw [nI_1], ?_, o3.tr o4⟩
            rw [z4]
            refine (m1.or (n3.and (sM_bit hj))).c (fun v _ => ⟨fun z => z.elim (fun a => ⟨by omega, a.2⟩) (fun a => ⟨by omega, a.1, by rw [a.2]; exact a2⟩), fun z => ?_⟩)
            by_cases d : v = j
            · exact Or.inr ⟨z.2.1, d⟩
            · exact Or.inl ⟨by omega, z.2⟩
          · rw [if_neg c, Option.bind_some]
            refine zS.s ⟨_, by rw [nI_1], m1.c (fun v _ => ⟨fun a => ⟨by omega, a.2⟩, fun z => ⟨?_, z.2⟩⟩), o3⟩
            by_cases d : v = j
            · subst d; exact absurd (exy.mpr z.2.2) c
            · omega
    · dsimp only
      rw [if_pos e12]
      exact zS.s ⟨_, rfl, hJ⟩
    · obtain ⟨m1, o3⟩ := hh
      refine zS.s ⟨_, by rw [nI_1], fun u hu => ?_, o1.tr (o3.mono (fun u j z => z.1))⟩
      by_cases c : u = k
      · subst c; exact m1.c (fun v hv => ⟨fun z => ⟨hk, z.2⟩, fun z => ⟨hv, z.2⟩⟩)
      · rw [o3.2 (S + 4) u (by omega)]; exact i1 u (by omega)
  · dsimp only
    rw [if_pos e12]
    exact zS.s ⟨_, rfl, hJ⟩
  obtain ⟨i1, o1⟩ := hh
  have f2 := f1.on o1
  rw [f2.fI, Option.bind_some, f2.ob, Option.bind_some]
  refine zS.b (cpart_eq (P := xN l) (A := A2 (TC (xG l))) (A' := fun u v => u < 12 ∧ xN l v ∧ A2 (TC (xG l)) u v) f2 (by rw [o1.2 S 2 (by omega)]; exact nm) (fun v => xN_12 ok) (fun a b z => ⟨z.1, xN_12 ok z.2.1⟩) i1 (fun n hn v => cloCN (fun a b _ ab => ab.2) (fun a b sa sb ab => ⟨xN_12 ok sa, sb, ab⟩) hn v)) (fun h3 ⟨p, o3⟩ => ?_)
  have f3 := f2.on o3
  have O3 : iO (sCt S) h h3 := (o.mono (fun u k z => by omega)).tr ((o1.mono (fun u k z => by omega)).tr (o3.mono (fun u k z => by omega)))
  rw [f3.ob, Option.bind_some]
  refine zS.b (cordr_eq f3 (fun v => xN_12 ok) p (fun u hu => by rw [o3.2 (S + 5) u (by omega), o1.2 (S + 5) u (by omega)]; exact j1 u hu)) (fun h4 ⟨p4, o4⟩ => ?_)
  have f4 := f3.on o4
  have e : (xP2 l).length = (rtL (A2 (TC (xG l))) (xN l)).length := by
    show (List.map _ _).length = _
    rw [List.length_map, List.length_reverse, (ordR_perm _).length_eq]
  have p4' : shP h4 S (xP2 l) := p4
  have g := gt1_B p4'.1
  rw [f4.fI, Option.bind_some, p4'.2.1]
  rw [e] at g ⊢
  refine zS.b (R1 := fun x => isB x (1 < (rtL (A2 (TC (xG l))) (xN l)).length)) ?_ (fun x hx => ?_)
  · by_cases c : nI (rtL (A2 (TC (xG l))) (xN l)).length ≤ (1 : Int32)
    · rw [if_pos c] at g ⊢; exact zS.s g
    · rw [if_neg c] at g ⊢; exact zS.s g
  · rw [zbo_B hx, Option.bind_some]
    exact zS.s ⟨hx, p4', O3.tr (o4.mono (fun u k z => by omega))⟩
theorem cbeside_eq (ok : xOK l) (f : Shf h S) (s : SL h S (xN l) (xB l) (xE l) (xG l)) : zS (fX3_cutsToBeside h (some S)) (fun q => isB q.1 (1 < (rtL (xA3 l) (xN l)).length ∧ ∀ r, r ∈ rtL (xA3 l) (xN l) → bsR l r) ∧ shP q.2 S (xPt (xA3 l) (xN l)) ∧ iO (sCt S) h q.2) := by
  unfold fX3_cutsToBeside
  refine zS.b (zS.up (fun k h' => (∀ u, u < k → sM (zi h' (S + 4) u) (fun v => u < 12 ∧ xN l v ∧ xA3 l u v)) ∧ iO (fun u _ => u = S + 4) h h') 0 12 (fun k h' _ hk hJ => ?_) (fun h' hJ => ?_) (Nat.zero_le _) (by omega) ⟨fun u z => absurd z (Nat.not_lt_zero _), iO.rf⟩) (fun h1 hh => ?_) (R1 := fun h' => (∀ u, u < 12 → sM (zi h' (S + 4) u) (fun v => u < 12 ∧ xN l v ∧ xA3 l u v)) ∧ iO (fun u _ => u = S + 4) h h')
  · obtain ⟨j1, o⟩ := hJ
    have f' := f.on o
    dsimp only
    rw [if_neg (k12 hk), f'.p7, Option.bind_some, f'.fI, Option.bind_some, f'.p5, Option.bind_some, f'.a2 hk, Option.bind_some, f'.p6, Option.bind_some, f'.a3 hk, Option.bind_some, f'.b4 hk, Option.bind_some]
    have o2 : iO (fun u j => u = S + 4 ∧ j = k) h' (zsetI h' (S + 4) k (zi h' S 2 &&& ((zi h' (S + 2) k &&& zi h' (S + 3) k) ^^^ (-1 : Int32)))) := iO.s ⟨rfl, rfl⟩
    have z2 : zi (zsetI h' (S + 4) k (zi h' S 2 &&& ((zi h' (S + 2) k &&& zi h' (S + 3) k) ^^^ (-1 : Int32)))) (S + 4) k = zi h' S 2 &&& ((zi h' (S + 2) k &&& zi h' (S + 3) k) ^^^ (-1 : Int32)) := u2_s
    generalize zsetI h' (S + 4) k (zi h' S 2 &&& ((zi h' (S + 2) k &&& zi h' (S + 3) k) ^^^ (-1 : Int32))) = h2 at o2 z2 ⊢
    refine zS.s ⟨_, by rw [nI_1], fun u hu => ?_, o.tr (o2.mono (fun u j z => z.1))⟩
    by_cases c : u = k
    · subst c
      rw [z2, o.2 S 2 (by omega), o.2 (S + 2) u (by omega), o.2 (S + 3) u (by omega)]
      exact (s.1.sub ((s.2.2.2.1 u hk).and (s.2.2.2.2 u hk))).c (fun v _ => ⟨fun z => ⟨hk, z.1, z.2⟩, fun z => ⟨z.2.1, z.2.2⟩⟩)
    · rw [o2.2 (S + 4) u (by omega)]; exact j1 u (by omega)
  · dsimp only
    rw [if_pos e12]
    exact zS.s ⟨_, rfl, hJ⟩
  obtain ⟨j1, o⟩ := hh
  have f1 := f.on o
  rw [f1.fI, Option.bind_some, f1.ob, Option.bind_some]
  refine zS.b (cpart_eq (P := xN l) (A := xA3 l) (A' := fun u v => u < 12 ∧ xN l v ∧ xA3 l u v) f1 (by rw [o.2 S 2 (by omega)]; exact s.1) (fun v => xN_12 ok) (fun a b z => ⟨z.1, xN_12 ok z.2.1⟩) j1 (fun n hn v => cloCN (fun a b _ ab => ab.2) (fun a b sa sb ab => ⟨xN_12 ok sa, sb, ab⟩) hn v)) (fun h2 ⟨p, o2⟩ => ?_)
  have f2 := f1.on o2
  have O2 : iO (sCt S) h h2 := (o.mono (fun u k z => by omega)).tr (o2.mono (fun u k z => by omega))
  have s2 := s.ct O2
  have e : (xPt (xA3 l) (xN l)).length = (rtL (xA3 l) (xN l)).length := List.length_map _
  obtain ⟨p1, p2, p3⟩ := p
  have p3' : ∀ i, i < (rtL (xA3 l) (xN l)).length → zi h2 (S + 6) i = mOf (CN (xA3 l) (xN l) ((rtL (xA3 l) (xN l)).getD i 0)) := fun i hi => by
    rw [p3 i (by rw [e]; exact hi)]
    unfold xPt
    rw [mapP_gd _ _ 0 _ _ hi]
  have i1 : ∀ i, i < (rtL (xA3 l) (xN l)).length → ((zi h2 (S + 6) i &&& zi h2 S 3) = 0 ↔ ¬ ∃ v, CN (xA3 l) (xN l) ((rtL (xA3 l) (xN l)).getD i 0) v ∧ xB l v) := fun i hi => by
    rw [p3' i hi, ((mOf_s _).and s2.2.1).z]
    exact ⟨fun z ⟨v, v1, v2⟩ => z v (xN_12 ok v1.s2) ⟨v1, v2⟩, fun z v _ w => z ⟨v, w⟩⟩
  have i2 : ∀ i, i < (rtL (xA3 l) (xN l)).length → ((zi h2 (S + 6) i &&& zi h2 S 4) = 0 ↔ ¬ ∃ v, CN (xA3 l) (xN l) ((rtL (xA3 l) (xN l)).getD i 0) v ∧ xE l v) := fun i hi => by
    rw [p3' i hi, ((mOf_s _).and s2.2.2.1).z]
    exact ⟨fun z ⟨v, v1, v2⟩ => z v (xN_12 ok v1.s2) ⟨v1, v2⟩, fun z v _ w => z ⟨v, w⟩⟩
  have sp : shP h2 S (xPt (xA3 l) (xN l)) := ⟨p1, p2, p3⟩
  have g := gt1_B p1
  rw [e] at g p2 p1
  generalize rtL (xA3 l) (xN l) = L at *
  refine zS.b (R1 := fun q : Unit ⊕ (Int32 × Zh) => (q = .inl () ∧ ∀ i, i < L.length → bsR l (L.getD i 0)) ∨ (q = .inr (0, h2) ∧ ¬ ∀ i, i < L.length → bsR l (L.getD i 0))) (zS.gen (fun k (_ : Unit) => nI k) (fun k _ => ∀ i, i < k → bsR l (L.getD i 0)) 0 L.length (fun k _ _ hk hJ => ?_) (fun _ hJ => ?_) (Nat.zero_le _) (by omega) (x0 := ()) (fun i z => absurd z (Nat.not_lt_zero _))) (fun q hq => ?_)
  · rw [f2.fI, Option.bind_some, p2, if_neg (nI_nle' (by omega) hk), f2.p9, Option.bind_some, f2.a6 (by omega), Option.bind_some, f2.fI, Option.bind_some]
    by_cases c : (zi h2 (S + 6) k &&& zi h2 S 3) = 0
    · rw [if_pos c]
      exact zS.s (Or.inr ⟨_, rfl, Or.inr ⟨rfl, fun z => (i1 k hk).mp c (z k hk).1⟩⟩)
    · rw [if_neg c, Option.bind_some, f2.a6 (by omega), Option.bind_some, f2.fI, Option.bind_some]
      by_cases d : (zi h2 (S + 6) k &&& zi h2 S 4) = 0
      · rw [if_pos d]
        exact zS.s (Or.inr ⟨_, rfl, Or.inr ⟨rfl, fun z => (i2 k hk).mp d (z k hk).2⟩⟩)
      · rw [if_neg d]
        refine zS.s (Or.inl ⟨(), by rw [nI_1], fun i hi => ?_⟩)
        by_cases w : i = k
        · subst w
          exact ⟨Classical.not_not.mp (fun z => c ((i1 i hk).mpr z)), Classical.not_not.mp (fun z => d ((i2 i hk).mpr z))⟩
        · exact hJ i (by omega)
  · rw [f2.fI, Option.bind_some, p2, if_pos (nI_le (Nat.le_refl _) (by omega))]
    exact zS.s ⟨_, rfl, Or.inl ⟨rfl, hJ⟩⟩
  · have eq : (∀ i, i < L.length → bsR l (L.getD i 0)) ↔ ∀ r, r ∈ L → bsR l r := ⟨fun z r hr => by
      obtain ⟨i, h1, h2⟩ := mem_gd.mpr hr
      rw [← h2]; exact z i h1, fun z i hi => z _ (mem_gd.mp ⟨i, hi, rfl⟩)⟩
    rcases hq with ⟨rfl, al⟩ | ⟨rfl, na⟩
    · dsimp only
      rw [f2.fI, Option.bind_some, p2]
      refine zS.b (R1 := fun x => isB x (1 < L.length)) ?_ (fun x hx => ?_)
      · by_cases c : nI L.length ≤ (1 : Int32)
        · rw [if_pos c] at g ⊢; exact zS.s g
        · rw [if_neg c] at g ⊢; exact zS.s g
      · rw [zbo_B hx, Option.bind_some]
        exact zS.s ⟨hx.c ⟨fun z => ⟨z, eq.mp al⟩, fun z => z.1⟩, sp, O2⟩
    · exact zS.s ⟨isB.f (fun z => na (eq.mpr z.2)), sp, O2⟩
end CC2
