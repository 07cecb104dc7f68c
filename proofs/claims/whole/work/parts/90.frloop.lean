/-! found on the reference's side: to a loop -/
section RLOOP
variable {s0 s : Zr} {l : Rw}
def gdR (l : Rw) (r : Nat) : Prop := ∃ w, CN (xA1 l) (xS0 l) r w ∧ xGo l w
def lM (l : Rw) (K : Nat → Prop) (u : Nat) : Prop := (xB l u ∨ xE l u) ∨ ∃ t, isRt (xA1 l) (xS0 l) t ∧ K t ∧ CN (xA1 l) (xS0 l) t u
def LI (l : Rw) (s0 s : Zr) (K : Nat → Prop) : Prop := (∀ v, v < 12 → isB (s 44 v) (lM l K v)) ∧
  (∀ v, v < 12 → (∃ r, r < 12 ∧ isRt (xA1 l) (xS0 l) r ∧ CN (xA1 l) (xS0 l) r v ∧ ¬ K r ∧ s 40 v = nI r) ∨ ((∀ r, isRt (xA1 l) (xS0 l) r → CN (xA1 l) (xS0 l) r v → K r) ∧ s 40 v = -3)) ∧
  (∀ r, isRt (xA1 l) (xS0 l) r → K r → gdR l r) ∧ rOnly sCut s0 s
def rem (l : Rw) (K : Nat → Prop) (r : Nat) : Prop := isRt (xA1 l) (xS0 l) r ∧ ¬ K r
def rLs (l : Rw) (s : Zr) (K : Nat → Prop) : Prop := s 0 52 = nI (nmL (rem l K)).length ∧ ∀ i, i < (nmL (rem l K)).length → s 41 i = nI ((nmL (rem l K)).getD i 0)
theorem LI_cn {K : Nat → Prop} (h : LI l s0 s K) {r v : Nat} (hr : r < 12) (ir : isRt (xA1 l) (xS0 l) r) (nk : ¬ K r) (hv : v < 12) : s 40 v = nI r ↔ CN (xA1 l) (xS0 l) r v := by
  rcases h.2.1 v hv with ⟨q, q1, q2, q3, q4, q5⟩ | ⟨q1, q2⟩
  · rw [q5, nI_eq (by omega) (by omega)]
    exact ⟨fun e => e ▸ q3, fun e => rt_one xA1_sy q2 ir q3 e⟩
  · rw [q2]
    exact ⟨fun z => (n3_nI hr z.symm).elim, fun z => (nk (q1 r ir z)).elim⟩
theorem LI_rt {K : Nat → Prop} (h : LI l s0 s K) {v : Nat} (hv : v < 12) : s 40 v = nI v ↔ rem l K v := by
  rcases h.2.1 v hv with ⟨q, q1, q2, q3, q4, q5⟩ | ⟨q1, q2⟩
  · rw [q5, nI_eq (by omega) (by omega)]
    constructor
    · intro e; subst e; exact ⟨q2, q4⟩
    · rintro ⟨e1, -⟩; exact rt_one xA1_sy q2 e1 q3 (CN.rf e1.1)
  · rw [q2]
    exact ⟨fun z => (n3_nI hv z.symm).elim, fun z => (z.2 (q1 v z.1 (CN.rf z.1.1))).elim⟩
theorem rtake_eq {K : Nat → Prop} (h : LI l s0 s K) {r : Nat} (hr : r < 12) (ir : isRt (xA1 l) (xS0 l) r) (nk : ¬ K r) (gd : gdR l r) : zS (zloop (fun ((v49, s50) : Int32 × Zr) =>
                (if (12 : Int32) ≤ v49 then
                  some (.inr s50)
                else
                  (rdZ s50 44 v49).bind fun x54 =>
                  (if x54 = 0 then
                    (rdI s50 40 v49).bind fun x57 =>
                    if x57 = nI r then
                      some (1 : Int32)
                    else
                      some (0 : Int32)
                  else
                    some (1 : Int32)).bind fun (v55 : Int32) =>
                  (wrZ s50 44 v49 v55).bind fun s58 =>
                  (rdI s58 40 v49).bind fun x59 =>
                  (if x59 = nI r then
                    some (-3 : Int32)
                  else
                    (rdI s58 40 v49).bind fun x62 =>
                    some x62).bind fun (v60 : Int32) =>
                  (wrI s58 40 v49 v60).bind fun s63 =>
                  some (.inl (v49 + (1 : Int32), s63)) : Option ((Int32 × Zr) ⊕ Zr))) zFU ((0 : Int32), s)) (fun s' => LI l s0 s' (fun t => K t ∨ t = r) ∧ s' 0 52 = s 0 52) := by
  obtain ⟨h1, h2, h3, h4⟩ := id h
  have cn : ∀ v, v < 12 → (s 40 v = nI r ↔ CN (xA1 l) (xS0 l) r v) := fun v hv => LI_cn h hr ir nk hv
  refine zS.m (R := fun s' => (∀ v, v < 12 → isB (s' 44 v) (lM l K v ∨ (v < 12 ∧ CN (xA1 l) (xS0 l) r v)) ∧ s' 40 v = if v < 12 ∧ s 40 v = nI r then -3 else s 40 v) ∧ rOnly (fun a _ => a = 44 ∨ a = 40) s s') (zS.up (fun j s' => (∀ v, v < 12 → isB (s' 44 v) (lM l K v ∨ (v < j ∧ CN (xA1 l) (xS0 l) r v)) ∧ s' 40 v = if v < j ∧ s 40 v = nI r then -3 else s 40 v) ∧ rOnly (fun a _ => a = 44 ∨ a = 40) s s') 0 12 (fun j s' _ hj hJ => ?_) (fun s' hJ => ?_) (Nat.zero_le _) (by omega) ⟨fun v hv => ⟨(h1 v hv).c ⟨Or.inl, fun z => z.elim id (fun y => absurd y.1 (Nat.not_lt_zero _))⟩, by rw [if_neg (fun z => absurd z.1 (Nat.not_lt_zero _))]⟩, rOnly.rf⟩) (fun s' hs => ?_)
  · obtain ⟨j1, j2⟩ := hJ
    obtain ⟨b44, b40⟩ := j1 j hj
    rw [if_neg (fun z => Nat.lt_irrefl _ z.1)] at b40
    have b44 : isB (s' 44 j) (lM l K j) := b44.c ⟨fun z => z.elim id (fun y => absurd y.1 (Nat.lt_irrefl _)), Or.inl⟩
    dsimp only
    rw [if_neg (k12 hj), rd44 hj, Option.bind_some]
    refine zS.b (R1 := fun y => isB y (lM l K j ∨ CN (xA1 l) (xS0 l) r j)) ?_ (fun y hy => ?_)
    · by_cases c : s' 44 j = 0
      · rw [if_pos c, rd40 hj, Option.bind_some, b40]
        by_cases d : s 40 j = nI r
        · rw [if_pos d]; exact zS.s (isB.t (Or.inr ((cn j hj).mp d)))
        · rw [if_neg d]; exact zS.s (isB.f (fun z => z.elim (b44.n c) (fun w => d ((cn j hj).mpr w))))
      · rw [if_neg c]; exact zS.s (isB.t (Or.inl (b44.p c)))
    · rw [wr44 hj hy.1, Option.bind_some, rd40 hj, Option.bind_some, u2_a (by decide), b40]
      refine zS.b (R1 := fun z => z = if s 40 j = nI r then -3 else s 40 j) ?_ (fun z hz => ?_)
      · by_cases d : s 40 j = nI r
        · rw [if_pos d, if_pos d]; exact zS.s rfl
        · rw [if_neg d, if_neg d, Option.bind_some]; exact zS.s rfl
      · rw [wr40 hj, Option.bind_some]
        refine zS.s ⟨_, by rw [nI_1], fun v hv => ?_, (j2.tr (rOnly.u (Or.inl rfl))).tr (rOnly.u (Or.inr rfl))⟩
        by_cases c : v = j
        · subst c
          rw [u2_a (a := 40) (by decide), u2_s, u2_s, hz]
          refine ⟨hy.c ⟨fun z => z.elim Or.inl (fun w => Or.inr ⟨by omega, w⟩), fun z => z.elim Or.inl (fun w => Or.inr w.2)⟩, ?_⟩
          by_cases d : s 40 v = nI r
          · rw [if_pos d, if_pos ⟨by omega, d⟩]
          · rw [if_neg d, if_neg (fun z => d z.2)]
        · obtain ⟨o1, o2⟩ := j1 v hv
          rw [u2_a (a := 40) (by decide), u2_n (fun z => c z.2), u2_n (fun z => c z.2), u2_a (by decide), o2]
          refine ⟨o1.c ⟨fun z => z.elim Or.inl (fun w => Or.inr ⟨by omega, w.2⟩), fun z => z.elim Or.inl (fun w => Or.inr ⟨by omega, w.2⟩)⟩, ?_⟩
          by_cases d : v < j ∧ s 40 v = nI r
          · rw [if_pos d, if_pos ⟨by omega, d.2⟩]
          · rw [if_neg d, if_neg (fun z => d ⟨by omega, z.2⟩)]
  · dsimp only
    rw [if_pos e12]
    exact zS.s ⟨_, rfl, hJ⟩
  · obtain ⟨e1, e2⟩ := hs
    refine ⟨⟨fun v hv => (e1 v hv).1.c ?_, fun v hv => ?_, fun t it kt => kt.elim (h3 t it) (fun z => z ▸ gd), h4.tr (e2.mono (fun a k z => by omega))⟩, e2 0 52 (by omega)⟩
    · unfold lM
      constructor
      · rintro (z | z)
        · exact z.elim Or.inl (fun ⟨t, t1, t2, t3⟩ => Or.inr ⟨t, t1, Or.inl t2, t3⟩)
        · exact Or.inr ⟨r, ir, Or.inr rfl, z.2⟩
      · rintro (z | ⟨t, t1, t2, t3⟩)
        · exact Or.inl (Or.inl z)
        · rcases t2 with t2 | rfl
          · exact Or.inl (Or.inr ⟨t, t1, t2, t3⟩)
          · exact Or.inr ⟨hv, t3⟩
    · have e40 := (e1 v hv).2
      by_cases d : s 40 v = nI r
      · rw [if_pos ⟨hv, d⟩] at e40
        refine Or.inr ⟨fun t it ct => Or.inr (rt_one xA1_sy it ir ct ((cn v hv).mp d)), e40⟩
      · rw [if_neg (fun z => d z.2)] at e40
        rcases h2 v hv with ⟨q, q1, q2, q3, q4, q5⟩ | ⟨q1, q2⟩
        · refine Or.inl ⟨q, q1, q2, q3, fun z => z.elim q4 (fun w => ?_), e40.trans q5⟩
          subst w
          exact d q5
        · exact Or.inr ⟨fun t it ct => Or.inl (q1 t it ct), e40.trans q2⟩
theorem rem_at {K : Nat → Prop} (h : rLs l s K) {i : Nat} (hi : i < (nmL (rem l K)).length) : ∃ r, r < 12 ∧ isRt (xA1 l) (xS0 l) r ∧ ¬ K r ∧ s 41 i = nI r ∧ r = (nmL (rem l K)).getD i 0 := by
  obtain ⟨h1, h2, h3⟩ := nmL_mem.mp (mem_gd.mp ⟨i, hi, rfl⟩)
  exact ⟨_, h1, h2, h3, h.2 i hi, rfl⟩
theorem nmL_12 (S : Nat → Prop) : (nmL S).length ≤ 12 := cN_12 S
theorem rloopc_eq (ok : xOK l) (h : LK s (xN l) (xB l) (xE l) (xG l)) : zS (fX6_cutsLoop s) (fun q => isB q.1 (0 < (rtL (xA1 l) (xS1 l)).length) ∧ rCt q.2 (rtL (xA1 l) (xS1 l)) (xPt (xA1 l) (xS1 l)) ∧ (∀ v, v < 12 → isB (q.2 44 v) (xBd l v)) ∧ rOnly sCut s q.2) := by
  unfold fX6_cutsLoop
  have hS : ∀ v, xN l v → v < 12 := fun v hv => xN_12 ok hv
  have hS0 : ∀ v, xS0 l v → v < 12 := fun v hv => hS v hv.1
  refine zS.b (cp144 rOnly.rf h) (fun s1 ⟨b1, b2⟩ => ?_)
  refine zS.b (R1 := fun s' => (∀ v, v < 12 → isB (s' 44 v) (xB l v ∨ xE l v) ∧ isB (s' 45 v) (xS0 l v)) ∧ rOnly (fun a _ => a = 44 ∨ a = 45) s1 s') (zS.up (fun k s' => (∀ v, v < k → isB (s' 44 v) (xB l v ∨ xE l v) ∧ isB (s' 45 v) (xS0 l v)) ∧ rOnly (fun a _ => a = 44 ∨ a = 45) s1 s') 0 12 (fun k s' _ hk hJ => ?_) (fun s' hJ => ?_) (Nat.zero_le _) (by omega) ⟨fun _ z => absurd z (Nat.not_lt_zero _), rOnly.rf⟩) (fun s2 ⟨d1, d2⟩ => ?_)
  · obtain ⟨q37, q38, q39⟩ := (h.cut b2).1 k hk
    dsimp only
    rw [if_neg (k12 hk), rd38 hk, Option.bind_some, hJ.2 38 _ (by omega)]
    refine zS.b (R1 := fun y => isB y (xB l k ∨ xE l k)) ?_ (fun y hy => ?_)
    · by_cases c : s1 38 k = 0
      · rw [if_pos c, rd39 hk, Option.bind_some, hJ.2 39 _ (by omega)]
        exact zS.m (bb_id q39) (fun y hy => hy.c ⟨Or.inr, fun z => z.elim (fun w => (q38.n c w).elim) id⟩)
      · rw [if_neg c]; exact zS.s (isB.t (Or.inl (q38.p c)))
    · rw [wr44 hk hy.1, Option.bind_some, rd37 hk, Option.bind_some, u2_a (by decide), hJ.2 37 _ (by omega)]
      refine zS.b (R1 := fun y => isB y (xS0 l k)) ?_ (fun y' hy' => ?_)
      · by_cases c : s1 37 k = 0
        · rw [if_pos c]; exact zS.s (isB.f (fun z => q37.n c z.1))
        · rw [if_neg c, rd44 hk, Option.bind_some, u2_s]
          by_cases d : y = 0
          · rw [if_pos d]; exact zS.s (isB.t ⟨q37.p c, hy.n d⟩)
          · rw [if_neg d]; exact zS.s (isB.f (fun z => z.2 (hy.p d)))
      · rw [wr45 hk hy'.1, Option.bind_some]
        refine zS.s ⟨_, by rw [nI_1], fun v hv => ?_, (hJ.2.tr (rOnly.u (Or.inl rfl))).tr (rOnly.u (Or.inr rfl))⟩
        by_cases c : v = k
        · subst c
          rw [u2_a (by decide), u2_s, u2_s]
          exact ⟨hy, hy'⟩
        · rw [u2_a (by decide), u2_n (fun z => c z.2), u2_n (fun z => c z.2), u2_a (by decide)]
          exact hJ.1 v (by omega)
  · dsimp only
    rw [if_pos e12]
    exact zS.s ⟨_, rfl, hJ⟩
  have o2 : rOnly sCut s s2 := b2.tr (d2.mono (fun a k z => by omega))
  refine zS.b (rgather_eq (A0 := fun a b => xG l b a) (A := xA1 l) (S := xS0 l) (Or.inr rfl) (fun v hv => (d1 v hv).2) (b1.only d2 (fun k => by omega)) (fun u v => ⟨fun z => z.symm, fun z => z.symm⟩) hS0) (fun s3 ⟨g1, g2⟩ => ?_)
  have o3 : rOnly sCut s s3 := o2.tr (g2.mono sGt_c)
  have L0 : LI l s s3 (fun _ => False) := ⟨fun v hv => by
    rw [g2 44 v (by omega)]
    exact (d1 v hv).1.c ⟨Or.inl, fun z => z.elim id (fun ⟨_, _, y, _⟩ => y.elim)⟩, fun v hv => by
    by_cases c : xS0 l v
    · obtain ⟨r, r1, r2, r3, r4⟩ := (g1.1 v hv).1 c
      exact Or.inl ⟨r, r1, r2, r3, id, r4⟩
    · exact Or.inr ⟨fun r _ z => c z.s2, (g1.1 v hv).2 c⟩, fun _ _ z => z.elim, o3⟩
  have eN : nmL (rem l (fun _ => False)) = rtL (xA1 l) (xS0 l) := by
    unfold nmL rtL
    congr 1
    funext v
    congr 1
    exact propext ⟨fun z => z.1, fun z => ⟨z, id⟩⟩
  have S0' : rLs l s3 (fun _ => False) := by
    unfold rLs
    rw [eN]
    exact g1.2
  refine zS.b (R1 := fun s' => ∃ K, LI l s s' K ∧ rLs l s' K ∧ ∀ r, rem l K r → ¬ gdR l r) ?_ (fun s4 ⟨K, k1, k2, k3⟩ => ?_)
  · refine zloop_inv (fun (n : Nat) (q : Int32 × Zr) => ∃ K, LI l s q.2 K ∧ rLs l q.2 K ∧ ((q.1 = 1 ∧ n = 1 + cN (rem l K)) ∨ (q.1 = 0 ∧ n = 0 ∧ ∀ r, rem l K r → ¬ gdR l r))) _ ?_ (1 + cN (rem l (fun _ => False))) _ _ ⟨_, L0, S0', Or.inl ⟨rfl, rfl⟩⟩ (by have := cN_12 (rem l (fun _ => False)); rw [zFU_v]; omega)
    rintro n ⟨x, s5⟩ ⟨K, I, Ls, hx⟩
    dsimp only at I Ls hx
    rcases hx with ⟨rfl, rfl⟩ | ⟨rfl, rfl, fin⟩
    · left
      have l12 := nmL_12 (rem l K)
      have h5 := h.cut I.2.2.2
      let Jf : Int32 → Zr → Prop := fun x s6 => x = 1 ∧ s6 0 52 = s5 0 52 ∧ ∃ r, r < 12 ∧ rem l K r ∧ LI l s s6 (fun t => K t ∨ t = r)
      have key : zS (zloop (fun ((v29, v30, s31) : Int32 × Int32 × Zr) =>
        (if (s31 0 52) ≤ v30 then
          some (.inr (v29, s31))
        else
          if v29 = 0 then
            (zloop (fun ((v36, v37) : Int32 × Int32) =>
              (if (12 : Int32) ≤ v37 then
                some (.inr v36)
              else
                if v36 = 0 then
                  (rdI s31 40 v37).bind fun x41 =>
                  (rdI s31 41 v30).bind fun x42 =>
                  (if x41 = x42 then
                    (fX6_goesIn s31 v37).bind fun x45 =>
                    if x45 = 0 then
                      some (0 : Int32)
                    else
                      some (1 : Int32)
                  else
                    some (0 : Int32)).bind fun (v43 : Int32) =>
                  some (.inl (v43, v37 + (1 : Int32)))
                else
                  some (.inr v36) : Option ((Int32 × Int32) ⊕ Int32))) zFU (v29, (0 : Int32))).bind fun (w38 : Int32) =>
            (if w38 = 0 then
              some s31
            else
              (rdI s31 41 v30).bind fun x48 =>
              (zloop (fun ((v49, s50) : Int32 × Zr) =>
                (if (12 : Int32) ≤ v49 then
                  some (.inr s50)
                else
                  (rdZ s50 44 v49).bind fun x54 =>
                  (if x54 = 0 then
                    (rdI s50 40 v49).bind fun x57 =>
                    if x57 = x48 then
                      some (1 : Int32)
                    else
                      some (0 : Int32)
                  else
                    some (1 : Int32)).bind fun (v55 : Int32) =>
                  (wrZ s50 44 v49 v55).bind fun s58 =>
                  (rdI s58 40 v49).bind fun x59 =>
                  (if x59 = x48 then
                    some (-3 : Int32)
                  else
                    (rdI s58 40 v49).bind fun x62 =>
                    some x62).bind fun (v60 : Int32) =>
                  (wrI s58 40 v49 v60).bind fun s63 =>
                  some (.inl (v49 + (1 : Int32), s63)) : Option ((Int32 × Zr) ⊕ Zr))) zFU ((0 : Int32), s31)).bind fun (s51 : Zr) =>
              some s51).bind fun (s46 : Zr) =>
            some (.inl (w38, v30 + (1 : Int32), s46))
          else
            some (.inr (v29, s31)) : Option ((Int32 × Int32 × Zr) ⊕ (Int32 × Zr)))) zFU ((0 : Int32), (0 : Int32), s5)) (fun q : Int32 × Zr => (q.1 = 0 ∧ q.2 = s5 ∧ ∀ r, rem l K r → ¬ gdR l r) ∨ Jf q.1 q.2) := by
        refine zS.mid (fun k x s6 => (x = 0 ∧ s6 = s5 ∧ ∀ i, i < k → ¬ gdR l ((nmL (rem l K)).getD i 0)) ∨ Jf x s6) 0 (nmL (rem l K)).length (fun k x s6 _ hk hJ => ?_) (fun x s6 hJ => ?_) (Nat.zero_le _) (by omega) (Or.inl ⟨rfl, rfl, fun _ z => absurd z (Nat.not_lt_zero _)⟩)
        · rcases hJ with ⟨rfl, rfl, hJ⟩ | hJ
          · obtain ⟨r, r1, r2, r3, r4, r5⟩ := rem_at Ls hk
            dsimp only
            rw [if_neg (show ¬ s6 0 52 ≤ nI k by rw [Ls.1]; exact nI_nle' (by omega) hk), if_pos rfl]
            refine zS.b (R1 := fun y => isB y (gdR l r)) (zS.pr (fun j y => isB y (∃ v, v < j ∧ CN (xA1 l) (xS0 l) r v ∧ xGo l v)) 0 12 (fun j y _ hj hy => ?_) (fun y hy => ?_) (Nat.zero_le _) (by omega) (isB.f (fun ⟨_, z, _⟩ => absurd z (Nat.not_lt_zero _)))) (fun y hy => ?_)
            · dsimp only
              have cn := LI_cn I r1 r2 r3 hj
              rw [if_neg (k12 hj)]
              by_cases c : y = 0
              · rw [if_pos c, rd40 hj, Option.bind_some, rd41 (by omega), Option.bind_some, r4]
                have up : isB 0 (CN (xA1 l) (xS0 l) r j ∧ xGo l j) → isB 0 (∃ v, v < j + 1 ∧ CN (xA1 l) (xS0 l) r v ∧ xGo l v) := fun z => isB.f (fun ⟨v, v1, v2⟩ => by
                  by_cases e : v = j
                  · subst e; exact z.n rfl v2
                  · exact hy.n c ⟨v, by omega, v2⟩)
                refine zS.b (R1 := fun y => isB y (∃ v, v < j + 1 ∧ CN (xA1 l) (xS0 l) r v ∧ xGo l v)) ?_ (fun y' hy' => zS.s (Or.inl ⟨y', by rw [nI_1], hy'⟩))
                by_cases d : s6 40 j = nI r
                · rw [if_pos d]
                  have cj := cn.mp d
                  refine zS.b (rgoes_eq h5 I.1 hj) (fun z hz => ?_)
                  have hz := hz.c (gX_go ok r2 cj r3)
                  by_cases e : z = 0
                  · rw [if_pos e]; exact zS.s (up (isB.f (fun w => hz.n e w.2)))
                  · rw [if_neg e]; exact zS.s (isB.t ⟨j, by omega, cj, hz.p e⟩)
                · rw [if_neg d]; exact zS.s (up (isB.f (fun w => d (cn.mpr w.1))))
              · rw [if_neg c]
                obtain ⟨v, v1, v2⟩ := hy.p c
                exact zS.s (Or.inr ⟨y, rfl, hy.c ⟨fun _ => ⟨v, v2⟩, fun _ => ⟨v, v1, v2⟩⟩⟩)
            · dsimp only
              rw [if_pos e12]
              exact zS.s ⟨y, rfl, hy.c ⟨fun ⟨v, _, z⟩ => ⟨v, z⟩, fun ⟨v, z⟩ => ⟨v, hS0 v z.1.s2, z⟩⟩⟩
            · by_cases c : y = 0
              · rw [if_pos c, Option.bind_some]
                refine zS.s (Or.inl ⟨y, s6, by rw [nI_1], Or.inl ⟨c, rfl, fun i hi => ?_⟩⟩)
                by_cases e : i = k
                · subst e; rw [← r5]; exact hy.n c
                · exact hJ i (by omega)
              · rw [if_neg c, rd41 (by omega), Option.bind_some, r4]
                have y1 : y = 1 := hy.1.elim (fun z => (c z).elim) id
                refine zS.b (R1 := fun s7 => LI l s s7 (fun t => K t ∨ t = r) ∧ s7 0 52 = s6 0 52) (zS.b (rtake_eq I r1 r2 r3 (hy.p c)) (fun s7 hs7 => zS.s hs7)) (fun s7 hs7 => zS.s (Or.inl ⟨y, s7, by rw [nI_1], Or.inr ⟨y1, hs7.2, r, r1, ⟨r2, r3⟩, hs7.1⟩⟩))
          · dsimp only
            rw [if_neg (show ¬ s6 0 52 ≤ nI k by rw [hJ.2.1, Ls.1]; exact nI_nle' (by omega) hk), if_neg (by rw [hJ.1]; decide)]
            exact zS.s (Or.inr ⟨_, rfl, Or.inr hJ⟩)
        · dsimp only
          have e6 : s6 0 52 = s5 0 52 := hJ.elim (fun z => by rw [z.2.1]) (fun z => z.2.1)
          rw [if_pos (show s6 0 52 ≤ nI (nmL (rem l K)).length by rw [e6, Ls.1]; exact nI_le (Nat.le_refl _) (by omega))]
          refine zS.s ⟨_, rfl, hJ.elim (fun z => Or.inl ⟨z.1, z.2.1, fun r hr => ?_⟩) Or.inr⟩
          obtain ⟨i, i1, i2⟩ := mem_gd.mpr (nmL_mem.mpr ⟨hS0 r hr.1.1, hr⟩)
          rw [← i2]
          exact z.2.2 i i1
      obtain ⟨⟨x6, s6⟩, e6, h6⟩ := key
      dsimp only at h6
      have run : ∀ s7, fX6_listParts s6 = some s7 → (if (1 : Int32) = 0 then (some (.inr s5) : Option ((Int32 × Zr) ⊕ Zr)) else (some (x6, s6)).bind fun ((w32, s33) : Int32 × Zr) => (fX6_listParts s33).bind fun s64 => some (.inl (w32, s64))) = some (.inl (x6, s7)) := fun s7 e => by
        rw [if_neg (by decide), Option.bind_some]
        show (fX6_listParts s6).bind _ = _
        rw [e]; rfl
      have LIo : ∀ K' s7, LI l s s6 K' → rOnly (fun a k => a = 41 ∨ (a = 0 ∧ k = 52)) s6 s7 → LI l s s7 K' := fun K' s7 I' o => ⟨fun v hv => by rw [o 44 v (by omega)]; exact I'.1 v hv, fun v hv => by rw [o 40 v (by omega)]; exact I'.2.1 v hv, I'.2.2.1, I'.2.2.2.tr (o.mono (fun a k z => by omega))⟩
      rcases h6 with ⟨z1, z2, z3⟩ | ⟨z1, z2, r, r1, r2, I6⟩
      · subst z1 z2
        obtain ⟨s7, e7, f1, f2, f3⟩ := rlist_eq (s := s6) (Q := rem l K) (fun v hv => LI_rt I hv)
        refine ⟨(0, s7), 0, ?_, by omega, K, LIo K s7 I f3, ⟨f1, f2⟩, Or.inr ⟨rfl, rfl, z3⟩⟩
        refine Eq.trans ?_ (run s7 e7)
        show (if (1 : Int32) = 0 then _ else (zloop _ zFU _).bind _) = _
        rw [e6]
      · subst z1
        obtain ⟨s7, e7, f1, f2, f3⟩ := rlist_eq (s := s6) (Q := rem l (fun t => K t ∨ t = r)) (fun v hv => LI_rt I6 hv)
        have lt : cN (rem l (fun t => K t ∨ t = r)) < cN (rem l K) := cN_lt (fun v hv => ⟨hv.1, fun z => hv.2 (Or.inl z)⟩) r1 (fun z => z.2 (Or.inr rfl)) r2
        refine ⟨(1, s7), _, ?_, ?_, _, LIo _ s7 I6 f3, ⟨f1, f2⟩, Or.inl ⟨rfl, rfl⟩⟩
        · refine Eq.trans ?_ (run s7 e7)
          show (if (1 : Int32) = 0 then _ else (zloop _ zFU _).bind _) = _
          rw [e6]
        · omega
    · refine Or.inr ⟨s5, ?_, K, I, Ls, fin⟩
      show (if (0 : Int32) = 0 then _ else _) = _
      rw [if_pos rfl]
  · have gdS : ∀ r v, CN (xA1 l) (xS0 l) r v → (xS1 l v ↔ ¬ gdR l r) := fun r v c => ⟨fun z ⟨w, w1, w2⟩ => z.2 ⟨w, (w1.sy xA1_sy).tr c, w2⟩, fun z => ⟨c.s2, fun ⟨w, w1, w2⟩ => z ⟨w, c.tr (w1.sy xA1_sy), w2⟩⟩⟩
    have sub : ∀ r v, xS1 l r → (CN (xA1 l) (xS1 l) r v ↔ CN (xA1 l) (xS0 l) r v) := fun r v hr => CN_sub xA1_sy (fun v z => z.1) (fun a b x y z => ⟨y, fun ⟨w, w1, w2⟩ => x.2 ⟨w, w1.st x.1 (xA1_sy _ _ z), w2⟩⟩) hr
    have rts : ∀ r, isRt (xA1 l) (xS1 l) r ↔ rem l K r := fun r => by
      constructor
      · rintro ⟨i1, i2⟩
        have ir : isRt (xA1 l) (xS0 l) r := ⟨i1.1, fun u hu c => i2 u hu (((sub r u i1).mpr (c.sy xA1_sy)).sy xA1_sy)⟩
        exact ⟨ir, fun z => (gdS r r (CN.rf i1.1)).mp i1 (k1.2.2.1 r ir z)⟩
      · rintro hr
        have s1' : xS1 l r := (gdS r r (CN.rf hr.1.1)).mpr (k3 r hr)
        exact ⟨s1', fun u hu c => hr.1.2 u hu (((sub r u s1').mp (c.sy xA1_sy)).sy xA1_sy)⟩
    have eL : nmL (rem l K) = rtL (xA1 l) (xS1 l) := by
      unfold nmL rtL
      congr 1
      funext v
      congr 1
      exact propext (rts v).symm
    have l12 := rtL_12 (A := xA1 l) (S := xS1 l)
    have e52 : s4 0 52 = nI (rtL (xA1 l) (xS1 l)).length := by rw [← eL]; exact k2.1
    refine zS.b (R1 := fun x => isB x (0 < (rtL (xA1 l) (xS1 l)).length)) ?_ (fun x hx => ?_)
    · rw [e52]
      by_cases c : (rtL (xA1 l) (xS1 l)).length = 0
      · rw [if_pos (show nI (rtL (xA1 l) (xS1 l)).length ≤ 0 by rw [c]; decide)]
        exact zS.s (isB.f (by omega))
      · rw [if_neg (nI_nle (by omega) (by omega))]
        exact zS.s (isB.t (by omega))
    · rw [zbo_B hx, Option.bind_some]
      refine zS.s ⟨hx, ⟨(List.length_map _).symm, l12, e52, fun i hi => ?_⟩, fun v hv => (k1.1 v hv).c ⟨fun z => ?_, fun z => ?_⟩, k1.2.2.2⟩
      · have hi' : i < (nmL (rem l K)).length := by rw [eL]; exact hi
        obtain ⟨r, r1, r2, r3, r4, r5⟩ := rem_at k2 hi'
        rw [eL] at r5
        unfold xPt
        rw [map_gd _ _ _ _ hi, ← r5]
        refine ⟨r4, r1, fun v hv => ?_⟩
        rw [sub r v ((gdS r r (CN.rf r2.1)).mpr (k3 r ⟨r2, r3⟩))]
        exact LI_cn k1 r1 r2 r3 hv
      · rcases z with z | ⟨t, t1, t2, t3⟩
        · exact ⟨z.elim xB_N xE_N, fun w => w.1.2 z⟩
        · exact ⟨t3.s2.1, fun w => (gdS t v t3).mp w (k1.2.2.1 t t1 t2)⟩
      · by_cases c : xS0 l v
        · obtain ⟨r, -, r2, r3⟩ := rt_ex (A := xA1 l) c
          have gd : gdR l r := Classical.byContradiction fun n => z.2 ((gdS r v r3).mpr n)
          exact Or.inr ⟨r, r2, Classical.byContradiction fun n => k3 r ⟨r2, n⟩ gd, r3⟩
        · exact Or.inl (Classical.byContradiction fun n => c ⟨z.1, n⟩)
end RLOOP
