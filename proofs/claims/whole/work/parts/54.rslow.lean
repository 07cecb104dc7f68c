/-! slow, on the reference's side -/
noncomputable def mWS (m : Ml) (v : Nat) : Int32 := (mLagT m (nI (v / 12)) (nI (v % 12)) 144).1
noncomputable def mWC (m : Ml) (v : Nat) : Int32 := (mLagT m (nI (v / 12)) (nI (v % 12)) 144).2.1
abbrev mWA (m : Ml) (v : Nat) : Prop := ¬ mWC m v ≤ 0
/-- what slow answers -/
def mSlowR (m : Ml) (a r : Int32) : Prop := (a < 0 ∧ r = -1) ∨ (¬ a < 0 ∧ ((∃ v, v < 144 ∧ mWA m v ∧ nI (wRank (mWA m) (mWS m) 144 v) = a ∧ r = nI v) ∨ (r = -3 ∧ ∀ v, v < 144 → mWA m v → nI (wRank (mWA m) (mWS m) 144 v) ≠ a)))
theorem wRank_144 (A : Nat → Prop) (S : Nat → Int32) (v : Nat) : wRank A S 144 v ≤ 144 := nCnt_le 144
theorem mSlowR_one {m : Ml} {a r r' : Int32} (h : mSlowR m a r) (h' : mSlowR m a r') : r = r' := by
  rcases h with ⟨p, rfl⟩ | ⟨p, h⟩ <;> rcases h' with ⟨q, rfl⟩ | ⟨q, h'⟩
  · rfl
  · exact absurd p q
  · exact absurd q p
  · rcases h with ⟨v, v1, v2, v3, rfl⟩ | ⟨rfl, h⟩ <;> rcases h' with ⟨u, u1, u2, u3, rfl⟩ | ⟨rfl, h'⟩
    · have l1 := wRank_144 (mWA m) (mWS m) v
      have l2 := wRank_144 (mWA m) (mWS m) u
      rw [wRank_inj v1 u1 v2 u2 ((nI_eq (by omega) (by omega)).mp (v3.trans u3.symm))]
    · exact absurd v3 (h' v v1 v2)
    · exact absurd u3 (h u u1 u2)
    · rfl
abbrev sSlow (a k : Nat) : Prop := sTimes a k ∨ a = 47 ∨ a = 48
/-- the reference's choice of the first of those that are left (Q) -/
theorem rpick {A Q : Nat → Prop} {S : Nat → Int32} {s : Zr} (h48 : ∀ v, v < 144 → (Q v ∧ s 48 v = 1) ∨ (¬ Q v ∧ s 48 v = 0)) (h47 : ∀ v, v < 144 → s 47 v = S v) {f : Int32 × Int32 → Option ((Int32 × Int32) ⊕ Int32)}
    (hf : ∀ v20 v21, f (v20, v21) = if (144 : Int32) ≤ v21 then some (.inr v20) else (rdZ s 48 v21).bind fun x25 => (if x25 = 0 then some v20 else if v20 = (-3 : Int32) then some v21 else (rdI s 47 v21).bind fun x28 => (rdI s 47 v20).bind fun x29 => if x28 ≤ x29 then some v20 else some v21).bind fun v26 => some (.inl (v26, v21 + (1 : Int32)))) :
    ∃ r, zloop f zFU ((-3 : Int32), (0 : Int32)) = some r ∧ ((r = -3 ∧ ∀ i, i < 144 → ¬ Q i) ∨ ∃ w, w < 144 ∧ Q w ∧ r = nI w ∧ ∀ i, i < 144 → Q i → ¬ wBef A S w i) := by
  refine zloop_inv (fun n s => ∃ j, n = 144 - j ∧ j ≤ 144 ∧ s.2 = nI j ∧ ((s.1 = -3 ∧ ∀ i, i < j → ¬ Q i) ∨ ∃ w, w < j ∧ Q w ∧ s.1 = nI w ∧ ∀ i, i < j → Q i → ¬ wBef A S w i)) _ ?_ 144 _ _ ⟨0, rfl, by omega, rfl, Or.inl ⟨rfl, fun i hi => absurd hi (by omega)⟩⟩ (by rw [zFU_v]; omega)
  rintro n ⟨v, w⟩ ⟨j, hn, hj, rfl, hv⟩
  dsimp only at hv ⊢
  rw [hf]
  by_cases c1 : j = 144
  · subst c1
    rw [if_pos (show (144 : Int32) ≤ nI 144 from nI_le (Nat.le_refl 144) (by omega))]
    exact Or.inr ⟨v, rfl, hv⟩
  · rw [if_neg (show ¬ (144 : Int32) ≤ nI j from nI_nle' (b := 144) (by omega) (by omega)), rd48 (by omega), Option.bind_some]
    have nx : ∀ v' : Int32, ((v' = -3 ∧ ∀ i, i < j + 1 → ¬ Q i) ∨ ∃ w, w < j + 1 ∧ Q w ∧ v' = nI w ∧ ∀ i, i < j + 1 → Q i → ¬ wBef A S w i) → ∃ (s' : Int32 × Int32) (m' : Nat), ((some v').bind fun v26 => (some (.inl (v26, nI j + (1 : Int32))) : Option ((Int32 × Int32) ⊕ Int32))) = some (.inl s') ∧ m' < n ∧ ∃ j, m' = 144 - j ∧ j ≤ 144 ∧ s'.2 = nI j ∧ ((s'.1 = -3 ∧ ∀ i, i < j → ¬ Q i) ∨ ∃ w, w < j ∧ Q w ∧ s'.1 = nI w ∧ ∀ i, i < j → Q i → ¬ wBef A S w i) :=
      fun v' z => ⟨(v', nI (j + 1)), 144 - (j + 1), by rw [← nI_1]; rfl, by omega, j + 1, rfl, by omega, rfl, z⟩
    have step : ∀ (p : Nat → Prop), (∀ i, i < j → p i) → p j → ∀ i, i < j + 1 → p i := fun p h1 h2 i hi => by
      by_cases e : i = j
      · rw [e]; exact h2
      · exact h1 i (by omega)
    rcases h48 j (by omega) with ⟨q, e⟩ | ⟨q, e⟩
    · rw [e, if_neg (by decide)]
      rcases hv with ⟨rfl, hv⟩ | ⟨w, w1, w2, rfl, w4⟩
      · rw [if_pos rfl]
        refine Or.inl (nx _ (Or.inr ⟨j, by omega, q, rfl, step _ (fun i hi z => absurd z (hv i hi)) (fun _ => wBef_irr)⟩))
      · have h3 : ¬ nI w = (-3 : Int32) := fun z => by
          have := congrArg Int32.toInt z
          rw [nI_toInt (by omega), show (-3 : Int32).toInt = -3 from by decide] at this
          omega
        rw [if_neg h3, rd47 (by omega), rd47 (by omega), Option.bind_some, Option.bind_some, h47 j (by omega), h47 w (by omega)]
        by_cases l : S j ≤ S w
        · rw [if_pos l]
          refine Or.inl (nx _ (Or.inr ⟨w, by omega, w2, rfl, step _ w4 (fun _ z => ?_)⟩))
          rcases z.2 with y | ⟨_, y⟩
          · rw [Int32.le_iff_toInt_le] at l; rw [Int32.lt_iff_toInt_lt] at y; omega
          · omega
        · rw [if_neg l]
          refine Or.inl (nx _ (Or.inr ⟨j, by omega, q, rfl, step _ (fun i hi z y => ?_) (fun _ => wBef_irr)⟩))
          refine w4 i hi z ⟨y.1, Or.inl ?_⟩
          rw [Int32.le_iff_toInt_le] at l
          rw [Int32.lt_iff_toInt_lt]
          rcases y.2 with y | ⟨y, _⟩
          · rw [Int32.lt_iff_toInt_lt] at y; omega
          · rw [y]; omega
    · rw [e, if_pos rfl]
      refine Or.inl (nx _ ?_)
      rcases hv with ⟨rfl, hv⟩ | ⟨w, w1, w2, rfl, w4⟩
      · exact Or.inl ⟨rfl, step _ hv q⟩
      · exact Or.inr ⟨w, by omega, w2, rfl, step _ w4 (fun z => absurd z q)⟩
abbrev rS1 : Int32 × Zr → Option ((Int32 × Zr) ⊕ Zr) := fun ((v1, s2) : Int32 × Zr) =>
  (if (144 : Int32) ≤ v1 then
    some (.inr s2)
  else
    (zdiv v1 (12 : Int32)).bind fun x6 =>
    (zrem v1 (12 : Int32)).bind fun x7 =>
    (fX6_layWaits s2 x6 x7).bind fun s8 =>
    (if (s8 0 60) ≤ 0 then
      some (0 : Int32)
    else
      some (1 : Int32)).bind fun (v9 : Int32) =>
    (wrZ s8 48 v1 v9).bind fun s11 =>
    (wrI s11 47 v1 (s11 0 59)).bind fun s12 =>
    some (.inl (v1 + (1 : Int32), s12)) : Option ((Int32 × Zr) ⊕ Zr))
abbrev rS2 (s15 : Zr) : Int32 × Int32 → Option ((Int32 × Int32) ⊕ Int32) := fun ((v20, v21) : Int32 × Int32) =>
  (if (144 : Int32) ≤ v21 then
    some (.inr v20)
  else
    (rdZ s15 48 v21).bind fun x25 =>
    (if x25 = 0 then
      some v20
    else
      if v20 = (-3 : Int32) then
        some v21
      else
        (rdI s15 47 v21).bind fun x28 =>
        (rdI s15 47 v20).bind fun x29 =>
        if x28 ≤ x29 then
          some v20
        else
          some v21).bind fun (v26 : Int32) =>
    some (.inl (v26, v21 + (1 : Int32))) : Option ((Int32 × Int32) ⊕ Int32))
abbrev rS3 (a1 : Int32) : Int32 × Int32 × Zr → Option ((Int32 × Int32 × Zr) ⊕ ((Int32 × Zr) ⊕ (Int32 × Zr))) := fun ((v13, v14, s15) : Int32 × Int32 × Zr) =>
  (if a1 < v14 then
    some (.inr (.inl (v13, s15)))
  else
    if (144 : Int32) < v14 then
      some (.inr (.inl (v13, s15)))
    else
      (zloop (rS2 s15) zFU ((-3 : Int32), (0 : Int32))).bind fun (w22 : Int32) =>
      if w22 = (-3 : Int32) then
        some (.inr (.inr ((-3 : Int32), s15)))
      else
        (wrZ s15 48 w22 (0 : Int32)).bind fun s30 =>
        some (.inl (w22, v14 + (1 : Int32), s30)) : Option ((Int32 × Int32 × Zr) ⊕ ((Int32 × Zr) ⊕ (Int32 × Zr))))
theorem rslow1 {s : Zr} {m : Ml} (h : rLog s m) (ok : mOK m) : ∃ s', zloop rS1 zFU ((0 : Int32), s) = some s' ∧ rOnly sSlow s s' ∧ ∀ v, v < 144 → ((mWA m v ∧ s' 48 v = 1) ∨ (¬ mWA m v ∧ s' 48 v = 0)) ∧ s' 47 v = mWS m v := by
  refine rsloop (fun k s' => rOnly sSlow s s' ∧ ∀ v, v < k → ((mWA m v ∧ s' 48 v = 1) ∨ (¬ mWA m v ∧ s' 48 v = 0)) ∧ s' 47 v = mWS m v) 144 (fun k s' hk j => ?_) (fun s' => ?_) (by omega) ⟨rOnly.rf, fun v hv => absurd hv (by omega)⟩
  · obtain ⟨oJ, J⟩ := j
    have lg : rLog s' m := h.only oJ (fun z => by rcases z with ⟨_, z, _⟩ | z | z <;> omega) (fun a k _ _ z => by rcases z with ⟨z, _⟩ | z | z <;> omega)
    have ed : zdiv (nI k) (12 : Int32) = some (nI (k / 12)) := by
      unfold zdiv
      rw [if_neg (by decide), show (12 : Int32) = nI 12 from rfl, pk_div (by omega) (by omega) (by omega)]
    have er : zrem (nI k) (12 : Int32) = some (nI (k % 12)) := by
      unfold zrem
      rw [if_neg (by decide), show (12 : Int32) = nI 12 from rfl, pk_rem (by omega) (by omega) (by omega)]
    obtain ⟨s8, e8, t8, o8⟩ := rwaits_eq lg ok (nI (k / 12)) (nI (k % 12))
    have hc : s8 0 60 = mWC m k := t8.2.1
    have hs : s8 0 59 = mWS m k := t8.1
    have o8' : rOnly sSlow s s8 := oJ.tr (o8.mono (fun _ _ z => Or.inl z))
    have fin : ∀ x : Int32, ((mWA m k ∧ x = 1) ∨ (¬ mWA m k ∧ x = 0)) → ∃ s'', ((some x).bind fun v9 => (wrZ s8 48 (nI k) v9).bind fun s11 => (wrI s11 47 (nI k) (s11 0 59)).bind fun s12 => (some (.inl (nI k + (1 : Int32), s12)) : Option ((Int32 × Zr) ⊕ Zr))) = some (.inl (nI (k + 1), s'')) ∧ rOnly sSlow s s'' ∧ ∀ v, v < k + 1 → ((mWA m v ∧ s'' 48 v = 1) ∨ (¬ mWA m v ∧ s'' 48 v = 0)) ∧ s'' 47 v = mWS m v := by
      intro x hx
      have hx01 : x = 0 ∨ x = 1 := hx.elim (fun z => Or.inr z.2) (fun z => Or.inl z.2)
      rw [Option.bind_some, wr48 hk hx01, Option.bind_some, wr47 hk, Option.bind_some, nI_1]
      refine ⟨_, rfl, (o8'.tr (rOnly.u (Or.inr (Or.inr rfl)))).tr (rOnly.u (Or.inr (Or.inl rfl))), fun v hv => ?_⟩
      rw [u2_a (show (48 : Nat) ≠ 47 by decide)]
      by_cases e : v = k
      · subst e
        rw [u2_s, u2_s, u2_a (show (0 : Nat) ≠ 48 by decide)]
        exact ⟨hx, hs⟩
      · rw [u2_n (by omega), u2_n (by omega), u2_a (show (47 : Nat) ≠ 48 by decide), o8 48 v (fun z => by have := z.1; omega), o8 47 v (fun z => by have := z.1; omega)]
        exact J v (by omega)
    show ∃ s'', (if (144 : Int32) ≤ nI k then _ else _) = _ ∧ _
    rw [if_neg (show ¬ (144 : Int32) ≤ nI k from nI_nle' (b := 144) (by omega) hk), ed, Option.bind_some, er, Option.bind_some, e8, Option.bind_some, hc]
    by_cases p : mWC m k ≤ 0
    · rw [if_pos p]; exact fin 0 (Or.inr ⟨fun z => z p, rfl⟩)
    · rw [if_neg p]; exact fin 1 (Or.inl ⟨p, rfl⟩)
  · show (if (144 : Int32) ≤ nI 144 then _ else _) = _
    rw [if_pos (show (144 : Int32) ≤ nI 144 from nI_le (Nat.le_refl 144) (by omega))]
theorem rslow2 {s0 s : Zr} {m : Ml} (o1 : rOnly sSlow s0 s) (hv : ∀ v, v < 144 → ((mWA m v ∧ s 48 v = 1) ∨ (¬ mWA m v ∧ s 48 v = 0)) ∧ s 47 v = mWS m v) {a : Nat} (ha : a < 2 ^ 31) :
    ∃ q, zloop (rS3 (nI a)) zFU ((-3 : Int32), (0 : Int32), s) = some q ∧ ∃ r s', (q = .inl (r, s') ∨ q = .inr (r, s')) ∧ mSlowR m (nI a) r ∧ rOnly sSlow s0 s' := by
  have a0 : ¬ nI a < 0 := nI_pos ha
  refine zloop_inv (fun (n : Nat) (st : Int32 × Int32 × Zr) => ∃ k, n = 145 - k ∧ k ≤ a + 1 ∧ st.2.1 = nI k ∧ rOnly sSlow s0 st.2.2 ∧ ∃ R : Nat → Prop, nCnt R 144 = k ∧ (∀ i, i < 144 → R i → mWA m i) ∧ (∀ i j, i < 144 → j < 144 → R i → mWA m j → ¬ R j → wBef (mWA m) (mWS m) j i) ∧
      (∀ v, v < 144 → (((mWA m v ∧ ¬ R v) ∧ st.2.2 48 v = 1) ∨ (¬ (mWA m v ∧ ¬ R v) ∧ st.2.2 48 v = 0)) ∧ st.2.2 47 v = mWS m v) ∧ (0 < k → ∃ w, w < 144 ∧ mWA m w ∧ st.1 = nI w ∧ wRank (mWA m) (mWS m) 144 w = k - 1))
    (fun (q : (Int32 × Zr) ⊕ (Int32 × Zr)) => ∃ r s', (q = .inl (r, s') ∨ q = .inr (r, s')) ∧ mSlowR m (nI a) r ∧ rOnly sSlow s0 s') ?_ 145 _ _ ⟨0, rfl, by omega, rfl, o1, fun _ => False, nCnt_0 144 (fun _ _ => id), fun _ _ z => z.elim, fun _ _ _ _ z => z.elim, fun v v1 => ?_, fun z => absurd z (by omega)⟩ (by rw [zFU_v]; omega)
  · rintro n ⟨v13, v14, s15⟩ ⟨k, hn, hk, rfl, oJ, R, R1, R2, R3, R4, R5⟩
    dsimp only at oJ R4 R5
    have k144 : k ≤ 144 := by rw [← R1]; exact nCnt_le 144
    show (∃ s' m', (if nI a < nI k then _ else _) = _ ∧ _) ∨ ∃ r, (if nI a < nI k then _ else _) = _ ∧ _
    by_cases c1 : a < k
    · rw [if_pos (nI_lt c1 (by omega))]
      obtain ⟨w, w1, w2, w3, w4⟩ := R5 (by omega)
      refine Or.inr ⟨_, rfl, v13, s15, Or.inl rfl, Or.inr ⟨a0, Or.inl ⟨w, w1, w2, ?_, w3⟩⟩, oJ⟩
      rw [w4, show k - 1 = a by omega]
    · rw [if_neg (nI_nlt (by omega) (by omega)), if_neg (show ¬ (144 : Int32) < nI k from nI_nlt (b := k) (a := 144) k144 (by omega))]
      obtain ⟨r, e, hr⟩ := rpick (A := mWA m) (Q := fun v => mWA m v ∧ ¬ R v) (S := mWS m) (s := s15) (fun v v1 => (R4 v v1).1) (fun v v1 => (R4 v v1).2) (f := rS2 s15) (fun _ _ => rfl)
      rw [e, Option.bind_some]
      rcases hr with ⟨rfl, hr⟩ | ⟨w, w1, w2, rfl, w4⟩
      · rw [if_pos rfl]
        refine Or.inr ⟨_, rfl, -3, s15, Or.inr rfl, Or.inr ⟨a0, Or.inr ⟨rfl, fun v v1 v2 z => ?_⟩⟩, oJ⟩
        have l1 := wRank_144 (mWA m) (mWS m) v
        have l2 := wRank_all (S := mWS m) v1 v2
        have l3 : nCnt (mWA m) 144 = nCnt R 144 := nCnt_congr 144 (fun i hi => ⟨fun y => Classical.byContradiction (fun x => hr i hi ⟨y, x⟩), R2 i hi⟩)
        have := (nI_eq (by omega) ha).mp z
        omega
      · have h3 : ¬ nI w = (-3 : Int32) := fun z => by
          have := congrArg Int32.toInt z
          rw [nI_toInt (by omega), show (-3 : Int32).toInt = -3 from by decide] at this
          omega
        rw [if_neg h3, wr48 w1 (Or.inl rfl), Option.bind_some, nI_1]
        have rk := wRank_next R2 R3 w1 w2.1 w2.2 (fun i hi y x => w4 i hi ⟨y, x⟩)
        refine Or.inl ⟨_, 145 - (k + 1), rfl, by omega, k + 1, rfl, by omega, rfl, oJ.tr (rOnly.u (Or.inr (Or.inr rfl))), fun i => R i ∨ i = w, ?_, ?_, ?_, ?_, fun _ => ⟨w, w1, w2.1, rfl, by rw [rk, R1]; omega⟩⟩
        · rw [nCnt_1 w2.2 144 w1 (fun i _ => Iff.rfl), R1]
        · intro i hi z
          rcases z with z | rfl
          · exact R2 i hi z
          · exact w2.1
        · intro i j hi hj z az nz
          have nz1 : ¬ R j := fun y => nz (Or.inl y)
          rcases z with z | rfl
          · exact R3 i j hi hj z az nz1
          · rcases wBef_tot (S := mWS m) w2.1 az (fun y => nz (Or.inr y)) with y | y
            · exact absurd y (w4 j hj ⟨az, nz1⟩)
            · exact y
        · intro v v1
          show ((mWA m v ∧ ¬ (R v ∨ v = w)) ∧ u2 s15 48 w 0 48 v = 1 ∨ ¬ (mWA m v ∧ ¬ (R v ∨ v = w)) ∧ u2 s15 48 w 0 48 v = 0) ∧ u2 s15 48 w 0 47 v = mWS m v
          rw [show (u2 s15 48 w 0) 47 v = s15 47 v from u2_a (by decide)]
          refine ⟨?_, (R4 v v1).2⟩
          by_cases e : v = w
          · subst e
            exact Or.inr ⟨fun z => z.2 (Or.inr rfl), u2_s⟩
          · rw [show (u2 s15 48 w 0) 48 v = s15 48 v from u2_n (by omega)]
            rcases (R4 v v1).1 with ⟨y, x⟩ | ⟨y, x⟩
            · exact Or.inl ⟨⟨y.1, fun z => z.elim y.2 e⟩, x⟩
            · exact Or.inr ⟨fun z => y ⟨z.1, fun t => z.2 (Or.inl t)⟩, x⟩
  · refine ⟨?_, (hv v v1).2⟩
    rcases (hv v v1).1 with ⟨y, x⟩ | ⟨y, x⟩
    · exact Or.inl ⟨⟨y, id⟩, x⟩
    · exact Or.inr ⟨fun z => y z.1, x⟩
theorem rslow_eq {s : Zr} {m : Ml} (h : rLog s m) (ok : mOK m) (a : Int32) : ∃ r s', fX6_slow s a = some (r, s') ∧ mSlowR m a r ∧ rOnly sSlow s s' := by
  unfold fX6_slow
  by_cases h0 : a < 0
  · have h1 : ¬ (0 : Int32) ≤ a := fun z => by rw [i0_le] at z; rw [i0_lt] at h0; omega
    rw [if_neg h1]
    exact ⟨_, _, rfl, Or.inl ⟨h0, rfl⟩, rOnly.rf⟩
  · have h1 : (0 : Int32) ≤ a := by rw [i0_le]; rw [i0_lt] at h0; omega
    rw [if_pos h1]
    obtain ⟨n, hn, rfl⟩ := nI_of h0
    obtain ⟨s1, e1, o1, v1⟩ := rslow1 h ok
    obtain ⟨q, e2, r, s2, hq, hr, o2⟩ := rslow2 o1 v1 hn
    refine ⟨r, s2, ?_, hr, o2⟩
    show ((zloop rS1 zFU ((0 : Int32), s)).bind fun s3 => (zloop (rS3 (nI n)) zFU ((-3 : Int32), (0 : Int32), s3)).bind fun (q : ((Int32 × Zr) ⊕ (Int32 × Zr))) => match q with
      | .inr t => some t
      | .inl (w16, s17) => some (w16, s17)) = _
    rw [e1, Option.bind_some, e2, Option.bind_some]
    rcases hq with rfl | rfl
    · rfl
    · rfl
