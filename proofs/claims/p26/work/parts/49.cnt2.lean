/-! counts, on both sides -/
abbrev mNew (m : Ml) (c : Nat) : Prop := mdr m c = false ∧ ∀ d, d < c → mdr m d = false → ¬ mLike m c d
noncomputable def mCount (m : Ml) (p w : Int32) : Int32 :=
  if w = 0 then nI (mnc m) else if w = 1 then mCnt (fun c => mdr m c = false) (mnc m) else if w = 2 then mCnt (mIn m) 144 else if w = 3 then mCnt (fun n => ¬ mStands m (nI n) 2 ≤ 0) 12 else if w = 4 then p else if w = 5 then mCnt (mNew m) (mnc m) else -1
/-! counts, on the class's side -/
theorem cdeeds_eq {h : Zh} {X : Nat} {ca : Nat → Nat} {m : Ml} (fx : cFix h X) (c : cLog h X ca m) (ok : mOK m) : fX5_deedsInLog h (some X) = some (mCnt (mIn m) 144) := by
  have h24 := ok.1
  have f0 := fx.1
  unfold fX5_deedsInLog
  refine Eq.trans (congrArg (fun o : Option Int32 => o.bind fun w3 => some w3) (cloop fx c ok (fun v c => rfl) (fun k => mCnt (mIn m) (6 * k)) (fun v => rfl) (fun k hk hd => ?_) (fun k hk hd => mCnt_none (fun _ z => z) (fun y => by rw [hd] at y; exact absurd y.2 (by decide))))) (congrArg some (mCnt_144 ok (fun _ z => z)))
  obtain ⟨d1, d2, d3, d4, d5, d6, d7, d8, d9, d10⟩ := c.2.1 k hk
  have hl6 := ok.2.1 k
  show (if some (ca k) = none then _ else _) = _
  rw [if_neg (fun z => by cases z), zfI_v (by omega) d4, d8]
  simp only [Option.bind_some]
  show _ = some (mCnt _ (6 * (k + 1)))
  rw [show 6 * (k + 1) = 6 * k + 6 by omega, mCnt_add 6]
  refine congrArg some (congrArg (fun z => mCnt (mIn m) (6 * k) + z) ?_)
  have t2 := mCnt_skip (P := fun i => mIn m (6 * k + i)) (a := mlen m k) (6 - mlen m k) (fun j j1 j2 z => by
    have := ((mIn_at (show j < 6 by omega)).mp z).2
    omega)
  rw [Nat.add_sub_of_le hl6] at t2
  rw [t2, mCnt_all]
  intro i hi
  exact (mIn_at (by omega)).mpr ⟨⟨hk, hd⟩, hi⟩
theorem ctrails_eq {h : Zh} {X : Nat} {ca : Nat → Nat} {m : Ml} (fx : cFix h X) (c : cLog h X ca m) (ok : mOK m) : fX5_trailsInLog h (some X) = some (mCnt (fun c => mdr m c = false) (mnc m)) := by
  unfold fX5_trailsInLog
  refine Eq.trans (congrArg (fun o : Option Int32 => o.bind fun w3 => some w3) (cloop fx c ok (fun v c => rfl) (fun k => mCnt (fun c => mdr m c = false) k) (fun v => rfl) (fun k hk hd => ?_) (fun k hk hd => mCnt_f (fun y => by rw [hd] at y; exact absurd y (by decide))))) rfl
  show (if some (ca k) = none then _ else _) = _
  rw [if_neg (fun z => by cases z), mCnt_t hd]
theorem cnamesL_eq {h : Zh} {X : Nat} {ca : Nat → Nat} {m : Ml} (fx : cFix h X) (c : cLog h X ca m) (ok : mOK m) : fX5_namesInLog h (some X) = some (mCnt (fun n => ¬ mStands m (nI n) 2 ≤ 0) 12) := by
  have f0 := fx.1
  unfold fX5_namesInLog
  rw [rcloop (P := fun n => ¬ mStands m (nI n) 2 ≤ 0) (N := 12) ?_ ?_ (by omega)]
  · rfl
  · intro k v hk
    try dsimp only
    rw [if_neg (show ¬ (12 : Int32) ≤ nI k from nI_nle' (b := 12) (by omega) hk), zob_v (by omega) fx.2.1.1, nI_1]
    simp only [Option.bind_some]
    rw [cstands_eq fx c ok]
    simp only [Option.bind_some]
    by_cases p : mStands m (nI k) 2 ≤ 0
    · rw [if_pos p]; exact Or.inr ⟨fun z => z p, rfl⟩
    · rw [if_neg p]; exact Or.inl ⟨p, rfl⟩
  · intro v
    try dsimp only
    rw [if_pos (show (12 : Int32) ≤ nI 12 from nI_le (Nat.le_refl 12) (by omega))]
theorem cstood_eq {h : Zh} {X : Nat} {ca : Nat → Nat} {m : Ml} (fx : cFix h X) (c : cLog h X ca m) (ok : mOK m) {k : Nat} (hk : k < mnc m) : ∃ r, fX5_stoodAhead h (some X) (nI (mRow (mDig m k) (mlen m k))) (nI k) = some r ∧ ((r = 0 ∧ ∀ d, d < k → mdr m d = false → ¬ mLike m k d) ∨ (r = 1 ∧ ¬ ∀ d, d < k → mdr m d = false → ¬ mLike m k d)) := by
  have h24 := ok.1
  have f0 := fx.1
  unfold fX5_stoodAhead
  have q := zloop_inv (f := (fun (v1 : Int32) =>
    (if nI k ≤ v1 then
      some (.inr (.inl ()))
    else
      (zob h (some X) 7).bind fun p4 =>
      (fX5_inLog h (some p4) v1).bind fun r5 =>
      if r5 = none then
        some (.inl (v1 + (1 : Int32)))
      else
        (zob h r5 2).bind fun p6 =>
        (fX0_row h (some p6)).bind fun x7 =>
        if x7 = nI (mRow (mDig m k) (mlen m k)) then
          some (.inr (.inr (1 : Int32)))
        else
          some (.inl (v1 + (1 : Int32))) : Option (Int32 ⊕ (Unit ⊕ Int32)))))
    (fun n s => ∃ j, n = k - j ∧ j ≤ k ∧ s = nI j ∧ ∀ d, d < j → mdr m d = false → ¬ mLike m k d)
    (fun r => (r = .inl () ∧ ∀ d, d < k → mdr m d = false → ¬ mLike m k d) ∨ (r = .inr 1 ∧ ¬ ∀ d, d < k → mdr m d = false → ¬ mLike m k d))
    (by
      rintro n s ⟨j, hn, hj, rfl, hv⟩
      by_cases c1 : k ≤ j
      · rw [if_pos (nI_le c1 (by omega))]
        exact Or.inr ⟨_, rfl, Or.inl ⟨rfl, fun d hd => hv d (by omega)⟩⟩
      · rw [if_neg (nI_nle' (by omega) (by omega)), zob_v (by omega) fx.2.1.1]
        simp only [Option.bind_some]
        have hm : mnm (nI j) (mnc m) := nI_mnm (by omega) (by omega)
        rw [clog_eq fx c ok, nI_clamp (by omega)]
        simp only [Option.bind_some]
        have nx : (∀ d, d < j + 1 → mdr m d = false → ¬ mLike m k d) → (∃ (s' : Int32) (m' : Nat), (some (.inl (nI j + (1 : Int32))) : Option (Int32 ⊕ (Unit ⊕ Int32))) = some (.inl s') ∧ m' < n ∧ ∃ j, m' = k - j ∧ j ≤ k ∧ s' = nI j ∧ ∀ d, d < j → mdr m d = false → ¬ mLike m k d) := fun z => ⟨_, k - (j + 1), rfl, by omega, j + 1, rfl, by omega, nI_1 j, z⟩
        by_cases hd : mdr m j = true
        · have hno : ¬ (mnm (nI j) (mnc m) ∧ mdr m j = false) := fun z => by rw [hd] at z; exact absurd z.2 (by decide)
          rw [if_neg hno, if_pos rfl]
          refine Or.inl (nx (fun d hd' hx => ?_))
          by_cases z : d = j
          · rw [z, hd] at hx; exact absurd hx (by decide)
          · exact hv d (by omega) hx
        · have hd' : mdr m j = false := by simpa using hd
          obtain ⟨d1, d2, d3, d4, d5, d6, d7, d8, d9, d10⟩ := c.2.1 j (by omega)
          have hyes : mnm (nI j) (mnc m) ∧ mdr m j = false := ⟨hm, hd'⟩
          rw [if_pos hyes, if_neg (fun z => by cases z), zob_v (by omega) d4]
          simp only [Option.bind_some]
          rw [crow_eq c ok (by omega)]
          simp only [Option.bind_some]
          by_cases e : nI (mRow (mDig m j) (mlen m j)) = nI (mRow (mDig m k) (mlen m k))
          · rw [if_pos e]
            exact Or.inr ⟨_, rfl, Or.inr ⟨rfl, fun z => z j (by omega) hd' ((mRow_eq ok k j).mp e.symm)⟩⟩
          · rw [if_neg e]
            refine Or.inl (nx (fun d hd2 hx => ?_))
            by_cases z : d = j
            · rw [z]; exact fun y => e ((mRow_eq ok k j).mpr y).symm
            · exact hv d (by omega) hx)
    k (nI 0) zFU ⟨0, rfl, by omega, rfl, fun d hd => absurd hd (by omega)⟩ (by rw [zFU_v]; omega)
  obtain ⟨r, hr, hp⟩ := q
  rcases hp with ⟨rfl, p⟩ | ⟨rfl, p⟩
  · exact ⟨0, (congrArg (fun o : Option (Unit ⊕ Int32) => o.bind fun (q : (Unit ⊕ Int32)) => match q with
    | .inr t => some t
    | .inl u => some (0 : Int32)) hr), Or.inl ⟨rfl, p⟩⟩
  · exact ⟨1, (congrArg (fun o : Option (Unit ⊕ Int32) => o.bind fun (q : (Unit ⊕ Int32)) => match q with
    | .inr t => some t
    | .inl u => some (0 : Int32)) hr), Or.inr ⟨rfl, p⟩⟩
theorem cunlike_eq {h : Zh} {X : Nat} {ca : Nat → Nat} {m : Ml} (fx : cFix h X) (c : cLog h X ca m) (ok : mOK m) : fX5_unlikeTrails h (some X) = some (mCnt (mNew m) (mnc m)) := by
  have h24 := ok.1
  have f0 := fx.1
  unfold fX5_unlikeTrails
  refine Eq.trans (congrArg (fun o : Option Int32 => o.bind fun w3 => some w3) (zloop_eq (fun k => (mCnt (mNew m) k, nI k)) (mnc m) (r := mCnt (mNew m) (mnc m)) (fun k hk => ?_) ?_ (by rw [zFU_v]; omega))) rfl
  · dsimp only
    rw [zfI_v (by omega) fx.2.1.1, c.1]
    simp only [Option.bind_some]
    rw [if_neg (nI_nle' (by omega) hk), zob_v (by omega) fx.2.1.1]
    simp only [Option.bind_some]
    have hm : mnm (nI k) (mnc m) := nI_mnm hk (by omega)
    rw [clog_eq fx c ok, nI_clamp (by omega)]
    simp only [Option.bind_some]
    by_cases hd : mdr m k = true
    · have hno : ¬ (mnm (nI k) (mnc m) ∧ mdr m k = false) := fun z => by rw [hd] at z; exact absurd z.2 (by decide)
      rw [if_neg hno, if_pos rfl, mCnt_f (fun z => by have := z.1; rw [hd] at this; exact absurd this (by decide))]
      simp only [Option.bind_some]
      rw [nI_1]
    · have hd' : mdr m k = false := by simpa using hd
      obtain ⟨d1, d2, d3, d4, d5, d6, d7, d8, d9, d10⟩ := c.2.1 k hk
      have hyes : mnm (nI k) (mnc m) ∧ mdr m k = false := ⟨hm, hd'⟩
      rw [if_pos hyes, if_neg (fun z => by cases z), zob_v (by omega) d4]
      simp only [Option.bind_some]
      rw [crow_eq c ok hk]
      simp only [Option.bind_some]
      obtain ⟨r, hr, hp⟩ := cstood_eq fx c ok hk
      rw [hr]
      simp only [Option.bind_some]
      rcases hp with ⟨rfl, p⟩ | ⟨rfl, p⟩
      · rw [if_pos rfl, mCnt_t ⟨hd', p⟩, nI_1]; rfl
      · rw [if_neg (by decide), mCnt_f (fun z => p z.2), nI_1]; rfl
  · dsimp only
    rw [zfI_v (by omega) fx.2.1.1, c.1]
    simp only [Option.bind_some]
    rw [if_pos (nI_le (Nat.le_refl _) (by omega))]
theorem ccount_eq {h : Zh} {X : Nat} {ca : Nat → Nat} {m : Ml} (fx : cFix h X) (c : cLog h X ca m) (ok : mOK m) (w : Int32) : fX5_count h (some X) w = some (mCount m (zi h X 3) w) := by
  have f0 := fx.1
  have o7 : zob h (some X) 7 = some X := zob_v (by omega) fx.2.1.1
  unfold fX5_count mCount
  by_cases w0 : w = 0
  · rw [if_pos w0, if_pos w0, zfI_v (by omega) fx.2.1.1, c.1]; rfl
  rw [if_neg w0, if_neg w0]
  by_cases w1 : w = 1
  · rw [if_pos w1, if_pos w1, o7]; simp only [Option.bind_some]; rw [ctrails_eq fx c ok]; rfl
  rw [if_neg w1, if_neg w1]
  by_cases w2 : w = 2
  · rw [if_pos w2, if_pos w2, o7]; simp only [Option.bind_some]; rw [cdeeds_eq fx c ok]; rfl
  rw [if_neg w2, if_neg w2]
  by_cases w3 : w = 3
  · rw [if_pos w3, if_pos w3, o7]; simp only [Option.bind_some]; rw [cnamesL_eq fx c ok]; rfl
  rw [if_neg w3, if_neg w3]
  by_cases w4 : w = 4
  · rw [if_pos w4, if_pos w4, zfI_v (by omega) fx.2.1.1]; rfl
  rw [if_neg w4, if_neg w4]
  by_cases w5 : w = 5
  · rw [if_pos w5, if_pos w5, o7]; simp only [Option.bind_some]; rw [cunlike_eq fx c ok]; rfl
  rw [if_neg w5, if_neg w5]
