/-! work and lag on the class's side -/
abbrev cWB (v : Option Nat) (a1 : Int32) (r : Option Nat) (h : Zh) (i : Int32) : Option Zh :=
  (zob h r 2).bind fun p22 =>
  (fX0_tell h (some p22) i (0 : Int32)).bind fun x23 =>
  if x23 = a1 then
    (zob h r 2).bind fun p26 =>
    (fX0_tell h (some p26) i (2 : Int32)).bind fun x27 =>
    (zob h r 2).bind fun p28 =>
    (fX0_tell h (some p28) i (3 : Int32)).bind fun x29 =>
    (zob h v 6).bind fun p30 =>
    (fX4_take h (some p30) x27 x29).bind fun h31 =>
    some h31
  else
    some h
abbrev cWg (v : Option Nat) (a1 : Int32) (r : Option Nat) : Int32 × Zh → Option ((Int32 × Zh) ⊕ Zh) := fun ((v16, h17) : Int32 × Zh) =>
  ((zfI h17 r 1 1).bind fun x21 =>
  if x21 ≤ v16 then
    some (.inr h17)
  else
    (zob h17 r 2).bind fun p22 =>
    (fX0_tell h17 (some p22) v16 (0 : Int32)).bind fun x23 =>
    (if x23 = a1 then
      (zob h17 r 2).bind fun p26 =>
      (fX0_tell h17 (some p26) v16 (2 : Int32)).bind fun x27 =>
      (zob h17 r 2).bind fun p28 =>
      (fX0_tell h17 (some p28) v16 (3 : Int32)).bind fun x29 =>
      (zob h17 v 6).bind fun p30 =>
      (fX4_take h17 (some p30) x27 x29).bind fun h31 =>
      some h31
    else
      some h17).bind fun (h24 : Zh) =>
    some (.inl (v16 + (1 : Int32), h24)) : Option ((Int32 × Zh) ⊕ Zh))
abbrev cWf (this v : Option Nat) (a1 : Int32) : Int32 × Zh → Option ((Int32 × Zh) ⊕ Zh) := fun ((v6, h7) : Int32 × Zh) =>
  ((zfI h7 this 6 1).bind fun x11 =>
  if x11 ≤ v6 then
    some (.inr h7)
  else
    (zob h7 this 7).bind fun p12 =>
    (fX5_inLog h7 (some p12) v6).bind fun r13 =>
    (if r13 = none then
      some h7
    else
      (zloop (cWg v a1 r13) zFU ((0 : Int32), h7)).bind fun (h18 : Zh) =>
      some h18).bind fun (h14 : Zh) =>
    some (.inl (v6 + (1 : Int32), h14)) : Option ((Int32 × Zh) ⊕ Zh))
theorem ctell_m {h : Zh} {X : Nat} {ca : Nat → Nat} {m : Ml} (c : cLog h X ca m) (ok : mOK m) {k i q : Nat} (hk : k < mnc m) (hi : i < mlen m k) (hq : q < 4) : fX0_tell h (some (ca k)) (nI i) (nI q) = some (mdt m k i q) := by
  have hl6 := ok.2.1 k
  obtain ⟨d1, d2, d3, d4, d5, d6, d7, d8, d9, d10⟩ := c.2.1 k hk
  rw [ctell_eq (n := 0) d3 d4 d5 d6 d7 (by omega) hq, d10 i q hi hq]
theorem cob_m {h : Zh} {X : Nat} {ca : Nat → Nat} {m : Ml} (c : cLog h X ca m) {k : Nat} (hk : k < mnc m) : zob h (some (ca k)) 2 = some (ca k) := by
  obtain ⟨d1, d2, d3, d4, d5, d6, d7, d8, d9, d10⟩ := c.2.1 k hk
  exact zob_v (by omega) d4
theorem cTs.ob {h h1 : Zh} {t : Tm} (c : cTs h h1 t) : zob h1 (some (zn h)) 6 = some (zn h) := zob_v (by rw [c.2.1]; omega) c.2.2.2.1
theorem cwork_eq {h : Zh} {X : Nat} {ca : Nat → Nat} {m : Ml} (fx : cFix h X) (c : cLog h X ca m) (ok : mOK m) (a w : Int32) : ∃ h', fX5_work h (some X) a w = some (mWork m a w, h') ∧ zExt sNo h h' ∧ zn h' ≤ zn h + 1 ∧ zs h' ≤ zs h + 4 := by
  unfold fX5_work mWork
  rw [cname_eq, Option.bind_some]
  have same : ∀ r : Int32, ∃ h', some (r, h) = some (r, h') ∧ zExt sNo h h' ∧ zn h' ≤ zn h + 1 ∧ zs h' ≤ zs h + 4 := fun r => ⟨h, rfl, zExt.rf, by omega, by omega⟩
  by_cases h1 : mnm a 12
  · rw [if_neg (fun z => b2_z.mp z h1)]
    by_cases h2 : mnm w 4
    · have h12 : mnm a 12 ∧ mnm w 4 := ⟨h1, h2⟩
      obtain ⟨w1, w2⟩ := cwhat h2
      rw [if_neg w1, if_pos w2, if_pos h12]
      obtain ⟨g1, e1, e2, e3, c1⟩ := cts0 h
      have q := cspan_eq fx c ok c1 (P := mWorkP m a) (D := fun k => mdt m (k / 6) (k % 6) 2) (E := fun k => mdt m (k / 6) (k % 6) 3) (fun k z => z.1) (i0 := 0) (by omega) (fun k z => absurd z (by decide))
        (f := cWf (some X) (some (zn h)) a) (g := cWg (some (zn h)) a) (B := cWB (some (zn h)) a) (fun c h => rfl) (fun r i h => by
          refine congrArg (Option.bind (zfI h r 1 1)) (funext fun x => ?_)
          show (if x ≤ i then _ else _) = _
          by_cases z : x ≤ i
          · rw [if_pos z, if_pos z]
          · rw [if_neg z, if_neg z, Option.bind_assoc]
            refine congrArg (Option.bind (zob h r 2)) (funext fun p => ?_)
            rw [Option.bind_assoc]) (fun k i h2 t hk hd i1 i2 j => by
          obtain ⟨fx2, c2⟩ := ext0 j.1 fx c
          have hl6 := ok.2.1 k
          show ∃ h', (cWB _ _ _ _ _) = _ ∧ _
          unfold cWB
          have t0 := ctell_m c2 ok hk i2 (q := 0) (by omega)
          have t2 := ctell_m c2 ok hk i2 (q := 2) (by omega)
          have t3 := ctell_m c2 ok hk i2 (q := 3) (by omega)
          rw [show (0 : Int32) = nI 0 from rfl, show (2 : Int32) = nI 2 from rfl, show (3 : Int32) = nI 3 from rfl, cob_m c2 hk, Option.bind_some, t0, Option.bind_some]
          have e6 : (6 * k + i) / 6 = k := by omega
          have e7 : (6 * k + i) % 6 = i := by omega
          have hP : mWorkP m a (6 * k + i) ↔ mdt m k i 0 = a := by
            show mIn m _ ∧ _ ↔ _
            rw [mIn_at (by omega), e6, e7]
            exact ⟨fun z => z.2, fun z => ⟨⟨⟨hk, hd⟩, i2⟩, z⟩⟩
          by_cases p : mdt m k i 0 = a
          · rw [if_pos p, Option.bind_some, t2, Option.bind_some, Option.bind_some, t3, Option.bind_some, j.ob, Option.bind_some, if_pos (hP.mpr p)]
            obtain ⟨h3, e, j3⟩ := ctake_eq j (mdt m k i 2) (mdt m k i 3)
            rw [e, e6, e7]
            exact ⟨h3, rfl, j3⟩
          · rw [if_neg p, if_neg (fun z => p (hP.mp z))]
            exact ⟨h2, rfl, j⟩)
      obtain ⟨h3, e, j⟩ := q
      refine ⟨h3, ?_, j.1, by rw [j.2.1]; omega, by rw [j.2.2.1]; omega⟩
      rw [e1]
      show (zob (znew h 6 0 4) (some (zn h)) 6).bind (fun p4 => (fX4_init (znew h 6 0 4) (some p4)).bind fun h5 => (zloop (cWf (some X) (some (zn h)) a) zFU ((0 : Int32), h5)).bind fun h8 => (zob h8 (some (zn h)) 6).bind fun p32 => (fX4_tell h8 (some p32) w).bind fun x33 => some (x33, h8)) = _
      rw [e2, Option.bind_some, e3, Option.bind_some, e, Option.bind_some, j.ob, Option.bind_some, ctellT_eq j]
      rfl
    · rw [if_neg (fun z : mnm a 12 ∧ mnm w 4 => h2 z.2)]
      by_cases w0 : w < 0
      · rw [if_pos w0]; exact same _
      · rw [if_neg w0, if_neg (cwhat_n h2 w0)]; exact same _
  · rw [if_pos (b2_z.mpr h1), if_neg (fun z : mnm a 12 ∧ mnm w 4 => h1 z.1)]
    exact same _
abbrev cLB (v : Option Nat) (a1 a2 : Int32) (r : Option Nat) (h : Zh) (i : Int32) : Option Zh :=
  (zob h r 2).bind fun p23 =>
  (fX0_tell h (some p23) (i - (1 : Int32)) (0 : Int32)).bind fun x24 =>
  if x24 = a2 then
    (zob h r 2).bind fun p27 =>
    (fX0_tell h (some p27) i (0 : Int32)).bind fun x28 =>
    if x28 = a1 then
      (zob h r 2).bind fun p29 =>
      (fX0_tell h (some p29) (i - (1 : Int32)) (3 : Int32)).bind fun x30 =>
      (zob h r 2).bind fun p31 =>
      (fX0_tell h (some p31) i (2 : Int32)).bind fun x32 =>
      (zob h v 6).bind fun p33 =>
      (fX4_take h (some p33) x30 x32).bind fun h34 =>
      some h34
    else
      some h
  else
    some h
abbrev cLg (v : Option Nat) (a1 a2 : Int32) (r : Option Nat) : Int32 × Zh → Option ((Int32 × Zh) ⊕ Zh) := fun ((v17, h18) : Int32 × Zh) =>
  ((zfI h18 r 1 1).bind fun x22 =>
  if x22 ≤ v17 then
    some (.inr h18)
  else
    (zob h18 r 2).bind fun p23 =>
    (fX0_tell h18 (some p23) (v17 - (1 : Int32)) (0 : Int32)).bind fun x24 =>
    (if x24 = a2 then
      (zob h18 r 2).bind fun p27 =>
      (fX0_tell h18 (some p27) v17 (0 : Int32)).bind fun x28 =>
      if x28 = a1 then
        (zob h18 r 2).bind fun p29 =>
        (fX0_tell h18 (some p29) (v17 - (1 : Int32)) (3 : Int32)).bind fun x30 =>
        (zob h18 r 2).bind fun p31 =>
        (fX0_tell h18 (some p31) v17 (2 : Int32)).bind fun x32 =>
        (zob h18 v 6).bind fun p33 =>
        (fX4_take h18 (some p33) x30 x32).bind fun h34 =>
        some h34
      else
        some h18
    else
      some h18).bind fun (h25 : Zh) =>
    some (.inl (v17 + (1 : Int32), h25)) : Option ((Int32 × Zh) ⊕ Zh))
abbrev cLf (this v : Option Nat) (a1 a2 : Int32) : Int32 × Zh → Option ((Int32 × Zh) ⊕ Zh) := fun ((v7, h8) : Int32 × Zh) =>
  ((zfI h8 this 6 1).bind fun x12 =>
  if x12 ≤ v7 then
    some (.inr h8)
  else
    (zob h8 this 7).bind fun p13 =>
    (fX5_inLog h8 (some p13) v7).bind fun r14 =>
    (if r14 = none then
      some h8
    else
      (zloop (cLg v a1 a2 r14) zFU ((1 : Int32), h8)).bind fun (h19 : Zh) =>
      some h19).bind fun (h15 : Zh) =>
    some (.inl (v7 + (1 : Int32), h15)) : Option ((Int32 × Zh) ⊕ Zh))
theorem clag_eq {h : Zh} {X : Nat} {ca : Nat → Nat} {m : Ml} (fx : cFix h X) (c : cLog h X ca m) (ok : mOK m) (a b w : Int32) : ∃ h', fX5_lag h (some X) a b w = some (mLag m a b w, h') ∧ zExt sNo h h' ∧ zn h' ≤ zn h + 1 ∧ zs h' ≤ zs h + 4 := by
  unfold fX5_lag mLag
  rw [cname_eq, cname_eq, Option.bind_some, Option.bind_some]
  have same : ∀ r : Int32, ∃ h', some (r, h) = some (r, h') ∧ zExt sNo h h' ∧ zn h' ≤ zn h + 1 ∧ zs h' ≤ zs h + 4 := fun r => ⟨h, rfl, zExt.rf, by omega, by omega⟩
  by_cases h1 : mnm a 12
  · rw [if_neg (fun z => b2_z.mp z h1)]
    by_cases h1b : mnm b 12
    · rw [if_neg (fun z => b2_z.mp z h1b)]
      by_cases h2 : mnm w 4
      · have h12 : (mnm a 12 ∧ mnm b 12) ∧ mnm w 4 := ⟨⟨h1, h1b⟩, h2⟩
        obtain ⟨w1, w2⟩ := cwhat h2
        rw [if_neg w1, if_pos w2, if_pos h12]
        obtain ⟨g1, e1, e2, e3, c1⟩ := cts0 h
        have q := cspan_eq fx c ok c1 (P := mPair m 0 a b) (D := fun k => mdt m (k / 6) (k % 6 - 1) 3) (E := fun k => mdt m (k / 6) (k % 6) 2) (fun k z => z.1) (i0 := 1) (by omega) (fun k _ z y => by have := y.2.1; omega)
          (f := cLf (some X) (some (zn h)) a b) (g := cLg (some (zn h)) a b) (B := cLB (some (zn h)) a b) (fun c h => rfl) (fun r i h => by
            refine congrArg (Option.bind (zfI h r 1 1)) (funext fun x => ?_)
            show (if x ≤ i then _ else _) = _
            by_cases z : x ≤ i
            · rw [if_pos z, if_pos z]
            · rw [if_neg z, if_neg z, Option.bind_assoc]
              refine congrArg (Option.bind (zob h r 2)) (funext fun p => ?_)
              rw [Option.bind_assoc]) (fun k i h2 t hk hd i1 i2 j => by
            obtain ⟨fx2, c2⟩ := ext0 j.1 fx c
            have hl6 := ok.2.1 k
            show ∃ h', (cLB _ _ _ _ _ _) = _ ∧ _
            unfold cLB
            have t0 := ctell_m c2 ok hk (show i - 1 < mlen m k by omega) (q := 0) (by omega)
            have t1 := ctell_m c2 ok hk i2 (q := 0) (by omega)
            have t2 := ctell_m c2 ok hk i2 (q := 2) (by omega)
            have t3 := ctell_m c2 ok hk (show i - 1 < mlen m k by omega) (q := 3) (by omega)
            rw [show (0 : Int32) = nI 0 from rfl, show (1 : Int32) = nI 1 from rfl, show (2 : Int32) = nI 2 from rfl, show (3 : Int32) = nI 3 from rfl, pk_sub (by omega), cob_m c2 hk, Option.bind_some, t0, Option.bind_some]
            have e6 : (6 * k + i) / 6 = k := by omega
            have e7 : (6 * k + i) % 6 = i := by omega
            have hP : mPair m 0 a b (6 * k + i) ↔ mdt m k i 0 = a ∧ mdt m k (i - 1) 0 = b := by
              rw [mPair_at (by omega)]
              exact ⟨fun z => z.2.2, fun z => ⟨⟨⟨hk, hd⟩, i2⟩, by omega, z⟩⟩
            by_cases p : mdt m k (i - 1) 0 = b
            · rw [if_pos p, Option.bind_some, t1, Option.bind_some]
              by_cases p2 : mdt m k i 0 = a
              · rw [if_pos p2, Option.bind_some, t3, Option.bind_some, Option.bind_some, t2, Option.bind_some, j.ob, Option.bind_some, if_pos (hP.mpr ⟨p2, p⟩)]
                obtain ⟨h3, e, j3⟩ := ctake_eq j (mdt m k (i - 1) 3) (mdt m k i 2)
                rw [e, e6, e7]
                exact ⟨h3, rfl, j3⟩
              · rw [if_neg p2, if_neg (fun z => p2 (hP.mp z).1)]
                exact ⟨h2, rfl, j⟩
            · rw [if_neg p, if_neg (fun z => p (hP.mp z).2)]
              exact ⟨h2, rfl, j⟩)
        obtain ⟨h3, e, j⟩ := q
        refine ⟨h3, ?_, j.1, by rw [j.2.1]; omega, by rw [j.2.2.1]; omega⟩
        rw [e1]
        show (zob (znew h 6 0 4) (some (zn h)) 6).bind (fun p4 => (fX4_init (znew h 6 0 4) (some p4)).bind fun h5 => (zloop (cLf (some X) (some (zn h)) a b) zFU ((0 : Int32), h5)).bind fun h8 => (zob h8 (some (zn h)) 6).bind fun p32 => (fX4_tell h8 (some p32) w).bind fun x33 => some (x33, h8)) = _
        rw [e2, Option.bind_some, e3, Option.bind_some, e, Option.bind_some, j.ob, Option.bind_some, ctellT_eq j]
        rfl
      · rw [if_neg (fun z : (mnm a 12 ∧ mnm b 12) ∧ mnm w 4 => h2 z.2)]
        by_cases w0 : w < 0
        · rw [if_pos w0]; exact same _
        · rw [if_neg w0, if_neg (cwhat_n h2 w0)]; exact same _
    · rw [if_pos (b2_z.mpr h1b), if_neg (fun z : (mnm a 12 ∧ mnm b 12) ∧ mnm w 4 => h1b z.1.2)]
      exact same _
  · rw [if_pos (b2_z.mpr h1), if_neg (fun z : (mnm a 12 ∧ mnm b 12) ∧ mnm w 4 => h1 z.1.1)]
    exact same _
