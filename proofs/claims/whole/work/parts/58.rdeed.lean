/-! deed, join on the reference's side -/
def pDeed (p : Mp) (a : Int32) : Int32 × Mp :=
  if a = -1 then (if pn p = 200 then (-2, p) else (nI (pn p), pAdd p 1 (-3) []))
  else if mnm a 12 then (if pn p = 200 then (-2, p) else (nI (pn p), pAdd p 0 a []))
  else (-1, p)
def pJoin (p : Mp) (k a b : Int32) : Int32 × Mp :=
  if (2 ≤ k.toInt ∧ k.toInt ≤ 5) ∧ mnm a (pn p) ∧ mnm b (pn p) then
    if pn p = 200 then (-2, p)
    else if psz p a.toNatClampNeg + psz p b.toNatClampNeg + 1 ≤ 60 then (nI (pn p), pAdd p k.toNatClampNeg (-3) [a.toNatClampNeg, b.toNatClampNeg])
    else (-2, p)
  else (-1, p)
theorem rdeed_eq {s : Zr} {p : Mp} (h : rPc s p) (ok : pOK p) (a : Int32) : ∃ s', fX6_deed s a = some ((pDeed p a).1, s') ∧ rPc s' (pDeed p a).2 ∧ rOnly sPc s s' := by
  have h200 := ok.1
  unfold fX6_deed pDeed
  have e1 : fX6_in a.toInt64 (-1 : Int64) (11 : Int64) = some (b2 (-1 ≤ a.toInt ∧ a.toInt ≤ 11)) := by
    rw [fin_eq]
    refine congrArg some (b2_c ?_)
    rw [show (-1 : Int64) = (-1 : Int32).toInt64 from rfl, show (11 : Int64) = (11 : Int32).toInt64 from rfl, i2l_le, i2l_le]
    exact Iff.rfl
  have e200 : s 0 7 = (200 : Int32) ↔ pn p = 200 := by
    rw [h.1]
    exact ⟨fun z => (nI_eq (a := pn p) (b := 200) (by omega) (by omega)).mp z, fun z => by rw [z]; rfl⟩
  have m1v : (-1 : Int32).toInt = -1 := by decide
  rw [e1, Option.bind_some]
  by_cases c1 : -1 ≤ a.toInt ∧ a.toInt ≤ 11
  · rw [if_neg (fun z => b2_z.mp z c1)]
    by_cases c2 : a = -1
    · subst c2
      rw [if_pos rfl]
      by_cases c3 : pn p = 200
      · rw [if_pos (e200.mpr c3), if_pos c3]
        exact ⟨s, rfl, h, rOnly.rf⟩
      · rw [if_neg (fun z => c3 (e200.mp z)), if_neg c3]
        obtain ⟨s', e, r, o⟩ := rnewp_eq h (by omega) 1 (-3)
        rw [if_neg (by decide), if_neg (by decide), Option.bind_some, Option.bind_some, show (1 : Int32) = nI 1 from rfl, e]
        exact ⟨s', rfl, r, o⟩
    · have hm : mnm a 12 := by
        refine ⟨?_, by omega⟩
        have : a.toInt ≠ -1 := fun z => c2 (ieq (n := -1) (by decide) z)
        omega
      rw [if_neg c2, if_pos hm]
      by_cases c3 : pn p = 200
      · rw [if_pos (e200.mpr c3), if_pos c3]
        exact ⟨s, rfl, h, rOnly.rf⟩
      · rw [if_neg (fun z => c3 (e200.mp z)), if_neg c3]
        obtain ⟨s', e, r, o⟩ := rnewp_eq h (by omega) 0 a
        have h0 : (0 : Int32) ≤ a := (i0_le a).mpr hm.1
        rw [if_pos h0, if_pos h0, Option.bind_some, Option.bind_some, show (0 : Int32) = nI 0 from rfl, e]
        exact ⟨s', rfl, r, o⟩
  · rw [if_pos (b2_z.mpr c1), if_neg (fun z => c1 (by rw [z, m1v]; omega)), if_neg (fun z : mnm a 12 => c1 ⟨by have := z.1; omega, by have := z.2; omega⟩)]
    exact ⟨s, rfl, h, rOnly.rf⟩
theorem r200 {s : Zr} {p : Mp} (h : rPc s p) (ok : pOK p) : s 0 7 = (200 : Int32) ↔ pn p = 200 := by
  have h200 := ok.1
  rw [h.1]
  exact ⟨fun z => (nI_eq (a := pn p) (b := 200) (by omega) (by omega)).mp z, fun z => by rw [z]; rfl⟩
theorem rjoin_eq {s : Zr} {p : Mp} (h : rPc s p) (ok : pOK p) (k a b : Int32) : ∃ s', fX6_join s k a b = some ((pJoin p k a b).1, s') ∧ rPc s' (pJoin p k a b).2 ∧ rOnly sPc s s' := by
  have h200 := ok.1
  have hal := pAll_lim ok (pn p) (Nat.le_refl _)
  unfold fX6_join pJoin
  have e1 : fX6_in k.toInt64 (2 : Int64) (5 : Int64) = some (b2 (2 ≤ k.toInt ∧ k.toInt ≤ 5)) := by
    rw [fin_eq]
    refine congrArg some (b2_c ?_)
    rw [show (2 : Int64) = (2 : Int32).toInt64 from rfl, show (5 : Int64) = (5 : Int32).toInt64 from rfl, i2l_le, i2l_le]
    exact Iff.rfl
  rw [e1, rpiece_at h ok, rpiece_at h ok, Option.bind_some, Option.bind_some, Option.bind_some]
  by_cases c1 : 2 ≤ k.toInt ∧ k.toInt ≤ 5
  · rw [if_neg (fun z => b2_z.mp z c1)]
    by_cases c2 : mnm a (pn p)
    · rw [if_neg (fun z => b2_z.mp z c2)]
      by_cases c3 : mnm b (pn p)
      · have c123 : (2 ≤ k.toInt ∧ k.toInt ≤ 5) ∧ mnm a (pn p) ∧ mnm b (pn p) := ⟨c1, c2, c3⟩
        rw [if_neg (fun z => b2_z.mp z c3), if_pos c123]
        by_cases c4 : pn p = 200
        · rw [if_pos ((r200 h ok).mpr c4), if_pos c4]
          exact ⟨s, rfl, h, rOnly.rf⟩
        · rw [if_neg (fun z => c4 ((r200 h ok).mp z)), if_neg c4]
          obtain ⟨ea, la⟩ := mnm_nI c2
          obtain ⟨eb, lb⟩ := mnm_nI c3
          have hk6 : mnm k 6 := ⟨by omega, by omega⟩
          obtain ⟨ek, lk⟩ := mnm_nI hk6
          generalize a.toNatClampNeg = x at ea la
          generalize b.toNatClampNeg = y at eb lb
          generalize k.toNatClampNeg = q at ek lk
          subst ea eb ek
          have sa := (h.2.2 x la).2.2.2.2.1
          have sb := (h.2.2 y lb).2.2.2.2.1
          have la60 := (ok.2 x la).2.2.2.1
          have lb60 := (ok.2 y lb).2.2.2.1
          rw [rd11 (by omega), rd11 (by omega), Option.bind_some, Option.bind_some, sa, sb, nI_add, nI_1]
          by_cases c5 : psz p x + psz p y + 1 ≤ 60
          · rw [if_pos (show nI (psz p x + psz p y + 1) ≤ (60 : Int32) from nI_le (b := 60) c5 (by omega)), if_pos c5]
            obtain ⟨s1, e, r, o⟩ := rnewp_eq h (by omega) q (-3)
            rw [e, Option.bind_some]
            obtain ⟨s2, e2, r2, o2⟩ := raddp_eq r (by omega) (by show _ + 0 < _; omega) la
            obtain ⟨s3, e3, r3, o3⟩ := raddp_eq r2 (by omega) (by show _ + 1 < _; omega) lb
            refine ⟨s3, ?_, r3, (o.tr o2).tr o3⟩
            show ((fX6_addPart s1 (nI (pn p)) (nI x)).bind fun s8 => (fX6_addPart s8 (nI (pn p)) (nI y)).bind fun s9 => some (nI (pn p), s9)) = _
            rw [e2, Option.bind_some, e3]
            rfl
          · rw [if_neg (show ¬ nI (psz p x + psz p y + 1) ≤ (60 : Int32) from nI_nle' (a := 60) (by omega) (by omega)), if_neg c5]
            exact ⟨s, rfl, h, rOnly.rf⟩
      · rw [if_pos (b2_z.mpr c3), if_neg (fun z : (2 ≤ k.toInt ∧ k.toInt ≤ 5) ∧ mnm a (pn p) ∧ mnm b (pn p) => c3 z.2.2)]
        exact ⟨s, rfl, h, rOnly.rf⟩
    · rw [if_pos (b2_z.mpr c2), if_neg (fun z : (2 ≤ k.toInt ∧ k.toInt ≤ 5) ∧ mnm a (pn p) ∧ mnm b (pn p) => c2 z.2.1)]
      exact ⟨s, rfl, h, rOnly.rf⟩
  · rw [if_pos (b2_z.mpr c1), if_neg (fun z : (2 ≤ k.toInt ∧ k.toInt ≤ 5) ∧ mnm a (pn p) ∧ mnm b (pn p) => c1 z.1)]
    exact ⟨s, rfl, h, rOnly.rf⟩
