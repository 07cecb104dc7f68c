/-! deed, join on the reference's side -/
def pDeed (p : Mp) (a : Int32) : Int32 × Mp :=
  if a = -1 then (if pn p = 200 then (-2, p) else (nI (pn p), pAdd p 1 (-3) []))
  else if mnm a 12 then (if pn p = 200 then (-2, p) else (nI (pn p), pAdd p 0 a []))
  else (-1, p)
def pJoin (p : Mp) (k a b : Int32) : Int32 × Mp :=
  if (2 ≤ k.toInt ∧ k.toInt ≤ 5) ∧ mnm a (pn p) ∧ mnm b (pn p) then
    if pn p = 200 then (-2, p)
    else if psz p a.toNatClampNeg + psz p b.toNatClampNeg + 1 ≤ 60 then (nI (pn p), pAdd p k.toNatClampNeg (-3) [a.toNatClampNeg, b.toNatClampNeg])
    else (-2, p)
  else (-1, p)
theorem rdeed_eq {s : Zr} {p : Mp} (h : rPc s p) (ok : pOK p) (a : Int32) : ∃ s', fX6_deed s a = some ((pDeed p a).1, s') ∧ rPc s' (pDeed p a).2 ∧ rOnly sPc s s' := by
  have h200 := ok.1
  unfold fX6_deed pDeed
  have e1 : fX6_in a.toInt64 (-1 : Int64) (11 : Int64) = some (b2 (-1 ≤ a.toInt ∧ a.toInt ≤ 11)) := by
    rw [fin_eq]
    refine congrArg some (b2_c ?_)
    rw [show (-1 : Int64) = (-1 : Int32).toInt64 from rfl, show (11 : Int64) = (11 : Int32).toInt64 from rfl, i2l_le, i2l_le]
    exact Iff.rfl
  have e200 : s 0 7 = (200 : Int32) ↔ pn p = 200 := by
    rw [h.1]
    exact ⟨fun z => (nI_eq (a := pn p) (b := 200) (by omega) (by omega)).mp z, fun z => by rw [z]; rfl⟩
  have m1v : (-1 : Int32).toInt = -1 := by decide
  rw [e1, Option.bind_some]
  by_cases c1 : -1 ≤ a.toInt ∧ a.toInt ≤ 11
  · rw [if_neg (fun z => b2_z.mp z c1)]
    by_cases c2 : a = -1
    · subst c2
      rw [if_pos rfl]
      by_cases c3 : pn p = 200
      · rw [if_pos (e200.mpr c3), if_pos c3]
        exact ⟨s, rfl, h, rOnly.rf⟩
      · rw [if_neg (fun z => c3 (e200.mp z)), if_neg c3]
        obtain ⟨s', e, r, o⟩ := rnewp_eq h (by omega) 1 (-3)
        rw [if_neg (by decide), if_neg (by decide), Option.bind_some, Option.bind_some, show (1 : Int32) = nI 1 from rfl, e]
        exact ⟨s', rfl, r, o⟩
    · have hm : mnm a 12 := by
        refine ⟨?_, by omega⟩
        have : a.toInt ≠ -1 := fun z => c2 (ieq (n := -1) (by decide) z)
        omega
      rw [if_neg c2, if_pos hm]
      by_cases c3 : pn p = 200
      · rw [if_pos (e200.mpr c3), if_pos c3]
        exact ⟨s, rfl, h, rOnly.rf⟩
      · rw [if_neg (fun z => c3 (e200.mp z)), if_neg c3]
        obtain ⟨s', e, r, o⟩ := rnewp_eq h (by omega) 0 a
        have h0 : (0 : Int32) ≤ a := (i0_le a).mpr hm.1
        rw [if_pos h0, if_pos h0, Option.bind_some, Option.bind_some, show (0 : Int32) = nI 0 from rfl, e]
        exact ⟨s', rfl, r, o⟩
  · rw [if_pos (b2_z.mpr c1), if_neg (fun z => c1 (by rw [z, m1v]; omega)), if_neg (fun z : mnm a 12 => c1 ⟨by have := z.1; omega, by have := z.2; omega⟩)]
    exact ⟨s, rfl, h, rOnly.rf⟩
