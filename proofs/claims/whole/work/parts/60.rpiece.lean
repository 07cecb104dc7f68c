/-! piece on the reference's side -/
def pPiece (p : Mp) (a w : Int32) : Int32 :=
  if mnm a (pn p) ∧ mnm w 63 then
    if w = 0 then nI (pkd p a.toNatClampNeg) else if w = 1 then pnm p a.toNatClampNeg else if w = 2 then nI (ppt p a.toNatClampNeg).length else if w = 3 then nI (psz p a.toNatClampNeg)
    else if (ppt p a.toNatClampNeg).length ≤ w.toNatClampNeg - 4 then -3 else nI ((ppt p a.toNatClampNeg).getD (w.toNatClampNeg - 4) 0)
  else -1
theorem rpiece_eq {s : Zr} {p : Mp} (h : rPc s p) (ok : pOK p) (a w : Int32) : fX6_piece s a w = some (pPiece p a w) := by
  have h200 := ok.1
  unfold fX6_piece pPiece
  have e1 : fX6_in w.toInt64 (0 : Int64) (62 : Int64) = some (b2 (mnm w 63)) := by
    rw [fin_eq]
    refine congrArg some (b2_c ?_)
    rw [i2l0, show (62 : Int64) = (62 : Int32).toInt64 from rfl, i2l_le, i2l_le]
    show (0 : Int) ≤ w.toInt ∧ w.toInt ≤ 62 ↔ (0 : Int) ≤ w.toInt ∧ w.toInt < 63
    omega
  rw [rpiece_at h ok, e1, Option.bind_some, Option.bind_some]
  by_cases c1 : mnm a (pn p)
  · rw [if_neg (fun z => b2_z.mp z c1)]
    by_cases c2 : mnm w 63
    · have c12 : mnm a (pn p) ∧ mnm w 63 := ⟨c1, c2⟩
      rw [if_neg (fun z => b2_z.mp z c2), if_pos c12]
      obtain ⟨ea, la⟩ := mnm_nI c1
      obtain ⟨ew, lw⟩ := mnm_nI c2
      generalize a.toNatClampNeg = x at ea la
      generalize w.toNatClampNeg = q at ew lw
      subst ea ew
      obtain ⟨t1, t2, t3, t4, t5, t6⟩ := h.2.2 x la
      have l60 := plen_60 ok la
      have hx := pAll_lim ok x (by omega)
      rw [rd7 (by omega), rd8 (by omega), rd10 (by omega), rd11 (by omega), t1, t2, t4, t5]
      by_cases w0 : nI q = 0
      · rw [if_pos w0, if_pos w0]; rfl
      rw [if_neg w0, if_neg w0]
      by_cases w1 : nI q = 1
      · rw [if_pos w1, if_pos w1]; rfl
      rw [if_neg w1, if_neg w1]
      by_cases w2 : nI q = 2
      · rw [if_pos w2, if_pos w2]; rfl
      rw [if_neg w2, if_neg w2]
      by_cases w3 : nI q = 3
      · rw [if_pos w3, if_pos w3]; rfl
      rw [if_neg w3, if_neg w3]
      have q4 : 4 ≤ q := by
        rcases (show q = 0 ∨ q = 1 ∨ q = 2 ∨ q = 3 ∨ 4 ≤ q by omega) with rfl | rfl | rfl | rfl | z
        · exact absurd rfl w0
        · exact absurd rfl w1
        · exact absurd rfl w2
        · exact absurd rfl w3
        · exact z
      rw [Option.bind_some, show (4 : Int32) = nI 4 from rfl, pk_sub q4]
      by_cases c3 : (ppt p x).length ≤ q - 4
      · rw [if_pos (nI_le c3 (by omega)), if_pos c3]; rfl
      · rw [if_neg (nI_nle' (by omega) (by omega)), if_neg c3, rd9 (by omega), Option.bind_some, t3, nI_add, pk_sub (by omega), show pAll p x + q - 4 = pAll p x + (q - 4) by omega, rd12 (by omega), Option.bind_some, t6 (q - 4) (by omega)]
        rfl
    · rw [if_pos (b2_z.mpr c2), if_neg (fun z : mnm a (pn p) ∧ mnm w 63 => c2 z.2)]
  · rw [if_pos (b2_z.mpr c1), if_neg (fun z : mnm a (pn p) ∧ mnm w 63 => c1 z.1)]
