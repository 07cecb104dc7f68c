/-! told, on both sides -/
theorem i0_lt (a : Int32) : a < 0 ↔ a.toInt < 0 := by rw [Int32.lt_iff_toInt_lt]; rfl
theorem ctell_eq {h : Zh} {v j q n : Nat} (d3 : v + 1 < zn h) (d4 : zk h v = 2) (d5 : zp h v 0 = some (v + 1)) (d6 : zk h (v + 1) = 100) (d7 : zl h (v + 1) = 24) (hj : j < 6) (hq : q < 4) : fX0_tell h (some v) (nI j) (nI q) = some (zi h (v + 1) (4 * j + q)) := by
  unfold fX0_tell
  have e0 : nI j * (4 : Int32) + nI q = nI (4 * j + q) := by rw [show (4 : Int32) = nI 4 from rfl, pk_mul, nI_add, Nat.mul_comm]
  rw [e0, if_neg (nI_pos (by omega)), zfP_v (by omega) d4, d5]
  simp only [Option.bind_some]
  rw [zaL_v (by omega) d6, d7]
  simp only [Option.bind_some]
  rw [if_neg (nI_nle' (by omega) (by omega)), zaI_v (n := 24) (by omega) d6 d7 (by omega) (by omega)]
  rfl
theorem ctold_eq {h : Zh} {X : Nat} {ca : Nat → Nat} {m : Ml} (f : cFix h X) (c : cLog h X ca m) (ok : mOK m) (a i w : Int32) : fX5_told h (some X) a i w = some (mTold m a i w) := by
  have h24 := ok.1
  have f0 := f.1
  unfold fX5_told mTold
  rw [zob_v (by omega) f.2.1.1]
  simp only [Option.bind_some]
  rw [ccase_eq f c ok]
  simp only [Option.bind_some]
  by_cases hc : mnm a (mnc m)
  · obtain ⟨ec, lc⟩ := mnm_nI hc
    generalize a.toNatClampNeg = k at ec lc
    subst ec
    obtain ⟨d1, d2, d3, d4, d5, d6, d7, d8, d9, d10⟩ := c.2.1 k lc
    have hl6 := ok.2.1 k
    have eL : zfI h (some (ca k)) 1 1 = some (nI (mlen m k)) := by rw [zfI_v (by omega) d4, d8]
    have eD : zfI h (some (ca k)) 1 2 = some (b2 (mdr m k = true)) := by rw [zfI_v (by omega) d4, d9]
    have eO : zob h (some (ca k)) 2 = some (ca k) := zob_v (by omega) d4
    rw [if_pos hc, if_neg (fun z => by cases z), if_pos hc]
    have tail : ∀ (hi : ¬ i = -1 ∨ (¬ w = 0 ∧ ¬ w = 1)), (if i < 0 then some (-9 : Int32) else (zfI h (some (ca k)) 1 1).bind fun x7 => if x7 ≤ i then some (-9 : Int32) else if w < 0 then some (-9 : Int32) else if w ≤ (3 : Int32) then (zob h (some (ca k)) 2).bind fun p8 => (fX0_tell h (some p8) i w).bind fun x9 => some x9 else some (-9 : Int32)) = some (if mnm i (mlen m k) ∧ mnm w 4 then mdt m k i.toNatClampNeg w.toNatClampNeg else -9) := by
      intro hi
      rw [eL, eO]
      simp only [Option.bind_some]
      by_cases hmi : mnm i (mlen m k)
      · obtain ⟨ei, li⟩ := mnm_nI hmi
        generalize i.toNatClampNeg = j at ei li
        subst ei
        rw [if_neg (nI_pos (by omega)), if_neg (nI_nle' (by omega) li)]
        by_cases hw : mnm w 4
        · obtain ⟨ew, lw⟩ := mnm_nI hw
          generalize w.toNatClampNeg = q at ew lw
          subst ew
          rw [if_neg (nI_pos (by omega)), if_pos (show nI q ≤ (3 : Int32) from nI_le (b := 3) (by omega) (by omega)), ctell_eq (n := 0) d3 d4 d5 d6 d7 (by omega) lw, if_pos (show mnm (nI j) (mlen m k) ∧ mnm (nI q) 4 from ⟨hmi, hw⟩), d10 j q li lw]
          rfl
        · rw [if_neg (fun z : mnm (nI j) (mlen m k) ∧ mnm w 4 => hw z.2)]
          by_cases h0 : w < 0
          · rw [if_pos h0]
          · have e3 : (3 : Int32).toInt = 3 := by decide
            have hw3 : ¬ w ≤ (3 : Int32) := fun z => hw ⟨by have := mt (i0_lt w).mpr h0; omega, by have := Int32.le_iff_toInt_le.mp z; omega⟩
            rw [if_neg h0, if_neg hw3]
      · rw [if_neg (fun z : mnm i (mlen m k) ∧ mnm w 4 => hmi z.1)]
        rcases mnm_not (by omega) hmi with p | p
        · rw [if_pos p]
        · by_cases h0 : i < 0
          · rw [if_pos h0]
          · rw [if_neg h0, if_pos p]
    by_cases hi : i = -1
    · rw [if_pos hi, if_pos hi, if_pos hi]
      by_cases hw : w = 0
      · rw [if_pos hw, if_pos hw, eL]; rfl
      · rw [if_neg hw, if_neg hw]
        by_cases hw1 : w = 1
        · rw [if_pos hw1, if_pos hw1, eD]
          simp only [Option.bind_some]
          by_cases hd : mdr m k = true
          · rw [b2_t hd]; rfl
          · rw [b2_f hd]; rfl
        · rw [if_neg hw1, if_neg hw1, tail (Or.inr ⟨hw, hw1⟩), if_neg (fun z => by have := z.1.1; rw [hi] at this; exact absurd this (by decide))]
    · rw [if_neg hi, if_neg hi, if_neg hi, tail (Or.inl hi)]
  · rw [if_neg hc, if_pos rfl, if_neg hc]
