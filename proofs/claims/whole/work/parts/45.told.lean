/-! told, on both sides -/
theorem i0_le (a : Int32) : (0 : Int32) ≤ a ↔ 0 ≤ a.toInt := by rw [Int32.le_iff_toInt_le]; rfl
theorem i0_lt (a : Int32) : a < 0 ↔ a.toInt < 0 := by rw [Int32.lt_iff_toInt_lt]; rfl
theorem ieq {a : Int32} {n : Int} (hn : -2147483648 ≤ n ∧ n < 2147483648) (h : a.toInt = n) : a = Int32.ofInt n := by rw [← h, Int32.ofInt_toInt]
theorem rtold_eq {s : Zr} {m : Ml} (h : rLog s m) (ok : mOK m) (c i w : Int32) : fX6_told s c i w = some (mTold m c i w) := by
  have h24 := ok.1
  unfold fX6_told mTold
  rw [fcase_eq h ok]
  simp only [Option.bind_some, b2_z]
  by_cases hc : mnm c (mnc m)
  · obtain ⟨ec, lc⟩ := mnm_nI hc
    generalize c.toNatClampNeg = k at ec lc
    subst ec
    have hk := h.2.1 k (by omega)
    have hl6 := ok.2.1 k
    rw [if_neg (fun z => z hc), rd1 (by omega), hk.1, if_pos hc]
    simp only [Option.bind_some]
    have e1 : fX6_in i.toInt64 (-1 : Int64) ((nI (mlen m k) - (1 : Int32)).toInt64) = some (b2 (-1 ≤ i.toInt ∧ i.toInt < mlen m k)) := by
      rw [fin_eq]
      refine congrArg some (b2_c ?_)
      rw [show (-1 : Int64) = (-1 : Int32).toInt64 from rfl, i2l_le, i2l_le, show (1 : Int32) = nI 1 from rfl, pk_sub_toInt (by omega) (by omega)]
      show (-1 : Int) ≤ i.toInt ∧ i.toInt ≤ (mlen m k : Int) - ((1 : Nat) : Int) ↔ _
      omega
    rw [e1]
    simp only [Option.bind_some, b2_z]
    by_cases hi : -1 ≤ i.toInt ∧ i.toInt < mlen m k
    · rw [if_neg (fun z => z hi)]
      by_cases h0 : (0 : Int32) ≤ i
      · have h0' := (i0_le i).mp h0
        have hne : ¬ i = -1 := fun z => by rw [z] at h0'; exact absurd h0' (by decide)
        have hmi : mnm i (mlen m k) := ⟨h0', hi.2⟩
        obtain ⟨ei, li⟩ := mnm_nI hmi
        generalize i.toNatClampNeg = j at ei li
        subst ei
        rw [if_neg hne, if_pos h0]
        simp only [Option.bind_some]
        have e2 : fX6_in w.toInt64 (0 : Int64) (3 : Int64) = some (b2 (mnm w 4)) := by
          rw [fin_eq]
          refine congrArg some (b2_c ?_)
          rw [i2l0, show (3 : Int64) = (3 : Int32).toInt64 from rfl, i2l_le, i2l_le]
          show (0 : Int) ≤ w.toInt ∧ w.toInt ≤ 3 ↔ (0 : Int) ≤ w.toInt ∧ w.toInt < 4
          omega
        rw [e2]
        simp only [Option.bind_some, b2_z]
        by_cases hw : mnm w 4
        · obtain ⟨ew, lw⟩ := mnm_nI hw
          generalize w.toNatClampNeg = q at ew lw
          subst ew
          have hcond : mnm (nI j) (mlen m k) ∧ mnm (nI q) 4 := ⟨hmi, hw⟩
          rw [if_neg (fun z => z hw), if_pos h0, if_pos hcond]
          have ix : (6 : Int32) * nI k + nI j = nI (6 * k + j) := by rw [show (6 : Int32) = nI 6 from rfl, pk_mul, nI_add]
          rw [ix, rd3 (by omega), rd4 (by omega), rd5 (by omega), rd6 (by omega)]
          have hd := fun q hq => h.2.2 k j (by omega) li q hq
          rcases (show q = 0 ∨ q = 1 ∨ q = 2 ∨ q = 3 by omega) with rfl | rfl | rfl | rfl
          · rw [if_pos (by rfl)]; simp only [Option.bind_some]; rw [← hd 0 (by omega)]
          · rw [if_neg (by decide), if_pos (by rfl)]; simp only [Option.bind_some]; rw [← hd 1 (by omega)]
          · rw [if_neg (by decide), if_neg (by decide), if_pos (by rfl)]; simp only [Option.bind_some]; rw [← hd 2 (by omega)]
          · rw [if_neg (by decide), if_neg (by decide), if_neg (by decide)]; simp only [Option.bind_some]; rw [← hd 3 (by omega)]
        · rw [if_pos hw, if_neg (fun z => hw z.2)]
      · have h0' := mt (i0_le i).mpr h0
        have e9 : i = -1 := ieq (n := -1) (by decide) (by omega)
        subst e9
        rw [if_neg h0, if_pos rfl]
        simp only [Option.bind_some]
        have e2 : fX6_in w.toInt64 (0 : Int64) (1 : Int64) = some (b2 (mnm w 2)) := by
          rw [fin_eq]
          refine congrArg some (b2_c ?_)
          rw [i2l0, show (1 : Int64) = (1 : Int32).toInt64 from rfl, i2l_le, i2l_le]
          show (0 : Int) ≤ w.toInt ∧ w.toInt ≤ 1 ↔ (0 : Int) ≤ w.toInt ∧ w.toInt < 2
          omega
        rw [e2]
        simp only [Option.bind_some, b2_z]
        by_cases hw : mnm w 2
        · obtain ⟨ew, lw⟩ := mnm_nI hw
          generalize w.toNatClampNeg = q at ew lw
          subst ew
          rw [if_neg (fun z => z hw), if_neg h0, rd2 (by omega), hk.2]
          rcases (show q = 0 ∨ q = 1 by omega) with rfl | rfl
          · rw [if_pos (by rfl), if_pos (by rfl)]; simp only [Option.bind_some]
          · rw [if_neg (by decide), if_neg (by decide), if_pos (by rfl)]
            simp only [Option.bind_some]
            by_cases hd : mdr m k = true
            · rw [b2_t hd]; rfl
            · rw [b2_f hd]; rfl
        · rw [if_pos hw, if_neg (fun z => hw (by rw [z]; decide)), if_neg (fun z => hw (by rw [z]; decide))]
    · have m1v : (-1 : Int32).toInt = -1 := by decide
      have hne : ¬ i = -1 := fun z => hi (by rw [z, m1v]; exact ⟨by omega, by omega⟩)
      have hnm : ¬ (mnm i (mlen m k) ∧ mnm w 4) := fun z => hi ⟨by have := z.1.1; omega, z.1.2⟩
      rw [if_pos hi, if_neg hne, if_neg hnm]
  · rw [if_pos hc, if_neg hc]
theorem ctell_eq {h : Zh} {v j q n : Nat} (d3 : v + 1 < zn h) (d4 : zk h v = 2) (d5 : zp h v 0 = some (v + 1)) (d6 : zk h (v + 1) = 100) (d7 : zl h (v + 1) = 24) (hj : j < 6) (hq : q < 4) : fX0_tell h (some v) (nI j) (nI q) = some (zi h (v + 1) (4 * j + q)) := by
  unfold fX0_tell
  have e0 : nI j * (4 : Int32) + nI q = nI (4 * j + q) := by rw [show (4 : Int32) = nI 4 from rfl, pk_mul, nI_add, Nat.mul_comm]
  rw [e0, if_neg (nI_pos (by omega)), zfP_v (by omega) d4, d5]
  simp only [Option.bind_some]
  rw [zaL_v (by omega) d6, d7]
  simp only [Option.bind_some]
  rw [if_neg (nI_nle' (by omega) (by omega)), zaI_v (n := 24) (by omega) d6 d7 (by omega) (by omega)]
  rfl
theorem ctold_eq {h : Zh} {X : Nat} {ca : Nat → Nat} {m : Ml} (f : cFix h X) (c : cLog h X ca m) (ok : mOK m) (a i w : Int32) : fX5_told h (some X) a i w = some (mTold m a i w) := by
  have h24 := ok.1
  have f0 := f.1
  unfold fX5_told mTold
  rw [zob_v (by omega) f.2.1.1]
  simp only [Option.bind_some]
  rw [ccase_eq f c ok]
  simp only [Option.bind_some]
  by_cases hc : mnm a (mnc m)
  · obtain ⟨ec, lc⟩ := mnm_nI hc
    generalize a.toNatClampNeg = k at ec lc
    subst ec
    obtain ⟨d1, d2, d3, d4, d5, d6, d7, d8, d9, d10⟩ := c.2.1 k lc
    have hl6 := ok.2.1 k
    have eL : zfI h (some (ca k)) 1 1 = some (nI (mlen m k)) := by rw [zfI_v (by omega) d4, d8]
    have eD : zfI h (some (ca k)) 1 2 = some (b2 (mdr m k = true)) := by rw [zfI_v (by omega) d4, d9]
    have eO : zob h (some (ca k)) 2 = some (ca k) := zob_v (by omega) d4
    rw [if_pos hc, if_neg (fun z => by cases z), if_pos hc]
    have tail : ∀ (hi : ¬ i = -1 ∨ (¬ w = 0 ∧ ¬ w = 1)), (if i < 0 then some (-9 : Int32) else (zfI h (some (ca k)) 1 1).bind fun x7 => if x7 ≤ i then some (-9 : Int32) else if w < 0 then some (-9 : Int32) else if w ≤ (3 : Int32) then (zob h (some (ca k)) 2).bind fun p8 => (fX0_tell h (some p8) i w).bind fun x9 => some x9 else some (-9 : Int32)) = some (if mnm i (mlen m k) ∧ mnm w 4 then mdt m k i.toNatClampNeg w.toNatClampNeg else -9) := by
      intro hi
      rw [eL, eO]
      simp only [Option.bind_some]
      by_cases hmi : mnm i (mlen m k)
      · obtain ⟨ei, li⟩ := mnm_nI hmi
        generalize i.toNatClampNeg = j at ei li
        subst ei
        rw [if_neg (nI_pos (by omega)), if_neg (nI_nle' (by omega) li)]
        by_cases hw : mnm w 4
        · obtain ⟨ew, lw⟩ := mnm_nI hw
          generalize w.toNatClampNeg = q at ew lw
          subst ew
          rw [if_neg (nI_pos (by omega)), if_pos (show nI q ≤ (3 : Int32) from nI_le (b := 3) (by omega) (by omega)), ctell_eq (n := 0) d3 d4 d5 d6 d7 (by omega) lw, if_pos (show mnm (nI j) (mlen m k) ∧ mnm (nI q) 4 from ⟨hmi, hw⟩), d10 j q li lw]
          rfl
        · rw [if_neg (fun z : mnm (nI j) (mlen m k) ∧ mnm w 4 => hw z.2)]
          by_cases h0 : w < 0
          · rw [if_pos h0]
          · have e3 : (3 : Int32).toInt = 3 := by decide
            have hw3 : ¬ w ≤ (3 : Int32) := fun z => hw ⟨by have := mt (i0_lt w).mpr h0; omega, by have := Int32.le_iff_toInt_le.mp z; omega⟩
            rw [if_neg h0, if_neg hw3]
      · rw [if_neg (fun z : mnm i (mlen m k) ∧ mnm w 4 => hmi z.1)]
        rcases mnm_not (by omega) hmi with p | p
        · rw [if_pos p]
        · by_cases h0 : i < 0
          · rw [if_pos h0]
          · rw [if_neg h0, if_pos p]
    by_cases hi : i = -1
    · rw [if_pos hi, if_pos hi, if_pos hi]
      by_cases hw : w = 0
      · rw [if_pos hw, if_pos hw, eL]; rfl
      · rw [if_neg hw, if_neg hw]
        by_cases hw1 : w = 1
        · rw [if_pos hw1, if_pos hw1, eD]
          simp only [Option.bind_some]
          by_cases hd : mdr m k = true
          · rw [b2_t hd]; rfl
          · rw [b2_f hd]; rfl
        · rw [if_neg hw1, if_neg hw1, tail (Or.inr ⟨hw, hw1⟩), if_neg (fun z => by have := z.1.1; rw [hi] at this; exact absurd this (by decide))]
    · rw [if_neg hi, if_neg hi, if_neg hi, tail (Or.inl hi)]
  · rw [if_neg hc, if_pos rfl, if_neg hc]
