/-! the reference keeps the log -/
theorem mOK_add {m : Ml} (ok : mOK m) (c n h b e : Int32) : mOK (mAdd m c n h b e).2 := by
  unfold mAdd
  by_cases h1 : mnm c (mnc m) ∧ mdr m c.toNatClampNeg = false ∧ mnm n 12 ∧ mnm h 8 ∧ mtm b ∧ mtm e
  · rw [if_pos h1]
    by_cases h2 : mlen m c.toNatClampNeg = 6
    · rw [if_pos h2]; exact ok
    · rw [if_neg h2]
      obtain ⟨o1, o2, o3, o4⟩ := ok
      have hc := (mnm_nI h1.1).2
      refine ⟨o1, fun k => ?_, fun k hk => ?_, fun k i hi => ?_⟩
      · show m1 _ _ _ k ≤ 6
        unfold m1
        have := o2 c.toNatClampNeg
        by_cases e : k = c.toNatClampNeg
        · rw [if_pos e]; omega
        · rw [if_neg e]; exact o2 k
      · have hk' : mnc m ≤ k := hk
        show m1 _ _ _ k = 0 ∧ _
        unfold m1
        rw [if_neg (by omega)]
        exact o3 k hk'
      · have hi' : i < m1 (mlen m) c.toNatClampNeg (mlen m c.toNatClampNeg + 1) k := hi
        clear hi
        generalize hK : c.toNatClampNeg = K at hi' h2 hc
        have hD : ∀ w, mdt (mnc m, m1 (mlen m) K (mlen m K + 1), mdr m, m1 (mdt m) K (m1 (mdt m K) (mlen m K) (mFour n h b e))) k i w = m1 (mdt m) K (m1 (mdt m K) (mlen m K) (mFour n h b e)) k i w := fun _ => rfl
        rw [hD, hD, hD, hD]
        unfold m1 at hi' ⊢
        by_cases e1 : k = K
        · subst e1
          simp only [if_true] at hi' ⊢
          by_cases e2 : i = mlen m k
          · simp only [e2, if_true]
            exact ⟨h1.2.2.1, h1.2.2.2.1, h1.2.2.2.2.1, h1.2.2.2.2.2⟩
          · simp only [if_neg e2]
            exact o4 _ i (by omega)
        · simp only [if_neg e1] at hi' ⊢
          exact o4 k i hi'
  · rw [if_neg h1]; exact ok
theorem mOK_open {m : Ml} (ok : mOK m) : mOK (mOpen m).2 := by
  unfold mOpen
  by_cases h2 : mnc m = 24
  · rw [if_pos h2]; exact ok
  · rw [if_neg h2]
    obtain ⟨o1, o2, o3, o4⟩ := ok
    exact ⟨by show mnc m + 1 ≤ 24; omega, o2, fun k hk => o3 k (by have : mnc m + 1 ≤ k := hk; omega), o4⟩
theorem mOK_cut {m : Ml} (ok : mOK m) (c : Int32) : mOK (mCut m c).2 := by
  unfold mCut
  by_cases h1 : mnm c (mnc m) ∧ mdr m c.toNatClampNeg = false ∧ mlen m c.toNatClampNeg ≠ 0
  · rw [if_pos h1]
    obtain ⟨o1, o2, o3, o4⟩ := ok
    have hc := (mnm_nI h1.1).2
    refine ⟨o1, fun k => ?_, fun k hk => ?_, fun k i hi => ?_⟩
    · show m1 _ _ _ k ≤ 6
      unfold m1
      have := o2 c.toNatClampNeg
      by_cases e : k = c.toNatClampNeg
      · rw [if_pos e]; omega
      · rw [if_neg e]; exact o2 k
    · have hk' : mnc m ≤ k := hk
      show m1 _ _ _ k = 0 ∧ _
      unfold m1
      rw [if_neg (by omega)]
      exact o3 k hk'
    · have hi' : i < m1 (mlen m) c.toNatClampNeg (mlen m c.toNatClampNeg - 1) k := hi
      unfold m1 at hi'
      by_cases e1 : k = c.toNatClampNeg
      · subst e1
        simp only [if_true] at hi'
        exact o4 _ i (by omega)
      · simp only [if_neg e1] at hi'
        exact o4 k i hi'
  · rw [if_neg h1]; exact ok
theorem mOK_drop {m : Ml} (ok : mOK m) (c x : Int32) : mOK (mDrop m c x).2 := by
  unfold mDrop
  by_cases h1 : mnm c (mnc m)
  · rw [if_pos h1]
    obtain ⟨o1, o2, o3, o4⟩ := ok
    have hc := (mnm_nI h1).2
    refine ⟨o1, o2, fun k hk => ⟨(o3 k hk).1, ?_⟩, o4⟩
    have hk' : mnc m ≤ k := hk
    show m1 _ _ _ k = _
    unfold m1
    rw [if_neg (by omega)]
    exact (o3 k hk').2
  · rw [if_neg h1]; exact ok
