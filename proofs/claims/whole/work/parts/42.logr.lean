/-! the reference keeps the log -/
theorem mOK_add {m : Ml} (ok : mOK m) (c n h b e : Int32) : mOK (mAdd m c n h b e).2 := by
  unfold mAdd
  by_cases h1 : mnm c (mnc m) ∧ mdr m c.toNatClampNeg = false ∧ mnm n 12 ∧ mnm h 8 ∧ mtm b ∧ mtm e
  · rw [if_pos h1]
    by_cases h2 : mlen m c.toNatClampNeg = 6
    · rw [if_pos h2]; exact ok
    · rw [if_neg h2]
      obtain ⟨o1, o2, o3, o4⟩ := ok
      have hc := (mnm_nI h1.1).2
      refine ⟨o1, fun k => ?_, fun k hk => ?_, fun k i hi => ?_⟩
      · show m1 _ _ _ k ≤ 6
        unfold m1
        have := o2 c.toNatClampNeg
        by_cases e : k = c.toNatClampNeg
        · rw [if_pos e]; omega
        · rw [if_neg e]; exact o2 k
      · have hk' : mnc m ≤ k := hk
        show m1 _ _ _ k = 0 ∧ _
        unfold m1
        rw [if_neg (by omega)]
        exact o3 k hk'
      · have hi' : i < m1 (mlen m) c.toNatClampNeg (mlen m c.toNatClampNeg + 1) k := hi
        clear hi
        generalize hK : c.toNatClampNeg = K at hi' h2 hc
        have hD : ∀ w, mdt (mnc m, m1 (mlen m) K (mlen m K + 1), mdr m, m1 (mdt m) K (m1 (mdt m K) (mlen m K) (mFour n h b e))) k i w = m1 (mdt m) K (m1 (mdt m K) (mlen m K) (mFour n h b e)) k i w := fun _ => rfl
        rw [hD, hD, hD, hD]
        unfold m1 at hi' ⊢
        by_cases e1 : k = K
        · subst e1
          simp only [if_true] at hi' ⊢
          by_cases e2 : i = mlen m k
          · simp only [e2, if_true]
            exact ⟨h1.2.2.1, h1.2.2.2.1, h1.2.2.2.2.1, h1.2.2.2.2.2⟩
          · simp only [if_neg e2]
            exact o4 _ i (by omega)
        · simp only [if_neg e1] at hi' ⊢
          exact o4 k i hi'
  · rw [if_neg h1]; exact ok
theorem mOK_open {m : Ml} (ok : mOK m) : mOK (mOpen m).2 := by
  unfold mOpen
  by_cases h2 : mnc m = 24
  · rw [if_pos h2]; exact ok
  · rw [if_neg h2]
    obtain ⟨o1, o2, o3, o4⟩ := ok
    exact ⟨by show mnc m + 1 ≤ 24; omega, o2, fun k hk => o3 k (by have : mnc m + 1 ≤ k := hk; omega), o4⟩
theorem mOK_cut {m : Ml} (ok : mOK m) (c : Int32) : mOK (mCut m c).2 := by
  unfold mCut
  by_cases h1 : mnm c (mnc m) ∧ mdr m c.toNatClampNeg = false ∧ mlen m c.toNatClampNeg ≠ 0
  · rw [if_pos h1]
    obtain ⟨o1, o2, o3, o4⟩ := ok
    have hc := (mnm_nI h1.1).2
    refine ⟨o1, fun k => ?_, fun k hk => ?_, fun k i hi => ?_⟩
    · show m1 _ _ _ k ≤ 6
      unfold m1
      have := o2 c.toNatClampNeg
      by_cases e : k = c.toNatClampNeg
      · rw [if_pos e]; omega
      · rw [if_neg e]; exact o2 k
    · have hk' : mnc m ≤ k := hk
      show m1 _ _ _ k = 0 ∧ _
      unfold m1
      rw [if_neg (by omega)]
      exact o3 k hk'
    · have hi' : i < m1 (mlen m) c.toNatClampNeg (mlen m c.toNatClampNeg - 1) k := hi
      unfold m1 at hi'
      by_cases e1 : k = c.toNatClampNeg
      · subst e1
        simp only [if_true] at hi'
        exact o4 _ i (by omega)
      · simp only [if_neg e1] at hi'
        exact o4 k i hi'
  · rw [if_neg h1]; exact ok
theorem mOK_drop {m : Ml} (ok : mOK m) (c x : Int32) : mOK (mDrop m c x).2 := by
  unfold mDrop
  by_cases h1 : mnm c (mnc m)
  · rw [if_pos h1]
    obtain ⟨o1, o2, o3, o4⟩ := ok
    have hc := (mnm_nI h1).2
    refine ⟨o1, o2, fun k hk => ⟨(o3 k hk).1, ?_⟩, o4⟩
    have hk' : mnc m ≤ k := hk
    show m1 _ _ _ k = _
    unfold m1
    rw [if_neg (by omega)]
    exact (o3 k hk').2
  · rw [if_neg h1]; exact ok
theorem ropen_eq {s : Zr} {m : Ml} (h : rLog s m) (ok : mOK m) : ∃ s', fX6_open s = some ((mOpen m).1, s') ∧ rLog s' (mOpen m).2 ∧ (∀ a j, ¬ (a = 0 ∧ j = 0) → s' a j = s a j) := by
  have h24 := ok.1
  unfold fX6_open mOpen
  rw [h.1, show (24 : Int32) = nI 24 from rfl]
  by_cases h2 : mnc m = 24
  · rw [if_pos h2, if_pos (by rw [h2])]
    exact ⟨s, rfl, h, fun _ _ _ => rfl⟩
  · rw [if_neg h2, if_neg (fun z => h2 ((nI_eq (by omega) (by omega)).mp z))]
    refine ⟨u2 s 0 0 (nI (mnc m) + 1), ?_, ?_, fun a j z => u2_n z⟩
    · simp only [Option.bind_some, u2_s]
      rw [nI_1, show (1 : Int32) = nI 1 from rfl, pk_sub (by omega), Nat.add_sub_cancel]
    · refine ⟨by rw [u2_s, nI_1]; rfl, fun c hc => ?_, fun c i hc hi w hw => ?_⟩
      · rw [u2_a (by omega), u2_a (by omega)]; exact h.2.1 c hc
      · rw [u2_a (by omega)]; exact h.2.2 c i hc hi w hw
theorem b2_01 (p : Prop) [Decidable p] : b2 p = 0 ∨ b2 p = 1 := by unfold b2; by_cases h : p <;> simp [h]
theorem rcut_eq {s : Zr} {m : Ml} (h : rLog s m) (ok : mOK m) (c : Int32) : ∃ s', fX6_cut s c = some ((mCut m c).1, s') ∧ rLog s' (mCut m c).2 ∧ (∀ a j, a ≠ 1 → s' a j = s a j) := by
  have h24 := ok.1
  unfold fX6_cut mCut
  rw [fcase_eq h ok]
  simp only [Option.bind_some, b2_z]
  by_cases hc : mnm c (mnc m)
  · obtain ⟨ec, lc⟩ := mnm_nI hc
    generalize c.toNatClampNeg = k at ec lc
    subst ec
    have hk := h.2.1 k (by omega)
    have hl6 := ok.2.1 k
    rw [if_neg (fun z => z hc), rd2 (by omega), rd1 (by omega), hk.1, hk.2]
    simp only [Option.bind_some, b2_z]
    by_cases hd : mdr m k = true
    · rw [if_neg (fun z => z hd), if_neg (fun z => by rw [hd] at z; exact absurd z.2.1 (by decide))]
      exact ⟨s, rfl, h, fun _ _ _ => rfl⟩
    · rw [if_pos hd]
      by_cases h0 : mlen m k = 0
      · rw [if_pos (by rw [h0]; rfl), if_neg (fun z => z.2.2 h0)]
        exact ⟨s, rfl, h, fun _ _ _ => rfl⟩
      · rw [if_neg (nI_ne0 (by omega) (by omega)), if_pos ⟨hc, by simpa using hd, h0⟩, show (1 : Int32) = nI 1 from rfl, pk_sub (by omega), wr1 (by omega)]
        simp only [Option.bind_some]
        rw [rd1 (by omega)]
        refine ⟨_, by rw [u2_s]; rfl, ⟨?_, fun c hc => ?_, fun c i hc hi w hw => ?_⟩, fun a j z => u2_a z⟩
        · rw [u2_a (by omega)]; exact h.1
        · rw [u2_a (a := 1) (b := 2) (by omega)]
          refine ⟨?_, (h.2.1 c hc).2⟩
          show _ = nI (m1 _ _ _ c)
          unfold m1
          by_cases e : c = k
          · rw [if_pos e, e, u2_s]
          · rw [if_neg e, u2_n (fun z => e z.2)]; exact (h.2.1 c hc).1
        · have hi' : i < m1 (mlen m) k (mlen m k - 1) c := hi
          rw [u2_a (by omega)]
          refine h.2.2 c i hc ?_ w hw
          unfold m1 at hi'
          by_cases e : c = k
          · rw [if_pos e] at hi'; rw [e]; omega
          · rw [if_neg e] at hi'; exact hi'
  · rw [if_pos hc, if_neg (fun z => hc z.1)]
    exact ⟨s, rfl, h, fun _ _ _ => rfl⟩
theorem radd_eq {s : Zr} {m : Ml} (h : rLog s m) (ok : mOK m) (c n g b e : Int32) : ∃ s', fX6_add s c n g b e = some ((mAdd m c n g b e).1, s') ∧ rLog s' (mAdd m c n g b e).2 ∧ (∀ a j, ¬ (1 ≤ a ∧ a ≤ 6) → s' a j = s a j) := by
  have h24 := ok.1
  have hno : ∀ (p : Prop), ¬ p → (mnm c (mnc m) ∧ mdr m c.toNatClampNeg = false ∧ mnm n 12 ∧ mnm g 8 ∧ mtm b ∧ mtm e → p) → ∃ s', some ((-1 : Int32), s) = some ((mAdd m c n g b e).1, s') ∧ rLog s' (mAdd m c n g b e).2 ∧ (∀ a j, ¬ (1 ≤ a ∧ a ≤ 6) → s' a j = s a j) := by
    intro p hp hq
    unfold mAdd
    rw [if_neg (fun z => hp (hq z))]
    exact ⟨s, rfl, h, fun _ _ _ => rfl⟩
  unfold fX6_add
  rw [fcase_eq h ok, fname_eq, fhand_eq, ftime_eq, ftime_eq]
  simp only [Option.bind_some, b2_z]
  by_cases hc : mnm c (mnc m)
  · rw [if_neg (fun z => z hc)]
    obtain ⟨ec, lc⟩ := mnm_nI hc
    generalize hk0 : c.toNatClampNeg = k at ec lc
    have hk := h.2.1 k (by omega)
    have hl6 := ok.2.1 k
    rw [ec, rd2 (by omega), hk.2]
    simp only [Option.bind_some, b2_z]
    by_cases hd : mdr m k = true
    · rw [if_neg (fun z => z hd), ← ec]
      exact hno (mdr m k = false) (by rw [hd]; decide) (fun z => by rw [← hk0]; exact z.2.1)
    · rw [if_pos hd]
      by_cases hn : mnm n 12
      · rw [if_neg (fun z => z hn)]
        by_cases hg : mnm g 8
        · rw [if_neg (fun z => z hg)]
          by_cases hb : mtm b
          · rw [if_neg (fun z => z hb)]
            by_cases he : mtm e
            · rw [if_neg (fun z => z he), rd1 (by omega), hk.1]
              simp only [Option.bind_some]
              rw [← ec]
              unfold mAdd
              have hcond : mnm c (mnc m) ∧ mdr m k = false ∧ mnm n 12 ∧ mnm g 8 ∧ mtm b ∧ mtm e := ⟨hc, by simpa using hd, hn, hg, hb, he⟩
              rw [hk0, if_pos hcond, show (6 : Int32) = nI 6 from rfl]
              by_cases h6 : mlen m k = 6
              · rw [if_pos h6, if_pos (by rw [h6])]
                exact ⟨s, rfl, h, fun _ _ _ => rfl⟩
              · rw [if_neg h6, if_neg (fun z => h6 ((nI_eq (by omega) (by omega)).mp z)), ec, pk_mul, nI_add, wr3 (by omega)]
                simp only [Option.bind_some]
                rw [wr4 (by omega)]
                simp only [Option.bind_some]
                rw [wr5 (by omega)]
                simp only [Option.bind_some]
                rw [wr6 (by omega)]
                simp only [Option.bind_some]
                rw [rd1 (by omega)]
                simp only [Option.bind_some]
                rw [wr1 (by omega)]
                simp only [Option.bind_some]
                rw [rd1 (by omega), u2_s]
                rw [u2_a (a := 6) (b := 1) (by omega), u2_a (a := 5) (b := 1) (by omega), u2_a (a := 4) (b := 1) (by omega), u2_a (a := 3) (b := 1) (by omega), hk.1, nI_1]
                refine ⟨_, rfl, ⟨?_, fun d hd4 => ?_, fun d i hd4 hi w hw => ?_⟩, fun a j z => ?_⟩
                · rw [u2_a (by omega), u2_a (by omega), u2_a (by omega), u2_a (by omega), u2_a (by omega)]; exact h.1
                · have e2 : ∀ x : Nat, x < 3 → x ≠ 1 → ∀ j, (u2 (u2 (u2 (u2 (u2 s 3 (6 * k + mlen m k) n) 4 (6 * k + mlen m k) g) 5 (6 * k + mlen m k) b) 6 (6 * k + mlen m k) e) 1 k (nI (mlen m k + 1))) x j = s x j := by
                    intro x hx hx1 j
                    rw [u2_a hx1, u2_a (by omega), u2_a (by omega), u2_a (by omega), u2_a (by omega)]
                  rw [e2 2 (by omega) (by omega)]
                  refine ⟨?_, (h.2.1 d hd4).2⟩
                  show _ = nI (m1 _ _ _ d)
                  unfold m1
                  by_cases ed : d = k
                  · rw [if_pos ed, ed, u2_s]
                  · rw [if_neg ed, u2_n (fun z => ed z.2), u2_a (by omega), u2_a (by omega), u2_a (by omega), u2_a (by omega)]; exact (h.2.1 d hd4).1
                · have hi' : i < m1 (mlen m) k (mlen m k + 1) d := hi
                  clear hi
                  have hD : mdt (mnc m, m1 (mlen m) k (mlen m k + 1), mdr m, m1 (mdt m) k (m1 (mdt m k) (mlen m k) (mFour n g b e))) d i w = m1 (mdt m) k (m1 (mdt m k) (mlen m k) (mFour n g b e)) d i w := rfl
                  rw [u2_a (by omega), hD]
                  unfold m1 at hi' ⊢
                  by_cases ed : d = k
                  · subst ed
                    simp only [if_true] at hi' ⊢
                    by_cases e3 : i = mlen m d
                    · subst e3
                      simp only [if_true]
                      unfold mFour
                      rcases (show w = 0 ∨ w = 1 ∨ w = 2 ∨ w = 3 by omega) with rfl | rfl | rfl | rfl
                      · rw [u2_a (by omega), u2_a (by omega), u2_a (by omega), u2_s]; rfl
                      · rw [u2_a (by omega), u2_a (by omega), u2_s]; rfl
                      · rw [u2_a (by omega), u2_s]; rfl
                      · rw [u2_s]; rfl
                    · simp only [if_neg e3]
                      have hne : ¬ 6 * d + i = 6 * d + mlen m d := by omega
                      rw [u2_n (fun z => hne z.2), u2_n (fun z => hne z.2), u2_n (fun z => hne z.2), u2_n (fun z => hne z.2)]
                      exact h.2.2 d i hd4 (by omega) w hw
                  · simp only [if_neg ed] at hi' ⊢
                    have h6i := ok.2.1 d
                    have hne : ¬ 6 * d + i = 6 * k + mlen m k := by omega
                    rw [u2_n (fun z => hne z.2), u2_n (fun z => hne z.2), u2_n (fun z => hne z.2), u2_n (fun z => hne z.2)]
                    exact h.2.2 d i hd4 hi' w hw
                · rw [u2_a (by omega), u2_a (by omega), u2_a (by omega), u2_a (by omega), u2_a (by omega)]
            · rw [if_pos he, ← ec]; exact hno _ he (fun z => z.2.2.2.2.2)
          · rw [if_pos hb, ← ec]; exact hno _ hb (fun z => z.2.2.2.2.1)
        · rw [if_pos hg, ← ec]; exact hno _ hg (fun z => z.2.2.2.1)
      · rw [if_pos hn, ← ec]; exact hno _ hn (fun z => z.2.2.1)
  · rw [if_pos hc]; exact hno _ hc (fun z => z.1)
theorem rdrop_eq {s : Zr} {m : Ml} (h : rLog s m) (ok : mOK m) (c x : Int32) (hx : x = 0 ∨ x = 1) : ∃ s', fX6_drop s c x = some ((mDrop m c x).1, s') ∧ rLog s' (mDrop m c x).2 ∧ (∀ a j, a ≠ 2 → s' a j = s a j) := by
  have h24 := ok.1
  unfold fX6_drop mDrop
  rw [fcase_eq h ok]
  simp only [Option.bind_some, b2_z]
  by_cases hc : mnm c (mnc m)
  · obtain ⟨ec, lc⟩ := mnm_nI hc
    generalize c.toNatClampNeg = k at ec lc
    subst ec
    have hk := h.2.1 k (by omega)
    rw [if_neg (fun z => z hc), rd2 (by omega), hk.2, if_pos hc]
    simp only [Option.bind_some, b2_z]
    rw [wr2 (by omega) hx]
    have e0 : (if ¬ mdr m k = true then some (0 : Int32) else some (1 : Int32)) = some (b2 (mdr m k = true)) := by
      unfold b2
      by_cases hd : mdr m k = true
      · rw [if_neg (fun z => z hd), if_pos hd]
      · rw [if_pos hd, if_neg hd]
    rw [e0]
    simp only [Option.bind_some]
    refine ⟨_, rfl, ⟨?_, fun d hd => ?_, fun d i hd hi w hw => ?_⟩, fun a j z => u2_a z⟩
    · rw [u2_a (by omega)]; exact h.1
    · rw [u2_a (a := 2) (b := 1) (by omega)]
      refine ⟨(h.2.1 d hd).1, ?_⟩
      show _ = b2 (m1 _ _ _ d = true)
      unfold m1
      by_cases ed : d = k
      · subst ed
        rw [u2_s]
        simp only [if_true]
        rcases hx with rfl | rfl <;> rfl
      · rw [u2_n (fun z => ed z.2)]
        simp only [if_neg ed]
        exact (h.2.1 d hd).2
    · rw [u2_a (by omega)]; exact h.2.2 d i hd hi w hw
  · rw [if_pos hc, if_neg hc]
    exact ⟨s, rfl, h, fun _ _ _ => rfl⟩
