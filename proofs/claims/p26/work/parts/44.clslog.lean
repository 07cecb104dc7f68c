/-! the class's log calls -/
theorem cname_eq (h : Zh) (a : Int32) : fX5_isName h a = some (b2 (mnm a 12)) := by
  unfold fX5_isName
  have h1 : a < 0 ↔ a.toInt < 0 := by rw [Int32.lt_iff_toInt_lt]; rfl
  have h2 : (12 : Int32) ≤ a ↔ 12 ≤ a.toInt := by rw [Int32.le_iff_toInt_le]; rfl
  by_cases p : a < 0
  · rw [if_pos p, b2_f (fun z => by have := h1.mp p; have := z.1; omega)]; rfl
  · rw [if_neg p]
    by_cases q : (12 : Int32) ≤ a
    · rw [if_pos q, b2_f (fun z => by have := h2.mp q; have := z.2; omega)]; rfl
    · rw [if_neg q, b2_t ⟨by have := mt h1.mpr p; omega, by have := mt h2.mpr q; omega⟩]; rfl
theorem chand_eq (h : Zh) (a : Int32) : fX5_isHand h a = some (b2 (mnm a 8)) := by
  unfold fX5_isHand
  have h1 : a < 0 ↔ a.toInt < 0 := by rw [Int32.lt_iff_toInt_lt]; rfl
  have h2 : (8 : Int32) ≤ a ↔ 8 ≤ a.toInt := by rw [Int32.le_iff_toInt_le]; rfl
  by_cases p : a < 0
  · rw [if_pos p, b2_f (fun z => by have := h1.mp p; have := z.1; omega)]; rfl
  · rw [if_neg p]
    by_cases q : (8 : Int32) ≤ a
    · rw [if_pos q, b2_f (fun z => by have := h2.mp q; have := z.2; omega)]; rfl
    · rw [if_neg q, b2_t ⟨by have := mt h1.mpr p; omega, by have := mt h2.mpr q; omega⟩]; rfl
theorem ctime_eq (h : Zh) (a : Int32) : fX5_isTime h a = some (b2 (mtm a)) := by
  unfold fX5_isTime
  have h1 : a < 0 ↔ a.toInt < 0 := by rw [Int32.lt_iff_toInt_lt]; rfl
  have h2 : (1000000 : Int32) < a ↔ 1000000 < a.toInt := by rw [Int32.lt_iff_toInt_lt]; rfl
  by_cases r : a = -1
  · rw [if_pos r, b2_t (by rw [r]; decide)]; rfl
  · rw [if_neg r]
    have r2 : a.toInt ≠ -1 := fun z => r (Int32.toInt_inj.mp z)
    by_cases p : a < 0
    · rw [if_pos p, b2_f (fun z => by have := h1.mp p; have := z.1; omega)]; rfl
    · rw [if_neg p]
      by_cases q : (1000000 : Int32) < a
      · rw [if_pos q, b2_f (fun z => by have := h2.mp q; have := z.2; omega)]; rfl
      · rw [if_neg q, b2_t ⟨by have := mt h1.mpr p; omega, by have := mt h2.mpr q; omega⟩]; rfl
theorem mnm_not {a : Int32} {n : Nat} (hn : n < 2 ^ 31) (h : ¬ mnm a n) : a < 0 ∨ nI n ≤ a := by
  by_cases p : a < 0
  · exact Or.inl p
  · refine Or.inr (Int32.le_iff_toInt_le.mpr ?_)
    rw [nI_toInt hn]
    have h1 : ¬ a.toInt < 0 := fun z => p (Int32.lt_iff_toInt_lt.mpr z)
    exact Int.not_lt.mp (fun z => h ⟨by omega, z⟩)
theorem ccase_eq {h : Zh} {X : Nat} {ca : Nat → Nat} {m : Ml} (f : cFix h X) (c : cLog h X ca m) (ok : mOK m) (a : Int32) : fX5_caseAt h (some X) a = some (if mnm a (mnc m) then some (ca a.toNatClampNeg) else none) := by
  have h24 := ok.1
  have f0 := f.1
  unfold fX5_caseAt
  rw [zfI_v (by omega) f.2.1.1, c.1]
  by_cases hc : mnm a (mnc m)
  · obtain ⟨ec, lc⟩ := mnm_nI hc
    rw [if_pos hc]
    generalize a.toNatClampNeg = k at ec lc
    subst ec
    rw [if_neg (nI_pos (by omega))]
    simp only [Option.bind_some]
    rw [if_neg (nI_nle' (by omega) lc), zfP_v (by omega) f.2.1.1, f.2.1.2.1]
    simp only [Option.bind_some]
    rw [zaL_v (by omega) f.2.2.1.1, f.2.2.1.2]
    simp only [Option.bind_some]
    rw [if_neg (nI_nle' (by omega) (by omega)), zaP_v (n := 24) (by omega) f.2.2.1.1 f.2.2.1.2 (by omega) (by omega), (c.2.1 k lc).1]
    rfl
  · rw [if_neg hc]
    rcases mnm_not (by omega) hc with p | p
    · rw [if_pos p]; rfl
    · by_cases q : a < 0
      · rw [if_pos q]; rfl
      · rw [if_neg q]
        simp only [Option.bind_some]
        rw [if_pos p]; rfl
theorem clog_eq {h : Zh} {X : Nat} {ca : Nat → Nat} {m : Ml} (f : cFix h X) (c : cLog h X ca m) (ok : mOK m) (a : Int32) : fX5_inLog h (some X) a = some (if mnm a (mnc m) ∧ mdr m a.toNatClampNeg = false then some (ca a.toNatClampNeg) else none) := by
  have h24 := ok.1
  have f0 := f.1
  unfold fX5_inLog
  rw [zob_v (by omega) f.2.1.1]
  simp only [Option.bind_some]
  rw [ccase_eq f c ok]
  simp only [Option.bind_some]
  by_cases hc : mnm a (mnc m)
  · obtain ⟨ec, lc⟩ := mnm_nI hc
    obtain ⟨d1, d2, d3, d4, d5, d6, d7, d8, d9, d10⟩ := c.2.1 _ lc
    rw [if_pos hc, if_neg (fun z => by cases z), zfI_v (by omega) d4, d9]
    simp only [Option.bind_some, b2_z]
    by_cases hd : mdr m a.toNatClampNeg = true
    · rw [if_neg (fun z => z hd), if_neg (fun z => by rw [hd] at z; exact absurd z.2 (by decide))]; rfl
    · rw [if_pos hd, if_pos ⟨hc, by simpa using hd⟩]; rfl
  · rw [if_neg hc, if_pos rfl, if_neg (fun z => hc z.1)]; rfl
theorem cS_case {h : Zh} {X : Nat} {ca : Nat → Nat} {m : Ml} (c : cLog h X ca m) {k : Nat} (hk : k < mnc m) : ∀ d, d < mnc m → d ≠ k → ca d ≠ ca k ∧ ca d + 1 ≠ ca k ∧ ca d ≠ ca k + 1 ∧ ca d + 1 ≠ ca k + 1 := by
  intro d hd hne
  have e1 := c.2.1 d hd
  have e2 := c.2.1 k hk
  have hn : ca d ≠ ca k := fun z => hne (c.2.2 d k hd hk z)
  refine ⟨hn, fun z => ?_, fun z => ?_, fun z => hn (by omega)⟩
  · have := e1.2.2.2.2.2.1; rw [z, e2.2.2.2.1] at this; exact absurd this (by decide)
  · have := e1.2.2.2.1; rw [z, e2.2.2.2.2.2.1] at this; exact absurd this (by decide)
/-- a set of cells that lies with the cases -/
def cSc (ca : Nat → Nat) (m : Ml) (v : Nat) : Prop := ∃ c, c < mnc m ∧ (v = ca c ∨ v = ca c + 1)
theorem ccut_eq {h : Zh} {X : Nat} {ca : Nat → Nat} {m : Ml} (f : cFix h X) (c : cLog h X ca m) (ok : mOK m) (a : Int32) : ∃ h', fX5_cut h (some X) a = some ((mCut m a).1, h') ∧ cLog h' X ca (mCut m a).2 ∧ zExt (cSc ca m) h h' ∧ zn h' = zn h ∧ zs h' = zs h ∧ zp h' = zp h := by
  have h24 := ok.1
  have f0 := f.1
  unfold fX5_cut mCut
  rw [zob_v (by omega) f.2.1.1]
  simp only [Option.bind_some]
  rw [clog_eq f c ok]
  simp only [Option.bind_some]
  by_cases hcd : mnm a (mnc m) ∧ mdr m a.toNatClampNeg = false
  · obtain ⟨ec, lc⟩ := mnm_nI hcd.1
    obtain ⟨d1, d2, d3, d4, d5, d6, d7, d8, d9, d10⟩ := c.2.1 _ lc
    have hl6 := ok.2.1 a.toNatClampNeg
    rw [if_pos hcd, if_neg (fun z => by cases z), zfI_v (by omega) d4, d8]
    simp only [Option.bind_some]
    by_cases h0 : mlen m a.toNatClampNeg = 0
    · rw [if_pos (by rw [h0]; rfl), if_neg (fun z => z.2.2 h0)]
      exact ⟨h, rfl, c, zExt.rf, rfl, rfl, rfl⟩
    · rw [if_neg (nI_ne0 (by omega) (by omega)), if_pos ⟨hcd.1, hcd.2, h0⟩, show (1 : Int32) = nI 1 from rfl, pk_sub (by omega), zgI_v (by omega) d4]
      simp only [Option.bind_some]
      rw [zfI_v (by rw [zn_sI]; omega) (by rw [zk_sI]; exact d4), zi_sI, u2_s]
      refine ⟨_, rfl, ⟨?_, fun k hk => ?_, c.2.2⟩, zExt.sI (Or.inl ⟨_, lc, Or.inl rfl⟩), rfl, rfl, rfl⟩
      · rw [zi_sI, u2_a (by omega)]; exact c.1
      · have hk' : k < mnc m := hk
        obtain ⟨e1, e2, e3, e4, e5, e6, e7, e8, e9, e10⟩ := c.2.1 k hk'
        refine ⟨e1, e2, e3, e4, e5, e6, e7, ?_, ?_, fun i w hi hw => ?_⟩
        · rw [zi_sI]
          show _ = nI (m1 _ _ _ k)
          unfold m1
          by_cases ed : k = a.toNatClampNeg
          · rw [if_pos ed, ed, u2_s]
          · rw [if_neg ed, u2_a (cS_case c lc k hk' ed).1]; exact e8
        · rw [zi_sI, u2_n (fun z => absurd z.2 (by decide))]; exact e9
        · have hi' : i < m1 (mlen m) a.toNatClampNeg (mlen m a.toNatClampNeg - 1) k := hi
          clear hi
          unfold m1 at hi'
          have hne : ca k + 1 ≠ ca a.toNatClampNeg := by
            by_cases ed : k = a.toNatClampNeg
            · rw [ed]; omega
            · exact (cS_case c lc k hk' ed).2.1
          rw [zi_sI, u2_a hne]
          refine e10 i w ?_ hw
          by_cases ed : k = a.toNatClampNeg
          · rw [if_pos ed] at hi'; rw [ed]; omega
          · rw [if_neg ed] at hi'; exact hi'
  · rw [if_neg hcd, if_pos rfl, if_neg (fun z => hcd ⟨z.1, z.2.1⟩)]
    exact ⟨h, rfl, c, zExt.rf, rfl, rfl, rfl⟩
theorem cdrop_eq {h : Zh} {X : Nat} {ca : Nat → Nat} {m : Ml} (f : cFix h X) (c : cLog h X ca m) (ok : mOK m) (a x : Int32) (hx : x = 0 ∨ x = 1) : ∃ h', fX5_drop h (some X) a x = some ((mDrop m a x).1, h') ∧ cLog h' X ca (mDrop m a x).2 ∧ zExt (cSc ca m) h h' ∧ zn h' = zn h ∧ zs h' = zs h ∧ zp h' = zp h := by
  have h24 := ok.1
  have f0 := f.1
  unfold fX5_drop mDrop
  rw [zob_v (by omega) f.2.1.1]
  simp only [Option.bind_some]
  rw [ccase_eq f c ok]
  simp only [Option.bind_some]
  by_cases hc : mnm a (mnc m)
  · obtain ⟨ec, lc⟩ := mnm_nI hc
    obtain ⟨d1, d2, d3, d4, d5, d6, d7, d8, d9, d10⟩ := c.2.1 _ lc
    rw [if_pos hc, if_neg (fun z => by cases z), zfI_v (by omega) d4, d9, if_pos hc]
    have e0 : (if b2 (mdr m a.toNatClampNeg = true) = 0 then some (0 : Int32) else some (1 : Int32)) = some (b2 (mdr m a.toNatClampNeg = true)) := by
      by_cases hd : mdr m a.toNatClampNeg = true
      · rw [b2_t hd]; rfl
      · rw [b2_f hd]; rfl
    simp only [Option.bind_some]
    rw [e0]
    simp only [Option.bind_some]
    have e1 : zbo x = some x := by rcases hx with rfl | rfl <;> rfl
    rw [e1]
    simp only [Option.bind_some]
    rw [zgI_v (by omega) d4]
    simp only [Option.bind_some]
    refine ⟨_, rfl, ⟨?_, fun k hk => ?_, c.2.2⟩, zExt.sI (Or.inl ⟨_, lc, Or.inl rfl⟩), rfl, rfl, rfl⟩
    · rw [zi_sI, u2_a (by omega)]; exact c.1
    · have hk' : k < mnc m := hk
      obtain ⟨e1, e2, e3, e4, e5, e6, e7, e8, e9, e10⟩ := c.2.1 k hk'
      refine ⟨e1, e2, e3, e4, e5, e6, e7, ?_, ?_, fun i w hi hw => ?_⟩
      · rw [zi_sI, u2_n (fun z => absurd z.2 (by decide))]; exact e8
      · rw [zi_sI]
        show _ = b2 (m1 _ _ _ k = true)
        unfold m1
        by_cases ed : k = a.toNatClampNeg
        · rw [ed, u2_s]
          simp only [if_true]
          rcases hx with rfl | rfl <;> rfl
        · rw [u2_a (cS_case c lc k hk' ed).1]
          simp only [if_neg ed]
          exact e9
      · have hne : ca k + 1 ≠ ca a.toNatClampNeg := by
          by_cases ed : k = a.toNatClampNeg
          · rw [ed]; omega
          · exact (cS_case c lc k hk' ed).2.1
        rw [zi_sI, u2_a hne]
        exact e10 i w hi hw
  · rw [if_neg hc, if_pos rfl, if_neg hc]
    exact ⟨h, rfl, c, zExt.rf, rfl, rfl, rfl⟩
theorem cput_eq {h : Zh} {v k : Nat} (l : k < 6) (d3 : v + 1 < zn h) (d4 : zk h v = 2) (d5 : zp h v 0 = some (v + 1)) (d6 : zk h (v + 1) = 100) (d7 : zl h (v + 1) = 24) (d8 : zi h v 1 = nI k) (n g b e : Int32) :
    fX0_put h (some v) n g b e = some (zsetI (zsetI (zsetI (zsetI (zsetI h (v + 1) (4 * k) n) (v + 1) (4 * k + 1) g) (v + 1) (4 * k + 2) b) (v + 1) (4 * k + 3) e) v 1 (nI (k + 1))) := by
  unfold fX0_put
  have e0 : ∀ (w : Nat) (z : Int32), z = nI w → nI k * (4 : Int32) + z = nI (4 * k + w) := by
    intro w z hz
    rw [hz, show (4 : Int32) = nI 4 from rfl, pk_mul, nI_add, Nat.mul_comm]
  rw [zfI_v (by omega) d4, d8]
  simp only [Option.bind_some]
  rw [if_pos (show nI k < 6 from nI_lt (b := 6) l (by omega)), zfP_v (by omega) d4, d5]
  simp only [Option.bind_some]
  rw [e0 0 0 rfl, zbI_v (n := 24) (by omega) d6 d7 (by omega) (by omega)]
  simp only [Option.bind_some]
  rw [zfP_v (by rw [zn_sI]; omega) (by rw [zk_sI]; exact d4), zp_sI, d5]
  simp only [Option.bind_some]
  rw [e0 1 1 rfl, zbI_v (n := 24) (by rw [zn_sI]; omega) (by rw [zk_sI]; exact d6) (by rw [zl_sI]; exact d7) (by omega) (by omega)]
  simp only [Option.bind_some]
  rw [zfP_v (by rw [zn_sI, zn_sI]; omega) (by rw [zk_sI, zk_sI]; exact d4), zp_sI, zp_sI, d5]
  simp only [Option.bind_some]
  rw [e0 2 2 rfl, zbI_v (n := 24) (by rw [zn_sI, zn_sI]; omega) (by rw [zk_sI, zk_sI]; exact d6) (by rw [zl_sI, zl_sI]; exact d7) (by omega) (by omega)]
  simp only [Option.bind_some]
  rw [zfP_v (by rw [zn_sI, zn_sI, zn_sI]; omega) (by rw [zk_sI, zk_sI, zk_sI]; exact d4), zp_sI, zp_sI, zp_sI, d5]
  simp only [Option.bind_some]
  rw [e0 3 3 rfl, zbI_v (n := 24) (by rw [zn_sI, zn_sI, zn_sI]; omega) (by rw [zk_sI, zk_sI, zk_sI]; exact d6) (by rw [zl_sI, zl_sI, zl_sI]; exact d7) (by omega) (by omega)]
  simp only [Option.bind_some]
  rw [zfI_v (by rw [zn_sI, zn_sI, zn_sI, zn_sI]; omega) (by rw [zk_sI, zk_sI, zk_sI, zk_sI]; exact d4)]
  simp only [Option.bind_some]
  rw [zgI_v (by rw [zn_sI, zn_sI, zn_sI, zn_sI]; omega) (by rw [zk_sI, zk_sI, zk_sI, zk_sI]; exact d4)]
  rw [zi_sI, zi_sI, zi_sI, zi_sI, u2_a (by omega), u2_a (by omega), u2_a (by omega), u2_a (by omega), d8, nI_1]
  rfl
theorem cadd_eq {h : Zh} {X : Nat} {ca : Nat → Nat} {m : Ml} (f : cFix h X) (c : cLog h X ca m) (ok : mOK m) (a n g b e : Int32) : ∃ h', fX5_add h (some X) a n g b e = some ((mAdd m a n g b e).1, h') ∧ cLog h' X ca (mAdd m a n g b e).2 ∧ zExt (cSc ca m) h h' ∧ zn h' = zn h ∧ zs h' = zs h ∧ zp h' = zp h := by
  have h24 := ok.1
  have f0 := f.1
  have hno : ∀ (p : Prop), ¬ p → (mnm a (mnc m) ∧ mdr m a.toNatClampNeg = false ∧ mnm n 12 ∧ mnm g 8 ∧ mtm b ∧ mtm e → p) → ∃ h', some ((-1 : Int32), h) = some ((mAdd m a n g b e).1, h') ∧ cLog h' X ca (mAdd m a n g b e).2 ∧ zExt (cSc ca m) h h' ∧ zn h' = zn h ∧ zs h' = zs h ∧ zp h' = zp h := by
    intro p hp hq
    unfold mAdd
    rw [if_neg (fun z => hp (hq z))]
    exact ⟨h, rfl, c, zExt.rf, rfl, rfl, rfl⟩
  unfold fX5_add
  rw [zob_v (by omega) f.2.1.1, cname_eq, chand_eq, ctime_eq, ctime_eq]
  simp only [Option.bind_some, b2_z]
  rw [clog_eq f c ok]
  simp only [Option.bind_some]
  by_cases hcd : mnm a (mnc m) ∧ mdr m a.toNatClampNeg = false
  · obtain ⟨ec, lc⟩ := mnm_nI hcd.1
    obtain ⟨d1, d2, d3, d4, d5, d6, d7, d8, d9, d10⟩ := c.2.1 _ lc
    have hl6 := ok.2.1 a.toNatClampNeg
    rw [if_pos hcd, if_neg (fun z => by cases z)]
    by_cases hn : mnm n 12
    · rw [if_neg (fun z => z hn)]
      by_cases hg : mnm g 8
      · rw [if_neg (fun z => z hg)]
        by_cases hb : mtm b
        · rw [if_neg (fun z => z hb)]
          by_cases he : mtm e
          · rw [if_neg (fun z => z he), zfI_v (by omega) d4, d8]
            simp only [Option.bind_some]
            unfold mAdd
            have hcond : mnm a (mnc m) ∧ mdr m a.toNatClampNeg = false ∧ mnm n 12 ∧ mnm g 8 ∧ mtm b ∧ mtm e := ⟨hcd.1, hcd.2, hn, hg, hb, he⟩
            rw [if_pos hcond]
            by_cases h6 : mlen m a.toNatClampNeg = 6
            · rw [if_pos h6, if_neg (by rw [h6]; decide)]
              exact ⟨h, rfl, c, zExt.rf, rfl, rfl, rfl⟩
            · rw [if_neg h6, if_pos (show nI _ < 6 from nI_lt (b := 6) (by omega) (by omega)), zob_v (by omega) d4]
              simp only [Option.bind_some]
              rw [cput_eq (by omega) d3 d4 d5 d6 d7 d8]
              simp only [Option.bind_some]
              rw [zfI_v (by rw [zn_sI, zn_sI, zn_sI, zn_sI, zn_sI]; omega) (by rw [zk_sI, zk_sI, zk_sI, zk_sI, zk_sI]; exact d4)]
              simp only [Option.bind_some]
              rw [zi_sI _ (ca a.toNatClampNeg) 1, u2_s]
              generalize hK : a.toNatClampNeg = K at *
              have S1 : cSc ca m (ca K) := ⟨K, lc, Or.inl rfl⟩
              have S2 : cSc ca m (ca K + 1) := ⟨K, lc, Or.inr rfl⟩
              refine ⟨_, rfl, ⟨?_, fun k hk => ?_, c.2.2⟩, ((((zExt.sI (Or.inl S2)).tr (zExt.sI (Or.inl S2))).tr (zExt.sI (Or.inl S2))).tr (zExt.sI (Or.inl S2))).tr (zExt.sI (Or.inl S1)), rfl, rfl, rfl⟩
              · rw [zi_sI, zi_sI, zi_sI, zi_sI, zi_sI, u2_a (by omega), u2_a (by omega), u2_a (by omega), u2_a (by omega), u2_a (by omega)]; exact c.1
              · have hk' : k < mnc m := hk
                obtain ⟨e1, e2, e3, e4, e5, e6, e7, e8, e9, e10⟩ := c.2.1 k hk'
                refine ⟨e1, e2, e3, e4, e5, e6, e7, ?_, ?_, fun i w hi hw => ?_⟩
                · show _ = nI (m1 _ _ _ k)
                  unfold m1
                  rw [zi_sI, zi_sI, zi_sI, zi_sI, zi_sI]
                  by_cases ed : k = K
                  · rw [if_pos ed, ed, u2_s]
                  · have q := cS_case c lc k hk' ed
                    rw [if_neg ed, u2_a q.1, u2_a q.2.2.1, u2_a q.2.2.1, u2_a q.2.2.1, u2_a q.2.2.1]; exact e8
                · rw [zi_sI, zi_sI, zi_sI, zi_sI, zi_sI, u2_n (fun z => absurd z.2 (by decide))]
                  have q : ca k ≠ ca K + 1 := by
                    by_cases ed : k = K
                    · rw [ed]; omega
                    · exact (cS_case c lc k hk' ed).2.2.1
                  rw [u2_a q, u2_a q, u2_a q, u2_a q]; exact e9
                · have hi' : i < m1 (mlen m) K (mlen m K + 1) k := hi
                  clear hi
                  have hD : mdt (mnc m, m1 (mlen m) K (mlen m K + 1), mdr m, m1 (mdt m) K (m1 (mdt m K) (mlen m K) (mFour n g b e))) k i w = m1 (mdt m) K (m1 (mdt m K) (mlen m K) (mFour n g b e)) k i w := rfl
                  rw [hD, zi_sI, zi_sI, zi_sI, zi_sI, zi_sI]
                  unfold m1 at hi' ⊢
                  by_cases ed : k = K
                  · subst ed
                    simp only [if_true] at hi' ⊢
                    rw [u2_a (by omega)]
                    by_cases e3 : i = mlen m k
                    · subst e3
                      simp only [if_true]
                      unfold mFour
                      rcases (show w = 0 ∨ w = 1 ∨ w = 2 ∨ w = 3 by omega) with rfl | rfl | rfl | rfl
                      · rw [u2_n (by omega), u2_n (by omega), u2_n (by omega)]; exact u2_s
                      · rw [u2_n (by omega), u2_n (by omega), u2_s]; rfl
                      · rw [u2_n (by omega), u2_s]; rfl
                      · rw [u2_s]; rfl
                    · simp only [if_neg e3]
                      rw [u2_n (by omega), u2_n (by omega), u2_n (by omega), u2_n (by omega)]
                      exact e10 i w (by omega) hw
                  · simp only [if_neg ed] at hi' ⊢
                    have q := cS_case c lc k hk' ed
                    rw [u2_a q.2.1, u2_a q.2.2.2, u2_a q.2.2.2, u2_a q.2.2.2, u2_a q.2.2.2]
                    exact e10 i w hi' hw
          · rw [if_pos he]; exact hno _ he (fun z => z.2.2.2.2.2)
        · rw [if_pos hb]; exact hno _ hb (fun z => z.2.2.2.2.1)
      · rw [if_pos hg]; exact hno _ hg (fun z => z.2.2.2.1)
    · rw [if_pos hn]; exact hno _ hn (fun z => z.2.2.1)
  · rw [if_neg hcd, if_pos rfl]; exact hno _ hcd (fun z => ⟨z.1, z.2.1⟩)
/-- what is kept: old places stay, further ones are new -/
def pNw (n : Nat) (pa pa' : Nat → Nat) (a b : Nat) : Prop := a ≤ b ∧ (∀ q, q < a → pa' q = pa q) ∧ ∀ q, a ≤ q → q < b → n ≤ pa' q
theorem pNw.rf {n : Nat} {pa : Nat → Nat} {a : Nat} : pNw n pa pa a a := ⟨Nat.le_refl _, fun _ _ => rfl, fun q h1 h2 => absurd h2 (by omega)⟩
theorem copen_eq {h : Zh} {X : Nat} {ca : Nat → Nat} {m : Ml} (f : cFix h X) (c : cLog h X ca m) (ok : mOK m) : ∃ h' ca', fX5_open h (some X) = some ((mOpen m).1, h') ∧ cLog h' X ca' (mOpen m).2 ∧ zExt (fun v => v = X ∨ v = X + 1) h h' ∧ zn h' ≤ zn h + 2 ∧ zs h' ≤ zs h + 27 ∧ zp h' X = zp h X ∧ (∀ k, k ≠ 1 → zi h' X k = zi h X k) ∧ pNw (zn h) ca ca' (mnc m) (mnc (mOpen m).2) := by
  have h24 := ok.1
  have f0 := f.1
  unfold fX5_open mOpen
  rw [zfI_v (by omega) f.2.1.1, c.1]
  simp only [Option.bind_some]
  by_cases h2 : mnc m = 24
  · rw [if_pos h2, if_neg (by rw [h2]; decide)]
    exact ⟨h, ca, rfl, c, zExt.rf, by omega, by omega, rfl, fun _ _ => rfl, pNw.rf⟩
  · rw [if_neg h2, if_pos (show nI _ < 24 from nI_lt (b := 24) (by omega) (by omega)), zfP_v (by omega) f.2.1.1, f.2.1.2.1]
    simp only [Option.bind_some]
    rw [zmO_v]
    simp only [Option.bind_some]
    generalize hn : zn h = N at *
    generalize hh1 : znew h (1 + 1) 0 3 = h1
    have n1 : zn h1 = N + 1 := by rw [← hh1, zn_nw, hn]
    have k1 : zk h1 N = 2 := by rw [← hh1, ← hn]; exact znew_k _ _ _ _
    rw [zob_v (by omega) k1]
    simp only [Option.bind_some]
    unfold fX0_init
    rw [zob_v (by omega) k1]
    simp only [Option.bind_some]
    rw [show (24 : Int32) = nI 24 from rfl, zmA_v (by omega)]
    simp only [Option.bind_some]
    generalize hh2 : znew h1 (100 + 0) 24 24 = h2'
    have n2 : zn h2' = N + 2 := by rw [← hh2, zn_nw, n1]
    have k2 : ∀ v, v ≠ N + 1 → zk h2' v = zk h1 v ∧ zl h2' v = zl h1 v ∧ zi h2' v = zi h1 v ∧ zp h2' v = zp h1 v := by
      intro v hv
      have hv' : v ≠ zn h1 := by rw [n1]; exact hv
      rw [← hh2]
      exact ⟨zk_nw hv', zl_nw hv', zi_nw hv', zp_nw hv'⟩
    have k3 : ∀ v, v ≠ N → zk h1 v = zk h v ∧ zl h1 v = zl h v ∧ zi h1 v = zi h v ∧ zp h1 v = zp h v := by
      intro v hv
      have hv' : v ≠ zn h := by rw [hn]; exact hv
      rw [← hh1]
      exact ⟨zk_nw hv', zl_nw hv', zi_nw hv', zp_nw hv'⟩
    have kA : zk h2' (N + 1) = 100 ∧ zl h2' (N + 1) = 24 := by
      rw [← n1, ← hh2]
      exact ⟨znew_k _ _ _ _, znew_l _ _ _ _⟩
    have kO : zi h2' N = (fun _ => 0) := by
      rw [(k2 N (by omega)).2.2.1, ← hh1, ← hn]
      exact znew_i _ _ _ _
    rw [zgP_v (by omega) (by rw [(k2 N (by omega)).1]; exact k1)]
    simp only [Option.bind_some]
    rw [n1]
    generalize hh3 : zsetP h2' N 0 (some (N + 1)) = h3
    have n3 : zn h3 = N + 2 := by rw [← hh3, zn_sP]; exact n2
    have q3 : zk h3 = zk h2' ∧ zl h3 = zl h2' ∧ zi h3 = zi h2' := by rw [← hh3]; exact ⟨rfl, rfl, rfl⟩
    have p3 : ∀ v, v ≠ N → zp h3 v = zp h2' v := by
      intro v hv
      funext j
      rw [← hh3, zp_sP, u2_a hv]
    have p3N : zp h3 N 0 = some (N + 1) := by rw [← hh3, zp_sP, u2_s]
    rw [zbP_v (n := 24) (by omega) (by rw [q3.1, (k2 _ (by omega)).1, (k3 _ (by omega)).1]; exact f.2.2.1.1) (by rw [q3.2.1, (k2 _ (by omega)).2.1, (k3 _ (by omega)).2.1]; exact f.2.2.1.2) (by omega) (by omega) (by omega) (by rw [q3.1, (k2 N (by omega)).1]; exact k1)]
    simp only [Option.bind_some]
    generalize hh4 : zsetP h3 (X + 1) (mnc m) (some N) = h4
    have n4 : zn h4 = N + 2 := by rw [← hh4, zn_sP]; exact n3
    have q4 : zk h4 = zk h3 ∧ zl h4 = zl h3 ∧ zi h4 = zi h3 := by rw [← hh4]; exact ⟨rfl, rfl, rfl⟩
    have p4 : ∀ v k, ¬ (v = X + 1 ∧ k = mnc m) → zp h4 v k = zp h3 v k := by
      intro v k hv
      rw [← hh4, zp_sP, u2_n hv]
    have kX : zk h4 X = 7 := by rw [q4.1, q3.1, (k2 _ (by omega)).1, (k3 _ (by omega)).1]; exact f.2.1.1
    rw [zfI_v (by omega) kX, q4.2.2, q3.2.2, (k2 X (by omega)).2.2.1, (k3 X (by omega)).2.2.1, c.1]
    simp only [Option.bind_some]
    rw [zgI_v (by omega) kX, nI_1]
    simp only [Option.bind_some]
    -- far cells
    have far : ∀ v, v < N → zk h4 v = zk h v ∧ zl h4 v = zl h v ∧ zi h4 v = zi h v ∧ (v ≠ X + 1 → zp h4 v = zp h v) := by
      intro v hv
      refine ⟨by rw [q4.1, q3.1, (k2 _ (by omega)).1, (k3 _ (by omega)).1], by rw [q4.2.1, q3.2.1, (k2 _ (by omega)).2.1, (k3 _ (by omega)).2.1], by rw [q4.2.2, q3.2.2, (k2 _ (by omega)).2.2.1, (k3 _ (by omega)).2.2.1], fun hx => ?_⟩
      funext j
      rw [p4 v j (fun z => hx z.1), p3 v (by omega), (k2 _ (by omega)).2.2.2, (k3 _ (by omega)).2.2.2]
    have farX : ∀ k, k ≠ mnc m → zp h4 (X + 1) k = zp h (X + 1) k := by
      intro k hk
      rw [p4 _ k (fun z => hk z.2), p3 _ (by omega), (k2 _ (by omega)).2.2.2, (k3 _ (by omega)).2.2.2]
    have slots : zs h4 = zs h + 27 := by
      rw [← hh4, zs_sP, ← hh3, zs_sP, ← hh2, zs_nw, ← hh1, zs_nw]
    have hold : ∀ k, k < mnc m → m1 ca (mnc m) N k = ca k := fun k hk => by unfold m1; rw [if_neg (by omega)]
    have hnew : m1 ca (mnc m) N (mnc m) = N := by unfold m1; rw [if_pos rfl]
    refine ⟨_, m1 ca (mnc m) N, rfl, ⟨by rw [zi_sI, u2_s]; rfl, fun k hk => ?_, fun k d hk hd e => ?_⟩, ⟨⟨?_, ?_⟩, fun v hv => ?_⟩, ?_, ?_, ?_, fun k hk => ?_, Nat.le_succ _, hold, fun q h1 h2 => ?_⟩
    · have hk' : k < mnc m + 1 := hk
      rw [zp_sI, zn_sI, zk_sI, zl_sI, zi_sI, n4]
      by_cases ek : k = mnc m
      · subst ek
        rw [hnew]
        have o3 := ok.2.2.1 (mnc m) (Nat.le_refl _)
        refine ⟨by rw [← hh4, zp_sP, u2_s], by omega, by omega, by rw [q4.1, q3.1, (k2 N (by omega)).1]; exact k1, by rw [p4 N 0 (by omega)]; exact p3N, by rw [q4.1, q3.1]; exact kA.1, by rw [q4.2.1, q3.2.1]; exact kA.2, ?_, ?_, fun i w hi hw => ?_⟩
        · rw [u2_a (by omega), q4.2.2, q3.2.2, kO]; show 0 = nI (mlen m (mnc m)); rw [o3.1]; rfl
        · rw [u2_a (by omega), q4.2.2, q3.2.2, kO]; show 0 = b2 (mdr m (mnc m) = true); rw [o3.2]; rfl
        · have hi' : i < mlen m (mnc m) := hi
          rw [o3.1] at hi'
          exact absurd hi' (Nat.not_lt_zero i)
      · have hk2 : k < mnc m := by omega
        obtain ⟨e1, e2, e3, e4, e5, e6, e7, e8, e9, e10⟩ := c.2.1 k hk2
        rw [hn] at e3
        rw [hold k hk2]
        obtain ⟨g1, g2, g3, g4⟩ := far (ca k) (by omega)
        obtain ⟨j1, j2, j3, j4⟩ := far (ca k + 1) (by omega)
        refine ⟨(farX k ek).trans e1, e2, by omega, g1.trans e4, by rw [g4 (by omega)]; exact e5, j1.trans e6, j2.trans e7, by rw [u2_a (by omega), g3]; exact e8, by rw [u2_a (by omega), g3]; exact e9, fun i w hi hw => by rw [u2_a (by omega), j3]; exact e10 i w hi hw⟩
    · have hk' : k < mnc m + 1 := hk
      have hd' : d < mnc m + 1 := hd
      by_cases ek : k = mnc m
      · by_cases ed : d = mnc m
        · rw [ek, ed]
        · rw [ek, hnew, hold d (by omega)] at e
          have := (c.2.1 d (by omega)).2.2.1
          omega
      · rw [hold k (by omega)] at e
        by_cases ed : d = mnc m
        · rw [ed, hnew] at e
          have := (c.2.1 k (by omega)).2.2.1
          omega
        · rw [hold d (by omega)] at e
          exact c.2.2 k d (by omega) (by omega) e
    · rw [zn_sI, n4]; omega
    · rw [zs_sI, slots]; omega
    · obtain ⟨g1, g2, g3, g4⟩ := far v (by omega)
      refine ⟨g1, g2, fun hS => ⟨?_, ?_⟩⟩
      · funext j
        rw [zi_sI, u2_a (fun z => hS (Or.inl z)), g3]
      · rw [zp_sI]; exact g4 (fun z => hS (Or.inr z))
    · rw [zn_sI, n4]; omega
    · rw [zs_sI, slots]; omega
    · rw [zp_sI]; exact (far X (by omega)).2.2.2 (by omega)
    · rw [zi_sI, u2_n (fun z => hk z.2), (far X (by omega)).2.2.1]
    · have h2' : q < mnc m + 1 := h2
      have eq : q = mnc m := by omega
      rw [eq, hnew]
      omega
