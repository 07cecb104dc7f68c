/-! times: sum, count, longest, silent -/
abbrev Tm : Type := Int32 × Int32 × Int32 × Int32
def mT0 : Tm := (0, 0, -3, 0)
def mTake (t : Tm) (a b : Int32) : Tm := if a = -1 ∨ b = -1 then (t.1, t.2.1, t.2.2.1, t.2.2.2 + 1) else (t.1 + (b - a), t.2.1 + 1, (if t.2.1 = 0 then b - a else if b - a ≤ t.2.2.1 then t.2.2.1 else b - a), t.2.2.2)
def mTell (t : Tm) (w : Int32) : Int32 := if w = 0 then t.1 else if w = 1 then t.2.1 else if w = 2 then t.2.2.1 else t.2.2.2
noncomputable def mSum (P : Nat → Prop) (B E : Nat → Int32) : Nat → Tm := mScan (fun t k => @ite _ (P k) (Classical.propDecidable _) (mTake t (B k) (E k)) t) mT0
theorem mSum_t {P : Nat → Prop} {B E : Nat → Int32} {k : Nat} (h : P k) : mSum P B E (k + 1) = mTake (mSum P B E k) (B k) (E k) := by
  show @ite _ (P k) (Classical.propDecidable _) _ _ = _
  rw [if_pos h]; rfl
theorem mSum_f {P : Nat → Prop} {B E : Nat → Int32} {k : Nat} (h : ¬ P k) : mSum P B E (k + 1) = mSum P B E k := by
  show @ite _ (P k) (Classical.propDecidable _) _ _ = _
  rw [if_neg h]; rfl
theorem mSum_skip {P : Nat → Prop} {B E : Nat → Int32} {a : Nat} (d : Nat) (h : ∀ k, a ≤ k → k < a + d → ¬ P k) : mSum P B E (a + d) = mSum P B E a :=
  mScan_skip d (fun k s h1 h2 => if_neg (h k h1 h2))
/-- the reference: what a call changes -/
def rOnly (S : Nat → Nat → Prop) (s s' : Zr) : Prop := ∀ a k, ¬ S a k → s' a k = s a k
theorem rOnly.rf {S : Nat → Nat → Prop} {s : Zr} : rOnly S s s := fun _ _ _ => rfl
theorem rOnly.tr {S : Nat → Nat → Prop} {s s1 s2 : Zr} (a : rOnly S s s1) (b : rOnly S s1 s2) : rOnly S s s2 := fun x k h => (b x k h).trans (a x k h)
theorem rOnly.mono {S S' : Nat → Nat → Prop} {s s' : Zr} (a : rOnly S s s') (h : ∀ x k, S x k → S' x k) : rOnly S' s s' := fun x k n => a x k (fun z => n (h x k z))
theorem rOnly.u {S : Nat → Nat → Prop} {s : Zr} {a k : Nat} {x : Int32} (h : S a k) : rOnly S s (u2 s a k x) := fun b j n => u2_n (fun z => n (by rw [z.1, z.2]; exact h))
abbrev sTimes (a k : Nat) : Prop := a = 0 ∧ 59 ≤ k ∧ k ≤ 62
theorem rLog.only {S : Nat → Nat → Prop} {s s' : Zr} {m : Ml} (h : rLog s m) (e : rOnly S s s') (h0 : ¬ S 0 0) (hS : ∀ a k, 1 ≤ a → a ≤ 6 → ¬ S a k) : rLog s' m := by
  refine ⟨(e 0 0 h0).trans h.1, fun c hc => ⟨(e 1 c (hS 1 c (by omega) (by omega))).trans (h.2.1 c hc).1, (e 2 c (hS 2 c (by omega) (by omega))).trans (h.2.1 c hc).2⟩, fun c i hc hi w hw => ?_⟩
  exact (e (3 + w) _ (hS _ _ (by omega) (by omega))).trans (h.2.2 c i hc hi w hw)
def rT (s : Zr) (t : Tm) : Prop := s 0 59 = t.1 ∧ s 0 60 = t.2.1 ∧ s 0 61 = t.2.2.1 ∧ s 0 62 = t.2.2.2
theorem mtm_neg {x : Int32} (h : mtm x) : x < 0 ↔ x = -1 := by
  rw [i0_lt]
  have e : (-1 : Int32).toInt = -1 := by decide
  constructor
  · intro z
    have h1 := h.1
    have e9 : x = -1 := ieq (n := -1) (by decide) (by omega)
    exact e9
  · intro z; rw [z, e]; omega
theorem rclear_eq (s : Zr) : ∃ s', fX6_clearTimes s = some s' ∧ rT s' mT0 ∧ rOnly sTimes s s' := by
  refine ⟨u2 (u2 (u2 (u2 s 0 59 0) 0 60 0) 0 61 (-3)) 0 62 0, rfl, ⟨?_, ?_, ?_, ?_⟩, ?_⟩
  · rw [u2_n (by omega), u2_n (by omega), u2_n (by omega), u2_s]; rfl
  · rw [u2_n (by omega), u2_n (by omega), u2_s]; rfl
  · rw [u2_n (by omega), u2_s]; rfl
  · rw [u2_s]; rfl
  · exact (((rOnly.u ⟨rfl, by omega, by omega⟩).tr (rOnly.u ⟨rfl, by omega, by omega⟩)).tr (rOnly.u ⟨rfl, by omega, by omega⟩)).tr (rOnly.u ⟨rfl, by omega, by omega⟩)
theorem rtime_eq {s : Zr} {t : Tm} {a b : Int32} (hT : rT s t) (ha : mtm a) (hb : mtm b) : ∃ s', fX6_time s a b = some s' ∧ rT s' (mTake t a b) ∧ rOnly sTimes s s' := by
  obtain ⟨t1, t2, t3, t4⟩ := hT
  have silent : ∀ (hab : a = -1 ∨ b = -1), ∃ s', ((some (u2 s 0 62 ((s 0 62) + (1 : Int32)))).bind fun s1 => some s1) = some s' ∧ rT s' (mTake t a b) ∧ rOnly sTimes s s' := by
    intro hab
    refine ⟨_, rfl, ?_, rOnly.u ⟨rfl, by omega, by omega⟩⟩
    unfold mTake
    rw [if_pos hab]
    exact ⟨by rw [u2_n (by omega)]; exact t1, by rw [u2_n (by omega)]; exact t2, by rw [u2_n (by omega)]; exact t3, by rw [u2_s, t4]⟩
  unfold fX6_time
  by_cases h1 : a < 0
  · rw [if_pos h1]
    exact silent (Or.inl ((mtm_neg ha).mp h1))
  · rw [if_neg h1]
    by_cases h2 : b < 0
    · rw [if_neg (fun z : (0 : Int32) ≤ b => by rw [i0_le] at z; rw [i0_lt] at h2; omega)]
      exact silent (Or.inr ((mtm_neg hb).mp h2))
    · rw [if_pos (show (0 : Int32) ≤ b by rw [i0_le]; rw [i0_lt] at h2; omega)]
      have hab : ¬ (a = -1 ∨ b = -1) := fun z => z.elim (fun y => h1 ((mtm_neg ha).mpr y)) (fun y => h2 ((mtm_neg hb).mpr y))
      have fin : ∀ x : Int32, x = (mTake t a b).2.2.1 → ∃ s', ((some x).bind fun v2 => (some (u2 s 0 61 v2)).bind fun s4 => (some (u2 s4 0 60 ((s4 0 60) + (1 : Int32)))).bind fun s5 => (some (u2 s5 0 59 ((s5 0 59) + (b - a)))).bind fun s6 => some s6) = some s' ∧ rT s' (mTake t a b) ∧ rOnly sTimes s s' := by
        intro x hx
        refine ⟨_, rfl, ⟨?_, ?_, ?_, ?_⟩, ((rOnly.u ⟨rfl, by omega, by omega⟩).tr (rOnly.u ⟨rfl, by omega, by omega⟩)).tr (rOnly.u ⟨rfl, by omega, by omega⟩)⟩
        · rw [u2_s, u2_n (by omega), u2_n (by omega), t1]
          unfold mTake; rw [if_neg hab]
        · rw [u2_n (by omega), u2_s, u2_n (by omega), t2]
          unfold mTake; rw [if_neg hab]
        · rw [u2_n (by omega), u2_n (by omega), u2_s, hx]
        · rw [u2_n (by omega), u2_n (by omega), u2_n (by omega), t4]
          unfold mTake; rw [if_neg hab]
      rw [t2, t3]
      have e3 : (mTake t a b).2.2.1 = if t.2.1 = 0 then b - a else if b - a ≤ t.2.2.1 then t.2.2.1 else b - a := by unfold mTake; rw [if_neg hab]
      by_cases q1 : t.2.1 = 0
      · rw [if_pos q1]
        exact fin _ (by rw [e3, if_pos q1])
      · rw [if_neg q1]
        by_cases q2 : b - a ≤ t.2.2.1
        · rw [if_pos q2]; exact fin _ (by rw [e3, if_neg q1, if_pos q2])
        · rw [if_neg q2]; exact fin _ (by rw [e3, if_neg q1, if_neg q2])
theorem rtell_eq {s : Zr} {t : Tm} (hT : rT s t) (w : Int32) : fX6_timeTold s w = some (mTell t w) := by
  obtain ⟨t1, t2, t3, t4⟩ := hT
  unfold fX6_timeTold mTell
  rw [t1, t2, t3, t4]
  by_cases h0 : w = 0
  · rw [if_pos h0, if_pos h0]; rfl
  rw [if_neg h0, if_neg h0]
  by_cases h1 : w = 1
  · rw [if_pos h1, if_pos h1]; rfl
  rw [if_neg h1, if_neg h1]
  by_cases h2 : w = 2
  · rw [if_pos h2, if_pos h2]; rfl
  rw [if_neg h2, if_neg h2]; rfl
/-- a loop that keeps something of the reference's state -/
theorem rsloop {f : Int32 × Zr → Option ((Int32 × Zr) ⊕ Zr)} (J : Nat → Zr → Prop) (N : Nat) {s0 : Zr} (hf : ∀ k s, k < N → J k s → ∃ s', f (nI k, s) = some (.inl (nI (k + 1), s')) ∧ J (k + 1) s') (hN : ∀ s, f (nI N, s) = some (.inr s)) (hN' : N < 100000) (h0 : J 0 s0) : ∃ s', zloop f zFU ((0 : Int32), s0) = some s' ∧ J N s' := by
  refine zloop_inv (fun n s => ∃ k, n = N - k ∧ k ≤ N ∧ s.1 = nI k ∧ J k s.2) (J N) ?_ N _ _ ⟨0, rfl, by omega, rfl, h0⟩ (by rw [zFU_v]; omega)
  rintro n ⟨w, s⟩ ⟨k, hn, hk, rfl, hJ⟩
  by_cases e : k = N
  · subst e
    exact Or.inr ⟨s, hN s, hJ⟩
  · obtain ⟨s', e1, e2⟩ := hf k s (by omega) hJ
    exact Or.inl ⟨_, N - (k + 1), e1, by omega, k + 1, rfl, by omega, rfl, e2⟩
abbrev mWorkP (m : Ml) (a : Int32) (k : Nat) : Prop := mIn m k ∧ mdt m (k / 6) (k % 6) 0 = a
noncomputable def mWorkT (m : Ml) (a : Int32) : Nat → Tm := mSum (mWorkP m a) (fun k => mdt m (k / 6) (k % 6) 2) (fun k => mdt m (k / 6) (k % 6) 3)
noncomputable def mLagT (m : Ml) (a b : Int32) : Nat → Tm := mSum (mPair m 0 a b) (fun k => mdt m (k / 6) (k % 6 - 1) 3) (fun k => mdt m (k / 6) (k % 6) 2)
noncomputable def mWork (m : Ml) (a w : Int32) : Int32 := @ite _ (mnm a 12 ∧ mnm w 4) (Classical.propDecidable _) (mTell (mWorkT m a 144) w) (-1)
noncomputable def mLag (m : Ml) (a b w : Int32) : Int32 := @ite _ ((mnm a 12 ∧ mnm b 12) ∧ mnm w 4) (Classical.propDecidable _) (mTell (mLagT m a b 144) w) (-1)
theorem fwhat_eq (w : Int32) : fX6_in w.toInt64 (0 : Int64) (3 : Int64) = some (b2 (mnm w 4)) := by
  rw [fin_eq]
  refine congrArg some (b2_c ?_)
  rw [i2l0, show (3 : Int64) = (3 : Int32).toInt64 from rfl, i2l_le, i2l_le]
  show (0 : Int) ≤ w.toInt ∧ w.toInt ≤ 3 ↔ (0 : Int) ≤ w.toInt ∧ w.toInt < 4
  omega
theorem rdeed_v {s : Zr} {m : Ml} (h : rLog s m) (ok : mOK m) {k : Nat} (hk : k < 144) (hin : mIn m k) : s 3 k = mdt m (k / 6) (k % 6) 0 ∧ s 4 k = mdt m (k / 6) (k % 6) 1 ∧ s 5 k = mdt m (k / 6) (k % 6) 2 ∧ s 6 k = mdt m (k / 6) (k % 6) 3 := by
  have hc24 : k / 6 < 24 := by omega
  have q := h.2.2 (k / 6) (k % 6) hc24 hin.2.2
  have e : 6 * (k / 6) + k % 6 = k := by omega
  rw [e] at q
  exact ⟨q 0 (by omega), q 1 (by omega), q 2 (by omega), q 3 (by omega)⟩
theorem rdeed_p {s : Zr} {m : Ml} (h : rLog s m) (ok : mOK m) {k : Nat} (hk : k < 144) (hin : mIn m k) (h0 : 0 < k % 6) : s 3 (k - 1) = mdt m (k / 6) (k % 6 - 1) 0 ∧ s 5 (k - 1) = mdt m (k / 6) (k % 6 - 1) 2 ∧ s 6 (k - 1) = mdt m (k / 6) (k % 6 - 1) 3 := by
  have hc24 : k / 6 < 24 := by omega
  have q := h.2.2 (k / 6) (k % 6 - 1) hc24 (by have := hin.2.2; omega)
  have e : 6 * (k / 6) + (k % 6 - 1) = k - 1 := by omega
  rw [e] at q
  exact ⟨q 0 (by omega), q 2 (by omega), q 3 (by omega)⟩
theorem rwork_eq {s : Zr} {m : Ml} (h : rLog s m) (ok : mOK m) (a w : Int32) : ∃ s', fX6_work s a w = some (mWork m a w, s') ∧ rOnly sTimes s s' := by
  unfold fX6_work mWork
  rw [fname_eq, fwhat_eq, Option.bind_some, Option.bind_some]
  by_cases h1 : mnm a 12
  · rw [if_neg (fun z => b2_z.mp z h1)]
    by_cases h2 : mnm w 4
    · have h12 : mnm a 12 ∧ mnm w 4 := ⟨h1, h2⟩
      rw [if_neg (fun z => b2_z.mp z h2), if_pos h12]
      obtain ⟨s1, e1, t1, o1⟩ := rclear_eq s
      rw [e1, Option.bind_some]
      have q := rsloop (f := fun ((v4, s5) : Int32 × Zr) =>
        (if (144 : Int32) ≤ v4 then
          some (.inr s5)
        else
          (fX6_isIn s5 v4 (0 : Int32)).bind fun x9 =>
          (if x9 = 0 then
            some s5
          else
            (rdI s5 3 v4).bind fun x12 =>
            if x12 = a then
              (rdI s5 5 v4).bind fun x13 =>
              (rdI s5 6 v4).bind fun x14 =>
              (fX6_time s5 x13 x14).bind fun s15 =>
              some s15
            else
              some s5).bind fun (s10 : Zr) =>
          some (.inl (v4 + (1 : Int32), s10)) : Option ((Int32 × Zr) ⊕ Zr))) (fun k s' => rOnly sTimes s s' ∧ rT s' (mWorkT m a k)) 144 (s0 := s1) ?_ ?_ (by omega) ⟨o1, t1⟩
      · obtain ⟨s2, e2, o2, t2⟩ := q
        refine ⟨s2, ?_, o2⟩
        refine (congrArg (fun o : Option Zr => o.bind fun s6 => (fX6_timeTold s6 w).bind fun x16 => some (x16, s6)) e2).trans ?_
        rw [Option.bind_some, rtell_eq t2]; rfl
      · intro k s' hk hJ
        obtain ⟨oJ, tJ⟩ := hJ
        have lg : rLog s' m := h.only oJ (by omega) (fun a k _ _ z => by have := z.1; omega)
        dsimp only
        rw [if_neg (show ¬ (144 : Int32) ≤ nI k from nI_nle' (b := 144) (by omega) hk), risIn0_eq lg ok hk, Option.bind_some, nI_1]
        by_cases p : mIn m k
        · rw [if_neg (fun z => b2_z.mp z p), rd3 (by omega), rd5 (by omega), rd6 (by omega)]
          obtain ⟨v3, -, v5, v6⟩ := rdeed_v lg ok hk p
          rw [v3, v5, v6]
          simp only [Option.bind_some]
          by_cases d1 : mdt m (k / 6) (k % 6) 0 = a
          · rw [if_pos d1]
            have ht := ok.2.2.2 (k / 6) (k % 6) p.2.2
            obtain ⟨s2, e2, t2, o2⟩ := rtime_eq tJ ht.2.2.1 ht.2.2.2
            rw [e2]
            refine ⟨s2, rfl, oJ.tr o2, ?_⟩
            show rT s2 (mSum _ _ _ (k + 1))
            rw [mSum_t (show mWorkP m a k from ⟨p, d1⟩)]
            exact t2
          · rw [if_neg d1]
            refine ⟨s', rfl, oJ, ?_⟩
            show rT s' (mSum _ _ _ (k + 1))
            rw [mSum_f (fun z : mWorkP m a k => d1 z.2)]
            exact tJ
        · rw [if_pos (b2_z.mpr p)]
          refine ⟨s', rfl, oJ, ?_⟩
          show rT s' (mSum _ _ _ (k + 1))
          rw [mSum_f (fun z : mWorkP m a k => p z.1)]
          exact tJ
      · intro s'
        dsimp only
        rw [if_pos (show (144 : Int32) ≤ nI 144 from nI_le (Nat.le_refl 144) (by omega))]
    · rw [if_pos (b2_z.mpr h2), if_neg (fun z : mnm a 12 ∧ mnm w 4 => h2 z.2)]
      exact ⟨s, rfl, rOnly.rf⟩
  · rw [if_pos (b2_z.mpr h1), if_neg (fun z : mnm a 12 ∧ mnm w 4 => h1 z.1)]
    exact ⟨s, rfl, rOnly.rf⟩
theorem rwaits_eq {s : Zr} {m : Ml} (h : rLog s m) (ok : mOK m) (a b : Int32) : ∃ s', fX6_layWaits s a b = some s' ∧ rT s' (mLagT m a b 144) ∧ rOnly sTimes s s' := by
  unfold fX6_layWaits
  obtain ⟨s1, e1, t1, o1⟩ := rclear_eq s
  rw [e1, Option.bind_some]
  have q := rsloop (f := fun ((v2, s3) : Int32 × Zr) =>
    (if (144 : Int32) ≤ v2 then
      some (.inr s3)
    else
      (fX6_isIn s3 v2 (1 : Int32)).bind fun x7 =>
      (if x7 = 0 then
        some s3
      else
        (rdI s3 3 v2).bind fun x10 =>
        if x10 = a then
          (rdI s3 3 (v2 - (1 : Int32))).bind fun x11 =>
          if x11 = b then
            (rdI s3 6 (v2 - (1 : Int32))).bind fun x12 =>
            (rdI s3 5 v2).bind fun x13 =>
            (fX6_time s3 x12 x13).bind fun s14 =>
            some s14
          else
            some s3
        else
          some s3).bind fun (s8 : Zr) =>
      some (.inl (v2 + (1 : Int32), s8)) : Option ((Int32 × Zr) ⊕ Zr))) (fun k s' => rOnly sTimes s s' ∧ rT s' (mLagT m a b k)) 144 (s0 := s1) ?_ ?_ (by omega) ⟨o1, t1⟩
  · obtain ⟨s2, e2, o2, t2⟩ := q
    exact ⟨s2, congrArg (fun o : Option Zr => o.bind fun s4 => some s4) e2, t2, o2⟩
  · intro k s' hk hJ
    obtain ⟨oJ, tJ⟩ := hJ
    have lg : rLog s' m := h.only oJ (by omega) (fun a k _ _ z => by have := z.1; omega)
    dsimp only
    rw [if_neg (show ¬ (144 : Int32) ≤ nI k from nI_nle' (b := 144) (by omega) hk), risIn_eq lg ok hk, Option.bind_some, nI_1]
    have no : ¬ mPair m 0 a b k → ∃ s'', ((some s').bind fun s8 => (some (.inl (nI (k + 1), s8)) : Option ((Int32 × Zr) ⊕ Zr))) = some (.inl (nI (k + 1), s'')) ∧ rOnly sTimes s s'' ∧ rT s'' (mLagT m a b (k + 1)) := by
      intro z
      refine ⟨s', rfl, oJ, ?_⟩
      show rT s' (mSum _ _ _ (k + 1))
      rw [mSum_f z]
      exact tJ
    by_cases p : mIn m k ∧ ((1 : Int32) = 0 ∨ 0 < k % 6)
    · have c6 : 0 < k % 6 := p.2.elim (fun z => absurd z (by decide)) id
      rw [if_neg (fun z => b2_z.mp z p), show (1 : Int32) = nI 1 from rfl, pk_sub (by omega), rd3 (by omega), rd5 (by omega), rd6 (by omega), rd3 (by omega)]
      obtain ⟨v3, -, v5, v6⟩ := rdeed_v lg ok hk p.1
      obtain ⟨w3, w5, w6⟩ := rdeed_p lg ok hk p.1 c6
      rw [v3, v5, w3, w6]
      simp only [Option.bind_some]
      by_cases d1 : mdt m (k / 6) (k % 6) 0 = a
      · rw [if_pos d1]
        by_cases d2 : mdt m (k / 6) (k % 6 - 1) 0 = b
        · rw [if_pos d2]
          have ht := ok.2.2.2 (k / 6) (k % 6) p.1.2.2
          have ht' := ok.2.2.2 (k / 6) (k % 6 - 1) (by have := p.1.2.2; omega)
          obtain ⟨s2, e2, t2, o2⟩ := rtime_eq tJ ht'.2.2.2 ht.2.2.1
          rw [e2]
          refine ⟨s2, rfl, oJ.tr o2, ?_⟩
          show rT s2 (mSum _ _ _ (k + 1))
          rw [mSum_t (show mPair m 0 a b k from ⟨p.1, c6, d1, d2⟩)]
          exact t2
        · rw [if_neg d2]; exact no (fun z => d2 z.2.2.2)
      · rw [if_neg d1]; exact no (fun z => d1 z.2.2.1)
    · rw [if_pos (b2_z.mpr p)]; exact no (fun z => p ⟨z.1, Or.inr z.2.1⟩)
  · intro s'
    dsimp only
    rw [if_pos (show (144 : Int32) ≤ nI 144 from nI_le (Nat.le_refl 144) (by omega))]
theorem rlag_eq {s : Zr} {m : Ml} (h : rLog s m) (ok : mOK m) (a b w : Int32) : ∃ s', fX6_lag s a b w = some (mLag m a b w, s') ∧ rOnly sTimes s s' := by
  unfold fX6_lag mLag
  rw [fname_eq, fname_eq, fwhat_eq, Option.bind_some, Option.bind_some, Option.bind_some]
  by_cases h1 : mnm a 12
  · rw [if_neg (fun z => b2_z.mp z h1)]
    by_cases h2 : mnm b 12
    · rw [if_neg (fun z => b2_z.mp z h2)]
      by_cases h3 : mnm w 4
      · have h123 : (mnm a 12 ∧ mnm b 12) ∧ mnm w 4 := ⟨⟨h1, h2⟩, h3⟩
        rw [if_neg (fun z => b2_z.mp z h3), if_pos h123]
        obtain ⟨s1, e1, t1, o1⟩ := rwaits_eq h ok a b
        rw [e1, Option.bind_some, rtell_eq t1]
        exact ⟨s1, rfl, o1⟩
      · rw [if_pos (b2_z.mpr h3), if_neg (fun z : (mnm a 12 ∧ mnm b 12) ∧ mnm w 4 => h3 z.2)]
        exact ⟨s, rfl, rOnly.rf⟩
    · rw [if_pos (b2_z.mpr h2), if_neg (fun z : (mnm a 12 ∧ mnm b 12) ∧ mnm w 4 => h2 z.1.2)]
      exact ⟨s, rfl, rOnly.rf⟩
  · rw [if_pos (b2_z.mpr h1), if_neg (fun z : (mnm a 12 ∧ mnm b 12) ∧ mnm w 4 => h1 z.1.1)]
    exact ⟨s, rfl, rOnly.rf⟩
