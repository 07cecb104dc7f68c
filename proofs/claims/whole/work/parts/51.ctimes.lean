/-! times on the class's side -/
abbrev sNo (_ : Nat) : Prop := False
theorem zExt.up {S : Nat → Prop} {h h1 : Zh} {v k : Nat} {x : Int32} (e : zExt S h h1) (hv : S v ∨ zn h ≤ v) : zExt S h (zsetI h1 v k x) := by
  refine ⟨e.1, fun w hw => ⟨(e.2 w hw).1, (e.2 w hw).2.1, fun hn => ⟨?_, ((e.2 w hw).2.2 hn).2⟩⟩⟩
  have hne : w ≠ v := by rintro rfl; exact hv.elim hn (fun q => by omega)
  refine Eq.trans ?_ ((e.2 w hw).2.2 hn).1
  funext j
  rw [zi_sI, u2_a hne]
theorem ext0 {h h' : Zh} {X : Nat} {ca : Nat → Nat} {m : Ml} (e : zExt sNo h h') (fx : cFix h X) (c : cLog h X ca m) : cFix h' X ∧ cLog h' X ca m := by
  have f0 := fx.1
  have q0 := ((e.2 X (by omega)).2.2 id).1
  have q1 := ((e.2 (X + 1) (by omega)).2.2 id).2
  exact ⟨cFix.ext e fx (fun _ _ z => z.elim), cLog.ext e f0 c (by rw [q0]) (fun k => by rw [q1]) (fun _ _ => ⟨id, id⟩)⟩
def tT (h : Zh) (v : Nat) (t : Tm) : Prop := zi h v 0 = t.1 ∧ zi h v 1 = t.2.1 ∧ zi h v 2 = t.2.2.1 ∧ zi h v 3 = t.2.2.2
/-- h1 is h with one object more, at v = zn h, that keeps the times t -/
def cTs (h h1 : Zh) (t : Tm) : Prop := zExt sNo h h1 ∧ zn h1 = zn h + 1 ∧ zs h1 = zs h + 4 ∧ zk h1 (zn h) = 6 ∧ tT h1 (zn h) t
theorem cTs.up {h h1 : Zh} {t t' : Tm} (c : cTs h h1 t) {k : Nat} {x : Int32} (hT : tT (zsetI h1 (zn h) k x) (zn h) t') : cTs h (zsetI h1 (zn h) k x) t' :=
  ⟨c.1.up (Or.inr (Nat.le_refl _)), c.2.1, c.2.2.1, c.2.2.2.1, hT⟩
theorem cts0 (h : Zh) : ∃ h1, (zmO h 5 4) = some (some (zn h), znew h 6 0 4) ∧ zob (znew h 6 0 4) (some (zn h)) 6 = some (zn h) ∧ fX4_init (znew h 6 0 4) (some (zn h)) = some h1 ∧ cTs h h1 mT0 := by
  have e1 : zk (znew h 6 0 4) (zn h) = 6 := by show u1 _ _ _ _ = _; unfold u1; rw [if_pos rfl]
  have e0 : zob (znew h 6 0 4) (some (zn h)) 6 = some (zn h) := zob_v (by rw [zn_nw]; omega) e1
  refine ⟨zsetI (znew h 6 0 4) (zn h) 2 (-3), zmO_v _ _ _, e0, ?_, (zExt.nw (S := sNo)).up (Or.inr (Nat.le_refl _)), rfl, rfl, e1, ?_⟩
  · unfold fX4_init
    rw [e0, Option.bind_some, zgI_v (by rw [zn_nw]; omega) e1]
    rfl
  · have z0 : ∀ j, zi (znew h 6 0 4) (zn h) j = 0 := fun j => by show (if zn h = zn h then _ else _) = _; rw [if_pos rfl]
    exact ⟨by rw [zi_sI, u2_n (by omega), z0]; rfl, by rw [zi_sI, u2_n (by omega), z0]; rfl, by rw [zi_sI, u2_s]; rfl, by rw [zi_sI, u2_n (by omega), z0]; rfl⟩
theorem ctake_eq {h h1 : Zh} {t : Tm} (c : cTs h h1 t) (a b : Int32) : ∃ h2, fX4_take h1 (some (zn h)) a b = some h2 ∧ cTs h h2 (mTake t a b) := by
  have hv : zn h < zn h1 := by rw [c.2.1]; omega
  have hk := c.2.2.2.1
  obtain ⟨t1, t2, t3, t4⟩ := c.2.2.2.2
  unfold fX4_take
  have silent : ∀ (hab : a = -1 ∨ b = -1), ∃ h2, ((zfI h1 (some (zn h)) 5 3).bind fun x1 => (zgI h1 (some (zn h)) 5 3 (x1 + (1 : Int32))).bind fun h2 => some h2) = some h2 ∧ cTs h h2 (mTake t a b) := by
    intro hab
    rw [zfI_v hv hk, Option.bind_some, zgI_v hv hk]
    refine ⟨_, rfl, c.up ?_⟩
    unfold mTake
    rw [if_pos hab]
    exact ⟨by rw [zi_sI, u2_n (by omega)]; exact t1, by rw [zi_sI, u2_n (by omega)]; exact t2, by rw [zi_sI, u2_n (by omega)]; exact t3, by rw [zi_sI, u2_s, t4]⟩
  by_cases h1' : a = -1
  · rw [if_pos h1']; exact silent (Or.inl h1')
  · rw [if_neg h1']
    by_cases h2' : b = -1
    · rw [if_pos h2']; exact silent (Or.inr h2')
    · rw [if_neg h2']
      have hab : ¬ (a = -1 ∨ b = -1) := fun z => z.elim h1' h2'
      have e3 : (mTake t a b).2.2.1 = if t.2.1 = 0 then b - a else if b - a ≤ t.2.2.1 then t.2.2.1 else b - a := by unfold mTake; rw [if_neg hab]
      have fin : ∀ (h3 : Zh), cTs h h3 (t.1, t.2.1, (mTake t a b).2.2.1, t.2.2.2) → ∃ h2, ((some h3).bind fun h6 => (zfI h6 (some (zn h)) 5 0).bind fun x11 => (zgI h6 (some (zn h)) 5 0 (x11 + (b - a))).bind fun h12 => (zfI h12 (some (zn h)) 5 1).bind fun x13 => (zgI h12 (some (zn h)) 5 1 (x13 + (1 : Int32))).bind fun h14 => some h14) = some h2 ∧ cTs h h2 (mTake t a b) := by
        intro h3 c3
        have hv3 : zn h < zn h3 := by rw [c3.2.1]; omega
        have hk3 := c3.2.2.2.1
        obtain ⟨s1, s2, s3, s4⟩ := c3.2.2.2.2
        rw [Option.bind_some, zfI_v hv3 hk3, Option.bind_some, zgI_v hv3 hk3, Option.bind_some]
        have k1 : cTs h (zsetI h3 (zn h) 0 (zi h3 (zn h) 0 + (b - a))) (t.1 + (b - a), t.2.1, (mTake t a b).2.2.1, t.2.2.2) :=
          c3.up ⟨by rw [zi_sI, u2_s, s1], by rw [zi_sI, u2_n (by omega)]; exact s2, by rw [zi_sI, u2_n (by omega)]; exact s3, by rw [zi_sI, u2_n (by omega)]; exact s4⟩
        obtain ⟨r1, r2, r3, r4⟩ := k1.2.2.2.2
        have hv4 : zn h < zn (zsetI h3 (zn h) 0 (zi h3 (zn h) 0 + (b - a))) := hv3
        rw [zfI_v hv4 k1.2.2.2.1, Option.bind_some, zgI_v hv4 k1.2.2.2.1, Option.bind_some]
        refine ⟨_, rfl, k1.up ⟨?_, ?_, ?_, ?_⟩⟩
        · rw [zi_sI, u2_n (by omega), r1]; unfold mTake; rw [if_neg hab]
        · rw [zi_sI, u2_s, r2]; unfold mTake; rw [if_neg hab]
        · rw [zi_sI, u2_n (by omega), r3]
        · rw [zi_sI, u2_n (by omega), r4]; unfold mTake; rw [if_neg hab]
      have st : ∀ x : Int32, x = (mTake t a b).2.2.1 → cTs h (zsetI h1 (zn h) 2 x) (t.1, t.2.1, (mTake t a b).2.2.1, t.2.2.2) := fun x hx =>
        c.up ⟨by rw [zi_sI, u2_n (by omega)]; exact t1, by rw [zi_sI, u2_n (by omega)]; exact t2, by rw [zi_sI, u2_s]; exact hx, by rw [zi_sI, u2_n (by omega)]; exact t4⟩
      rw [zfI_v hv hk, Option.bind_some, t2, zgI_v hv hk, Option.bind_some, zfI_v hv hk, Option.bind_some, t3]
      by_cases q1 : t.2.1 = 0
      · rw [if_pos q1]
        exact fin _ (st _ (by rw [e3, if_pos q1]))
      · rw [if_neg q1]
        by_cases q2 : b - a ≤ t.2.2.1
        · rw [if_pos q2]
          exact fin _ ⟨c.1, c.2.1, c.2.2.1, c.2.2.2.1, t1, t2, by rw [t3, e3, if_neg q1, if_pos q2], t4⟩
        · rw [if_neg q2]
          exact fin _ (st _ (by rw [e3, if_neg q1, if_neg q2]))
theorem ctellT_eq {h h1 : Zh} {t : Tm} (c : cTs h h1 t) (w : Int32) : fX4_tell h1 (some (zn h)) w = some (mTell t w) := by
  have hv : zn h < zn h1 := by rw [c.2.1]; omega
  have hk := c.2.2.2.1
  obtain ⟨t1, t2, t3, t4⟩ := c.2.2.2.2
  unfold fX4_tell mTell
  rw [zfI_v hv hk, zfI_v hv hk, zfI_v hv hk, zfI_v hv hk, t1, t2, t3, t4]
  by_cases h0 : w = 0
  · rw [if_pos h0, if_pos h0]; rfl
  rw [if_neg h0, if_neg h0]
  by_cases h1 : w = 1
  · rw [if_pos h1, if_pos h1]; rfl
  rw [if_neg h1, if_neg h1]
  by_cases h2 : w = 2
  · rw [if_pos h2, if_pos h2]; rfl
  rw [if_neg h2, if_neg h2]; rfl
/-- the class's way through its cases, with a heap that changes -/
theorem cloopH {h0 : Zh} {X : Nat} {ca : Nat → Nat} {m : Ml} (ok : mOK m) (J : Nat → Zh → Prop) (hJ : ∀ k h, J k h → cFix h X ∧ cLog h X ca m) {f : Int32 × Zh → Option ((Int32 × Zh) ⊕ Zh)} {B : Option Nat → Zh → Option Zh}
    (hf : ∀ c h, f (c, h) = (zfI h (some X) 6 1).bind fun x6 => if x6 ≤ c then some (.inr h) else (zob h (some X) 7).bind fun p7 => (fX5_inLog h (some p7) c).bind fun r8 => (B r8 h).bind fun h9 => some (.inl (c + (1 : Int32), h9)))
    (hB0 : ∀ h, B none h = some h) (hB : ∀ k h, k < mnc m → mdr m k = false → J k h → ∃ h', B (some (ca k)) h = some h' ∧ J (k + 1) h') (hs : ∀ k h, k < mnc m → mdr m k = true → J k h → J (k + 1) h) (h00 : J 0 h0) : ∃ h', zloop f zFU ((0 : Int32), h0) = some h' ∧ J (mnc m) h' := by
  have h24 := ok.1
  refine zloop_inv (fun n s => ∃ k, n = mnc m - k ∧ k ≤ mnc m ∧ s.1 = nI k ∧ J k s.2) (J (mnc m)) ?_ (mnc m) _ _ ⟨0, rfl, by omega, rfl, h00⟩ (by rw [zFU_v]; omega)
  rintro n ⟨w, h⟩ ⟨k, hn, hk, rfl, hj⟩
  dsimp only at hj
  obtain ⟨fx, c⟩ := hJ k h hj
  have f0 := fx.1
  rw [hf, zfI_v (by omega) fx.2.1.1, c.1, Option.bind_some]
  by_cases e : k = mnc m
  · rw [if_pos (nI_le (by omega) (by omega))]
    subst e
    exact Or.inr ⟨h, rfl, hj⟩
  · have hk' : k < mnc m := by omega
    rw [if_neg (nI_nle' (by omega) hk'), zob_v (by omega) fx.2.1.1, Option.bind_some]
    have hm : mnm (nI k) (mnc m) := nI_mnm hk' (by omega)
    rw [clog_eq fx c ok, nI_clamp (by omega), Option.bind_some, nI_1]
    have nx : ∀ (o : Option Zh), (∃ h', o = some h' ∧ J (k + 1) h') → ∃ (s' : Int32 × Zh) (m' : Nat), (o.bind fun h9 => (some (.inl (nI (k + 1), h9)) : Option ((Int32 × Zh) ⊕ Zh))) = some (.inl s') ∧ m' < n ∧ ∃ k, m' = mnc m - k ∧ k ≤ mnc m ∧ s'.1 = nI k ∧ J k s'.2 := by
      rintro o ⟨h', rfl, j'⟩
      exact ⟨_, mnc m - (k + 1), rfl, by omega, k + 1, rfl, by omega, rfl, j'⟩
    by_cases hd : mdr m k = true
    · have hno : ¬ (mnm (nI k) (mnc m) ∧ mdr m k = false) := fun z => by rw [hd] at z; exact absurd z.2 (by decide)
      rw [if_neg hno]
      exact Or.inl (nx _ ⟨h, hB0 h, hs k h hk' hd hj⟩)
    · have hd' : mdr m k = false := by simpa using hd
      have hyes : mnm (nI k) (mnc m) ∧ mdr m k = false := ⟨hm, hd'⟩
      rw [if_pos hyes]
      exact Or.inl (nx _ (hB k h hk' hd' hj))
/-- its way through the deeds of a case -/
theorem dloopH {h0 : Zh} {c L i0 : Nat} (J : Nat → Zh → Prop) (hL : ∀ i h, J i h → zfI h (some c) 1 1 = some (nI L)) (l6 : L ≤ 6) {f : Int32 × Zh → Option ((Int32 × Zh) ⊕ Zh)} {B : Zh → Int32 → Option Zh}
    (hf : ∀ i h, f (i, h) = (zfI h (some c) 1 1).bind fun x => if x ≤ i then some (.inr h) else (B h i).bind fun h' => some (.inl (i + (1 : Int32), h')))
    (hB : ∀ i h, i0 ≤ i → i < L → J i h → ∃ h', B h (nI i) = some h' ∧ J (i + 1) h') (hi : i0 ≤ 1) (h00 : J i0 h0) : ∃ h', zloop f zFU (nI i0, h0) = some h' ∧ J (max i0 L) h' := by
  refine zloop_inv (fun n s => ∃ i, n = (max i0 L) - i ∧ i0 ≤ i ∧ i ≤ max i0 L ∧ s.1 = nI i ∧ J i s.2) (J (max i0 L)) ?_ (max i0 L - i0) _ _ ⟨i0, rfl, by omega, by omega, rfl, h00⟩ (by rw [zFU_v]; omega)
  rintro n ⟨w, h⟩ ⟨i, hn, hi0, hi1, rfl, hj⟩
  dsimp only at hj
  rw [hf, hL i h hj, Option.bind_some]
  by_cases e : i < L
  · rw [if_neg (nI_nle' (by omega) e), nI_1]
    obtain ⟨h', e1, j1⟩ := hB i h hi0 e hj
    rw [e1]
    exact Or.inl ⟨_, max i0 L - (i + 1), rfl, by omega, i + 1, rfl, by omega, by omega, rfl, j1⟩
  · rw [if_pos (nI_le (by omega) (by omega))]
    have : i = max i0 L := by omega
    subst this
    exact Or.inr ⟨h, rfl, hj⟩
theorem cwhat {w : Int32} (h : mnm w 4) : ¬ w < 0 ∧ w ≤ (3 : Int32) := by
  have e3 : (3 : Int32).toInt = 3 := by decide
  exact ⟨fun z => by have := (i0_lt w).mp z; have := h.1; omega, Int32.le_iff_toInt_le.mpr (by have := h.2; omega)⟩
theorem cwhat_n {w : Int32} (h : ¬ mnm w 4) (h0 : ¬ w < 0) : ¬ w ≤ (3 : Int32) := by
  have e3 : (3 : Int32).toInt = 3 := by decide
  exact fun z => h ⟨by have := mt (i0_lt w).mpr h0; omega, by have := Int32.le_iff_toInt_le.mp z; omega⟩
theorem mSum_none {P : Nat → Prop} {B E : Nat → Int32} {m : Ml} (hP : ∀ k, P k → mIn m k) {c : Nat} (hc : ¬ (c < mnc m ∧ mdr m c = false)) : mSum P B E (6 * (c + 1)) = mSum P B E (6 * c) := by
  rw [show 6 * (c + 1) = 6 * c + 6 by omega, mSum_skip]
  intro q h1 h2 z
  exact mIn_not hc h1 h2 (hP q z)
theorem mSum_144 {P : Nat → Prop} {B E : Nat → Int32} {m : Ml} (ok : mOK m) (hP : ∀ k, P k → mIn m k) : mSum P B E (6 * mnc m) = mSum P B E 144 := by
  have h24 := ok.1
  rw [show 144 = 6 * mnc m + (144 - 6 * mnc m) by omega, mSum_skip]
  intro k h1 h2 z
  have := (hP k z).1
  omega
theorem mSum_end {P : Nat → Prop} {B E : Nat → Int32} {m : Ml} (hP : ∀ k, P k → mIn m k) {c n : Nat} (hn : mlen m c ≤ n) (h6 : n ≤ 6) : mSum P B E (6 * (c + 1)) = mSum P B E (6 * c + n) := by
  rw [show 6 * (c + 1) = 6 * c + n + (6 - n) by omega, mSum_skip]
  intro q h1 h2 z
  have := (hP q z).2.2
  rw [show q / 6 = c by omega] at this
  omega
/-- what the class's work or lag does, told once: from i0 on (0 work, 1 lag) -/
theorem cspan_eq {h : Zh} {X : Nat} {ca : Nat → Nat} {m : Ml} (fx : cFix h X) (c : cLog h X ca m) (ok : mOK m) {h1 : Zh} (c1 : cTs h h1 mT0) {P : Nat → Prop} {D E : Nat → Int32} (hP : ∀ k, P k → mIn m k) {i0 : Nat} (hi0 : i0 ≤ 1) (hP0 : ∀ k, i0 = 1 → k % 6 = 0 → ¬ P k)
    {f : Int32 × Zh → Option ((Int32 × Zh) ⊕ Zh)} {g : Option Nat → Int32 × Zh → Option ((Int32 × Zh) ⊕ Zh)} {B : Option Nat → Zh → Int32 → Option Zh}
    (hf : ∀ c h, f (c, h) = (zfI h (some X) 6 1).bind fun x6 => if x6 ≤ c then some (.inr h) else (zob h (some X) 7).bind fun p7 => (fX5_inLog h (some p7) c).bind fun r8 => (if r8 = none then some h else (zloop (g r8) zFU (nI i0, h)).bind fun h18 => some h18).bind fun h9 => some (.inl (c + (1 : Int32), h9)))
    (hg : ∀ r i h, g r (i, h) = (zfI h r 1 1).bind fun x => if x ≤ i then some (.inr h) else (B r h i).bind fun h' => some (.inl (i + (1 : Int32), h')))
    (hB : ∀ k i h2 t, k < mnc m → mdr m k = false → i0 ≤ i → i < mlen m k → cTs h h2 t → ∃ h', B (some (ca k)) h2 (nI i) = some h' ∧ cTs h h' (@ite _ (P (6 * k + i)) (Classical.propDecidable _) (mTake t (D (6 * k + i)) (E (6 * k + i))) t)) :
    ∃ h', zloop f zFU ((0 : Int32), h1) = some h' ∧ cTs h h' (mSum P D E 144) := by
  rw [← mSum_144 ok hP]
  refine cloopH ok (fun k h2 => cTs h h2 (mSum P D E (6 * k))) (fun k h2 j => ext0 j.1 fx c) hf (fun _ => rfl) (fun k h2 hk hd j => ?_) (fun k h2 hk hd j => ?_) c1
  · obtain ⟨fx2, c2⟩ := ext0 j.1 fx c
    obtain ⟨d1, d2, d3, d4, d5, d6, d7, d8, d9, d10⟩ := c2.2.1 k hk
    have hl6 := ok.2.1 k
    show ∃ h', (if some (ca k) = none then some h2 else _) = some h' ∧ _
    rw [if_neg (fun z => by cases z)]
    have q := dloopH (h0 := h2) (c := ca k) (L := mlen m k) (i0 := i0) (fun i h3 => cTs h h3 (mSum P D E (6 * k + i))) (fun i h3 j3 => by
      obtain ⟨fx3, c3⟩ := ext0 j3.1 fx c
      obtain ⟨d1, d2, d3, d4, d5, d6, d7, d8, d9, d10⟩ := c3.2.1 k hk
      rw [zfI_v (by omega) d4, d8]) hl6 (hg (some (ca k))) (fun i h3 i1 i2 j3 => by
      obtain ⟨h', e, j'⟩ := hB k i h3 _ hk hd i1 i2 j3
      exact ⟨h', e, j'⟩) hi0 (by
      rcases (show i0 = 0 ∨ i0 = 1 by omega) with rfl | rfl
      · exact j
      · rw [mSum_f (hP0 (6 * k) rfl (by omega))]; exact j)
    obtain ⟨h', e, j'⟩ := q
    rw [e]
    refine ⟨h', rfl, ?_⟩
    rw [mSum_end hP (n := max i0 (mlen m k)) (by omega) (by omega)]
    exact j'
  · show cTs h h2 (mSum P D E (6 * (k + 1)))
    rw [mSum_none hP (fun y => by rw [hd] at y; exact absurd y.2 (by decide))]
    exact j
