/-! slow, on the class's side -/
theorem cfill_eq {h : Zh} {v n : Nat} (h1 : v < zn h) (h2 : zk h v = 100) (h3 : zl h v = n) (hn : n < 100000) (x : Int32) : ∃ h', fJ7_fill_53178 h (some v) x = some h' ∧ (zExt (fun w => w = v) h h' ∧ zn h' = zn h ∧ zs h' = zs h ∧ zp h' = zp h) ∧ ∀ j, j < n → zi h' v j = x := by
  unfold fJ7_fill_53178
  rw [zaL_v (t := 0) h1 h2, Option.bind_some, h3]
  have q := zloop_inv (f := fun ((v2, h3) : Int32 × Zh) =>
    (if nI n ≤ v2 then
      some (.inr h3)
    else
      (zbI h3 (some v) v2 x).bind fun h7 =>
      some (.inl (v2 + (1 : Int32), h7)) : Option ((Int32 × Zh) ⊕ Zh))) (fun (k : Nat) (s : Int32 × Zh) => ∃ i, k = n - i ∧ i ≤ n ∧ s.1 = nI i ∧ (zExt (fun w => w = v) h s.2 ∧ zn s.2 = zn h ∧ zs s.2 = zs h ∧ zp s.2 = zp h) ∧ ∀ j, j < i → zi s.2 v j = x)
    (fun h' => (zExt (fun w => w = v) h h' ∧ zn h' = zn h ∧ zs h' = zs h ∧ zp h' = zp h) ∧ ∀ j, j < n → zi h' v j = x) (by
    rintro k ⟨w, g⟩ ⟨i, hk, hi, rfl, ⟨e, e1, e2, e3⟩, hv⟩
    dsimp only at e e1 e2 e3 hv
    show (∃ s' m', (if nI n ≤ nI i then _ else _) = _ ∧ _) ∨ ∃ r, (if nI n ≤ nI i then _ else _) = _ ∧ _
    by_cases c1 : n ≤ i
    · rw [if_pos (nI_le c1 (by omega))]
      exact Or.inr ⟨g, rfl, ⟨e, e1, e2, e3⟩, fun j hj => hv j (by omega)⟩
    · rw [if_neg (nI_nle' (by omega) (by omega)), zbI_v (n := n) (by omega) ((e.2 v h1).1.trans h2) ((e.2 v h1).2.1.trans h3) (by omega) (by omega), Option.bind_some, nI_1]
      refine Or.inl ⟨_, n - (i + 1), rfl, by omega, i + 1, rfl, by omega, rfl, ⟨e.up (Or.inl rfl), e1, e2, e3⟩, fun j hj => ?_⟩
      show zi (zsetI g v i x) v j = x
      rw [zi_sI]
      by_cases z : j = i
      · subst z; rw [u2_s]
      · rw [u2_n (by omega)]; exact hv j (by omega)) n (nI 0, h) zFU ⟨0, rfl, by omega, rfl, ⟨zExt.rf, rfl, rfl, rfl⟩, fun j hj => absurd hj (by omega)⟩ (by rw [zFU_v]; omega)
  obtain ⟨h', e, p, hv⟩ := q
  exact ⟨h', congrArg (fun o : Option Zh => o.bind fun h4 => some h4) e, p, hv⟩
abbrev sWait (X v : Nat) : Prop := v = X + 8 ∨ v = X + 9
theorem extW {h h' : Zh} {X : Nat} {ca : Nat → Nat} {m : Ml} (e : zExt (sWait X) h h') (fx : cFix h X) (c : cLog h X ca m) : cFix h' X ∧ cLog h' X ca m := by
  have f0 := fx.1
  have q0 := ((e.2 X (by omega)).2.2 (fun z => z.elim (by omega) (by omega))).1
  have q1 := ((e.2 (X + 1) (by omega)).2.2 (fun z => z.elim (by omega) (by omega))).2
  refine ⟨cFix.ext e fx (fun v hv hs => ?_), cLog.ext e f0 c (by rw [q0]) (fun k => by rw [q1]) (fun k hk => ?_)⟩
  · exfalso
    rcases hv with z | z | z | ⟨d, _, z⟩ <;> rcases hs with y | y <;> omega
  · have := (c.2.1 k hk).2.1
    exact ⟨fun z => z.elim (by omega) (by omega), fun z => z.elim (by omega) (by omega)⟩
/-- h1 is h with the rows of waits laid anew -/
def cW (X : Nat) (h h1 : Zh) (T : Nat → Tm) : Prop := (zExt (sWait X) h h1 ∧ zn h1 = zn h ∧ zs h1 = zs h ∧ zp h1 = zp h) ∧ ∀ v, v < 144 → zi h1 (X + 8) v = (T v).1 ∧ zi h1 (X + 9) v = (T v).2.1
theorem csw_eq {h h1 : Zh} {X : Nat} {ca : Nat → Nat} {m : Ml} (fx : cFix h X) (c : cLog h X ca m) (ok : mOK m) {T : Nat → Tm} (w : cW X h h1 T) {k i : Nat} (hk : k < mnc m) (i0 : 1 ≤ i) (hi : i < mlen m k)
    {T' : Nat → Tm} (hT1 : ∀ v, v < 144 → (mdt m k i 0 = nI (v / 12) ∧ mdt m k (i - 1) 0 = nI (v % 12)) → T' v = mTake (T v) (mdt m k (i - 1) 3) (mdt m k i 2)) (hT0 : ∀ v, v < 144 → ¬ (mdt m k i 0 = nI (v / 12) ∧ mdt m k (i - 1) 0 = nI (v % 12)) → T' v = T v) :
    ∃ h2, fX5_sumWait h1 (some X) (some (ca k)) (nI i) = some h2 ∧ cW X h h2 T' := by
  obtain ⟨⟨e, e1, e2, e3⟩, hw⟩ := w
  obtain ⟨fx1, c1⟩ := extW e fx c
  have f0 := fx1.1
  have hl6 := ok.2.1 k
  unfold fX5_sumWait
  have hn0 := (ok.2.2.2 k i hi).1
  have hn1 := (ok.2.2.2 k (i - 1) (by omega)).1
  have t0 := ctell_m c1 ok hk hi (q := 0) (by omega)
  have t1 := ctell_m c1 ok hk (show i - 1 < mlen m k by omega) (q := 0) (by omega)
  have t2 := ctell_m c1 ok hk hi (q := 2) (by omega)
  have t3 := ctell_m c1 ok hk (show i - 1 < mlen m k by omega) (q := 3) (by omega)
  have es : nI i - (1 : Int32) = nI (i - 1) := by rw [show (1 : Int32) = nI 1 from rfl, pk_sub i0]
  rw [cob_m c1 hk, Option.bind_some, es, show (3 : Int32) = nI 3 from rfl, t3, Option.bind_some, Option.bind_some, show (2 : Int32) = nI 2 from rfl, t2, Option.bind_some, Option.bind_some, show (0 : Int32) = nI 0 from rfl, t0, Option.bind_some, Option.bind_some, t1, Option.bind_some]
  have same : (mdt m k (i - 1) 3 = -1 ∨ mdt m k i 2 = -1) → ∃ h2, some h1 = some h2 ∧ cW X h h2 T' := by
    intro z
    refine ⟨h1, rfl, ⟨e, e1, e2, e3⟩, fun v v1 => ?_⟩
    by_cases p : mdt m k i 0 = nI (v / 12) ∧ mdt m k (i - 1) 0 = nI (v % 12)
    · rw [hT1 v v1 p]
      unfold mTake
      rw [if_pos z]
      exact hw v v1
    · rw [hT0 v v1 p]; exact hw v v1
  by_cases p1 : mdt m k (i - 1) 3 = -1
  · rw [if_pos p1]; exact same (Or.inl p1)
  rw [if_neg p1]
  by_cases p2 : mdt m k i 2 = -1
  · rw [if_pos p2]; exact same (Or.inr p2)
  rw [if_neg p2]
  have p12 : ¬ (mdt m k (i - 1) 3 = -1 ∨ mdt m k i 2 = -1) := fun z => z.elim p1 p2
  obtain ⟨ex, lx⟩ := mnm_nI hn0
  obtain ⟨ey, ly⟩ := mnm_nI hn1
  generalize (mdt m k i 0).toNatClampNeg = x at ex lx
  generalize (mdt m k (i - 1) 0).toNatClampNeg = y at ey ly
  rw [ex, ey, show (12 : Int32) = nI 12 from rfl, pk_mul, nI_add]
  have hx144 : 12 * x + y < 144 := by omega
  obtain ⟨r1, r2⟩ := fx1.2.2.2.2.2.2.2.1.1
  obtain ⟨r3, r4⟩ := fx1.2.2.2.2.2.2.2.1.2
  have g6 : zfP h1 (some X) 6 6 = some (some (X + 8)) := by rw [zfP_v (by omega) fx1.2.1.1, fx1.2.1.2.2.2.2.2.1]
  rw [if_neg (show ¬ nI (12 * x + y) < nI 0 from nI_nlt (by omega) (by omega)), g6, Option.bind_some, zaL_v (t := 0) (by omega) r1, Option.bind_some, r2, if_pos (nI_lt hx144 (by omega)), Option.bind_some, zaI_v (n := 144) (by omega) r1 r2 hx144 (by omega), Option.bind_some, zbI_v (n := 144) (by omega) r1 r2 hx144 (by omega), Option.bind_some, zfP_v (show X < zn (zsetI h1 (X + 8) (12 * x + y) _) from by show X < zn h1; omega) fx1.2.1.1, zp_sI, fx1.2.1.2.2.2.2.2.2, Option.bind_some, zaI_v (n := 144) (show X + 9 < zn (zsetI h1 (X + 8) (12 * x + y) _) from by show X + 9 < zn h1; omega) r3 r4 hx144 (by omega), Option.bind_some, zbI_v (n := 144) (show X + 9 < zn (zsetI h1 (X + 8) (12 * x + y) _) from by show X + 9 < zn h1; omega) r3 r4 hx144 (by omega)]
  refine ⟨_, rfl, ⟨(e.up (Or.inl (Or.inl rfl))).up (Or.inl (Or.inr rfl)), e1, e2, e3⟩, fun v v1 => ?_⟩
  rw [zi_sI, zi_sI]
  by_cases p : v = 12 * x + y
  · have pp : nI x = nI (v / 12) ∧ nI y = nI (v % 12) := ⟨congrArg nI (by omega), congrArg nI (by omega)⟩
    rw [hT1 v v1 (by rw [ex, ey]; exact pp)]
    unfold mTake
    rw [if_neg p12, ← p, u2_n (by omega), u2_s, u2_s, u2_n (by omega), (hw v v1).1, (hw v v1).2]
    exact ⟨rfl, rfl⟩
  · have pp : ¬ (nI x = nI (v / 12) ∧ nI y = nI (v % 12)) := fun z => p (by
      have z1 := (nI_eq (by omega) (by omega)).mp z.1
      have z2 := (nI_eq (by omega) (by omega)).mp z.2
      omega)
    rw [hT0 v v1 (by rw [ex, ey]; exact pp), u2_n (by omega), u2_n (by omega), u2_n (by omega), u2_n (by omega)]
    exact hw v v1
abbrev cSg (this : Option Nat) (r12 : Option Nat) : Int32 × Zh → Option ((Int32 × Zh) ⊕ Zh) := fun ((v15, h16) : Int32 × Zh) =>
  ((zfI h16 r12 1 1).bind fun x20 =>
  if x20 ≤ v15 then
    some (.inr h16)
  else
    (zob h16 this 7).bind fun p21 =>
    (fX5_sumWait h16 (some p21) r12 v15).bind fun h22 =>
    some (.inl (v15 + (1 : Int32), h22)) : Option ((Int32 × Zh) ⊕ Zh))
abbrev cSf (this : Option Nat) : Int32 × Zh → Option ((Int32 × Zh) ⊕ Zh) := fun ((v5, h6) : Int32 × Zh) =>
  ((zfI h6 this 6 1).bind fun x10 =>
  if x10 ≤ v5 then
    some (.inr h6)
  else
    (zob h6 this 7).bind fun p11 =>
    (fX5_inLog h6 (some p11) v5).bind fun r12 =>
    (if r12 = none then
      some h6
    else
      (zloop (cSg this r12) zFU ((1 : Int32), h6)).bind fun (h17 : Zh) =>
      some h17).bind fun (h13 : Zh) =>
    some (.inl (v5 + (1 : Int32), h13)) : Option ((Int32 × Zh) ⊕ Zh))
noncomputable def mWT (m : Ml) (n v : Nat) : Tm := mLagT m (nI (v / 12)) (nI (v % 12)) n
theorem mWT_s {m : Ml} {a b k v : Nat} (h : ∀ j, a ≤ j → j < a + b → ¬ mIn m j ∨ j % 6 = 0) : mWT m (a + b) v = mWT m a v :=
  mSum_skip b (fun j j1 j2 z => (h j j1 j2).elim (fun y => y z.1) (fun y => by have := z.2.1; omega))
theorem cwaits_eq {h : Zh} {X : Nat} {ca : Nat → Nat} {m : Ml} (fx : cFix h X) (c : cLog h X ca m) (ok : mOK m) : ∃ h', fX5_sumWaits h (some X) = some h' ∧ cW X h h' (mWT m 144) := by
  have h24 := ok.1
  have f0 := fx.1
  obtain ⟨r1, r2⟩ := fx.2.2.2.2.2.2.2.1.1
  obtain ⟨r3, r4⟩ := fx.2.2.2.2.2.2.2.1.2
  unfold fX5_sumWaits
  obtain ⟨g1, a1, ⟨a2, a3, a4, a5⟩, a6⟩ := cfill_eq (show X + 8 < zn h by omega) r1 r2 (by omega) 0
  rw [zfP_v (by omega) fx.2.1.1, fx.2.1.2.2.2.2.2.1, Option.bind_some, a1, Option.bind_some]
  obtain ⟨k1, k2, k3⟩ := a2.2 X (by omega)
  obtain ⟨l1, l2, l3⟩ := a2.2 (X + 9) (by omega)
  obtain ⟨g2, b1, ⟨b2', b3, b4, b5⟩, b6⟩ := cfill_eq (h := g1) (show X + 9 < zn g1 by omega) (l1.trans r3) (l2.trans r4) (by omega) 0
  rw [zfP_v (by omega) (k1.trans fx.2.1.1), a5, fx.2.1.2.2.2.2.2.2, Option.bind_some, b1, Option.bind_some]
  have w0 : cW X h g2 (fun _ => mT0) := by
    refine ⟨⟨(a2.mono (fun _ _ z => Or.inl z)).tr (b2'.mono (fun _ _ z => Or.inr z)), b3.trans a3, b4.trans a4, b5.trans a5⟩, fun v v1 => ⟨?_, b6 v v1⟩⟩
    rw [((b2'.2 (X + 8) (by omega)).2.2 (by omega)).1]
    exact a6 v v1
  have hP : ∀ k, ¬ (k < mnc m ∧ mdr m k = false) → ∀ v, mWT m (6 * (k + 1)) v = mWT m (6 * k) v := fun k hk v => mSum_none (fun _ z => z.1) hk
  have q := cloopH (h0 := g2) ok (fun k h2 => cW X h h2 (mWT m (6 * k))) (fun k h2 j => extW j.1.1 fx c) (f := cSf (some X)) (B := fun r12 h6 => if r12 = none then some h6 else (zloop (cSg (some X) r12) zFU ((1 : Int32), h6)).bind fun (h17 : Zh) => some h17) (fun c h => rfl) (fun _ => rfl) (fun k h2 hk hd j => ?_) (fun k h2 hk hd j => ?_) w0
  · obtain ⟨h3, e, j⟩ := q
    refine ⟨h3, congrArg (fun o : Option Zh => o.bind fun h7 => some h7) e, ?_⟩
    have e9 : mWT m (6 * mnc m) = mWT m 144 := funext fun v => mSum_144 ok (fun _ z => z.1)
    rw [← e9]
    exact j
  · obtain ⟨fx2, c2⟩ := extW j.1.1 fx c
    have hl6 := ok.2.1 k
    show ∃ h', (if some (ca k) = none then some h2 else _) = some h' ∧ _
    rw [if_neg (fun z => by cases z)]
    have q := dloopH (h0 := h2) (c := ca k) (L := mlen m k) (i0 := 1) (f := cSg (some X) (some (ca k))) (B := fun h i => (zob h (some X) 7).bind fun p21 => fX5_sumWait h (some p21) (some (ca k)) i) (fun i h3 => cW X h h3 (mWT m (6 * k + i))) (fun i h3 j3 => by
      obtain ⟨fx3, c3⟩ := extW j3.1.1 fx c
      obtain ⟨d1, d2, d3, d4, d5, d6, d7, d8, d9, d10⟩ := c3.2.1 k hk
      rw [zfI_v (by omega) d4, d8]) hl6 (fun i h => by
        refine congrArg (Option.bind (zfI h (some (ca k)) 1 1)) (funext fun x => ?_)
        show (if x ≤ i then _ else _) = _
        by_cases z : x ≤ i
        · rw [if_pos z, if_pos z]
        · rw [if_neg z, if_neg z, Option.bind_assoc]) (fun i h3 i1 i2 j3 => by
        obtain ⟨fx3, c3⟩ := extW j3.1.1 fx c
        have f3 := fx3.1
        show ∃ h', ((zob h3 (some X) 7).bind fun p21 => fX5_sumWait h3 (some p21) (some (ca k)) (nI i)) = some h' ∧ _
        rw [zob_v (by omega) fx3.2.1.1, Option.bind_some]
        have hPr : ∀ v, mPair m 0 (nI (v / 12)) (nI (v % 12)) (6 * k + i) ↔ mdt m k i 0 = nI (v / 12) ∧ mdt m k (i - 1) 0 = nI (v % 12) := fun v => by
          rw [mPair_at (by omega)]
          exact ⟨fun z => z.2.2, fun z => ⟨⟨⟨hk, hd⟩, i2⟩, by omega, z⟩⟩
        have e6 : (6 * k + i) / 6 = k := by omega
        have e7 : (6 * k + i) % 6 = i := by omega
        refine csw_eq fx c ok j3 hk i1 i2 (fun v v1 z => ?_) (fun v v1 z => ?_)
        · have := mSum_t (P := mPair m 0 (nI (v / 12)) (nI (v % 12))) (B := fun k => mdt m (k / 6) (k % 6 - 1) 3) (E := fun k => mdt m (k / 6) (k % 6) 2) ((hPr v).mpr z)
          rw [e6, e7] at this
          exact this
        · exact mSum_f (fun y => z ((hPr v).mp y))) (by omega) (by
        have e9 : mWT m (6 * k + 1) = mWT m (6 * k) := funext fun v => mSum_f (fun z => by have := z.2.1; omega)
        show cW X h h2 (mWT m (6 * k + 1))
        rw [e9]
        exact j)
    obtain ⟨h', e, j'⟩ := q
    refine ⟨h', congrArg (fun o : Option Zh => o.bind fun h7 => some h7) e, ?_⟩
    have e9 : mWT m (6 * (k + 1)) = mWT m (6 * k + max 1 (mlen m k)) := funext fun v => mSum_end (fun _ z => z.1) (by omega) (by omega)
    rw [e9]
    exact j'
  · have e9 : mWT m (6 * (k + 1)) = mWT m (6 * k) := funext (hP k (fun y => by rw [hd] at y; exact absurd y.2 (by decide)))
    show cW X h h2 (mWT m (6 * (k + 1)))
    rw [e9]
    exact j
theorem mSum_cnt {P : Nat → Prop} {B E : Nat → Int32} : ∀ n, ∃ c, c ≤ n ∧ (mSum P B E n).2.1 = nI c
  | 0 => ⟨0, Nat.le_refl _, rfl⟩
  | n + 1 => by
    obtain ⟨c, h1, h2⟩ := mSum_cnt (P := P) (B := B) (E := E) n
    by_cases p : P n
    · rw [mSum_t p]
      unfold mTake
      by_cases q : B n = -1 ∨ E n = -1
      · rw [if_pos q]; exact ⟨c, by omega, h2⟩
      · rw [if_neg q]; exact ⟨c + 1, by omega, by rw [← nI_1, ← h2]⟩
    · rw [mSum_f p]; exact ⟨c, by omega, h2⟩
theorem mWC_0 (m : Ml) (v : Nat) : mWC m v = 0 ↔ mWC m v ≤ 0 := by
  obtain ⟨c, h1, h2⟩ := mSum_cnt (P := mPair m 0 (nI (v / 12)) (nI (v % 12))) (B := fun k => mdt m (k / 6) (k % 6 - 1) 3) (E := fun k => mdt m (k / 6) (k % 6) 2) 144
  have e : mWC m v = nI c := h2
  rw [e]
  by_cases z : c = 0
  · subst z; exact ⟨fun _ => nI_le (a := 0) (b := 0) (by omega) (by omega), fun _ => rfl⟩
  · exact ⟨fun y => absurd ((nI_eq (a := c) (b := 0) (by omega) (by omega)).mp y) z, fun y => absurd y (nI_nle (by omega) (by omega))⟩
theorem cW.rd {X : Nat} {h h1 : Zh} {ca : Nat → Nat} {m : Ml} (fx : cFix h X) (c : cLog h X ca m) (w : cW X h h1 (mWT m 144)) : zfP h1 (some X) 6 6 = some (some (X + 8)) ∧ zfP h1 (some X) 6 7 = some (some (X + 9)) ∧ zaL h1 (some (X + 8)) 0 = some (144 : Int32) ∧ zob h1 (some X) 7 = some X ∧ ∀ v, v < 144 → zaI h1 (some (X + 8)) (nI v) = some (mWS m v) ∧ zaI h1 (some (X + 9)) (nI v) = some (mWC m v) := by
  obtain ⟨fx1, c1⟩ := extW w.1.1 fx c
  have f0 := fx1.1
  obtain ⟨r1, r2⟩ := fx1.2.2.2.2.2.2.2.1.1
  obtain ⟨r3, r4⟩ := fx1.2.2.2.2.2.2.2.1.2
  refine ⟨by rw [zfP_v (by omega) fx1.2.1.1, fx1.2.1.2.2.2.2.2.1], by rw [zfP_v (by omega) fx1.2.1.1, fx1.2.1.2.2.2.2.2.2], by rw [zaL_v (t := 0) (by omega) r1, r2]; rfl, zob_v (by omega) fx1.2.1.1, fun v v1 => ⟨?_, ?_⟩⟩
  · rw [zaI_v (n := 144) (by omega) r1 r2 v1 (by omega), (w.2 v v1).1]; rfl
  · rw [zaI_v (n := 144) (by omega) r3 r4 v1 (by omega), (w.2 v v1).2]; rfl
theorem cslower_eq {X : Nat} {h h1 : Zh} {ca : Nat → Nat} {m : Ml} (fx : cFix h X) (c : cLog h X ca m) (w : cW X h h1 (mWT m 144)) {v : Nat} (hv : v < 144) : fX5_slowerThan h1 (some X) (nI v) = some (nI (wRank (mWA m) (mWS m) 144 v)) := by
  obtain ⟨q1, q2, q3, q4, q5⟩ := w.rd fx c
  unfold fX5_slowerThan
  rw [q1, q2, rcloop (P := wBef (mWA m) (mWS m) v) (N := 144) ?_ ?_ (by omega)]
  · rw [mCnt_n]; rfl
  · intro u x hu
    show (wBef _ _ _ _ ∧ ((some (some (X + 8))).bind fun r6 => _) = _) ∨ (¬ wBef _ _ _ _ ∧ ((some (some (X + 8))).bind fun r6 => _) = _)
    rw [Option.bind_some, q3, Option.bind_some, if_neg (show ¬ (144 : Int32) ≤ nI u from nI_nle' (b := 144) (by omega) hu), Option.bind_some, (q5 u hu).2, Option.bind_some, nI_1]
    by_cases a0 : mWC m u = 0
    · rw [if_pos a0]
      exact Or.inr ⟨fun z => z.1 ((mWC_0 m u).mp a0), rfl⟩
    · have au : mWA m u := fun z => a0 ((mWC_0 m u).mpr z)
      rw [if_neg a0, Option.bind_some, (q5 u hu).1, Option.bind_some, Option.bind_some, (q5 v hv).1, Option.bind_some]
      by_cases l : mWS m v < mWS m u
      · rw [if_pos l]; exact Or.inl ⟨⟨au, Or.inl l⟩, rfl⟩
      · rw [if_neg l, Option.bind_some, (q5 u hu).1, Option.bind_some, Option.bind_some, (q5 v hv).1, Option.bind_some]
        by_cases e : mWS m u = mWS m v
        · rw [if_pos e]
          by_cases k : u < v
          · rw [if_neg (nI_nle' (by omega) k)]; exact Or.inl ⟨⟨au, Or.inr ⟨e, k⟩⟩, rfl⟩
          · rw [if_pos (nI_le (by omega) (by omega))]; exact Or.inr ⟨fun z => z.2.elim l (fun y => k y.2), rfl⟩
        · rw [if_neg e]; exact Or.inr ⟨fun z => z.2.elim l (fun y => e y.1), rfl⟩
  · intro x
    show ((some (some (X + 8))).bind fun r6 => _) = _
    rw [Option.bind_some, q3, Option.bind_some, if_pos (show (144 : Int32) ≤ nI 144 from nI_le (Nat.le_refl 144) (by omega))]
abbrev cS3 (h2 : Zh) (this : Option Nat) (a1 : Int32) : Int32 → Option (Int32 ⊕ (Unit ⊕ (Int32 × Zh))) := fun (v3 : Int32) =>
  ((zfP h2 this 6 6).bind fun r6 =>
  (zaL h2 r6 0).bind fun x7 =>
  if x7 ≤ v3 then
    some (.inr (.inl ()))
  else
    (zfP h2 this 6 7).bind fun r8 =>
    (zaI h2 r8 v3).bind fun x9 =>
    if x9 ≤ 0 then
      some (.inl (v3 + (1 : Int32)))
    else
      (zob h2 this 7).bind fun p10 =>
      (fX5_slowerThan h2 (some p10) v3).bind fun x11 =>
      if x11 = a1 then
        some (.inr (.inr (v3, h2)))
      else
        some (.inl (v3 + (1 : Int32))) : Option (Int32 ⊕ (Unit ⊕ (Int32 × Zh))))
theorem cslow_eq {h : Zh} {X : Nat} {ca : Nat → Nat} {m : Ml} (fx : cFix h X) (c : cLog h X ca m) (ok : mOK m) (a : Int32) : ∃ r h', fX5_slow h (some X) a = some (r, h') ∧ mSlowR m a r ∧ zExt (sWait X) h h' ∧ zn h' = zn h ∧ zs h' = zs h ∧ zp h' = zp h := by
  have f0 := fx.1
  unfold fX5_slow
  by_cases h0 : a < 0
  · have h1 : ¬ (0 : Int32) ≤ a := fun z => by rw [i0_le] at z; rw [i0_lt] at h0; omega
    rw [if_neg h1]
    exact ⟨_, _, rfl, Or.inl ⟨h0, rfl⟩, zExt.rf, rfl, rfl, rfl⟩
  · have h1 : (0 : Int32) ≤ a := by rw [i0_le]; rw [i0_lt] at h0; omega
    rw [if_pos h1, zob_v (by omega) fx.2.1.1, Option.bind_some]
    obtain ⟨h2, e2, w⟩ := cwaits_eq fx c ok
    rw [e2, Option.bind_some]
    obtain ⟨q1, q2, q3, q4, q5⟩ := w.rd fx c
    have q := zloop_inv (f := cS3 h2 (some X) a) (fun (n : Nat) (s : Int32) => ∃ j, n = 144 - j ∧ j ≤ 144 ∧ s = nI j ∧ ∀ i, i < j → mWA m i → nI (wRank (mWA m) (mWS m) 144 i) ≠ a)
      (fun (q : Unit ⊕ (Int32 × Zh)) => (q = .inl () ∧ mSlowR m a (-3)) ∨ ∃ r, q = .inr (r, h2) ∧ mSlowR m a r) (by
      rintro n s ⟨j, hn, hj, rfl, hv⟩
      show (∃ s' m', ((zfP h2 (some X) 6 6).bind fun r6 => _) = _ ∧ _) ∨ ∃ r, ((zfP h2 (some X) 6 6).bind fun r6 => _) = _ ∧ _
      rw [q1, Option.bind_some, q3, Option.bind_some]
      by_cases c1 : j = 144
      · subst c1
        rw [if_pos (show (144 : Int32) ≤ nI 144 from nI_le (Nat.le_refl 144) (by omega))]
        exact Or.inr ⟨_, rfl, Or.inl ⟨rfl, Or.inr ⟨h0, Or.inr ⟨rfl, hv⟩⟩⟩⟩
      · rw [if_neg (show ¬ (144 : Int32) ≤ nI j from nI_nle' (b := 144) (by omega) (by omega)), q2, Option.bind_some, (q5 j (by omega)).2, Option.bind_some]
        have nx : (mWA m j → nI (wRank (mWA m) (mWS m) 144 j) ≠ a) → ∃ (s' : Int32) (m' : Nat), (some (.inl (nI j + (1 : Int32))) : Option (Int32 ⊕ (Unit ⊕ (Int32 × Zh)))) = some (.inl s') ∧ m' < n ∧ ∃ j, m' = 144 - j ∧ j ≤ 144 ∧ s' = nI j ∧ ∀ i, i < j → mWA m i → nI (wRank (mWA m) (mWS m) 144 i) ≠ a := fun z => ⟨_, 144 - (j + 1), rfl, by omega, j + 1, rfl, by omega, nI_1 j, fun i hi => by
          by_cases e : i = j
          · rw [e]; exact z
          · exact hv i (by omega)⟩
        by_cases p : mWC m j ≤ 0
        · rw [if_pos p]; exact Or.inl (nx (fun z => absurd p z))
        · rw [if_neg p, q4, Option.bind_some, cslower_eq fx c w (by omega), Option.bind_some]
          by_cases e : nI (wRank (mWA m) (mWS m) 144 j) = a
          · rw [if_pos e]
            exact Or.inr ⟨_, rfl, Or.inr ⟨nI j, rfl, Or.inr ⟨h0, Or.inl ⟨j, by omega, p, e, rfl⟩⟩⟩⟩
          · rw [if_neg e]; exact Or.inl (nx (fun _ => e))) 144 (nI 0) zFU ⟨0, rfl, by omega, rfl, fun i hi => absurd hi (by omega)⟩ (by rw [zFU_v]; omega)
    obtain ⟨q, e3, hq⟩ := q
    have fin : ∀ (y : Unit ⊕ (Int32 × Zh)) r, zloop (cS3 h2 (some X) a) zFU (0 : Int32) = some y → mSlowR m a r → (match y with
      | .inr t => some t
      | .inl _ => some ((-3 : Int32), h2)) = some (r, h2) → ∃ r h', ((zloop (cS3 h2 (some X) a) zFU (0 : Int32)).bind fun (q : (Unit ⊕ (Int32 × Zh))) => match q with
      | .inr t => some t
      | .inl _ => some ((-3 : Int32), h2)) = some (r, h') ∧ mSlowR m a r ∧ zExt (sWait X) h h' ∧ zn h' = zn h ∧ zs h' = zs h ∧ zp h' = zp h := by
      intro y r e' hr e
      refine ⟨r, h2, ?_, hr, w.1⟩
      rw [e', Option.bind_some]
      exact e
    rcases hq with ⟨hq, hr⟩ | ⟨r, hq, hr⟩
    · exact fin _ (-3) (e3.trans (congrArg some hq)) hr rfl
    · exact fin _ r (e3.trans (congrArg some hq)) hr rfl
