/-! slow, on the class's side -/
theorem cfill_eq {h : Zh} {v n : Nat} (h1 : v < zn h) (h2 : zk h v = 100) (h3 : zl h v = n) (hn : n < 100000) (x : Int32) : ∃ h', fJ7_fill_53178 h (some v) x = some h' ∧ (zExt (fun w => w = v) h h' ∧ zn h' = zn h ∧ zs h' = zs h ∧ zp h' = zp h) ∧ ∀ j, j < n → zi h' v j = x := by
  unfold fJ7_fill_53178
  rw [zaL_v (t := 0) h1 h2, Option.bind_some, h3]
  have q := zloop_inv (f := fun ((v2, h3) : Int32 × Zh) =>
    (if nI n ≤ v2 then
      some (.inr h3)
    else
      (zbI h3 (some v) v2 x).bind fun h7 =>
      some (.inl (v2 + (1 : Int32), h7)) : Option ((Int32 × Zh) ⊕ Zh))) (fun (k : Nat) (s : Int32 × Zh) => ∃ i, k = n - i ∧ i ≤ n ∧ s.1 = nI i ∧ (zExt (fun w => w = v) h s.2 ∧ zn s.2 = zn h ∧ zs s.2 = zs h ∧ zp s.2 = zp h) ∧ ∀ j, j < i → zi s.2 v j = x)
    (fun h' => (zExt (fun w => w = v) h h' ∧ zn h' = zn h ∧ zs h' = zs h ∧ zp h' = zp h) ∧ ∀ j, j < n → zi h' v j = x) (by
    rintro k ⟨w, g⟩ ⟨i, hk, hi, rfl, ⟨e, e1, e2, e3⟩, hv⟩
    dsimp only at e e1 e2 e3 hv
    show (∃ s' m', (if nI n ≤ nI i then _ else _) = _ ∧ _) ∨ ∃ r, (if nI n ≤ nI i then _ else _) = _ ∧ _
    by_cases c1 : n ≤ i
    · rw [if_pos (nI_le c1 (by omega))]
      exact Or.inr ⟨g, rfl, ⟨e, e1, e2, e3⟩, fun j hj => hv j (by omega)⟩
    · rw [if_neg (nI_nle' (by omega) (by omega)), zbI_v (n := n) (by omega) ((e.2 v h1).1.trans h2) ((e.2 v h1).2.1.trans h3) (by omega) (by omega), Option.bind_some, nI_1]
      refine Or.inl ⟨_, n - (i + 1), rfl, by omega, i + 1, rfl, by omega, rfl, ⟨e.up (Or.inl rfl), e1, e2, e3⟩, fun j hj => ?_⟩
      show zi (zsetI g v i x) v j = x
      rw [zi_sI]
      by_cases z : j = i
      · subst z; rw [u2_s]
      · rw [u2_n (by omega)]; exact hv j (by omega)) n (nI 0, h) zFU ⟨0, rfl, by omega, rfl, ⟨zExt.rf, rfl, rfl, rfl⟩, fun j hj => absurd hj (by omega)⟩ (by rw [zFU_v]; omega)
  obtain ⟨h', e, p, hv⟩ := q
  exact ⟨h', congrArg (fun o : Option Zh => o.bind fun h4 => some h4) e, p, hv⟩
abbrev sWait (X v : Nat) : Prop := v = X + 8 ∨ v = X + 9
theorem extW {h h' : Zh} {X : Nat} {ca : Nat → Nat} {m : Ml} (e : zExt (sWait X) h h') (fx : cFix h X) (c : cLog h X ca m) : cFix h' X ∧ cLog h' X ca m := by
  have f0 := fx.1
  have q0 := ((e.2 X (by omega)).2.2 (fun z => z.elim (by omega) (by omega))).1
  have q1 := ((e.2 (X + 1) (by omega)).2.2 (fun z => z.elim (by omega) (by omega))).2
  refine ⟨cFix.ext e fx (fun v hv hs => ?_), cLog.ext e f0 c (by rw [q0]) (fun k => by rw [q1]) (fun k hk => ?_)⟩
  · exfalso
    rcases hv with z | z | z | ⟨d, _, z⟩ <;> rcases hs with y | y <;> omega
  · have := (c.2.1 k hk).2.1
    exact ⟨fun z => z.elim (by omega) (by omega), fun z => z.elim (by omega) (by omega)⟩
/-- h1 is h with the rows of waits laid anew -/
def cW (X : Nat) (h h1 : Zh) (T : Nat → Tm) : Prop := (zExt (sWait X) h h1 ∧ zn h1 = zn h ∧ zs h1 = zs h ∧ zp h1 = zp h) ∧ ∀ v, v < 144 → zi h1 (X + 8) v = (T v).1 ∧ zi h1 (X + 9) v = (T v).2.1
theorem csw_eq {h h1 : Zh} {X : Nat} {ca : Nat → Nat} {m : Ml} (fx : cFix h X) (c : cLog h X ca m) (ok : mOK m) {T : Nat → Tm} (w : cW X h h1 T) {k i : Nat} (hk : k < mnc m) (i0 : 1 ≤ i) (hi : i < mlen m k)
    {T' : Nat → Tm} (hT1 : ∀ v, v < 144 → (mdt m k i 0 = nI (v / 12) ∧ mdt m k (i - 1) 0 = nI (v % 12)) → T' v = mTake (T v) (mdt m k (i - 1) 3) (mdt m k i 2)) (hT0 : ∀ v, v < 144 → ¬ (mdt m k i 0 = nI (v / 12) ∧ mdt m k (i - 1) 0 = nI (v % 12)) → T' v = T v) :
    ∃ h2, fX5_sumWait h1 (some X) (some (ca k)) (nI i) = some h2 ∧ cW X h h2 T' := by
  obtain ⟨⟨e, e1, e2, e3⟩, hw⟩ := w
  obtain ⟨fx1, c1⟩ := extW e fx c
  have f0 := fx1.1
  have hl6 := ok.2.1 k
  unfold fX5_sumWait
  have hn0 := (ok.2.2.2 k i hi).1
  have hn1 := (ok.2.2.2 k (i - 1) (by omega)).1
  have t0 := ctell_m c1 ok hk hi (q := 0) (by omega)
  have t1 := ctell_m c1 ok hk (show i - 1 < mlen m k by omega) (q := 0) (by omega)
  have t2 := ctell_m c1 ok hk hi (q := 2) (by omega)
  have t3 := ctell_m c1 ok hk (show i - 1 < mlen m k by omega) (q := 3) (by omega)
  have es : nI i - (1 : Int32) = nI (i - 1) := by rw [show (1 : Int32) = nI 1 from rfl, pk_sub i0]
  rw [cob_m c1 hk, Option.bind_some, es, show (3 : Int32) = nI 3 from rfl, t3, Option.bind_some, Option.bind_some, show (2 : Int32) = nI 2 from rfl, t2, Option.bind_some, Option.bind_some, show (0 : Int32) = nI 0 from rfl, t0, Option.bind_some, Option.bind_some, t1, Option.bind_some]
  have same : (mdt m k (i - 1) 3 = -1 ∨ mdt m k i 2 = -1) → ∃ h2, some h1 = some h2 ∧ cW X h h2 T' := by
    intro z
    refine ⟨h1, rfl, ⟨e, e1, e2, e3⟩, fun v v1 => ?_⟩
    by_cases p : mdt m k i 0 = nI (v / 12) ∧ mdt m k (i - 1) 0 = nI (v % 12)
    · rw [hT1 v v1 p]
      unfold mTake
      rw [if_pos z]
      exact hw v v1
    · rw [hT0 v v1 p]; exact hw v v1
  by_cases p1 : mdt m k (i - 1) 3 = -1
  · rw [if_pos p1]; exact same (Or.inl p1)
  rw [if_neg p1]
  by_cases p2 : mdt m k i 2 = -1
  · rw [if_pos p2]; exact same (Or.inr p2)
  rw [if_neg p2]
  have p12 : ¬ (mdt m k (i - 1) 3 = -1 ∨ mdt m k i 2 = -1) := fun z => z.elim p1 p2
  obtain ⟨ex, lx⟩ := mnm_nI hn0
  obtain ⟨ey, ly⟩ := mnm_nI hn1
  generalize (mdt m k i 0).toNatClampNeg = x at ex lx
  generalize (mdt m k (i - 1) 0).toNatClampNeg = y at ey ly
  rw [ex, ey, show (12 : Int32) = nI 12 from rfl, pk_mul, nI_add]
  have hx144 : 12 * x + y < 144 := by omega
  obtain ⟨r1, r2⟩ := fx1.2.2.2.2.2.2.2.1.1
  obtain ⟨r3, r4⟩ := fx1.2.2.2.2.2.2.2.1.2
  have g6 : zfP h1 (some X) 6 6 = some (some (X + 8)) := by rw [zfP_v (by omega) fx1.2.1.1, fx1.2.1.2.2.2.2.2.1]
  rw [if_neg (show ¬ nI (12 * x + y) < nI 0 from nI_nlt (by omega) (by omega)), g6, Option.bind_some, zaL_v (t := 0) (by omega) r1, Option.bind_some, r2, if_pos (nI_lt hx144 (by omega)), Option.bind_some, zaI_v (n := 144) (by omega) r1 r2 hx144 (by omega), Option.bind_some, zbI_v (n := 144) (by omega) r1 r2 hx144 (by omega), Option.bind_some, zfP_v (show X < zn (zsetI h1 (X + 8) (12 * x + y) _) from by show X < zn h1; omega) fx1.2.1.1, zp_sI, fx1.2.1.2.2.2.2.2.2, Option.bind_some, zaI_v (n := 144) (show X + 9 < zn (zsetI h1 (X + 8) (12 * x + y) _) from by show X + 9 < zn h1; omega) r3 r4 hx144 (by omega), Option.bind_some, zbI_v (n := 144) (show X + 9 < zn (zsetI h1 (X + 8) (12 * x + y) _) from by show X + 9 < zn h1; omega) r3 r4 hx144 (by omega)]
  refine ⟨_, rfl, ⟨(e.up (Or.inl (Or.inl rfl))).up (Or.inl (Or.inr rfl)), e1, e2, e3⟩, fun v v1 => ?_⟩
  rw [zi_sI, zi_sI]
  by_cases p : v = 12 * x + y
  · have pp : nI x = nI (v / 12) ∧ nI y = nI (v % 12) := ⟨congrArg nI (by omega), congrArg nI (by omega)⟩
    rw [hT1 v v1 (by rw [ex, ey]; exact pp)]
    unfold mTake
    rw [if_neg p12, ← p, u2_n (by omega), u2_s, u2_s, u2_n (by omega), (hw v v1).1, (hw v v1).2]
    exact ⟨rfl, rfl⟩
  · have pp : ¬ (nI x = nI (v / 12) ∧ nI y = nI (v % 12)) := fun z => p (by
      have z1 := (nI_eq (by omega) (by omega)).mp z.1
      have z2 := (nI_eq (by omega) (by omega)).mp z.2
      omega)
    rw [hT0 v v1 (by rw [ex, ey]; exact pp), u2_n (by omega), u2_n (by omega), u2_n (by omega), u2_n (by omega)]
    exact hw v v1
abbrev cSg (this : Option Nat) (r12 : Option Nat) : Int32 × Zh → Option ((Int32 × Zh) ⊕ Zh) := fun ((v15, h16) : Int32 × Zh) =>
  ((zfI h16 r12 1 1).bind fun x20 =>
  if x20 ≤ v15 then
    some (.inr h16)
  else
    (zob h16 this 7).bind fun p21 =>
    (fX5_sumWait h16 (some p21) r12 v15).bind fun h22 =>
    some (.inl (v15 + (1 : Int32), h22)) : Option ((Int32 × Zh) ⊕ Zh))
abbrev cSf (this : Option Nat) : Int32 × Zh → Option ((Int32 × Zh) ⊕ Zh) := fun ((v5, h6) : Int32 × Zh) =>
  ((zfI h6 this 6 1).bind fun x10 =>
  if x10 ≤ v5 then
    some (.inr h6)
  else
    (zob h6 this 7).bind fun p11 =>
    (fX5_inLog h6 (some p11) v5).bind fun r12 =>
    (if r12 = none then
      some h6
    else
      (zloop (cSg this r12) zFU ((1 : Int32), h6)).bind fun (h17 : Zh) =>
      some h17).bind fun (h13 : Zh) =>
    some (.inl (v5 + (1 : Int32), h13)) : Option ((Int32 × Zh) ⊕ Zh))
noncomputable def mWT (m : Ml) (n v : Nat) : Tm := mLagT m (nI (v / 12)) (nI (v % 12)) n
theorem mWT_s {m : Ml} {a b k v : Nat} (h : ∀ j, a ≤ j → j < a + b → ¬ mIn m j ∨ j % 6 = 0) : mWT m (a + b) v = mWT m a v :=
  mSum_skip b (fun j j1 j2 z => (h j j1 j2).elim (fun y => y z.1) (fun y => by have := z.2.1; omega))
theorem cwaits_eq {h : Zh} {X : Nat} {ca : Nat → Nat} {m : Ml} (fx : cFix h X) (c : cLog h X ca m) (ok : mOK m) : ∃ h', fX5_sumWaits h (some X) = some h' ∧ cW X h h' (mWT m 144) := by
  have h24 := ok.1
  have f0 := fx.1
  obtain ⟨r1, r2⟩ := fx.2.2.2.2.2.2.2.1.1
  obtain ⟨r3, r4⟩ := fx.2.2.2.2.2.2.2.1.2
  unfold fX5_sumWaits
  obtain ⟨g1, a1, ⟨a2, a3, a4, a5⟩, a6⟩ := cfill_eq (show X + 8 < zn h by omega) r1 r2 (by omega) 0
  rw [zfP_v (by omega) fx.2.1.1, fx.2.1.2.2.2.2.2.1, Option.bind_some, a1, Option.bind_some]
  obtain ⟨k1, k2, k3⟩ := a2.2 X (by omega)
  obtain ⟨l1, l2, l3⟩ := a2.2 (X + 9) (by omega)
  obtain ⟨g2, b1, ⟨b2', b3, b4, b5⟩, b6⟩ := cfill_eq (h := g1) (show X + 9 < zn g1 by omega) (l1.trans r3) (l2.trans r4) (by omega) 0
  rw [zfP_v (by omega) (k1.trans fx.2.1.1), a5, fx.2.1.2.2.2.2.2.2, Option.bind_some, b1, Option.bind_some]
  have w0 : cW X h g2 (fun _ => mT0) := by
    refine ⟨⟨(a2.mono (fun _ _ z => Or.inl z)).tr (b2'.mono (fun _ _ z => Or.inr z)), b3.trans a3, b4.trans a4, b5.trans a5⟩, fun v v1 => ⟨?_, b6 v v1⟩⟩
    rw [((b2'.2 (X + 8) (by omega)).2.2 (by omega)).1]
    exact a6 v v1
  have hP : ∀ k, ¬ (k < mnc m ∧ mdr m k = false) → ∀ v, mWT m (6 * (k + 1)) v = mWT m (6 * k) v := fun k hk v => mSum_none (fun _ z => z.1) hk
  have q := cloopH (h0 := g2) ok (fun k h2 => cW X h h2 (mWT m (6 * k))) (fun k h2 j => extW j.1.1 fx c) (f := cSf (some X)) (B := fun r12 h6 => if r12 = none then some h6 else (zloop (cSg (some X) r12) zFU ((1 : Int32), h6)).bind fun (h17 : Zh) => some h17) (fun c h => rfl) (fun _ => rfl) (fun k h2 hk hd j => ?_) (fun k h2 hk hd j => ?_) w0
  · obtain ⟨h3, e, j⟩ := q
    refine ⟨h3, congrArg (fun o : Option Zh => o.bind fun h7 => some h7) e, ?_⟩
    have e9 : mWT m (6 * mnc m) = mWT m 144 := funext fun v => mSum_144 ok (fun _ z => z.1)
    rw [← e9]
    exact j
  · obtain ⟨fx2, c2⟩ := extW j.1.1 fx c
    have hl6 := ok.2.1 k
    show ∃ h', (if some (ca k) = none then some h2 else _) = some h' ∧ _
    rw [if_neg (fun z => by cases z)]
    have q := dloopH (h0 := h2) (c := ca k) (L := mlen m k) (i0 := 1) (f := cSg (some X) (some (ca k))) (B := fun h i => (zob h (some X) 7).bind fun p21 => fX5_sumWait h (some p21) (some (ca k)) i) (fun i h3 => cW X h h3 (mWT m (6 * k + i))) (fun i h3 j3 => by
      obtain ⟨fx3, c3⟩ := extW j3.1.1 fx c
      obtain ⟨d1, d2, d3, d4, d5, d6, d7, d8, d9, d10⟩ := c3.2.1 k hk
      rw [zfI_v (by omega) d4, d8]) hl6 (fun i h => by
        refine congrArg (Option.bind (zfI h (some (ca k)) 1 1)) (funext fun x => ?_)
        show (if x ≤ i then _ else _) = _
        by_cases z : x ≤ i
        · rw [if_pos z, if_pos z]
        · rw [if_neg z, if_neg z, Option.bind_assoc]) (fun i h3 i1 i2 j3 => by
        obtain ⟨fx3, c3⟩ := extW j3.1.1 fx c
        have f3 := fx3.1
        show ∃ h', ((zob h3 (some X) 7).bind fun p21 => fX5_sumWait h3 (some p21) (some (ca k)) (nI i)) = some h' ∧ _
        rw [zob_v (by omega) fx3.2.1.1, Option.bind_some]
        have hPr : ∀ v, mPair m 0 (nI (v / 12)) (nI (v % 12)) (6 * k + i) ↔ mdt m k i 0 = nI (v / 12) ∧ mdt m k (i - 1) 0 = nI (v % 12) := fun v => by
          rw [mPair_at (by omega)]
          exact ⟨fun z => z.2.2, fun z => ⟨⟨⟨hk, hd⟩, i2⟩, by omega, z⟩⟩
        have e6 : (6 * k + i) / 6 = k := by omega
        have e7 : (6 * k + i) % 6 = i := by omega
        refine csw_eq fx c ok j3 hk i1 i2 (fun v v1 z => ?_) (fun v v1 z => ?_)
        · have := mSum_t (P := mPair m 0 (nI (v / 12)) (nI (v % 12))) (B := fun k => mdt m (k / 6) (k % 6 - 1) 3) (E := fun k => mdt m (k / 6) (k % 6) 2) ((hPr v).mpr z)
          rw [e6, e7] at this
          exact this
        · exact mSum_f (fun y => z ((hPr v).mp y))) (by omega) (by
        have e9 : mWT m (6 * k + 1) = mWT m (6 * k) := funext fun v => mSum_f (fun z => by have := z.2.1; omega)
        show cW X h h2 (mWT m (6 * k + 1))
        rw [e9]
        exact j)
    obtain ⟨h', e, j'⟩ := q
    refine ⟨h', congrArg (fun o : Option Zh => o.bind fun h7 => some h7) e, ?_⟩
    have e9 : mWT m (6 * (k + 1)) = mWT m (6 * k + max 1 (mlen m k)) := funext fun v => mSum_end (fun _ z => z.1) (by omega) (by omega)
    rw [e9]
    exact j'
  · have e9 : mWT m (6 * (k + 1)) = mWT m (6 * k) := funext (hP k (fun y => by rw [hd] at y; exact absurd y.2 (by decide)))
    show cW X h h2 (mWT m (6 * (k + 1)))
    rw [e9]
    exact j
