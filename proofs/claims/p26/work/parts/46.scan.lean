/-! going through the log: all deeds k = 6 c + i -/
abbrev mIn (m : Ml) (k : Nat) : Prop := k / 6 < mnc m ∧ mdr m (k / 6) = false ∧ k % 6 < mlen m (k / 6)
def mScan {S : Type} (st : S → Nat → S) (s0 : S) : Nat → S
  | 0 => s0
  | k + 1 => st (mScan st s0 k) k
theorem mScan_skip {S : Type} {st : S → Nat → S} {s0 : S} {a : Nat} : ∀ d, (∀ k s, a ≤ k → k < a + d → st s k = s) → mScan st s0 (a + d) = mScan st s0 a
  | 0, _ => rfl
  | d + 1, h => by
    show st (mScan st s0 (a + d)) (a + d) = _
    rw [h (a + d) _ (by omega) (by omega)]
    exact mScan_skip d (fun k s h1 h2 => h k s h1 (by omega))
/-- a count -/
noncomputable def mCnt (P : Nat → Prop) : Nat → Int32 := mScan (fun v k => @ite _ (P k) (Classical.propDecidable _) (v + 1) v) 0
theorem mCnt_t {P : Nat → Prop} {k : Nat} (h : P k) : mCnt P (k + 1) = mCnt P k + 1 := by
  show @ite _ (P k) (Classical.propDecidable _) _ _ = _
  rw [if_pos h]; rfl
theorem mCnt_f {P : Nat → Prop} {k : Nat} (h : ¬ P k) : mCnt P (k + 1) = mCnt P k := by
  show @ite _ (P k) (Classical.propDecidable _) _ _ = _
  rw [if_neg h]; rfl
theorem mCnt_skip {P : Nat → Prop} {a : Nat} (d : Nat) (h : ∀ k, a ≤ k → k < a + d → ¬ P k) : mCnt P (a + d) = mCnt P a :=
  mScan_skip d (fun k s h1 h2 => if_neg (h k h1 h2))
theorem mIn_not {m : Ml} {c k : Nat} (h : ¬ (c < mnc m ∧ mdr m c = false)) (h1 : 6 * c ≤ k) (h2 : k < 6 * c + 6) : ¬ mIn m k := by
  have e : k / 6 = c := by omega
  rintro ⟨a, b, -⟩
  rw [e] at a b
  exact h ⟨a, b⟩
theorem mIn_at {m : Ml} {c i : Nat} (hi : i < 6) : mIn m (6 * c + i) ↔ (c < mnc m ∧ mdr m c = false) ∧ i < mlen m c := by
  show (_ < mnc m ∧ _ ∧ _) ↔ _
  rw [show (6 * c + i) / 6 = c by omega, show (6 * c + i) % 6 = i by omega, and_assoc]
/-- the class's way through its cases -/
theorem cloop {h : Zh} {X : Nat} {ca : Nat → Nat} {m : Ml} (fx : cFix h X) (c : cLog h X ca m) (ok : mOK m) {f : Int32 × Int32 → Option ((Int32 × Int32) ⊕ Int32)} {B : Option Nat → Int32 → Option Int32}
    (hf : ∀ v c, f (v, c) = (zfI h (some X) 6 1).bind fun x6 => if x6 ≤ c then some (.inr v) else (zob h (some X) 7).bind fun p7 => (fX5_inLog h (some p7) c).bind fun r8 => (B r8 v).bind fun v9 => some (.inl (v9, c + (1 : Int32))))
    (F : Nat → Int32) (hB0 : ∀ v, B none v = some v) (hB : ∀ c, c < mnc m → mdr m c = false → B (some (ca c)) (F c) = some (F (c + 1))) (hF : ∀ c, c < mnc m → mdr m c = true → F (c + 1) = F c) : zloop f zFU (F 0, (0 : Int32)) = some (F (mnc m)) := by
  have h24 := ok.1
  have f0 := fx.1
  refine zloop_eq (fun k => (F k, nI k)) (mnc m) (fun k hk => ?_) ?_ (by rw [zFU_v]; omega)
  · try dsimp only
    rw [hf, zfI_v (by omega) fx.2.1.1, c.1]
    simp only [Option.bind_some]
    rw [if_neg (nI_nle' (by omega) hk), zob_v (by omega) fx.2.1.1]
    simp only [Option.bind_some]
    have hm : mnm (nI k) (mnc m) := nI_mnm hk (by omega)
    rw [clog_eq fx c ok, nI_clamp (by omega)]
    simp only [Option.bind_some]
    by_cases hd : mdr m k = true
    · rw [if_neg (fun z => by rw [hd] at z; exact absurd z.2 (by decide)), hB0]
      simp only [Option.bind_some]
      rw [hF k hk hd, nI_1]
    · have hd' : mdr m k = false := by simpa using hd
      rw [if_pos ⟨hm, hd'⟩, hB k hk hd']
      simp only [Option.bind_some]
      rw [nI_1]
  · try dsimp only
    rw [hf, zfI_v (by omega) fx.2.1.1, c.1]
    simp only [Option.bind_some]
    rw [if_pos (nI_le (by omega) (by omega))]
/-- pairs of deeds: w tells a of the one behind, b of the one ahead -/
abbrev mPair (m : Ml) (w : Nat) (a b : Int32) (k : Nat) : Prop := mIn m k ∧ 0 < k % 6 ∧ mdt m (k / 6) (k % 6) w = a ∧ mdt m (k / 6) (k % 6 - 1) w = b
noncomputable def mPairs (m : Ml) (w : Nat) (a b : Int32) : Int32 := mCnt (mPair m w a b) 144
theorem mPair_at {m : Ml} {w : Nat} {a b : Int32} {c i : Nat} (hi : i < 6) : mPair m w a b (6 * c + i) ↔ ((c < mnc m ∧ mdr m c = false) ∧ i < mlen m c) ∧ 0 < i ∧ mdt m c i w = a ∧ mdt m c (i - 1) w = b := by
  show (mIn m _ ∧ _) ↔ _
  rw [mIn_at hi, show (6 * c + i) / 6 = c by omega, show (6 * c + i) % 6 = i by omega]
noncomputable def mFollows (m : Ml) (a b : Int32) : Int32 := @ite _ (mnm a 12 ∧ mnm b 12) (Classical.propDecidable _) (mPairs m 0 a b) (-1)
theorem cpairs_eq {h : Zh} {X : Nat} {ca : Nat → Nat} {m : Ml} (fx : cFix h X) (c : cLog h X ca m) (ok : mOK m) (w : Nat) (hw : w < 2) (b a : Int32) : fX5_pairs h (some X) (nI w) b a = some (mPairs m w a b) := by
  have h24 := ok.1
  have f0 := fx.1
  unfold fX5_pairs
  refine Eq.trans (congrArg (fun o : Option Int32 => o.bind fun w3 => some w3) (cloop fx c ok (fun v c => rfl) (fun k => mCnt (mPair m w a b) (6 * k)) (fun v => rfl) (fun k hk hd => ?_) (fun k hk hd => ?_))) ?_
  rotate_left 2
  · refine congrArg some ?_
    show mCnt _ (6 * mnc m) = mCnt _ 144
    rw [show 144 = 6 * mnc m + (144 - 6 * mnc m) by omega, mCnt_skip]
    intro k h1 h2 z
    exact absurd z.1.1 (by omega)
  · obtain ⟨d1, d2, d3, d4, d5, d6, d7, d8, d9, d10⟩ := c.2.1 k hk
    have hl6 := ok.2.1 k
    have inner : ∀ i, i ≤ mlen m k → 1 ≤ i → zloop (fun ((v11, v12) : Int32 × Int32) =>
          ((zfI h (some (ca k)) 1 1).bind fun x16 =>
          if x16 ≤ v12 then
            some (.inr v11)
          else
            (zob h (some (ca k)) 2).bind fun p17 =>
            (fX0_tell h (some p17) (v12 - (1 : Int32)) (nI w)).bind fun x18 =>
            (if x18 = b then
              (zob h (some (ca k)) 2).bind fun p21 =>
              (fX0_tell h (some p21) v12 (nI w)).bind fun x22 =>
              if x22 = a then
                some (v11 + (1 : Int32))
              else
                some v11
            else
              some v11).bind fun (v19 : Int32) =>
            some (.inl (v19, v12 + (1 : Int32))) : Option ((Int32 × Int32) ⊕ Int32))) zFU (mCnt (mPair m w a b) (6 * k + 1), (1 : Int32)) = some (mCnt (mPair m w a b) (6 * k + mlen m k)) := by
      intro i hi h1
      have q := zloop_eq (f := (fun ((v11, v12) : Int32 × Int32) =>
          ((zfI h (some (ca k)) 1 1).bind fun x16 =>
          if x16 ≤ v12 then
            some (.inr v11)
          else
            (zob h (some (ca k)) 2).bind fun p17 =>
            (fX0_tell h (some p17) (v12 - (1 : Int32)) (nI w)).bind fun x18 =>
            (if x18 = b then
              (zob h (some (ca k)) 2).bind fun p21 =>
              (fX0_tell h (some p21) v12 (nI w)).bind fun x22 =>
              if x22 = a then
                some (v11 + (1 : Int32))
              else
                some v11
            else
              some v11).bind fun (v19 : Int32) =>
            some (.inl (v19, v12 + (1 : Int32))) : Option ((Int32 × Int32) ⊕ Int32)))) (fun j => (mCnt (mPair m w a b) (6 * k + 1 + j), nI (1 + j))) (mlen m k - 1) (r := mCnt (mPair m w a b) (6 * k + mlen m k)) (n := zFU) (fun j hj => ?_) ?_ (by rw [zFU_v]; omega)
      · exact q
      · dsimp only
        rw [zfI_v (by omega) d4, d8, zob_v (by omega) d4]
        simp only [Option.bind_some]
        have e1 : nI (1 + j) - (1 : Int32) = nI j := by rw [show (1 : Int32) = nI 1 from rfl, pk_sub (by omega), Nat.add_sub_cancel_left]
        rw [if_neg (nI_nle' (by omega) (show 1 + j < mlen m k by omega)), e1, ctell_eq (n := 0) d3 d4 d5 d6 d7 (by omega) (by omega), ctell_eq (n := 0) d3 d4 d5 d6 d7 (show 1 + j < 6 by omega) (by omega)]
        simp only [Option.bind_some]
        rw [d10 j w (by omega) (by omega), d10 (1 + j) w (by omega) (by omega)]
        have hP : mPair m w a b (6 * k + (1 + j)) ↔ mdt m k (1 + j) w = a ∧ mdt m k j w = b := by
          rw [mPair_at (by omega), show 1 + j - 1 = j by omega]
          exact ⟨fun z => z.2.2, fun z => ⟨⟨⟨hk, hd⟩, by omega⟩, by omega, z⟩⟩
        rw [show nI (1 + j) + (1 : Int32) = nI (1 + (j + 1)) by rw [nI_1]; rfl, show 6 * k + 1 + (j + 1) = (6 * k + (1 + j)) + 1 by omega, show 6 * k + 1 + j = 6 * k + (1 + j) by omega]
        by_cases c1 : mdt m k j w = b
        · rw [if_pos c1]
          by_cases c2 : mdt m k (1 + j) w = a
          · rw [if_pos c2, mCnt_t (hP.mpr ⟨c2, c1⟩)]; rfl
          · rw [if_neg c2, mCnt_f (fun z => c2 (hP.mp z).1)]; rfl
        · rw [if_neg c1, mCnt_f (fun z => c1 (hP.mp z).2)]; rfl
      · dsimp only
        rw [zfI_v (by omega) d4, d8]
        simp only [Option.bind_some]
        rw [show 1 + (mlen m k - 1) = mlen m k by omega, if_pos (nI_le (Nat.le_refl _) (by omega)), show 6 * k + 1 + (mlen m k - 1) = 6 * k + mlen m k by omega]
    have s1 : mCnt (mPair m w a b) (6 * k + 1) = mCnt (mPair m w a b) (6 * k) := mCnt_f (fun z => by have := z.2.1; omega)
    have s6 : mCnt (mPair m w a b) (6 * (k + 1)) = mCnt (mPair m w a b) (6 * k + mlen m k) := by
      rw [show 6 * (k + 1) = 6 * k + mlen m k + (6 - mlen m k) by omega, mCnt_skip]
      intro q h1 h2 z
      have := z.1.2.2
      rw [show q / 6 = k by omega] at this
      omega
    show (if some (ca k) = none then _ else _) = _
    rw [if_neg (fun z => by cases z)]
    rw [s6]
    by_cases hl : 1 ≤ mlen m k
    · have := inner (mlen m k) (Nat.le_refl _) hl
      rw [s1] at this
      rw [this]
      rfl
    · have e0 : mlen m k = 0 := by omega
      have st : ∀ (f : Int32 × Int32 → Option ((Int32 × Int32) ⊕ Int32)) (s : Int32 × Int32) (r : Int32), f s = some (.inr r) → zloop f zFU s = some r := by
        intro f s r hfr
        show zloop f (99999 + 1) s = _
        show ((f s).bind _) = _
        rw [hfr]
        rfl
      rw [st _ _ (mCnt (mPair m w a b) (6 * k)) ?_, e0]
      · rfl
      · dsimp only
        rw [zfI_v (by omega) d4, d8]
        simp only [Option.bind_some]
        rw [if_pos (by rw [e0]; decide)]
  · show mCnt _ (6 * (k + 1)) = mCnt _ (6 * k)
    rw [show 6 * (k + 1) = 6 * k + 6 by omega, mCnt_skip]
    intro q h1 h2 z
    exact mIn_not (c := k) (fun y => by rw [hd] at y; exact absurd y.2 (by decide)) h1 h2 z.1
theorem cfollows_eq {h : Zh} {X : Nat} {ca : Nat → Nat} {m : Ml} (fx : cFix h X) (c : cLog h X ca m) (ok : mOK m) (a b : Int32) : fX5_follows h (some X) a b = some (mFollows m a b) := by
  have f0 := fx.1
  unfold fX5_follows mFollows
  rw [cname_eq, cname_eq]
  simp only [Option.bind_some, b2_z]
  by_cases h1 : mnm a 12
  · rw [if_neg (fun z => z h1)]
    by_cases h2 : mnm b 12
    · rw [if_neg (fun z => z h2), zob_v (by omega) fx.2.1.1, if_pos ⟨h1, h2⟩]
      simp only [Option.bind_some]
      rw [show (0 : Int32) = nI 0 from rfl, cpairs_eq fx c ok 0 (by omega)]
      rfl
    · rw [if_pos h2, if_neg (fun z => h2 z.2)]
  · rw [if_pos h1, if_neg (fun z => h1 z.1)]
