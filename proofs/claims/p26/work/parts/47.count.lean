/-! passes on the class's side, stands on both, counts of deeds, trails and names -/
/-- a loop that counts -/
theorem rcloop {f : Int32 × Int32 → Option ((Int32 × Int32) ⊕ Int32)} {P : Nat → Prop} {N : Nat} (hf : ∀ k v, k < N → (P k ∧ f (v, nI k) = some (.inl (v + 1, nI (k + 1)))) ∨ (¬ P k ∧ f (v, nI k) = some (.inl (v, nI (k + 1))))) (hN : ∀ v, f (v, nI N) = some (.inr v)) (hN' : N < 100000) : zloop f zFU ((0 : Int32), (0 : Int32)) = some (mCnt P N) := by
  refine zloop_eq (fun k => (mCnt P k, nI k)) N (fun k hk => ?_) ?_ (by rw [zFU_v]; omega)
  · try dsimp only
    rcases hf k (mCnt P k) hk with ⟨p, e⟩ | ⟨p, e⟩
    · rw [e, mCnt_t p]
    · rw [e, mCnt_f p]
  · try dsimp only
    rw [hN]
theorem mCnt_add {P : Nat → Prop} {a : Nat} : ∀ j, mCnt P (a + j) = mCnt P a + mCnt (fun i => P (a + i)) j
  | 0 => (Int32.add_zero _).symm
  | j + 1 => by
    have ih := mCnt_add (P := P) (a := a) j
    by_cases h : P (a + j)
    · rw [show a + (j + 1) = (a + j) + 1 from rfl, mCnt_t h, ih, mCnt_t (P := fun i => P (a + i)) h, Int32.add_assoc]
    · rw [show a + (j + 1) = (a + j) + 1 from rfl, mCnt_f h, ih, mCnt_f (P := fun i => P (a + i)) h]
theorem mCnt_all {P : Nat → Prop} : ∀ j, (∀ i, i < j → P i) → mCnt P j = nI j
  | 0, _ => rfl
  | j + 1, h => by rw [mCnt_t (h j (by omega)), mCnt_all j (fun i hi => h i (by omega)), nI_1]
theorem mCnt_congr {P Q : Nat → Prop} : ∀ j, (∀ i, i < j → (P i ↔ Q i)) → mCnt P j = mCnt Q j
  | 0, _ => rfl
  | j + 1, h => by
    have ih := mCnt_congr (P := P) (Q := Q) j (fun i hi => h i (by omega))
    by_cases p : P j
    · rw [mCnt_t p, mCnt_t ((h j (by omega)).mp p), ih]
    · rw [mCnt_f p, mCnt_f (fun z => p ((h j (by omega)).mpr z)), ih]
/-- only one of the places from a on can count -/
theorem mCnt_one {P : Nat → Prop} {a p n : Nat} (hp : a ≤ p ∧ p < a + n) (h : ∀ k, a ≤ k → k < a + n → k ≠ p → ¬ P k) : (P p ∧ mCnt P (a + n) = mCnt P a + 1) ∨ (¬ P p ∧ mCnt P (a + n) = mCnt P a) := by
  have e1 : mCnt P p = mCnt P a := by
    rw [show p = a + (p - a) by omega]
    exact mCnt_skip _ (fun k h1 h2 => h k h1 (by omega) (by omega))
  have e2 : mCnt P (a + n) = mCnt P (p + 1) := by
    rw [show a + n = (p + 1) + (a + n - (p + 1)) by omega]
    exact mCnt_skip _ (fun k h1 h2 => h k (by omega) (by omega) (by omega))
  by_cases q : P p
  · exact Or.inl ⟨q, by rw [e2, mCnt_t q, e1]⟩
  · exact Or.inr ⟨q, by rw [e2, mCnt_f q, e1]⟩
abbrev mStand (m : Ml) (a w : Int32) (k : Nat) : Prop := mIn m k ∧ mdt m (k / 6) (k % 6) 0 = a ∧ (w = 2 ∨ (w = 0 ∧ k % 6 = 0) ∨ (w = 1 ∧ k % 6 + 1 = mlen m (k / 6)))
theorem mStand_at {m : Ml} {a w : Int32} {c i : Nat} (hi : i < 6) : mStand m a w (6 * c + i) ↔ ((c < mnc m ∧ mdr m c = false) ∧ i < mlen m c) ∧ mdt m c i 0 = a ∧ (w = 2 ∨ (w = 0 ∧ i = 0) ∨ (w = 1 ∧ i + 1 = mlen m c)) := by
  show (mIn m _ ∧ _) ↔ _
  rw [mIn_at hi, show (6 * c + i) / 6 = c by omega, show (6 * c + i) % 6 = i by omega]
noncomputable def mStands (m : Ml) (a w : Int32) : Int32 := @ite _ (mnm a 12 ∧ mnm w 3) (Classical.propDecidable _) (mCnt (mStand m a w) 144) (-1)
theorem nI_inj {a b : Nat} (ha : a < 2 ^ 31) (hb : b < 2 ^ 31) (e : nI a = nI b) : a = b := by
  have := congrArg Int32.toInt e
  rw [nI_toInt ha, nI_toInt hb] at this
  omega
/-- what a class's case tells, by its number -/
theorem cnames_eq {h : Zh} {X : Nat} {ca : Nat → Nat} {m : Ml} (c : cLog h X ca m) (ok : mOK m) {k : Nat} (hk : k < mnc m) (a : Int32) : fX0_timesNamed h (some (ca k)) a = some (mCnt (fun i => mdt m k i 0 = a) (mlen m k)) := by
  have hl6 := ok.2.1 k
  obtain ⟨d1, d2, d3, d4, d5, d6, d7, d8, d9, d10⟩ := c.2.1 k hk
  unfold fX0_timesNamed
  rw [rcloop (P := fun i => mdt m k i 0 = a) (N := mlen m k) ?_ ?_ (by omega)]
  · rfl
  · intro i v hi
    try dsimp only
    rw [zfI_v (by omega) d4, d8]
    simp only [Option.bind_some]
    rw [if_neg (nI_nle' (by omega) hi), zob_v (by omega) d4]
    simp only [Option.bind_some]
    rw [show (0 : Int32) = nI 0 from rfl, ctell_eq (n := 0) d3 d4 d5 d6 d7 (by omega) (by omega), d10 i 0 hi (by omega)]
    simp only [Option.bind_some]
    by_cases p : mdt m k i 0 = a
    · rw [if_pos p]; simp only [Option.bind_some]; rw [nI_1]; exact Or.inl ⟨p, rfl⟩
    · rw [if_neg p]; simp only [Option.bind_some]; rw [nI_1]; exact Or.inr ⟨p, rfl⟩
  · intro v
    try dsimp only
    rw [zfI_v (by omega) d4, d8]
    simp only [Option.bind_some]
    rw [if_pos (nI_le (Nat.le_refl _) (by omega))]
theorem mCnt_none {P : Nat → Prop} {m : Ml} (hP : ∀ k, P k → mIn m k) {c : Nat} (hc : ¬ (c < mnc m ∧ mdr m c = false)) : mCnt P (6 * (c + 1)) = mCnt P (6 * c) := by
  rw [show 6 * (c + 1) = 6 * c + 6 by omega, mCnt_skip]
  intro q h1 h2 z
  exact mIn_not hc h1 h2 (hP q z)
theorem mCnt_144 {P : Nat → Prop} {m : Ml} (ok : mOK m) (hP : ∀ k, P k → mIn m k) : mCnt P (6 * mnc m) = mCnt P 144 := by
  have h24 := ok.1
  rw [show 144 = 6 * mnc m + (144 - 6 * mnc m) by omega, mCnt_skip]
  intro k h1 h2 z
  have := (hP k z).1
  omega
theorem cstands_eq {h : Zh} {X : Nat} {ca : Nat → Nat} {m : Ml} (fx : cFix h X) (c : cLog h X ca m) (ok : mOK m) (a w : Int32) : fX5_stands h (some X) a w = some (mStands m a w) := by
  have h24 := ok.1
  have f0 := fx.1
  unfold fX5_stands mStands
  rw [cname_eq]
  rw [Option.bind_some]
  by_cases h1 : mnm a 12
  · rw [if_neg (fun z => b2_z.mp z h1)]
    by_cases h2 : mnm w 3
    · obtain ⟨ew, lw⟩ := mnm_nI h2
      generalize w.toNatClampNeg = q at ew lw
      subst ew
      have h12 : mnm a 12 ∧ mnm (nI q) 3 := ⟨h1, h2⟩
      rw [if_pos h12]
      rw [if_neg (nI_pos (by omega)), if_pos (show nI q ≤ (2 : Int32) from nI_le (b := 2) (by omega) (by omega))]
      have hPm : ∀ k, mStand m a (nI q) k → mIn m k := fun k z => z.1
      refine Eq.trans (congrArg (fun o : Option Int32 => o.bind fun w3 => some w3) (cloop fx c ok (fun v c => rfl) (fun k => mCnt (mStand m a (nI q)) (6 * k)) (fun v => rfl) (fun k hk hd => ?_) (fun k hk hd => mCnt_none hPm (fun y => by rw [hd] at y; exact absurd y.2 (by decide))))) ?_
      rotate_left 1
      · exact congrArg some (mCnt_144 ok hPm)
      obtain ⟨d1, d2, d3, d4, d5, d6, d7, d8, d9, d10⟩ := c.2.1 k hk
      have hl6 := ok.2.1 k
      have f2 : zob h (some (ca k)) 2 = some (ca k) := zob_v (by omega) d4
      have f1 : zfI h (some (ca k)) 1 1 = some (nI (mlen m k)) := by rw [zfI_v (by omega) d4, d8]
      show (if some (ca k) = none then _ else _) = _
      rw [if_neg (fun z => by cases z), f1, f2]
      simp only [Option.bind_some]
      show _ = some (mCnt _ (6 * (k + 1)))
      rw [show 6 * (k + 1) = 6 * k + 6 by omega]
      by_cases e0 : mlen m k = 0
      · rw [e0, if_pos (by rfl), mCnt_skip]
        intro j j1 j2 z
        have := z.1.2.2
        rw [show j / 6 = k by omega] at this
        omega
      · have e0' : ¬ nI (mlen m k) = (0 : Int32) := fun z => e0 (nI_inj (by omega) (by omega) (show nI (mlen m k) = nI 0 from z))
        rw [if_neg e0']
        rcases (show q = 0 ∨ q = 1 ∨ q = 2 by omega) with rfl | rfl | rfl
        · rw [if_pos (by rfl), show (0 : Int32) = nI 0 from rfl, ctell_eq (n := 0) d3 d4 d5 d6 d7 (by omega) (by omega), d10 0 0 (by omega) (by omega)]
          simp only [Option.bind_some]
          have key := mCnt_one (P := mStand m a (nI 0)) (a := 6 * k) (p := 6 * k + 0) (n := 6) ⟨by omega, by omega⟩ (fun j j1 j2 j3 z => by
            rcases z.2.2 with y | y | y
            · exact absurd y (by decide)
            · have := y.2; omega
            · exact absurd y.1 (by decide))
          rw [mStand_at (by omega)] at key
          by_cases p : mdt m k 0 0 = a
          · rw [if_pos p]
            simp only [Option.bind_some]
            rw [if_neg (by decide)]
            simp only [Option.bind_some]
            rw [if_neg (by decide)]
            rcases key with ⟨-, y⟩ | ⟨y, -⟩
            · rw [y]
            · exact absurd ⟨⟨⟨hk, hd⟩, by omega⟩, p, Or.inr (Or.inl ⟨rfl, rfl⟩)⟩ y
          · rw [if_neg p]
            simp only [Option.bind_some]
            rw [if_neg (by decide)]
            simp only [Option.bind_some]
            rw [if_neg (by decide)]
            rcases key with ⟨y, -⟩ | ⟨-, y⟩
            · exact absurd y.2.1 p
            · rw [y]
        · rw [if_neg (by decide)]
          simp only [Option.bind_some]
          rw [if_pos (by rfl), show (0 : Int32) = nI 0 from rfl, show (1 : Int32) = nI 1 from rfl, pk_sub (by omega), ctell_eq (n := 0) d3 d4 d5 d6 d7 (by omega) (by omega), d10 (mlen m k - 1) 0 (by omega) (by omega)]
          simp only [Option.bind_some]
          have key := mCnt_one (P := mStand m a (nI 1)) (a := 6 * k) (p := 6 * k + (mlen m k - 1)) (n := 6) ⟨by omega, by omega⟩ (fun j j1 j2 j3 z => by
            rcases z.2.2 with y | y | y
            · exact absurd y (by decide)
            · exact absurd y.1 (by decide)
            · have := y.2
              rw [show j / 6 = k by omega] at this
              omega)
          rw [mStand_at (by omega)] at key
          by_cases p : mdt m k (mlen m k - 1) 0 = a
          · rw [if_pos p]
            simp only [Option.bind_some]
            rw [if_neg (by decide)]
            rcases key with ⟨-, y⟩ | ⟨y, -⟩
            · rw [y]; rfl
            · exact absurd ⟨⟨⟨hk, hd⟩, by omega⟩, p, Or.inr (Or.inr ⟨rfl, by omega⟩)⟩ y
          · rw [if_neg p]
            simp only [Option.bind_some]
            rw [if_neg (by decide)]
            rcases key with ⟨y, -⟩ | ⟨-, y⟩
            · exact absurd y.2.1 p
            · rw [y]
        · rw [if_neg (by decide)]
          simp only [Option.bind_some]
          rw [if_neg (by decide)]
          simp only [Option.bind_some]
          rw [if_pos (by rfl), cnames_eq c ok hk]
          simp only [Option.bind_some]
          rw [mCnt_add 6]
          refine congrArg some (congrArg (fun z => mCnt (mStand m a (nI 2)) (6 * k) + z) ?_)
          have t : mCnt (fun i => mStand m a (nI 2) (6 * k + i)) 6 = mCnt (fun i => mStand m a (nI 2) (6 * k + i)) (mlen m k) := by
            have t2 := mCnt_skip (P := fun i => mStand m a (nI 2) (6 * k + i)) (a := mlen m k) (6 - mlen m k) (fun j j1 j2 z => by
              have := ((mStand_at (show j < 6 by omega)).mp z).1.2
              omega)
            rw [Nat.add_sub_of_le hl6] at t2
            exact t2
          rw [t]
          refine mCnt_congr _ (fun i hi => ?_)
          rw [mStand_at (by omega)]
          exact ⟨fun z => ⟨⟨⟨hk, hd⟩, hi⟩, z, Or.inl rfl⟩, fun z => z.2.1⟩
    · rw [if_neg (fun z : mnm a 12 ∧ mnm w 3 => h2 z.2)]
      by_cases g1 : w < 0
      · rw [if_pos g1]
      · have e3 : (2 : Int32).toInt = 2 := by decide
        have hw3 : ¬ w ≤ (2 : Int32) := fun z => h2 ⟨by have := mt (i0_lt w).mpr g1; omega, by have := Int32.le_iff_toInt_le.mp z; omega⟩
        rw [if_neg g1, if_neg hw3]
  · rw [if_pos (b2_z.mpr h1), if_neg (fun z : mnm a 12 ∧ mnm w 3 => h1 z.1)]
