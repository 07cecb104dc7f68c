/-! a trail's names as one number -/
theorem nI_or (a b : Nat) : nI a ||| nI b = nI (a ||| b) := by
  refine Int32.toBitVec_inj.mp ?_
  refine (Int32.toBitVec_or _ _).trans ?_
  show BitVec.ofNat 32 a ||| BitVec.ofNat 32 b = BitVec.ofNat 32 (a ||| b)
  exact BitVec.ofNat_or.symm
def mRow (f : Nat → Nat) : Nat → Nat
  | 0 => 0
  | n + 1 => mRow f n + f n * 16 ^ n
theorem mRow_lt {f : Nat → Nat} (hf : ∀ i, f i < 16) : ∀ n, mRow f n < 16 ^ n
  | 0 => by show (0 : Nat) < 1; omega
  | n + 1 => by
    have ih := mRow_lt hf n
    show mRow f n + f n * 16 ^ n < 16 ^ (n + 1)
    have : f n * 16 ^ n ≤ 15 * 16 ^ n := Nat.mul_le_mul_right _ (by have := hf n; omega)
    rw [Nat.pow_succ]
    omega
theorem mRow_or {f : Nat → Nat} (hf : ∀ i, f i < 16) (n : Nat) : mRow f n ||| (f n * 16 ^ n) = mRow f (n + 1) := by
  have e : (16 : Nat) ^ n = 2 ^ (4 * n) := by rw [Nat.pow_mul]
  have := Nat.two_pow_add_eq_or_of_lt (show mRow f n < 2 ^ (4 * n) by rw [← e]; exact mRow_lt hf n) (f n)
  show _ = mRow f n + f n * 16 ^ n
  rw [e, Nat.or_comm, Nat.mul_comm (f n), ← this, Nat.add_comm]
theorem mRow_hd {f : Nat → Nat} : ∀ n, mRow f (n + 1) = f 0 + 16 * mRow (fun i => f (i + 1)) n
  | 0 => by show 0 + f 0 * 16 ^ 0 = f 0 + 16 * 0; omega
  | n + 1 => by
    have ih := mRow_hd (f := f) n
    show mRow f (n + 1) + f (n + 1) * 16 ^ (n + 1) = f 0 + 16 * (mRow (fun i => f (i + 1)) n + f (n + 1) * 16 ^ n)
    rw [ih, Nat.mul_add, Nat.pow_succ, ← Nat.mul_assoc, Nat.mul_comm 16 (f (n + 1) * 16 ^ n), Nat.add_assoc]
theorem mRow_inj : ∀ (n k : Nat) (f g : Nat → Nat), (∀ i, f i < 16) → (∀ i, g i < 16) → (∀ i, i < n → 0 < f i) → (∀ i, i < k → 0 < g i) → mRow f n = mRow g k → n = k ∧ ∀ i, i < n → f i = g i
  | 0, 0, _, _, _, _, _, _, _ => ⟨rfl, fun i h => absurd h (by omega)⟩
  | 0, k + 1, f, g, _, _, _, pg, e => by
    rw [mRow_hd] at e
    have := pg 0 (by omega)
    have e' : 0 = g 0 + 16 * mRow (fun i => g (i + 1)) k := e
    omega
  | n + 1, 0, f, g, _, _, pf, _, e => by
    rw [mRow_hd] at e
    have := pf 0 (by omega)
    have e' : f 0 + 16 * mRow (fun i => f (i + 1)) n = 0 := e
    omega
  | n + 1, k + 1, f, g, hf, hg, pf, pg, e => by
    rw [mRow_hd, mRow_hd] at e
    have h1 := hf 0
    have h2 := hg 0
    have e0 : f 0 = g 0 := by omega
    have e1 : mRow (fun i => f (i + 1)) n = mRow (fun i => g (i + 1)) k := by omega
    obtain ⟨a, b⟩ := mRow_inj n k _ _ (fun i => hf (i + 1)) (fun i => hg (i + 1)) (fun i hi => pf (i + 1) (by omega)) (fun i hi => pg (i + 1) (by omega)) e1
    refine ⟨by omega, fun i hi => ?_⟩
    cases i with
    | zero => exact e0
    | succ i => exact b i (by omega)
theorem mRow_sh : ∀ i, i < 6 → ∀ n, n < 12 → (nI n + (1 : Int32)) <<< ((nI i * (4 : Int32)) &&& 31) = nI ((n + 1) * 16 ^ i) := by decide +kernel
/-- are the rows of two cases one and the same -/
abbrev mLike (m : Ml) (c d : Nat) : Prop := mlen m c = mlen m d ∧ ∀ i, i < mlen m c → mdt m c i 0 = mdt m d i 0
def mDig (m : Ml) (c i : Nat) : Nat := if i < mlen m c then (mdt m c i 0).toNatClampNeg + 1 else 0
theorem mDig_lt {m : Ml} (ok : mOK m) (c i : Nat) : mDig m c i < 16 := by
  unfold mDig
  by_cases h : i < mlen m c
  · rw [if_pos h]
    have := (mnm_nI (ok.2.2.2 c i h).1).2
    omega
  · rw [if_neg h]; omega
theorem mDig_pos {m : Ml} (c i : Nat) (h : i < mlen m c) : 0 < mDig m c i := by unfold mDig; rw [if_pos h]; omega
theorem mRow_lim {m : Ml} (ok : mOK m) (c : Nat) : mRow (mDig m c) (mlen m c) < 2 ^ 31 := by
  have h1 := mRow_lt (mDig_lt ok c) (mlen m c)
  have h2 : 16 ^ mlen m c ≤ 16 ^ 6 := Nat.pow_le_pow_right (by omega) (ok.2.1 c)
  have h3 : (16 : Nat) ^ 6 < 2 ^ 31 := by decide
  omega
theorem mRow_eq1 {m : Ml} (ok : mOK m) (c d : Nat) (e1 : mRow (mDig m c) (mlen m c) = mRow (mDig m d) (mlen m d)) : mlen m c = mlen m d ∧ ∀ i, i < mlen m c → mDig m c i = mDig m d i :=
  mRow_inj _ _ _ _ (mDig_lt ok c) (mDig_lt ok d) (mDig_pos c) (mDig_pos d) e1
theorem mDig_inj {m : Ml} (ok : mOK m) {c d i : Nat} (hi : i < mlen m c) (hj : i < mlen m d) (e : mDig m c i = mDig m d i) : mdt m c i 0 = mdt m d i 0 := by
  unfold mDig at e
  rw [if_pos hi, if_pos hj] at e
  rw [(mnm_nI (ok.2.2.2 c i hi).1).1, (mnm_nI (ok.2.2.2 d i hj).1).1]
  exact congrArg nI (Nat.succ.inj e)
theorem mRow_eq2 {m : Ml} {c d : Nat} (b : ∀ i, i < mlen m c → mDig m c i = mDig m d i) : ∀ n, n ≤ mlen m c → mRow (mDig m c) n = mRow (mDig m d) n
  | 0, _ => by show (0 : Nat) = 0; rfl
  | n + 1, hn => by
    show mRow (mDig m c) n + mDig m c n * 16 ^ n = mRow (mDig m d) n + mDig m d n * 16 ^ n
    rw [mRow_eq2 b n (by omega), b n (by omega)]
theorem nI_eqv {a b : Nat} (ha : a < 2 ^ 31) (hb : b < 2 ^ 31) : nI a = nI b ↔ a = b := nI_eq ha hb
theorem mRow_eq {m : Ml} (ok : mOK m) (c d : Nat) : nI (mRow (mDig m c) (mlen m c)) = nI (mRow (mDig m d) (mlen m d)) ↔ mLike m c d := by
  rw [nI_eqv (mRow_lim ok c) (mRow_lim ok d)]
  constructor
  · intro e1
    obtain ⟨a, b⟩ := mRow_eq1 ok c d e1
    exact ⟨a, fun i hi => mDig_inj ok hi (by omega) (b i hi)⟩
  · rintro ⟨a, b⟩
    rw [mRow_eq2 (fun i hi => ?_) _ (Nat.le_refl _), a]
    unfold mDig
    rw [if_pos hi, if_pos (by omega), b i hi]
theorem crow_eq {h : Zh} {X : Nat} {ca : Nat → Nat} {m : Ml} (c : cLog h X ca m) (ok : mOK m) {k : Nat} (hk : k < mnc m) : fX0_row h (some (ca k)) = some (nI (mRow (mDig m k) (mlen m k))) := by
  have hl6 := ok.2.1 k
  obtain ⟨d1, d2, d3, d4, d5, d6, d7, d8, d9, d10⟩ := c.2.1 k hk
  unfold fX0_row
  refine Eq.trans (congrArg (fun o : Option Int32 => o.bind fun w3 => some w3) (zloop_eq (fun i => (nI (mRow (mDig m k) i), nI i)) (mlen m k) (r := nI (mRow (mDig m k) (mlen m k))) (fun i hi => ?_) ?_ (by rw [zFU_v]; omega))) rfl
  · try dsimp only
    rw [zfI_v (by omega) d4, d8]
    simp only [Option.bind_some]
    rw [if_neg (nI_nle' (by omega) hi), zob_v (by omega) d4]
    simp only [Option.bind_some]
    rw [show (0 : Int32) = nI 0 from rfl, ctell_eq (n := 0) d3 d4 d5 d6 d7 (by omega) (by omega), d10 i 0 hi (by omega)]
    simp only [Option.bind_some]
    obtain ⟨ex, lx⟩ := mnm_nI (ok.2.2.2 k i hi).1
    have eD : mDig m k i = (mdt m k i 0).toNatClampNeg + 1 := by unfold mDig; rw [if_pos hi]
    rw [nI_1, ← mRow_or (mDig_lt ok k) i, ← nI_or, eD, ex, nI_clamp (by omega), mRow_sh i (by omega) _ lx]
  · try dsimp only
    rw [zfI_v (by omega) d4, d8]
    simp only [Option.bind_some]
    rw [if_pos (nI_le (Nat.le_refl _) (by omega))]
