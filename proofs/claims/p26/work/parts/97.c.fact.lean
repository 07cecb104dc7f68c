/-! what the law asks of prices, of fit, of what is refused -/
theorem i32_mask (a : Int32) : ¬ (a &&& (2147483647 : Int32)) < 0 := by
  rw [Int32.lt_iff_toInt_lt]
  have h : 0 ≤ (a &&& (2147483647 : Int32)).toInt := by
    show 0 ≤ (a &&& (2147483647 : Int32)).toBitVec.toInt
    refine BitVec.toInt_nonneg_of_msb_false ?_
    rw [Int32.toBitVec_and, BitVec.msb_and]
    have : (2147483647 : Int32).toBitVec.msb = false := by decide
    rw [this, Bool.and_false]
  have z : (0 : Int32).toInt = 0 := by decide
  omega
theorem some_v (a : Int32) {d : Nat} (h0 : 0 < d) (hd : d < 2 ^ 31) : ∃ j, j < d ∧ fL_some a (nI d) = some (nI j) := by
  obtain ⟨j, hj, e⟩ := nI_of (i32_mask a)
  refine ⟨j % d, Nat.mod_lt _ h0, ?_⟩
  unfold fL_some zrem
  rw [e, if_neg (nI_ne0 h0 hd), pk_div hj h0 hd, pk_mul, pk_sub (Nat.div_mul_le_self j d), Option.bind_some]
  congr 2
  have := Nat.div_add_mod j d
  rw [Nat.mul_comm] at this
  omega
theorem cBst_at {M n : Nat} {c : Nat → Nat} (h : c 0 + n < M) : ∀ k, ∃ s, s ≤ k ∧ cBst M n c (k + 1) = (c s + n - cBit s n, cTel s n)
  | 0 => ⟨0, Nat.le_refl _, by rw [cBst_1 h, cBit_0, cTel_0]; rfl⟩
  | k + 1 => by
    obtain ⟨s, hs, e⟩ := cBst_at h k
    have st : cBst M n c (k + 1 + 1) = if c (k + 1) + n - cBit (k + 1) n < (cBst M n c (k + 1)).1 ∨ (c (k + 1) + n - cBit (k + 1) n = (cBst M n c (k + 1)).1 ∧ (cBst M n c (k + 1)).2 < cTel (k + 1) n) then (c (k + 1) + n - cBit (k + 1) n, cTel (k + 1) n) else cBst M n c (k + 1) := rfl
    rw [st]
    split
    · exact ⟨k + 1, Nat.le_refl _, rfl⟩
    · exact ⟨s, by omega, e⟩
/-- bits of a number below 64 -/
def bSum (b : Nat) : Nat → Nat
  | 0 => 0
  | i + 1 => bSum b i + b / 2 ^ i % 2
theorem bSum_tel : ∀ s, s < 64 → bSum (cTel s 6) 6 = cBit s 6 ∧ cTel s 6 < 64 := by decide +kernel
theorem bSum_le (b : Nat) : ∀ i, bSum b i ≤ i
  | 0 => Nat.le_refl _
  | i + 1 => by
    have := bSum_le b i
    have h2 : b / 2 ^ i % 2 < 2 := Nat.mod_lt _ (by omega)
    show bSum b i + b / 2 ^ i % 2 ≤ i + 1
    omega
theorem pCst_b {m : Ml} {p : Mp} (om : mOK m) (ok : pOK p) {k q : Nat} (hq : q < pn p) : (pCst m p k q).1 ≤ mlen m k + tFw (pT p q) ∧ mlen m k ≤ (pCst m p k q).1 + bSum (pCst m p k q).2 6 ∧ bSum (pCst m p k q).2 6 ≤ mlen m k ∧ (pCst m p k q).2 < 64 ∧ tFw (pT p q) ≤ 60 := by
  have hl := om.2.1 k
  have s60 := (ok.2 q hq).2.2.2.1
  have sz := pT_sz ok q hq
  have fw := tFw_sz (pT p q)
  have c0 : tCost 100000 (mlen m k) (mNm m k) (pT p q) 0 = tFw (pT p q) := tCost_0 _ (pT_OK ok q hq).1 (by omega)
  have hM : tCost 100000 (mlen m k) (mNm m k) (pT p q) 0 + mlen m k < 100000 := by rw [c0]; omega
  have pos : 0 < 2 ^ mlen m k := Nat.two_pow_pos _
  have le := cBst_le hM (2 ^ mlen m k - 1)
  obtain ⟨s, hs, e⟩ := cBst_at hM (2 ^ mlen m k - 1)
  rw [Nat.sub_add_cancel pos] at le e
  have hs' : s < 2 ^ mlen m k := by omega
  have b6 := cBit_hi hs' (6 - mlen m k)
  have t6 := cTel_hi hs' (6 - mlen m k)
  rw [Nat.add_sub_of_le hl] at b6 t6
  have h64 := p2_64 hl
  obtain ⟨b1, b2⟩ := bSum_tel s (by omega)
  have bl := cBit_le s (mlen m k)
  unfold pCst
  rw [c0] at le
  rw [t6] at b1 b2
  rw [b6] at b1
  refine ⟨by omega, ?_, ?_, ?_, by omega⟩
  · rw [e]
    show _ ≤ _ + bSum (cTel s (mlen m k)) 6
    rw [b1]
    show mlen m k ≤ _ - _ + _
    omega
  · rw [e]
    show bSum (cTel s (mlen m k)) 6 ≤ _
    rw [b1]
    exact bl
  · rw [e]
    exact b2
theorem mFit_b {m : Ml} {p : Mp} (om : mOK m) (ok : pOK p) {q : Nat} (hq : q < pn p) : ∀ k, k ≤ mnc m → ∃ a b, (mFit m p q k).2.1 = nI a ∧ (mFit m p q k).2.2.1 = nI b ∧ a ≤ b ∧ b ≤ 100 * k
  | 0, _ => ⟨0, 0, rfl, rfl, Nat.le_refl _, Nat.le_refl _⟩
  | k + 1, hk => by
    obtain ⟨a, b, e1, e2, h1, h2⟩ := mFit_b om ok hq k (by omega)
    obtain ⟨g1, -, -, -, g2⟩ := pCst_b om ok (k := k) hq
    have hl := om.2.1 k
    have st : mFit m p q (k + 1) = if mdr m k = false then ((mFit m p q k).1 + (if nI (pCst m p k q).1 = 0 then 1 else 0), (mFit m p q k).2.1 + nI (pCst m p k q).1, (mFit m p q k).2.2.1 + (nI (mlen m k) + nI (tFw (pT p q))),
      if nI (pCst m p k q).1 ≤ (mFit m p q k).2.2.2.2 then (mFit m p q k).2.2.2.1 else nI k, if nI (pCst m p k q).1 ≤ (mFit m p q k).2.2.2.2 then (mFit m p q k).2.2.2.2 else nI (pCst m p k q).1) else mFit m p q k := rfl
    rw [st]
    split
    · refine ⟨a + (pCst m p k q).1, b + (mlen m k + tFw (pT p q)), ?_, ?_, by omega, by omega⟩
      · show (mFit m p q k).2.1 + nI (pCst m p k q).1 = _
        rw [e1, nI_add]
      · show (mFit m p q k).2.2.1 + (nI (mlen m k) + nI (tFw (pT p q))) = _
        rw [e2, nI_add, nI_add]
    · exact ⟨a, b, e1, e2, h1, by omega⟩
theorem fit_law {m : Ml} {p : Mp} (om : mOK m) (ok : pOK p) {a : Int32} (ha : mnm a (pn p)) : ¬ pFit m p a 2 < pFit m p a 1 ∧ ¬ pFit m p a 1 < 0 := by
  obtain ⟨-, la⟩ := mnm_nI ha
  obtain ⟨x, y, e1, e2, h1, h2⟩ := mFit_b om ok la (mnc m) (Nat.le_refl _)
  have h24 := om.1
  have f1 : pFit m p a 1 = nI x := by
    unfold pFit
    rw [if_pos ⟨ha, by decide⟩, if_neg (by decide), if_pos rfl, e1]
  have f2 : pFit m p a 2 = nI y := by
    unfold pFit
    rw [if_pos ⟨ha, by decide⟩, if_neg (by decide), if_neg (by decide), if_pos rfl, e2]
  rw [f1, f2]
  exact ⟨nI_nlt h1 (by omega), nI_pos (by omega)⟩
theorem like_law {p : Mp} {a : Int32} (ha : mnm a (pn p)) : pLike p a a = 1 := by
  unfold pLike
  rw [if_pos ⟨ha, ha⟩, if_pos ((tCmp_0 _ _).mpr rfl)]
theorem piece_law {p : Mp} (ok : pOK p) {a : Int32} (ha : mnm a (pn p)) : ¬ pPiece p a 3 < 1 ∧ ¬ (60 : Int32) < pPiece p a 3 := by
  obtain ⟨-, la⟩ := mnm_nI ha
  have g := ok.2 _ la
  have e : pPiece p a 3 = nI (psz p a.toNatClampNeg) := by
    unfold pPiece
    rw [if_pos ⟨ha, by decide⟩, if_neg (by decide), if_neg (by decide), if_neg (by decide), if_pos rfl]
  rw [e]
  refine ⟨nI_nlt (b := 1) ?_ (by omega), nI_nlt (a := 60) g.2.2.2.1 (by omega)⟩
  rw [g.2.2.1]
  omega
theorem no_join (p : Mp) : pJoin p 1 0 0 = (-1, p) := by
  unfold pJoin
  rw [if_neg (fun z => absurd z.1.1 (by decide))]
theorem no_more (p : Mp) : pMore p (-1) 0 = (-1, p) := by
  unfold pMore
  rw [if_neg (fun z => absurd z.1.1 (by decide))]
theorem no_deed (p : Mp) : pDeed p 12 = (-1, p) := by
  unfold pDeed
  rw [if_neg (by decide), if_neg (by decide)]
theorem no_add (m : Ml) : mAdd m (-1) 0 0 0 0 = (-1, m) := by
  unfold mAdd
  rw [if_neg (fun z => absurd z.1.1 (by decide))]
theorem no_24 {m : Ml} (om : mOK m) : ¬ mnm (24 : Int32) (mnc m) := fun z => by
  have h := z.2
  rw [show (24 : Int32).toInt = 24 by decide] at h
  have := om.1
  omega
theorem no_drop {m : Ml} (om : mOK m) : mDrop m 24 1 = (-1, m) := by
  unfold mDrop
  rw [if_neg (no_24 om)]
theorem no_follows (m : Ml) : mFollows m 0 12 = -1 := by
  unfold mFollows
  exact if_neg (fun z => absurd z.2.2 (by decide))
theorem no_told {m : Ml} (om : mOK m) : mTold m 24 0 0 = -9 := by
  unfold mTold
  rw [if_neg (no_24 om)]
theorem mCount_4 (m : Ml) (x : Int32) : mCount m x 4 = x := by
  unfold mCount
  rw [if_neg (by decide), if_neg (by decide), if_neg (by decide), if_neg (by decide), if_pos rfl]
