theorem cBst_leM (M n : Nat) (c : Nat → Nat) : ∀ k, (cBst M n c k).1 ≤ M
  | 0 => Nat.le_refl _
  | k + 1 => by
    have := cBst_leM M n c k
    show (if c k + n - cBit k n < (cBst M n c k).1 ∨ _ then (c k + n - cBit k n, _) else cBst M n c k).1 ≤ _
    split
    · rename_i q
      show c k + n - cBit k n ≤ _
      omega
    · exact this
theorem cTel_le (s : Nat) : ∀ i, cTel s i ≤ 32 * i
  | 0 => Nat.le_refl _
  | i + 1 => by
    have := cTel_le s i
    have h2 : s / 2 ^ i % 2 < 2 := Nat.mod_lt _ (by omega)
    have h3 : 32 / 2 ^ i ≤ 32 := Nat.div_le_self _ _
    have h4 : s / 2 ^ i % 2 * (32 / 2 ^ i) ≤ 1 * 32 := Nat.mul_le_mul (by omega) h3
    show cTel s i + s / 2 ^ i % 2 * (32 / 2 ^ i) ≤ 32 * (i + 1)
    omega
theorem cBst_2 (M n : Nat) (c : Nat → Nat) : ∀ k, (cBst M n c k).2 ≤ 32 * n
  | 0 => Nat.zero_le _
  | k + 1 => by
    have := cBst_2 M n c k
    show (if c k + n - cBit k n < (cBst M n c k).1 ∨ _ then (_, cTel k n) else cBst M n c k).2 ≤ _
    split
    · exact cTel_le k n
    · exact this
/-! price, both, shortest, fit on the reference's side -/
def mNm (m : Ml) (k i : Nat) : Int32 := mdt m k i 0
def pCst (m : Ml) (p : Mp) (k q : Nat) : Nat × Nat := cBst 100000 (mlen m k) (tCost 100000 (mlen m k) (mNm m k) (pT p q)) (2 ^ mlen m k)
def pPrice (m : Ml) (p : Mp) (a b : Int32) : Int32 := if (mnm a (mnc m) ∧ mdr m a.toNatClampNeg = false) ∧ mnm b (pn p) then nI (pCst m p a.toNatClampNeg b.toNatClampNeg).1 else -1
def pBoth (m : Ml) (p : Mp) (a b : Int32) : Int32 := if (mnm a (mnc m) ∧ mdr m a.toNatClampNeg = false) ∧ mnm b (pn p) then nI (pCst m p a.toNatClampNeg b.toNatClampNeg).2 else -1
def pShort (p : Mp) (a : Int32) : Int32 := if mnm a (pn p) then nI (tFw (pT p a.toNatClampNeg)) else -1
/-- fit, case by case: without misfit, together, all deeds and shortest, the worst, its price -/
def mFit (m : Ml) (p : Mp) (q : Nat) : Nat → Int32 × Int32 × Int32 × Int32 × Int32
  | 0 => (0, 0, 0, -3, -1)
  | k + 1 => if mdr m k = false then ((mFit m p q k).1 + (if nI (pCst m p k q).1 = 0 then 1 else 0), (mFit m p q k).2.1 + nI (pCst m p k q).1, (mFit m p q k).2.2.1 + (nI (mlen m k) + nI (tFw (pT p q))),
      if nI (pCst m p k q).1 ≤ (mFit m p q k).2.2.2.2 then (mFit m p q k).2.2.2.1 else nI k, if nI (pCst m p k q).1 ≤ (mFit m p q k).2.2.2.2 then (mFit m p q k).2.2.2.2 else nI (pCst m p k q).1) else mFit m p q k
def pFit (m : Ml) (p : Mp) (a w : Int32) : Int32 := if mnm a (pn p) ∧ mnm w 4 then (if w = 0 then (mFit m p a.toNatClampNeg (mnc m)).1 else if w = 1 then (mFit m p a.toNatClampNeg (mnc m)).2.1 else if w = 2 then (mFit m p a.toNatClampNeg (mnc m)).2.2.1 else (mFit m p a.toNatClampNeg (mnc m)).2.2.2.1) else -1
