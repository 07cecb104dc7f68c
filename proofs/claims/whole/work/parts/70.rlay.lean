theorem cBst_leM (M n : Nat) (c : Nat → Nat) : ∀ k, (cBst M n c k).1 ≤ M
  | 0 => Nat.le_refl _
  | k + 1 => by
    have := cBst_leM M n c k
    show (if c k + n - cBit k n < (cBst M n c k).1 ∨ _ then (c k + n - cBit k n, _) else cBst M n c k).1 ≤ _
    split
    · rename_i q
      show c k + n - cBit k n ≤ _
      omega
    · exact this
theorem cTel_le (s : Nat) : ∀ i, cTel s i ≤ 32 * i
  | 0 => Nat.le_refl _
  | i + 1 => by
    have := cTel_le s i
    have h2 : s / 2 ^ i % 2 < 2 := Nat.mod_lt _ (by omega)
    have h3 : 32 / 2 ^ i ≤ 32 := Nat.div_le_self _ _
    have h4 : s / 2 ^ i % 2 * (32 / 2 ^ i) ≤ 1 * 32 := Nat.mul_le_mul (by omega) h3
    show cTel s i + s / 2 ^ i % 2 * (32 / 2 ^ i) ≤ 32 * (i + 1)
    omega
theorem cBst_2 (M n : Nat) (c : Nat → Nat) : ∀ k, (cBst M n c k).2 ≤ 32 * n
  | 0 => Nat.zero_le _
  | k + 1 => by
    have := cBst_2 M n c k
    show (if c k + n - cBit k n < (cBst M n c k).1 ∨ _ then (_, cTel k n) else cBst M n c k).2 ≤ _
    split
    · exact cTel_le k n
    · exact this
theorem rtel_eq {n k : Nat} (hn : n ≤ 6) (hk : k < 64) : zloop (fun ((v18, v19, v20) : Int32 × Int32 × Int32) =>
        (if nI n ≤ v20 then
          some (.inr (v18, v19))
        else
          (some (v19 + (((nI k >>> (v20 &&& 31)) &&& (1 : Int32)) * ((32 : Int32) >>> (v20 &&& 31))))).bind fun v25 =>
          some (.inl (v18 + ((nI k >>> (v20 &&& 31)) &&& (1 : Int32)), v25, v20 + (1 : Int32))) : Option ((Int32 × Int32 × Int32) ⊕ (Int32 × Int32)))) zFU ((0 : Int32), (0 : Int32), (0 : Int32)) = some (nI (cBit k n), nI (cTel k n)) := by
  refine zloop_eq (fun j => (nI (cBit k j), nI (cTel k j), nI j)) n (fun j hj => ?_) ?_ (by rw [zFU_v]; omega)
  · dsimp only
    rw [if_neg (nI_nle' (by omega) hj), Option.bind_some, bt_bit k hk j (by omega), bt_32 j (by omega), pk_mul, nI_add, nI_add, nI_1]
    rfl
  · dsimp only
    rw [if_pos (nI_le (Nat.le_refl _) (by omega))]
abbrev sLay (a k : Nat) : Prop := sTr a k ∨ (26 ≤ a ∧ a ≤ 30) ∨ (a = 0 ∧ (k = 31 ∨ k = 38 ∨ k = 39))
theorem rlay_eq {s : Zr} {p : Mp} (h : rPc s p) (ok : pOK p) {q : Nat} (hq : q < pn p) {n : Nat} {nm : Nat → Int32} (hn : n ≤ 6) (h25 : ∀ i, i < n → s 25 i = nm i ∧ mnm (nm i) 12) :
    zS (fX6_lay s (nI n) (nI q)) (fun s' => s' 0 38 = nI (cBst 100000 n (tCost 100000 n nm (pT p q)) (2 ^ n)).1 ∧ s' 0 39 = nI (cBst 100000 n (tCost 100000 n nm (pT p q)) (2 ^ n)).2 ∧ rOnly sLay s s') := by
  have h64 := p2_64 hn
  have x60 := (ok.2 q hq).2.2.2.1
  have x1 := psz_1 ok hq
  have K : (1 : Nat) ≤ 100000 := by omega
  unfold fX6_lay
  refine zS.e rfl ?_
  rw [rclr_eq]
  refine zS.e rfl ?_
  generalize es : u2 (u2 (u2 s 0 31 (nI n)) 0 15 (nI 0)) 0 20 (nI 0) = s0
  have o0 : rOnly sLay s s0 := by
    rw [← es]
    exact ((rOnly.u (by omega)).tr (rOnly.u (by omega))).tr (rOnly.u (by omega))
  have h0 : rPc s0 p := h.only o0 (by omega) (by omega) (fun a k _ _ => by omega)
  obtain ⟨s1, nt, r1, r2, r3, r4, r5, r6, r7, r8⟩ := rexp_eq h0 ok hq (N0 := 0) (L0 := 0) (nt := fun _ => .var 0) (by rw [← es, u2_n (by omega), u2_s]) (by rw [← es, u2_s]) (by omega) (by omega) (fun x hx => absurd hx (Nat.not_lt_zero _))
  refine zS.e r1 ?_
  dsimp only
  rw [r2]
  have o1 : rOnly sLay s s1 := o0.tr (r8.mono (fun a k z => by omega))
  have f31 : s1 0 31 = nI n := by rw [r8 0 31 (by omega), ← es, u2_n (by omega), u2_n (by omega), u2_s]
  have f25 : ∀ i, i < n → s1 25 i = nm i ∧ mnm (nm i) 12 := fun i hi => ⟨by rw [o1 25 i (by omega)]; exact (h25 i hi).1, (h25 i hi).2⟩
  rw [Nat.zero_add] at r4 r7
  rw [Nat.zero_add]
  rw [show 0 + (psz p q - 1) = psz p q - 1 by omega] at r4
  refine zS.b (R1 := fun s' => (∀ y, 0 ≤ y → y < psz p q → pH s' n nm nt y) ∧ rOnly (fun a _ => 26 ≤ a ∧ a ≤ 30) s1 s') (zS.dn (fun k s' => (∀ y, k ≤ y → y < psz p q → pH s' n nm nt y) ∧ rOnly (fun a _ => 26 ≤ a ∧ a ≤ 30) s1 s') (psz p q) (fun k s' hk hJ => ?_) (fun s' hJ => ?_) (by omega) ⟨fun y h1 h2 => by omega, rOnly.rf⟩) (fun s2 ⟨a1, a2⟩ => ?_)
  · obtain ⟨j1, j2⟩ := hJ
    show zS (if nI k < 0 then _ else _) _
    rw [if_neg (nI_pos (by omega))]
    refine zS.b (rnode_eq (nSt.only j2 r4 (fun a k _ _ => by omega)) (by omega) (by omega) hn (by rw [j2 0 31 (by omega)]; exact f31) (fun i hi => by rw [j2 25 i (by omega)]; exact f25 i hi) hk (r7 k (Nat.zero_le _) hk) (fun y h1 h2 => j1 y (by omega) h2)) (fun t ⟨t1, t2⟩ => zS.s ⟨_, rfl, fun y h1 h2 => ?_, j2.tr (t2.mono (fun a k z => by omega))⟩)
    by_cases e : y = k
    · subst e; exact t1
    · intro z hz
      rw [t2 26 _ (by omega)]
      exact j1 y (by omega) h2 z hz
  · show zS (if (-1 : Int32) < 0 then _ else _) _
    rw [if_pos (by decide)]
    exact zS.s ⟨_, rfl, hJ⟩
  · refine zS.e rfl (zS.e rfl ?_)
    have root : ∀ k, k < 2 ^ n → s2 26 (64 * 0 + k) = nI (tCost 100000 n nm (pT p q) k) := fun k hk => by rw [← r6]; exact a1 0 (Nat.le_refl _) (by omega) k hk
    generalize ec : tCost 100000 n nm (pT p q) = c at root
    have hc : ∀ k, c k ≤ 100000 := by rw [← ec]; exact tCost_le K nm _
    rw [bt_pow n hn]
    refine zS.b (R1 := fun s' => s' 0 38 = nI (cBst 100000 n c (2 ^ n)).1 ∧ s' 0 39 = nI (cBst 100000 n c (2 ^ n)).2 ∧ rOnly (fun a k => a = 0 ∧ (k = 38 ∨ k = 39)) s2 s') (zS.up (fun k s' => s' 0 38 = nI (cBst 100000 n c k).1 ∧ s' 0 39 = nI (cBst 100000 n c k).2 ∧ rOnly (fun a k => a = 0 ∧ (k = 38 ∨ k = 39)) s2 s') 0 (2 ^ n) (fun k s' _ hk hJ => ?_) (fun s' hJ => ?_) (Nat.zero_le _) (by omega) ⟨?_, ?_, ?_⟩) (fun r hr => zS.s ⟨hr.1, hr.2.1, (o1.tr (a2.mono (fun a k z => by omega))).tr (hr.2.2.mono (fun a k z => by omega))⟩)
    · dsimp only
      obtain ⟨j1, j2, j3⟩ := hJ
      have b1 := cBst_leM 100000 n c k
      have b2 := cBst_2 100000 n c k
      have b3 := hc k
      have b4 := cBit_le k n
      have b5 := cTel_le k n
      rw [if_neg (nI_nle' (by omega) hk)]
      refine zS.e (rtel_eq hn (by omega)) ?_
      dsimp only
      rw [show (64 : Int32) * nI 0 + nI k = nI (64 * 0 + k) from by rw [show (64 : Int32) = nI 64 from rfl, pk_mul, nI_add], rd26 (by omega)]
      refine zS.e rfl ?_
      rw [j3 26 _ (by omega), root k hk, nI_add, pk_sub (by omega)]
      have step : cBst 100000 n c (k + 1) = if c k + n - cBit k n < (cBst 100000 n c k).1 ∨ (c k + n - cBit k n = (cBst 100000 n c k).1 ∧ (cBst 100000 n c k).2 < cTel k n) then (c k + n - cBit k n, cTel k n) else cBst 100000 n c k := rfl
      have put : rOnly (fun a k => a = 0 ∧ (k = 38 ∨ k = 39)) s2 (u2 (u2 s' 0 38 (nI (c k + n - cBit k n))) 0 39 (nI (cTel k n))) := (j3.tr (rOnly.u (by omega))).tr (rOnly.u (by omega))
      refine zS.b (R1 := fun t => t 0 38 = nI (cBst 100000 n c (k + 1)).1 ∧ t 0 39 = nI (cBst 100000 n c (k + 1)).2 ∧ rOnly (fun a k => a = 0 ∧ (k = 38 ∨ k = 39)) s2 t) ?_ (fun r hr => zS.s ⟨_, by rw [nI_1], hr⟩)
      rw [step]
      by_cases q1 : c k + n - cBit k n < (cBst 100000 n c k).1
      · rw [if_pos (show nI (c k + n - cBit k n) < s' 0 38 by rw [j1]; exact nI_lt q1 (by omega)), if_pos (Or.inl q1)]
        refine zS.e rfl (zS.e rfl (zS.s ⟨?_, u2_s, put⟩))
        rw [u2_n (by omega), u2_s]
      · rw [if_neg (show ¬ nI (c k + n - cBit k n) < s' 0 38 by rw [j1]; exact nI_nlt (by omega) (by omega))]
        by_cases q2 : c k + n - cBit k n = (cBst 100000 n c k).1
        · rw [if_pos (show nI (c k + n - cBit k n) = s' 0 38 by rw [j1, q2])]
          by_cases q3 : (cBst 100000 n c k).2 < cTel k n
          · rw [if_neg (show ¬ nI (cTel k n) ≤ s' 0 39 by rw [j2]; exact nI_nle' (by omega) q3), if_pos (Or.inr ⟨q2, q3⟩)]
            refine zS.e rfl (zS.e rfl (zS.s ⟨?_, u2_s, put⟩))
            rw [u2_n (by omega), u2_s]
          · rw [if_pos (show nI (cTel k n) ≤ s' 0 39 by rw [j2]; exact nI_le (by omega) (by omega)), if_neg (by omega)]
            exact zS.s ⟨j1, j2, j3⟩
        · rw [if_neg (show ¬ nI (c k + n - cBit k n) = s' 0 38 by rw [j1]; exact fun z => q2 ((nI_eq (by omega) (by omega)).mp z)), if_neg (by omega)]
          exact zS.s ⟨j1, j2, j3⟩
    · dsimp only
      rw [if_pos (nI_le (Nat.le_refl _) (by omega))]
      exact zS.s ⟨_, rfl, hJ⟩
    · rw [u2_n (by omega), u2_s]; rfl
    · rw [u2_s]; rfl
    · exact (rOnly.u (by omega)).tr (rOnly.u (by omega))
/-! price, both, shortest, fit on the reference's side -/
def mNm (m : Ml) (k i : Nat) : Int32 := mdt m k i 0
def pCst (m : Ml) (p : Mp) (k q : Nat) : Nat × Nat := cBst 100000 (mlen m k) (tCost 100000 (mlen m k) (mNm m k) (pT p q)) (2 ^ mlen m k)
def pPrice (m : Ml) (p : Mp) (a b : Int32) : Int32 := if (mnm a (mnc m) ∧ mdr m a.toNatClampNeg = false) ∧ mnm b (pn p) then nI (pCst m p a.toNatClampNeg b.toNatClampNeg).1 else -1
def pBoth (m : Ml) (p : Mp) (a b : Int32) : Int32 := if (mnm a (mnc m) ∧ mdr m a.toNatClampNeg = false) ∧ mnm b (pn p) then nI (pCst m p a.toNatClampNeg b.toNatClampNeg).2 else -1
def pShort (p : Mp) (a : Int32) : Int32 := if mnm a (pn p) then nI (tFw (pT p a.toNatClampNeg)) else -1
abbrev sLc (a k : Nat) : Prop := sLay a k ∨ a = 25
theorem rlayc_eq {s : Zr} {m : Ml} {p : Mp} (g : rLog s m) (om : mOK m) (h : rPc s p) (ok : pOK p) {k q : Nat} (hk : k < mnc m) (hq : q < pn p) : zS (fX6_layCase s (nI k) (nI q)) (fun s' => s' 0 38 = nI (pCst m p k q).1 ∧ s' 0 39 = nI (pCst m p k q).2 ∧ rOnly sLc s s') := by
  have h24 := om.1
  have l6 := om.2.1 k
  unfold fX6_layCase
  refine zS.b (R1 := fun s' => (∀ i, i < mlen m k → s' 25 i = mNm m k i) ∧ rOnly (oA 25) s s') (zS.up (fun j s' => (∀ i, i < j → s' 25 i = mNm m k i) ∧ rOnly (oA 25) s s') 0 (mlen m k) (fun j s' _ hj hJ => ?_) (fun s' hJ => ?_) (Nat.zero_le _) (by omega) ⟨fun i hi => absurd hi (Nat.not_lt_zero _), rOnly.rf⟩) (fun s1 ⟨a1, a2⟩ => ?_)
  · dsimp only
    rw [rd1 (by omega), Option.bind_some, hJ.2 1 _ (by omega), (g.2.1 k (by omega)).1, if_neg (nI_nle' (by omega) hj), show (6 : Int32) * nI k + nI j = nI (6 * k + j) from by rw [show (6 : Int32) = nI 6 from rfl, pk_mul, nI_add]]
    refine zS.e (rd3 (by omega)) (zS.e (wr25 (by omega)) (zS.s ⟨_, by rw [nI_1], fun i hi => ?_, hJ.2.tr (rOnly.u rfl)⟩))
    by_cases e : i = j
    · subst e; rw [u2_s, hJ.2 3 _ (by omega)]; exact g.2.2 k i (by omega) hj 0 (by omega)
    · rw [u2_n (by omega)]; exact hJ.1 i (by omega)
  · dsimp only
    rw [rd1 (by omega), Option.bind_some, hJ.2 1 _ (by omega), (g.2.1 k (by omega)).1, if_pos (nI_le (Nat.le_refl _) (by omega))]
    exact zS.s ⟨_, rfl, hJ⟩
  · refine zS.e (rd1 (by omega)) ?_
    rw [a2 1 _ (by omega), (g.2.1 k (by omega)).1]
    exact zS.b (rlay_eq (nm := mNm m k) (h.only a2 (by omega) (by omega) (fun a k _ _ => by omega)) ok hq l6 (fun i hi => ⟨a1 i hi, (om.2.2.2 k i hi).1⟩)) (fun r hr => zS.s ⟨hr.1, hr.2.1, (a2.mono (fun a k z => Or.inr z)).tr (hr.2.2.mono (fun a k z => Or.inl z))⟩)
theorem rpb_eq {s : Zr} {m : Ml} {p : Mp} (g : rLog s m) (om : mOK m) (h : rPc s p) (ok : pOK p) (a b : Int32) : zS (fX6_price s a b) (fun r => r.1 = pPrice m p a b ∧ rOnly sLc s r.2) ∧ zS (fX6_both s a b) (fun r => r.1 = pBoth m p a b ∧ rOnly sLc s r.2) := by
  have h24 := om.1
  unfold fX6_price fX6_both pPrice pBoth
  rw [fcase_eq g om, Option.bind_some, Option.bind_some]
  by_cases c1 : mnm a (mnc m)
  · rw [if_neg (fun z => b2_z.mp z c1), if_neg (fun z => b2_z.mp z c1)]
    obtain ⟨ea, la⟩ := mnm_nI c1
    generalize a.toNatClampNeg = x at ea la
    subst ea
    rw [rd2 (by omega), (g.2.1 x (by omega)).2, Option.bind_some, Option.bind_some]
    by_cases c2 : mdr m x = true
    · have hno : ¬ ((mnm (nI x) (mnc m) ∧ mdr m x = false) ∧ mnm b (pn p)) := fun z => by
        have := z.1.2
        rw [c2] at this
        cases this
      rw [if_neg (fun z => b2_z.mp z c2), if_neg (fun z => b2_z.mp z c2), if_neg hno, if_neg hno]
      exact ⟨zS.s ⟨rfl, rOnly.rf⟩, zS.s ⟨rfl, rOnly.rf⟩⟩
    · have c2' : mdr m x = false := by simpa using c2
      rw [if_pos (b2_z.mpr c2), if_pos (b2_z.mpr c2), rpiece_at h ok, Option.bind_some, Option.bind_some]
      by_cases c3 : mnm b (pn p)
      · have hyes : (mnm (nI x) (mnc m) ∧ mdr m x = false) ∧ mnm b (pn p) := ⟨⟨c1, c2'⟩, c3⟩
        rw [if_neg (fun z => b2_z.mp z c3), if_neg (fun z => b2_z.mp z c3), if_pos hyes, if_pos hyes]
        obtain ⟨eb, lb⟩ := mnm_nI c3
        generalize b.toNatClampNeg = y at eb lb
        subst eb
        exact ⟨zS.b (rlayc_eq g om h ok la lb) (fun r hr => zS.s ⟨hr.1, hr.2.2⟩), zS.b (rlayc_eq g om h ok la lb) (fun r hr => zS.s ⟨hr.2.1, hr.2.2⟩)⟩
      · have hno : ¬ ((mnm (nI x) (mnc m) ∧ mdr m x = false) ∧ mnm b (pn p)) := fun z => c3 z.2
        rw [if_pos (b2_z.mpr c3), if_pos (b2_z.mpr c3), if_neg hno, if_neg hno]
        exact ⟨zS.s ⟨rfl, rOnly.rf⟩, zS.s ⟨rfl, rOnly.rf⟩⟩
  · have hno : ¬ ((mnm a (mnc m) ∧ mdr m a.toNatClampNeg = false) ∧ mnm b (pn p)) := fun z => c1 z.1.1
    rw [if_pos (b2_z.mpr c1), if_pos (b2_z.mpr c1), if_neg hno, if_neg hno]
    exact ⟨zS.s ⟨rfl, rOnly.rf⟩, zS.s ⟨rfl, rOnly.rf⟩⟩
theorem rlay0_eq {s : Zr} {p : Mp} (h : rPc s p) (ok : pOK p) {q : Nat} (hq : q < pn p) : zS (fX6_lay s (0 : Int32) (nI q)) (fun s' => s' 0 38 = nI (tFw (pT p q)) ∧ rOnly sLay s s') := by
  refine (rlay_eq (n := 0) (nm := fun _ => 0) h ok hq (by omega) (fun i hi => absurd hi (Nat.not_lt_zero _))).m (fun r hr => ⟨?_, hr.2.2⟩)
  have z := tFw_sz (pT p q)
  have z2 := pT_sz ok q hq
  have z3 := (ok.2 q hq).2.2.2.1
  have e := tCost_0 (M := 100000) (n := 0) (fun _ => (0 : Int32)) (pT_OK ok q hq).1 (by omega)
  rw [hr.1, show (2 : Nat) ^ 0 = 1 from rfl, cBst_1 (by rw [e]; omega), e]
  rfl
theorem rshort_eq {s : Zr} {p : Mp} (h : rPc s p) (ok : pOK p) (a : Int32) : zS (fX6_shortest s a) (fun r => r.1 = pShort p a ∧ rOnly sLc s r.2) := by
  unfold fX6_shortest pShort
  rw [rpiece_at h ok, Option.bind_some]
  by_cases c3 : mnm a (pn p)
  · rw [if_neg (fun z => b2_z.mp z c3), if_pos c3]
    obtain ⟨eb, lb⟩ := mnm_nI c3
    generalize a.toNatClampNeg = y at eb lb
    subst eb
    exact zS.b (rlay0_eq h ok lb) (fun r hr => zS.s ⟨hr.1, hr.2.mono (fun a k z => Or.inl z)⟩)
  · rw [if_pos (b2_z.mpr c3), if_neg c3]
    exact zS.s ⟨rfl, rOnly.rf⟩
/-- fit, case by case: without misfit, together, all deeds and shortest, the worst, its price -/
def mFit (m : Ml) (p : Mp) (q : Nat) : Nat → Int32 × Int32 × Int32 × Int32 × Int32
  | 0 => (0, 0, 0, -3, -1)
  | k + 1 => if mdr m k = false then ((mFit m p q k).1 + (if nI (pCst m p k q).1 = 0 then 1 else 0), (mFit m p q k).2.1 + nI (pCst m p k q).1, (mFit m p q k).2.2.1 + (nI (mlen m k) + nI (tFw (pT p q))),
      if nI (pCst m p k q).1 ≤ (mFit m p q k).2.2.2.2 then (mFit m p q k).2.2.2.1 else nI k, if nI (pCst m p k q).1 ≤ (mFit m p q k).2.2.2.2 then (mFit m p q k).2.2.2.2 else nI (pCst m p k q).1) else mFit m p q k
def pFit (m : Ml) (p : Mp) (a w : Int32) : Int32 := if mnm a (pn p) ∧ mnm w 4 then (if w = 0 then (mFit m p a.toNatClampNeg (mnc m)).1 else if w = 1 then (mFit m p a.toNatClampNeg (mnc m)).2.1 else if w = 2 then (mFit m p a.toNatClampNeg (mnc m)).2.2.1 else (mFit m p a.toNatClampNeg (mnc m)).2.2.2.1) else -1
theorem rfit_eq {s : Zr} {m : Ml} {p : Mp} (g : rLog s m) (om : mOK m) (h : rPc s p) (ok : pOK p) (a w : Int32) : zS (fX6_fit s a w) (fun r => r.1 = pFit m p a w ∧ rOnly sLc s r.2) := by
  have h24 := om.1
  unfold fX6_fit pFit
  rw [rpiece_at h ok, Option.bind_some]
  by_cases c3 : mnm a (pn p)
  · rw [if_neg (fun z => b2_z.mp z c3), fwhat_eq, Option.bind_some]
    by_cases c4 : mnm w 4
    · have hyes : mnm a (pn p) ∧ mnm w 4 := ⟨c3, c4⟩
      rw [if_neg (fun z => b2_z.mp z c4), if_pos hyes]
      obtain ⟨eb, lb⟩ := mnm_nI c3
      generalize a.toNatClampNeg = q at eb lb
      subst eb
      refine zS.b (rlay0_eq h ok lb) (fun s1 ⟨a1, a2⟩ => ?_)
      refine zS.b (R1 := fun r => r.1 = (mFit m p q (mnc m)).1 ∧ r.2.1 = (mFit m p q (mnc m)).2.1 ∧ r.2.2.1 = (mFit m p q (mnc m)).2.2.1 ∧ r.2.2.2.1 = (mFit m p q (mnc m)).2.2.2.1 ∧ rOnly sLc s r.2.2.2.2) ?_ (fun r hr => ?_)
      · refine zloop_inv (fun (n : Nat) (st : Int32 × Int32 × Int32 × Int32 × Int32 × Int32 × Zr) => ∃ k, n = mnc m - k ∧ k ≤ mnc m ∧ st.2.2.2.2.2.1 = nI k ∧ (st.1, st.2.1, st.2.2.1, st.2.2.2.1, st.2.2.2.2.1) = mFit m p q k ∧ rOnly sLc s st.2.2.2.2.2.2) _ ?_ (mnc m) _ _ ⟨0, rfl, Nat.zero_le _, rfl, rfl, a2.mono (fun a k z => Or.inl z)⟩ (by rw [zFU_v]; omega)
        rintro n ⟨v4, v5, v6, v7, v8, v9, s2⟩ ⟨k, hn, hk, e9, ef, o⟩
        dsimp only at e9 ef o
        subst e9
        have g2 := g.only o (by omega) (fun a k _ _ => by omega)
        have h2 := h.only o (by omega) (by omega) (fun a k _ _ => by omega)
        by_cases z : k = mnc m
        · subst z
          refine Or.inr ⟨(v4, v5, v6, v7, s2), ?_, by rw [← ef], by rw [← ef], by rw [← ef], by rw [← ef], o⟩
          show (if s2 0 0 ≤ nI (mnc m) then _ else _) = _
          rw [if_pos (show s2 0 0 ≤ nI (mnc m) by rw [g2.1]; exact nI_le (Nat.le_refl _) (by omega))]
        · refine Or.inl ?_
          have hk' : k < mnc m := by omega
          have step : mFit m p q (k + 1) = if mdr m k = false then ((mFit m p q k).1 + (if nI (pCst m p k q).1 = 0 then 1 else 0), (mFit m p q k).2.1 + nI (pCst m p k q).1, (mFit m p q k).2.2.1 + (nI (mlen m k) + nI (tFw (pT p q))),
            if nI (pCst m p k q).1 ≤ (mFit m p q k).2.2.2.2 then (mFit m p q k).2.2.2.1 else nI k, if nI (pCst m p k q).1 ≤ (mFit m p q k).2.2.2.2 then (mFit m p q k).2.2.2.2 else nI (pCst m p k q).1) else mFit m p q k := rfl
          rw [← ef] at step
          dsimp only at step
          show ∃ s' m', (if s2 0 0 ≤ nI k then _ else _) = _ ∧ _
          rw [if_neg (show ¬ s2 0 0 ≤ nI k by rw [g2.1]; exact nI_nle' (by omega) hk'), rd2 (by omega), (g2.2.1 k (by omega)).2, Option.bind_some]
          by_cases c2 : mdr m k = true
          · rw [if_neg (fun z => b2_z.mp z c2), Option.bind_some]
            rw [if_neg (by rw [c2]; decide)] at step
            exact ⟨_, mnc m - (k + 1), rfl, by omega, k + 1, rfl, by omega, nI_1 k, by rw [step], o⟩
          · have c2' : mdr m k = false := by simpa using c2
            rw [if_pos (b2_z.mpr c2)]
            rw [if_pos c2'] at step
            obtain ⟨s3, e3, b1, b2, b3⟩ := rlayc_eq g2 om h2 ok hk' lb
            have g3 := g2.only b3 (by omega) (fun a k _ _ => by omega)
            rw [e3, Option.bind_some, b1, rd1 (by omega), (g3.2.1 k (by omega)).1, a1]
            refine ⟨(v4 + (if nI (pCst m p k q).1 = 0 then 1 else 0), v5 + nI (pCst m p k q).1, v6 + (nI (mlen m k) + nI (tFw (pT p q))), (if nI (pCst m p k q).1 ≤ v8 then v7 else nI k), (if nI (pCst m p k q).1 ≤ v8 then v8 else nI (pCst m p k q).1), nI (k + 1), s3), mnc m - (k + 1), ?_, by omega, k + 1, rfl, by omega, rfl, by rw [step], o.tr b3⟩
            by_cases p1 : nI (pCst m p k q).1 = 0
            · rw [if_pos p1, if_pos p1]
              by_cases p2 : nI (pCst m p k q).1 ≤ v8
              · rw [if_pos p2, if_pos p2, if_pos p2, if_pos p2, Option.bind_some, Option.bind_some, Option.bind_some, Option.bind_some, Option.bind_some, nI_1]
              · rw [if_neg p2, if_neg p2, if_neg p2, if_neg p2, Option.bind_some, Option.bind_some, Option.bind_some, Option.bind_some, Option.bind_some, nI_1]
            · rw [if_neg p1, if_neg p1]
              by_cases p2 : nI (pCst m p k q).1 ≤ v8
              · rw [if_pos p2, if_pos p2, if_pos p2, if_pos p2, Option.bind_some, Option.bind_some, Option.bind_some, Option.bind_some, Option.bind_some, nI_1]
              · rw [if_neg p2, if_neg p2, if_neg p2, if_neg p2, Option.bind_some, Option.bind_some, Option.bind_some, Option.bind_some, Option.bind_some, nI_1]
      · obtain ⟨w1, w2, w3, w4, s3⟩ := r
        obtain ⟨q1, q2, q3, q4, q5⟩ := hr
        dsimp only at q1 q2 q3 q4 q5
        rw [← q1, ← q2, ← q3, ← q4]
        by_cases d0 : w = 0
        · rw [if_pos d0]
          refine ⟨(w1, s3), ?_, rfl, q5⟩
          show Option.bind (if w = 0 then _ else _) _ = _
          rw [if_pos d0]; rfl
        · rw [if_neg d0]
          by_cases d1 : w = 1
          · rw [if_pos d1]
            refine ⟨(w2, s3), ?_, rfl, q5⟩
            show Option.bind (if w = 0 then _ else _) _ = _
            rw [if_neg d0, if_pos d1]; rfl
          · rw [if_neg d1]
            by_cases d2 : w = 2
            · rw [if_pos d2]
              refine ⟨(w3, s3), ?_, rfl, q5⟩
              show Option.bind (if w = 0 then _ else _) _ = _
              rw [if_neg d0, if_neg d1, if_pos d2]; rfl
            · rw [if_neg d2]
              refine ⟨(w4, s3), ?_, rfl, q5⟩
              show Option.bind (if w = 0 then _ else _) _ = _
              rw [if_neg d0, if_neg d1, if_neg d2]; rfl
    · rw [if_pos (b2_z.mpr c4), if_neg (fun z : mnm a (pn p) ∧ mnm w 4 => c4 z.2)]
      exact zS.s ⟨rfl, rOnly.rf⟩
  · rw [if_pos (b2_z.mpr c3), if_neg (fun z : mnm a (pn p) ∧ mnm w 4 => c3 z.1)]
    exact zS.s ⟨rfl, rOnly.rf⟩
