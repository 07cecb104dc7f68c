/-! the cost of a set of a trail's deeds on a tree; M stands for never -/
def cBehF (M : Nat) (c d : Nat → Nat) (s : Nat) : Nat → Nat
  | 0 => M
  | t + 1 => min (cBehF M c d s t) (c (s % 2 ^ t) + d (s - s % 2 ^ t))
def cBeh (M n : Nat) (c d : Nat → Nat) (s : Nat) : Nat := cBehF M c d s (n + 1)
def cBesF (M : Nat) (c d : Nat → Nat) (s : Nat) : Nat → Nat
  | 0 => M
  | t + 1 => if t &&& s = t then min (cBesF M c d s t) (c t + d (s - t)) else cBesF M c d s t
def cBes (M n : Nat) (c d : Nat → Nat) (s : Nat) : Nat := cBesF M c d s (2 ^ n)
def cDeedF (M : Nat) (nm : Nat → Int32) (x : Nat) : Nat → Nat → Nat
  | 0, s => if s = 0 then (if x < 12 then 1 else 0) else M
  | i + 1, s => if s = 2 ^ i then (if nm i = tNm x then 0 else M) else cDeedF M nm x i s
def cLpI (tb rd : Nat → Nat) (s v : Nat) : Nat → Nat
  | 0 => v
  | t + 1 => if s % 2 ^ t = s then cLpI tb rd s v t else min (cLpI tb rd s v t) (tb (s % 2 ^ t) + rd (s - s % 2 ^ t))
def cLpT (n : Nat) (hd rd : Nat → Nat) : Nat → Nat → Nat
  | 0, s => hd s
  | k + 1, s => if s = k then cLpI (cLpT n hd rd k) rd k (hd k) n else cLpT n hd rd k s
def cFin (M n x : Nat) (a : (Nat → Nat) × (Nat → Nat)) : Nat → Nat := if x = 16 then cLpT n a.1 (cBeh M n a.2 a.1) (2 ^ n) else a.1
def tCp (M n : Nat) (nm : Nat → Int32) : Tr → (Nat → Nat) × (Nat → Nat)
  | .var x => (cDeedF M nm x n, fun _ => M)
  | .op t k => if tLen t = 0 then (cFin M n (tLab k) (tCp M n nm k), fun _ => M)
    else (if tLab t = 13 then cBeh M n (tCp M n nm t).1 (cFin M n (tLab k) (tCp M n nm k)) else if tLab t = 14 then fun s => min ((tCp M n nm t).1 s) (cFin M n (tLab k) (tCp M n nm k) s) else if tLab t = 15 then cBes M n (tCp M n nm t).1 (cFin M n (tLab k) (tCp M n nm k)) else (tCp M n nm t).1,
      fun s => min ((tCp M n nm t).2 s) (cFin M n (tLab k) (tCp M n nm k) s))
def tCost (M n : Nat) (nm : Nat → Int32) (t : Tr) : Nat → Nat := cFin M n (tLab t) (tCp M n nm t)
theorem tCp_op (M n : Nat) (nm : Nat → Int32) (t k : Tr) : tCp M n nm (.op t k) = if tLen t = 0 then (tCost M n nm k, fun _ => M)
    else (if tLab t = 13 then cBeh M n (tCp M n nm t).1 (tCost M n nm k) else if tLab t = 14 then fun s => min ((tCp M n nm t).1 s) (tCost M n nm k s) else if tLab t = 15 then cBes M n (tCp M n nm t).1 (tCost M n nm k) else (tCp M n nm t).1,
      fun s => min ((tCp M n nm t).2 s) (tCost M n nm k s)) := rfl
/-! never is the most -/
theorem cBehF_le (M : Nat) (c d : Nat → Nat) (s : Nat) : ∀ t, cBehF M c d s t ≤ M
  | 0 => Nat.le_refl _
  | t + 1 => Nat.le_trans (Nat.min_le_left _ _) (cBehF_le M c d s t)
theorem cBesF_le (M : Nat) (c d : Nat → Nat) (s : Nat) : ∀ t, cBesF M c d s t ≤ M
  | 0 => Nat.le_refl _
  | t + 1 => by
    show (if t &&& s = t then _ else _) ≤ M
    split
    · exact Nat.le_trans (Nat.min_le_left _ _) (cBesF_le M c d s t)
    · exact cBesF_le M c d s t
theorem cDeedF_le {M : Nat} (hM : 1 ≤ M) (nm : Nat → Int32) (x : Nat) : ∀ i s, cDeedF M nm x i s ≤ M
  | 0, s => by
    show (if s = 0 then (if x < 12 then 1 else 0) else M) ≤ M
    split
    · split <;> omega
    · exact Nat.le_refl _
  | i + 1, s => by
    show (if s = 2 ^ i then (if nm i = tNm x then 0 else M) else _) ≤ M
    split
    · split
      · exact Nat.zero_le _
      · exact Nat.le_refl _
    · exact cDeedF_le hM nm x i s
theorem cLpI_le (tb rd : Nat → Nat) (s v : Nat) : ∀ t, cLpI tb rd s v t ≤ v
  | 0 => Nat.le_refl _
  | t + 1 => by
    show (if s % 2 ^ t = s then _ else _) ≤ v
    split
    · exact cLpI_le tb rd s v t
    · exact Nat.le_trans (Nat.min_le_left _ _) (cLpI_le tb rd s v t)
theorem cLpT_le {M n : Nat} {hd rd : Nat → Nat} (hh : ∀ s, hd s ≤ M) : ∀ k s, cLpT n hd rd k s ≤ M
  | 0, s => hh s
  | k + 1, s => by
    show (if s = k then _ else _) ≤ M
    split
    · exact Nat.le_trans (cLpI_le _ _ _ _ _) (hh k)
    · exact cLpT_le hh k s
theorem cFin_le {M n x : Nat} {a : (Nat → Nat) × (Nat → Nat)} (h : ∀ s, a.1 s ≤ M) (s : Nat) : cFin M n x a s ≤ M := by
  unfold cFin
  split
  · exact cLpT_le h _ s
  · exact h s
theorem tCp_le {M n : Nat} (hM : 1 ≤ M) (nm : Nat → Int32) : ∀ t s, (tCp M n nm t).1 s ≤ M
  | .var x, s => cDeedF_le hM nm x n s
  | .op t k, s => by
    rw [tCp_op]
    split
    · exact cFin_le (tCp_le hM nm k) s
    · show (if tLab t = 13 then _ else _ : Nat → Nat) s ≤ M
      split
      · exact cBehF_le _ _ _ _ _
      · split
        · exact Nat.le_trans (Nat.min_le_left _ _) (tCp_le hM nm t s)
        · split
          · exact cBesF_le _ _ _ _ _
          · exact tCp_le hM nm t s
theorem tCost_le {M n : Nat} (hM : 1 ≤ M) (nm : Nat → Int32) (t : Tr) (s : Nat) : tCost M n nm t s ≤ M := cFin_le (tCp_le hM nm t) s
theorem tCp2_le {M n : Nat} (nm : Nat → Int32) : ∀ t s, (tCp M n nm t).2 s ≤ M
  | .var x, s => Nat.le_refl _
  | .op t k, s => by
    rw [tCp_op]
    split
    · exact Nat.le_refl _
    · exact Nat.le_trans (Nat.min_le_left _ _) (tCp2_le nm t s)
/-! a lesser never -/
theorem cBehF_cut {K M : Nat} (h : K ≤ M) (c d c' d' : Nat → Nat) (hc : ∀ s, c' s = min K (c s)) (hd : ∀ s, d' s = min K (d s)) (s : Nat) : ∀ t, cBehF K c' d' s t = min K (cBehF M c d s t)
  | 0 => (Nat.min_eq_left h).symm
  | t + 1 => by
    show min (cBehF K c' d' s t) (c' _ + d' _) = min K (min (cBehF M c d s t) (c _ + d _))
    rw [cBehF_cut h c d c' d' hc hd s t, hc, hd]
    omega
theorem cBesF_cut {K M : Nat} (h : K ≤ M) (c d c' d' : Nat → Nat) (hc : ∀ s, c' s = min K (c s)) (hd : ∀ s, d' s = min K (d s)) (s : Nat) : ∀ t, cBesF K c' d' s t = min K (cBesF M c d s t)
  | 0 => (Nat.min_eq_left h).symm
  | t + 1 => by
    show (if t &&& s = t then min (cBesF K c' d' s t) (c' _ + d' _) else cBesF K c' d' s t) = min K (if t &&& s = t then min (cBesF M c d s t) (c _ + d _) else cBesF M c d s t)
    rw [cBesF_cut h c d c' d' hc hd s t, hc, hd]
    split <;> omega
theorem cDeedF_cut {K M : Nat} (h : K ≤ M) (hK : 1 ≤ K) (nm : Nat → Int32) (x : Nat) : ∀ i s, cDeedF K nm x i s = min K (cDeedF M nm x i s)
  | 0, s => by
    show (if s = 0 then (if x < 12 then 1 else 0) else K) = min K (if s = 0 then (if x < 12 then 1 else 0) else M)
    split
    · split <;> omega
    · omega
  | i + 1, s => by
    show (if s = 2 ^ i then (if nm i = tNm x then 0 else K) else _) = min K (if s = 2 ^ i then (if nm i = tNm x then 0 else M) else _)
    rw [cDeedF_cut h hK nm x i s]
    split
    · split <;> omega
    · rfl
theorem cLpI_cut {K : Nat} {tb rd tb' rd' : Nat → Nat} (h1 : ∀ s, tb' s = min K (tb s)) (h2 : ∀ s, rd' s = min K (rd s)) (s v : Nat) : ∀ t, cLpI tb' rd' s (min K v) t = min K (cLpI tb rd s v t)
  | 0 => rfl
  | t + 1 => by
    show (if s % 2 ^ t = s then _ else min _ (tb' _ + rd' _)) = min K (if s % 2 ^ t = s then _ else min _ (tb _ + rd _))
    rw [cLpI_cut h1 h2 s v t, h1, h2]
    split <;> omega
theorem cLpT_cut {K n : Nat} {hd rd hd' rd' : Nat → Nat} (h1 : ∀ s, hd' s = min K (hd s)) (h2 : ∀ s, rd' s = min K (rd s)) : ∀ k s, cLpT n hd' rd' k s = min K (cLpT n hd rd k s)
  | 0, s => h1 s
  | k + 1, s => by
    show (if s = k then _ else _) = min K (if s = k then _ else _)
    rw [h1 k, cLpI_cut (cLpT_cut h1 h2 k) h2 k (hd k) n, cLpT_cut h1 h2 k s]
    split <;> rfl
theorem cFin_cut {K M n x : Nat} (h : K ≤ M) {a a' : (Nat → Nat) × (Nat → Nat)} (h1 : ∀ s, a'.1 s = min K (a.1 s)) (h2 : ∀ s, a'.2 s = min K (a.2 s)) (s : Nat) : cFin K n x a' s = min K (cFin M n x a s) := by
  unfold cFin
  split
  · exact cLpT_cut h1 (fun s => cBehF_cut h _ _ _ _ h2 h1 s (n + 1)) _ s
  · exact h1 s
theorem tCp_cut {K M n : Nat} (h : K ≤ M) (hK : 1 ≤ K) (nm : Nat → Int32) : ∀ t, (∀ s, (tCp K n nm t).1 s = min K ((tCp M n nm t).1 s)) ∧ ∀ s, (tCp K n nm t).2 s = min K ((tCp M n nm t).2 s)
  | .var x => ⟨cDeedF_cut h hK nm x n, fun _ => (Nat.min_eq_left h).symm⟩
  | .op t k => by
    obtain ⟨a1, a2⟩ := tCp_cut h hK nm t
    obtain ⟨b1, b2⟩ := tCp_cut h hK nm k
    have f : ∀ s, tCost K n nm k s = min K (tCost M n nm k s) := cFin_cut h b1 b2
    rw [tCp_op, tCp_op]
    by_cases c0 : tLen t = 0
    · rw [if_pos c0, if_pos c0]
      exact ⟨f, fun _ => (Nat.min_eq_left h).symm⟩
    · rw [if_neg c0, if_neg c0]
      refine ⟨fun s => ?_, fun s => ?_⟩
      · show (if tLab t = 13 then _ else _ : Nat → Nat) s = min K ((if tLab t = 13 then _ else _ : Nat → Nat) s)
        by_cases c1 : tLab t = 13
        · rw [if_pos c1, if_pos c1]; exact cBehF_cut h _ _ _ _ a1 f s _
        · rw [if_neg c1, if_neg c1]
          by_cases c2 : tLab t = 14
          · rw [if_pos c2, if_pos c2]
            show min _ _ = min K (min _ _)
            rw [a1, f]; omega
          · rw [if_neg c2, if_neg c2]
            by_cases c3 : tLab t = 15
            · rw [if_pos c3, if_pos c3]; exact cBesF_cut h _ _ _ _ a1 f s _
            · rw [if_neg c3, if_neg c3]; exact a1 s
      · show min _ _ = min K (min _ _)
        rw [a2, f]; omega
theorem tCost_cut {K M n : Nat} (h : K ≤ M) (hK : 1 ≤ K) (nm : Nat → Int32) (t : Tr) (s : Nat) : tCost K n nm t s = min K (tCost M n nm t s) := cFin_cut h (tCp_cut h hK nm t).1 (tCp_cut h hK nm t).2 s
/-! the empty set -/
theorem cBehF_0 {M : Nat} {c d : Nat → Nat} (h : c 0 + d 0 ≤ M) : ∀ t, cBehF M c d 0 (t + 1) = c 0 + d 0
  | 0 => by
    show min M (c (0 % 2 ^ 0) + d (0 - 0 % 2 ^ 0)) = _
    rw [Nat.zero_mod, Nat.sub_zero]
    exact Nat.min_eq_right h
  | t + 1 => by
    show min (cBehF M c d 0 (t + 1)) (c (0 % 2 ^ (t + 1)) + d (0 - 0 % 2 ^ (t + 1))) = _
    rw [cBehF_0 h t, Nat.zero_mod, Nat.sub_zero, Nat.min_self]
theorem cBesF_0 {M : Nat} {c d : Nat → Nat} (h : c 0 + d 0 ≤ M) : ∀ t, cBesF M c d 0 (t + 1) = c 0 + d 0
  | 0 => by
    show (if 0 &&& 0 = 0 then min M (c 0 + d (0 - 0)) else _) = _
    rw [if_pos (by decide)]
    exact Nat.min_eq_right h
  | t + 1 => by
    show (if (t + 1) &&& 0 = t + 1 then _ else cBesF M c d 0 (t + 1)) = _
    rw [Nat.and_zero, if_neg (by omega)]
    exact cBesF_0 h t
theorem cDeedF_0 (M : Nat) (nm : Nat → Int32) (x : Nat) : ∀ i, cDeedF M nm x i 0 = if x < 12 then 1 else 0
  | 0 => rfl
  | i + 1 => by
    show (if 0 = 2 ^ i then _ else _) = _
    rw [if_neg (by have := Nat.two_pow_pos i; omega)]
    exact cDeedF_0 M nm x i
theorem cLpI_0 (tb rd : Nat → Nat) (v : Nat) : ∀ t, cLpI tb rd 0 v t = v
  | 0 => rfl
  | t + 1 => by
    show (if 0 % 2 ^ t = 0 then _ else _) = v
    rw [if_pos (Nat.zero_mod _)]
    exact cLpI_0 tb rd v t
theorem cLpT_0 (n : Nat) (hd rd : Nat → Nat) : ∀ k, cLpT n hd rd k 0 = hd 0
  | 0 => rfl
  | k + 1 => by
    show (if 0 = k then _ else _) = _
    by_cases e : 0 = k
    · subst e; rw [if_pos rfl]; exact cLpI_0 _ _ _ _
    · rw [if_neg e]; exact cLpT_0 n hd rd k
theorem cFin_0 (M n x : Nat) (a : (Nat → Nat) × (Nat → Nat)) : cFin M n x a 0 = a.1 0 := by
  unfold cFin
  split
  · exact cLpT_0 _ _ _ _
  · rfl
theorem tCp_0 {M n : Nat} (nm : Nat → Int32) : ∀ t, tG t → tSz t ≤ M → (tCp M n nm t).1 0 = tFw t
  | .var x, _, _ => cDeedF_0 M nm x n
  | .op t k, g, h => by
    have h' : tSz t + tSz k ≤ M := h
    have f1 := tFw_sz t
    have f2 := tFw_sz k
    have a := tCp_0 (M := M) (n := n) nm t g.2.1 (by omega)
    have b : tCost M n nm k 0 = tFw k := (cFin_0 _ _ _ _).trans (tCp_0 (M := M) (n := n) nm k g.2.2.1 (by omega))
    have lab := tG_lab t g.2.1
    have g13 := g.1
    rw [tCp_op]
    show _ = if tLen t = 0 then tFw k else if tLab t = 16 then tFw t else if tLab t = 14 then min (tFw t) (tFw k) else tFw t + tFw k
    by_cases c0 : tLen t = 0
    · rw [if_pos c0, if_pos c0]; exact b
    · rw [if_neg c0, if_neg c0]
      show (if tLab t = 13 then _ else _ : Nat → Nat) 0 = _
      by_cases c1 : tLab t = 13
      · rw [if_pos c1, if_neg (by omega), if_neg (by omega), ← a, ← b]
        exact cBehF_0 (by rw [a, b]; omega) n
      · rw [if_neg c1]
        by_cases c2 : tLab t = 14
        · rw [if_pos c2, if_neg (by omega), if_pos c2]
          show min _ _ = _
          rw [a, b]
        · rw [if_neg c2]
          by_cases c3 : tLab t = 15
          · rw [if_pos c3, if_neg (by omega), if_neg c2, ← a, ← b]
            have e := cBesF_0 (M := M) (c := (tCp M n nm t).1) (d := tCost M n nm k) (by rw [a, b]; omega) (2 ^ n - 1)
            rw [Nat.sub_add_cancel (Nat.two_pow_pos n)] at e
            exact e
          · rw [if_neg c3, if_pos (by omega)]
            exact a
theorem tCost_0 {M n : Nat} (nm : Nat → Int32) {t : Tr} (g : tG t) (h : tSz t ≤ M) : tCost M n nm t 0 = tFw t := (cFin_0 _ _ _ _).trans (tCp_0 nm t g h)
/-! rounds -/
/-! the best set -/
def cBit (s : Nat) : Nat → Nat
  | 0 => 0
  | i + 1 => cBit s i + s / 2 ^ i % 2
def cTel (s : Nat) : Nat → Nat
  | 0 => 0
  | i + 1 => cTel s i + s / 2 ^ i % 2 * (32 / 2 ^ i)
theorem cBit_le (s : Nat) : ∀ i, cBit s i ≤ i
  | 0 => Nat.le_refl _
  | i + 1 => by
    have := cBit_le s i
    have h2 : s / 2 ^ i % 2 < 2 := Nat.mod_lt _ (by omega)
    show cBit s i + s / 2 ^ i % 2 ≤ i + 1
    omega
def cBst (M n : Nat) (c : Nat → Nat) : Nat → Nat × Nat
  | 0 => (M, 0)
  | s + 1 => if c s + n - cBit s n < (cBst M n c s).1 ∨ (c s + n - cBit s n = (cBst M n c s).1 ∧ (cBst M n c s).2 < cTel s n) then (c s + n - cBit s n, cTel s n) else cBst M n c s
theorem cBit_0 : ∀ i, cBit 0 i = 0
  | 0 => rfl
  | i + 1 => by
    show cBit 0 i + 0 / 2 ^ i % 2 = 0
    rw [cBit_0 i, Nat.zero_div]
theorem cTel_0 : ∀ i, cTel 0 i = 0
  | 0 => rfl
  | i + 1 => by
    show cTel 0 i + 0 / 2 ^ i % 2 * _ = 0
    rw [cTel_0 i, Nat.zero_div]
    omega
theorem cBst_1 {M n : Nat} {c : Nat → Nat} (h : c 0 + n < M) : cBst M n c 1 = (c 0 + n, 0) := by
  show (if c 0 + n - cBit 0 n < (cBst M n c 0).1 ∨ _ then (c 0 + n - cBit 0 n, cTel 0 n) else _) = _
  have h' : c 0 + n < (cBst M n c 0).1 := h
  rw [cBit_0, cTel_0, Nat.sub_zero, if_pos (Or.inl h')]
theorem cBst_le {M n : Nat} {c : Nat → Nat} (h : c 0 + n < M) : ∀ k, (cBst M n c (k + 1)).1 ≤ c 0 + n
  | 0 => by rw [cBst_1 h]; exact Nat.le_refl _
  | k + 1 => by
    have := cBst_le h k
    show (if c (k + 1) + n - cBit (k + 1) n < (cBst M n c (k + 1)).1 ∨ _ then (c (k + 1) + n - cBit (k + 1) n, _) else cBst M n c (k + 1)).1 ≤ _
    split
    · rename_i q
      show c (k + 1) + n - cBit (k + 1) n ≤ _
      omega
    · exact this
theorem cBst_cut {K M n : Nat} {c c' : Nat → Nat} (hKM : K ≤ M) (hn : n ≤ 6) (h0 : c 0 + n + 10 < K) (hc : ∀ s, c' s = min K (c s)) : ∀ k, cBst K n c' (k + 1) = cBst M n c (k + 1)
  | 0 => by
    have e : c' 0 = c 0 := by rw [hc]; omega
    rw [cBst_1 (by omega), cBst_1 (by omega), e]
  | k + 1 => by
    have ih := cBst_cut hKM hn h0 hc k
    have le := cBst_le (M := M) (n := n) (c := c) (by omega) k
    have bl := cBit_le (k + 1) n
    show (if c' (k + 1) + n - cBit (k + 1) n < (cBst K n c' (k + 1)).1 ∨ _ then _ else _) = (if c (k + 1) + n - cBit (k + 1) n < (cBst M n c (k + 1)).1 ∨ _ then _ else _)
    rw [ih, hc]
    by_cases q : c (k + 1) < K
    · rw [Nat.min_eq_right (by omega)]
    · rw [Nat.min_eq_left (by omega), if_neg (by omega), if_neg (by omega)]
/-! loops that count up, or down, over any state -/
theorem upL {α ρ : Type} {f : Int32 × α → Option ((Int32 × α) ⊕ ρ)} {J : Nat → α → Prop} {P : ρ → Prop} {a N : Nat} {s0 : α} (hf : ∀ k s, a ≤ k → k < N → J k s → ∃ s', f (nI k, s) = some (.inl (nI (k + 1), s')) ∧ J (k + 1) s') (hN : ∀ s, J N s → ∃ r, f (nI N, s) = some (.inr r) ∧ P r) (ha : a ≤ N) (hN' : N < 100000) (h0 : J a s0) : ∃ r, zloop f zFU (nI a, s0) = some r ∧ P r := by
  refine zloop_inv (fun (n : Nat) (s : Int32 × α) => ∃ k, n = N - k ∧ a ≤ k ∧ k ≤ N ∧ s.1 = nI k ∧ J k s.2) P ?_ (N - a) _ _ ⟨a, rfl, Nat.le_refl _, ha, rfl, h0⟩ (by rw [zFU_v]; omega)
  rintro n ⟨w, s⟩ ⟨k, hn, hk0, hk, rfl, hJ⟩
  by_cases e : k = N
  · subst e
    obtain ⟨r, e1, e2⟩ := hN s hJ
    exact Or.inr ⟨r, e1, e2⟩
  · obtain ⟨s', e1, e2⟩ := hf k s hk0 (by omega) hJ
    exact Or.inl ⟨_, N - (k + 1), e1, by omega, k + 1, rfl, by omega, by omega, rfl, e2⟩
theorem dnL {α ρ : Type} {f : Int32 × α → Option ((Int32 × α) ⊕ ρ)} {J : Nat → α → Prop} {P : ρ → Prop} {N : Nat} {s0 : α} (hf : ∀ k s, k < N → J (k + 1) s → ∃ s', f (nI k, s) = some (.inl (nI k + (-1 : Int32), s')) ∧ J k s') (hN : ∀ s, J 0 s → ∃ r, f (-1, s) = some (.inr r) ∧ P r) (hN' : N < 100000) (h0 : J N s0) : ∃ r, zloop f zFU (nI N - (1 : Int32), s0) = some r ∧ P r := by
  have dec : ∀ k, nI (k + 1) - (1 : Int32) = nI k := fun k => nI_pred k
  have dec0 : nI 0 - (1 : Int32) = -1 := by decide
  have dd : ∀ k, nI k + (-1 : Int32) = nI k - (1 : Int32) := fun k => by
    cases k with
    | zero => decide
    | succ k => rw [nI_dec, dec]
  refine zloop_inv (fun (n : Nat) (s : Int32 × α) => ∃ k, n = k ∧ k ≤ N ∧ s.1 = nI k - (1 : Int32) ∧ J k s.2) P ?_ N _ _ ⟨N, rfl, Nat.le_refl _, rfl, h0⟩ (by rw [zFU_v]; omega)
  rintro n ⟨w, s⟩ ⟨k, rfl, hk, rfl, hJ⟩
  dsimp only at hJ
  cases n with
  | zero =>
    obtain ⟨r, e1, e2⟩ := hN s hJ
    rw [dec0]
    exact Or.inr ⟨r, e1, e2⟩
  | succ n =>
    obtain ⟨s', e1, e2⟩ := hf n s (by omega) hJ
    rw [dec]
    rw [dd] at e1
    exact Or.inl ⟨_, n, e1, by omega, n, rfl, by omega, rfl, e2⟩
/-- a number that a loop counts up -/
theorem foldL {f : Int32 × Int32 → Option ((Int32 × Int32) ⊕ Int32)} (g : Nat → Int32) (N : Nat) (hs : ∀ j, j < N → f (g j, nI j) = some (.inl (g (j + 1), nI (j + 1)))) (he : f (g N, nI N) = some (.inr (g N))) (hN : N < 100000) : zloop f zFU (g 0, (0 : Int32)) = some (g N) := rsum_eq g 0 N (Nat.zero_le _) (fun j _ hj => hs j hj) he hN
/-! bits -/
theorem bt_mask : ∀ t, t ≤ 6 → ∀ s, s < 64 → nI s &&& (((1 : Int32) <<< (nI t &&& 31)) - (1 : Int32)) = nI (s % 2 ^ t) := by
  have h : ∀ t, t < 7 → ∀ s, s < 64 → nI s &&& (((1 : Int32) <<< (nI t &&& 31)) - (1 : Int32)) = nI (s % 2 ^ t) := by decide +kernel
  exact fun t ht => h t (by omega)
theorem bt_xor : ∀ t, t ≤ 6 → ∀ s, s < 64 → nI s ^^^ nI (s % 2 ^ t) = nI (s - s % 2 ^ t) := by
  have h : ∀ t, t < 7 → ∀ s, s < 64 → nI s ^^^ nI (s % 2 ^ t) = nI (s - s % 2 ^ t) := by decide +kernel
  exact fun t ht => h t (by omega)
theorem bt_pow : ∀ t, t ≤ 6 → (1 : Int32) <<< (nI t &&& 31) = nI (2 ^ t) := by
  have h : ∀ t, t < 7 → (1 : Int32) <<< (nI t &&& 31) = nI (2 ^ t) := by decide +kernel
  exact fun t ht => h t (by omega)
theorem bt_xs : ∀ s, s < 64 → ∀ t, t < 64 → t &&& s = t → nI s ^^^ nI t = nI (s - t) := by decide +kernel
theorem bt_nx : ∀ s, s < 64 → ∀ t, t < 64 → t &&& s = t → 0 < t → (nI t - (1 : Int32)) &&& nI s = nI ((t - 1) &&& s) := by decide +kernel
def bt_gp (s t u : Nat) : Bool := !(Nat.beq (t &&& s) t) || Nat.beq t 0 || !(Nat.blt u t) || !(Nat.beq (u &&& s) u) || Nat.ble u ((t - 1) &&& s)
theorem bt_ga : (List.range 64).all (fun s => (List.range 64).all fun t => !(Nat.beq (t &&& s) t) || (List.range 64).all fun u => bt_gp s t u) = true := by decide +kernel
theorem bt_gap {s t u : Nat} (hs : s < 64) (ht : t < 64) (h1 : t &&& s = t) (h2 : 0 < t) (h3 : u < t) (h4 : u &&& s = u) : u ≤ (t - 1) &&& s := by
  have a := List.all_eq_true.mp bt_ga s (List.mem_range.mpr hs)
  have b := List.all_eq_true.mp a t (List.mem_range.mpr ht)
  have n1 : Nat.beq (t &&& s) t = true := by rw [h1]; exact Nat.beq_refl t
  rw [n1] at b
  have c := List.all_eq_true.mp (show (List.range 64).all (fun u => bt_gp s t u) = true from b) u (List.mem_range.mpr (by omega))
  unfold bt_gp at c
  have n2 : Nat.beq t 0 = false := by cases t with
    | zero => omega
    | succ t => rfl
  have n3 : Nat.blt u t = true := Nat.ble_eq.mpr h3
  have n4 : Nat.beq (u &&& s) u = true := by rw [h4]; exact Nat.beq_refl u
  rw [n1, n2, n3, n4] at c
  exact Nat.ble_eq.mp c
theorem bt_le : ∀ s, s < 64 → ∀ t, t < 64 → t &&& s = t → t ≤ s := by decide +kernel
theorem bt_bit : ∀ s, s < 64 → ∀ i, i < 6 → ((nI s >>> (nI i &&& 31)) &&& (1 : Int32)) = nI (s / 2 ^ i % 2) := by decide +kernel
theorem bt_32 : ∀ i, i < 6 → (32 : Int32) >>> (nI i &&& 31) = nI (32 / 2 ^ i) := by decide +kernel
theorem bt_is : ∀ s, s < 64 → ∀ i, i < 6 → ((nI s &&& ((1 : Int32) <<< (nI i &&& 31))) = 0 ↔ s / 2 ^ i % 2 = 0) := by decide +kernel
theorem p2_64 {n : Nat} (h : n ≤ 6) : 2 ^ n ≤ 64 := Nat.pow_le_pow_right (n := 2) (by omega) h
