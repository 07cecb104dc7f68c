/-! programs that come through -/
def zS {α : Type} (o : Option α) (R : α → Prop) : Prop := ∃ r, o = some r ∧ R r
theorem zS.b {α β : Type} {o : Option α} {R1 : α → Prop} {G : α → Option β} {R : β → Prop} (h : zS o R1) (k : ∀ r, R1 r → zS (G r) R) : zS (o.bind G) R := by
  obtain ⟨r, rfl, h2⟩ := h
  exact k r h2
theorem zS.e {α β : Type} {o : Option α} {x : α} {G : α → Option β} {R : β → Prop} (e : o = some x) (k : zS (G x) R) : zS (o.bind G) R := by
  subst e
  exact k
theorem zS.s {α : Type} {x : α} {R : α → Prop} (h : R x) : zS (some x) R := ⟨x, rfl, h⟩
theorem zS.m {α : Type} {o : Option α} {R R' : α → Prop} (h : zS o R) (k : ∀ r, R r → R' r) : zS o R' := ⟨h.choose, h.choose_spec.1, k _ h.choose_spec.2⟩
theorem zS.up {α ρ : Type} {f : Int32 × α → Option ((Int32 × α) ⊕ ρ)} (J : Nat → α → Prop) {P : ρ → Prop} (a N : Nat) {s0 : α} (hf : ∀ k s, a ≤ k → k < N → J k s → zS (f (nI k, s)) (fun q => ∃ s', q = .inl (nI (k + 1), s') ∧ J (k + 1) s')) (hN : ∀ s, J N s → zS (f (nI N, s)) (fun q => ∃ r, q = .inr r ∧ P r)) (ha : a ≤ N) (hN' : N < 100000) (h0 : J a s0) : zS (zloop f zFU (nI a, s0)) P :=
  upL (J := J) (P := P) (a := a) (N := N) (fun k s h1 h2 h3 => by
    obtain ⟨q, e, s', rfl, h⟩ := hf k s h1 h2 h3
    exact ⟨s', e, h⟩) (fun s h => by
    obtain ⟨q, e, r, rfl, h⟩ := hN s h
    exact ⟨r, e, h⟩) ha hN' h0
theorem zS.dn {α ρ : Type} {f : Int32 × α → Option ((Int32 × α) ⊕ ρ)} (J : Nat → α → Prop) {P : ρ → Prop} (N : Nat) {s0 : α} (hf : ∀ k s, k < N → J (k + 1) s → zS (f (nI k, s)) (fun q => ∃ s', q = .inl (nI k + (-1 : Int32), s') ∧ J k s')) (hN : ∀ s, J 0 s → zS (f (-1, s)) (fun q => ∃ r, q = .inr r ∧ P r)) (hN' : N < 100000) (h0 : J N s0) : zS (zloop f zFU (nI N - (1 : Int32), s0)) P :=
  dnL (J := J) (P := P) (N := N) (fun k s h1 h2 => by
    obtain ⟨q, e, s', rfl, h⟩ := hf k s h1 h2
    exact ⟨s', e, h⟩) (fun s h => by
    obtain ⟨q, e, r, rfl, h⟩ := hN s h
    exact ⟨r, e, h⟩) hN' h0
/-- a loop whose numbers are known: the last one -/
theorem zS.fold {f : Int32 × Int32 → Option ((Int32 × Int32) ⊕ Int32)} (g : Nat → Int32) (a N : Nat) (hs : ∀ j, a ≤ j → j < N → f (g j, nI j) = some (.inl (g (j + 1), nI (j + 1)))) (he : f (g N, nI N) = some (.inr (g N))) (ha : a ≤ N) (hN : N < 100000) : zS (zloop f zFU (g a, nI a)) (fun r => r = g N) := ⟨_, rsum_eq g a N ha hs he hN, rfl⟩
/-! laying on the reference's side -/
def vH (s : Zr) (a n : Nat) (c : Nat → Nat) : Prop := ∀ k, k < 2 ^ n → s a k = nI (c k)
abbrev oA (b : Nat) (a _k : Nat) : Prop := a = b
theorem vH.only {S : Nat → Nat → Prop} {s s' : Zr} {a n : Nat} {c : Nat → Nat} (o : rOnly S s s') (h : vH s a n c) (hS : ∀ k, ¬ S a k) : vH s' a n c := fun k hk => (o a k (hS k)).trans (h k hk)
theorem nI_min' {a b : Nat} (ha : a < 2 ^ 31) (hb : b < 2 ^ 31) : (if nI a ≤ nI b then nI a else nI b) = nI (min a b) := by
  by_cases c : a ≤ b
  · rw [if_pos (nI_le c hb), Nat.min_eq_left c]
  · rw [if_neg (nI_nle' ha (by omega)), Nat.min_eq_right (by omega)]
theorem rcpy_eq {s : Zr} {b x : Nat} (hw : ∀ (s : Zr) (k : Nat) (v : Int32), k < 64 → wrI s b (nI k) v = some (u2 s b k v)) (hb : b ≠ 26) (hx : x < 61) : zS (fX6_copySet s b (nI x)) (fun s' => (∀ k, k < 64 → s' b k = s 26 (64 * x + k)) ∧ rOnly (oA b) s s') := by
  unfold fX6_copySet
  refine zS.b (zS.up (fun j s' => (∀ k, k < j → s' b k = s 26 (64 * x + k)) ∧ rOnly (oA b) s s') 0 64 (fun k s' _ hk hJ => ?_) (fun s' hJ => ?_) (Nat.zero_le _) (by omega) ⟨fun k hk => absurd hk (Nat.not_lt_zero _), rOnly.rf⟩) (fun r hr => zS.s hr)
  · dsimp only
    rw [if_neg (show ¬ (64 : Int32) ≤ nI k from nI_nle' (b := 64) (by omega) hk), show (64 : Int32) * nI x + nI k = nI (64 * x + k) from by rw [show (64 : Int32) = nI 64 from rfl, pk_mul, nI_add], rd26 (by omega)]
    refine zS.e rfl (zS.e (hw _ _ _ hk) (zS.s ⟨_, by rw [nI_1], fun i hi => ?_, hJ.2.tr (rOnly.u rfl)⟩))
    by_cases e : i = k
    · subst e; rw [u2_s, hJ.2 26 _ (fun z => hb z.symm)]
    · rw [u2_n (by omega)]; exact hJ.1 i (by omega)
  · dsimp only
    rw [if_pos (show (64 : Int32) ≤ nI 64 from nI_le (Nat.le_refl 64) (by omega))]
    exact zS.s ⟨_, rfl, hJ⟩
theorem rbeh_eq {s : Zr} {n : Nat} {c d : Nat → Nat} (hn : n ≤ 6) (h31 : s 0 31 = nI n) (h27 : vH s 27 n c) (h28 : vH s 28 n d) (hc : ∀ k, c k ≤ 100000) (hd : ∀ k, d k ≤ 100000) : zS (fX6_behind s) (fun s' => vH s' 29 n (cBeh 100000 n c d) ∧ rOnly (oA 29) s s') := by
  have h64 := p2_64 hn
  unfold fX6_behind
  rw [h31, bt_pow n hn]
  refine zS.b (zS.up (fun j s' => (∀ k, k < j → s' 29 k = nI (cBeh 100000 n c d k)) ∧ rOnly (oA 29) s s') 0 (2 ^ n) (fun k s' _ hk hJ => ?_) (fun s' hJ => ?_) (Nat.zero_le _) (by omega) ⟨fun k hk => absurd hk (Nat.not_lt_zero _), rOnly.rf⟩) (fun r hr => zS.s hr)
  · dsimp only
    rw [if_neg (nI_nle' (by omega) hk), wr29 (by omega)]
    refine zS.e rfl (zS.b (zS.up (fun t s2 => s2 29 k = nI (cBehF 100000 c d k t) ∧ (∀ i, i ≠ k → s2 29 i = s' 29 i) ∧ rOnly (oA 29) s s2) 0 (n + 1) (fun t s2 _ ht hI => ?_) (fun s2 hI => ?_) (Nat.zero_le _) (by omega) ⟨u2_s, fun i hi => u2_n (by omega), hJ.2.tr (rOnly.u rfl)⟩) (fun s2 hs2 => zS.s ⟨s2, by rw [nI_1], hs2⟩))
    · dsimp only
      obtain ⟨i1, i2, i3⟩ := hI
      have b1 := cBehF_le 100000 c d k t
      have b2 := hc (k % 2 ^ t)
      have b3 := hd (k - k % 2 ^ t)
      have hm : k % 2 ^ t ≤ k := Nat.mod_le _ _
      rw [if_neg (show ¬ s2 0 31 < nI t by rw [i3 0 31 (by decide), h31]; exact nI_nlt (by omega) (by omega)), bt_mask t (by omega) k (by omega), bt_sub, rd27 (by omega), rd28 (by omega), rd29 (by omega), i3 27 _ (by omega), i3 28 _ (by omega), h27 _ (by omega), h28 _ (by omega), i1, Option.bind_some, Option.bind_some, Option.bind_some, nI_add, Option.bind_some]
      refine zS.e (x := nI (cBehF 100000 c d k (t + 1))) ?_ (zS.e (wr29 (by omega)) (zS.s ⟨_, by rw [nI_1], u2_s, fun i hi => (u2_n (by omega)).trans (i2 i hi), i3.tr (rOnly.u rfl)⟩))
      have e : cBehF 100000 c d k (t + 1) = min (cBehF 100000 c d k t) (c (k % 2 ^ t) + d (k - k % 2 ^ t)) := rfl
      rw [e, ← nI_min' (by omega) (by omega)]
      split <;> rfl
    · dsimp only
      rw [if_pos (show s2 0 31 < nI (n + 1) by rw [hI.2.2 0 31 (by decide), h31]; exact nI_lt (Nat.lt_succ_self _) (by omega))]
      refine zS.s ⟨_, rfl, fun i hi => ?_, hI.2.2⟩
      by_cases e : i = k
      · subst e; exact hI.1
      · rw [hI.2.1 i e]; exact hJ.1 i (by omega)
  · dsimp only
    rw [if_pos (nI_le (Nat.le_refl _) (by omega))]
    exact zS.s ⟨_, rfl, hJ⟩
theorem rbes_eq {s : Zr} {n : Nat} {c d : Nat → Nat} (hn : n ≤ 6) (h31 : s 0 31 = nI n) (h27 : vH s 27 n c) (h28 : vH s 28 n d) (hc : ∀ k, c k ≤ 100000) (hd : ∀ k, d k ≤ 100000) : zS (fX6_beside s) (fun s' => vH s' 29 n (cBes 100000 n c d) ∧ rOnly (oA 29) s s') := by
  have h64 := p2_64 hn
  unfold fX6_beside
  rw [h31, bt_pow n hn]
  refine zS.b (zS.up (fun j s' => (∀ k, k < j → s' 29 k = nI (cBes 100000 n c d k)) ∧ rOnly (oA 29) s s') 0 (2 ^ n) (fun k s' _ hk hJ => ?_) (fun s' hJ => ?_) (Nat.zero_le _) (by omega) ⟨fun k hk => absurd hk (Nat.not_lt_zero _), rOnly.rf⟩) (fun r hr => zS.s hr)
  · dsimp only
    rw [if_neg (nI_nle' (by omega) hk), wr29 (by omega)]
    refine zS.e rfl (zS.b (zS.up (fun t s2 => s2 29 k = nI (cBesF 100000 c d k t) ∧ (∀ i, i ≠ k → s2 29 i = s' 29 i) ∧ rOnly (oA 29) s s2) 0 (2 ^ n) (fun t s2 _ ht hI => ?_) (fun s2 hI => ?_) (Nat.zero_le _) (by omega) ⟨u2_s, fun i hi => u2_n (by omega), hJ.2.tr (rOnly.u rfl)⟩) (fun s2 hs2 => zS.s ⟨s2, by rw [nI_1], hs2⟩))
    · dsimp only
      obtain ⟨i1, i2, i3⟩ := hI
      have b1 := cBesF_le 100000 c d k t
      have b2 := hc t
      have b3 := hd (k - t)
      rw [if_neg (nI_nle' (by omega) ht), bt_and k (by omega) t (by omega)]
      have e : cBesF 100000 c d k (t + 1) = if t &&& k = t then min (cBesF 100000 c d k t) (c t + d (k - t)) else cBesF 100000 c d k t := rfl
      have le : t &&& k ≤ k := Nat.and_le_right
      refine zS.e (x := nI (if t &&& k = t then c t + d (k - t) else 100000)) ?_ (zS.e (rd29 (by omega)) (zS.e (x := nI (cBesF 100000 c d k (t + 1))) ?_ (zS.e (wr29 (by omega)) (zS.s ⟨_, by rw [nI_1], u2_s, fun i hi => (u2_n (by omega)).trans (i2 i hi), i3.tr (rOnly.u rfl)⟩))))
      · by_cases z : t &&& k = t
        · rw [if_pos (by rw [z]), if_pos z, rd27 (by omega), Option.bind_some, show nI k - nI t = nI (k - t) from pk_sub (by omega), rd28 (by omega), Option.bind_some, i3 27 _ (by omega), i3 28 _ (by omega), h27 _ (by omega), h28 _ (by omega), nI_add]
        · rw [if_neg (fun y => z ((nI_eq (by omega) (by omega)).mp y)), if_neg z]; rfl
      · rw [rd29 (by omega), Option.bind_some, i1, e]
        by_cases z : t &&& k = t
        · rw [if_pos z, if_pos z, ← nI_min' (by omega) (by omega)]
          split <;> rfl
        · rw [if_neg z, if_neg z, if_pos (nI_le b1 (by omega))]
    · dsimp only
      rw [if_pos (nI_le (Nat.le_refl _) (by omega))]
      refine zS.s ⟨_, rfl, fun i hi => ?_, hI.2.2⟩
      by_cases e : i = k
      · subst e; exact hI.1
      · rw [hI.2.1 i e]; exact hJ.1 i (by omega)
  · dsimp only
    rw [if_pos (nI_le (Nat.le_refl _) (by omega))]
    exact zS.s ⟨_, rfl, hJ⟩
theorem reit_eq {s : Zr} {n : Nat} {c d : Nat → Nat} (hn : n ≤ 6) (h27 : vH s 27 n c) (h28 : vH s 28 n d) (hc : ∀ k, c k ≤ 100000) (hd : ∀ k, d k ≤ 100000) : zS (fX6_either s) (fun s' => vH s' 29 n (fun k => min (c k) (d k)) ∧ rOnly (oA 29) s s') := by
  have h64 := p2_64 hn
  unfold fX6_either
  refine zS.b (R1 := fun s' => (∀ k, k < 64 → k < 2 ^ n → s' 29 k = nI (min (c k) (d k))) ∧ rOnly (oA 29) s s') (zS.up (fun j s' => (∀ k, k < j → k < 2 ^ n → s' 29 k = nI (min (c k) (d k))) ∧ rOnly (oA 29) s s') 0 64 (fun k s' _ hk hJ => ?_) (fun s' hJ => ?_) (Nat.zero_le _) (by omega) ⟨fun k hk => absurd hk (Nat.not_lt_zero _), rOnly.rf⟩) (fun r hr => zS.s ⟨fun k hk => hr.1 k (by omega) hk, hr.2⟩)
  · dsimp only
    rw [if_neg (show ¬ (64 : Int32) ≤ nI k from nI_nle' (b := 64) (by omega) hk)]
    refine zS.e (rd27 hk) (zS.e (rd28 hk) (zS.e (x := if s' 28 k ≤ s' 27 k then s' 28 k else s' 27 k) ?_ (zS.e (wr29 hk) (zS.s ⟨_, by rw [nI_1], fun i hi hin => ?_, hJ.2.tr (rOnly.u rfl)⟩))))
    · rw [rd28 hk, rd27 hk, Option.bind_some, Option.bind_some]
      split <;> rfl
    · by_cases e : i = k
      · subst e
        have b2 := hc i
        have b3 := hd i
        rw [u2_s, hJ.2 27 _ (by omega), hJ.2 28 _ (by omega), h27 _ hin, h28 _ hin, nI_min' (by omega) (by omega), Nat.min_comm]
      · rw [u2_n (by omega)]; exact hJ.1 i (by omega) hin
  · dsimp only
    rw [if_pos (show (64 : Int32) ≤ nI 64 from nI_le (Nat.le_refl 64) (by omega))]
    exact zS.s ⟨_, rfl, hJ⟩
/-- the prices of nodes from y on are laid -/
def pH (s : Zr) (n : Nat) (nm : Nat → Int32) (nt : Nat → Tr) (y : Nat) : Prop := ∀ k, k < 2 ^ n → s 26 (64 * y + k) = nI (tCost 100000 n nm (nt y) k)
theorem rcp27 {s : Zr} {x : Nat} (hx : x < 61) : zS (fX6_copySet s 27 (nI x)) (fun s' => (∀ k, k < 64 → s' 27 k = s 26 (64 * x + k)) ∧ rOnly (oA 27) s s') := rcpy_eq (fun s k v h => wr27 h) (by omega) hx
theorem rcp28 {s : Zr} {x : Nat} (hx : x < 61) : zS (fX6_copySet s 28 (nI x)) (fun s' => (∀ k, k < 64 → s' 28 k = s 26 (64 * x + k)) ∧ rOnly (oA 28) s s') := rcpy_eq (fun s k v h => wr28 h) (by omega) hx
theorem rcp29 {s : Zr} {x : Nat} (hx : x < 61) : zS (fX6_copySet s 29 (nI x)) (fun s' => (∀ k, k < 64 → s' 29 k = s 26 (64 * x + k)) ∧ rOnly (oA 29) s s') := rcpy_eq (fun s k v h => wr29 h) (by omega) hx
abbrev oL (a _k : Nat) : Prop := 27 ≤ a ∧ a ≤ 30
theorem rfillK {s : Zr} {b : Nat} (hw : ∀ (s : Zr) (k : Nat) (v : Int32), k < 64 → wrI s b (nI k) v = some (u2 s b k v)) : zS (zloop (fun ((v3, s4) : Int32 × Zr) =>
    (if (64 : Int32) ≤ v3 then
      some (.inr s4)
    else
      (wrI s4 b v3 (100000 : Int32)).bind fun s8 =>
      some (.inl (v3 + (1 : Int32), s8)) : Option ((Int32 × Zr) ⊕ Zr))) zFU ((0 : Int32), s)) (fun s' => (∀ k, k < 64 → s' b k = nI 100000) ∧ rOnly (oA b) s s') := by
  refine zS.up (fun j s' => (∀ k, k < j → s' b k = nI 100000) ∧ rOnly (oA b) s s') 0 64 (fun k s' _ hk hJ => ?_) (fun s' hJ => ?_) (Nat.zero_le _) (by omega) ⟨fun k hk => absurd hk (Nat.not_lt_zero _), rOnly.rf⟩
  · dsimp only
    rw [if_neg (show ¬ (64 : Int32) ≤ nI k from nI_nle' (b := 64) (by omega) hk)]
    refine zS.e (hw _ _ _ hk) (zS.s ⟨_, by rw [nI_1], fun i hi => ?_, hJ.2.tr (rOnly.u rfl)⟩)
    by_cases e : i = k
    · subst e; rw [u2_s]; rfl
    · rw [u2_n (by omega)]; exact hJ.1 i (by omega)
  · dsimp only
    rw [if_pos (show (64 : Int32) ≤ nI 64 from nI_le (Nat.le_refl 64) (by omega))]
    exact zS.s ⟨_, rfl, hJ⟩
theorem tCp_1 {M n : Nat} {nm : Nat → Int32} {t : Tr} (h : 1 ≤ tLen t) : tCp M n nm (tPre t 1) = (tCost M n nm (tKid t 0), fun _ => M) := by
  rw [tPre_S t 0 h, tCp_op, tPre_0]
  rfl
theorem tCp_S {M n : Nat} {nm : Nat → Int32} {t : Tr} {j : Nat} (h1 : 1 ≤ j) (h : j < tLen t) : tCp M n nm (tPre t (j + 1)) = (if tLab t = 13 then cBeh M n (tCp M n nm (tPre t j)).1 (tCost M n nm (tKid t j)) else if tLab t = 14 then fun s => min ((tCp M n nm (tPre t j)).1 s) (tCost M n nm (tKid t j) s) else if tLab t = 15 then cBes M n (tCp M n nm (tPre t j)).1 (tCost M n nm (tKid t j)) else (tCp M n nm (tPre t j)).1,
      fun s => min ((tCp M n nm (tPre t j)).2 s) (tCost M n nm (tKid t j) s)) := by
  rw [tPre_S t j h, tCp_op, tPre_len t j (by omega), if_neg (by omega), tPre_lab]
theorem tCp_16 {M n : Nat} {nm : Nat → Int32} {t : Tr} (hl : tLab t = 16) : ∀ j, 1 ≤ j → j ≤ tLen t → (tCp M n nm (tPre t j)).1 = tCost M n nm (tKid t 0) := by
  intro j
  induction j with
  | zero => intro h; omega
  | succ j ih =>
    intro h1 h2
    by_cases e : j = 0
    · subst e; rw [tCp_1 (by omega)]
    · rw [tCp_S (by omega) (by omega)]
      show (if tLab t = 13 then _ else _) = _
      rw [if_neg (by omega), if_neg (by omega), if_neg (by omega)]
      exact ih (by omega) (by omega)
theorem cLpT_ge (n : Nat) (hd rd : Nat → Nat) : ∀ k i, k ≤ i → cLpT n hd rd k i = hd i
  | 0, _, _ => rfl
  | k + 1, i, h => by
    show (if i = k then _ else _) = _
    rw [if_neg (by omega)]
    exact cLpT_ge n hd rd k i (by omega)
theorem mod_ne_lt {k t : Nat} (h : k % 2 ^ t ≠ k) : k % 2 ^ t < k := by
  have := Nat.mod_le k (2 ^ t)
  omega
/-- the last rounds -/
theorem rlp_eq {s : Zr} {n : Nat} {hd rd : Nat → Nat} (hn : n ≤ 6) (h31 : s 0 31 = nI n) (h29 : vH s 29 n hd) (h30 : vH s 30 n rd) (hh : ∀ k, hd k ≤ 100000) (hr : ∀ k, rd k ≤ 100000) : zS (zloop (fun ((v33, s34) : Int32 × Zr) =>
    (if nI (2 ^ n) ≤ v33 then
      some (.inr s34)
    else
      (zloop (fun ((v38, s39) : Int32 × Zr) =>
        (if (s39 0 31) ≤ v38 then
          some (.inr s39)
        else
          (if (v33 &&& (((1 : Int32) <<< (v38 &&& 31)) - (1 : Int32))) = v33 then
            some (100000 : Int32)
          else
            (rdI s39 29 (v33 &&& (((1 : Int32) <<< (v38 &&& 31)) - (1 : Int32)))).bind fun x45 =>
            (rdI s39 30 (v33 - (v33 &&& (((1 : Int32) <<< (v38 &&& 31)) - (1 : Int32))))).bind fun x46 =>
            some (x45 + x46)).bind fun (v43 : Int32) =>
          (rdI s39 29 v33).bind fun x47 =>
          (if x47 ≤ v43 then
            (rdI s39 29 v33).bind fun x50 =>
            some x50
          else
            some v43).bind fun (v48 : Int32) =>
          (wrI s39 29 v33 v48).bind fun s51 =>
          some (.inl (v38 + (1 : Int32), s51)) : Option ((Int32 × Zr) ⊕ Zr))) zFU ((0 : Int32), s34)).bind fun (s40 : Zr) =>
      some (.inl (v33 + (1 : Int32), s40)) : Option ((Int32 × Zr) ⊕ Zr))) zFU ((0 : Int32), s)) (fun s' => vH s' 29 n (cLpT n hd rd (2 ^ n)) ∧ rOnly (oA 29) s s') := by
  have h64 := p2_64 hn
  refine zS.up (fun k s' => vH s' 29 n (cLpT n hd rd k) ∧ rOnly (oA 29) s s') 0 (2 ^ n) (fun k s' _ hk hJ => ?_) (fun s' hJ => ?_) (Nat.zero_le _) (by omega) ⟨h29, rOnly.rf⟩
  · dsimp only
    obtain ⟨j1, j2⟩ := hJ
    rw [if_neg (nI_nle' (by omega) hk)]
    refine zS.b (zS.up (fun t s2 => s2 29 k = nI (cLpI (cLpT n hd rd k) rd k (hd k) t) ∧ (∀ i, i ≠ k → s2 29 i = s' 29 i) ∧ rOnly (oA 29) s s2) 0 n (fun t s2 _ ht hI => ?_) (fun s2 hI => ?_) (Nat.zero_le _) (by omega) ⟨by rw [j1 k hk, cLpT_ge _ _ _ _ _ (Nat.le_refl _)]; rfl, fun i hi => rfl, j2⟩) (fun s2 hs2 => zS.s ⟨s2, by rw [nI_1], hs2⟩)
    · dsimp only
      obtain ⟨i1, i2, i3⟩ := hI
      have b1 := cLpI_le (cLpT n hd rd k) rd k (hd k) t
      have b0 := hh k
      have b2 := cLpT_le (n := n) (rd := rd) hh k (k % 2 ^ t)
      have b3 := hr (k - k % 2 ^ t)
      have hm : k % 2 ^ t ≤ k := Nat.mod_le _ _
      have e : cLpI (cLpT n hd rd k) rd k (hd k) (t + 1) = if k % 2 ^ t = k then cLpI (cLpT n hd rd k) rd k (hd k) t else min (cLpI (cLpT n hd rd k) rd k (hd k) t) (cLpT n hd rd k (k % 2 ^ t) + rd (k - k % 2 ^ t)) := rfl
      rw [if_neg (show ¬ s2 0 31 ≤ nI t by rw [i3 0 31 (by decide), h31]; exact nI_nle' (by omega) ht), bt_mask t (by omega) k (by omega), bt_sub]
      refine zS.e (x := nI (if k % 2 ^ t = k then 100000 else cLpT n hd rd k (k % 2 ^ t) + rd (k - k % 2 ^ t))) ?_ (zS.e (rd29 (by omega)) (zS.e (x := nI (cLpI (cLpT n hd rd k) rd k (hd k) (t + 1))) ?_ (zS.e (wr29 (by omega)) (zS.s ⟨_, by rw [nI_1], u2_s, fun i hi => (u2_n (by omega)).trans (i2 i hi), i3.tr (rOnly.u rfl)⟩))))
      · by_cases z : k % 2 ^ t = k
        · rw [if_pos (by rw [z]), if_pos z]; rfl
        · have := mod_ne_lt z
          rw [if_neg (fun y => z ((nI_eq (by omega) (by omega)).mp y)), if_neg z, rd29 (by omega), rd30 (by omega), Option.bind_some, Option.bind_some, i2 _ (by omega), j1 _ (by omega), i3 30 _ (by omega), h30 _ (by omega), nI_add]
      · rw [rd29 (by omega), Option.bind_some, i1, e]
        by_cases z : k % 2 ^ t = k
        · rw [if_pos z, if_pos z, if_pos (nI_le (by omega) (by omega))]
        · rw [if_neg z, if_neg z, ← nI_min' (by omega) (by omega)]
          split <;> rfl
    · dsimp only
      rw [if_pos (show s2 0 31 ≤ nI n by rw [hI.2.2 0 31 (by decide), h31]; exact nI_le (Nat.le_refl _) (by omega))]
      refine zS.s ⟨_, rfl, fun i hi => ?_, hI.2.2⟩
      show _ = nI (if i = k then _ else _)
      by_cases e : i = k
      · subst e; rw [if_pos rfl]; exact hI.1
      · rw [if_neg e, hI.2.1 i e]; exact j1 i hi
  · dsimp only
    rw [if_pos (nI_le (Nat.le_refl _) (by omega))]
    exact zS.s ⟨_, rfl, hJ⟩
theorem rloop_eq {s : Zr} {N L n : Nat} {nt : Nat → Tr} {nm : Nat → Int32} (st : nSt s N L nt) (hN : N ≤ 61) (hL : L ≤ 20000) (hn : n ≤ 6) (h31 : s 0 31 = nI n) {x : Nat} (hx : x < N) (hl : tLab (nt x) = 16) (h1 : 1 ≤ tLen (nt x)) (hp : ∀ y, x < y → y < N → pH s n nm nt y) : zS (fX6_layLoop s (nI x)) (fun s' => vH s' 29 n (tCost 100000 n nm (nt x)) ∧ rOnly oL s s') := by
  have h64 := p2_64 hn
  obtain ⟨-, -, c3, f, c4, c5, c6⟩ := st x hx
  obtain ⟨y0, y1, y2, y3, y4⟩ := c6 0 h1
  rw [Nat.add_zero] at y3
  have K : (1 : Nat) ≤ 100000 := by omega
  have head : ∀ s', rOnly oL s s' → ∀ k, k < 2 ^ n → s' 26 (64 * y0 + k) = nI (tCost 100000 n nm (tKid (nt x) 0) k) := fun s' o k hk => by
    rw [o 26 _ (by omega), hp y0 y1 y2 k hk, y4]
  unfold fX6_layLoop
  rw [rd15 (by omega), Option.bind_some, c4, rd17 (by omega), Option.bind_some, y3, h31, bt_pow n hn]
  refine zS.b (rfillK (fun s k v h => wr30 h)) (fun s1 hs1 => ?_)
  have o1 : rOnly oL s s1 := hs1.2.mono (fun a k z => by omega)
  refine zS.b (R1 := fun s' => vH s' 30 n (cBeh 100000 n (tCp 100000 n nm (nt x)).2 (tCost 100000 n nm (tKid (nt x) 0))) ∧ rOnly oL s s') (zS.up (fun j s' => vH s' 30 n (cBeh 100000 n (tCp 100000 n nm (tPre (nt x) j)).2 (tCost 100000 n nm (tKid (nt x) 0))) ∧ rOnly oL s s') 1 (tLen (nt x)) (fun j s' hj1 hj hJ => ?_) (fun s' hJ => ?_) h1 (by omega) ⟨fun k hk => ?_, o1⟩) (fun s2 hs2 => ?_)
  · dsimp only
    obtain ⟨j1, j2⟩ := hJ
    obtain ⟨yj, q1, q2, q3, q4⟩ := c6 j hj
    rw [rd16 (by omega), Option.bind_some, j2 16 _ (by omega), c3, if_neg (nI_nle' (by omega) hj), rd15 (by omega), Option.bind_some, j2 15 _ (by omega), c4, nI_add, rd17 (by omega), Option.bind_some, j2 17 _ (by omega), q3]
    refine zS.b (rcp27 (by omega)) (fun t1 ⟨a1, a2⟩ => ?_)
    refine zS.b (rcp28 (by omega)) (fun t2 ⟨b1, b2⟩ => ?_)
    have oa : rOnly oL s t1 := j2.tr (a2.mono (fun a k z => by omega))
    have ob : rOnly oL s t2 := oa.tr (b2.mono (fun a k z => by omega))
    refine zS.b (rbeh_eq (c := tCost 100000 n nm (tKid (nt x) j)) (d := tCost 100000 n nm (tKid (nt x) 0)) hn (by rw [ob 0 31 (by omega)]; exact h31) (fun k hk => ?_) (fun k hk => ?_) (tCost_le K nm _) (tCost_le K nm _)) (fun t3 ⟨d1, d2⟩ => ?_)
    · rw [b2 27 _ (by omega), a1 k (by omega), j2 26 _ (by omega), hp yj q1 q2 k hk, q4]
    · rw [b1 k (by omega), head t1 oa k hk]
    · have od : rOnly oL s t3 := ob.tr (d2.mono (fun a k z => by omega))
      have e30 : vH t3 30 n (cBeh 100000 n (tCp 100000 n nm (tPre (nt x) j)).2 (tCost 100000 n nm (tKid (nt x) 0))) := fun k hk => by
        rw [d2 30 _ (by omega), b2 30 _ (by omega), a2 30 _ (by omega)]; exact j1 k hk
      refine zS.b (R1 := fun s' => vH s' 30 n (cBeh 100000 n (tCp 100000 n nm (tPre (nt x) (j + 1))).2 (tCost 100000 n nm (tKid (nt x) 0))) ∧ rOnly oL s s') (zS.up (fun i s' => (∀ k, k < i → s' 30 k = nI (cBeh 100000 n (tCp 100000 n nm (tPre (nt x) (j + 1))).2 (tCost 100000 n nm (tKid (nt x) 0)) k)) ∧ (∀ k, i ≤ k → k < 2 ^ n → s' 30 k = t3 30 k) ∧ rOnly (oA 30) t3 s') 0 (2 ^ n) (fun i s' _ hi hI => ?_) (fun s' hI => ?_) (Nat.zero_le _) (by omega) ⟨fun k hk => absurd hk (Nat.not_lt_zero _), fun _ _ _ => rfl, rOnly.rf⟩) (fun r hr => zS.s ⟨_, by rw [nI_1], hr⟩)
      · dsimp only
        obtain ⟨i1, i2, i3⟩ := hI
        rw [if_neg (nI_nle' (by omega) hi)]
        have b2 := cBehF_le 100000 (tCost 100000 n nm (tKid (nt x) j)) (tCost 100000 n nm (tKid (nt x) 0)) i (n + 1)
        have b3 := cBehF_le 100000 (tCp 100000 n nm (tPre (nt x) j)).2 (tCost 100000 n nm (tKid (nt x) 0)) i (n + 1)
        refine zS.e (rd29 (by omega)) (zS.e (rd30 (by omega)) (zS.e (x := nI (cBeh 100000 n (tCp 100000 n nm (tPre (nt x) (j + 1))).2 (tCost 100000 n nm (tKid (nt x) 0)) i)) ?_ (zS.e (wr30 (by omega)) (zS.s ⟨_, by rw [nI_1], fun k hk => ?_, fun k hk hk2 => ?_, i3.tr (rOnly.u rfl)⟩))))
        · rw [rd30 (by omega), rd29 (by omega), Option.bind_some, Option.bind_some, i2 i (Nat.le_refl _) hi, i3 29 _ (by omega), e30 i hi, d1 i hi, tCp_S hj1 hj]
          show _ = some (nI (cBehF 100000 (fun s => min _ _) _ i (n + 1)))
          rw [cBehF_min]
          show (if nI (cBehF _ _ _ _ _) ≤ nI (cBehF _ _ _ _ _) then some (nI (cBehF _ _ _ _ _)) else some (nI (cBehF _ _ _ _ _))) = _
          rw [← nI_min' (by omega) (by omega)]
          split <;> rfl
        · by_cases e : k = i
          · subst e; rw [u2_s]
          · rw [u2_n (by omega)]; exact i1 k (by omega)
        · rw [u2_n (by omega)]; exact i2 k (by omega) hk2
      · dsimp only
        rw [if_pos (nI_le (Nat.le_refl _) (by omega))]
        exact zS.s ⟨_, rfl, hI.1, od.tr (hI.2.2.mono (fun a k z => by omega))⟩
  · dsimp only
    rw [rd16 (by omega), Option.bind_some, hJ.2 16 _ (by omega), c3, if_pos (nI_le (Nat.le_refl _) (by omega))]
    refine zS.s ⟨_, rfl, ?_, hJ.2⟩
    have := hJ.1
    rw [tPre_all] at this
    exact this
  · rw [hs1.1 k (by omega), tCp_1 h1]
    show _ = nI (cBehF _ _ _ _ _)
    rw [cBehF_M]
  · refine zS.b (rcp29 (by omega)) (fun t1 ⟨a1, a2⟩ => ?_)
    have oa : rOnly oL s t1 := hs2.2.tr (a2.mono (fun a k z => by omega))
    refine zS.b (rlp_eq (hd := tCost 100000 n nm (tKid (nt x) 0)) (rd := cBeh 100000 n (tCp 100000 n nm (nt x)).2 (tCost 100000 n nm (tKid (nt x) 0))) hn (by rw [oa 0 31 (by omega)]; exact h31) (fun k hk => ?_) (fun k hk => ?_) (tCost_le K nm _) (fun k => cBehF_le _ _ _ _ _)) (fun r hr => ?_)
    · rw [a1 k (by omega), head s2 hs2.2 k hk]
    · rw [a2 30 _ (by omega)]; exact hs2.1 k hk
    · refine zS.s ⟨fun k hk => ?_, oa.tr (hr.2.mono (fun a k z => by omega))⟩
      rw [hr.1 k hk]
      have e16 := tCp_16 (M := 100000) (n := n) (nm := nm) hl (tLen (nt x)) h1 (Nat.le_refl _)
      rw [tPre_all] at e16
      unfold tCost cFin
      rw [if_pos hl, e16]
      rfl
abbrev oN (x a k : Nat) : Prop := (27 ≤ a ∧ a ≤ 30) ∨ (a = 26 ∧ 64 * x ≤ k ∧ k < 64 * x + 64)
theorem cDeed_sil {M : Nat} {nm : Nat → Int32} {x : Nat} : ∀ i, (∀ j, j < i → nm j ≠ tNm x) → ∀ s, cDeedF M nm x i s = if s = 0 then (if x < 12 then 1 else 0) else M
  | 0, _, _ => rfl
  | i + 1, h, s => by
    show (if s = 2 ^ i then (if nm i = tNm x then 0 else M) else _) = _
    rw [cDeed_sil i (fun j hj => h j (by omega)) s, if_neg (h i (by omega))]
    by_cases e : s = 2 ^ i
    · rw [if_pos e, if_neg (by have := Nat.two_pow_pos i; omega)]
    · rw [if_neg e]
theorem tCost_leaf {M n : Nat} {nm : Nat → Int32} {t : Tr} (h : tLen t = 0) (h2 : tLab t < 16) : tCost M n nm t = cDeedF M nm (tLab t) n := by
  rw [tG_0 t h]
  unfold tCost cFin
  rw [if_neg (by show ¬ tLab t = 16; omega)]
  rfl
theorem rnode_eq {s : Zr} {N L n : Nat} {nt : Nat → Tr} {nm : Nat → Int32} (st : nSt s N L nt) (hN : N ≤ 61) (hL : L ≤ 20000) (hn : n ≤ 6) (h31 : s 0 31 = nI n) (h25 : ∀ i, i < n → s 25 i = nm i ∧ mnm (nm i) 12) {x : Nat} (hx : x < N) (hO : tOK (nt x)) (hp : ∀ y, x < y → y < N → pH s n nm nt y) : zS (fX6_layNode s (nI x)) (fun s' => pH s' n nm nt x ∧ rOnly (oN x) s s') := by
  have h64 := p2_64 hn
  obtain ⟨c1, c2, c3, f, c4, c5, c6⟩ := st x hx
  have lab := tG_lab _ hO.1
  have K : (1 : Nat) ≤ 100000 := by omega
  unfold fX6_layNode
  refine zS.b (rfillK (fun s k v h => wr29 h)) (fun s1 ⟨a1, a2⟩ => ?_)
  have o1 : rOnly oL s s1 := a2.mono (fun a k z => by omega)
  have st1 := nSt.only o1 st (fun a k h1 h2 => by omega)
  have hp1 : ∀ y, x < y → y < N → pH s1 n nm nt y := fun y h1 h2 k hk => by rw [o1 26 _ (by omega)]; exact hp y h1 h2 k hk
  have f31 : s1 0 31 = nI n := by rw [o1 0 31 (by omega)]; exact h31
  obtain ⟨d1, d2, d3, -, d4, -, d6⟩ := st1 x hx
  rw [rd13 (by omega)]
  refine zS.e rfl ?_
  rw [d1]
  refine zS.b (R1 := fun s' => vH s' 29 n (tCost 100000 n nm (nt x)) ∧ rOnly oL s s') ?_ (fun s2 ⟨b1, b2⟩ => ?_)
  · by_cases k0 : tLab (nt x) < 12
    · have len0 := tG_leaf _ hO.1 (by omega)
      rw [if_pos ((tKd_0 lab).mpr k0)]
      refine zS.e (show wrI s1 29 (nI 0) (1 : Int32) = _ from wr29 (by omega)) ?_
      refine zS.b (R1 := fun s' => vH s' 29 n (tCost 100000 n nm (nt x)) ∧ rOnly oL s s') (zS.up (fun i s' => (∀ k, k < 2 ^ n → s' 29 k = nI (cDeedF 100000 nm (tLab (nt x)) i k)) ∧ rOnly oL s s') 0 n (fun i s' _ hi hJ => ?_) (fun s' hJ => ?_) (Nat.zero_le _) (by omega) ⟨fun k hk => ?_, o1.tr (rOnly.u (by omega))⟩) (fun r hr => zS.s hr)
      · dsimp only
        obtain ⟨j1, j2⟩ := hJ
        have pi : 2 ^ i < 64 := Nat.lt_of_lt_of_le (Nat.pow_lt_pow_right (by omega) hi) h64
        rw [if_neg (show ¬ s' 0 31 ≤ nI i by rw [j2 0 31 (by omega), h31]; exact nI_nle' (by omega) hi), bt_pow i (by omega)]
        refine zS.e (rd25 (by omega)) (zS.e (rd14 (by omega)) (zS.e (x := nI (if nm i = tNm (tLab (nt x)) then 0 else 100000)) ?_ (zS.e (wr29 pi) (zS.s ⟨_, by rw [nI_1], fun k hk => ?_, j2.tr (rOnly.u (by omega))⟩))))
        · rw [j2 25 _ (by omega), (h25 i hi).1, j2 14 _ (by omega), c2]
          split <;> rfl
        · show _ = nI (if k = 2 ^ i then _ else _)
          by_cases e : k = 2 ^ i
          · subst e; rw [u2_s, if_pos rfl]
          · rw [u2_n (by omega), if_neg e]; exact j1 k hk
      · dsimp only
        rw [if_pos (show s' 0 31 ≤ nI n by rw [hJ.2 0 31 (by omega), h31]; exact nI_le (Nat.le_refl _) (by omega))]
        refine zS.s ⟨_, rfl, ?_, hJ.2⟩
        rw [tCost_leaf len0 (by omega)]
        exact hJ.1
      · show _ = nI (if k = 0 then (if tLab (nt x) < 12 then 1 else 0) else 100000)
        rw [if_pos k0]
        by_cases e : k = 0
        · subst e; rw [u2_s, if_pos rfl]; rfl
        · rw [u2_n (by omega), if_neg e]; exact a1 k (by omega)
    · rw [if_neg (fun z => k0 ((tKd_0 lab).mp z))]
      refine zS.e rfl ?_
      by_cases k1 : tLab (nt x) = 12
      · have len0 := tG_leaf _ hO.1 (by omega)
        rw [if_pos ((tKd_1 lab).mpr k1)]
        refine zS.e (show wrI s1 29 (nI 0) (0 : Int32) = _ from wr29 (by omega)) (zS.s ⟨fun k hk => ?_, o1.tr (rOnly.u (by omega))⟩)
        rw [tCost_leaf len0 (by omega), k1, cDeed_sil n (fun j hj z => by
          have q := (h25 j hj).2.1
          rw [z] at q
          exact absurd q (by decide))]
        by_cases e : k = 0
        · subst e; rw [u2_s, if_pos rfl]; rfl
        · rw [u2_n (by omega), if_neg e]; exact a1 k (by omega)
      · have len2 := hO.2 (by omega)
        rw [if_neg (fun z => k1 ((tKd_1 lab).mp z))]
        refine zS.e rfl ?_
        by_cases k5 : tLab (nt x) = 16
        · rw [if_pos ((tKd_5 lab).mpr k5)]
          refine zS.b (rloop_eq st1 hN hL hn f31 hx k5 (by omega) hp1) (fun r hr => zS.s ⟨hr.1, o1.tr hr.2⟩)
        · rw [if_neg (fun z => k5 ((tKd_5 lab).mp z))]
          obtain ⟨y0, y1, y2, y3, y4⟩ := c6 0 (by omega)
          rw [Nat.add_zero] at y3
          refine zS.e (rd15 (by omega)) ?_
          rw [o1 15 _ (by omega), c4]
          refine zS.e (rd17 (by omega)) ?_
          rw [o1 17 _ (by omega), y3]
          refine zS.b (rcp29 (by omega)) (fun s2 ⟨e1, e2⟩ => ?_)
          refine zS.b (R1 := fun s' => vH s' 29 n (tCost 100000 n nm (nt x)) ∧ rOnly oL s s') (zS.up (fun j s' => vH s' 29 n (tCp 100000 n nm (tPre (nt x) j)).1 ∧ rOnly oL s s') 1 (tLen (nt x)) (fun j s' hj1 hj hJ => ?_) (fun s' hJ => ?_) (by omega) (by omega) ⟨fun k hk => ?_, o1.tr (e2.mono (fun a k z => by omega))⟩) (fun r hr => zS.s hr)
          · dsimp only
            obtain ⟨j1, j2⟩ := hJ
            obtain ⟨yj, q1, q2, q3, q4⟩ := c6 j hj
            rw [rd16 (by omega), Option.bind_some, j2 16 _ (by omega), c3, if_neg (nI_nle' (by omega) hj)]
            have cp : zS (zloop (fun ((v34, s35) : Int32 × Zr) =>
              (if (64 : Int32) ≤ v34 then
                some (.inr s35)
              else
                (rdI s35 29 v34).bind fun x39 =>
                (wrI s35 27 v34 x39).bind fun s40 =>
                some (.inl (v34 + (1 : Int32), s40)) : Option ((Int32 × Zr) ⊕ Zr))) zFU ((0 : Int32), s')) (fun s3 => (∀ k, k < 64 → s3 27 k = s' 29 k) ∧ rOnly (oA 27) s' s3) := by
              refine zS.up (fun i s3 => (∀ k, k < i → s3 27 k = s' 29 k) ∧ rOnly (oA 27) s' s3) 0 64 (fun i s3 _ hi hI => ?_) (fun s3 hI => ?_) (Nat.zero_le _) (by omega) ⟨fun k hk => absurd hk (Nat.not_lt_zero _), rOnly.rf⟩
              · dsimp only
                rw [if_neg (show ¬ (64 : Int32) ≤ nI i from nI_nle' (b := 64) (by omega) hi)]
                refine zS.e (rd29 hi) (zS.e (wr27 hi) (zS.s ⟨_, by rw [nI_1], fun k hk => ?_, hI.2.tr (rOnly.u rfl)⟩))
                by_cases e : k = i
                · subst e; rw [u2_s, hI.2 29 _ (by omega)]
                · rw [u2_n (by omega)]; exact hI.1 k (by omega)
              · dsimp only
                rw [if_pos (show (64 : Int32) ≤ nI 64 from nI_le (Nat.le_refl 64) (by omega))]
                exact zS.s ⟨_, rfl, hI⟩
            refine zS.b cp (fun t1 ⟨g1, g2⟩ => ?_)
            have oa : rOnly oL s t1 := j2.tr (g2.mono (fun a k z => by omega))
            rw [rd15 (by omega), Option.bind_some, oa 15 _ (by omega), c4, nI_add, rd17 (by omega), Option.bind_some, oa 17 _ (by omega), q3]
            refine zS.b (rcp28 (by omega)) (fun t2 ⟨m1, m2⟩ => ?_)
            have ob : rOnly oL s t2 := oa.tr (m2.mono (fun a k z => by omega))
            have p27 : vH t2 27 n (tCp 100000 n nm (tPre (nt x) j)).1 := fun k hk => by rw [m2 27 _ (by omega), g1 k (by omega)]; exact j1 k hk
            have p28 : vH t2 28 n (tCost 100000 n nm (tKid (nt x) j)) := fun k hk => by rw [m1 k (by omega), oa 26 _ (by omega), hp yj q1 q2 k hk, q4]
            have p31 : t2 0 31 = nI n := by rw [ob 0 31 (by omega)]; exact h31
            have u1 := tCp_le (n := n) K nm (tPre (nt x) j)
            have u2' := tCost_le (n := n) K nm (tKid (nt x) j)
            refine zS.e (rd13 (by omega)) ?_
            rw [ob 13 _ (by omega), c1]
            refine zS.b (R1 := fun s' => vH s' 29 n (tCp 100000 n nm (tPre (nt x) (j + 1))).1 ∧ rOnly oL s s') ?_ (fun r hr => zS.s ⟨_, by rw [nI_1], hr⟩)
            rw [tCp_S hj1 hj]
            show zS _ (fun s' => vH s' 29 n (if tLab (nt x) = 13 then _ else _) ∧ _)
            by_cases k2 : tLab (nt x) = 13
            · rw [if_pos ((tKd_2 lab).mpr k2), if_pos k2]
              exact zS.b (rbeh_eq hn p31 p27 p28 u1 u2') (fun r hr => zS.s ⟨hr.1, ob.tr (hr.2.mono (fun a k z => by omega))⟩)
            · rw [if_neg (fun z => k2 ((tKd_2 lab).mp z)), if_neg k2]
              refine zS.e (rd13 (by omega)) ?_
              rw [ob 13 _ (by omega), c1]
              by_cases k4 : tLab (nt x) = 15
              · rw [if_pos ((tKd_4 lab).mpr k4), if_neg (by omega), if_pos k4]
                exact zS.b (rbes_eq hn p31 p27 p28 u1 u2') (fun r hr => zS.s ⟨hr.1, ob.tr (hr.2.mono (fun a k z => by omega))⟩)
              · rw [if_neg (fun z => k4 ((tKd_4 lab).mp z)), if_pos (by omega)]
                exact zS.b (reit_eq hn p27 p28 u1 u2') (fun r hr => zS.s ⟨hr.1, ob.tr (hr.2.mono (fun a k z => by omega))⟩)
          · dsimp only
            rw [rd16 (by omega), Option.bind_some, hJ.2 16 _ (by omega), c3, if_pos (nI_le (Nat.le_refl _) (by omega))]
            refine zS.s ⟨_, rfl, ?_, hJ.2⟩
            have := hJ.1
            rw [tPre_all] at this
            unfold tCost cFin
            rw [if_neg k5]
            exact this
          · rw [e1 k (by omega), o1 26 _ (by omega), hp y0 y1 y2 k hk, y4, tCp_1 (by omega)]
  · refine zS.b (R1 := fun s' => (∀ k, k < 64 → s' 26 (64 * x + k) = if s2 29 k ≤ (100000 : Int32) then s2 29 k else (100000 : Int32)) ∧ rOnly (fun a k => a = 26 ∧ 64 * x ≤ k ∧ k < 64 * x + 64) s2 s') (zS.up (fun i s' => (∀ k, k < i → s' 26 (64 * x + k) = if s2 29 k ≤ (100000 : Int32) then s2 29 k else (100000 : Int32)) ∧ rOnly (fun a k => a = 26 ∧ 64 * x ≤ k ∧ k < 64 * x + 64) s2 s') 0 64 (fun i s' _ hi hI => ?_) (fun s' hI => ?_) (Nat.zero_le _) (by omega) ⟨fun k hk => absurd hk (Nat.not_lt_zero _), rOnly.rf⟩) (fun r ⟨r1, r2⟩ => zS.s ⟨fun k hk => ?_, ?_⟩)
    · dsimp only
      rw [if_neg (show ¬ (64 : Int32) ≤ nI i from nI_nle' (b := 64) (by omega) hi), show (64 : Int32) * nI x + nI i = nI (64 * x + i) from by rw [show (64 : Int32) = nI 64 from rfl, pk_mul, nI_add]]
      refine zS.e (rd29 hi) (zS.e (x := if s2 29 i ≤ (100000 : Int32) then s2 29 i else (100000 : Int32)) ?_ (zS.e (wr26 (by omega)) (zS.s ⟨_, by rw [nI_1], fun k hk => ?_, hI.2.tr (rOnly.u (by omega))⟩)))
      · rw [rd29 hi, Option.bind_some, hI.2 29 _ (by omega)]
        split <;> rfl
      · by_cases e : k = i
        · subst e; rw [u2_s]
        · rw [u2_n (by omega)]; exact hI.1 k (by omega)
    · dsimp only
      rw [if_pos (show (64 : Int32) ≤ nI 64 from nI_le (Nat.le_refl 64) (by omega))]
      exact zS.s ⟨_, rfl, hI⟩
    · have le := tCost_le (n := n) K nm (nt x) k
      rw [r1 k (by omega), b1 k hk, if_pos (show nI (tCost 100000 n nm (nt x) k) ≤ (100000 : Int32) from nI_le (b := 100000) le (by omega))]
    · exact (b2.mono (fun a k z => by omega)).tr (r2.mono (fun a k z => by omega))
