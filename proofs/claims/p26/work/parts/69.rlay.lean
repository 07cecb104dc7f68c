/-! programs that come through -/
def zS {α : Type} (o : Option α) (R : α → Prop) : Prop := ∃ r, o = some r ∧ R r
theorem zS.b {α β : Type} {o : Option α} {R1 : α → Prop} {G : α → Option β} {R : β → Prop} (h : zS o R1) (k : ∀ r, R1 r → zS (G r) R) : zS (o.bind G) R := by
  obtain ⟨r, rfl, h2⟩ := h
  exact k r h2
theorem zS.e {α β : Type} {o : Option α} {x : α} {G : α → Option β} {R : β → Prop} (e : o = some x) (k : zS (G x) R) : zS (o.bind G) R := by
  subst e
  exact k
theorem zS.s {α : Type} {x : α} {R : α → Prop} (h : R x) : zS (some x) R := ⟨x, rfl, h⟩
theorem zS.m {α : Type} {o : Option α} {R R' : α → Prop} (h : zS o R) (k : ∀ r, R r → R' r) : zS o R' := ⟨h.choose, h.choose_spec.1, k _ h.choose_spec.2⟩
theorem zS.up {α ρ : Type} {f : Int32 × α → Option ((Int32 × α) ⊕ ρ)} (J : Nat → α → Prop) {P : ρ → Prop} (a N : Nat) {s0 : α} (hf : ∀ k s, a ≤ k → k < N → J k s → zS (f (nI k, s)) (fun q => ∃ s', q = .inl (nI (k + 1), s') ∧ J (k + 1) s')) (hN : ∀ s, J N s → zS (f (nI N, s)) (fun q => ∃ r, q = .inr r ∧ P r)) (ha : a ≤ N) (hN' : N < 100000) (h0 : J a s0) : zS (zloop f zFU (nI a, s0)) P :=
  upL (J := J) (P := P) (a := a) (N := N) (fun k s h1 h2 h3 => by
    obtain ⟨q, e, s', rfl, h⟩ := hf k s h1 h2 h3
    exact ⟨s', e, h⟩) (fun s h => by
    obtain ⟨q, e, r, rfl, h⟩ := hN s h
    exact ⟨r, e, h⟩) ha hN' h0
theorem zS.dn {α ρ : Type} {f : Int32 × α → Option ((Int32 × α) ⊕ ρ)} (J : Nat → α → Prop) {P : ρ → Prop} (N : Nat) {s0 : α} (hf : ∀ k s, k < N → J (k + 1) s → zS (f (nI k, s)) (fun q => ∃ s', q = .inl (nI k + (-1 : Int32), s') ∧ J k s')) (hN : ∀ s, J 0 s → zS (f (-1, s)) (fun q => ∃ r, q = .inr r ∧ P r)) (hN' : N < 100000) (h0 : J N s0) : zS (zloop f zFU (nI N - (1 : Int32), s0)) P :=
  dnL (J := J) (P := P) (N := N) (fun k s h1 h2 => by
    obtain ⟨q, e, s', rfl, h⟩ := hf k s h1 h2
    exact ⟨s', e, h⟩) (fun s h => by
    obtain ⟨q, e, r, rfl, h⟩ := hN s h
    exact ⟨r, e, h⟩) hN' h0
/-- a loop whose numbers are known: the last one -/
theorem zS.fold {f : Int32 × Int32 → Option ((Int32 × Int32) ⊕ Int32)} (g : Nat → Int32) (a N : Nat) (hs : ∀ j, a ≤ j → j < N → f (g j, nI j) = some (.inl (g (j + 1), nI (j + 1)))) (he : f (g N, nI N) = some (.inr (g N))) (ha : a ≤ N) (hN : N < 100000) : zS (zloop f zFU (g a, nI a)) (fun r => r = g N) := ⟨_, rsum_eq g a N ha hs he hN, rfl⟩
/-! laying on the reference's side -/
def vH (s : Zr) (a n : Nat) (c : Nat → Nat) : Prop := ∀ k, k < 2 ^ n → s a k = nI (c k)
theorem vH.only {S : Nat → Nat → Prop} {s s' : Zr} {a n : Nat} {c : Nat → Nat} (o : rOnly S s s') (h : vH s a n c) (hS : ∀ k, ¬ S a k) : vH s' a n c := fun k hk => (o a k (hS k)).trans (h k hk)
abbrev oL (a _k : Nat) : Prop := 27 ≤ a ∧ a ≤ 30
theorem tCp_1 {M n : Nat} {nm : Nat → Int32} {t : Tr} (h : 1 ≤ tLen t) : tCp M n nm (tPre t 1) = (tCost M n nm (tKid t 0), fun _ => M) := by
  rw [tPre_S t 0 h, tCp_op, tPre_0]
  rfl
theorem tCp_S {M n : Nat} {nm : Nat → Int32} {t : Tr} {j : Nat} (h1 : 1 ≤ j) (h : j < tLen t) : tCp M n nm (tPre t (j + 1)) = (if tLab t = 13 then cBeh M n (tCp M n nm (tPre t j)).1 (tCost M n nm (tKid t j)) else if tLab t = 14 then fun s => min ((tCp M n nm (tPre t j)).1 s) (tCost M n nm (tKid t j) s) else if tLab t = 15 then cBes M n (tCp M n nm (tPre t j)).1 (tCost M n nm (tKid t j)) else (tCp M n nm (tPre t j)).1,
      fun s => min ((tCp M n nm (tPre t j)).2 s) (tCost M n nm (tKid t j) s)) := by
  rw [tPre_S t j h, tCp_op, tPre_len t j (by omega), if_neg (by omega), tPre_lab]
theorem tCp_16 {M n : Nat} {nm : Nat → Int32} {t : Tr} (hl : tLab t = 16) : ∀ j, 1 ≤ j → j ≤ tLen t → (tCp M n nm (tPre t j)).1 = tCost M n nm (tKid t 0) := by
  intro j
  induction j with
  | zero => intro h; omega
  | succ j ih =>
    intro h1 h2
    by_cases e : j = 0
    · subst e; rw [tCp_1 (by omega)]
    · rw [tCp_S (by omega) (by omega)]
      show (if tLab t = 13 then _ else _) = _
      rw [if_neg (by omega), if_neg (by omega), if_neg (by omega)]
      exact ih (by omega) (by omega)
theorem cLpT_ge (n : Nat) (hd rd : Nat → Nat) : ∀ k i, k ≤ i → cLpT n hd rd k i = hd i
  | 0, _, _ => rfl
  | k + 1, i, h => by
    show (if i = k then _ else _) = _
    rw [if_neg (by omega)]
    exact cLpT_ge n hd rd k i (by omega)
theorem mod_ne_lt {k t : Nat} (h : k % 2 ^ t ≠ k) : k % 2 ^ t < k := by
  have := Nat.mod_le k (2 ^ t)
  omega
abbrev oN (x a k : Nat) : Prop := (27 ≤ a ∧ a ≤ 30) ∨ (a = 26 ∧ 64 * x ≤ k ∧ k < 64 * x + 64)
theorem tCost_leaf {M n : Nat} {nm : Nat → Int32} {t : Tr} (h : tLen t = 0) (h2 : tLab t < 16) : tCost M n nm t = cDeedF M nm (tLab t) n := by
  rw [tG_0 t h]
  unfold tCost cFin
  rw [if_neg (by show ¬ tLab t = 16; omega)]
  rfl
