/-! found on the reference's side: nodes that are done, nodes to come -/
def fDn (s : Zr) (N D : Nat) (nt : Nat → Tr) (par : Nat → Nat) (x : Nat) : Prop := s 13 x = nI (tKd (tLab (nt x))) ∧ s 14 x = tNm (tLab (nt x)) ∧ s 16 x = nI (tLen (nt x)) ∧ ∃ f y0, s 15 x = nI f ∧ (f + tLen (nt x) ≤ D ∧ x < y0 ∧ y0 + tLen (nt x) ≤ N) ∧ ∀ j, j < tLen (nt x) → s 17 (f + j) = nI (y0 + j) ∧ nt (y0 + j) = tKid (nt x) j ∧ par (y0 + j) = x
def fPn (s : Zr) (D F W : Nat) (nt : Nat → Tr) (x : Nat) : Prop := ∃ l n, xOK l ∧ nPd s D F W x l ∧ cN (xN l) ≤ n ∧ nt x = xFnd n l
def fWt (s : Zr) (x : Nat) (nt : Nat → Tr) (y : Nat) : Nat := if y < x ∨ s 32 y = -1 then 1 else tSz (nt y)
def fInv (s : Zr) (x N D F W : Nat) (nt : Nat → Tr) (par : Nat → Nat) : Prop := (s 0 15 = nI N ∧ s 0 20 = nI D ∧ s 0 42 = nI F ∧ s 0 45 = nI W) ∧ (x ≤ N ∧ D ≤ N ∧ F ≤ 144 * N ∧ W ≤ 144 * N ∧ 1 ≤ N ∧ N ≤ 74) ∧ (∀ y, y < N → ((y < x ∨ s 32 y = -1) ∧ fDn s N D nt par y) ∨ (x ≤ y ∧ fPn s D F W nt y)) ∧ nsum (fWt s x nt) 0 N = tSz (nt 0) ∧ ∀ y, par y ≤ y
abbrev sFd (x N D F W a k : Nat) : Prop := sCn x N D F W a k ∨ (a = 14 ∧ k = x) ∨ (36 ≤ a ∧ a ≤ 45) ∨ (a = 0 ∧ k = 52)
theorem fInv.step {s s' : Zr} {x N D F W N' D' F' W' : Nat} {nt nt' : Nat → Tr} {par par' : Nat → Nat} (J : fInv s x N D F W nt par) (hx : x < N) (h32 : ¬ s 32 x = -1) (o : rOnly (sFd x N D F W) s s') (e : s' 0 15 = nI N' ∧ s' 0 20 = nI D' ∧ s' 0 42 = nI F' ∧ s' 0 45 = nI W') (hN : N ≤ N' ∧ N' ≤ 74) (hD : D ≤ D' ∧ D' ≤ N') (hF : F ≤ F' ∧ F' ≤ 144 * N') (hW : W ≤ W' ∧ W' ≤ 144 * N')
    (hnt : ∀ y, y < N → nt' y = nt y) (hpar : ∀ y, y < N → par' y = par y) (hp : ∀ y, par' y ≤ y) (dx : fDn s' N' D' nt' par' x) (new : ∀ y, N ≤ y → y < N' → (s' 32 y = -1 ∧ fDn s' N' D' nt' par' y) ∨ fPn s' D' F' W' nt' y) (sz : 1 + nsum (fWt s' (x + 1) nt') N (N' - N) = tSz (nt x)) : fInv s' (x + 1) N' D' F' W' nt' par' := by
  obtain ⟨-, ⟨b1, b2, b3, b4, b5, b6⟩, c, d, p⟩ := J
  refine ⟨e, ⟨by omega, hD.2, hF.2, hW.2, by omega, hN.2⟩, fun y hy => ?_, ?_, hp⟩
  · by_cases z : y < N
    · by_cases w : y = x
      · subst w; exact Or.inl ⟨Or.inl (Nat.lt_succ_self _), dx⟩
      · have e32 : s' 32 y = s 32 y := o 32 y (by omega)
        rcases c y z with ⟨v1, v2⟩ | ⟨v1, l, n, v2, v3, v4, v5⟩
        · refine Or.inl ⟨?_, ?_⟩
          · rw [e32]; exact v1.elim (fun q => Or.inl (by omega)) Or.inr
          · obtain ⟨q1, q2, q3, f, y0, q4, q5, q6⟩ := v2
            unfold fDn
            rw [hnt y z]
            refine ⟨(o 13 y (by omega)).trans q1, (o 14 y (by omega)).trans q2, (o 16 y (by omega)).trans q3, f, y0, (o 15 y (by omega)).trans q4, by omega, fun j hj => ?_⟩
            obtain ⟨w1, w2, w3⟩ := q6 j hj
            refine ⟨(o 17 (f + j) (by omega)).trans w1, ?_, ?_⟩
            · rw [hnt _ (by omega)]; exact w2
            · rw [hpar _ (by omega)]; exact w3
        · exact Or.inr ⟨by omega, l, n, v2, v3.on o ⟨by omega, by omega, by omega, by omega, by omega⟩ (fun k hk => ⟨by omega, by omega⟩) (fun k hk => by omega) hD.1 hF.1 hW.1, v4, by rw [hnt y z]; exact v5⟩
    · rcases new y (by omega) hy with v | v
      · exact Or.inl ⟨Or.inr v.1, v.2⟩
      · exact Or.inr ⟨by omega, v⟩
  · have s1 := nsum_add (fWt s' (x + 1) nt') 0 N (N' - N)
    rw [Nat.add_sub_of_le hN.1, Nat.zero_add] at s1
    have key : nsum (fWt s' (x + 1) nt') 0 N + tSz (nt x) = nsum (fWt s x nt) 0 N + 1 := by
      have t1 := nsum_add (fWt s' (x + 1) nt') 0 x (N - x - 1 + 1)
      have t2 := nsum_add (fWt s x nt) 0 x (N - x - 1 + 1)
      rw [nsum_hd, show x + (N - x - 1 + 1) = N by omega, Nat.zero_add] at t1 t2
      have c1 : nsum (fWt s' (x + 1) nt') 0 x = nsum (fWt s x nt) 0 x := nsum_congr x (fun i hi => by
        rw [Nat.zero_add]
        unfold fWt
        rw [if_pos (Or.inl (by omega)), if_pos (Or.inl hi)])
      have c2 : nsum (fWt s' (x + 1) nt') (x + 1) (N - x - 1) = nsum (fWt s x nt) (x + 1) (N - x - 1) := nsum_congr _ (fun i hi => by
        unfold fWt
        rw [o 32 _ (by omega), hnt _ (by omega)]
        by_cases z : s 32 (x + 1 + i) = -1
        · rw [if_pos (Or.inr z), if_pos (Or.inr z)]
        · rw [if_neg (fun w => w.elim (fun q => by omega) z), if_neg (fun w => w.elim (fun q => by omega) z)])
      have c3 : fWt s' (x + 1) nt' x = 1 := if_pos (Or.inl (Nat.lt_succ_self _))
      have c4 : fWt s x nt x = tSz (nt x) := if_neg (fun w => w.elim (Nat.lt_irrefl _) h32)
      omega
    rw [s1, hnt 0 (by omega)]
    omega
theorem nI_nm1 {k : Nat} (h : k < 2 ^ 31) : ¬ nI k = -1 := fun z => nI_pos h (by rw [z]; decide)
theorem nPd.n1 {s : Zr} {D F W y : Nat} {l : Rw} (ok : xOK l) (h : nPd s D F W y l) : ¬ s 32 y = -1 := by
  obtain ⟨-, -, -, f, -, a4, -⟩ := h
  have := ok.2.1
  rw [a4]
  exact nI_nm1 (by omega)
theorem fInv.skip {s : Zr} {x N D F W : Nat} {nt : Nat → Tr} {par : Nat → Nat} (J : fInv s x N D F W nt par) (hx : x < N) (h32 : s 32 x = -1) : fInv s (x + 1) N D F W nt par := by
  obtain ⟨a, ⟨b1, b2⟩, c, d, p⟩ := J
  refine ⟨a, ⟨by omega, b2⟩, fun y hy => ?_, ?_, p⟩
  · rcases c y hy with ⟨v1, v2⟩ | ⟨v1, l, n, v2, v3, v4⟩
    · exact Or.inl ⟨v1.elim (fun q => Or.inl (by omega)) Or.inr, v2⟩
    · by_cases z : y = x
      · subst z; exact (v3.n1 v2 h32).elim
      · exact Or.inr ⟨by omega, l, n, v2, v3, v4⟩
  · rw [← d]
    refine nsum_congr N (fun i hi => ?_)
    unfold fWt
    by_cases z : i = x
    · subst z; rw [if_pos (Or.inl (by omega)), if_pos (Or.inr (by rw [Nat.zero_add]; exact h32))]
    · by_cases w : 0 + i < x ∨ s 32 (0 + i) = -1
      · rw [if_pos w, if_pos (w.elim (fun q => Or.inl (by omega)) Or.inr)]
      · rw [if_neg w, if_neg (fun q => q.elim (fun r => w (Or.inl (by omega))) (fun r => w (Or.inr r)))]
theorem lfO.dn {s : Zr} {N D y v : Nat} {nt : Nat → Tr} {par : Nat → Nat} (h : lfO s D y (nI (tKd v)) (tNm v)) (hy : y < N) (e : nt y = .var v) : fDn s N D nt par y := by
  obtain ⟨a1, a2, a3, -, f, a5, a6⟩ := h
  unfold fDn
  rw [e]
  exact ⟨a1, a2, a3.trans nI_0.symm, f, N, a5, ⟨a6, hy, Nat.le_refl _⟩, fun j hj => absurd (show j < 0 from hj) (Nat.not_lt_zero _)⟩
theorem fDn_mk {s : Zr} {x N N' D D' lab : Nat} {Lk : List Tr} {nt : Nat → Tr} {par : Nat → Nat} (hl : 13 ≤ lab) (h13 : s 13 x = nI (lab - 11)) (h14 : s 14 x = -3) (h15 : s 15 x = nI D) (h16 : s 16 x = nI Lk.length) (h17 : ∀ j, j < Lk.length → s 17 (D + j) = nI (N + j)) (hx : x < N) (hN : N + Lk.length ≤ N') (hD : D + Lk.length ≤ D') (e : nt x = tMk lab Lk) (ek : ∀ j, j < Lk.length → nt (N + j) = Lk.getD j (.var 0)) (ep : ∀ j, j < Lk.length → par (N + j) = x) : fDn s N' D' nt par x := by
  unfold fDn
  rw [e, tMk_lab, tMk_len]
  have k1 : tKd lab = lab - 11 := if_neg (by omega)
  have k2 : tNm lab = -3 := if_neg (by omega)
  rw [k1, k2]
  exact ⟨h13, h14, h16, D, N, h15, ⟨hD, hx, hN⟩, fun j hj => ⟨h17 j hj, by rw [tMk_kid _ _ _ hj]; exact ek j hj, ep j hj⟩⟩
theorem nsum_t (z : Nat → Nat) : ∀ (L : List Tr) (a : Nat), (∀ i, i < L.length → z (a + i) = tSz (L.getD i (.var 0))) → nsum z a L.length = tSum L
  | [], _, _ => rfl
  | t :: L, a, h => by
    rw [List.length_cons, nsum_hd, tSum_cons, nsum_t z L (a + 1) (fun i hi => by
      have := h (i + 1) (by rw [List.length_cons]; omega)
      rw [show a + 1 + i = a + (i + 1) by omega]
      exact this)]
    have := h 0 (by rw [List.length_cons]; omega)
    rw [Nat.add_zero] at this
    rw [this]; rfl
/-- new nodes behind the old ones -/
def aft {α : Type} (N : Nat) (f g : Nat → α) (y : Nat) : α := if y < N then f y else g (y - N)
theorem aft_o {α : Type} {N y : Nat} {f g : Nat → α} (h : y < N) : aft N f g y = f y := if_pos h
theorem aft_n {α : Type} {N j : Nat} {f g : Nat → α} : aft N f g (N + j) = g j := by
  unfold aft
  rw [if_neg (by omega), Nat.add_sub_cancel_left]
theorem aft_le {N : Nat} {f g : Nat → Nat} (hf : ∀ y, f y ≤ y) (hg : ∀ j, g j ≤ N) : ∀ y, aft N f g y ≤ y := fun y => by
  unfold aft
  by_cases c : y < N
  · rw [if_pos c]; exact hf y
  · rw [if_neg c]; exact Nat.le_trans (hg _) (by omega)
abbrev sFi (a k : Nat) : Prop := (a = 0 ∧ (k = 15 ∨ k = 20 ∨ k = 42 ∨ k = 45 ∨ k = 52)) ∨ (13 ≤ a ∧ a ≤ 17) ∨ (31 ≤ a ∧ a ≤ 46)
def fRes (s s' : Zr) (x N : Nat) (nt : Nat → Tr) : Prop := ∃ N' D' F' W' nt' par', fInv s' (x + 1) N' D' F' W' nt' par' ∧ N ≤ N' ∧ nt' 0 = nt 0 ∧ rOnly sFi s s'
abbrev sSe (a k : Nat) : Prop := (36 ≤ a ∧ a ≤ 45) ∨ (a = 0 ∧ k = 52)
/-- a node whose parts are new nodes, all of them new or leaves -/
theorem fRes_kids {s s' : Zr} {x N D F W F' W' lab : Nat} {nt : Nat → Tr} {par : Nat → Nat} {Lk : List Tr} (J : fInv s x N D F W nt par) (hx : x < N) (hN : N ≤ 60) (h32 : ¬ s 32 x = -1) (o : rOnly (sFd x N D F W) s s') (hl : 13 ≤ lab) (hm : Lk.length ≤ 13) (h13 : s' 13 x = nI (lab - 11)) (h14 : s' 14 x = -3) (h15 : s' 15 x = nI D) (h16 : s' 16 x = nI Lk.length) (h17 : ∀ j, j < Lk.length → s' 17 (D + j) = nI (N + j))
    (e15 : s' 0 15 = nI (N + Lk.length)) (e20 : s' 0 20 = nI (D + Lk.length)) (e42 : s' 0 42 = nI F') (e45 : s' 0 45 = nI W') (hF : F ≤ F' ∧ F' ≤ F + 144 * Lk.length) (hW : W ≤ W' ∧ W' ≤ W + 144 * Lk.length) (e : nt x = tMk lab Lk)
    (new : ∀ j, j < Lk.length → (∃ v, lfO s' (D + Lk.length) (N + j) (nI (tKd v)) (tNm v) ∧ Lk.getD j (.var 0) = .var v) ∨ ∃ l n, xOK l ∧ nPd s' (D + Lk.length) F' W' (N + j) l ∧ cN (xN l) ≤ n ∧ Lk.getD j (.var 0) = xFnd n l) : fRes s s' x N nt := by
  obtain ⟨b1, b2, b3, b4, b5, b6⟩ := J.2.1
  have p := J.2.2.2.2
  refine ⟨N + Lk.length, D + Lk.length, F', W', aft N nt (fun j => Lk.getD j (.var 0)), aft N par (fun _ => x), ?_, Nat.le_add_right _ _, aft_o (by omega), o.mono (fun a k z => by omega)⟩
  refine J.step hx h32 o ⟨e15, e20, e42, e45⟩ ⟨by omega, by omega⟩ ⟨by omega, by omega⟩ ⟨by omega, by omega⟩ ⟨by omega, by omega⟩ (fun y hy => aft_o hy) (fun y hy => aft_o hy) (aft_le p (fun _ => by omega)) (fDn_mk hl h13 h14 h15 h16 h17 hx (Nat.le_refl _) (Nat.le_refl _) (by rw [aft_o hx]; exact e) (fun j _ => aft_n) (fun j _ => aft_n)) (fun y hy1 hy2 => ?_) ?_
  · obtain ⟨j, rfl⟩ : ∃ j, y = N + j := ⟨y - N, by omega⟩
    rcases new j (by omega) with ⟨v, v1, v2⟩ | ⟨l, n, v1, v2, v3, v4⟩
    · exact Or.inl ⟨v1.2.2.2.1, v1.dn (by omega) (by rw [aft_n]; exact v2)⟩
    · exact Or.inr ⟨l, n, v1, v2, v3, by rw [aft_n]; exact v4⟩
  · rw [Nat.add_sub_cancel_left, nsum_t _ Lk N (fun i hi => ?_), e, tMk_sz]
    unfold fWt
    rw [aft_n]
    rcases new i hi with ⟨v, v1, v2⟩ | ⟨l, n, v1, v2, v3, v4⟩
    · rw [if_pos (Or.inr v1.2.2.2.1), v2]; rfl
    · rw [if_neg (fun z => z.elim (fun q => by omega) (v2.n1 v1))]
