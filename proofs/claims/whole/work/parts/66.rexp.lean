/-! trees as the reference lays them out: nodes below N, their lists below L -/
def nSt (s : Zr) (N L : Nat) (nt : Nat → Tr) : Prop := ∀ x, x < N → s 13 x = nI (tKd (tLab (nt x))) ∧ s 14 x = tNm (tLab (nt x)) ∧ s 16 x = nI (tLen (nt x)) ∧ ∃ f, s 15 x = nI f ∧ f + tLen (nt x) ≤ L ∧ ∀ j, j < tLen (nt x) → ∃ y, x < y ∧ y < N ∧ s 17 (f + j) = nI y ∧ nt y = tKid (nt x) j
abbrev sTr (a k : Nat) : Prop := (a = 0 ∧ (k = 15 ∨ k = 20)) ∨ (13 ≤ a ∧ a ≤ 18)
theorem rPc.only {S : Nat → Nat → Prop} {s s' : Zr} {p : Mp} (o : rOnly S s s') (h : rPc s p) (h7 : ¬ S 0 7) (h13 : ¬ S 0 13) (ha : ∀ a k, 7 ≤ a → a ≤ 12 → ¬ S a k) : rPc s' p := by
  obtain ⟨h1, h2, h3⟩ := h
  refine ⟨(o 0 7 h7).trans h1, (o 0 13 h13).trans h2, fun q hq => ?_⟩
  obtain ⟨a1, a2, a3, a4, a5, a6⟩ := h3 q hq
  exact ⟨(o 7 q (ha _ _ (by omega) (by omega))).trans a1, (o 8 q (ha _ _ (by omega) (by omega))).trans a2, (o 9 q (ha _ _ (by omega) (by omega))).trans a3, (o 10 q (ha _ _ (by omega) (by omega))).trans a4, (o 11 q (ha _ _ (by omega) (by omega))).trans a5, fun j hj => (o 12 _ (ha _ _ (by omega) (by omega))).trans (a6 j hj)⟩
theorem rPc.tr {s s' : Zr} {p : Mp} (o : rOnly sTr s s') (h : rPc s p) : rPc s' p := h.only o (by omega) (by omega) (fun a k h1 h2 => by omega)
def nsum (z : Nat → Nat) (a : Nat) : Nat → Nat
  | 0 => 0
  | d + 1 => nsum z a d + z (a + d)
theorem nsum_hd (z : Nat → Nat) (a : Nat) : ∀ d, nsum z a (d + 1) = z a + nsum z (a + 1) d
  | 0 => by show 0 + z (a + 0) = z a + 0; rw [Nat.add_zero]; omega
  | d + 1 => by
    show nsum z a (d + 1) + z (a + (d + 1)) = z a + (nsum z (a + 1) d + z (a + 1 + d))
    rw [nsum_hd z a d, show a + (d + 1) = a + 1 + d by omega]
    omega
theorem nsum_congr {z z' : Nat → Nat} {a : Nat} : ∀ d, (∀ i, i < d → z (a + i) = z' (a + i)) → nsum z a d = nsum z' a d
  | 0, _ => rfl
  | d + 1, h => by
    show nsum z a d + z (a + d) = nsum z' a d + z' (a + d)
    rw [nsum_congr d (fun i hi => h i (by omega)), h d (by omega)]
theorem nsum_add (z : Nat → Nat) (a d : Nat) : ∀ e, nsum z a (d + e) = nsum z a d + nsum z (a + d) e
  | 0 => rfl
  | e + 1 => by
    show nsum z a (d + e) + z (a + (d + e)) = nsum z a d + (nsum z (a + d) e + z (a + d + e))
    rw [nsum_add z a d e, show a + (d + e) = a + d + e by omega]
    omega
theorem nsum_list (z : Nat → Nat) (a : Nat) (g : Nat → Nat) (l : List Nat) : ∀ d, d ≤ l.length → (∀ i, i < d → z (a + i) = g (l.getD i 0)) → nsum z a d = pSum g (l.take d)
  | 0, _, _ => rfl
  | d + 1, hd, h => by
    show nsum z a d + z (a + d) = _
    rw [nsum_list z a g l d (by omega) (fun i hi => h i (by omega)), h d (by omega), take_1 l d (by omega), pSum_app]
theorem pSum_m1 (z : Nat → Nat) : ∀ l : List Nat, (∀ j, j ∈ l → 1 ≤ z j) → pSum (fun j => z j - 1) l + l.length = pSum z l
  | [], _ => rfl
  | x :: l, h => by
    have := pSum_m1 z l (fun j hj => h j (List.mem_cons_of_mem _ hj))
    have h1 := h x List.mem_cons_self
    rw [pSum_cons, pSum_cons, List.length_cons]
    omega
/-! a piece as a tree of nodes -/
abbrev eIn (x11 : Int32) : Int32 × Zr → Option ((Int32 × Zr) ⊕ Zr) := fun ((v15, s16) : Int32 × Zr) =>
        ((rdI s16 10 x11).bind fun x20 =>
        if x20 ≤ v15 then
          some (.inr s16)
        else
          (rdI s16 9 x11).bind fun x21 =>
          (rdI s16 12 (x21 + v15)).bind fun x22 =>
          (wrI s16 17 ((s16 0 20) + v15) (s16 0 15)).bind fun s23 =>
          (wrI s23 18 (s23 0 15) x22).bind fun s24 =>
          (rdI s24 7 x22).bind fun x25 =>
          (wrI s24 13 (s24 0 15) x25).bind fun s26 =>
          (rdI s26 8 x22).bind fun x27 =>
          (wrI s26 14 (s26 0 15) x27).bind fun s28 =>
          (some (u2 s28 0 15 ((s28 0 15) + (1 : Int32)))).bind fun s29 =>
          some (.inl (v15 + (1 : Int32), s29)) : Option ((Int32 × Zr) ⊕ Zr))
abbrev sIn (N L : Nat) (a k : Nat) : Prop := (a = 0 ∧ k = 15) ∨ (a = 17 ∧ L ≤ k) ∨ ((a = 13 ∨ a = 14 ∨ a = 18) ∧ N ≤ k)
theorem rexin_eq {s : Zr} {p : Mp} (h : rPc s p) (ok : pOK p) {q : Nat} (hq : q < pn p) {N L : Nat} (e15 : s 0 15 = nI N) (e20 : s 0 20 = nI L) (hN : N + (ppt p q).length ≤ 200) (hL : L + (ppt p q).length ≤ 20000) :
    ∃ s', zloop (eIn (nI q)) zFU ((0 : Int32), s) = some s' ∧ s' 0 15 = nI (N + (ppt p q).length) ∧ (∀ j, j < (ppt p q).length → s' 17 (L + j) = nI (N + j) ∧ s' 18 (N + j) = nI ((ppt p q).getD j 0) ∧ s' 13 (N + j) = nI (pkd p ((ppt p q).getD j 0)) ∧ s' 14 (N + j) = pnm p ((ppt p q).getD j 0)) ∧ rOnly (sIn N L) s s' := by
  have h200 := ok.1
  have hal := pAll_lim ok (pn p) (Nat.le_refl _)
  have hal2 := pAll_lim ok q (by omega)
  have l60 := plen_60 ok hq
  have key := rsloop2 (f := eIn (nI q)) (J := fun j s' => s' 0 15 = nI (N + j) ∧ (∀ i, i < j → s' 17 (L + i) = nI (N + i) ∧ s' 18 (N + i) = nI ((ppt p q).getD i 0) ∧ s' 13 (N + i) = nI (pkd p ((ppt p q).getD i 0)) ∧ s' 14 (N + i) = pnm p ((ppt p q).getD i 0)) ∧ rOnly (sIn N L) s s') (N := (ppt p q).length) (s0 := s) (fun j s' hj hJ => by
    obtain ⟨j1, j2, j3⟩ := hJ
    have h' : rPc s' p := h.only j3 (by omega) (by omega) (fun a k _ _ => by omega)
    obtain ⟨p1, p2, p3, p4, p5, p6⟩ := h'.2.2 q hq
    have hj2 := (ok.2 q hq).2.1 _ (getD_mem _ j hj)
    have e20' : s' 0 20 = nI L := (j3 0 20 (by omega)).trans e20
    generalize hx : (ppt p q).getD j 0 = x at *
    have p6j := p6 j hj
    rw [hx] at p6j
    obtain ⟨t1, t2, -⟩ := h'.2.2 x (by omega)
    refine ⟨u2 (u2 (u2 (u2 (u2 s' 17 (L + j) (nI (N + j))) 18 (N + j) (nI x)) 13 (N + j) (nI (pkd p x))) 14 (N + j) (pnm p x)) 0 15 (nI (N + j + 1)), ?_, ?_, fun i hi => ?_, ?_⟩
    · show (rdI s' 10 (nI q)).bind _ = _
      rw [rd10 (by omega), Option.bind_some, p4, if_neg (nI_nle' (by omega) hj), rd9 (by omega), Option.bind_some, p3, nI_add, rd12 (by omega), Option.bind_some, p6j, e20', nI_add, j1, wr17 (by omega), Option.bind_some]
      rw [u2_a (by decide), j1, wr18 (by omega), Option.bind_some, rd7 (by omega), Option.bind_some]
      rw [u2_a (by decide), u2_a (by decide), j1, u2_a (by decide), u2_a (by decide), t1, wr13 (by omega), Option.bind_some, rd8 (by omega), Option.bind_some]
      rw [u2_a (by decide), u2_a (by decide), u2_a (by decide), j1, u2_a (by decide), u2_a (by decide), u2_a (by decide), t2, wr14 (by omega), Option.bind_some, Option.bind_some]
      rw [u2_a (by decide), u2_a (by decide), u2_a (by decide), u2_a (by decide), j1, nI_1, nI_1]
    · rw [u2_s]; rfl
    · by_cases e : i = j
      · subst e
        rw [hx]
        refine ⟨?_, ?_, ?_, ?_⟩
        · rw [u2_a (by decide), u2_a (by decide), u2_a (by decide), u2_a (by decide), u2_s]
        · rw [u2_a (by decide), u2_a (by decide), u2_a (by decide), u2_s]
        · rw [u2_a (by decide), u2_a (by decide), u2_s]
        · rw [u2_a (by decide), u2_s]
      · obtain ⟨b1, b2, b3, b4⟩ := j2 i (by omega)
        refine ⟨?_, ?_, ?_, ?_⟩
        · rw [u2_a (by decide), u2_a (by decide), u2_a (by decide), u2_a (by decide), u2_n (by omega)]; exact b1
        · rw [u2_a (by decide), u2_a (by decide), u2_a (by decide), u2_n (by omega), u2_a (by decide)]; exact b2
        · rw [u2_a (by decide), u2_a (by decide), u2_n (by omega), u2_a (by decide), u2_a (by decide)]; exact b3
        · rw [u2_a (by decide), u2_n (by omega), u2_a (by decide), u2_a (by decide), u2_a (by decide)]; exact b4
    · exact ((((j3.tr (rOnly.u (by omega))).tr (rOnly.u (by omega))).tr (rOnly.u (by omega))).tr (rOnly.u (by omega))).tr (rOnly.u (by omega)))
    (fun s' hJ => by
      have h' : rPc s' p := h.only hJ.2.2 (by omega) (by omega) (fun a k _ _ => by omega)
      obtain ⟨p1, p2, p3, p4, p5, p6⟩ := h'.2.2 q hq
      show (rdI s' 10 (nI q)).bind _ = _
      rw [rd10 (by omega), Option.bind_some, p4, if_pos (nI_le (Nat.le_refl _) (by omega))]) (by omega) ⟨e15, fun i hi => absurd hi (Nat.not_lt_zero _), rOnly.rf⟩
  obtain ⟨s', k1, k2, k3, k4⟩ := key
  exact ⟨s', k1, k2, k3, k4⟩
abbrev eOut : Int32 × Zr → Option ((Int32 × Zr) ⊕ Zr) := fun ((v6, s7) : Int32 × Zr) =>
    (if (s7 0 15) ≤ v6 then
      some (.inr s7)
    else
      (rdI s7 18 v6).bind fun x11 =>
      (wrI s7 15 v6 (s7 0 20)).bind fun s12 =>
      (rdI s12 10 x11).bind fun x13 =>
      (wrI s12 16 v6 x13).bind fun s14 =>
      (zloop (eIn x11) zFU ((0 : Int32), s14)).bind fun (s17 : Zr) =>
      (rdI s17 10 x11).bind fun x30 =>
      (some (u2 s17 0 20 ((s17 0 20) + x30))).bind fun s31 =>
      some (.inl (v6 + (1 : Int32), s31)) : Option ((Int32 × Zr) ⊕ Zr))
/-- nodes from N0 on, those below c laid out -/
def eJ (p : Mp) (N0 L0 q c N : Nat) (op : Nat → Nat) (s : Zr) : Prop := (N0 ≤ c ∧ c ≤ N ∧ N0 < N ∧ op N0 = q ∧ s 0 15 = nI N ∧ s 0 20 = nI (L0 + (N - N0 - 1)) ∧ N + nsum (fun x => psz p (op x) - 1) c (N - c) = N0 + psz p q) ∧
  (∀ x, N0 ≤ x → x < N → op x < pn p ∧ s 18 x = nI (op x) ∧ s 13 x = nI (pkd p (op x)) ∧ s 14 x = pnm p (op x)) ∧
  ∀ x, N0 ≤ x → x < c → s 16 x = nI (ppt p (op x)).length ∧ ∃ f, s 15 x = nI f ∧ f + (ppt p (op x)).length ≤ L0 + (N - N0 - 1) ∧ ∀ j, j < (ppt p (op x)).length → ∃ y, x < y ∧ y < N ∧ s 17 (f + j) = nI y ∧ op y = (ppt p (op x)).getD j 0
abbrev sEx (N0 L0 : Nat) (a k : Nat) : Prop := (a = 0 ∧ (k = 15 ∨ k = 20)) ∨ (a = 17 ∧ L0 ≤ k) ∨ ((a = 13 ∨ a = 14 ∨ a = 15 ∨ a = 16 ∨ a = 18) ∧ N0 ≤ k)
theorem rexstep {s : Zr} {p : Mp} (h : rPc s p) (ok : pOK p) {N0 L0 q c N : Nat} {op : Nat → Nat} (hq : q < pn p) (hN : N0 + 60 ≤ 200) (hL : L0 + 60 ≤ 20000) (J : eJ p N0 L0 q c N op s) (hc : c < N) :
    ∃ s' N' op', eOut (nI c, s) = some (.inl (nI (c + 1), s')) ∧ eJ p N0 L0 q (c + 1) N' op' s' ∧ N' ≤ N0 + psz p q ∧ rOnly (sEx N0 L0) s s' := by
  obtain ⟨⟨a1, a2, a3, a4, a5, a6, a7⟩, b, d⟩ := J
  have h200 := ok.1
  have q60 := (ok.2 q hq).2.2.2.1
  obtain ⟨b1, b2, b3, b4⟩ := b c a1 hc
  obtain ⟨o1, o2, o3, o4, o5⟩ := ok.2 (op c) b1
  have l60 := plen_60 ok b1
  have eN : N - c = (N - (c + 1)) + 1 := by omega
  rw [eN, nsum_hd] at a7
  have a7' : N + ((psz p (op c) - 1) + nsum (fun x => psz p (op x) - 1) (c + 1) (N - (c + 1))) = N0 + psz p q := a7
  have hlen := pSum_len (psz p) (ppt p (op c)) (fun j hj => psz_1 ok (by have := o2 j hj; omega))
  have hm1 := pSum_m1 (psz p) (ppt p (op c)) (fun j hj => psz_1 ok (by have := o2 j hj; omega))
  generalize eL : (ppt p (op c)).length = len at *
  have h1 : rPc (u2 s 15 c (nI (L0 + (N - N0 - 1)))) p := h.tr (rOnly.u (by omega))
  have h2 : rPc (u2 (u2 s 15 c (nI (L0 + (N - N0 - 1)))) 16 c (nI len)) p := h1.tr (rOnly.u (by omega))
  obtain ⟨p1, p2, p3, p4, p5, p6⟩ := h1.2.2 (op c) b1
  rw [eL] at p4
  obtain ⟨s3, e1, e2, e3, e4⟩ := rexin_eq h2 ok b1 (N := N) (L := L0 + (N - N0 - 1)) (by rw [u2_a (by decide), u2_a (by decide)]; exact a5) (by rw [u2_a (by decide), u2_a (by decide)]; exact a6) (by omega) (by omega)
  rw [eL] at e2 e3
  have h3 : rPc s3 p := h2.only e4 (by omega) (by omega) (fun a k _ _ => by omega)
  have p4' := (h3.2.2 (op c) b1).2.2.2.1
  rw [eL] at p4'
  have e20 : s3 0 20 = nI (L0 + (N - N0 - 1)) := by rw [e4 0 20 (by omega), u2_a (by decide), u2_a (by decide)]; exact a6
  have o34 : rOnly (sEx N0 L0) s s3 := ((rOnly.u (by omega)).tr (rOnly.u (by omega))).tr (e4.mono (fun x k z => by omega))
  have fr : ∀ a k, ¬ ((a = 15 ∨ a = 16) ∧ k = c) → ¬ sIn N (L0 + (N - N0 - 1)) a k → s3 a k = s a k := fun a k z1 z2 => by
    rw [e4 a k z2, u2_n (by omega), u2_n (by omega)]
  refine ⟨u2 s3 0 20 (nI (L0 + (N - N0 - 1) + len)), N + len, (fun x => if x < N then op x else (ppt p (op c)).getD (x - N) 0), ?_, ⟨⟨by omega, by omega, by omega, ?_, ?_, ?_, ?_⟩, fun x x1 x2 => ?_, fun x x1 x2 => ?_⟩, by omega, o34.tr (rOnly.u (by omega))⟩
  · show (if s 0 15 ≤ nI c then _ else _) = _
    rw [a5, if_neg (nI_nle' (by omega) hc), rd18 (by omega), Option.bind_some, b2, wr15 (by omega), Option.bind_some, a6, rd10 (by omega), Option.bind_some, p4, wr16 (by omega), Option.bind_some, e1, Option.bind_some, rd10 (by omega), Option.bind_some, p4', Option.bind_some, e20, nI_add, nI_1]
  · show (if N0 < N then op N0 else _) = _
    rw [if_pos a3]; exact a4
  · rw [u2_n (by omega)]; exact e2
  · rw [u2_s]; congr 1; omega
  · have s1 : nsum (fun x => psz p (if x < N then op x else (ppt p (op c)).getD (x - N) 0) - 1) (c + 1) (N - (c + 1)) = nsum (fun x => psz p (op x) - 1) (c + 1) (N - (c + 1)) := nsum_congr _ (fun i hi => by
      show psz p (if c + 1 + i < N then _ else _) - 1 = _
      rw [if_pos (by omega)])
    have s2 : nsum (fun x => psz p (if x < N then op x else (ppt p (op c)).getD (x - N) 0) - 1) N len = pSum (fun x => psz p x - 1) ((ppt p (op c)).take len) := nsum_list _ N (fun x => psz p x - 1) _ len (by omega) (fun i hi => by
      show psz p (if N + i < N then _ else _) - 1 = _
      rw [if_neg (by omega), Nat.add_sub_cancel_left])
    rw [← eL, List.take_length, eL] at s2
    have s3' := nsum_add (fun x => psz p (if x < N then op x else (ppt p (op c)).getD (x - N) 0) - 1) (c + 1) (N - (c + 1)) len
    rw [show c + 1 + (N - (c + 1)) = N by omega, s1, s2] at s3'
    rw [show N + len - (c + 1) = N - (c + 1) + len by omega, s3']
    omega
  · by_cases z : x < N
    · obtain ⟨c1, c2, c3, c4⟩ := b x x1 z
      dsimp only
      rw [if_pos z]
      refine ⟨c1, ?_, ?_, ?_⟩
      · rw [u2_a (by decide), fr _ _ (by omega) (by omega)]; exact c2
      · rw [u2_a (by decide), fr _ _ (by omega) (by omega)]; exact c3
      · rw [u2_a (by decide), fr _ _ (by omega) (by omega)]; exact c4
    · dsimp only
      rw [if_neg z]
      obtain ⟨y1, y2, y3, y4⟩ := e3 (x - N) (by omega)
      rw [Nat.add_sub_of_le (by omega)] at y2 y3 y4
      have := o2 _ (getD_mem (ppt p (op c)) (x - N) (by omega))
      refine ⟨by omega, ?_, ?_, ?_⟩
      · rw [u2_a (by decide)]; exact y2
      · rw [u2_a (by decide)]; exact y3
      · rw [u2_a (by decide)]; exact y4
  · dsimp only
    rw [if_pos (show x < N by omega)]
    by_cases z : x = c
    · subst z
      rw [eL]
      refine ⟨?_, L0 + (N - N0 - 1), ?_, by omega, fun j hj => ⟨N + j, by omega, by omega, ?_, ?_⟩⟩
      · rw [u2_a (by decide), e4 _ _ (by omega), u2_s]
      · rw [u2_a (by decide), e4 _ _ (by omega), u2_a (by decide), u2_s]
      · rw [u2_a (by decide)]; exact (e3 j hj).1
      · rw [if_neg (by omega), Nat.add_sub_cancel_left]
    · obtain ⟨c1, f, c2, c3, c4⟩ := d x x1 (by omega)
      refine ⟨?_, f, ?_, by omega, fun j hj => ?_⟩
      · rw [u2_a (by decide), fr _ _ (by omega) (by omega)]; exact c1
      · rw [u2_a (by decide), fr _ _ (by omega) (by omega)]; exact c2
      · obtain ⟨y, y1, y2, y3, y4⟩ := c4 j hj
        refine ⟨y, y1, by omega, ?_, ?_⟩
        · rw [u2_a (by decide), fr _ _ (by omega) (by omega)]; exact y3
        · rw [if_pos y2]; exact y4
theorem rexp_eq {s : Zr} {p : Mp} (h : rPc s p) (ok : pOK p) {q : Nat} (hq : q < pn p) {N0 L0 : Nat} {nt : Nat → Tr} (e15 : s 0 15 = nI N0) (e20 : s 0 20 = nI L0) (hN : N0 + 60 ≤ 200) (hL : L0 + 60 ≤ 20000) (st : nSt s N0 L0 nt) :
    ∃ s' nt', fX6_expand s (nI q) = some (nI N0, s') ∧ s' 0 15 = nI (N0 + psz p q) ∧ s' 0 20 = nI (L0 + (psz p q - 1)) ∧ nSt s' (N0 + psz p q) (L0 + (psz p q - 1)) nt' ∧ (∀ x, x < N0 → nt' x = nt x) ∧ nt' N0 = pT p q ∧ (∀ x, N0 ≤ x → x < N0 + psz p q → tOK (nt' x)) ∧ rOnly sTr s s' := by
  have h200 := ok.1
  have q60 := (ok.2 q hq).2.2.2.1
  have q1 := psz_1 ok hq
  obtain ⟨t1, t2, -⟩ := h.2.2 q hq
  have n0 : N0 < 200 := by omega
  unfold fX6_expand fX6_newNode
  rw [rd7 (by omega), Option.bind_some, rd8 (by omega), Option.bind_some, t1, t2, e15, wr13 n0, Option.bind_some]
  rw [u2_a (by decide), e15, wr14 n0, Option.bind_some]
  rw [u2_a (by decide), u2_a (by decide), e15, u2_a (by decide), u2_a (by decide), e20, wr15 n0, Option.bind_some]
  rw [u2_a (by decide), u2_a (by decide), u2_a (by decide), e15, wr16 n0, Option.bind_some]
  rw [u2_a (by decide), u2_a (by decide), u2_a (by decide), u2_a (by decide), e15, nI_1, Option.bind_some]
  generalize es1 : u2 (u2 (u2 (u2 (u2 s 13 N0 (nI (pkd p q))) 14 N0 (pnm p q)) 15 N0 (nI L0)) 16 N0 0) 0 15 (nI (N0 + 1)) = s1
  have o1 : rOnly (sEx N0 L0) s s1 := by
    rw [← es1]
    exact ((((rOnly.u (by omega)).tr (rOnly.u (by omega))).tr (rOnly.u (by omega))).tr (rOnly.u (by omega))).tr (rOnly.u (by omega))
  have f15 : s1 0 15 = nI (N0 + 1) := by rw [← es1, u2_s]
  rw [f15, show nI (N0 + 1) - (1 : Int32) = nI N0 from nI_pred N0, Option.bind_some]
  show ∃ s' nt', ((wrI s1 18 (nI N0) (nI q)).bind fun s5 => (zloop eOut zFU (nI N0, s5)).bind fun s8 => some (nI N0, s8)) = _ ∧ _
  rw [wr18 n0, Option.bind_some]
  have o2 : rOnly (sEx N0 L0) s (u2 s1 18 N0 (nI q)) := o1.tr (rOnly.u (by omega))
  have J0 : eJ p N0 L0 q N0 (N0 + 1) (fun _ => q) (u2 s1 18 N0 (nI q)) := by
    refine ⟨⟨Nat.le_refl _, by omega, by omega, rfl, ?_, ?_, ?_⟩, fun x x1 x2 => ?_, fun x x1 x2 => by omega⟩
    · rw [u2_a (by decide)]; exact f15
    · rw [u2_a (by decide), ← es1, u2_n (by omega), u2_a (by decide), u2_a (by decide), u2_a (by decide), u2_a (by decide), e20]; congr 1; omega
    · rw [show N0 + 1 - N0 = 0 + 1 by omega]
      show N0 + 1 + (0 + (psz p q - 1)) = _
      omega
    · have ex : x = N0 := by omega
      subst ex
      refine ⟨hq, ?_, ?_, ?_⟩
      · rw [u2_s]
      · rw [u2_a (by decide), ← es1, u2_a (by decide), u2_a (by decide), u2_a (by decide), u2_a (by decide), u2_s]
      · rw [u2_a (by decide), ← es1, u2_a (by decide), u2_a (by decide), u2_a (by decide), u2_s]
  have q' := zloop_inv (f := eOut) (fun (n : Nat) (st : Int32 × Zr) => ∃ c N op, n = N0 + psz p q - c ∧ c ≤ N0 + psz p q ∧ st.1 = nI c ∧ eJ p N0 L0 q c N op st.2 ∧ rOnly (sEx N0 L0) s st.2)
    (fun s' => ∃ op, eJ p N0 L0 q (N0 + psz p q) (N0 + psz p q) op s' ∧ rOnly (sEx N0 L0) s s') (by
    rintro n ⟨w, s'⟩ ⟨c, N, op, hn, hc, rfl, J, o⟩
    dsimp only at J o
    have h' : rPc s' p := h.only o (by omega) (by omega) (fun a k _ _ => by omega)
    by_cases z : c < N
    · obtain ⟨s2, N', op', r1, r2, r3, r4⟩ := rexstep h' ok hq hN hL J z
      have hN' := r2.1.2.1
      exact Or.inl ⟨_, N0 + psz p q - (c + 1), r1, by omega, c + 1, N', op', rfl, by omega, rfl, r2, o.tr r4⟩
    · have ec : c = N := by have := J.1.2.1; omega
      subst ec
      have j7 := J.1.2.2.2.2.2.2
      rw [Nat.sub_self] at j7
      have j7' : c + 0 = N0 + psz p q := j7
      have ec2 : c = N0 + psz p q := by omega
      refine Or.inr ⟨s', ?_, op, by rw [← ec2]; exact J, o⟩
      show (if s' 0 15 ≤ nI c then _ else _) = _
      rw [J.1.2.2.2.2.1, if_pos (nI_le (Nat.le_refl _) (by omega))]) (psz p q) (nI N0, u2 s1 18 N0 (nI q)) zFU ⟨N0, N0 + 1, fun _ => q, by omega, by omega, rfl, J0, o2⟩ (by rw [zFU_v]; omega)
  obtain ⟨s', e, op, J, o⟩ := q'
  rw [e, Option.bind_some]
  obtain ⟨⟨j1, j2, j3, j4, j5, j6, j7⟩, b, d⟩ := J
  refine ⟨s', fun x => if x < N0 then nt x else pT p (op x), rfl, j5, by rw [j6]; congr 1; omega, fun x hx => ?_, fun x hx => if_pos hx, ?_, fun x x1 x2 => ?_, o.mono (fun a k z => by omega)⟩
  · by_cases z : x < N0
    · dsimp only
      rw [if_pos z]
      obtain ⟨c1, c2, c3, f, c4, c5, c6⟩ := st x z
      refine ⟨(o _ _ (by omega)).trans c1, (o _ _ (by omega)).trans c2, (o _ _ (by omega)).trans c3, f, (o _ _ (by omega)).trans c4, by omega, fun j hj => ?_⟩
      obtain ⟨y, y1, y2, y3, y4⟩ := c6 j hj
      exact ⟨y, y1, by omega, (o _ _ (by omega)).trans y3, by rw [if_pos y2]; exact y4⟩
    · dsimp only
      rw [if_neg z]
      obtain ⟨b1, b2, b3, b4⟩ := b x (by omega) hx
      have pl := plb_16 ok b1
      obtain ⟨c1, f, c2, c3, c4⟩ := d x (by omega) (by omega)
      rw [pT_lab ok b1, pl.2.2.1, pl.2.2.2, pT_len ok b1]
      refine ⟨b3, b4, c1, f, c2, by omega, fun j hj => ?_⟩
      obtain ⟨y, y1, y2, y3, y4⟩ := c4 j hj
      refine ⟨y, y1, y2, y3, ?_⟩
      rw [if_neg (by omega), y4]
      conv => rhs; rw [pT_eq ok b1]
      exact (tFold_kid _ _ _ j hj).symm
  · show (if N0 < N0 then _ else pT p (op N0)) = _
    rw [if_neg (Nat.lt_irrefl _), j4]
  · dsimp only
    rw [if_neg (by omega)]
    exact pT_OK ok _ (b x x1 x2).1
