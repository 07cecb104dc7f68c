/-! expand once more: parts lie side by side, each of one node only -/
/-- nodes from N0 on, those below c laid out -/
def eK (p : Mp) (N0 L0 q c N : Nat) (op par : Nat → Nat) (s : Zr) : Prop := (N0 ≤ c ∧ c ≤ N ∧ N0 < N ∧ op N0 = q ∧ s 0 15 = nI N ∧ s 0 20 = nI (L0 + (N - N0 - 1)) ∧ N + nsum (fun x => psz p (op x) - 1) c (N - c) = N0 + psz p q ∧ ∀ z, par z ≤ z) ∧
  (∀ x, N0 ≤ x → x < N → op x < pn p ∧ s 18 x = nI (op x) ∧ s 13 x = nI (pkd p (op x)) ∧ s 14 x = pnm p (op x)) ∧
  ∀ x, N0 ≤ x → x < c → s 16 x = nI (ppt p (op x)).length ∧ ∃ f y0, (s 15 x = nI f ∧ x < y0 ∧ y0 + (ppt p (op x)).length ≤ N) ∧ f + (ppt p (op x)).length ≤ L0 + (N - N0 - 1) ∧ ∀ j, j < (ppt p (op x)).length → s 17 (f + j) = nI (y0 + j) ∧ op (y0 + j) = (ppt p (op x)).getD j 0 ∧ par (y0 + j) = x
theorem rexstepK {s : Zr} {p : Mp} (h : rPc s p) (ok : pOK p) {N0 L0 q c N : Nat} {op par : Nat → Nat} (hq : q < pn p) (hN : N0 + 60 ≤ 200) (hL : L0 + 60 ≤ 20000) (J : eK p N0 L0 q c N op par s) (hc : c < N) :
    ∃ s' N' op' par', eOut (nI c, s) = some (.inl (nI (c + 1), s')) ∧ eK p N0 L0 q (c + 1) N' op' par' s' ∧ N' ≤ N0 + psz p q ∧ rOnly (sEx N0 L0) s s' := by
  obtain ⟨⟨a1, a2, a3, a4, a5, a6, a7, a8⟩, b, d⟩ := J
  have h200 := ok.1
  have q60 := (ok.2 q hq).2.2.2.1
  obtain ⟨b1, b2, b3, b4⟩ := b c a1 hc
  obtain ⟨o1, o2, o3, o4, o5⟩ := ok.2 (op c) b1
  have l60 := plen_60 ok b1
  have eN : N - c = (N - (c + 1)) + 1 := by omega
  rw [eN, nsum_hd] at a7
  have a7' : N + ((psz p (op c) - 1) + nsum (fun x => psz p (op x) - 1) (c + 1) (N - (c + 1))) = N0 + psz p q := a7
  have hlen := pSum_len (psz p) (ppt p (op c)) (fun j hj => psz_1 ok (by have := o2 j hj; omega))
  have hm1 := pSum_m1 (psz p) (ppt p (op c)) (fun j hj => psz_1 ok (by have := o2 j hj; omega))
  generalize eL : (ppt p (op c)).length = len at *
  have h1 : rPc (u2 s 15 c (nI (L0 + (N - N0 - 1)))) p := h.tr (rOnly.u (by omega))
  have h2 : rPc (u2 (u2 s 15 c (nI (L0 + (N - N0 - 1)))) 16 c (nI len)) p := h1.tr (rOnly.u (by omega))
  obtain ⟨p1, p2, p3, p4, p5, p6⟩ := h1.2.2 (op c) b1
  rw [eL] at p4
  obtain ⟨s3, e1, e2, e3, e4⟩ := rexin_eq h2 ok b1 (N := N) (L := L0 + (N - N0 - 1)) (by rw [u2_a (by decide), u2_a (by decide)]; exact a5) (by rw [u2_a (by decide), u2_a (by decide)]; exact a6) (by omega) (by omega)
  rw [eL] at e2 e3
  have h3 : rPc s3 p := h2.only e4 (by omega) (by omega) (fun a k _ _ => by omega)
  have p4' := (h3.2.2 (op c) b1).2.2.2.1
  rw [eL] at p4'
  have e20 : s3 0 20 = nI (L0 + (N - N0 - 1)) := by rw [e4 0 20 (by omega), u2_a (by decide), u2_a (by decide)]; exact a6
  have o34 : rOnly (sEx N0 L0) s s3 := ((rOnly.u (by omega)).tr (rOnly.u (by omega))).tr (e4.mono (fun x k z => by omega))
  have fr : ∀ a k, ¬ ((a = 15 ∨ a = 16) ∧ k = c) → ¬ sIn N (L0 + (N - N0 - 1)) a k → s3 a k = s a k := fun a k z1 z2 => by
    rw [e4 a k z2, u2_n (by omega), u2_n (by omega)]
  refine ⟨u2 s3 0 20 (nI (L0 + (N - N0 - 1) + len)), N + len, (fun x => if x < N then op x else (ppt p (op c)).getD (x - N) 0), (fun z => if z < N then par z else c), ?_, ⟨⟨by omega, by omega, by omega, ?_, ?_, ?_, ?_, fun z => ?_⟩, fun x x1 x2 => ?_, fun x x1 x2 => ?_⟩, by omega, o34.tr (rOnly.u (by omega))⟩
  · show (if s 0 15 ≤ nI c then _ else _) = _
    rw [a5, if_neg (nI_nle' (by omega) hc), rd18 (by omega), Option.bind_some, b2, wr15 (by omega), Option.bind_some, a6, rd10 (by omega), Option.bind_some, p4, wr16 (by omega), Option.bind_some, e1, Option.bind_some, rd10 (by omega), Option.bind_some, p4', Option.bind_some, e20, nI_add, nI_1]
  · show (if N0 < N then op N0 else _) = _
    rw [if_pos a3]; exact a4
  · rw [u2_n (by omega)]; exact e2
  · rw [u2_s]; congr 1; omega
  · have s1 : nsum (fun x => psz p (if x < N then op x else (ppt p (op c)).getD (x - N) 0) - 1) (c + 1) (N - (c + 1)) = nsum (fun x => psz p (op x) - 1) (c + 1) (N - (c + 1)) := nsum_congr _ (fun i hi => by
      show psz p (if c + 1 + i < N then _ else _) - 1 = _
      rw [if_pos (by omega)])
    have s2 : nsum (fun x => psz p (if x < N then op x else (ppt p (op c)).getD (x - N) 0) - 1) N len = pSum (fun x => psz p x - 1) ((ppt p (op c)).take len) := nsum_list _ N (fun x => psz p x - 1) _ len (by omega) (fun i hi => by
      show psz p (if N + i < N then _ else _) - 1 = _
      rw [if_neg (by omega), Nat.add_sub_cancel_left])
    rw [← eL, List.take_length, eL] at s2
    have s3' := nsum_add (fun x => psz p (if x < N then op x else (ppt p (op c)).getD (x - N) 0) - 1) (c + 1) (N - (c + 1)) len
    rw [show c + 1 + (N - (c + 1)) = N by omega, s1, s2] at s3'
    rw [show N + len - (c + 1) = N - (c + 1) + len by omega, s3']
    omega
  · dsimp only
    split
    · exact a8 z
    · omega
  · by_cases z : x < N
    · obtain ⟨c1, c2, c3, c4⟩ := b x x1 z
      dsimp only
      rw [if_pos z]
      refine ⟨c1, ?_, ?_, ?_⟩
      · rw [u2_a (by decide), fr _ _ (by omega) (by omega)]; exact c2
      · rw [u2_a (by decide), fr _ _ (by omega) (by omega)]; exact c3
      · rw [u2_a (by decide), fr _ _ (by omega) (by omega)]; exact c4
    · dsimp only
      rw [if_neg z]
      obtain ⟨y1, y2, y3, y4⟩ := e3 (x - N) (by omega)
      rw [Nat.add_sub_of_le (by omega)] at y2 y3 y4
      have := o2 _ (getD_mem (ppt p (op c)) (x - N) (by omega))
      refine ⟨by omega, ?_, ?_, ?_⟩
      · rw [u2_a (by decide)]; exact y2
      · rw [u2_a (by decide)]; exact y3
      · rw [u2_a (by decide)]; exact y4
  · dsimp only
    rw [if_pos (show x < N by omega)]
    by_cases z : x = c
    · subst z
      rw [eL]
      refine ⟨?_, L0 + (N - N0 - 1), N, ⟨?_, by omega, by omega⟩, by omega, fun j hj => ⟨?_, ?_, ?_⟩⟩
      · rw [u2_a (by decide), e4 _ _ (by omega), u2_s]
      · rw [u2_a (by decide), e4 _ _ (by omega), u2_a (by decide), u2_s]
      · rw [u2_a (by decide)]; exact (e3 j hj).1
      · rw [if_neg (by omega), Nat.add_sub_cancel_left]
      · rw [if_neg (by omega)]
    · obtain ⟨c1, f, y0, ⟨c2, y1, y2⟩, c3, c4⟩ := d x x1 (by omega)
      refine ⟨?_, f, y0, ⟨?_, y1, by omega⟩, by omega, fun j hj => ?_⟩
      · rw [u2_a (by decide), fr _ _ (by omega) (by omega)]; exact c1
      · rw [u2_a (by decide), fr _ _ (by omega) (by omega)]; exact c2
      · obtain ⟨y3, y4, y5⟩ := c4 j hj
        refine ⟨?_, ?_, ?_⟩
        · rw [u2_a (by decide), fr _ _ (by omega) (by omega)]; exact y3
        · rw [if_pos (by omega)]; exact y4
        · rw [if_pos (by omega)]; exact y5
theorem rexpK_eq {s : Zr} {p : Mp} (h : rPc s p) (ok : pOK p) {q : Nat} (hq : q < pn p) {N0 L0 : Nat} {nt : Nat → Tr} (e15 : s 0 15 = nI N0) (e20 : s 0 20 = nI L0) (hN : N0 + 60 ≤ 200) (hL : L0 + 60 ≤ 20000) (st : nSt s N0 L0 nt) :
    ∃ s' nt', fX6_expand s (nI q) = some (nI N0, s') ∧ s' 0 15 = nI (N0 + psz p q) ∧ s' 0 20 = nI (L0 + (psz p q - 1)) ∧ nSt s' (N0 + psz p q) (L0 + (psz p q - 1)) nt' ∧ (∀ x, x < N0 → nt' x = nt x) ∧ nt' N0 = pT p q ∧ (∃ yo par : Nat → Nat, (∀ z, par z ≤ z) ∧ ∀ x, N0 ≤ x → x < N0 + psz p q → ∃ f, s' 15 x = nI f ∧ f + tLen (nt' x) ≤ L0 + (psz p q - 1) ∧ (x < yo x ∧ yo x + tLen (nt' x) ≤ N0 + psz p q) ∧ ∀ j, j < tLen (nt' x) → s' 17 (f + j) = nI (yo x + j) ∧ nt' (yo x + j) = tKid (nt' x) j ∧ par (yo x + j) = x) ∧ (∀ x, N0 ≤ x → x < N0 + psz p q → tOK (nt' x) ∧ tSz (nt' x) ≤ 60) ∧ rOnly sTr s s' := by
  have h200 := ok.1
  have q60 := (ok.2 q hq).2.2.2.1
  have q1 := psz_1 ok hq
  obtain ⟨t1, t2, -⟩ := h.2.2 q hq
  have n0 : N0 < 200 := by omega
  unfold fX6_expand fX6_newNode
  rw [rd7 (by omega), Option.bind_some, rd8 (by omega), Option.bind_some, t1, t2, e15, wr13 n0, Option.bind_some]
  rw [u2_a (by decide), e15, wr14 n0, Option.bind_some]
  rw [u2_a (by decide), u2_a (by decide), e15, u2_a (by decide), u2_a (by decide), e20, wr15 n0, Option.bind_some]
  rw [u2_a (by decide), u2_a (by decide), u2_a (by decide), e15, wr16 n0, Option.bind_some]
  rw [u2_a (by decide), u2_a (by decide), u2_a (by decide), u2_a (by decide), e15, nI_1, Option.bind_some]
  generalize es1 : u2 (u2 (u2 (u2 (u2 s 13 N0 (nI (pkd p q))) 14 N0 (pnm p q)) 15 N0 (nI L0)) 16 N0 0) 0 15 (nI (N0 + 1)) = s1
  have o1 : rOnly (sEx N0 L0) s s1 := by
    rw [← es1]
    exact ((((rOnly.u (by omega)).tr (rOnly.u (by omega))).tr (rOnly.u (by omega))).tr (rOnly.u (by omega))).tr (rOnly.u (by omega))
  have f15 : s1 0 15 = nI (N0 + 1) := by rw [← es1, u2_s]
  rw [f15, show nI (N0 + 1) - (1 : Int32) = nI N0 from nI_pred N0, Option.bind_some]
  show ∃ s' nt', ((wrI s1 18 (nI N0) (nI q)).bind fun s5 => (zloop eOut zFU (nI N0, s5)).bind fun s8 => some (nI N0, s8)) = _ ∧ _
  rw [wr18 n0, Option.bind_some]
  have o2 : rOnly (sEx N0 L0) s (u2 s1 18 N0 (nI q)) := o1.tr (rOnly.u (by omega))
  have J0 : eK p N0 L0 q N0 (N0 + 1) (fun _ => q) (fun _ => 0) (u2 s1 18 N0 (nI q)) := by
    refine ⟨⟨Nat.le_refl _, by omega, by omega, rfl, ?_, ?_, ?_, fun z => Nat.zero_le _⟩, fun x x1 x2 => ?_, fun x x1 x2 => by omega⟩
    · rw [u2_a (by decide)]; exact f15
    · rw [u2_a (by decide), ← es1, u2_n (by omega), u2_a (by decide), u2_a (by decide), u2_a (by decide), u2_a (by decide), e20]; congr 1; omega
    · rw [show N0 + 1 - N0 = 0 + 1 by omega]
      show N0 + 1 + (0 + (psz p q - 1)) = _
      omega
    · have ex : x = N0 := by omega
      subst ex
      refine ⟨hq, ?_, ?_, ?_⟩
      · rw [u2_s]
      · rw [u2_a (by decide), ← es1, u2_a (by decide), u2_a (by decide), u2_a (by decide), u2_a (by decide), u2_s]
      · rw [u2_a (by decide), ← es1, u2_a (by decide), u2_a (by decide), u2_a (by decide), u2_s]
  have q' := zloop_inv (f := eOut) (fun (n : Nat) (st : Int32 × Zr) => ∃ c N op par, n = N0 + psz p q - c ∧ c ≤ N0 + psz p q ∧ st.1 = nI c ∧ eK p N0 L0 q c N op par st.2 ∧ rOnly (sEx N0 L0) s st.2)
    (fun s' => ∃ op par, eK p N0 L0 q (N0 + psz p q) (N0 + psz p q) op par s' ∧ rOnly (sEx N0 L0) s s') (by
    rintro n ⟨w, s'⟩ ⟨c, N, op, par, hn, hc, rfl, J, o⟩
    dsimp only at J o
    have h' : rPc s' p := h.only o (by omega) (by omega) (fun a k _ _ => by omega)
    by_cases z : c < N
    · obtain ⟨s2, N', op', par', r1, r2, r3, r4⟩ := rexstepK h' ok hq hN hL J z
      have hN' := r2.1.2.1
      exact Or.inl ⟨_, N0 + psz p q - (c + 1), r1, by omega, c + 1, N', op', par', rfl, by omega, rfl, r2, o.tr r4⟩
    · have ec : c = N := by have := J.1.2.1; omega
      subst ec
      have j7 := J.1.2.2.2.2.2.2.1
      rw [Nat.sub_self] at j7
      have j7' : c + 0 = N0 + psz p q := j7
      have ec2 : c = N0 + psz p q := by omega
      refine Or.inr ⟨s', ?_, op, par, by rw [← ec2]; exact J, o⟩
      show (if s' 0 15 ≤ nI c then _ else _) = _
      rw [J.1.2.2.2.2.1, if_pos (nI_le (Nat.le_refl _) (by omega))]) (psz p q) (nI N0, u2 s1 18 N0 (nI q)) zFU ⟨N0, N0 + 1, fun _ => q, fun _ => 0, by omega, by omega, rfl, J0, o2⟩ (by rw [zFU_v]; omega)
  obtain ⟨s', e, op, par, J, o⟩ := q'
  rw [e, Option.bind_some]
  obtain ⟨⟨j1, j2, j3, j4, j5, j6, j7, j8⟩, b, d⟩ := J
  refine ⟨s', fun x => if x < N0 then nt x else pT p (op x), rfl, j5, by rw [j6]; congr 1; omega, fun x hx => ?_, fun x hx => if_pos hx, ?_, ?_, fun x x1 x2 => ?_, o.mono (fun a k z => by omega)⟩
  · by_cases z : x < N0
    · dsimp only
      rw [if_pos z]
      obtain ⟨c1, c2, c3, f, c4, c5, c6⟩ := st x z
      refine ⟨(o _ _ (by omega)).trans c1, (o _ _ (by omega)).trans c2, (o _ _ (by omega)).trans c3, f, (o _ _ (by omega)).trans c4, by omega, fun j hj => ?_⟩
      obtain ⟨y, y1, y2, y3, y4⟩ := c6 j hj
      exact ⟨y, y1, by omega, (o _ _ (by omega)).trans y3, by rw [if_pos y2]; exact y4⟩
    · dsimp only
      rw [if_neg z]
      obtain ⟨b1, b2, b3, b4⟩ := b x (by omega) hx
      have pl := plb_16 ok b1
      obtain ⟨c1, f, y0, ⟨c2, y1, y2⟩, c3, c4⟩ := d x (by omega) (by omega)
      rw [pT_lab ok b1, pl.2.2.1, pl.2.2.2, pT_len ok b1]
      refine ⟨b3, b4, c1, f, c2, by omega, fun j hj => ?_⟩
      obtain ⟨y3, y4, -⟩ := c4 j hj
      refine ⟨y0 + j, by omega, by omega, y3, ?_⟩
      rw [if_neg (by omega), y4]
      conv => rhs; rw [pT_eq ok b1]
      exact (tFold_kid _ _ _ j hj).symm
  · show (if N0 < N0 then _ else pT p (op N0)) = _
    rw [if_neg (Nat.lt_irrefl _), j4]
  · refine ⟨fun x => if h : N0 ≤ x ∧ x < N0 + psz p q then (d x h.1 h.2).2.choose_spec.choose else 0, par, j8, fun x x1 x2 => ?_⟩
    have hx : N0 ≤ x ∧ x < N0 + psz p q := ⟨x1, x2⟩
    obtain ⟨b1, -⟩ := b x x1 x2
    dsimp only
    rw [dif_pos hx, if_neg (by omega), pT_len ok b1]
    obtain ⟨⟨z1, z2, z3⟩, z4, z5⟩ := (d x hx.1 hx.2).2.choose_spec.choose_spec
    refine ⟨_, z1, by omega, ⟨z2, z3⟩, fun j hj => ?_⟩
    obtain ⟨w1, w2, w3⟩ := z5 j hj
    refine ⟨w1, ?_, w3⟩
    rw [if_neg (by omega), w2]
    conv => rhs; rw [pT_eq ok b1]
    exact (tFold_kid _ _ _ j hj).symm
  · dsimp only
    rw [if_neg (by omega)]
    have hb := (b x x1 x2).1
    exact ⟨pT_OK ok _ hb, by rw [pT_sz ok _ hb]; exact (ok.2 _ hb).2.2.2.1⟩
/-! a tree becomes pieces: the model -/
def pEn : Mp → Tr → Mp × List Nat
  | p, .var _ => (p, [])
  | p, .op t k => (pAdd (pEn (pEn p t).1 k).1 (tKd (tLab k)) (tNm (tLab k)) (pEn (pEn p t).1 k).2, (pEn p t).2 ++ [pn (pEn (pEn p t).1 k).1])
def pEnt (p : Mp) (t : Tr) : Mp := pAdd (pEn p t).1 (tKd (tLab t)) (tNm (tLab t)) (pEn p t).2
theorem pEn_op (p : Mp) (t k : Tr) : pEn p (.op t k) = (pEnt (pEn p t).1 k, (pEn p t).2 ++ [pn (pEn (pEn p t).1 k).1]) := rfl
/-- what entering gives -/
def eOK (p : Mp) (t : Tr) (a : Mp × List Nat) : Prop := pOK a.1 ∧ pn a.1 + 1 = pn p + tSz t ∧ (∀ q, q < pn p → pT a.1 q = pT p q) ∧ (∀ j, j ∈ a.2 → j < pn a.1) ∧ a.2.length = tLen t ∧ tFold (tLab t) (pT a.1) a.2 = t
theorem tKd_nm {x : Nat} (hx : x ≤ 16) : (x < 12 → tKd x = 0 ∧ mnm (tNm x) 12) ∧ (x = 12 → tKd x = 1 ∧ tNm x = -3) ∧ (13 ≤ x → 2 ≤ tKd x ∧ tKd x ≤ 5 ∧ tNm x = -3) := by
  unfold tKd tNm
  refine ⟨fun h => ?_, fun h => ?_, fun h => ?_⟩
  · rw [if_pos h, if_pos h]; exact ⟨rfl, nI_mnm h (by omega)⟩
  · subst h; exact ⟨rfl, rfl⟩
  · rw [if_neg (by omega), if_neg (by omega)]; exact ⟨by omega, by omega, rfl⟩
theorem pEnt_ok {p : Mp} {t : Tr} (ok : pOK p) (h : tOK t) (hs : tSz t ≤ 60) (hn : pn p + tSz t ≤ 200) (e : eOK p t (pEn p t)) : pOK (pEnt p t) ∧ pn (pEnt p t) = pn p + tSz t ∧ (∀ q, q < pn p → pT (pEnt p t) q = pT p q) ∧ pT (pEnt p t) (pn (pEn p t).1) = t := by
  obtain ⟨e1, e2, e3, e4, e5, e6⟩ := e
  have lab := tG_lab t h.1
  obtain ⟨k1, k2, k3⟩ := tKd_nm lab
  have l0 : tLab t < 13 → (pEn p t).2 = [] := fun q => List.eq_nil_of_length_eq_zero (by rw [e5]; exact tG_leaf t h.1 q)
  have esz : 1 + pSum (psz (pEn p t).1) (pEn p t).2 = tSz t := by
    have q := congrArg tSz e6
    rw [tFold_sz, pSum_congr _ (psz (pEn p t).1) _ (fun j hj => pT_sz e1 j (e4 j hj))] at q
    exact q
  have ok' : pOK (pEnt p t) := by
    refine pAdd_OK e1 (by omega) ?_ e4 (by omega) ?_
    · by_cases q : tLab t < 12
      · rw [(k1 q).1]; omega
      · by_cases q2 : tLab t = 12
        · rw [(k2 q2).1]; omega
        · exact (k3 (by omega)).2.1
    · by_cases q : tLab t < 12
      · exact Or.inl ⟨(k1 q).1, (k1 q).2, l0 (by omega)⟩
      · by_cases q2 : tLab t = 12
        · exact Or.inr (Or.inl ⟨(k2 q2).1, (k2 q2).2, l0 (by omega)⟩)
        · refine Or.inr (Or.inr ⟨(k3 (by omega)).1, (k3 (by omega)).2.2, ?_⟩)
          rw [e5]
          exact h.2 (by omega)
  refine ⟨ok', ?_, fun q hq => ?_, ?_⟩
  · show pn (pEn p t).1 + 1 = _
    exact e2
  · have hs1 := tSz_1 t
    exact (pAdd_T e1 (by omega)).trans (e3 q hq)
  · rw [show pEnt p t = pAdd (pEn p t).1 (tKd (tLab t)) (tNm (tLab t)) (pEn p t).2 from rfl] at ok' ⊢
    rw [pAdd_Tn ok' e1, tLb_kd lab]
    exact e6
theorem pEn_ok : ∀ (t : Tr) (p : Mp), pOK p → tG t → tSz t ≤ 60 → pn p + tSz t ≤ 201 → eOK p t (pEn p t)
  | .var x, p, ok, _, _, _ => ⟨ok, rfl, fun _ _ => rfl, fun j hj => absurd hj List.not_mem_nil, rfl, rfl⟩
  | .op t k, p, ok, g, hs, hn => by
    have hs' : tSz t + tSz k ≤ 60 := hs
    have hn' : pn p + (tSz t + tSz k) ≤ 201 := hn
    have s1 := tSz_1 t
    have s2 := tSz_1 k
    obtain ⟨a1, a2, a3, a4, a5, a6⟩ := pEn_ok t p ok g.2.1 (by omega) (by omega)
    have b := pEn_ok k (pEn p t).1 a1 g.2.2.1 (by omega) (by omega)
    obtain ⟨c1, c2, c3, c4⟩ := pEnt_ok a1 ⟨g.2.2.1, g.2.2.2⟩ (by omega) (by omega) b
    have b2 := b.2.1
    rw [pEn_op]
    refine ⟨c1, ?_, fun q hq => ?_, fun j hj => ?_, ?_, ?_⟩
    · show pn (pEnt (pEn p t).1 k) + 1 = pn p + (tSz t + tSz k)
      omega
    · exact (c3 q (by omega)).trans (a3 q hq)
    · show j < pn (pEnt (pEn p t).1 k)
      rcases List.mem_append.mp hj with hj | hj
      · have := a4 j hj; omega
      · rw [List.mem_singleton.mp hj]; omega
    · show ((pEn p t).2 ++ [_]).length = tLen t + 1
      rw [List.length_append, a5]; rfl
    · show tFold (tLab t) (pT (pEnt (pEn p t).1 k)) ((pEn p t).2 ++ [pn (pEn (pEn p t).1 k).1]) = _
      rw [tFold_app, c4]
      congr 1
      exact (tFold_congr (fun j hj => c3 j (a4 j hj))).trans a6
