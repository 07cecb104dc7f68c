/-! the constructors -/
def zBc {β : Type} (ci : Nat) (o : Option Nat) : List (Nat × Nat × Nat) → Zh → (Zh → Option β) → Option β
  | [], h, G => G h
  | (t, N, k) :: r, h, G => (zmA h t (nI N)).bind fun ((r1, h2) : Option Nat × Zh) => (zgP h2 o ci k r1).bind fun h3 => zBc ci o r h3 G
def zB (o : Nat) : List (Nat × Nat × Nat) → Zh → Zh
  | [], h => h
  | (t, N, k) :: r, h => zB o r (zsetP (znew h (100 + t) N N) o k (some (zn h)))
theorem zBc_eq {β : Type} {ci o : Nat} : ∀ (l : List (Nat × Nat × Nat)) (h : Zh) (G : Zh → Option β), o < zn h → zk h o = ci + 1 → (∀ x, x ∈ l → x.2.1 < 100000) → zBc ci (some o) l h G = G (zB o l h)
  | [], _, _, _, _, _ => rfl
  | (t, N, k) :: r, h, G, h1, h2, h3 => by
    have hN : N < 100000 := h3 (t, N, k) List.mem_cons_self
    show (zmA h t (nI N)).bind _ = G (zB o r (zsetP (znew h (100 + t) N N) o k (some (zn h))))
    rw [zmA_v hN, Option.bind_some]
    have n1 : o < zn (znew h (100 + t) N N) := Nat.lt_succ_of_lt h1
    have k1 : zk (znew h (100 + t) N N) o = ci + 1 := by rw [zk_nw (by omega)]; exact h2
    show (zgP (znew h (100 + t) N N) (some o) ci k (some (zn h))).bind _ = _
    rw [zgP_v (ci := ci) n1 k1, Option.bind_some]
    exact zBc_eq r _ G n1 k1 (fun x hx => h3 x (List.mem_cons_of_mem _ hx))
def zBs (l : List (Nat × Nat × Nat)) : Nat := l.foldr (fun x a => x.2.1 + a) 0
/-- what building gives -/
theorem zB_at {o : Nat} : ∀ (l : List (Nat × Nat × Nat)) (h : Zh), o < zn h → (zn (zB o l h) = zn h + l.length ∧ zs (zB o l h) = zs h + zBs l) ∧ (∀ u, u < zn h → zk (zB o l h) u = zk h u ∧ zl (zB o l h) u = zl h u ∧ zi (zB o l h) u = zi h u ∧ (u ≠ o → zp (zB o l h) u = zp h u)) ∧
    (∀ i, i < l.length → zk (zB o l h) (zn h + i) = 100 + (l.getD i (0, 0, 0)).1 ∧ zl (zB o l h) (zn h + i) = (l.getD i (0, 0, 0)).2.1 ∧ ∀ j, zi (zB o l h) (zn h + i) j = 0) ∧
    ((l.map (fun x => x.2.2)).Nodup → ∀ i, i < l.length → zp (zB o l h) o (l.getD i (0, 0, 0)).2.2 = some (zn h + i)) ∧ ∀ k, k ∉ l.map (fun x => x.2.2) → zp (zB o l h) o k = zp h o k
  | [], h, _ => ⟨⟨rfl, rfl⟩, fun _ _ => ⟨rfl, rfl, rfl, fun _ => rfl⟩, fun i hi => absurd hi (Nat.not_lt_zero _), fun _ i hi => absurd hi (Nat.not_lt_zero _), fun _ _ => rfl⟩
  | (t, N, k) :: r, h, ho => by
    have n1 : o < zn (zsetP (znew h (100 + t) N N) o k (some (zn h))) := Nat.lt_succ_of_lt ho
    have en : zn (zsetP (znew h (100 + t) N N) o k (some (zn h))) = zn h + 1 := rfl
    obtain ⟨⟨a1, a2⟩, a3, a4, a5, a6⟩ := zB_at r (zsetP (znew h (100 + t) N N) o k (some (zn h))) n1
    rw [en] at a1 a3 a4 a5
    have es : zs (zsetP (znew h (100 + t) N N) o k (some (zn h))) = zs h + N := rfl
    have eL : ((t, N, k) :: r).length = r.length + 1 := rfl
    refine ⟨⟨by show zn (zB o r _) = _; rw [a1, eL]; omega, by show zs (zB o r _) = _; rw [a2, es]; show _ = zs h + (N + zBs r); omega⟩, fun u hu => ?_, fun i hi => ?_, fun nd i hi => ?_, fun k' hk => ?_⟩
    · obtain ⟨b1, b2, b3, b4⟩ := a3 u (by omega)
      refine ⟨b1.trans (zk_nw (a := 100 + t) (b := N) (c := N) (by omega)), b2.trans (zl_nw (a := 100 + t) (b := N) (c := N) (by omega)), b3.trans (zi_nw (a := 100 + t) (b := N) (c := N) (by omega)), fun hne => (b4 hne).trans ?_⟩
      rw [zp_sP]
      funext j
      rw [u2_a hne, zp_nw (by omega)]
    · cases i with
      | zero =>
        obtain ⟨b1, b2, b3, -⟩ := a3 (zn h) (by omega)
        exact ⟨b1.trans (znew_k h (100 + t) N N), b2.trans (znew_l h (100 + t) N N), fun j => by
          show zi (zB o r _) (zn h) j = 0
          rw [b3, zi_sP, znew_i]⟩
      | succ i =>
        have hi' : i < r.length := by rw [eL] at hi; omega
        obtain ⟨b1, b2, b3⟩ := a4 i hi'
        rw [show zn h + (i + 1) = zn h + 1 + i by omega]
        exact ⟨b1, b2, b3⟩
    · rw [List.map_cons] at nd
      obtain ⟨nd1, nd2⟩ := List.nodup_cons.mp nd
      cases i with
      | zero =>
        show zp (zB o r _) o k = _
        rw [a6 k nd1, zp_sP, u2_s]
        rfl
      | succ i =>
        have hi' : i < r.length := by rw [eL] at hi; omega
        rw [show zn h + (i + 1) = zn h + 1 + i by omega]
        exact a5 nd2 i hi'
    · rw [List.map_cons, List.mem_cons] at hk
      show zp (zB o r _) o k' = _
      rw [a6 k' (fun z => hk (Or.inr z)), zp_sP, u2_n (fun z => hk (Or.inl z.2)), zp_nw (by omega)]
def l51 : List (Nat × Nat × Nat) := [(2, 24, 0), (3, 200, 2)]
def l52 : List (Nat × Nat × Nat) := [(4, 12, 5), (0, 144, 6), (0, 144, 7)]
def l1 : List (Nat × Nat × Nat) := [(0, 6, 0), (0, 64, 3), (0, 64, 4)]
def l3 : List (Nat × Nat × Nat) := [(0, 144, 0), (0, 12, 5), (0, 12, 6), (0, 12, 7), (0, 12, 8), (0, 12, 9)]
theorem l1_p (h : Zh) (this : Option Nat) : fX1_init h this = (zob h this 3).bind fun _ => zBc 2 this l1 h some := rfl
theorem l3_p (h : Zh) (this : Option Nat) : fX3_init h this = (zob h this 5).bind fun _ => zBc 4 this l3 h some := rfl
abbrev shF (this : Option Nat) : Int32 × Zh → Option ((Int32 × Zh) ⊕ Zh) := fun ((v21, h22) : Int32 × Zh) =>
    ((zfP h22 this 6 5).bind fun r26 =>
    (zaL h22 r26 4).bind fun x27 =>
    if x27 ≤ v21 then
      some (.inr h22)
    else
      (zfP h22 this 6 5).bind fun r28 =>
      (zmO h22 4 11).bind fun ((r29, h30) : Option Nat × Zh) =>
      (zob h30 r29 5).bind fun p31 =>
      (fX3_init h30 (some p31)).bind fun h32 =>
      (zbP h32 r28 4 4 v21 r29).bind fun h33 =>
      some (.inl (v21 + (1 : Int32), h33)) : Option ((Int32 × Zh) ⊕ Zh))
theorem l5_p (h : Zh) (this : Option Nat) : fX5_init h this = (zob h this 7).bind fun _ => zBc 6 this l51 h (fun h6 => (zmO h6 2 7).bind fun ((r7, h8) : Option Nat × Zh) => (zob h8 r7 3).bind fun p9 => (fX1_init h8 (some p9)).bind fun h10 => (zgP h10 this 6 4 r7).bind fun h11 => zBc 6 this l52 h11 (fun h20 => (zloop (shF this) zFU ((0 : Int32), h20)).bind fun h23 => some h23)) := rfl
/-- what stands when the shares begin -/
def cF0 (h : Zh) (X : Nat) : Prop := (zk h X = 7 ∧ zp h X 0 = some (X + 1) ∧ zp h X 2 = some (X + 2) ∧ zp h X 4 = some (X + 3) ∧ zp h X 5 = some (X + 7) ∧ zp h X 6 = some (X + 8) ∧ zp h X 7 = some (X + 9)) ∧
  (zk h (X + 1) = 102 ∧ zl h (X + 1) = 24) ∧ (zk h (X + 2) = 103 ∧ zl h (X + 2) = 200) ∧ (zk h (X + 3) = 3 ∧ zp h (X + 3) 0 = some (X + 4) ∧ zp h (X + 3) 3 = some (X + 5) ∧ zp h (X + 3) 4 = some (X + 6)) ∧
  ((zk h (X + 4) = 100 ∧ zl h (X + 4) = 6) ∧ (zk h (X + 5) = 100 ∧ zl h (X + 5) = 64) ∧ (zk h (X + 6) = 100 ∧ zl h (X + 6) = 64)) ∧ (zk h (X + 7) = 104 ∧ zl h (X + 7) = 12) ∧ ((zk h (X + 8) = 100 ∧ zl h (X + 8) = 144) ∧ (zk h (X + 9) = 100 ∧ zl h (X + 9) = 144)) ∧ ∀ j, zi h X j = 0
def fK (h h' : Zh) (n : Nat) : Prop := ∀ u, u < n → zk h' u = zk h u ∧ zl h' u = zl h u ∧ zi h' u = zi h u ∧ zp h' u = zp h u
theorem cinit0 (h0 : Zh) : ∃ h20, fX5_init (znew h0 7 0 8) (some (zn h0)) = (zloop (shF (some (zn h0))) zFU ((0 : Int32), h20)).bind (fun h23 => some h23) ∧ cF0 h20 (zn h0) ∧ zn h20 = zn h0 + 10 ∧ zs h20 ≤ zs h0 + 800 ∧ fK h0 h20 (zn h0) := by
  generalize eX : zn h0 = X
  have k7 : zk (znew h0 7 0 8) X = 7 := by rw [← eX]; exact znew_k h0 7 0 8
  have nA : zn (znew h0 7 0 8) = X + 1 := by rw [← eX]; rfl
  have sA : zs (znew h0 7 0 8) = zs h0 + 8 := rfl
  have iA : zi (znew h0 7 0 8) X = fun _ => 0 := by rw [← eX]; exact znew_i h0 7 0 8
  have oA' : ∀ u, u < X → zk (znew h0 7 0 8) u = zk h0 u ∧ zl (znew h0 7 0 8) u = zl h0 u ∧ zi (znew h0 7 0 8) u = zi h0 u ∧ zp (znew h0 7 0 8) u = zp h0 u := fun u hu => ⟨zk_nw (by omega), zl_nw (by omega), zi_nw (a := 7) (b := 0) (c := 8) (by omega), zp_nw (a := 7) (b := 0) (c := 8) (by omega)⟩
  generalize znew h0 7 0 8 = hA at *
  obtain ⟨⟨b1, b2⟩, b3, b4, b5, b6⟩ := zB_at l51 hA (o := X) (by omega)
  have b5' := b5 (by decide)
  rw [nA] at b1 b3 b4 b5'
  have ek1 : zBc 6 (some X) l51 hA = fun (G : Zh → Option Zh) => G (zB X l51 hA) := funext fun G => zBc_eq l51 hA G (by omega) k7 (by decide)
  generalize zB X l51 hA = hB at *
  have nB : zn hB = X + 3 := b1
  have sB : zs hB = zs hA + 224 := b2
  have kB : zk hB X = 7 := (b3 X (by omega)).1.trans k7
  have B1 := b4 0 (by decide)
  have B2 := b4 1 (by decide)
  have P0 := b5' 0 (by decide)
  have P2 := b5' 1 (by decide)
  -- laying
  have kC : zk (znew hB 3 0 7) (X + 3) = 3 := by rw [← nB]; exact znew_k hB 3 0 7
  have nC : zn (znew hB 3 0 7) = X + 4 := by show zn hB + 1 = _; omega
  have sC : zs (znew hB 3 0 7) = zs hB + 7 := rfl
  have oC : ∀ u, u < X + 3 → zk (znew hB 3 0 7) u = zk hB u ∧ zl (znew hB 3 0 7) u = zl hB u ∧ zi (znew hB 3 0 7) u = zi hB u ∧ zp (znew hB 3 0 7) u = zp hB u := fun u hu => ⟨zk_nw (by omega), zl_nw (by omega), zi_nw (a := 3) (b := 0) (c := 7) (by omega), zp_nw (a := 3) (b := 0) (c := 7) (by omega)⟩
  have eC : zmO hB 2 7 = some (some (X + 3), znew hB 3 0 7) := by rw [zmO_v, nB]
  generalize znew hB 3 0 7 = hC at *
  obtain ⟨⟨d1, d2⟩, d3, d4, d5, d6⟩ := zB_at l1 hC (o := X + 3) (by omega)
  have d5' := d5 (by decide)
  rw [nC] at d1 d3 d4 d5'
  have ek2 : fX1_init hC (some (X + 3)) = some (zB (X + 3) l1 hC) := by
    rw [l1_p, zob_v (by omega) kC, Option.bind_some, zBc_eq l1 hC _ (by omega) kC (by decide)]
  generalize zB (X + 3) l1 hC = hD at *
  have nD : zn hD = X + 7 := d1
  have sD : zs hD = zs hC + 134 := d2
  have D4 := d4 0 (by decide)
  have D5 := d4 1 (by decide)
  have D6 := d4 2 (by decide)
  have Q0 := d5' 0 (by decide)
  have Q3 := d5' 1 (by decide)
  have Q4 := d5' 2 (by decide)
  have kD : zk hD X = 7 := (d3 X (by omega)).1.trans ((oC X (by omega)).1.trans kB)
  -- the rest of the object's rows
  have eE : zgP hD (some X) 6 4 (some (X + 3)) = some (zsetP hD X 4 (some (X + 3))) := zgP_v (ci := 6) (by omega) kD
  have pE : ∀ u k, ¬ (u = X ∧ k = 4) → zp (zsetP hD X 4 (some (X + 3))) u k = zp hD u k := fun u k hn => by rw [zp_sP, u2_n hn]
  have pE4 : zp (zsetP hD X 4 (some (X + 3))) X 4 = some (X + 3) := by rw [zp_sP, u2_s]
  have kE : zk (zsetP hD X 4 (some (X + 3))) = zk hD ∧ zl (zsetP hD X 4 (some (X + 3))) = zl hD ∧ zi (zsetP hD X 4 (some (X + 3))) = zi hD ∧ zn (zsetP hD X 4 (some (X + 3))) = zn hD ∧ zs (zsetP hD X 4 (some (X + 3))) = zs hD := ⟨rfl, rfl, rfl, rfl, rfl⟩
  generalize zsetP hD X 4 (some (X + 3)) = hE at *
  obtain ⟨e1, e2, e3, e4, e5⟩ := kE
  obtain ⟨⟨g1, g2⟩, g3, g4, g5, g6⟩ := zB_at l52 hE (o := X) (by omega)
  have g5' := g5 (by decide)
  rw [e4, nD] at g1 g3 g4 g5'
  have ek3 : zBc 6 (some X) l52 hE = fun (G : Zh → Option Zh) => G (zB X l52 hE) := funext fun G => zBc_eq l52 hE G (by omega) (by rw [e1]; exact kD) (by decide)
  generalize zB X l52 hE = hF at *
  have nF' : zn hF = X + 10 := g1
  have sF : zs hF = zs hE + 300 := g2
  have F7 := g4 0 (by decide)
  have F8 := g4 1 (by decide)
  have F9 := g4 2 (by decide)
  have R5 := g5' 0 (by decide)
  have R6 := g5' 1 (by decide)
  have R7 := g5' 2 (by decide)
  have keep : ∀ u, u < X + 7 → zk hF u = zk hD u ∧ zl hF u = zl hD u ∧ zi hF u = zi hD u ∧ (u ≠ X → zp hF u = zp hD u) := fun u hu => by
    obtain ⟨x1, x2, x3, x4⟩ := g3 u hu
    refine ⟨x1.trans (by rw [e1]), x2.trans (by rw [e2]), x3.trans (by rw [e3]), fun hne => (x4 hne).trans ?_⟩
    funext k
    exact pE u k (fun z => hne z.1)
  have keepB : ∀ u, u < X + 3 → zk hF u = zk hB u ∧ zl hF u = zl hB u ∧ zi hF u = zi hB u ∧ (u ≠ X → zp hF u = zp hB u) := fun u hu => by
    obtain ⟨x1, x2, x3, x4⟩ := keep u (by omega)
    obtain ⟨y1, y2, y3, y4⟩ := d3 u (by omega)
    obtain ⟨z1, z2, z3, z4⟩ := oC u hu
    exact ⟨x1.trans (y1.trans z1), x2.trans (y2.trans z2), x3.trans (y3.trans z3), fun hne => (x4 hne).trans ((y4 (by omega)).trans z4)⟩
  have Xp : ∀ k, k ≠ 4 → k ≠ 5 → k ≠ 6 → k ≠ 7 → zp hF X k = zp hB X k := fun k h4 h5 h6 h7 => by
    rw [g6 k (by simp [l52]; omega), pE X k (by omega), (d3 X (by omega)).2.2.2 (by omega), (oC X (by omega)).2.2.2]
  refine ⟨hF, ?_, ⟨⟨(keepB X (by omega)).1.trans kB, (Xp 0 (by omega) (by omega) (by omega) (by omega)).trans P0, (Xp 2 (by omega) (by omega) (by omega) (by omega)).trans P2, ?_, R5, R6, R7⟩, ⟨(keepB (X + 1) (by omega)).1.trans B1.1, (keepB (X + 1) (by omega)).2.1.trans B1.2.1⟩, ⟨(keepB (X + 2) (by omega)).1.trans B2.1, (keepB (X + 2) (by omega)).2.1.trans B2.2.1⟩,
    ⟨(keep (X + 3) (by omega)).1.trans ((d3 (X + 3) (by omega)).1.trans kC), ?_, ?_, ?_⟩, ⟨⟨(keep (X + 4) (by omega)).1.trans D4.1, (keep (X + 4) (by omega)).2.1.trans D4.2.1⟩, ⟨(keep (X + 5) (by omega)).1.trans D5.1, (keep (X + 5) (by omega)).2.1.trans D5.2.1⟩, ⟨(keep (X + 6) (by omega)).1.trans D6.1, (keep (X + 6) (by omega)).2.1.trans D6.2.1⟩⟩, ⟨F7.1, F7.2.1⟩, ⟨⟨F8.1, F8.2.1⟩, ⟨F9.1, F9.2.1⟩⟩, fun j => ?_⟩, nF', by omega, fun u hu => ?_⟩
  · rw [l5_p, zob_v (by omega) k7, Option.bind_some, ek1]
    show ((zmO hB 2 7).bind _) = _
    rw [eC, Option.bind_some]
    show ((zob hC (some (X + 3)) 3).bind _) = _
    rw [zob_v (by omega) kC, Option.bind_some, ek2, Option.bind_some]
    show ((zgP hD (some X) 6 4 (some (X + 3))).bind _) = _
    rw [eE, Option.bind_some, ek3]
  · rw [g6 4 (by simp [l52])]; exact pE4
  · rw [(keep (X + 3) (by omega)).2.2.2 (by omega)]; exact Q0
  · rw [(keep (X + 3) (by omega)).2.2.2 (by omega)]; exact Q3
  · rw [(keep (X + 3) (by omega)).2.2.2 (by omega)]; exact Q4
  · rw [(keepB X (by omega)).2.2.1, (b3 X (by omega)).2.2.1, iA]
  · obtain ⟨x1, x2, x3, x4⟩ := keepB u (by omega)
    obtain ⟨y1, y2, y3, y4⟩ := b3 u (by omega)
    obtain ⟨z1, z2, z3, z4⟩ := oA' u hu
    exact ⟨x1.trans (y1.trans z1), x2.trans (y2.trans z2), x3.trans (y3.trans z3), (x4 (by omega)).trans ((y4 (by omega)).trans z4)⟩
def shK (h : Zh) (X d : Nat) : Prop := zp h (X + 7) d = some (X + 10 + 7 * d) ∧ zk h (X + 10 + 7 * d) = 5 ∧ (zp h (X + 10 + 7 * d) 0 = some (X + 11 + 7 * d) ∧ zk h (X + 11 + 7 * d) = 100 ∧ zl h (X + 11 + 7 * d) = 144) ∧ ∀ q, q < 5 → zp h (X + 10 + 7 * d) (5 + q) = some (X + 12 + 7 * d + q) ∧ zk h (X + 12 + 7 * d + q) = 100 ∧ zl h (X + 12 + 7 * d + q) = 12
theorem cF0.on {h h' : Zh} {X : Nat} (hf : ∀ u, u < X + 10 → zk h' u = zk h u ∧ zl h' u = zl h u ∧ zi h' u = zi h u) (hp : ∀ u, u < X + 7 → zp h' u = zp h u) (c : cF0 h X) : cF0 h' X := by
  obtain ⟨⟨f1, f2, f3, f4, f5, f6, f7⟩, ⟨g1, g2⟩, ⟨g3, g4⟩, ⟨g5, g6, g7, g8⟩, ⟨⟨k1, k2⟩, ⟨k3, k4⟩, ⟨k5, k6⟩⟩, ⟨k7, k8⟩, ⟨⟨l1, l2⟩, ⟨l3, l4⟩⟩, l5⟩ := c
  refine ⟨⟨(hf X (by omega)).1.trans f1, by rw [hp X (by omega)]; exact f2, by rw [hp X (by omega)]; exact f3, by rw [hp X (by omega)]; exact f4, by rw [hp X (by omega)]; exact f5, by rw [hp X (by omega)]; exact f6, by rw [hp X (by omega)]; exact f7⟩, ⟨(hf _ (by omega)).1.trans g1, (hf _ (by omega)).2.1.trans g2⟩, ⟨(hf _ (by omega)).1.trans g3, (hf _ (by omega)).2.1.trans g4⟩,
    ⟨(hf _ (by omega)).1.trans g5, by rw [hp (X + 3) (by omega)]; exact g6, by rw [hp (X + 3) (by omega)]; exact g7, by rw [hp (X + 3) (by omega)]; exact g8⟩, ⟨⟨(hf _ (by omega)).1.trans k1, (hf _ (by omega)).2.1.trans k2⟩, ⟨(hf _ (by omega)).1.trans k3, (hf _ (by omega)).2.1.trans k4⟩, ⟨(hf _ (by omega)).1.trans k5, (hf _ (by omega)).2.1.trans k6⟩⟩, ⟨(hf _ (by omega)).1.trans k7, (hf _ (by omega)).2.1.trans k8⟩, ⟨⟨(hf _ (by omega)).1.trans l1, (hf _ (by omega)).2.1.trans l2⟩, ⟨(hf _ (by omega)).1.trans l3, (hf _ (by omega)).2.1.trans l4⟩⟩, fun j => by rw [(hf X (by omega)).2.2]; exact l5 j⟩
theorem cshare_eq {h : Zh} {X d : Nat} (c : cF0 h X) (hn : zn h = X + 10 + 7 * d) (hd : d < 12) (hs : ∀ q, q < d → shK h X q) : ∃ h', shF (some X) (nI d, h) = some (.inl (nI (d + 1), h')) ∧ cF0 h' X ∧ zn h' = X + 10 + 7 * (d + 1) ∧ zs h' = zs h + 215 ∧ (∀ q, q < d + 1 → shK h' X q) ∧ fK h h' X := by
  have kX := c.1.1
  have p5 := c.1.2.2.2.2.1
  have k7 := c.2.2.2.2.2.1
  have nC : zn (znew h 5 0 11) = X + 10 + 7 * d + 1 := by show zn h + 1 = _; omega
  have kC : zk (znew h 5 0 11) (X + 10 + 7 * d) = 5 := by rw [← hn]; exact znew_k h 5 0 11
  have oC : ∀ u, u < X + 10 + 7 * d → zk (znew h 5 0 11) u = zk h u ∧ zl (znew h 5 0 11) u = zl h u ∧ zi (znew h 5 0 11) u = zi h u ∧ zp (znew h 5 0 11) u = zp h u := fun u hu => ⟨zk_nw (by omega), zl_nw (by omega), zi_nw (a := 5) (b := 0) (c := 11) (by omega), zp_nw (a := 5) (b := 0) (c := 11) (by omega)⟩
  have sC : zs (znew h 5 0 11) = zs h + 11 := rfl
  have eC : zmO h 4 11 = some (some (X + 10 + 7 * d), znew h 5 0 11) := by rw [zmO_v, hn]
  show ∃ h', ((zfP h (some X) 6 5).bind _) = _ ∧ _
  rw [zfP_v (ci := 6) (by omega) kX, p5, Option.bind_some, zaL_v (t := 4) (by omega) k7.1, k7.2, Option.bind_some, if_neg (nI_nle' (by omega) hd), Option.bind_some, eC, Option.bind_some]
  generalize znew h 5 0 11 = hC at *
  obtain ⟨⟨d1, d2⟩, d3, d4, d5, d6⟩ := zB_at l3 hC (o := X + 10 + 7 * d) (by omega)
  have d5' := d5 (by decide)
  rw [nC] at d1 d3 d4 d5'
  show ∃ h', ((zob hC (some (X + 10 + 7 * d)) 5).bind _) = _ ∧ _
  have ek2 : fX3_init hC (some (X + 10 + 7 * d)) = some (zB (X + 10 + 7 * d) l3 hC) := by
    rw [l3_p, zob_v (by omega) kC, Option.bind_some, zBc_eq l3 hC _ (by omega) kC (by decide)]
  rw [zob_v (by omega) kC, Option.bind_some, ek2, Option.bind_some]
  generalize zB (X + 10 + 7 * d) l3 hC = hD at *
  have nD : zn hD = X + 10 + 7 * d + 7 := d1
  have sD : zs hD = zs hC + 204 := d2
  have kD7 : zk hD (X + 7) = 104 := (d3 _ (by omega)).1.trans ((oC _ (by omega)).1.trans k7.1)
  have lD7 : zl hD (X + 7) = 12 := (d3 _ (by omega)).2.1.trans ((oC _ (by omega)).2.1.trans k7.2)
  have kDs : zk hD (X + 10 + 7 * d) = 5 := (d3 _ (by omega)).1.trans kC
  rw [zbP_v (t := 4) (n := 12) (ci := 4) (by omega) kD7 lD7 hd (by omega) (by omega) kDs, Option.bind_some, nI_1]
  have old : ∀ u, u < X + 10 + 7 * d → zk hD u = zk h u ∧ zl hD u = zl h u ∧ zi hD u = zi h u ∧ zp hD u = zp h u := fun u hu => by
    obtain ⟨x1, x2, x3, x4⟩ := d3 u (by omega)
    obtain ⟨y1, y2, y3, y4⟩ := oC u hu
    exact ⟨x1.trans y1, x2.trans y2, x3.trans y3, (x4 (by omega)).trans y4⟩
  have pn : ∀ u, u ≠ X + 7 → zp (zsetP hD (X + 7) d (some (X + 10 + 7 * d))) u = zp hD u := fun u hu => by
    rw [zp_sP]
    funext j
    rw [u2_a hu]
  have p7 : ∀ q, q ≠ d → zp (zsetP hD (X + 7) d (some (X + 10 + 7 * d))) (X + 7) q = zp hD (X + 7) q := fun q hq => by rw [zp_sP, u2_n (by omega)]
  refine ⟨_, rfl, c.on (fun u hu => ⟨(old u (by omega)).1, (old u (by omega)).2.1, (old u (by omega)).2.2.1⟩) (fun u hu => (pn u (by omega)).trans (old u (by omega)).2.2.2), by show zn hD = _; omega, by show zs hD = _; omega, fun q hq => ?_, fun u hu => ⟨(old u (by omega)).1, (old u (by omega)).2.1, (old u (by omega)).2.2.1, (pn u (by omega)).trans (old u (by omega)).2.2.2⟩⟩
  by_cases e : q = d
  · subst e
    refine ⟨by rw [zp_sP, u2_s], kDs, ⟨?_, ?_, ?_⟩, fun j hj => ⟨?_, ?_, ?_⟩⟩
    · rw [pn _ (by omega), show X + 11 + 7 * q = X + 10 + 7 * q + 1 + 0 by omega]
      exact d5' 0 (by decide)
    · rw [show X + 11 + 7 * q = X + 10 + 7 * q + 1 + 0 by omega]
      exact (d4 0 (by decide)).1
    · rw [show X + 11 + 7 * q = X + 10 + 7 * q + 1 + 0 by omega]
      exact (d4 0 (by decide)).2.1
    · rw [pn _ (by omega), show X + 12 + 7 * q + j = X + 10 + 7 * q + 1 + (j + 1) by omega]
      have e5 : (l3.getD (j + 1) (0, 0, 0)).2.2 = 5 + j := by
        have : ∀ j, j < 5 → (l3.getD (j + 1) (0, 0, 0)).2.2 = 5 + j := by decide
        exact this j hj
      have := d5' (j + 1) (by show j + 1 < 6; omega)
      rw [e5] at this
      exact this
    · rw [show X + 12 + 7 * q + j = X + 10 + 7 * q + 1 + (j + 1) by omega]
      have e5 : (l3.getD (j + 1) (0, 0, 0)).1 = 0 := by
        have : ∀ j, j < 5 → (l3.getD (j + 1) (0, 0, 0)).1 = 0 := by decide
        exact this j hj
      have := (d4 (j + 1) (by show j + 1 < 6; omega)).1
      rw [e5] at this
      exact this
    · rw [show X + 12 + 7 * q + j = X + 10 + 7 * q + 1 + (j + 1) by omega]
      have e5 : (l3.getD (j + 1) (0, 0, 0)).2.1 = 12 := by
        have : ∀ j, j < 5 → (l3.getD (j + 1) (0, 0, 0)).2.1 = 12 := by decide
        exact this j hj
      have := (d4 (j + 1) (by show j + 1 < 6; omega)).2.1
      rw [e5] at this
      exact this
  · obtain ⟨s1, s2, ⟨s3, s4, s5⟩, s6⟩ := hs q (by omega)
    refine ⟨?_, (old _ (by omega)).1.trans s2, ⟨?_, (old _ (by omega)).1.trans s4, (old _ (by omega)).2.1.trans s5⟩, fun j hj => ?_⟩
    · rw [p7 q e, (old _ (by omega)).2.2.2]; exact s1
    · rw [pn _ (by omega), (old _ (by omega)).2.2.2]; exact s3
    · obtain ⟨t1, t2, t3⟩ := s6 j hj
      exact ⟨by rw [pn _ (by omega), (old _ (by omega)).2.2.2]; exact t1, (old _ (by omega)).1.trans t2, (old _ (by omega)).2.1.trans t3⟩
theorem cinit_all (h0 : Zh) : ∃ h, fX5_init (znew h0 7 0 8) (some (zn h0)) = some h ∧ cF0 h (zn h0) ∧ (∀ q, q < 12 → shK h (zn h0) q) ∧ zn h = zn h0 + 94 ∧ zs h ≤ zs h0 + 3400 ∧ fK h0 h (zn h0) := by
  obtain ⟨h20, e, c, n, s, k⟩ := cinit0 h0
  have lp := zS.up (f := shF (some (zn h0))) (fun d h => cF0 h (zn h0) ∧ zn h = zn h0 + 10 + 7 * d ∧ zs h ≤ zs h0 + 800 + 215 * d ∧ (∀ q, q < d → shK h (zn h0) q) ∧ fK h0 h (zn h0)) (P := fun h => cF0 h (zn h0) ∧ zn h = zn h0 + 10 + 7 * 12 ∧ zs h ≤ zs h0 + 800 + 215 * 12 ∧ (∀ q, q < 12 → shK h (zn h0) q) ∧ fK h0 h (zn h0)) 0 12 (s0 := h20) (fun d h _ hd hJ => ?_) (fun h hJ => ?_) (Nat.zero_le _) (by omega) ⟨c, by omega, by omega, fun q hq => absurd hq (Nat.not_lt_zero _), k⟩
  · obtain ⟨h, e2, a1, a2, a3, a4, a5⟩ := lp
    have e2' : zloop (shF (some (zn h0))) zFU ((0 : Int32), h20) = some h := e2
    refine ⟨h, ?_, a1, a4, by omega, by omega, a5⟩
    rw [e, e2']
    rfl
  · obtain ⟨a1, a2, a3, a4, a5⟩ := hJ
    obtain ⟨h', b1, b2, b3, b4, b5, b6⟩ := cshare_eq a1 a2 hd a4
    exact ⟨_, b1, h', rfl, b2, b3, by omega, b5, fun u hu => by
      obtain ⟨x1, x2, x3, x4⟩ := b6 u hu
      obtain ⟨y1, y2, y3, y4⟩ := a5 u hu
      exact ⟨x1.trans y1, x2.trans y2, x3.trans y3, x4.trans y4⟩⟩
  · obtain ⟨a1, a2, a3, a4, a5⟩ := hJ
    refine ⟨_, ?_, h, rfl, a1, a2, a3, a4, a5⟩
    show ((zfP h (some (zn h0)) 6 5).bind _) = _
    rw [zfP_v (ci := 6) (by omega) a1.1.1, a1.1.2.2.2.2.1, Option.bind_some, zaL_v (t := 4) (by omega) a1.2.2.2.2.2.1.1, a1.2.2.2.2.2.1.2, Option.bind_some, if_pos (nI_le (Nat.le_refl _) (by omega))]
