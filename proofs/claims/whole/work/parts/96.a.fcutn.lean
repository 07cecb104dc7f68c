/-! found on the reference's side: a node becomes a cut of its rows -/
theorem rRb.on {S : Nat → Nat → Prop} {s s' : Zr} {f W W' : Nat} {l : Rw} (o : rOnly S s s') (h : rRb s f l W) (h33 : ∀ k, k < f + l.length → ¬ S 33 k ∧ ¬ S 34 k) (h35 : ∀ k, k < W → ¬ S 35 k) (hW : W ≤ W') : rRb s' f l W' := fun i hi => by
  obtain ⟨g, g1, g2, g3, g4⟩ := h i hi
  exact ⟨g, (o _ _ (h33 _ (by omega)).1).trans g1, (o _ _ (h33 _ (by omega)).2).trans g2, by omega, fun j hj => (o _ _ (h35 _ (by omega))).trans (g4 j hj)⟩
theorem RW.rb {s : Zr} {f W : Nat} {l : Rw} (h : RW s f l W) : rRb s f l W := fun i hi => by
  obtain ⟨g, h1, h2, h3, -, h5⟩ := h i hi
  exact ⟨g, h1, h2, h3, h5⟩
/-- a node whose rows are there -/
def nPd (s : Zr) (D F W y : Nat) (l : Rw) : Prop := s 14 y = -3 ∧ s 16 y = 0 ∧ (∃ g, s 15 y = nI g ∧ g ≤ D) ∧ ∃ f, s 31 y = nI f ∧ s 32 y = nI l.length ∧ f + l.length ≤ F ∧ rRb s f l W
theorem nPd.on {S : Nat → Nat → Prop} {s s' : Zr} {D F W D' F' W' y : Nat} {l : Rw} (o : rOnly S s s') (h : nPd s D F W y l) (h1 : ¬ S 14 y ∧ ¬ S 15 y ∧ ¬ S 16 y ∧ ¬ S 31 y ∧ ¬ S 32 y) (h33 : ∀ k, k < F → ¬ S 33 k ∧ ¬ S 34 k) (h35 : ∀ k, k < W → ¬ S 35 k) (hD : D ≤ D') (hF : F ≤ F') (hW : W ≤ W') : nPd s' D' F' W' y l := by
  obtain ⟨a1, a2, ⟨g, a7, a8⟩, f, a3, a4, a5, a6⟩ := h
  exact ⟨(o _ _ h1.1).trans a1, (o _ _ h1.2.2.1).trans a2, ⟨g, (o _ _ h1.2.1).trans a7, by omega⟩, f, (o _ _ h1.2.2.2.1).trans a3, (o _ _ h1.2.2.2.2).trans a4, by omega, a6.on o (fun k hk => h33 k (by omega)) h35 hW⟩
theorem part_P0 {s : Zr} {N f W0 : Nat} {P : Nat → Prop} (h : ∀ v, v < 12 → isB (s 44 v) (P v)) : ∀ s', rOnly (sPo N f W0) s s' → ∀ v, v < 12 → zS (if (-3 : Int32) = (-3 : Int32) then (rdZ s' 44 (nI v)).bind fun x30 => some x30 else (rdI s' 40 (nI v)).bind fun x31 => if x31 = (-3 : Int32) then some (1 : Int32) else some (0 : Int32)) (fun y => isB y (P v)) := fun s' o v hv => by
  rw [if_pos rfl, rd44 hv, Option.bind_some, o 44 v (by omega)]
  exact zS.s (h v hv)
theorem part_P1 {s : Zr} {N f W0 r : Nat} {P : Nat → Prop} (hr : r < 12) (h : ∀ v, v < 12 → (s 40 v = nI r ↔ P v)) : ∀ s', rOnly (sPo N f W0) s s' → ∀ v, v < 12 → zS (if nI r = (-3 : Int32) then (rdZ s' 44 (nI v)).bind fun x30 => some x30 else (rdI s' 40 (nI v)).bind fun x31 => if x31 = nI r then some (1 : Int32) else some (0 : Int32)) (fun y => isB y (P v)) := fun s' o v hv => by
  rw [if_neg (n3_nI hr), rd40 hv, Option.bind_some, o 40 v (by omega)]
  by_cases c : s 40 v = nI r
  · rw [if_pos c]; exact zS.s (isB.t ((h v hv).mp c))
  · rw [if_neg c]; exact zS.s (isB.f (fun z => c ((h v hv).mpr z)))
/-- what a cut of node x may change -/
abbrev sCn (x N D F W a k : Nat) : Prop := (a = 0 ∧ (k = 15 ∨ k = 20 ∨ k = 42 ∨ k = 45)) ∨ (13 ≤ a ∧ a ≤ 16 ∧ N ≤ k) ∨ ((a = 13 ∨ a = 15 ∨ a = 16) ∧ k = x) ∨ (a = 17 ∧ D ≤ k) ∨ ((a = 31 ∨ a = 32) ∧ N ≤ k) ∨ ((a = 33 ∨ a = 34) ∧ F ≤ k) ∨ (a = 35 ∧ W ≤ k) ∨ a = 46
/-- the nodes of the first i parts are there -/
def cKs (s0 s : Zr) (x N D F W k : Nat) (l : Rw) (Q : Nat → Nat → Prop) (i : Nat) : Prop := s 0 15 = nI (N + i) ∧ s 0 20 = nI D ∧ s 16 x = nI 0 ∧ s 13 x = nI k ∧ (∃ F' W', s 0 42 = nI F' ∧ s 0 45 = nI W' ∧ (F ≤ F' ∧ F' ≤ F + 144 * i) ∧ (W ≤ W' ∧ W' ≤ W + 144 * i) ∧ ∀ j, j < i → nPd s D F' W' (N + j) (xTake k (Q j) l)) ∧ (∀ j, j < i → s 46 j = nI (N + j)) ∧ rOnly (sCn x N D F W) s0 s
theorem cKs_s {s0 s : Zr} {l : Rw} {x f0 N D F W k i : Nat} {Q : Nat → Nat → Prop} {a2 : Int32} (ok : xOK l) (hx : x < N) (hN : N ≤ 60) (hi : i ≤ 13) (hF : F ≤ 144 * N) (hW : W ≤ 144 * N) (h31 : s0 31 x = nI f0) (h32 : s0 32 x = nI l.length) (hf0 : f0 + l.length ≤ F) (hr : rRb s0 f0 l W) (hk : k = 2 ∨ k = 3 ∨ k = 4 ∨ k = 5) (J : cKs s0 s x N D F W k l Q i)
    (h3 : k = 3 → ∀ r, r ∈ l → 0 < r.length ∧ ∀ y, y ∈ r → (Q i y ↔ Q i (r.getD 0 0))) (h40 : k = 3 → ∀ v, v < 12 → (s 40 v = a2 ↔ Q i v))
    (hP : ∀ N' f W0 s', rOnly (sPo N' f W0) s s' → ∀ v, v < 12 → zS (if a2 = (-3 : Int32) then (rdZ s' 44 (nI v)).bind fun x30 => some x30 else (rdI s' 40 (nI v)).bind fun x31 => if x31 = a2 then some (1 : Int32) else some (0 : Int32)) (fun y => isB y (Q i v))) :
    zS (fX6_partNode s (nI x) a2 (nI k)) (fun q => q.1 = nI (N + i) ∧ wrI q.2 46 (nI i) (nI (N + i)) = some (u2 q.2 46 i (nI (N + i))) ∧ cKs s0 (u2 q.2 46 i (nI (N + i))) x N D F W k l Q (i + 1) ∧ (∀ v, q.2 40 v = s 40 v ∧ q.2 41 v = s 41 v ∧ q.2 44 v = s 44 v) ∧ q.2 0 52 = s 0 52) := by
  obtain ⟨j1, j2, j3, j4, ⟨F', W', k1, k2, ⟨k3, k4⟩, ⟨k5, k6⟩, k7⟩, j6, o⟩ := J
  have l144 := ok.2.1
  have g144 := ok.2.2
  refine zS.m (rpart_eq (s := s) (l := l) (a := x) (f0 := f0) (f := F') (N := N + i) (W0 := W') (k := k) (P := Q i) (a2 := a2) ok (by omega) (by omega) j1 (by rw [o 31 x (by omega)]; exact h31) (by rw [o 32 x (by omega)]; exact h32) (by omega) (hr.on o (fun k' hk' => ⟨by omega, by omega⟩) (fun k' hk' => by omega) k5) k1 k2 (by omega) (by omega) hk h3 h40 (fun s' o' v hv => hP _ _ _ s' o' v hv)) (fun q hq => ?_)
  obtain ⟨q1, q2, ⟨q3, q4, q5, q6⟩, ⟨W2, w1, w2, B⟩, oq⟩ := hq
  obtain ⟨b1, b2, b3, b4, b5⟩ := B
  have xt := (xTake_ok (k := k) (P := Q i) ok).1.2.1
  have O : rOnly (sCn x N D F W) s (u2 q.2 46 i (nI (N + i))) := (oq.mono (fun a k z => by rcases z with (z | z) | z | z | z | z <;> omega)).tr (rOnly.u (by omega))
  have O2 : rOnly (fun a k => sPo (N + i) F' W' a k ∨ a = 46) s (u2 q.2 46 i (nI (N + i))) := (oq.mono (fun a k z => Or.inl z)).tr (rOnly.u (Or.inr rfl))
  refine ⟨q1, wr46 (by omega), ⟨?_, ?_, ?_, ?_, ⟨F' + (xTake k (Q i) l).length, W2, ?_, ?_, ⟨by omega, by omega⟩, ⟨by omega, by omega⟩, fun j hj => ?_⟩, fun j hj => ?_, o.tr O⟩, fun v => ⟨oq 40 v (by omega), oq 41 v (by omega), oq 44 v (by omega)⟩, oq 0 52 (by omega)⟩
  · rw [u2_a (by decide)]; exact q2
  · rw [O2 0 20 (by omega)]; exact j2
  · rw [O2 16 x (by omega)]; exact j3
  · rw [O2 13 x (by omega)]; exact j4
  · rw [u2_a (by decide)]; exact b3
  · rw [u2_a (by decide)]; exact b4
  · by_cases c : j = i
    · subst c
      refine ⟨?_, ?_, ⟨D, ?_, Nat.le_refl _⟩, F', ?_, ?_, Nat.le_refl _, ?_⟩
      · rw [u2_a (by decide)]; exact q4
      · rw [u2_a (by decide)]; exact q6
      · rw [u2_a (by decide), q5]; exact j2
      · rw [u2_a (by decide)]; exact b1
      · rw [u2_a (by decide)]; exact b2
      · exact (b5.rb).on (S := fun a k => a = 46) (rOnly.u rfl) (fun k' _ => ⟨by omega, by omega⟩) (fun k' _ => by omega) (Nat.le_refl _)
    · exact (k7 j (by omega)).on O2 ⟨by omega, by omega, by omega, by omega, by omega⟩ (fun k' hk' => ⟨by omega, by omega⟩) (fun k' hk' => by omega) (Nat.le_refl _) (by omega) w1
  · by_cases c : j = i
    · subst c; exact u2_s
    · rw [u2_n (fun z => c z.2), oq 46 j (by omega)]; exact j6 j (by omega)
theorem rcutn_eq {s : Zr} {l : Rw} {x f0 N D F W k b : Nat} {L : List Nat} {Q : Nat → Nat → Prop} (ok : xOK l) (hx : x < N) (hN : N ≤ 60) (hD : D ≤ N) (hF : F ≤ 144 * N) (hW : W ≤ 144 * N) (e15 : s 0 15 = nI N) (e20 : s 0 20 = nI D) (e42 : s 0 42 = nI F) (e45 : s 0 45 = nI W) (h16 : s 16 x = 0) (h31 : s 31 x = nI f0) (h32 : s 32 x = nI l.length) (hf0 : f0 + l.length ≤ F) (hr : rRb s f0 l W)
    (hL : L.length ≤ 12) (h52 : s 0 52 = nI L.length) (h41 : ∀ i, i < L.length → s 41 i = nI (L.getD i 0) ∧ L.getD i 0 < 12 ∧ ∀ v, v < 12 → (s 40 v = nI (L.getD i 0) ↔ Q (b + i) v)) (hk : k = 2 ∨ k = 3 ∨ k = 4 ∨ k = 5) (hb : (k = 5 ∧ b = 1) ∨ (k ≠ 5 ∧ b = 0))
    (h3 : k = 3 → ∀ i, i < L.length → ∀ r, r ∈ l → 0 < r.length ∧ ∀ y, y ∈ r → (Q (b + i) y ↔ Q (b + i) (r.getD 0 0))) (h5 : k = 5 → ∀ v, v < 12 → isB (s 44 v) (Q 0 v)) :
    zS (fX6_cutNode s (nI x) (nI k)) (fun s' => (s' 13 x = nI k ∧ s' 15 x = nI D ∧ s' 16 x = nI (b + L.length) ∧ ∀ j, j < b + L.length → s' 17 (D + j) = nI (N + j)) ∧ s' 0 15 = nI (N + (b + L.length)) ∧ s' 0 20 = nI (D + (b + L.length)) ∧ (∃ F' W', s' 0 42 = nI F' ∧ s' 0 45 = nI W' ∧ (F ≤ F' ∧ F' ≤ F + 144 * (b + L.length)) ∧ (W ≤ W' ∧ W' ≤ W + 144 * (b + L.length)) ∧ ∀ j, j < b + L.length → nPd s' D F' W' (N + j) (xTake k (Q j) l)) ∧ rOnly (sCn x N D F W) s s') := by
  have x200 : x < 200 := by omega
  have hz : ∀ a y, ¬ (a = 13 ∧ y = x) → u2 s 13 x (nI k) a y = s a y := fun a y hn => u2_n hn
  unfold fX6_cutNode
  rw [wr13 x200, Option.bind_some]
  have hr1 : rRb (u2 s 13 x (nI k)) f0 l W := hr.on (S := fun a y => a = 13 ∧ y = x) (rOnly.u ⟨rfl, rfl⟩) (fun k' _ => ⟨by omega, by omega⟩) (fun k' _ => by omega) (Nat.le_refl _)
  have J0 : cKs (u2 s 13 x (nI k)) (u2 s 13 x (nI k)) x N D F W k l Q 0 := ⟨by rw [hz _ _ (by omega)]; exact e15, by rw [hz _ _ (by omega)]; exact e20, by rw [hz _ _ (by omega), h16]; exact nI_0.symm, u2_s, ⟨F, W, by rw [hz _ _ (by omega)]; exact e42, by rw [hz _ _ (by omega)]; exact e45, ⟨Nat.le_refl _, Nat.le_refl _⟩, ⟨Nat.le_refl _, Nat.le_refl _⟩, fun j z => absurd z (Nat.not_lt_zero _)⟩, fun j z => absurd z (Nat.not_lt_zero _), rOnly.rf⟩
  generalize es1 : u2 s 13 x (nI k) = s1 at *
  have o1 : rOnly (sCn x N D F W) s s1 := by rw [← es1]; exact rOnly.u (by omega)
  have g31 : s1 31 x = nI f0 := by rw [hz _ _ (by omega)]; exact h31
  have g32 : s1 32 x = nI l.length := by rw [hz _ _ (by omega)]; exact h32
  refine zS.b (R1 := fun q => q.1 = nI b ∧ cKs s1 q.2 x N D F W k l Q b ∧ (∀ v, q.2 40 v = s 40 v ∧ q.2 41 v = s 41 v) ∧ q.2 0 52 = s 0 52) ?_ (fun q hq => ?_)
  · rcases hb with ⟨k5, b1⟩ | ⟨k5, b0⟩
    · subst k5
      rw [if_pos (show nI 5 = (5 : Int32) from rfl)]
      refine zS.b (cKs_s (s0 := s1) (f0 := f0) (a2 := -3) ok hx hN (by omega) hF hW g31 g32 hf0 hr1 hk J0 (fun z => absurd z (by omega)) (fun z => absurd z (by omega)) (fun N' f W0 s' o' v hv => part_P0 (fun w hw => by rw [hz _ _ (by omega)]; exact h5 rfl w hw) s' o' v hv)) (fun q hq => ?_)
      obtain ⟨q1, q2⟩ := q
      obtain ⟨a1, a2, a3, a4, a5⟩ := hq
      dsimp only at a1 a2 a3 a4 a5 ⊢
      rw [a1, show (0 : Int32) = nI 0 from nI_0.symm, a2, Option.bind_some, nI_1]
      subst b1
      refine zS.s ⟨rfl, a3, fun v => ⟨?_, ?_⟩, ?_⟩
      · dsimp only; rw [u2_a (by decide), (a4 v).1]; exact hz _ _ (by omega)
      · dsimp only; rw [u2_a (by decide), (a4 v).2.1]; exact hz _ _ (by omega)
      · dsimp only; rw [u2_a (by decide), a5]; exact hz _ _ (by omega)
    · rw [if_neg (show ¬ nI k = (5 : Int32) from fun z => k5 ((nI_eq (b := 5) (by omega) (by omega)).mp z))]
      subst b0
      exact zS.s ⟨nI_0.symm, J0, fun v => ⟨hz _ _ (by omega), hz _ _ (by omega)⟩, hz _ _ (by omega)⟩
  · obtain ⟨q1, q2⟩ := q
    obtain ⟨rfl, a3, a4, a5⟩ := hq
    dsimp only at a3 a4 a5 ⊢
    refine zS.b (R1 := fun q => q.1 = nI (b + L.length) ∧ cKs s1 q.2 x N D F W k l Q (b + L.length)) (zS.gen (fun i (t : Zr) => (nI (b + i), nI i, t)) (fun i t => cKs s1 t x N D F W k l Q (b + i) ∧ (∀ v, t 40 v = s 40 v ∧ t 41 v = s 41 v) ∧ t 0 52 = s 0 52) 0 L.length (fun i t _ hi hJ => ?_) (fun t hJ => ?_) (Nat.zero_le _) (by omega) (x0 := q2) ⟨a3, a4, a5⟩) (fun q hq => ?_)
    · obtain ⟨c1, c2, c3⟩ := hJ
      obtain ⟨m1, m2, m3⟩ := h41 i hi
      dsimp only
      rw [if_neg (show ¬ t 0 52 ≤ nI i by rw [c3, h52]; exact nI_nle' (by omega) hi), rd41 (by omega), Option.bind_some, (c2 i).2, m1]
      refine zS.b (cKs_s (s0 := s1) (f0 := f0) (a2 := nI (L.getD i 0)) ok hx hN (by omega) hF hW g31 g32 hf0 hr1 hk c1 (fun z => h3 z i hi) (fun z v hv => by rw [(c2 v).1]; exact m3 v hv) (fun N' f W0 s' o' v hv => part_P1 m2 (fun w hw => by rw [(c2 w).1]; exact m3 w hw) s' o' v hv)) (fun q hq => ?_)
      obtain ⟨q1, q3⟩ := q
      obtain ⟨d1, d2, d3, d4, d5⟩ := hq
      dsimp only at d1 d2 d3 d4 d5 ⊢
      rw [d1, d2, Option.bind_some, nI_1, nI_1]
      refine zS.s (Or.inl ⟨u2 q3 46 (b + i) (nI (N + (b + i))), rfl, d3, fun v => ⟨?_, ?_⟩, ?_⟩)
      · rw [u2_a (by decide), (d4 v).1, (c2 v).1]
      · rw [u2_a (by decide), (d4 v).2.1, (c2 v).2]
      · rw [u2_a (by decide), d5, c3]
    · obtain ⟨c1, c2, c3⟩ := hJ
      dsimp only
      rw [if_pos (show t 0 52 ≤ nI L.length by rw [c3, h52]; exact nI_le (Nat.le_refl _) (by omega))]
      exact zS.s ⟨_, rfl, rfl, c1⟩
    · obtain ⟨q1, q3⟩ := q
      obtain ⟨rfl, c1⟩ := hq
      obtain ⟨j1, j2, j3, j4, ⟨F', W', k1, k2, k3, k4, k7⟩, j6, o⟩ := c1
      dsimp only at j1 j2 j3 j4 k1 k2 k7 j6 o ⊢
      rw [j2, wr15 x200, Option.bind_some]
      have hy : ∀ a y, ¬ (a = 15 ∧ y = x) → u2 q3 15 x (nI D) a y = q3 a y := fun a y hn => u2_n hn
      have o2 : rOnly (fun a y => a = 15 ∧ y = x) q3 (u2 q3 15 x (nI D)) := rOnly.u ⟨rfl, rfl⟩
      refine zS.b (rkids_eq (s := u2 q3 15 x (nI D)) (a := x) (D := D) (m := b + L.length) (kid := fun j => N + j) x200 (by omega) (by omega) (by rw [hy _ _ (by omega)]; exact j2) (by rw [hy _ _ (by omega)]; exact j3) (fun i hi => by rw [hy _ _ (by omega)]; exact j6 i hi) (by omega)) (fun s' hs' => ?_)
      obtain ⟨t1, t2, t3, t4⟩ := hs'
      refine zS.s ⟨⟨?_, ?_, t2, t3⟩, ?_, t1, ⟨F', W', ?_, ?_, k3, k4, fun j hj => ?_⟩, o1.tr (o.tr ((o2.mono (fun a k z => Or.inr (Or.inr (Or.inl ⟨Or.inr (Or.inl z.1), z.2⟩)))).tr (t4.mono (fun a k z => by rcases z with z | z | z <;> omega))))⟩
      · rw [t4 13 x (by omega), hy _ _ (by omega)]; exact j4
      · rw [t4 15 x (by omega)]; exact u2_s
      · rw [t4 0 15 (by omega), hy _ _ (by omega)]; exact j1
      · rw [t4 0 42 (by omega), hy _ _ (by omega)]; exact k1
      · rw [t4 0 45 (by omega), hy _ _ (by omega)]; exact k2
      · exact ((k7 j hj).on o2 ⟨by omega, by omega, by omega, by omega, by omega⟩ (fun k' _ => ⟨by omega, by omega⟩) (fun k' _ => by omega) (Nat.le_refl _) (Nat.le_refl _) (Nat.le_refl _)).on t4 ⟨by omega, by omega, by omega, by omega, by omega⟩ (fun k' _ => ⟨by omega, by omega⟩) (fun k' _ => by omega) (Nat.le_refl _) (Nat.le_refl _) (Nat.le_refl _)
