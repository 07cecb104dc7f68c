/-! found on the reference's side: the parts by who is near whom -/
theorem zS.mid {ρ : Type} {f : Int32 × Int32 × Zr → Option ((Int32 × Int32 × Zr) ⊕ ρ)} (J : Nat → Int32 → Zr → Prop) {P : ρ → Prop} (a N : Nat) {x0 : Int32} {s0 : Zr}
    (hf : ∀ k x s, a ≤ k → k < N → J k x s → zS (f (x, nI k, s)) (fun q => (∃ x' s', q = .inl (x', nI (k + 1), s') ∧ J (k + 1) x' s') ∨ ∃ r, q = .inr r ∧ P r))
    (hN : ∀ x s, J N x s → zS (f (x, nI N, s)) (fun q => ∃ r, q = .inr r ∧ P r)) (ha : a ≤ N) (hN' : N < 100000) (h0 : J a x0 s0) : zS (zloop f zFU (x0, nI a, s0)) P := by
  obtain ⟨r, e, p⟩ := zloop_inv (f := f) (fun (n : Nat) (s : Int32 × Int32 × Zr) => ∃ k, n = N - k ∧ a ≤ k ∧ k ≤ N ∧ s.2.1 = nI k ∧ J k s.1 s.2.2) P (by
    rintro n ⟨x, w, s⟩ ⟨k, hn, hk0, hk, rfl, hJ⟩
    dsimp only at hJ ⊢
    by_cases c : k = N
    · subst c
      obtain ⟨q, e1, r, e2, e3⟩ := hN x s hJ
      exact Or.inr ⟨r, by rw [e1, e2], e3⟩
    · obtain ⟨q, e1, ⟨x', s', e2, e3⟩ | ⟨r, e2, e3⟩⟩ := hf k x s hk0 (by omega) hJ
      · exact Or.inl ⟨_, N - (k + 1), by rw [e1, e2], by omega, k + 1, rfl, by omega, by omega, rfl, e3⟩
      · exact Or.inr ⟨r, by rw [e1, e2], e3⟩) (N - a) (x0, nI a, s0) zFU ⟨a, rfl, Nat.le_refl _, ha, rfl, h0⟩ (by rw [zFU_v]; omega)
  exact ⟨r, e, p⟩
theorem cN_lt {P Q : Nat → Prop} (h : ∀ v, P v → Q v) {v : Nat} (hv : v < 12) (hp : ¬ P v) (hq : Q v) : cN P < cN Q := by
  have d : dsj [P, fun w => w = v] := List.pairwise_cons.mpr ⟨fun R hR w h1 h2 => by
    rw [List.mem_singleton.mp hR] at h2
    exact hp (h2 ▸ h1), List.pairwise_singleton _ _⟩
  have := dsj_sum (S := Q) _ d (fun R hR w hw => by
    rcases List.mem_cons.mp hR with rfl | hR
    · exact h w hw
    · rw [List.mem_singleton.mp hR] at hw
      have hw : w = v := hw
      exact hw ▸ hq)
  have p1 : 1 ≤ cN (fun w => w = v) := cN_pos hv rfl
  have e : gS cN [P, fun w => w = v] = cN P + (cN (fun w => w = v) + 0) := rfl
  omega
theorem n3_nI {k : Nat} (h : k < 12) : ¬ nI k = (-3 : Int32) := by
  have : ∀ k, k < 12 → ¬ nI k = (-3 : Int32) := by decide
  exact this k h
section GATH
variable {A0 A : Nat → Nat → Prop} {S : Nat → Prop}
def LB (A : Nat → Nat → Prop) (S : Nat → Prop) (x : Int32) (k v : Nat) : Prop := (∃ r, r < k ∧ r < 12 ∧ isRt A S r ∧ CN A S r v ∧ x = nI r) ∨ ((∀ r, r < k → isRt A S r → ¬ CN A S r v) ∧ x = -3)
def rL (A : Nat → Nat → Prop) (S : Nat → Prop) (s : Zr) : Prop := ∀ v, v < 12 → (S v → ∃ r, r < 12 ∧ isRt A S r ∧ CN A S r v ∧ s 40 v = nI r) ∧ (¬ S v → s 40 v = -3)
/-- who is labelled k so far -/
def LD (A : Nat → Nat → Prop) (S : Nat → Prop) (s : Zr) (k : Nat) (D : Nat → Prop) : Prop := ∀ v, v < 12 → (D v ∧ CN A S k v ∧ s 40 v = nI k) ∨ (¬ D v ∧ LB A S (s 40 v) k v)
theorem LB_3 {x : Int32} {k v : Nat} (h : LB A S x k v) : x = -3 ↔ ∀ r, r < k → isRt A S r → ¬ CN A S r v := by
  rcases h with ⟨r, h1, h2, h3, h4, h5⟩ | ⟨h1, h2⟩
  · exact ⟨fun z => (n3_nI h2 (h5.symm.trans z)).elim, fun z => (z r h1 h3 h4).elim⟩
  · exact ⟨fun _ => h1, fun _ => h2⟩
theorem LD_k {s : Zr} {k v : Nat} {D : Nat → Prop} (hk : k < 12) (h : LD A S s k D) (hv : v < 12) : s 40 v = nI k ↔ D v := by
  rcases h v hv with ⟨h1, h2, h3⟩ | ⟨h1, ⟨r, h2, h3, h4, h5, h6⟩ | ⟨h2, h3⟩⟩
  · exact ⟨fun _ => h1, fun _ => h3⟩
  · refine ⟨fun z => ?_, fun z => (h1 z).elim⟩
    rw [h6] at z
    have := (nI_eq (by omega) (by omega)).mp z
    omega
  · refine ⟨fun z => ?_, fun z => (h1 z).elim⟩
    rw [h3] at z
    exact (n3_nI hk z.symm).elim
theorem LD_put {s : Zr} {k v : Nat} {D : Nat → Prop} (h : LD A S s k D) (c : CN A S k v) : LD A S (u2 s 40 v (nI k)) k (fun w => D w ∨ w = v) := fun w hw => by
  by_cases e : w = v
  · subst e
    exact Or.inl ⟨Or.inr rfl, c, u2_s⟩
  · rw [u2_n (fun z => e z.2)]
    rcases h w hw with ⟨h1, h2, h3⟩ | ⟨h1, h2⟩
    · exact Or.inl ⟨Or.inl h1, h2, h3⟩
    · exact Or.inr ⟨fun z => z.elim h1 e, h2⟩
/-- a part that is whole -/
theorem LD_end (hA : ∀ a b, A a b → A b a) (hS : ∀ v, S v → v < 12) {s : Zr} {k : Nat} {D : Nat → Prop} (hk : k < 12) (rk : isRt A S k) (h : LD A S s k D) (dk : D k) (cl : ∀ a b, a < 12 → b < 12 → D a → S b → A a b → D b) : ∀ v, v < 12 → LB A S (s 40 v) (k + 1) v := fun v hv => by
  rcases h v hv with ⟨h1, h2, h3⟩ | ⟨h1, ⟨r, h2, h3⟩ | ⟨h2, h3⟩⟩
  · exact Or.inl ⟨k, by omega, hk, rk, h2, h3⟩
  · exact Or.inl ⟨r, by omega, h3⟩
  · refine Or.inr ⟨fun r hr ir c => ?_, h3⟩
    by_cases e : r = k
    · subst e
      have := c.2 (fun w => w < 12 ∧ D w) ⟨hk, dk⟩ (fun a b x sb ab => ⟨hS b sb, cl a b x.1 (hS b sb) x.2 sb ab⟩)
      exact h1 this.2
    · exact h2 r (by omega) ir c
theorem LB_nx {x : Int32} {k v : Nat} (nk : ¬ isRt A S k ∨ ¬ CN A S k v) (h : LB A S x k v) : LB A S x (k + 1) v := by
  rcases h with ⟨r, h2, h3⟩ | ⟨h2, h3⟩
  · exact Or.inl ⟨r, by omega, h3⟩
  · refine Or.inr ⟨fun r hr ir c => ?_, h3⟩
    by_cases e : r = k
    · subst e
      exact nk.elim (fun z => z ir) (fun z => z c)
    · exact h2 r (by omega) ir c
theorem rL_of {s : Zr} (h : ∀ v, v < 12 → LB A S (s 40 v) 12 v) : rL A S s := fun v hv => by
  rcases h v hv with ⟨r, h1, h2, h3, h4, h5⟩ | ⟨h1, h2⟩
  · exact ⟨fun _ => ⟨r, h2, h3, h4, h5⟩, fun n => (n h4.s2).elim⟩
  · refine ⟨fun sv => ?_, fun _ => h2⟩
    obtain ⟨r, r1, r2, r3⟩ := rt_ex (A := A) sv
    exact (h1 r (by omega) r2 r3).elim
abbrev sGt (a k : Nat) : Prop := a = 40 ∨ a = 41 ∨ (a = 0 ∧ k = 52)
end GATH
section GATH2
variable {A0 A : Nat → Nat → Prop} {S : Nat → Prop}
/-- one look at all pairs -/
theorem rsweep {s0 : Zr} {b k : Nat} {D0 : Nat → Prop} (hb : b = 37 ∨ b = 45) (hSb : ∀ v, v < 12 → isB (s0 b v) (S v)) (h42 : T2 s0 42 A0) (hA0 : ∀ u v, A u v ↔ A0 u v ∨ A0 v u) (hA : ∀ a b, A a b → A b a) (hS : ∀ v, S v → v < 12) (hk : k < 12) (rk : isRt A S k) (l0 : LD A S s0 k D0) (d0 : D0 k) (D0S : ∀ v, D0 v → v < 12) :
    zS (zloop (fun ((v23, v24, s25) : Int32 × Int32 × Zr) =>
                (if (12 : Int32) ≤ v24 then
                  some (.inr (v23, s25))
                else
                  (zloop (fun ((v30, v31, s32) : Int32 × Int32 × Zr) =>
                    (if (12 : Int32) ≤ v31 then
                      some (.inr (v30, s32))
                    else
                      (rdI s32 40 v24).bind fun x37 =>
                      (if x37 = nI k then
                        (rdZ s32 b v31).bind fun x41 =>
                        if x41 = 0 then
                          some (v30, s32)
                        else
                          (rdI s32 40 v31).bind fun x42 =>
                          if x42 = (-3 : Int32) then
                            (rdZ s32 42 (((12 : Int32) * v24) + v31)).bind fun x43 =>
                            if x43 = 0 then
                              (rdZ s32 42 (((12 : Int32) * v31) + v24)).bind fun x44 =>
                              if x44 = 0 then
                                some (v30, s32)
                              else
                                (wrI s32 40 v31 (nI k)).bind fun s45 =>
                                some ((1 : Int32), s45)
                            else
                              (wrI s32 40 v31 (nI k)).bind fun s46 =>
                              some ((1 : Int32), s46)
                          else
                            some (v30, s32)
                      else
                        some (v30, s32)).bind fun ((v38, s39) : Int32 × Zr) =>
                      some (.inl (v38, v31 + (1 : Int32), s39)) : Option ((Int32 × Int32 × Zr) ⊕ (Int32 × Zr)))) zFU (v23, (0 : Int32), s25)).bind fun ((w33, s34) : Int32 × Zr) =>
                  some (.inl (w33, v24 + (1 : Int32), s34)) : Option ((Int32 × Int32 × Zr) ⊕ (Int32 × Zr)))) zFU ((0 : Int32), (0 : Int32), s0))
      (fun q => ∃ D, LD A S q.2 k D ∧ D k ∧ (∀ v, D v → v < 12) ∧ rOnly (oA 40) s0 q.2 ∧ ((q.1 = 0 ∧ ∀ a b, a < 12 → b < 12 → D a → S b → A a b → D b) ∨ (q.1 = 1 ∧ cN D0 < cN D))) := by
  have b45 : b ≠ 40 := by omega
  have rdb : ∀ (s : Zr) (v : Nat), v < 12 → rdZ s b (nI v) = some (s b v) := fun s v hv => by
    rcases hb with rfl | rfl
    · exact rd37 hv
    · exact rd45 hv
  let J : Nat → Int32 → Zr → Prop := fun m x s => ∃ D, LD A S s k D ∧ D k ∧ (∀ v, D v → v < 12) ∧ (∀ v, D0 v → D v) ∧ rOnly (oA 40) s0 s ∧ ((x = 0 ∧ (∀ v, D v → D0 v) ∧ ∀ a b, 12 * a + b < m → a < 12 → b < 12 → D0 a → S b → A a b → D0 b) ∨ (x = 1 ∧ cN D0 < cN D))
  have J0 : J 0 0 s0 := ⟨D0, l0, d0, D0S, fun _ h => h, rOnly.rf, Or.inl ⟨rfl, fun _ h => h, fun _ _ z => absurd z (Nat.not_lt_zero _)⟩⟩
  -- nothing to do for a pair
  have skip : ∀ i j x s, i < 12 → j < 12 → J (12 * i + j) x s → (∀ D, LD A S s k D → (∀ v, D v → D0 v) → (∀ v, D0 v → D v) → D0 i → S j → A i j → D0 j) → J (12 * i + (j + 1)) x s := fun i j x s hi hj h hn => by
    obtain ⟨D, l, dk, ds, dd, o, h⟩ := h
    refine ⟨D, l, dk, ds, dd, o, h.elim (fun ⟨x0, dl, c⟩ => Or.inl ⟨x0, dl, fun a b hab ha hb da sb aab => ?_⟩) Or.inr⟩
    by_cases e : 12 * a + b = 12 * i + j
    · obtain ⟨rfl, rfl⟩ := ix_12 hb hj e
      exact hn D l dl dd da sb aab
    · exact c a b (by omega) ha hb da sb aab
  have put : ∀ i j x s, i < 12 → j < 12 → J (12 * i + j) x s → s 40 i = nI k → S j → s 40 j = -3 → A i j → J (12 * i + (j + 1)) 1 (u2 s 40 j (nI k)) := fun i j x s hi hj h ei sj ej aij => by
    obtain ⟨D, l, dk, ds, dd, o, h⟩ := h
    have di : D i := (LD_k hk l hi).mp ei
    have ci : CN A S k i := by
      rcases l i hi with h | h
      · exact h.2.1
      · exact (h.1 di).elim
    have nj : ¬ D j := fun z => n3_nI hk (((LD_k hk l hj).mpr z).symm.trans ej)
    refine ⟨fun w => D w ∨ w = j, LD_put l (ci.st sj aij), Or.inl dk, fun v hv => hv.elim (ds v) (fun z => z ▸ hj), fun v hv => Or.inl (dd v hv), o.tr (rOnly.u rfl), Or.inr ⟨rfl, ?_⟩⟩
    have l1 : cN D < cN (fun w => D w ∨ w = j) := cN_lt (fun v hv => Or.inl hv) hj nj (Or.inr rfl)
    have l2 : cN D0 ≤ cN D := cN_le dd
    omega
  refine zS.m (R := fun q => J (12 * 12) q.1 q.2) (zS.mid (fun i x s => J (12 * i) x s) 0 12 (fun i x s _ hi hJ => ?_) (fun x s hJ => ?_) (Nat.zero_le _) (by omega) J0) (fun q hq => ?_)
  · dsimp only
    rw [if_neg (k12 hi)]
    refine zS.b (R1 := fun q : Int32 × Zr => J (12 * (i + 1)) q.1 q.2) (zS.mid (fun j x s => J (12 * i + j) x s) 0 12 (fun j x s _ hj hJ => ?_) (fun x s hJ => ?_) (Nat.zero_le _) (by omega) hJ) (fun q hq => zS.s (Or.inl ⟨_, _, by rw [nI_1], hq⟩))
    · dsimp only
      rw [if_neg (k12 hj), rd40 hi, Option.bind_some]
      refine zS.b (R1 := fun q : Int32 × Zr => J (12 * i + (j + 1)) q.1 q.2) ?_ (fun q hq => zS.s (Or.inl ⟨_, _, by rw [nI_1], hq⟩))
      obtain ⟨D, l, dk, ds, dd, o, h⟩ := id hJ
      have sj := hSb j hj
      have aij := h42 i j hi hj
      have aji := h42 j i hj hi
      by_cases c1 : s 40 i = nI k
      · rw [if_pos c1, rdb _ _ hj, Option.bind_some, o b _ b45]
        by_cases c2 : s0 b j = 0
        · rw [if_pos c2]
          exact zS.s (skip i j x s hi hj hJ (fun _ _ _ _ _ z _ => (sj.n c2 z).elim))
        · rw [if_neg c2, rd40 hj, Option.bind_some]
          by_cases c3 : s 40 j = -3
          · rw [if_pos c3, m12, m12, rd42 (by omega), Option.bind_some, o 42 _ (by omega)]
            by_cases c4 : s0 42 (12 * i + j) = 0
            · rw [if_pos c4, rd42 (by omega), Option.bind_some, o 42 _ (by omega)]
              by_cases c5 : s0 42 (12 * j + i) = 0
              · rw [if_pos c5]
                exact zS.s (skip i j x s hi hj hJ (fun _ _ _ _ _ _ z => (((hA0 i j).mp z).elim (aij.n c4) (aji.n c5)).elim))
              · rw [if_neg c5, wr40 hj, Option.bind_some]
                exact zS.s (put i j x s hi hj hJ c1 (sj.p c2) c3 ((hA0 i j).mpr (Or.inr (aji.p c5))))
            · rw [if_neg c4, wr40 hj, Option.bind_some]
              exact zS.s (put i j x s hi hj hJ c1 (sj.p c2) c3 ((hA0 i j).mpr (Or.inl (aij.p c4))))
          · rw [if_neg c3]
            refine zS.s (skip i j x s hi hj hJ (fun D' l' dl' dd' di sj' aij' => ?_))
            have ci : CN A S k i := by
              rcases l' i hi with h | h
              · exact h.2.1
              · exact (h.1 (dd' i di)).elim
            rcases l' j hj with h | ⟨h1, h2⟩
            · exact dl' j h.1
            · rcases h2 with ⟨r, h3, h4, h5, h6, h7⟩ | ⟨h3, h4⟩
              · have := rt_one hA h5 rk h6 (ci.st sj' aij')
                omega
              · exact (c3 h4).elim
      · rw [if_neg c1]
        exact zS.s (skip i j x s hi hj hJ (fun D' l' dl' dd' di _ _ => (c1 ((LD_k hk l' hi).mpr (dd' i di))).elim))
    · dsimp only
      rw [if_pos e12]
      exact zS.s ⟨_, rfl, hJ⟩
  · dsimp only
    rw [if_pos e12]
    exact zS.s ⟨_, rfl, hJ⟩
  · obtain ⟨D, l, dk, ds, dd, o, h⟩ := hq
    refine ⟨D, l, dk, ds, o, h.elim (fun ⟨x0, dl, c⟩ => Or.inl ⟨x0, fun a b ha hb da sb ab => dd b (c a b (by omega) ha hb (dl a da) sb ab)⟩) Or.inr⟩
end GATH2
section GATH3
variable {A0 A : Nat → Nat → Prop} {S : Nat → Prop}
/-- the list of the parts -/
theorem rlist_eq {s : Zr} {Q : Nat → Prop} (hQ : ∀ v, v < 12 → (s 40 v = nI v ↔ Q v)) : zS (fX6_listParts s) (fun s' => s' 0 52 = nI (nmL Q).length ∧ (∀ i, i < (nmL Q).length → s' 41 i = nI ((nmL Q).getD i 0)) ∧ rOnly (fun a k => a = 41 ∨ (a = 0 ∧ k = 52)) s s') := by
  unfold fX6_listParts
  refine zS.e rfl ?_
  let F : Nat → List Nat := fun k => (List.range k).filter (fun v => cB (Q v))
  have Fl : ∀ k, (F k).length ≤ k := fun k => by
    have := List.length_filter_le (fun v => cB (Q v)) (List.range k)
    rw [List.length_range] at this
    exact this
  refine zS.b (R1 := fun s' => s' 0 52 = nI (F 12).length ∧ (∀ i, i < (F 12).length → s' 41 i = nI ((F 12).getD i 0)) ∧ rOnly (fun a k => a = 41 ∨ (a = 0 ∧ k = 52)) s s') (zS.up (fun k s' => s' 0 52 = nI (F k).length ∧ (∀ i, i < (F k).length → s' 41 i = nI ((F k).getD i 0)) ∧ rOnly (fun a k => a = 41 ∨ (a = 0 ∧ k = 52)) s s') 0 12 (fun k s' _ hk hJ => ?_) (fun s' hJ => ?_) (Nat.zero_le _) (by omega) ⟨u2_s, fun i hi => absurd hi (Nat.not_lt_zero _), rOnly.u (Or.inr ⟨rfl, rfl⟩)⟩) (fun r hr => zS.s hr)
  · obtain ⟨h1, h2, h3⟩ := hJ
    have fk := Fl k
    have eF : F (k + 1) = F k ++ (if cB (Q k) = true then [k] else []) := by
      show (List.range (k + 1)).filter _ = _
      rw [List.range_succ, List.filter_append]
      congr 1
      by_cases c : cB (Q k) = true
      · rw [if_pos c, List.filter_cons_of_pos (p := fun v => cB (Q v)) c]; rfl
      · rw [if_neg c, List.filter_cons_of_neg (p := fun v => cB (Q v)) c]; rfl
    dsimp only
    rw [if_neg (k12 hk), rd40 hk, Option.bind_some, h3 40 _ (by omega)]
    by_cases c : s 40 k = nI k
    · rw [if_pos (cB_t.mpr ((hQ k hk).mp c))] at eF
      rw [if_pos c, h1, wr41 (by omega), Option.bind_some, Option.bind_some]
      refine zS.e rfl (zS.s ⟨_, by rw [nI_1], ?_, fun i hi => ?_, (h3.tr (rOnly.u (Or.inl rfl))).tr (rOnly.u (Or.inr ⟨rfl, rfl⟩))⟩)
      · rw [u2_s, u2_a (by decide), h1, nI_1, eF, List.length_append]; rfl
      · rw [u2_a (by decide)]
        rw [eF, List.length_append] at hi
        have hi : i < (F k).length + 1 := hi
        by_cases e : i = (F k).length
        · subst e
          rw [u2_s, eF, List.getD_eq_getElem?_getD, List.getElem?_append_right (Nat.le_refl _), Nat.sub_self]
          rfl
        · rw [u2_n (fun z => e z.2), h2 i (by omega), eF, List.getD_eq_getElem?_getD, List.getD_eq_getElem?_getD, List.getElem?_append_left (by omega)]
    · rw [if_neg (fun z => c ((hQ k hk).mpr (cB_t.mp z))), List.append_nil] at eF
      rw [if_neg c, Option.bind_some]
      refine zS.s ⟨_, by rw [nI_1], by rw [eF]; exact h1, by rw [eF]; exact h2, h3⟩
  · dsimp only
    rw [if_pos e12]
    exact zS.s ⟨_, rfl, hJ⟩
theorem rL_rt (hA : ∀ a b, A a b → A b a) {s : Zr} (h : rL A S s) {v : Nat} (hv : v < 12) : s 40 v = nI v ↔ isRt A S v := by
  by_cases c : S v
  · obtain ⟨r, r1, r2, r3, r4⟩ := (h v hv).1 c
    rw [r4]
    constructor
    · intro e
      have := (nI_eq (by omega) (by omega)).mp e
      subst this; exact r2
    · intro i
      rw [rt_one hA r2 i r3 (CN.rf c)]
  · rw [(h v hv).2 c]
    exact ⟨fun z => (n3_nI hv z.symm).elim, fun z => (c z.1).elim⟩
def rPs (A : Nat → Nat → Prop) (S : Nat → Prop) (s : Zr) : Prop := rL A S s ∧ s 0 52 = nI (rtL A S).length ∧ ∀ i, i < (rtL A S).length → s 41 i = nI ((rtL A S).getD i 0)
theorem rgather_eq {s : Zr} {b : Nat} (hb : b = 37 ∨ b = 45) (hSb : ∀ v, v < 12 → isB (s b v) (S v)) (h42 : T2 s 42 A0) (hA0 : ∀ u v, A u v ↔ A0 u v ∨ A0 v u) (hS : ∀ v, S v → v < 12) :
    zS (fX6_gatherParts s b) (fun s' => rPs A S s' ∧ rOnly sGt s s') := by
  have hA : ∀ a b, A a b → A b a := fun u v h => (hA0 v u).mpr ((hA0 u v).mp h).symm
  have b45 : b ≠ 40 := by omega
  have rdb : ∀ (s : Zr) (v : Nat), v < 12 → rdZ s b (nI v) = some (s b v) := fun s v hv => by
    rcases hb with rfl | rfl
    · exact rd37 hv
    · exact rd45 hv
  unfold fX6_gatherParts
  refine zS.e rfl ?_
  refine zS.b (R1 := fun s' => (∀ v, v < 12 → s' 40 v = -3) ∧ rOnly sGt s s') (zS.up (fun k s' => (∀ v, v < k → s' 40 v = -3) ∧ rOnly sGt s s') 0 12 (fun k s' _ hk hJ => ?_) (fun s' hJ => ?_) (Nat.zero_le _) (by omega) ⟨fun _ z => absurd z (Nat.not_lt_zero _), rOnly.u (by omega)⟩) (fun s1 ⟨b1, b2⟩ => ?_)
  · dsimp only
    rw [if_neg (k12 hk), wr40 hk, Option.bind_some]
    refine zS.s ⟨_, by rw [nI_1], fun v hv => ?_, hJ.2.tr (rOnly.u (by omega))⟩
    by_cases c : v = k
    · subst c; exact u2_s
    · rw [u2_n (fun z => c z.2)]; exact hJ.1 v (by omega)
  · dsimp only
    rw [if_pos e12]
    exact zS.s ⟨_, rfl, hJ⟩
  refine zS.b (R1 := fun s' => rL A S s' ∧ rOnly sGt s s') (zS.up (fun k s' => (∀ v, v < 12 → LB A S (s' 40 v) k v) ∧ rOnly sGt s s') 0 12 (fun k s' _ hk hJ => ?_) (fun s' hJ => ?_) (Nat.zero_le _) (by omega) ⟨fun v hv => Or.inr ⟨fun r z => absurd z (Nat.not_lt_zero _), b1 v hv⟩, b2⟩) (fun s2 ⟨d1, d2⟩ => ?_)
  · obtain ⟨lb, o⟩ := hJ
    dsimp only
    rw [if_neg (k12 hk), rdb _ _ hk, Option.bind_some, o b _ (by omega)]
    have sk := hSb k hk
    by_cases c1 : s b k = 0
    · rw [if_pos c1, Option.bind_some]
      exact zS.s ⟨_, by rw [nI_1], fun v hv => LB_nx (Or.inl (fun z => sk.n c1 z.1)) (lb v hv), o⟩
    · rw [if_neg c1, rd40 hk, Option.bind_some]
      by_cases c2 : s' 40 k = -3
      · have rk : isRt A S k := ⟨sk.p c1, fun u hu c => by
          obtain ⟨r, r1, r2, r3⟩ := rt_ex (A := A) c.1
          exact (LB_3 (lb k hk)).mp c2 r (by omega) r2 (r3.tr c)⟩
        rw [if_pos c2, wr40 hk, Option.bind_some]
        have l0 : LD A S (u2 s' 40 k (nI k)) k (fun w => False ∨ w = k) := LD_put (D := fun _ => False) (fun v hv => Or.inr ⟨id, lb v hv⟩) (CN.rf rk.1)
        obtain ⟨s3, e3, D, l3, dk, ds, o3, cl⟩ := zloop_inv (f := fun ((v18, s19) : Int32 × Zr) =>
            (if v18 = 0 then
              some (.inr s19)
            else
              (zloop (fun ((v23, v24, s25) : Int32 × Int32 × Zr) =>
                (if (12 : Int32) ≤ v24 then
                  some (.inr (v23, s25))
                else
                  (zloop (fun ((v30, v31, s32) : Int32 × Int32 × Zr) =>
                    (if (12 : Int32) ≤ v31 then
                      some (.inr (v30, s32))
                    else
                      (rdI s32 40 v24).bind fun x37 =>
                      (if x37 = nI k then
                        (rdZ s32 b v31).bind fun x41 =>
                        if x41 = 0 then
                          some (v30, s32)
                        else
                          (rdI s32 40 v31).bind fun x42 =>
                          if x42 = (-3 : Int32) then
                            (rdZ s32 42 (((12 : Int32) * v24) + v31)).bind fun x43 =>
                            if x43 = 0 then
                              (rdZ s32 42 (((12 : Int32) * v31) + v24)).bind fun x44 =>
                              if x44 = 0 then
                                some (v30, s32)
                              else
                                (wrI s32 40 v31 (nI k)).bind fun s45 =>
                                some ((1 : Int32), s45)
                            else
                              (wrI s32 40 v31 (nI k)).bind fun s46 =>
                              some ((1 : Int32), s46)
                          else
                            some (v30, s32)
                      else
                        some (v30, s32)).bind fun ((v38, s39) : Int32 × Zr) =>
                      some (.inl (v38, v31 + (1 : Int32), s39)) : Option ((Int32 × Int32 × Zr) ⊕ (Int32 × Zr)))) zFU (v23, (0 : Int32), s25)).bind fun ((w33, s34) : Int32 × Zr) =>
                  some (.inl (w33, v24 + (1 : Int32), s34)) : Option ((Int32 × Int32 × Zr) ⊕ (Int32 × Zr)))) zFU ((0 : Int32), (0 : Int32), s19)).bind fun ((w26, s27) : Int32 × Zr) =>
              some (.inl (w26, s27)) : Option ((Int32 × Zr) ⊕ Zr)))
          (fun (n : Nat) (q : Int32 × Zr) => ∃ D, LD A S q.2 k D ∧ D k ∧ (∀ v, D v → v < 12) ∧ rOnly sGt s q.2 ∧ ((q.1 = 1 ∧ n + cN D = 13) ∨ (q.1 = 0 ∧ n = 0 ∧ ∀ a b, a < 12 → b < 12 → D a → S b → A a b → D b)))
          (fun s3 => ∃ D, LD A S s3 k D ∧ D k ∧ (∀ v, D v → v < 12) ∧ rOnly sGt s s3 ∧ ∀ a b, a < 12 → b < 12 → D a → S b → A a b → D b) (by
            rintro n ⟨x, s3⟩ ⟨D, l3, dk, ds, o3, h⟩
            dsimp only at l3 o3 h
            rcases h with ⟨rfl, hn⟩ | ⟨rfl, hn, cl⟩
            · obtain ⟨⟨x4, s4⟩, e4, D', l4, dk4, ds4, o4, h4⟩ := rsweep hb (fun v hv => by rw [o3 b v (by omega)]; exact hSb v hv) (T2.only o3 h42 (fun k => by omega)) hA0 hA hS hk rk l3 dk ds
              have c12 := cN_12 D
              have c12' := cN_12 D'
              dsimp only at l4 o4 h4
              refine Or.inl ⟨(x4, s4), if x4 = 0 then 0 else 13 - cN D', ?_, ?_, D', l4, dk4, ds4, o3.tr (o4.mono (fun a k z => Or.inl z)), ?_⟩
              · show (if (1 : Int32) = 0 then _ else _) = _
                rw [if_neg (by decide), e4, Option.bind_some]
              · rcases h4 with ⟨rfl, -⟩ | ⟨rfl, h4⟩
                · rw [if_pos rfl]; omega
                · rw [if_neg (by decide)]; omega
              · rcases h4 with ⟨rfl, h4⟩ | ⟨rfl, h4⟩
                · exact Or.inr ⟨rfl, if_pos rfl, h4⟩
                · refine Or.inl ⟨rfl, ?_⟩
                  rw [if_neg (by decide)]; omega
            · refine Or.inr ⟨s3, ?_, D, l3, dk, ds, o3, cl⟩
              show (if (0 : Int32) = 0 then _ else _) = _
              rw [if_pos rfl]) (13 - cN (fun w => False ∨ w = k)) ((1 : Int32), u2 s' 40 k (nI k)) zFU ⟨_, l0, Or.inr rfl, fun v hv => hv.elim False.elim (fun z => z ▸ hk), o.tr (rOnly.u (Or.inl rfl)), Or.inl ⟨rfl, by have := cN_12 (fun w => False ∨ w = k); omega⟩⟩ (by rw [zFU_v]; omega)
        refine zS.b (R1 := fun s' => (∀ v, v < 12 → LB A S (s' 40 v) (k + 1) v) ∧ rOnly sGt s s') (zS.e e3 (zS.s ⟨LD_end hA hS hk rk l3 dk cl, o3⟩)) (fun r hr => zS.s ⟨_, by rw [nI_1], hr⟩)
      · rw [if_neg c2, Option.bind_some]
        refine zS.s ⟨_, by rw [nI_1], fun v hv => LB_nx (Or.inl (fun z => ?_)) (lb v hv), o⟩
        exact c2 ((LB_3 (lb k hk)).mpr (fun r hr ir c => z.2 r hr c))
  · dsimp only
    rw [if_pos e12]
    exact zS.s ⟨_, rfl, rL_of hJ.1, hJ.2⟩
  · have e := rlist_eq (s := s2) (Q := isRt A S) (fun v hv => rL_rt hA d1 hv)
    refine zS.b e (fun s3 ⟨f1, f2, f3⟩ => zS.s ⟨⟨fun v hv => by rw [f3 40 v (by omega)]; exact d1 v hv, f1, f2⟩, d2.tr (f3.mono (fun a k z => by omega))⟩)
end GATH3
