/-! a tree as the class's heap holds it: v the node's place, w its parts' array, l the nodes' places in the order in which they are entered -/
def zNd (P : Nat → Prop) (h : Zh) (v w : Nat) (t : Tr) : Prop := (P v ∧ v < zn h ∧ zk h v = 4 ∧ zi h v 0 = nI (tKd (tLab t)) ∧ zi h v 1 = tNm (tLab t) ∧ zp h v 2 = some w ∧ zi h v 3 = nI (tSz t) ∧ zi h v 4 = nI (tFw t)) ∧ P w ∧ w < zn h ∧ zk h w = 103 ∧ zl h w = tLen t
def zFo (P : Nat → Prop) (h : Zh) : Tr → Nat → List Nat → Prop
  | .var _, _, l => l = []
  | .op t k, w, l => ∃ l1 l2 u x, l = l1 ++ (l2 ++ [u]) ∧ zFo P h t w l1 ∧ zp h w (tLen t) = some u ∧ zNd P h u x k ∧ zFo P h k x l2
/-- what trees need to stay -/
def zSm (P : Nat → Prop) (h h' : Zh) : Prop := ∀ u, P u → u < zn h → u < zn h' ∧ zk h' u = zk h u ∧ zl h' u = zl h u ∧ (zk h u = 4 → (∀ k, k < 5 → zi h' u k = zi h u k) ∧ zp h' u 2 = zp h u 2) ∧ (zk h u = 103 → zp h' u = zp h u)
theorem zNd.on {P : Nat → Prop} {h h' : Zh} {v w : Nat} {t : Tr} (s : zSm P h h') (n : zNd P h v w t) : zNd P h' v w t := by
  obtain ⟨⟨a1, a2, a3, a4, a5, a6, a7, a8⟩, b1, b2, b3, b4⟩ := n
  obtain ⟨c1, c2, c3, c4, -⟩ := s v a1 a2
  obtain ⟨d1, d2, d3, -, -⟩ := s w b1 b2
  obtain ⟨c5, c6⟩ := c4 a3
  exact ⟨⟨a1, c1, c2.trans a3, (c5 0 (by omega)).trans a4, (c5 1 (by omega)).trans a5, c6.trans a6, (c5 3 (by omega)).trans a7, (c5 4 (by omega)).trans a8⟩, b1, d1, d2.trans b3, d3.trans b4⟩
theorem zNd.arr {P : Nat → Prop} {h h' : Zh} {v w : Nat} {t : Tr} (s : zSm P h h') (n : zNd P h v w t) : zp h' w = zp h w := (s w n.2.1 n.2.2.1).2.2.2.2 n.2.2.2.1
theorem zFo.on {P : Nat → Prop} {h h' : Zh} (s : zSm P h h') : ∀ (t : Tr) (w : Nat) (l : List Nat), zp h' w = zp h w → zFo P h t w l → zFo P h' t w l
  | .var _, _, _, _, f => f
  | .op t k, w, l, e, f => by
    obtain ⟨l1, l2, u, x, f1, f2, f3, f4, f5⟩ := f
    exact ⟨l1, l2, u, x, f1, zFo.on s t w l1 e f2, by rw [e]; exact f3, f4.on s, zFo.on s k x l2 (f4.arr s) f5⟩
theorem zNd.mono {P Q : Nat → Prop} (hPQ : ∀ u, P u → Q u) {h : Zh} {v w : Nat} {t : Tr} (n : zNd P h v w t) : zNd Q h v w t := ⟨⟨hPQ _ n.1.1, n.1.2⟩, hPQ _ n.2.1, n.2.2⟩
theorem zFo.mono {P Q : Nat → Prop} (hPQ : ∀ u, P u → Q u) {h : Zh} : ∀ (t : Tr) (w : Nat) (l : List Nat), zFo P h t w l → zFo Q h t w l
  | .var _, _, _, f => f
  | .op t k, w, l, f => by
    obtain ⟨l1, l2, u, x, f1, f2, f3, f4, f5⟩ := f
    exact ⟨l1, l2, u, x, f1, zFo.mono hPQ t w l1 f2, f3, f4.mono hPQ, zFo.mono hPQ k x l2 f5⟩
theorem zFo.kid {P : Nat → Prop} {h : Zh} : ∀ (t : Tr) (w : Nat) (l : List Nat), zFo P h t w l → ∀ j, j < tLen t → ∃ u x l', zp h w j = some u ∧ zNd P h u x (tKid t j) ∧ zFo P h (tKid t j) x l'
  | .var _, _, _, _, _, h => absurd h (Nat.not_lt_zero _)
  | .op t k, w, l, f, j, h => by
    have h' : j < tLen t + 1 := h
    obtain ⟨l1, l2, u, x, f1, f2, f3, f4, f5⟩ := f
    by_cases e : j = tLen t
    · subst e
      refine ⟨u, x, l2, f3, ?_⟩
      show zNd P _ u x (if tLen t = tLen t then k else _) ∧ zFo P _ (if tLen t = tLen t then k else _) x l2
      rw [if_pos rfl]
      exact ⟨f4, f5⟩
    · obtain ⟨u', x', l', g1, g2⟩ := zFo.kid t w l1 f2 j (by omega)
      refine ⟨u', x', l', g1, ?_⟩
      show zNd P _ u' x' (if j = tLen t then k else tKid t j) ∧ zFo P _ (if j = tLen t then k else tKid t j) x' l'
      rw [if_neg e]
      exact g2
/-- a loop over parts: a number, counted up -/
theorem rsum_eq {f : Int32 × Int32 → Option ((Int32 × Int32) ⊕ Int32)} (g : Nat → Int32) (a N : Nat) (ha : a ≤ N) (hs : ∀ j, a ≤ j → j < N → f (g j, nI j) = some (.inl (g (j + 1), nI (j + 1)))) (he : f (g N, nI N) = some (.inr (g N))) (hN : N < 100000) : zloop f zFU (g a, nI a) = some (g N) := by
  have q := zloop_eq (f := f) (fun k => (g (a + k), nI (a + k))) (N - a) (r := g N) (n := zFU) (fun k hk => hs (a + k) (by omega) (by omega)) (by rw [Nat.add_sub_of_le ha]; exact he) (by rw [zFU_v]; omega)
  exact q
theorem tFw_1 (t : Tr) (h : 1 ≤ tLen t) : tFw (tPre t 1) = tFw (tKid t 0) := by
  rw [tPre_S t 0 h, tPre_0]
  rfl
theorem tFw_S (t : Tr) (j : Nat) (h : j < tLen t) (h1 : 1 ≤ j) : tFw (tPre t (j + 1)) = if tLab t = 16 then tFw (tPre t j) else if tLab t = 14 then min (tFw (tPre t j)) (tFw (tKid t j)) else tFw (tPre t j) + tFw (tKid t j) := by
  rw [tPre_S t j h]
  show (if tLen (tPre t j) = 0 then _ else if tLab (tPre t j) = 16 then _ else _) = _
  rw [tPre_len t j (by omega), if_neg (by omega), tPre_lab]
theorem tFw_loop (t : Tr) (hl : tLab t = 16) : ∀ j, 1 ≤ j → j ≤ tLen t → tFw (tPre t j) = tFw (tPre t 1) := by
  intro j
  induction j with
  | zero => intro h; omega
  | succ j ih =>
    intro h1 h2
    by_cases e : j = 0
    · subst e; rfl
    · rw [tFw_S t j (by omega) (by omega), if_pos hl]
      exact ih (by omega) (by omega)
theorem nI_min {a b : Nat} (ha : a < 2 ^ 31) (hb : b < 2 ^ 31) : (if nI b < nI a then nI b else nI a) = nI (min a b) := by
  by_cases c : b < a
  · rw [if_pos (nI_lt c ha), Nat.min_eq_right (by omega)]
  · rw [if_neg (nI_nlt (by omega) hb), Nat.min_eq_left (by omega)]
theorem tKd_0 {x : Nat} (hx : x ≤ 16) : nI (tKd x) = 0 ↔ x < 12 := by
  unfold tKd
  by_cases c : x < 12
  · rw [if_pos c]; exact ⟨fun _ => c, fun _ => rfl⟩
  · rw [if_neg c]
    refine ⟨fun z => ?_, fun z => absurd z c⟩
    have := (nI_eq (a := x - 11) (b := 0) (by omega) (by omega)).mp z
    omega
theorem tKd_c {x k : Nat} (hx : x ≤ 16) (h1 : 1 ≤ k) (h5 : k ≤ 5) : nI (tKd x) = nI k ↔ x = 11 + k := by
  unfold tKd
  by_cases c : x < 12
  · rw [if_pos c]
    refine ⟨fun z => ?_, fun z => by omega⟩
    have := (nI_eq (a := 0) (b := k) (by omega) (by omega)).mp z
    omega
  · rw [if_neg c]
    refine ⟨fun z => ?_, fun z => by rw [z]; congr 1; omega⟩
    have := (nI_eq (a := x - 11) (b := k) (by omega) (by omega)).mp z
    omega
theorem tKd_1 {x : Nat} (hx : x ≤ 16) : nI (tKd x) = (1 : Int32) ↔ x = 12 := tKd_c (k := 1) hx (by omega) (by omega)
theorem tKd_2 {x : Nat} (hx : x ≤ 16) : nI (tKd x) = (2 : Int32) ↔ x = 13 := tKd_c (k := 2) hx (by omega) (by omega)
theorem tKd_3 {x : Nat} (hx : x ≤ 16) : nI (tKd x) = (3 : Int32) ↔ x = 14 := tKd_c (k := 3) hx (by omega) (by omega)
theorem tKd_4 {x : Nat} (hx : x ≤ 16) : nI (tKd x) = (4 : Int32) ↔ x = 15 := tKd_c (k := 4) hx (by omega) (by omega)
theorem tKd_5 {x : Nat} (hx : x ≤ 16) : nI (tKd x) = (5 : Int32) ↔ x = 16 := tKd_c (k := 5) hx (by omega) (by omega)
theorem cfew_eq {P : Nat → Prop} {h : Zh} {w : Nat} {t : Tr} {l : List Nat} (f : zFo P h t w l) (hw : w < zn h) (hk : zk h w = 103) (hl : zl h w = tLen t) (g : tG t) (hs : tSz t < 90000) : fX2_fewestOf h (nI (tKd (tLab t))) (some w) = some (nI (tFw t)) := by
  unfold fX2_fewestOf
  have hlab := tG_lab t g
  have h1 := tSz_1 t
  by_cases c0 : tLab t < 12
  · rw [if_pos ((tKd_0 hlab).mpr c0)]
    have e := tG_0 t (tG_leaf t g (by omega))
    rw [e]
    show some _ = some (nI (if tLab t < 12 then 1 else 0))
    rw [if_pos c0]
    rfl
  · rw [if_neg (fun z => c0 ((tKd_0 hlab).mp z)), zaL_v (t := 3) hw hk, Option.bind_some, hl]
    by_cases c1 : tLen t = 0
    · rw [if_pos (by rw [c1]; rfl)]
      have e := tG_0 t c1
      rw [e]
      show some _ = some (nI (if tLab t < 12 then 1 else 0))
      rw [if_neg c0]
      rfl
    · rw [if_neg (nI_ne0 (by omega) (by omega))]
      have few : ∀ j, j < tLen t → (zaP h (some w) 3 (nI j)).bind (fun r => zfI h r 3 4) = some (nI (tFw (tKid t j))) := by
        intro j hj
        obtain ⟨u, x, l', g1, g2, -⟩ := f.kid t w l j hj
        rw [zaP_v (t := 3) (n := tLen t) hw hk hl hj (by omega), Option.bind_some, g1, zfI_v g2.1.2.1 g2.1.2.2.1, g2.1.2.2.2.2.2.2.2]
      have f0 := few 0 (by omega)
      show (zaP h (some w) 3 (nI 0)).bind _ = _
      rw [← Option.bind_assoc, f0, Option.bind_some, ← tFw_1 t (by omega)]
      have bd : ∀ j, j ≤ tLen t → tFw (tPre t j) < 90000 := fun j _ => Nat.lt_of_le_of_lt (Nat.le_trans (tFw_sz _) (tPre_sz t j)) hs
      have bk : ∀ j, j < tLen t → tFw (tKid t j) < 90000 := fun j hj => Nat.lt_of_le_of_lt (tFw_sz _) (Nat.lt_trans (tKid_sz t j hj) hs)
      by_cases c5 : tLab t = 16
      · rw [← tFw_loop t c5 (tLen t) (by omega) (Nat.le_refl _), tPre_all]
        refine congrArg (fun o : Option Int32 => o.bind fun w6 => some w6) (rsum_eq (fun _ => nI (tFw t)) 1 1 (Nat.le_refl _) (fun j h1 h2 => by omega) ?_ (by omega))
        show (some (nI (tLen t))).bind _ = _
        rw [Option.bind_some]
        by_cases c6 : nI (tLen t) ≤ nI 1
        · rw [if_pos c6]
        · rw [if_neg c6, if_pos ((tKd_5 hlab).mpr c5)]
      · refine (congrArg (fun o : Option Int32 => o.bind fun w6 => some w6) (rsum_eq (fun j => nI (tFw (tPre t j))) 1 (tLen t) (by omega) (fun j h1 h2 => ?_) ?_ (by omega))).trans ?_
        · show (some (nI (tLen t))).bind _ = _
          rw [Option.bind_some, if_neg (nI_nle' (by omega) (by omega)), if_neg (fun z => c5 ((tKd_5 hlab).mp z)), tFw_S t j h2 h1, if_neg c5]
          by_cases c3 : tLab t = 14
          · rw [if_pos ((tKd_3 hlab).mpr c3), if_pos c3, ← Option.bind_assoc, few j h2, Option.bind_some, Option.bind_some, nI_min (by have := bd j (by omega); omega) (by have := bk j h2; omega), nI_1]
          · rw [if_neg (fun z => c3 ((tKd_3 hlab).mp z)), if_neg c3, ← Option.bind_assoc, few j h2, Option.bind_some, Option.bind_some, nI_add, nI_1]
        · show (some (nI (tLen t))).bind _ = _
          rw [Option.bind_some, if_pos (nI_le (Nat.le_refl _) (by omega))]
        · rw [tPre_all]
          rfl
/-! a new piece -/
theorem zSm.ext {P S : Nat → Prop} {h h' : Zh} (e : zExt S h h') (hS : ∀ u, P u → ¬ S u) : zSm P h h' := by
  intro u hu hl
  obtain ⟨a, b, c⟩ := e.2 u hl
  obtain ⟨c1, c2⟩ := c (hS u hu)
  exact ⟨Nat.lt_of_lt_of_le hl e.1.1, a, b, fun _ => ⟨fun k _ => by rw [c1], by rw [c2]⟩, fun _ => c2⟩
theorem zSm.tr {P : Nat → Prop} {h h1 h2 : Zh} (a : zSm P h h1) (b : zSm P h1 h2) : zSm P h h2 := by
  intro u hu hl
  obtain ⟨a1, a2, a3, a4, a5⟩ := a u hu hl
  obtain ⟨b1, b2, b3, b4, b5⟩ := b u hu a1
  refine ⟨b1, b2.trans a2, b3.trans a3, fun hk => ?_, fun hk => (b5 (a2.trans hk)).trans (a5 hk)⟩
  obtain ⟨c1, c2⟩ := a4 hk
  obtain ⟨d1, d2⟩ := b4 (a2.trans hk)
  exact ⟨fun k q => (d1 k q).trans (c1 k q), d2.trans c2⟩
theorem zSm.rf {P : Nat → Prop} {h : Zh} : zSm P h h := fun _ _ hl => ⟨hl, rfl, rfl, fun _ => ⟨fun _ _ => rfl, rfl⟩, fun _ => rfl⟩
theorem zSm.mono {P Q : Nat → Prop} {h h' : Zh} (hPQ : ∀ u, P u → Q u) (a : zSm Q h h') : zSm P h h' := fun u hu hl => a u (hPQ u hu) hl
theorem cinit_eq {P : Nat → Prop} {h : Zh} {v w : Nat} {t : Tr} {l : List Nat} (hv : v < zn h) (hk : zk h v = 4) (hvP : ¬ P v) (hw : w < zn h) (hwk : zk h w = 103) (hwl : zl h w = tLen t) (f : zFo P h t w l) (g : tG t) (hs : tSz t < 90000) :
    ∃ h', fX2_init h (some v) (nI (tKd (tLab t))) (tNm (tLab t)) (some w) = some h' ∧ (zExt (fun u => u = v) h h' ∧ zn h' = zn h ∧ zs h' = zs h) ∧ (zi h' v 5 = -3 ∧ zp h' v 6 = zp h v 6) ∧ (∀ Q : Nat → Prop, Q v → Q w → zNd Q h' v w t) ∧ zFo P h' t w l := by
  have hne : w ≠ v := by rintro rfl; rw [hk] at hwk; exact absurd hwk (by decide)
  have sm : ∀ h', zExt (fun u => u = v) h h' → zSm P h h' := fun h' e => zSm.ext e (fun u hu z => hvP (z ▸ hu))
  unfold fX2_init
  rw [zob_v hv hk, Option.bind_some, zgI_v (ci := 3) (by exact hv) (by exact hk), Option.bind_some, zgI_v (ci := 3) (by exact hv) (by exact hk), Option.bind_some, zgI_v (ci := 3) (by exact hv) (by exact hk), Option.bind_some, zgP_v (ci := 3) (by exact hv) (by exact hk), Option.bind_some]
  generalize eh4 : zsetP (zsetI (zsetI (zsetI h v 5 (-3)) v 0 (nI (tKd (tLab t)))) v 1 (tNm (tLab t))) v 2 (some w) = h4
  have e4 : zExt (fun u => u = v) h h4 := by
    rw [← eh4]
    exact (((zExt.sI (S := fun u => u = v) (Or.inl rfl)).tr (zExt.sI (S := fun u => u = v) (Or.inl rfl))).tr (zExt.sI (S := fun u => u = v) (Or.inl rfl))).tr (zExt.sP (S := fun u => u = v) (Or.inl rfl))
  have n4 : zn h4 = zn h ∧ zs h4 = zs h ∧ zk h4 = zk h ∧ zl h4 = zl h := by rw [← eh4]; exact ⟨rfl, rfl, rfl, rfl⟩
  have i4 : zi h4 = u2 (u2 (u2 (zi h) v 5 (-3)) v 0 (nI (tKd (tLab t)))) v 1 (tNm (tLab t)) := by rw [← eh4]; rfl
  have p4 : zp h4 = u2 (zp h) v 2 (some w) := by rw [← eh4]; rfl
  clear eh4
  have f4 : zFo P h4 t w l := f.on (sm h4 e4) t w l (by rw [p4]; funext j; rw [u2_a hne])
  have hlen : zaL h4 (some w) 3 = some (nI (tLen t)) := by rw [zaL_v (t := 3) (by rw [n4.1]; exact hw) (by rw [n4.2.2.1]; exact hwk), n4.2.2.2, hwl]
  have hz := tSz_1 t
  have q := rsum_eq (f := fun ((v5, v6) : Int32 × Int32) =>
    ((zaL h4 (some w) 3).bind fun x10 =>
    if x10 ≤ v6 then
      some (.inr v5)
    else
      (zaP h4 (some w) 3 v6).bind fun r11 =>
      (zfI h4 r11 3 3).bind fun x12 =>
      some (.inl (v5 + x12, v6 + (1 : Int32))) : Option ((Int32 × Int32) ⊕ Int32))) (fun j => nI (tSz (tPre t j))) 0 (tLen t) (Nat.zero_le _) (fun j _ hj => by
      show (zaL h4 (some w) 3).bind _ = _
      obtain ⟨u, x, l', g1, g2, -⟩ := f4.kid t w l j hj
      rw [hlen, Option.bind_some, if_neg (nI_nle' (by omega) hj), zaP_v (t := 3) (n := tLen t) (by rw [n4.1]; exact hw) (by rw [n4.2.2.1]; exact hwk) (by rw [n4.2.2.2]; exact hwl) hj (by omega), Option.bind_some, g1, zfI_v g2.1.2.1 g2.1.2.2.1, g2.1.2.2.2.2.2.2.1, Option.bind_some, nI_add, nI_1, tPre_S t j hj]
      rfl) (by
      show (zaL h4 (some w) 3).bind _ = _
      rw [hlen, Option.bind_some, if_pos (nI_le (Nat.le_refl _) (by omega))]) (by omega)
  rw [tPre_0, tPre_all] at q
  have q' := congrArg (fun o : Option Int32 => o.bind fun w7 =>
    (zgI h4 (some v) 3 3 w7).bind fun h13 =>
    (fX2_fewestOf h13 (nI (tKd (tLab t))) (some w)).bind fun x14 =>
    (zgI h13 (some v) 3 4 x14).bind fun h15 =>
    some h15) q
  refine ⟨zsetI (zsetI h4 v 3 (nI (tSz t))) v 4 (nI (tFw t)), q'.trans ?_, ?_⟩
  · show (zgI h4 (some v) 3 3 (nI (tSz t))).bind _ = _
    rw [zgI_v (ci := 3) (by rw [n4.1]; exact hv) (by rw [n4.2.2.1]; exact hk), Option.bind_some]
    have e5 : zExt (fun u => u = v) h (zsetI h4 v 3 (nI (tSz t))) := e4.tr (zExt.sI (Or.inl rfl))
    have f5 : zFo P (zsetI h4 v 3 (nI (tSz t))) t w l := f.on (sm _ e5) t w l (by show zp h4 w = _; rw [p4]; funext j; rw [u2_a hne])
    rw [cfew_eq f5 (by show w < zn h4; rw [n4.1]; exact hw) (by show zk h4 w = _; rw [n4.2.2.1]; exact hwk) (by show zl h4 w = _; rw [n4.2.2.2]; exact hwl) g hs, Option.bind_some, zgI_v (ci := 3) (by show v < zn h4; rw [n4.1]; exact hv) (by show zk h4 v = _; rw [n4.2.2.1]; exact hk), Option.bind_some]
  · have e6 : zExt (fun u => u = v) h (zsetI (zsetI h4 v 3 (nI (tSz t))) v 4 (nI (tFw t))) := (e4.tr (zExt.sI (Or.inl rfl))).tr (zExt.sI (Or.inl rfl))
    have i6 : zi (zsetI (zsetI h4 v 3 (nI (tSz t))) v 4 (nI (tFw t))) = u2 (u2 (u2 (u2 (u2 (zi h) v 5 (-3)) v 0 (nI (tKd (tLab t)))) v 1 (tNm (tLab t))) v 3 (nI (tSz t))) v 4 (nI (tFw t)) := by rw [zi_sI, zi_sI, i4]
    have p6 : zp (zsetI (zsetI h4 v 3 (nI (tSz t))) v 4 (nI (tFw t))) = u2 (zp h) v 2 (some w) := by rw [zp_sI, zp_sI, p4]
    refine ⟨⟨e6, n4.1, n4.2.1⟩, ⟨?_, ?_⟩, fun Q hQv hQw => ⟨⟨hQv, ?_, ?_, ?_, ?_, ?_, ?_, ?_⟩, hQw, ?_, ?_, ?_⟩, ?_⟩
    · rw [i6, u2_n (by omega), u2_n (by omega), u2_n (by omega), u2_n (by omega), u2_s]
    · rw [p6, u2_n (by omega)]
    · show v < zn h4; rw [n4.1]; exact hv
    · show zk h4 v = 4; rw [n4.2.2.1]; exact hk
    · rw [i6, u2_n (by omega), u2_n (by omega), u2_n (by omega), u2_s]
    · rw [i6, u2_n (by omega), u2_n (by omega), u2_s]
    · rw [p6, u2_s]
    · rw [i6, u2_n (by omega), u2_s]
    · rw [i6, u2_s]
    · show w < zn h4; rw [n4.1]; exact hw
    · show zk h4 w = _; rw [n4.2.2.1]; exact hwk
    · show zl h4 w = _; rw [n4.2.2.2]; exact hwl
    · exact f.on (sm _ e6) t w l (by rw [p6]; funext j; rw [u2_a hne])
