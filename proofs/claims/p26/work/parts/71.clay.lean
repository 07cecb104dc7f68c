/-! laying on the class's side: rows of costs -/
def aG (h : Zh) (a : Nat) : Prop := a < zn h ∧ zk h a = 100 ∧ zl h a = 64
def aH (h : Zh) (a n : Nat) (c : Nat → Nat) : Prop := ∀ k, k < 2 ^ n → zi h a k = nI (c k)
def aO (a : Nat) (h h' : Zh) : Prop := zExt (fun u => u = a) h h' ∧ zn h' = zn h ∧ zs h' = zs h ∧ zp h' = zp h
theorem aO.rf {a : Nat} {h : Zh} : aO a h h := ⟨zExt.rf, rfl, rfl, rfl⟩
theorem aO.tr {a : Nat} {h h1 h2 : Zh} (x : aO a h h1) (y : aO a h1 h2) : aO a h h2 := ⟨x.1.tr y.1, y.2.1.trans x.2.1, y.2.2.1.trans x.2.2.1, y.2.2.2.trans x.2.2.2⟩
theorem aO.u {a k : Nat} {h : Zh} {x : Int32} : aO a h (zsetI h a k x) := ⟨zExt.sI (Or.inl rfl), rfl, rfl, rfl⟩
theorem aO.g {a b : Nat} {h h' : Zh} (o : aO a h h') (g : aG h b) : aG h' b := ⟨by rw [o.2.1]; exact g.1, (o.1.2 b g.1).1.trans g.2.1, (o.1.2 b g.1).2.1.trans g.2.2⟩
theorem aO.i {a b : Nat} {h h' : Zh} (o : aO a h h') (hb : b < zn h) (hne : b ≠ a) : zi h' b = zi h b := ((o.1.2 b hb).2.2 hne).1
theorem aO.h {a b n : Nat} {h h' : Zh} {c : Nat → Nat} (o : aO a h h') (g : aG h b) (hne : b ≠ a) (H : aH h b n c) : aH h' b n c := fun k hk => by rw [o.i g.1 hne]; exact H k hk
theorem zaI_g {h : Zh} {a k : Nat} (g : aG h a) (hk : k < 64) : zaI h (some a) (nI k) = some (zi h a k) := zaI_v g.1 g.2.1 g.2.2 hk (by omega)
theorem zbI_g {h : Zh} {a k : Nat} {x : Int32} (g : aG h a) (hk : k < 64) : zbI h (some a) (nI k) x = some (zsetI h a k x) := zbI_v g.1 g.2.1 g.2.2 hk (by omega)
/-- the laying object at Y, its three rows behind it -/
def LY (h : Zh) (Y n : Nat) (nm : Nat → Int32) : Prop := (Y + 3 < zn h ∧ zk h Y = 3 ∧ zi h Y 1 = nI n ∧ zi h Y 2 = nI (2 ^ n)) ∧ (zp h Y 0 = some (Y + 1) ∧ zk h (Y + 1) = 100 ∧ zl h (Y + 1) = 6 ∧ ∀ i, i < n → zi h (Y + 1) i = nm i) ∧ (zp h Y 3 = some (Y + 2) ∧ aG h (Y + 2)) ∧ zp h Y 4 = some (Y + 3) ∧ aG h (Y + 3)
theorem aO.Y {a Y n : Nat} {nm : Nat → Int32} {h h' : Zh} (o : aO a h h') (L : LY h Y n nm) (g : aG h a) : LY h' Y n nm := by
  obtain ⟨⟨a1, a2, a3, a4⟩, ⟨b1, b2, b3, b4⟩, ⟨c1, c2⟩, d1, d2⟩ := L
  have y0 : Y ≠ a := by rintro rfl; have := g.2.1; omega
  have y1 : Y + 1 ≠ a := by rintro rfl; have := g.2.2; omega
  have k0 := o.1.2 Y (by omega)
  have k1 := o.1.2 (Y + 1) (by omega)
  refine ⟨⟨by rw [o.2.1]; exact a1, k0.1.trans a2, ?_, ?_⟩, ⟨?_, k1.1.trans b2, k1.2.1.trans b3, fun i hi => ?_⟩, ⟨?_, o.g c2⟩, ?_, o.g d2⟩
  · rw [o.i (by omega) y0]; exact a3
  · rw [o.i (by omega) y0]; exact a4
  · rw [o.2.2.2]; exact b1
  · rw [o.i (by omega) y1]; exact b4 i hi
  · rw [o.2.2.2]; exact c1
  · rw [o.2.2.2]; exact d1
theorem LY.l {h : Zh} {Y n : Nat} {nm : Nat → Int32} (L : LY h Y n nm) : zfI h (some Y) 2 1 = some (nI n) := by rw [zfI_v (ci := 2) (by have := L.1.1; omega) L.1.2.1, L.1.2.2.1]
theorem LY.z {h : Zh} {Y n : Nat} {nm : Nat → Int32} (L : LY h Y n nm) : zfI h (some Y) 2 2 = some (nI (2 ^ n)) := by rw [zfI_v (ci := 2) (by have := L.1.1; omega) L.1.2.1, L.1.2.2.2]
theorem LY.p {h : Zh} {Y n : Nat} {nm : Nat → Int32} (L : LY h Y n nm) (k : Nat) : zfP h (some Y) 2 k = some (zp h Y k) := by rw [zfP_v (ci := 2) (by have := L.1.1; omega) L.1.2.1]
theorem LY.o {h : Zh} {Y n : Nat} {nm : Nat → Int32} (L : LY h Y n nm) : zob h (some Y) 3 = some Y := zob_v (by have := L.1.1; omega) L.1.2.1
theorem ccpy_eq {h : Zh} {Y n a b : Nat} {nm : Nat → Int32} {c : Nat → Nat} (hn : n ≤ 6) (L : LY h Y n nm) (ga : aG h a) (gb : aG h b) (hab : a ≠ b) (H : aH h a n c) : zS (fX1_copy h (some Y) (some a) (some b)) (fun h' => aH h' b n c ∧ aO b h h') := by
  have h64 := p2_64 hn
  unfold fX1_copy
  refine zS.b (zS.up (fun j h' => (∀ k, k < j → zi h' b k = nI (c k)) ∧ aO b h h') 0 (2 ^ n) (fun k h' _ hk hJ => ?_) (fun h' hJ => ?_) (Nat.zero_le _) (by omega) ⟨fun k hk => absurd hk (Nat.not_lt_zero _), aO.rf⟩) (fun r hr => zS.s hr)
  · dsimp only
    obtain ⟨j1, j2⟩ := hJ
    rw [(j2.Y L gb).z, Option.bind_some, if_neg (nI_nle' (by omega) hk)]
    refine zS.e (zaI_g (j2.g ga) (by omega)) (zS.e (zbI_g (j2.g gb) (by omega)) (zS.s ⟨_, by rw [nI_1], fun i hi => ?_, j2.tr aO.u⟩))
    rw [zi_sI]
    by_cases e : i = k
    · subst e; rw [u2_s, j2.i ga.1 hab]; exact H i hk
    · rw [u2_n (by omega)]; exact j1 i (by omega)
  · dsimp only
    rw [(hJ.2.Y L gb).z, Option.bind_some, if_pos (nI_le (Nat.le_refl _) (by omega))]
    exact zS.s ⟨_, rfl, hJ⟩
theorem nI_minl {a b : Nat} (ha : a < 2 ^ 31) (hb : b < 2 ^ 31) : (if nI b < nI a then nI b else nI a) = nI (min a b) := nI_min ha hb
theorem crow1_eq {h : Zh} {Y n a b : Nat} {nm : Nat → Int32} {c d : Nat → Nat} (hn : n ≤ 6) (L : LY h Y n nm) (ga : aG h a) (gb : aG h b) (hab : a ≠ b) (Ha : aH h a n c) (Hb : aH h b n d) (hc : ∀ k, c k ≤ 1000000) (hd : ∀ k, d k ≤ 1000000) : zS (fX1_inRow h (some Y) (some a) (some b)) (fun h' => aH h' a n (cBeh 1000000 n c d) ∧ aO a h h') := by
  have h64 := p2_64 hn
  unfold fX1_inRow
  rw [L.z, Option.bind_some]
  refine zS.b (R1 := fun h' => aH h' a n (cBeh 1000000 n c d) ∧ aO a h h') (zS.dn (fun j h' => ((∀ k, j ≤ k → k < 2 ^ n → zi h' a k = nI (cBeh 1000000 n c d k)) ∧ ∀ k, k < j → k < 2 ^ n → zi h' a k = nI (c k)) ∧ aO a h h') (2 ^ n) (fun k h' hk hJ => ?_) (fun h' hJ => ?_) (by omega) ⟨⟨fun k h1 h2 => by omega, fun k _ hk => Ha k hk⟩, aO.rf⟩) (fun r hr => zS.s hr)
  · obtain ⟨⟨j1, j2⟩, j3⟩ := hJ
    show zS (if nI k < 0 then _ else _) _
    rw [if_neg (nI_pos (by omega))]
    have L' := j3.Y L ga
    refine zS.b (zS.fold (fun t => nI (cBehF 1000000 c d k t)) 0 (n + 1) (fun t _ ht => ?_) ?_ (Nat.zero_le _) (by omega)) (fun w hw => ?_)
    · dsimp only
      have b1 := cBehF_le 1000000 c d k t
      have b2 := hc (k % 2 ^ t)
      have b3 := hd (k - k % 2 ^ t)
      have hm : k % 2 ^ t ≤ k := Nat.mod_le _ _
      rw [L'.l, Option.bind_some, if_neg (nI_nlt (by omega) (by omega)), bt_mask t (by omega) k (by omega), bt_xor t (by omega) k (by omega), zaI_g (j3.g ga) (by omega), zaI_g (j3.g gb) (by omega), Option.bind_some, Option.bind_some, j3.i gb.1 hab.symm, Hb _ (by omega), j2 _ (by omega) (by omega), nI_add, nI_minl (by omega) (by omega), nI_1]
      rfl
    · dsimp only
      rw [L'.l, Option.bind_some, if_pos (nI_lt (Nat.lt_succ_self _) (by omega))]
    · subst hw
      refine zS.e (zbI_g (j3.g ga) (by omega)) (zS.s ⟨_, rfl, ⟨fun i h1 h2 => ?_, fun i h1 h2 => ?_⟩, j3.tr aO.u⟩)
      · rw [zi_sI]
        by_cases e : i = k
        · subst e; rw [u2_s]; rfl
        · rw [u2_n (by omega)]; exact j1 i (by omega) h2
      · rw [zi_sI, u2_n (by omega)]; exact j2 i (by omega) h2
  · show zS (if (-1 : Int32) < 0 then _ else _) _
    rw [if_pos (by decide)]
    exact zS.s ⟨_, rfl, fun k hk => hJ.1.1 k (Nat.zero_le _) hk, hJ.2⟩
theorem cchp_eq {h : Zh} {Y n a b : Nat} {nm : Nat → Int32} {c d : Nat → Nat} (hn : n ≤ 6) (L : LY h Y n nm) (ga : aG h a) (gb : aG h b) (hab : a ≠ b) (Ha : aH h a n c) (Hb : aH h b n d) (hc : ∀ k, c k ≤ 1000000) (hd : ∀ k, d k ≤ 1000000) : zS (fX1_cheaper h (some Y) (some a) (some b)) (fun h' => aH h' a n (fun k => min (c k) (d k)) ∧ aO a h h') := by
  have h64 := p2_64 hn
  unfold fX1_cheaper
  refine zS.b (zS.up (fun j h' => ((∀ k, k < j → zi h' a k = nI (min (c k) (d k))) ∧ ∀ k, j ≤ k → k < 2 ^ n → zi h' a k = nI (c k)) ∧ aO a h h') (P := fun h' => aH h' a n (fun k => min (c k) (d k)) ∧ aO a h h') 0 (2 ^ n) (fun k h' _ hk hJ => ?_) (fun h' hJ => ?_) (Nat.zero_le _) (by omega) ⟨⟨fun k hk => absurd hk (Nat.not_lt_zero _), fun k _ hk => Ha k hk⟩, aO.rf⟩) (fun r hr => zS.s hr)
  · dsimp only
    obtain ⟨⟨j1, j2⟩, j3⟩ := hJ
    have b2 := hc k
    have b3 := hd k
    rw [(j3.Y L ga).z, Option.bind_some, if_neg (nI_nle' (by omega) hk)]
    refine zS.e (zaI_g (j3.g ga) (by omega)) (zS.e (zaI_g (j3.g gb) (by omega)) (zS.e (zbI_g (j3.g ga) (by omega)) (zS.s ⟨_, by rw [nI_1], ⟨fun i hi => ?_, fun i h1 h2 => ?_⟩, j3.tr aO.u⟩)))
    · rw [zi_sI]
      by_cases e : i = k
      · subst e; rw [u2_s, j3.i gb.1 hab.symm, Hb _ hk, j2 _ (Nat.le_refl _) hk, nI_minl (by omega) (by omega)]
      · rw [u2_n (by omega)]; exact j1 i (by omega)
    · rw [zi_sI, u2_n (by omega)]; exact j2 i (by omega) h2
  · dsimp only
    rw [(hJ.2.Y L ga).z, Option.bind_some, if_pos (nI_le (Nat.le_refl _) (by omega))]
    exact zS.s ⟨_, rfl, fun k hk => hJ.1.1 k hk, hJ.2⟩
/-! BESIDE: the lesser sets of a set, downwards -/
theorem cBesF_at {M : Nat} {c d : Nat → Nat} {s : Nat} : ∀ T t, t < T → t &&& s = t → cBesF M c d s T ≤ c t + d (s - t)
  | 0, _, h, _ => absurd h (Nat.not_lt_zero _)
  | T + 1, t, h, e => by
    show (if T &&& s = T then min (cBesF M c d s T) (c T + d (s - T)) else cBesF M c d s T) ≤ _
    by_cases z : t = T
    · subst z; rw [if_pos e]; exact Nat.min_le_right _ _
    · have := cBesF_at (M := M) (c := c) (d := d) (s := s) T t (by omega) e
      split
      · exact Nat.le_trans (Nat.min_le_left _ _) this
      · exact this
theorem cBesF_in {M : Nat} {c d : Nat → Nat} {s : Nat} : ∀ T, cBesF M c d s T = M ∨ ∃ t, t < T ∧ t &&& s = t ∧ cBesF M c d s T = c t + d (s - t)
  | 0 => Or.inl rfl
  | T + 1 => by
    have ih := cBesF_in (M := M) (c := c) (d := d) (s := s) T
    have e : cBesF M c d s (T + 1) = if T &&& s = T then min (cBesF M c d s T) (c T + d (s - T)) else cBesF M c d s T := rfl
    rw [e]
    by_cases z : T &&& s = T
    · rw [if_pos z]
      rcases Nat.le_total (cBesF M c d s T) (c T + d (s - T)) with q | q
      · rw [Nat.min_eq_left q]
        rcases ih with ih | ⟨t, h1, h2, h3⟩
        · exact Or.inl ih
        · exact Or.inr ⟨t, by omega, h2, h3⟩
      · rw [Nat.min_eq_right q]
        exact Or.inr ⟨T, by omega, z, rfl⟩
    · rw [if_neg z]
      rcases ih with ih | ⟨t, h1, h2, h3⟩
      · exact Or.inl ih
      · exact Or.inr ⟨t, by omega, h2, h3⟩
theorem cBesF_is {M T v : Nat} {c d : Nat → Nat} {s : Nat} (h1 : ∀ t, t < T → t &&& s = t → v ≤ c t + d (s - t)) (h2 : ∃ t, t < T ∧ t &&& s = t ∧ v = c t + d (s - t)) : cBesF M c d s T = min v M := by
  obtain ⟨t, a, b, e⟩ := h2
  have l1 := cBesF_at (M := M) (c := c) (d := d) T t a b
  have l2 := cBesF_le M c d s T
  rcases cBesF_in (M := M) (c := c) (d := d) (s := s) T with q | ⟨u, u1, u2, u3⟩
  · omega
  · have := h1 u u1 u2
    omega
theorem cmix_eq {h : Zh} {Y n a b : Nat} {nm : Nat → Int32} {c d : Nat → Nat} (hn : n ≤ 6) (L : LY h Y n nm) (ga : aG h a) (gb : aG h b) (hab : a ≠ b) (Ha : aH h a n c) (Hb : aH h b n d) (hc : ∀ k, c k ≤ 1000000) (hd : ∀ k, d k ≤ 1000000) : zS (fX1_mixed h (some Y) (some a) (some b)) (fun h' => aH h' a n (cBes 1000000 n c d) ∧ aO a h h') := by
  have h64 := p2_64 hn
  have p0 := Nat.two_pow_pos n
  unfold fX1_mixed
  rw [L.z, Option.bind_some]
  refine zS.b (R1 := fun h' => aH h' a n (cBes 1000000 n c d) ∧ aO a h h') (zS.dn (fun j h' => ((∀ k, j ≤ k → k < 2 ^ n → zi h' a k = nI (cBes 1000000 n c d k)) ∧ ∀ k, k < j → k < 2 ^ n → zi h' a k = nI (c k)) ∧ aO a h h') (2 ^ n) (fun k h' hk hJ => ?_) (fun h' hJ => ?_) (by omega) ⟨⟨fun k h1 h2 => by omega, fun k _ hk => Ha k hk⟩, aO.rf⟩) (fun r hr => zS.s hr)
  · obtain ⟨⟨j1, j2⟩, j3⟩ := hJ
    show zS (if nI k < 0 then _ else _) _
    rw [if_neg (nI_pos (by omega))]
    have L' := j3.Y L ga
    have ra : ∀ t, t ≤ k → zaI h' (some a) (nI t) = some (nI (c t)) := fun t ht => by rw [zaI_g (j3.g ga) (by omega), j2 t (by omega) (by omega)]
    have rb : ∀ t, t ≤ k → zaI h' (some b) (nI t) = some (nI (d t)) := fun t ht => by rw [zaI_g (j3.g gb) (by omega), j3.i gb.1 hab.symm, Hb t (by omega)]
    refine zS.e (ra 0 (Nat.zero_le _)) (zS.e (rb k (Nat.le_refl _)) ?_)
    rw [nI_add]
    have lp : zS (zloop (fun ((v9, v10) : Int32 × Int32) =>
        (if v10 ≤ 0 then
          some (.inr v9)
        else
          (zaI h' (some a) v10).bind fun x14 =>
          (zaI h' (some b) (nI k ^^^ v10)).bind fun x15 =>
          some (.inl ((if x14 + x15 < v9 then x14 + x15 else v9), (v10 - (1 : Int32)) &&& nI k)) : Option ((Int32 × Int32) ⊕ Int32))) zFU (nI (c 0 + d k), nI k)) (fun w => ∃ v, w = nI v ∧ v ≤ 2000000 ∧ cBesF 1000000 c d k (2 ^ n) = min v 1000000) := by
      refine zloop_inv (fun (u : Nat) (st : Int32 × Int32) => st.2 = nI u ∧ u &&& k = u ∧ u < 2 ^ n ∧ ∃ v, st.1 = nI v ∧ v ≤ 2000000 ∧ (∀ t, t < 2 ^ n → t &&& k = t → (u < t ∨ t = 0) → v ≤ c t + d (k - t)) ∧ ∃ t, t < 2 ^ n ∧ t &&& k = t ∧ v = c t + d (k - t)) _ ?_ k _ _ ⟨rfl, Nat.and_self _, hk, c 0 + d k, rfl, by have := hc 0; have := hd k; omega, ?_, 0, p0, Nat.zero_and _, by rw [Nat.sub_zero]⟩ (by rw [zFU_v]; omega)
      · rintro u ⟨w1, w2⟩ ⟨e1, e2, e3, v, e4, e5, e6, e7⟩
        dsimp only at e1 e4
        subst e1 e4
        by_cases z : u = 0
        · subst z
          refine Or.inr ⟨nI v, ?_, v, rfl, e5, cBesF_is (fun t t1 t2 => e6 t t1 t2 (by omega)) e7⟩
          show (if nI 0 ≤ 0 then _ else _) = _
          rw [if_pos (by decide)]
        · have hu : u ≤ k := bt_le k (by omega) u (by omega) e2
          have b1 := hc u
          have b2 := hd (k - u)
          have nle : (u - 1) &&& k ≤ u - 1 := Nat.and_le_left
          refine Or.inl ⟨(nI (min v (c u + d (k - u))), nI ((u - 1) &&& k)), (u - 1) &&& k, ?_, by omega, rfl, by rw [Nat.and_assoc, Nat.and_self], by omega, min v (c u + d (k - u)), rfl, by omega, fun t t1 t2 t3 => ?_, ?_⟩
          · show (if nI u ≤ 0 then _ else _) = _
            rw [if_neg (nI_nle (by omega) (by omega)), ra u hu, Option.bind_some, bt_xs k (by omega) u (by omega) e2, rb (k - u) (by omega), Option.bind_some, nI_add, nI_minl (by omega) (by omega), bt_nx k (by omega) u (by omega) e2 (by omega)]
          · by_cases y : t = u
            · subst y; exact Nat.min_le_right _ _
            · refine Nat.le_trans (Nat.min_le_left _ _) (e6 t t1 t2 ?_)
              rcases t3 with t3 | t3
              · refine Or.inl ?_
                have : ¬ t < u := fun q => by
                  have := bt_gap (s := k) (t := u) (u := t) (by omega) (by omega) e2 (by omega) q t2
                  omega
                omega
              · exact Or.inr t3
          · rcases Nat.le_total v (c u + d (k - u)) with q | q
            · rw [Nat.min_eq_left q]; exact e7
            · rw [Nat.min_eq_right q]; exact ⟨u, e3, e2, rfl⟩
      · intro t t1 t2 t3
        have := bt_le k (by omega) t (by omega) t2
        have e : t = 0 := by omega
        subst e
        rw [Nat.sub_zero]
        exact Nat.le_refl _
    refine zS.b lp (fun w ⟨v, hw, hv, hm⟩ => ?_)
    subst hw
    refine zS.e (zbI_g (j3.g ga) (by omega)) (zS.s ⟨_, rfl, ⟨fun i h1 h2 => ?_, fun i h1 h2 => ?_⟩, j3.tr aO.u⟩)
    · rw [zi_sI]
      by_cases e : i = k
      · subst e
        rw [u2_s]
        show (if nI 1000000 < nI v then nI 1000000 else nI v) = nI (cBesF 1000000 c d i (2 ^ n))
        rw [hm, nI_minl (by omega) (by omega)]
      · rw [u2_n (by omega)]; exact j1 i (by omega) h2
    · rw [zi_sI, u2_n (by omega)]; exact j2 i (by omega) h2
  · show zS (if (-1 : Int32) < 0 then _ else _) _
    rw [if_pos (by decide)]
    exact zS.s ⟨_, rfl, fun k hk => hJ.1.1 k (Nat.zero_le _) hk, hJ.2⟩
/-! a piece's row of costs out of its parts' -/
def a3 (a Y : Nat) (h h' : Zh) : Prop := zExt (fun u => u = a ∨ u = Y + 2 ∨ u = Y + 3) h h' ∧ zn h' = zn h ∧ zs h' = zs h ∧ zp h' = zp h
theorem a3.rf {a Y : Nat} {h : Zh} : a3 a Y h h := ⟨zExt.rf, rfl, rfl, rfl⟩
theorem a3.tr {a Y : Nat} {h h1 h2 : Zh} (x : a3 a Y h h1) (y : a3 a Y h1 h2) : a3 a Y h h2 := ⟨x.1.tr y.1, y.2.1.trans x.2.1, y.2.2.1.trans x.2.2.1, y.2.2.2.trans x.2.2.2⟩
theorem a3.of {a Y b : Nat} {h h' : Zh} (o : aO b h h') (hb : b = a ∨ b = Y + 2 ∨ b = Y + 3) : a3 a Y h h' := ⟨o.1.mono (fun v _ (z : v = b) => by rw [z]; exact hb), o.2.1, o.2.2.1, o.2.2.2⟩
theorem a3.g {a Y b : Nat} {h h' : Zh} (o : a3 a Y h h') (g : aG h b) : aG h' b := ⟨by rw [o.2.1]; exact g.1, (o.1.2 b g.1).1.trans g.2.1, (o.1.2 b g.1).2.1.trans g.2.2⟩
theorem a3.i {a Y b : Nat} {h h' : Zh} (o : a3 a Y h h') (hb : b < zn h) (h1 : b ≠ a) (h2 : b ≠ Y + 2) (h3 : b ≠ Y + 3) : zi h' b = zi h b := ((o.1.2 b hb).2.2 (fun z => z.elim h1 (fun z => z.elim h2 h3))).1
theorem a3.Y {a Y n : Nat} {nm : Nat → Int32} {h h' : Zh} (o : a3 a Y h h') (L : LY h Y n nm) (g : aG h a) : LY h' Y n nm := by
  obtain ⟨⟨a1, a2, a3, a4⟩, ⟨b1, b2, b3, b4⟩, ⟨c1, c2⟩, d1, d2⟩ := L
  have y0 : Y ≠ a := by rintro rfl; have := g.2.1; omega
  have y1 : Y + 1 ≠ a := by rintro rfl; have := g.2.2; omega
  have k0 := o.1.2 Y (by omega)
  have k1 := o.1.2 (Y + 1) (by omega)
  refine ⟨⟨by rw [o.2.1]; exact a1, k0.1.trans a2, ?_, ?_⟩, ⟨?_, k1.1.trans b2, k1.2.1.trans b3, fun i hi => ?_⟩, ⟨?_, o.g c2⟩, ?_, o.g d2⟩
  · rw [o.i (by omega) y0 (by omega) (by omega)]; exact a3
  · rw [o.i (by omega) y0 (by omega) (by omega)]; exact a4
  · rw [o.2.2.2]; exact b1
  · rw [o.i (by omega) y1 (by omega) (by omega)]; exact b4 i hi
  · rw [o.2.2.2]; exact c1
  · rw [o.2.2.2]; exact d1
/-- the parts' rows -/
def kRow (h : Zh) (Y n a w : Nat) (nm : Nat → Int32) (t : Tr) : Prop := w < zn h ∧ zk h w = 103 ∧ zl h w = tLen t ∧ ∀ j, j < tLen t → ∃ u b, zp h w j = some u ∧ u < zn h ∧ zk h u = 4 ∧ zp h u 6 = some b ∧ aG h b ∧ (b ≠ a ∧ b ≠ Y + 2 ∧ b ≠ Y + 3) ∧ aH h b n (tCost 1000000 n nm (tKid t j))
theorem a3.k {a Y n w : Nat} {nm : Nat → Int32} {t : Tr} {h h' : Zh} (o : a3 a Y h h') (K : kRow h Y n a w nm t) : kRow h' Y n a w nm t := by
  obtain ⟨k1, k2, k3, k4⟩ := K
  have e := o.1.2 w k1
  refine ⟨by rw [o.2.1]; exact k1, e.1.trans k2, e.2.1.trans k3, fun j hj => ?_⟩
  obtain ⟨u, b, u1, u2', u3, u4, u5, ⟨u6, u7, u8⟩, u9⟩ := k4 j hj
  refine ⟨u, b, by rw [o.2.2.2]; exact u1, by rw [o.2.1]; exact u2', (o.1.2 u u2').1.trans u3, by rw [o.2.2.2]; exact u4, o.g u5, ⟨u6, u7, u8⟩, fun k hk => ?_⟩
  rw [o.i u5.1 u6 u7 u8]
  exact u9 k hk
theorem ccost_s {h : Zh} {u b : Nat} (hu : u < zn h) (hk : zk h u = 4) (e : zp h u 6 = some b) : fX1_costsOf h (some u) = some (some b, h) := by
  unfold fX1_costsOf
  rw [zfP_v (ci := 3) hu hk, Option.bind_some, e, if_neg (fun z => by cases z), Option.bind_some, zfP_v (ci := 3) hu hk, e]
  rfl
theorem cfill64 {h : Zh} {a : Nat} (g : aG h a) : zS (fJ7_fill_53178 h (some a) (1000000 : Int32)) (fun h' => (∀ k, k < 64 → zi h' a k = nI 1000000) ∧ aO a h h') := by
  obtain ⟨h', e, ⟨e1, e2, e3, e4⟩, e5⟩ := cfill_eq g.1 g.2.1 g.2.2 (by omega) (1000000 : Int32)
  exact ⟨h', e, e5, e1, e2, e3, e4⟩
theorem crounds_eq {h : Zh} {Y n a w : Nat} {nm : Nat → Int32} {t : Tr} (hn : n ≤ 6) (L : LY h Y n nm) (ga : aG h a) (hy2 : a ≠ Y + 2) (hy3 : a ≠ Y + 3) (K : kRow h Y n a w nm t) (hl : tLab t = 16) (h1 : 1 ≤ tLen t) (hz : tLen t < 90000) (Ha : aH h a n (tCost 1000000 n nm (tKid t 0))) :
    zS (fX1_weighRounds h (some Y) (some a) (some w)) (fun h' => aH h' a n (tCost 1000000 n nm t) ∧ a3 a Y h h') := by
  have h64 := p2_64 hn
  have M1 : (1 : Nat) ≤ 1000000 := by omega
  have p3 : zp h Y 3 = some (Y + 2) := L.2.2.1.1
  have p4 : zp h Y 4 = some (Y + 3) := L.2.2.2.1
  have g2 := L.2.2.1.2
  have g3 := L.2.2.2.2
  unfold fX1_weighRounds
  refine zS.e (L.p 3) ?_
  rw [p3]
  refine zS.b (cfill64 g2) (fun s1 ⟨a1, o1⟩ => ?_)
  have A1 : a3 a Y h s1 := a3.of o1 (Or.inr (Or.inl rfl))
  refine zS.b (R1 := fun h' => aH h' (Y + 2) n (tCp 1000000 n nm t).2 ∧ a3 a Y h h' ∧ aH h' a n (tCost 1000000 n nm (tKid t 0))) (zS.up (fun j h' => aH h' (Y + 2) n (tCp 1000000 n nm (tPre t j)).2 ∧ a3 a Y h h' ∧ aH h' a n (tCost 1000000 n nm (tKid t 0))) 1 (tLen t) (fun j h' hj1 hj hJ => ?_) (fun h' hJ => ?_) h1 (by omega) ⟨fun k hk => ?_, A1, o1.h ga hy2 Ha⟩) (fun s2 ⟨b1, b2, b3⟩ => ?_)
  · dsimp only
    obtain ⟨j1, j2, j3⟩ := hJ
    have L' := j2.Y L ga
    obtain ⟨k1, k2, k3, k4⟩ := j2.k K
    obtain ⟨u, b, u1, u2', u3, u4, u5, ⟨u6, u7, u8⟩, u9⟩ := k4 j hj
    rw [zaL_v (t := 3) k1 k2, k3, Option.bind_some, if_neg (nI_nle' (by omega) hj)]
    refine zS.e (L'.p 3) ?_
    rw [L'.2.2.1.1]
    refine zS.e (zaP_v (t := 3) (n := tLen t) k1 k2 k3 hj (by omega)) ?_
    rw [u1]
    refine zS.e (ccost_s u2' u3 u4) ?_
    refine zS.e L'.o ?_
    refine zS.b (cchp_eq hn L' L'.2.2.1.2 u5 (by omega) j1 u9 (tCp2_le nm _) (tCost_le M1 nm _)) (fun t2 ⟨d1, d2⟩ => ?_)
    refine zS.s ⟨_, by rw [nI_1], ?_, j2.tr (a3.of d2 (Or.inr (Or.inl rfl))), d2.h (j2.g ga) hy2 j3⟩
    rw [tCp_S hj1 hj]
    exact d1
  · dsimp only
    obtain ⟨k1, k2, k3, k4⟩ := hJ.2.1.k K
    rw [zaL_v (t := 3) k1 k2, k3, Option.bind_some, if_pos (nI_le (Nat.le_refl _) (by omega))]
    refine zS.s ⟨_, rfl, ?_, hJ.2⟩
    have := hJ.1
    rw [tPre_all] at this
    exact this
  · rw [tCp_1 h1, a1 k (by omega)]
  · have L2 := b2.Y L ga
    refine zS.e (L2.p 3) ?_
    rw [L2.2.2.1.1]
    refine zS.e (L2.p 4) ?_
    rw [L2.2.2.2.1]
    refine zS.e L2.o ?_
    refine zS.b (ccpy_eq hn L2 L2.2.2.1.2 L2.2.2.2.2 (by omega) b1) (fun s3 ⟨c1, c2⟩ => ?_)
    have A3 : a3 a Y h s3 := b2.tr (a3.of c2 (Or.inr (Or.inr rfl)))
    have L3 := A3.Y L ga
    have H3 : aH s3 a n (tCost 1000000 n nm (tKid t 0)) := c2.h (b2.g ga) hy3 b3
    refine zS.e (L3.p 4) ?_
    rw [L3.2.2.2.1]
    refine zS.e L3.o ?_
    refine zS.b (crow1_eq hn L3 L3.2.2.2.2 (A3.g ga) (by omega) c1 H3 (tCp2_le nm _) (tCost_le M1 nm _)) (fun s4 ⟨d1, d2⟩ => ?_)
    have A4 : a3 a Y h s4 := A3.tr (a3.of d2 (Or.inr (Or.inr rfl)))
    have H4 : aH s4 a n (tCost 1000000 n nm (tKid t 0)) := d2.h (A3.g ga) hy3 H3
    generalize ehd : tCost 1000000 n nm (tKid t 0) = hd at *
    generalize erd : cBeh 1000000 n (tCp 1000000 n nm t).2 hd = rd at d1
    have hh : ∀ k, hd k ≤ 1000000 := by rw [← ehd]; exact tCost_le M1 nm _
    have hr : ∀ k, rd k ≤ 1000000 := fun k => by rw [← erd]; exact cBehF_le _ _ _ _ _
    have p0 := Nat.two_pow_pos n
    have fin : cLpT n hd rd (2 ^ n) = tCost 1000000 n nm t := by
      have e16 := tCp_16 (M := 1000000) (n := n) (nm := nm) hl (tLen t) h1 (Nat.le_refl _)
      rw [tPre_all, ehd] at e16
      unfold tCost cFin
      rw [if_pos hl, e16, erd]
    refine zS.b (R1 := fun h' => aH h' a n (cLpT n hd rd (2 ^ n)) ∧ aO a s4 h') (zS.up (fun k h' => aH h' a n (cLpT n hd rd k) ∧ aO a s4 h') 1 (2 ^ n) (fun k h' k1 hk hJ => ?_) (fun h' hJ => ?_) p0 (by omega) ⟨fun k hk => ?_, aO.rf⟩) (fun r hr => zS.s ⟨by rw [← fin]; exact hr.1, A4.tr (a3.of hr.2 (Or.inl rfl))⟩)
    · dsimp only
      obtain ⟨j1, j2⟩ := hJ
      have L5 := (A4.tr (a3.of j2 (Or.inl rfl))).Y L ga
      rw [L5.z, Option.bind_some, if_neg (nI_nle' (by omega) hk)]
      refine zS.b (R1 := fun h2 => aH h2 a n (cLpT n hd rd (k + 1)) ∧ aO a s4 h2) (zS.up (fun t h2 => (zi h2 a k = nI (cLpI (cLpT n hd rd k) rd k (hd k) t) ∧ ∀ i, i ≠ k → zi h2 a i = zi h' a i) ∧ aO a s4 h2) 0 n (fun t h2 _ ht hI => ?_) (fun h2 hI => ?_) (Nat.zero_le _) (by omega) ⟨⟨by rw [j1 k hk, cLpT_ge _ _ _ _ _ (Nat.le_refl _)]; rfl, fun i hi => rfl⟩, j2⟩) (fun h2 hs2 => zS.s ⟨h2, by rw [nI_1], hs2⟩)
      · dsimp only
        obtain ⟨⟨i1, i2⟩, i3⟩ := hI
        have L6 := (A4.tr (a3.of i3 (Or.inl rfl))).Y L ga
        have g6 : aG h2 a := i3.g (A4.g ga)
        have b1 := cLpI_le (cLpT n hd rd k) rd k (hd k) t
        have b0 := hh k
        have b2 := cLpT_le (n := n) (rd := rd) hh k (k % 2 ^ t)
        have b3 := hr (k - k % 2 ^ t)
        have hm : k % 2 ^ t ≤ k := Nat.mod_le _ _
        have e : cLpI (cLpT n hd rd k) rd k (hd k) (t + 1) = if k % 2 ^ t = k then cLpI (cLpT n hd rd k) rd k (hd k) t else min (cLpI (cLpT n hd rd k) rd k (hd k) t) (cLpT n hd rd k (k % 2 ^ t) + rd (k - k % 2 ^ t)) := rfl
        rw [L6.l, Option.bind_some, if_neg (nI_nle' (by omega) ht), bt_mask t (by omega) k (by omega)]
        refine zS.b (R1 := fun h3 => (zi h3 a k = nI (cLpI (cLpT n hd rd k) rd k (hd k) (t + 1)) ∧ ∀ i, i ≠ k → zi h3 a i = zi h' a i) ∧ aO a s4 h3) ?_ (fun h3 hs3 => zS.s ⟨h3, by rw [nI_1], hs3⟩)
        rw [e]
        by_cases z : k % 2 ^ t = k
        · rw [if_pos (by rw [z]), if_pos z]
          exact zS.s ⟨⟨i1, i2⟩, i3⟩
        · have := mod_ne_lt z
          rw [if_neg (fun y => z ((nI_eq (by omega) (by omega)).mp y)), if_neg z, bt_xor t (by omega) k (by omega)]
          refine zS.e (zaI_g g6 (by omega)) (zS.e (zaI_g g6 (by omega)) (zS.e (L6.p 4) ?_))
          rw [L6.2.2.2.1]
          refine zS.e (zaI_g L6.2.2.2.2 (by omega)) (zS.e (zbI_g g6 (by omega)) (zS.s ⟨⟨?_, fun i hi => ?_⟩, i3.tr aO.u⟩))
          · rw [zi_sI, u2_s, i1, i2 _ (by omega), j1 _ (by omega), i3.i (A4.g g3).1 (by omega), d1 _ (by omega), nI_add, nI_minl (by omega) (by omega)]
          · rw [zi_sI, u2_n (by omega)]; exact i2 i hi
      · dsimp only
        have L6 := (A4.tr (a3.of hI.2 (Or.inl rfl))).Y L ga
        rw [L6.l, Option.bind_some, if_pos (nI_le (Nat.le_refl _) (by omega))]
        refine zS.s ⟨_, rfl, fun i hi => ?_, hI.2⟩
        show _ = nI (if i = k then _ else _)
        by_cases e : i = k
        · subst e; rw [if_pos rfl]; exact hI.1.1
        · rw [if_neg e, hI.1.2 i e]; exact j1 i hi
    · dsimp only
      have L6 := (A4.tr (a3.of hJ.2 (Or.inl rfl))).Y L ga
      rw [L6.z, Option.bind_some, if_pos (nI_le (Nat.le_refl _) (by omega))]
      exact zS.s ⟨_, rfl, hJ⟩
    · rw [H4 k hk]
      show _ = nI (if k = 0 then _ else _)
      by_cases e : k = 0
      · subst e; rw [if_pos rfl, cLpI_0]
      · rw [if_neg e]; rfl
theorem cparts_eq {h : Zh} {Y n a w : Nat} {nm : Nat → Int32} {t : Tr} (hn : n ≤ 6) (L : LY h Y n nm) (ga : aG h a) (hy2 : a ≠ Y + 2) (hy3 : a ≠ Y + 3) (K : kRow h Y n a w nm t) (lab : tLab t ≤ 16) (l13 : 13 ≤ tLab t) (h1 : 1 ≤ tLen t) (hz : tLen t < 90000) :
    zS (fX1_weighParts h (some Y) (some a) (nI (tKd (tLab t))) (some w)) (fun h' => aH h' a n (tCost 1000000 n nm t) ∧ a3 a Y h h') := by
  have h64 := p2_64 hn
  have M1 : (1 : Nat) ≤ 1000000 := by omega
  unfold fX1_weighParts
  refine zS.b (R1 := fun h' => aH h' a n (tCp 1000000 n nm t).1 ∧ aO a h h') (zS.up (fun j h' => (j ≠ 0 → aH h' a n (tCp 1000000 n nm (tPre t j)).1) ∧ aO a h h') 0 (tLen t) (fun j h' _ hj hJ => ?_) (fun h' hJ => ?_) (Nat.zero_le _) (by omega) ⟨fun z => absurd rfl z, aO.rf⟩) (fun s2 ⟨b1, b2⟩ => ?_)
  · dsimp only
    obtain ⟨j1, j2⟩ := hJ
    have A2 : a3 a Y h h' := a3.of j2 (Or.inl rfl)
    have L' := A2.Y L ga
    obtain ⟨k1, k2, k3, k4⟩ := A2.k K
    obtain ⟨u, b, u1, u2', u3, u4, u5, ⟨u6, u7, u8⟩, u9⟩ := k4 j hj
    have gb := tCost_le (n := n) M1 nm (tKid t j)
    have gc := tCp_le (n := n) M1 nm (tPre t j)
    rw [zaL_v (t := 3) k1 k2, k3, Option.bind_some, if_neg (nI_nle' (by omega) hj)]
    refine zS.e (zaP_v (t := 3) (n := tLen t) k1 k2 k3 hj (by omega)) ?_
    rw [u1]
    refine zS.e (ccost_s u2' u3 u4) ?_
    refine zS.b (R1 := fun h2 => aH h2 a n (tCp 1000000 n nm (tPre t (j + 1))).1 ∧ aO a h h2) ?_ (fun h2 hs2 => zS.s ⟨h2, by rw [nI_1], fun _ => hs2.1, hs2.2⟩)
    by_cases z : j = 0
    · subst z
      rw [if_pos (show nI 0 = (0 : Int32) from rfl), tCp_1 h1]
      refine zS.e L'.o (zS.b (ccpy_eq hn L' u5 (j2.g ga) u6 u9) (fun r hr => zS.s ⟨hr.1, j2.tr hr.2⟩))
    · have J := j1 z
      rw [if_neg (nI_ne0 (by omega) (by omega)), tCp_S (by omega) hj]
      show zS _ (fun h2 => aH h2 a n (if tLab t = 13 then _ else _) ∧ _)
      by_cases k2 : tLab t = 13
      · rw [if_pos ((tKd_2 lab).mpr k2), if_pos k2]
        refine zS.e L'.o (zS.b (crow1_eq hn L' (j2.g ga) u5 u6.symm J u9 gc gb) (fun r hr => zS.s ⟨hr.1, j2.tr hr.2⟩))
      · rw [if_neg (fun z => k2 ((tKd_2 lab).mp z)), if_neg k2]
        by_cases k3 : tLab t = 14
        · rw [if_pos ((tKd_3 lab).mpr k3), if_pos k3]
          refine zS.e L'.o (zS.b (cchp_eq hn L' (j2.g ga) u5 u6.symm J u9 gc gb) (fun r hr => zS.s ⟨hr.1, j2.tr hr.2⟩))
        · rw [if_neg (fun z => k3 ((tKd_3 lab).mp z)), if_neg k3]
          by_cases k4 : tLab t = 15
          · rw [if_pos ((tKd_4 lab).mpr k4), if_pos k4]
            refine zS.e L'.o (zS.b (cmix_eq hn L' (j2.g ga) u5 u6.symm J u9 gc gb) (fun r hr => zS.s ⟨hr.1, j2.tr hr.2⟩))
          · rw [if_neg (fun z => k4 ((tKd_4 lab).mp z)), if_neg k4]
            exact zS.s ⟨J, j2⟩
  · dsimp only
    obtain ⟨k1, k2, k3, k4⟩ := (a3.of (Y := Y) hJ.2 (Or.inl rfl)).k K
    rw [zaL_v (t := 3) k1 k2, k3, Option.bind_some, if_pos (nI_le (Nat.le_refl _) (by omega))]
    refine zS.s ⟨_, rfl, ?_, hJ.2⟩
    have := hJ.1 (by omega)
    rw [tPre_all] at this
    exact this
  · have A2 : a3 a Y h s2 := a3.of b2 (Or.inl rfl)
    have L' := A2.Y L ga
    by_cases k5 : tLab t = 16
    · rw [if_pos ((tKd_5 lab).mpr k5)]
      have e16 := tCp_16 (M := 1000000) (n := n) (nm := nm) k5 (tLen t) h1 (Nat.le_refl _)
      rw [tPre_all] at e16
      rw [e16] at b1
      refine zS.b (R1 := fun h' => aH h' a n (tCost 1000000 n nm t) ∧ a3 a Y h h') ?_ (fun r hr => zS.s hr)
      exact zS.e L'.o (zS.b (crounds_eq hn L' (A2.g ga) hy2 hy3 (A2.k K) k5 h1 hz b1) (fun r hr => zS.s ⟨hr.1, A2.tr hr.2⟩))
    · rw [if_neg (fun z => k5 ((tKd_5 lab).mp z))]
      refine zS.s ⟨?_, A2⟩
      unfold tCost cFin
      rw [if_neg k5]
      exact b1
theorem cwdeed_eq {h : Zh} {Y n a v w : Nat} {P : Nat → Prop} {nm : Nat → Int32} {t : Tr} (hn : n ≤ 6) (hnm : ∀ i, i < n → mnm (nm i) 12) (L : LY h Y n nm) (ga : aG h a) (nd : zNd P h v w t) (g : tG t) (h0 : tLen t = 0) (lab : tLab t < 13) : zS (fX1_weighDeed h (some Y) (some a) (some v)) (fun h' => aH h' a n (tCost 1000000 n nm t) ∧ aO a h h') := by
  have h64 := p2_64 hn
  have p0 := Nat.two_pow_pos n
  obtain ⟨-, n2, n3, n4, n5, n6, n7, n8⟩ := nd.1
  have va : v ≠ a := by rintro rfl; have := ga.2.1; omega
  unfold fX1_weighDeed
  refine zS.b (cfill64 ga) (fun s1 ⟨a1, o1⟩ => ?_)
  have e1 := o1.1.2 v n2
  refine zS.e (zfI_v (ci := 3) (by rw [o1.2.1]; exact n2) (e1.1.trans n3)) ?_
  rw [o1.i n2 va, n8]
  refine zS.e (show zbI s1 (some a) (nI 0) _ = _ from zbI_g (o1.g ga) (by omega)) ?_
  refine zS.b (R1 := fun h' => aH h' a n (cDeedF 1000000 nm (tLab t) n) ∧ aO a h h') (zS.up (fun i h' => (∀ k, k < 64 → zi h' a k = nI (cDeedF 1000000 nm (tLab t) i k)) ∧ aO a h h') 0 n (fun i h' _ hi hJ => ?_) (fun h' hJ => ?_) (Nat.zero_le _) (by omega) ⟨fun k hk => ?_, o1.tr aO.u⟩) (fun r hr => zS.s ⟨by rw [tCost_leaf h0 (by omega)]; exact hr.1, hr.2⟩)
  · dsimp only
    obtain ⟨j1, j2⟩ := hJ
    have L' := j2.Y L ga
    have pi : 2 ^ i < 64 := Nat.lt_of_lt_of_le (Nat.pow_lt_pow_right (by omega) hi) h64
    have e2 := j2.1.2 v n2
    rw [L'.l, Option.bind_some, if_neg (nI_nle' (by omega) hi)]
    refine zS.e (L'.p 0) ?_
    rw [L'.2.1.1]
    refine zS.e (zaI_v (n := 6) (by have := L'.1.1; omega) L'.2.1.2.1 L'.2.1.2.2.1 (by omega) (by omega)) ?_
    rw [L'.2.1.2.2.2 i hi]
    refine zS.e (zfI_v (ci := 3) (by rw [j2.2.1]; exact n2) (e2.1.trans n3)) ?_
    rw [j2.i n2 va, n5]
    refine zS.b (R1 := fun h2 => (∀ k, k < 64 → zi h2 a k = nI (cDeedF 1000000 nm (tLab t) (i + 1) k)) ∧ aO a h h2) ?_ (fun h2 hs2 => zS.s ⟨h2, by rw [nI_1], hs2⟩)
    by_cases e : nm i = tNm (tLab t)
    · rw [if_pos e, bt_pow i (by omega)]
      refine zS.e (zbI_g (j2.g ga) pi) (zS.s ⟨fun k hk => ?_, j2.tr aO.u⟩)
      rw [zi_sI]
      show _ = nI (if k = 2 ^ i then (if nm i = tNm (tLab t) then 0 else 1000000) else _)
      rw [if_pos e]
      by_cases z : k = 2 ^ i
      · subst z; rw [u2_s, if_pos rfl]; rfl
      · rw [u2_n (by omega), if_neg z]; exact j1 k hk
    · rw [if_neg e]
      refine zS.s ⟨fun k hk => ?_, j2⟩
      show _ = nI (if k = 2 ^ i then (if nm i = tNm (tLab t) then 0 else 1000000) else _)
      rw [if_neg e, j1 k hk]
      by_cases z : k = 2 ^ i
      · rw [if_pos z]
        have : ∀ i', i' ≤ i → cDeedF 1000000 nm (tLab t) i' k = 1000000 := by
          intro i'
          induction i' with
          | zero =>
            intro _
            show (if k = 0 then _ else _) = _
            rw [if_neg (by have := Nat.two_pow_pos i; omega)]
          | succ i' ih =>
            intro hle
            show (if k = 2 ^ i' then _ else _) = _
            have : 2 ^ i' < 2 ^ i := Nat.pow_lt_pow_right (by omega) (by omega)
            rw [if_neg (by omega)]
            exact ih (by omega)
        rw [this i (Nat.le_refl _)]
      · rw [if_neg z]
  · dsimp only
    have L' := hJ.2.Y L ga
    rw [L'.l, Option.bind_some, if_pos (nI_le (Nat.le_refl _) (by omega))]
    exact zS.s ⟨_, rfl, fun k hk => hJ.1 k (by omega), hJ.2⟩
  · rw [zi_sI]
    show _ = nI (if k = 0 then (if tLab t < 12 then 1 else 0) else 1000000)
    by_cases e : k = 0
    · subst e
      rw [u2_s, if_pos rfl]
      rw [tG_0 t h0]
      rfl
    · rw [u2_n (by omega), if_neg e]; exact a1 k hk
