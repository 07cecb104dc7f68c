/-! the pieces as the class keeps them; pa: their places -/
abbrev aB (X : Nat) : Nat → Prop := fun u => X + 94 ≤ u
def cPs (h : Zh) (X : Nat) (pa : Nat → Nat) (p : Mp) : Prop := (∀ q, q < pn p → zp h (X + 2) q = some (pa q) ∧ zi h (pa q) 5 = nI q ∧ (∃ w, zNd (aB X) h (pa q) w (pT p q) ∧ ∀ j, j < (ppt p q).length → zp h w j = some (pa ((ppt p q).getD j 0))) ∧ (zp h (pa q) 6 = none ∨ ∃ c, zp h (pa q) 6 = some c ∧ aB X c ∧ c < zn h ∧ zk h c = 100 ∧ zl h c = 64)) ∧
  ∀ q r c, q < pn p → r < pn p → zp h (pa q) 6 = some c → zp h (pa r) 6 = some c → q = r
def cPc (h : Zh) (X : Nat) (pa : Nat → Nat) (p : Mp) : Prop := zi h X 3 = nI (pn p) ∧ cPs h X pa p
theorem cPs.tree {h : Zh} {X : Nat} {pa : Nat → Nat} {p : Mp} (c : cPs h X pa p) (ok : pOK p) : ∀ q, q < pn p → ∃ w l, zNd (aB X) h (pa q) w (pT p q) ∧ (∀ j, j < (ppt p q).length → zp h w j = some (pa ((ppt p q).getD j 0))) ∧ zFo (aB X) h (pT p q) w l := by
  intro q
  induction q using Nat.strongRecOn with
  | ind q ih =>
    intro hq
    obtain ⟨-, -, ⟨w, n, a⟩, -⟩ := c.1 q hq
    have key : ∀ l : List Nat, (∀ j, j ∈ l → j < q) → (∀ j, j < l.length → zp h w j = some (pa (l.getD j 0))) → ∃ l', zFo (aB X) h (tFold (tLb (pkd p q) (pnm p q)) (pT p) l) w l' := by
      apply snocInd
      · intro _ _; exact ⟨[], rfl⟩
      · intro l x il h1 h2
        obtain ⟨l1, f1⟩ := il (fun j hj => h1 j (by simp [hj])) (fun j hj => by rw [h2 j (by rw [List.length_append]; exact Nat.lt_add_right _ hj), getD_app1 _ _ _ hj])
        have hx := h1 x (by simp)
        obtain ⟨w2, l2, n2, -, f2⟩ := ih x hx (by omega)
        rw [tFold_app]
        refine ⟨l1 ++ (l2 ++ [pa x]), l1, l2, pa x, w2, rfl, f1, ?_, n2, f2⟩
        rw [tFold_len, h2 l.length (by rw [List.length_append]; exact Nat.lt_succ_self _), getD_app2]
    obtain ⟨l', f⟩ := key (ppt p q) (ok.2 q hq).2.1 a
    rw [← pT_eq ok hq] at f
    exact ⟨w, l', n, a, f⟩
theorem cPs.inj {h : Zh} {X : Nat} {pa : Nat → Nat} {p : Mp} (c : cPs h X pa p) (ok : pOK p) {q r : Nat} (hq : q < pn p) (hr : r < pn p) (e : pa q = pa r) : q = r := by
  have h200 := ok.1
  have h1 := (c.1 q hq).2.1
  have h2 := (c.1 r hr).2.1
  rw [e, h2] at h1
  exact ((nI_eq (by omega) (by omega)).mp h1).symm
/-- the pieces stay where their cells stay -/
theorem cPs.ext {S : Nat → Prop} {h h' : Zh} {X : Nat} {pa : Nat → Nat} {p : Mp} (e : zExt S h h') (c : cPs h X pa p) (hp : ∀ k, zp h' (X + 2) k = zp h (X + 2) k) (hS : ∀ u, X + 94 ≤ u → u < zn h → zk h u = 4 ∨ zk h u = 103 → ¬ S u) : cPs h' X pa p := by
  have key : ∀ q, q < pn p → zi h' (pa q) = zi h (pa q) ∧ zp h' (pa q) = zp h (pa q) := by
    intro q hq
    obtain ⟨-, -, ⟨w, n, a⟩, -⟩ := c.1 q hq
    exact (e.2 (pa q) n.1.2.1).2.2 (hS _ n.1.1 n.1.2.1 (Or.inl n.1.2.2.1))
  refine ⟨fun q hq => ?_, fun q r d hq hr e1 e2 => c.2 q r d hq hr ?_ ?_⟩
  · obtain ⟨k1, k2⟩ := key q hq
    obtain ⟨c1, c2, ⟨w, n, a⟩, c4⟩ := c.1 q hq
    obtain ⟨f1, f2, f3⟩ := e.2 (pa q) n.1.2.1
    obtain ⟨g1, g2, g3⟩ := e.2 w n.2.2.1
    have gp := (g3 (hS _ n.2.1 n.2.2.1 (Or.inr n.2.2.2.1))).2
    refine ⟨(hp q).trans c1, by rw [k1]; exact c2, ⟨w, ⟨⟨n.1.1, Nat.lt_of_lt_of_le n.1.2.1 e.1.1, f1.trans n.1.2.2.1, ?_, ?_, ?_, ?_, ?_⟩, n.2.1, Nat.lt_of_lt_of_le n.2.2.1 e.1.1, g1.trans n.2.2.2.1, g2.trans n.2.2.2.2⟩, fun j hj => by rw [gp]; exact a j hj⟩, ?_⟩
    · rw [k1]; exact n.1.2.2.2.1
    · rw [k1]; exact n.1.2.2.2.2.1
    · rw [k2]; exact n.1.2.2.2.2.2.1
    · rw [k1]; exact n.1.2.2.2.2.2.2.1
    · rw [k1]; exact n.1.2.2.2.2.2.2.2
    · rw [k2]
      rcases c4 with c4 | ⟨d, d1, d2, d3, d4, d5⟩
      · exact Or.inl c4
      · obtain ⟨x1, x2, -⟩ := e.2 d d3
        exact Or.inr ⟨d, d1, d2, Nat.lt_of_lt_of_le d3 e.1.1, x1.trans d4, x2.trans d5⟩
  · rw [← (key q hq).2]; exact e1
  · rw [← (key r hr).2]; exact e2
theorem cPc.ext {S : Nat → Prop} {h h' : Zh} {X : Nat} {pa : Nat → Nat} {p : Mp} (e : zExt S h h') (c : cPc h X pa p) (h3 : zi h' X 3 = zi h X 3) (hp : ∀ k, zp h' (X + 2) k = zp h (X + 2) k) (hS : ∀ u, X + 94 ≤ u → u < zn h → zk h u = 4 ∨ zk h u = 103 → ¬ S u) : cPc h' X pa p := ⟨h3.trans c.1, c.2.ext e hp hS⟩
/-- a piece is entered -/
abbrev zEn (X : Nat) (h : Zh) (m v : Nat) : Zh := zsetI (zsetP h (X + 2) m (some v)) v 5 (nI m)
theorem zEn_sm (X : Nat) (h : Zh) (m v : Nat) : zSm (aB X) h (zEn X h m v) := by
  intro u hu hl
  have hu' : X + 94 ≤ u := hu
  refine ⟨hl, rfl, rfl, fun _ => ⟨fun k hk => ?_, ?_⟩, fun _ => ?_⟩
  · show u2 (zi h) v 5 (nI m) u k = _
    rw [u2_n (by omega)]
  · show u2 (zp h) (X + 2) m (some v) u 2 = _
    rw [u2_a (by omega)]
  · show u2 (zp h) (X + 2) m (some v) u = _
    funext j
    rw [u2_a (by omega)]
theorem zEn_p {X : Nat} {h : Zh} {m v u : Nat} (hu : X + 94 ≤ u) : zp (zEn X h m v) u = zp h u := by
  show u2 (zp h) (X + 2) m (some v) u = _
  funext j
  rw [u2_a (by omega)]
theorem cPs.enter {h : Zh} {X : Nat} {pa : Nat → Nat} {p : Mp} {k v w : Nat} {x : Int32} {l : List Nat} (c : cPs h X pa p) (ok : pOK p) (ok' : pOK (pAdd p k x l)) (hv : ∀ q, q < pn p → pa q ≠ v) (nd : zNd (aB X) h v w (pT (pAdd p k x l) (pn p))) (ha : ∀ j, j < l.length → zp h w j = some (pa (l.getD j 0))) (hc : zp h v 6 = none) : cPs (zEn X h (pn p) v) X (m1 pa (pn p) v) (pAdd p k x l) := by
  have sm := zEn_sm X h (pn p) v
  have hl : ∀ j, j ∈ l → j < pn p := by
    have := (ok'.2 (pn p) (Nat.lt_succ_self _)).2.1
    rw [show ppt (pAdd p k x l) (pn p) = l from m1_s] at this
    exact this
  have hvb : X + 94 ≤ v := nd.1.1
  have six : ∀ q, q < pn p + 1 → q ≠ pn p → zp (zEn X h (pn p) v) (m1 pa (pn p) v q) 6 = zp h (pa q) 6 := by
    intro q hq e
    obtain ⟨-, -, ⟨w, n, a⟩, -⟩ := c.1 q (by omega)
    rw [m1_n e, zEn_p n.1.1]
  have six0 : zp (zEn X h (pn p) v) (m1 pa (pn p) v (pn p)) 6 = none := by rw [m1_s, zEn_p hvb, hc]
  refine ⟨fun q hq => ?_, fun q r d hq hr e1 e2 => ?_⟩
  · have hq' : q < pn p + 1 := hq
    by_cases e : q = pn p
    · subst e
      rw [m1_s, show ppt (pAdd p k x l) (pn p) = l from m1_s]
      refine ⟨?_, ?_, ⟨w, nd.on sm, fun j hj => ?_⟩, Or.inl ?_⟩
      · show u2 (zp h) (X + 2) (pn p) (some v) (X + 2) (pn p) = _
        rw [u2_s]
      · show u2 (zi h) v 5 (nI (pn p)) v 5 = _
        rw [u2_s]
      · have := hl _ (getD_mem l j hj)
        rw [zEn_p nd.2.1, ha j hj, m1_n (by omega)]
      · rw [zEn_p hvb, hc]
    · obtain ⟨c1, c2, ⟨w', n, a⟩, c4⟩ := c.1 q (by omega)
      rw [m1_n e, show ppt (pAdd p k x l) q = ppt p q from m1_n e, pAdd_T ok (by omega)]
      have hb : X + 94 ≤ pa q := n.1.1
      refine ⟨?_, ?_, ⟨w', n.on sm, fun j hj => ?_⟩, ?_⟩
      · show u2 (zp h) (X + 2) (pn p) (some v) (X + 2) q = _
        rw [u2_n (by omega)]; exact c1
      · show u2 (zi h) v 5 (nI (pn p)) (pa q) 5 = _
        rw [u2_a (hv q (by omega))]; exact c2
      · have := (ok.2 q (by omega)).2.1 _ (getD_mem _ j hj)
        rw [zEn_p n.2.1, a j hj, m1_n (by omega)]
      · rw [zEn_p hb]
        exact c4
  · have hq' : q < pn p + 1 := hq
    have hr' : r < pn p + 1 := hr
    by_cases z1 : q = pn p
    · rw [z1, six0] at e1; cases e1
    · by_cases z2 : r = pn p
      · rw [z2, six0] at e2; cases e2
      · rw [six q hq' z1] at e1
        rw [six r hr' z2] at e2
        exact c.2 q r d (by omega) (by omega) e1 e2
theorem cpiece_at {h : Zh} {X : Nat} {pa : Nat → Nat} {p : Mp} (f : cFix h X) (c : cPc h X pa p) (ok : pOK p) (a : Int32) : fX5_pieceAt h (some X) a = some (if mnm a (pn p) then some (pa a.toNatClampNeg) else none) := by
  have h200 := ok.1
  have f0 := f.1
  unfold fX5_pieceAt
  rw [zfI_v (by omega) f.2.1.1, c.1]
  by_cases hc : mnm a (pn p)
  · obtain ⟨ec, lc⟩ := mnm_nI hc
    rw [if_pos hc]
    generalize a.toNatClampNeg = k at ec lc
    subst ec
    rw [if_neg (nI_pos (by omega)), Option.bind_some, if_neg (nI_nle' (by omega) lc), zfP_v (by omega) f.2.1.1, f.2.1.2.2.1, Option.bind_some, zaL_v (t := 3) (by omega) f.2.2.2.1.1, f.2.2.2.1.2, Option.bind_some,
      if_neg (nI_nle' (by omega) (by omega)), Option.bind_some, zaP_v (t := 3) (n := 200) (by omega) f.2.2.2.1.1 f.2.2.2.1.2 (by omega) (by omega), (c.2.1 k lc).1]
    rfl
  · rw [if_neg hc]
    rcases mnm_not (by omega) hc with q | q
    · rw [if_pos q]; rfl
    · by_cases z : a < 0
      · rw [if_pos z]; rfl
      · rw [if_neg z, Option.bind_some, if_pos q]; rfl
/-! a new piece whose parts are in already is kept -/
theorem centerN {h : Zh} {u r : Nat} {a3 d : Int32} {n : Nat} (hu : u < zn h) (hk : zk h u = 4) (h5 : zi h u 5 ≠ -3) : fX5_enter (n + 1) h (some u) (some r) a3 d = some (a3, h) := by
  show fX5_enterB (fX5_enter n) h (some u) (some r) a3 d = _
  unfold fX5_enterB
  rw [zfI_v (ci := 3) hu hk, Option.bind_some, if_neg h5]
theorem center1 {h : Zh} {X v w m n d : Nat} {t : Tr} (f : cFix h X) (nd : zNd (aB X) h v w t) (h5 : zi h v 5 = -3) (hp : ∀ j, j < tLen t → ∃ u, zp h w j = some u ∧ u < zn h ∧ zk h u = 4 ∧ zi h u 5 ≠ -3) (hm : m < 200) (hd : d ≤ 40) (hl : tLen t < 90000) :
    fX5_enter (n + 2) h (some v) (some (X + 2)) (nI m) (nI d) = some (nI (m + 1), zEn X h m v) := by
  have f0 := f.1
  obtain ⟨⟨n1, n2, n3, n4, n5, n6, n7, n8⟩, n9, n10, n11, n12⟩ := nd
  show fX5_enterB (fX5_enter (n + 1)) h (some v) (some (X + 2)) (nI m) (nI d) = _
  unfold fX5_enterB
  rw [zfI_v (ci := 3) n2 n3, Option.bind_some, if_pos h5, if_pos (show nI d ≤ (40 : Int32) from nI_le (b := 40) hd (by omega))]
  have q := zloop_eq (f := fun ((v2, v3, h4) : Int32 × Int32 × Zh) =>
        ((zfP h4 (some v) 3 2).bind fun r9 =>
        (zaL h4 r9 3).bind fun x10 =>
        if x10 ≤ v3 then
          some (.inr (v2, h4))
        else
          (zfP h4 (some v) 3 2).bind fun r11 =>
          (zaP h4 r11 3 v3).bind fun r12 =>
          (fX5_enter (n + 1) h4 r12 (some (X + 2)) v2 (nI d + (1 : Int32))).bind fun ((x13, h14) : Int32 × Zh) =>
          some (.inl (x13, v3 + (1 : Int32), h14)) : Option ((Int32 × Int32 × Zh) ⊕ (Int32 × Zh)))) (fun j => (nI m, nI j, h)) (tLen t) (r := (nI m, h)) (n := zFU) (fun j hj => by
      show (zfP h (some v) 3 2).bind _ = _
      obtain ⟨u, u1, u2, u3, u4⟩ := hp j hj
      rw [zfP_v (ci := 3) n2 n3, n6, Option.bind_some, zaL_v (t := 3) n10 n11, n12, Option.bind_some, if_neg (nI_nle' (by omega) hj), Option.bind_some, zaP_v (t := 3) (n := tLen t) n10 n11 n12 hj (by omega), Option.bind_some, u1, centerN u2 u3 u4, Option.bind_some, nI_1]) (by
      show (zfP h (some v) 3 2).bind _ = _
      rw [zfP_v (ci := 3) n2 n3, n6, Option.bind_some, zaL_v (t := 3) n10 n11, n12, Option.bind_some, if_pos (nI_le (Nat.le_refl _) (by omega))]) (by rw [zFU_v]; omega)
  refine (congrArg (fun o : Option (Int32 × Zh) => o.bind fun ((w5, h6) : Int32 × Zh) =>
      if w5 < 0 then
        some (nI m, h6)
      else
        (zaL h6 (some (X + 2)) 3).bind fun x15 =>
        if w5 < x15 then
          (zbP h6 (some (X + 2)) 3 3 w5 (some v)).bind fun h16 =>
          (zgI h16 (some v) 3 5 w5).bind fun h17 =>
          some (w5 + (1 : Int32), h17)
        else
          some (nI m, h6)) q).trans ?_
  show (if nI m < 0 then _ else _) = _
  rw [if_neg (nI_pos (by omega)), zaL_v (t := 3) (by omega) f.2.2.2.1.1, f.2.2.2.1.2, Option.bind_some, if_pos (nI_lt hm (by omega)), zbP_v (t := 3) (n := 200) (ci := 3) (by omega) f.2.2.2.1.1 f.2.2.2.1.2 hm (by omega) n2 n3, Option.bind_some, zgI_v (ci := 3) (by exact n2) (by exact n3), Option.bind_some, nI_1]
/-- what a piece call may touch of what was there -/
abbrev sPq (X : Nat) : Nat → Prop := fun u => u = X ∨ u = X + 2
theorem ckeep1 {h : Zh} {X v w : Nat} {pa : Nat → Nat} {p : Mp} {k : Nat} {x : Int32} {l : List Nat} (f : cFix h X) (c : cPc h X pa p) (ok : pOK p) (hv : ∀ q, q < pn p → pa q ≠ v) (hl : ∀ j, j ∈ l → j < pn p) (hk : (k = 0 ∧ mnm x 12 ∧ l = []) ∨ (k = 1 ∧ x = -3 ∧ l = []) ∨ (2 ≤ k ∧ k ≤ 5 ∧ x = -3 ∧ 2 ≤ l.length))
    (nd : zNd (aB X) h v w (tFold (tLb k x) (pT p) l)) (ha : ∀ j, j < l.length → zp h w j = some (pa (l.getD j 0))) (h5 : zi h v 5 = -3) (hc : zp h v 6 = none) (hlen : l.length < 100) (hsz : 1 + pSum (psz p) l < 200) :
    ∃ h', fX5_keep h (some X) (some v) (1 : Int32) = some ((if 1 + pSum (psz p) l ≤ 60 ∧ pn p < 200 then nI (pn p) else -2), h') ∧ zExt (fun u => sPq X u ∨ u = v) h h' ∧ zn h' = zn h ∧ zs h' = zs h ∧ (∀ j, j ≠ 3 → zi h' X j = zi h X j) ∧ zp h' X = zp h X ∧ zi h' (X + 2) = zi h (X + 2) ∧
      ∃ pa', cPc h' X pa' (if 1 + pSum (psz p) l ≤ 60 ∧ pn p < 200 then pAdd p k x l else p) ∧ pOK (if 1 + pSum (psz p) l ≤ 60 ∧ pn p < 200 then pAdd p k x l else p) ∧ pn p ≤ pn (if 1 + pSum (psz p) l ≤ 60 ∧ pn p < 200 then pAdd p k x l else p) ∧ (∀ q, q < pn p → pa' q = pa q) ∧ ∀ q, pn p ≤ q → q < pn (if 1 + pSum (psz p) l ≤ 60 ∧ pn p < 200 then pAdd p k x l else p) → pa' q = v := by
  have f0 := f.1
  have h200 := ok.1
  obtain ⟨⟨n1, n2, n3, n4, n5, n6, n7, n8⟩, n9, n10, n11, n12⟩ := nd
  have hvb : X + 94 ≤ v := n1
  have esz : tSz (tFold (tLb k x) (pT p) l) = 1 + pSum (psz p) l := by
    rw [tFold_sz]
    congr 1
    exact pSum_congr _ _ _ (fun j hj => pT_sz ok j (hl j hj))
  rw [esz] at n7
  unfold fX5_keep
  rw [zfI_v (ci := 3) n2 n3, n7, Option.bind_some]
  by_cases c1 : 1 + pSum (psz p) l ≤ 60
  · rw [if_neg (show ¬ (60 : Int32) < nI (1 + pSum (psz p) l) from nI_nlt (b := 1 + pSum (psz p) l) (a := 60) c1 (by omega)), zfI_v (ci := 6) (by omega) f.2.1.1, c.1, Option.bind_some, nI_1]
    by_cases c2 : pn p < 200
    · have hyes : 1 + pSum (psz p) l ≤ 60 ∧ pn p < 200 := ⟨c1, c2⟩
      have ok' : pOK (pAdd p k x l) := by
        refine pAdd_OK ok c2 ?_ hl c1 ?_
        · rcases hk with ⟨z, -⟩ | ⟨z, -⟩ | ⟨-, z, -⟩ <;> omega
        · rcases hk with z | z | ⟨z1, -, z2⟩
          · exact Or.inl z
          · exact Or.inr (Or.inl z)
          · exact Or.inr (Or.inr ⟨z1, z2⟩)
      rw [if_pos (show nI (pn p + 1) ≤ (200 : Int32) from nI_le (b := 200) (by omega) (by omega)), zfP_v (ci := 6) (by omega) f.2.1.1, f.2.1.2.2.1, Option.bind_some, Option.bind_some]
      have e := center1 (n := 62) (d := 0) (m := pn p) f ⟨⟨n1, n2, n3, n4, n5, n6, by rw [esz]; exact n7, n8⟩, n9, n10, n11, n12⟩ h5 (fun j hj => by
        rw [tFold_len] at hj
        have hj' := hl _ (getD_mem l j hj)
        obtain ⟨-, c2', ⟨w', nn, -⟩, -⟩ := c.2.1 _ hj'
        refine ⟨_, ha j hj, nn.1.2.1, nn.1.2.2.1, ?_⟩
        rw [c2']
        intro z
        have := congrArg Int32.toInt z
        rw [nI_toInt (by omega)] at this
        have h3 : (-3 : Int32).toInt = -3 := by decide
        omega) c2 (by omega) (by rw [tFold_len]; omega)
      have e' : fX5_enter 64 h (some v) (some (X + 2)) (nI (pn p)) (0 : Int32) = some (nI (pn p + 1), zEn X h (pn p) v) := e
      rw [e', Option.bind_some, if_pos hyes, if_pos hyes]
      show ∃ h', ((zgI (zEn X h (pn p) v) (some X) 6 3 (nI (pn p + 1))).bind _) = _ ∧ _
      rw [zgI_v (ci := 6) (by show X < zn h; omega) (by exact f.2.1.1), Option.bind_some, zfI_v (ci := 3) (by exact n2) (by exact n3), Option.bind_some]
      have i5 : zi (zsetI (zEn X h (pn p) v) X 3 (nI (pn p + 1))) v 5 = nI (pn p) := by
        show u2 (u2 (zi h) v 5 (nI (pn p))) X 3 (nI (pn p + 1)) v 5 = _
        rw [u2_n (by omega), u2_s]
      rw [i5]
      have st := c.2.enter (k := k) (x := x) (l := l) ok ok' hv (by rw [pAdd_Tn ok' ok]; exact ⟨⟨n1, n2, n3, n4, n5, n6, by rw [esz]; exact n7, n8⟩, n9, n10, n11, n12⟩) ha hc
      have e3 : zExt (fun u => u = X) (zEn X h (pn p) v) (zsetI (zEn X h (pn p) v) X 3 (nI (pn p + 1))) := zExt.sI (Or.inl rfl)
      have st' := st.ext e3 (fun j => rfl) (fun u hu _ _ z => by omega)
      refine ⟨_, rfl, ?_, rfl, rfl, fun j hj => ?_, ?_, ?_, m1 pa (pn p) v, ⟨?_, st'⟩, ok', Nat.le_succ _, fun q hq => m1_n (by omega), fun q h1 h2 => ?_⟩
      · exact ((zExt.sP (S := fun u => sPq X u ∨ u = v) (Or.inl (Or.inl (Or.inr rfl)))).tr (zExt.sI (S := fun u => sPq X u ∨ u = v) (Or.inl (Or.inr rfl)))).tr (zExt.sI (S := fun u => sPq X u ∨ u = v) (Or.inl (Or.inl (Or.inl rfl))))
      · show u2 (u2 (zi h) v 5 (nI (pn p))) X 3 (nI (pn p + 1)) X j = _
        rw [u2_n (by omega), u2_n (by omega)]
      · show u2 (zp h) (X + 2) (pn p) (some v) X = _
        funext j
        rw [u2_n (by omega)]
      · show u2 (u2 (zi h) v 5 (nI (pn p))) X 3 (nI (pn p + 1)) (X + 2) = _
        funext j
        rw [u2_n (by omega), u2_n (by omega)]
      · show u2 (u2 (zi h) v 5 (nI (pn p))) X 3 (nI (pn p + 1)) X 3 = _
        rw [u2_s]
        rfl
      · have h2' : q < pn p + 1 := h2
        rw [show q = pn p by omega, m1_s]
    · rw [if_neg (show ¬ nI (pn p + 1) ≤ (200 : Int32) from nI_nle' (a := 200) (by omega) (by omega)), if_neg (fun z => c2 z.2), if_neg (fun z => c2 z.2)]
      exact ⟨h, rfl, zExt.rf, rfl, rfl, fun _ _ => rfl, rfl, rfl, pa, c, ok, Nat.le_refl _, fun _ _ => rfl, fun q h1 h2 => absurd h2 (by omega)⟩
  · rw [if_pos (show (60 : Int32) < nI (1 + pSum (psz p) l) from nI_lt (a := 60) (by omega) (by omega)), if_neg (fun z => c1 z.1), if_neg (fun z => c1 z.1)]
    exact ⟨h, rfl, zExt.rf, rfl, rfl, fun _ _ => rfl, rfl, rfl, pa, c, ok, Nat.le_refl _, fun _ _ => rfl, fun q h1 h2 => absurd h2 (by omega)⟩
