/-! deed, join, more, piece on the class's side -/
abbrev aL (X n : Nat) : Nat → Prop := fun u => X + 94 ≤ u ∧ u < n
theorem zNd.lt {X : Nat} {h : Zh} {v w : Nat} {t : Tr} (n : zNd (aB X) h v w t) : zNd (aL X (zn h)) h v w t := ⟨⟨⟨n.1.1, n.1.2.1⟩, n.1.2⟩, ⟨n.2.1, n.2.2.1⟩, n.2.2⟩
theorem zFo.lt {X : Nat} {h : Zh} : ∀ (t : Tr) (w : Nat) (l : List Nat), zFo (aB X) h t w l → zFo (aL X (zn h)) h t w l
  | .var _, _, _, f => f
  | .op t k, w, l, f => by
    obtain ⟨l1, l2, u, x, f1, f2, f3, f4, f5⟩ := f
    exact ⟨l1, l2, u, x, f1, zFo.lt t w l1 f2, f3, f4.lt, zFo.lt k x l2 f5⟩
theorem cPs.forest {h h4 : Zh} {X : Nat} {pa : Nat → Nat} {p : Mp} (c : cPs h X pa p) (ok : pOK p) (sm : zSm (aL X (zn h)) h h4) {w x : Nat} : ∀ l : List Nat, (∀ j, j ∈ l → j < pn p) → (∀ j, j < l.length → zp h4 w j = some (pa (l.getD j 0))) → ∃ l', zFo (aL X (zn h)) h4 (tFold x (pT p) l) w l' := by
  apply snocInd
  · intro _ _; exact ⟨[], rfl⟩
  · intro l y il h1 h2
    obtain ⟨l1, f1⟩ := il (fun j hj => h1 j (by simp [hj])) (fun j hj => by rw [h2 j (by rw [List.length_append]; exact Nat.lt_add_right _ hj), getD_app1 _ _ _ hj])
    obtain ⟨w2, l2, n2, -, f2⟩ := c.tree ok y (h1 y (by simp))
    rw [tFold_app]
    refine ⟨l1 ++ (l2 ++ [pa y]), l1, l2, pa y, w2, rfl, f1, ?_, n2.lt.on sm, (f2.lt).on sm _ _ _ (n2.lt.arr sm)⟩
    rw [tFold_len, h2 l.length (by rw [List.length_append]; exact Nat.lt_succ_self _), getD_app2]
/-- what a call on pieces leaves as it was -/
def zPf (X : Nat) (h h' : Zh) : Prop := zExt (sPq X) h h' ∧ (∀ j, j ≠ 3 → zi h' X j = zi h X j) ∧ zp h' X = zp h X ∧ zi h' (X + 2) = zi h (X + 2)
theorem zPf.on {h h' : Zh} {X : Nat} {ca : Nat → Nat} {m : Ml} (e : zPf X h h') (fx : cFix h X) (c : cLog h X ca m) : cFix h' X ∧ cLog h' X ca m := by
  obtain ⟨e1, e2, e3, e4⟩ := e
  have f0 := fx.1
  have q1 := ((e1.2 (X + 1) (by omega)).2.2 (fun z => z.elim (by omega) (by omega))).2
  refine ⟨cFix.ext e1 fx (fun v hv hs => ?_), cLog.ext e1 f0 c (e2 1 (by omega)) (fun k => by rw [q1]) (fun k hk => ?_)⟩
  · rcases hs with z | z
    · subst z; intro k; rw [e3]
    · exfalso
      rcases hv with y | y | y | ⟨d, _, y⟩ <;> omega
  · have := (c.2.1 k hk).2.1
    exact ⟨fun z => z.elim (by omega) (by omega), fun z => z.elim (by omega) (by omega)⟩
/-- an object and its array are made -/
theorem cmk_eq {h : Zh} {X n : Nat} (f0 : X + 94 ≤ zn h) : (zn (znew (znew h 4 0 7) 103 n n) = zn h + 2 ∧ zs (znew (znew h 4 0 7) 103 n n) = zs h + 7 + n) ∧ zExt (fun _ => False) h (znew (znew h 4 0 7) 103 n n) ∧ zk (znew (znew h 4 0 7) 103 n n) (zn h) = 4 ∧ zk (znew (znew h 4 0 7) 103 n n) (zn h + 1) = 103 ∧ zl (znew (znew h 4 0 7) 103 n n) (zn h + 1) = n ∧ zp (znew (znew h 4 0 7) 103 n n) (zn h) 6 = none := by
  refine ⟨⟨rfl, rfl⟩, zExt.nw.tr zExt.nw, ?_, ?_, ?_, ?_⟩
  · rw [zk_nw (by show zn h ≠ zn h + 1; omega), znew_k]
  · exact znew_k (znew h 4 0 7) 103 n n
  · exact if_pos rfl
  · rw [zp_nw (by show zn h ≠ zn h + 1; omega)]
    show (if zn h = zn h then none else _) = _
    rw [if_pos rfl]
/-- the pieces after a call, and which places are new -/
def cPw (h h' : Zh) (X : Nat) (pa pa' : Nat → Nat) (p p' : Mp) : Prop := cPc h' X pa' p' ∧ pNw (zn h) pa pa' (pn p) (pn p')
theorem cPw.rf {h : Zh} {X : Nat} {pa : Nat → Nat} {p : Mp} (c : cPc h X pa p) : cPw h h X pa pa p p := ⟨c, pNw.rf⟩
/-- a new piece of old parts, out of its array -/
theorem cmade_eq {h h3 : Zh} {X v w : Nat} {pa : Nat → Nat} {p : Mp} {k : Nat} {x : Int32} {l : List Nat} (f : cFix h X) (c : cPc h X pa p) (ok : pOK p) (e3 : zExt (fun u => zn h ≤ u) h h3) (n3 : zn h3 = zn h + 2) (hv0 : zn h ≤ v) (hv2 : v < zn h + 2) (hw0 : zn h ≤ w) (hw2 : w < zn h + 2) (hvw : v ≠ w) (k3 : zk h3 v = 4) (k4 : zk h3 w = 103) (l4 : zl h3 w = l.length) (p3 : zp h3 v 6 = none)
    (hl : ∀ j, j ∈ l → j < pn p) (hk : (k = 0 ∧ mnm x 12 ∧ l = []) ∨ (k = 1 ∧ x = -3 ∧ l = []) ∨ (2 ≤ k ∧ k ≤ 5 ∧ x = -3 ∧ 2 ≤ l.length)) (ha : ∀ j, j < l.length → zp h3 w j = some (pa (l.getD j 0))) (hlen : l.length < 100) (hsz : 1 + pSum (psz p) l < 200) :
    ∃ h4, fX2_init h3 (some v) (nI k) x (some w) = some h4 ∧ ∃ h', fX5_keep h4 (some X) (some v) (1 : Int32) = some ((if 1 + pSum (psz p) l ≤ 60 ∧ pn p < 200 then nI (pn p) else -2), h') ∧ zPf X h h' ∧ zn h' = zn h + 2 ∧ zs h' = zs h3 ∧ cFix h4 X ∧ zn h4 = zn h + 2 ∧
      ∃ pa', cPw h h' X pa pa' p (if 1 + pSum (psz p) l ≤ 60 ∧ pn p < 200 then pAdd p k x l else p) := by
  have f0 := f.1
  have lab : tKd (tLb k x) = k ∧ tNm (tLb k x) = x ∧ tLb k x ≤ 16 ∧ (13 ≤ tLb k x ↔ 2 ≤ k) := by
    unfold tLb
    rcases hk with ⟨a, b, -⟩ | ⟨a, b, -⟩ | ⟨a, a2, b, -⟩
    · obtain ⟨e, l⟩ := mnm_nI b
      rw [a, if_pos rfl]
      generalize x.toNatClampNeg = y at e l
      rw [e]
      refine ⟨?_, ?_, by omega, by omega⟩
      · unfold tKd; rw [if_pos l]
      · unfold tNm; rw [if_pos l]
    · rw [a, if_neg (by omega), b]
      exact ⟨rfl, rfl, by omega, by omega⟩
    · rw [if_neg (by omega), b]
      refine ⟨?_, ?_, by omega, by omega⟩
      · unfold tKd; rw [if_neg (by omega)]; omega
      · unfold tNm; rw [if_neg (by omega)]
  have hG : tG (tFold (tLb k x) (pT p) l) := by
    by_cases c13 : 13 ≤ tLb k x
    · exact tFold_G _ _ lab.2.2.1 c13 _ (fun j hj => pT_OK ok j (hl j hj))
    · have : l = [] := by
        rcases hk with ⟨a, b, z⟩ | ⟨a, b, z⟩ | ⟨a, a2, b, -⟩
        · exact z
        · exact z
        · exact absurd (lab.2.2.2.mpr a) c13
      rw [this]
      exact lab.2.2.1
  have esz : tSz (tFold (tLb k x) (pT p) l) = 1 + pSum (psz p) l := by
    rw [tFold_sz]
    congr 1
    exact pSum_congr _ _ _ (fun j hj => pT_sz ok j (hl j hj))
  have sm3 : zSm (aL X (zn h)) h h3 := zSm.ext e3 (fun u hu z => by have := hu.2; omega)
  obtain ⟨l', f3⟩ := c.2.forest ok sm3 (x := tLb k x) l hl ha
  obtain ⟨h4, i1, ⟨i2, i3, i4⟩, ⟨i5, i6⟩, i7, -⟩ := cinit_eq (P := aL X (zn h)) (v := v) (w := w) (by omega) k3 (fun z => by have := z.2; omega) (by omega) k4 (by rw [tFold_len]; exact l4) f3 hG (by omega)
  rw [tFold_lab, lab.1, lab.2.1] at i1
  refine ⟨h4, i1, ?_⟩
  have e4 : zExt (fun u => zn h ≤ u) h h4 := e3.tr (i2.mono (fun u _ (z : u = v) => by omega))
  have same : ∀ u, u < zn h → zi h4 u = zi h u ∧ zp h4 u = zp h u := fun u hu => (e4.2 u hu).2.2 (by omega)
  have fx4 : cFix h4 X := cFix.ext e4 f (fun v' hv hs => by
    exfalso
    have hs' : zn h ≤ v' := hs
    rcases hv with y | y | y | ⟨d, _, y⟩ <;> omega)
  have c4 : cPc h4 X pa p := by
    refine ⟨by rw [(same X (by omega)).1]; exact c.1, ?_⟩
    exact cPs.ext e4 c.2 (fun j => by rw [(same (X + 2) (by omega)).2]) (fun u hu hlt _ z => by omega)
  have hl4 : ∀ j, j < l.length → zp h4 w j = some (pa (l.getD j 0)) := fun j hj => by rw [((i2.2 w (by omega)).2.2 (fun z => hvw z.symm)).2]; exact ha j hj
  obtain ⟨h', r1, r2, r3, r4, r5, r6, r7, pa', r8, -, r9⟩ := ckeep1 (v := v) (w := w) fx4 c4 ok (fun q hq z => by
    obtain ⟨-, -, ⟨w', nn, -⟩, -⟩ := c.2.1 q hq
    have := nn.1.2.1
    omega) hl hk (i7 (aB X) (show X + 94 ≤ v by omega) (show X + 94 ≤ w by omega)) hl4 i5 (by rw [i6]; exact p3) hlen hsz
  refine ⟨h', r1, ⟨?_, fun j hj => (r5 j hj).trans (by rw [(same X (by omega)).1]), r6.trans (same X (by omega)).2, r7.trans (same (X + 2) (by omega)).1⟩, by omega, r4.trans i4, fx4, by omega, pa', r8, r9.1, r9.2.1, fun q h1 h2 => by rw [r9.2.2 q h1 h2]; exact hv0⟩
  refine ⟨⟨Nat.le_trans e4.1.1 r2.1.1, Nat.le_trans e4.1.2 r2.1.2⟩, fun u hu => ?_⟩
  obtain ⟨a1, a2, a3⟩ := e4.2 u hu
  obtain ⟨b1, b2, b3⟩ := r2.2 u (by omega)
  refine ⟨b1.trans a1, b2.trans a2, fun z => ?_⟩
  obtain ⟨a4, a5⟩ := a3 (by omega)
  obtain ⟨b4, b5⟩ := b3 (fun y => y.elim z (fun q => by omega))
  exact ⟨b4.trans a4, b5.trans a5⟩
theorem zPf.rf {X : Nat} {h : Zh} : zPf X h h := ⟨zExt.rf, fun _ _ => rfl, rfl, rfl⟩
theorem cleaf_eq {h : Zh} {X : Nat} {pa : Nat → Nat} {p : Mp} {k : Nat} {x : Int32} (f : cFix h X) (c : cPc h X pa p) (ok : pOK p) (hk : (k = 0 ∧ mnm x 12) ∨ (k = 1 ∧ x = -3)) :
    ∃ h', ((((zmO h 3 7).bind fun ((r1, h2) : Option Nat × Zh) =>
      (zmA h2 3 (0 : Int32)).bind fun ((r3, h4) : Option Nat × Zh) =>
      (zob h4 r1 4).bind fun p5 =>
      (fX2_init h4 (some p5) (nI k) x r3).bind fun h6 =>
      some (r1, h6)).bind fun ((r6, h7) : Option Nat × Zh) => some (r6, h7)).bind fun ((v12, h13) : Option Nat × Zh) =>
      (zob h13 (some X) 7).bind fun p19 =>
      (fX5_keep h13 (some p19) v12 (1 : Int32)).bind fun ((x20, h21) : Int32 × Zh) =>
      some (x20, h21)) = some ((if pn p < 200 then nI (pn p) else -2), h') ∧ zPf X h h' ∧ (zn h' = zn h + 2 ∧ zs h' = zs h + 7) ∧ ∃ pa', cPw h h' X pa pa' p (if pn p < 200 then pAdd p k x [] else p) := by
  have f0 := f.1
  obtain ⟨⟨m1, m2⟩, m3, m4, m5, m6, m7⟩ := cmk_eq (n := 0) f0
  obtain ⟨h4, i1, h', r1, r2, r3, r4, fx4, n4, pa', r5⟩ := cmade_eq (h3 := znew (znew h 4 0 7) 103 0 0) (k := k) (x := x) (l := []) f c ok (m3.mono (fun _ _ z => z.elim)) m1 (Nat.le_refl _) (by omega) (Nat.le_succ _) (by omega) (by omega) m4 m5 m6 m7 (fun j hj => absurd hj List.not_mem_nil) (hk.elim (fun z => Or.inl ⟨z.1, z.2, rfl⟩) (fun z => Or.inr (Or.inl ⟨z.1, z.2, rfl⟩))) (fun j hj => absurd hj (Nat.not_lt_zero _)) (by show 0 < 100; omega) (by show 1 + 0 < 200; omega)
  have e60 : (1 + pSum (psz p) [] ≤ 60 ∧ pn p < 200) = (pn p < 200) := propext ⟨fun z => z.2, fun z => ⟨by show 1 + 0 ≤ 60; omega, z⟩⟩
  simp only [e60] at r1 r5
  refine ⟨h', ?_, r2, ⟨r3, by rw [r4, m2]⟩, pa', r5⟩
  rw [zmO_v, Option.bind_some]
  show (((((zmA (znew h 4 0 7) 3 (nI 0)).bind _)).bind _).bind _) = _
  rw [zmA_v (by omega), Option.bind_some]
  show (((zob (znew (znew h 4 0 7) 103 0 0) (some (zn h)) 4).bind _).bind _).bind _ = _
  rw [zob_v (by rw [m1]; omega) m4, Option.bind_some]
  show (((fX2_init (znew (znew h 4 0 7) 103 0 0) (some (zn h)) (nI k) x (some (zn h + 1))).bind _).bind _).bind _ = _
  rw [i1, Option.bind_some, Option.bind_some]
  show ((zob h4 (some X) 7).bind _) = _
  rw [zob_v (by omega) fx4.2.1.1, Option.bind_some, r1]
  rfl
theorem cdeed_eq {h : Zh} {X : Nat} {pa : Nat → Nat} {p : Mp} (f : cFix h X) (c : cPc h X pa p) (ok : pOK p) (a : Int32) : ∃ h', fX5_deed h (some X) a = some ((pDeed p a).1, h') ∧ zPf X h h' ∧ (zn h' ≤ zn h + 2 ∧ zs h' ≤ zs h + 200) ∧ ∃ pa', cPw h h' X pa pa' p (pDeed p a).2 := by
  have h200 := ok.1
  unfold fX5_deed pDeed
  by_cases c1 : a = -1
  · rw [if_pos c1, if_pos c1, if_pos c1]
    obtain ⟨h', r1, r2, r3, pa', r4⟩ := cleaf_eq (k := 1) (x := -3) f c ok (Or.inr ⟨rfl, rfl⟩)
    refine ⟨h', r1.trans ?_, r2, ⟨by omega, by omega⟩, pa', ?_⟩
    · by_cases c2 : pn p = 200
      · rw [if_neg (by omega), if_pos c2]
      · rw [if_pos (by omega), if_neg c2]
    · by_cases c2 : pn p = 200
      · rw [if_neg (by omega)] at r4; rw [if_pos c2]; exact r4
      · rw [if_pos (by omega)] at r4; rw [if_neg c2]; exact r4
  · rw [if_neg c1, if_neg c1, if_neg c1, cname_eq, Option.bind_some]
    by_cases c3 : mnm a 12
    · rw [if_neg (fun z => b2_z.mp z c3), if_pos c3]
      obtain ⟨h', r1, r2, r3, pa', r4⟩ := cleaf_eq (k := 0) (x := a) f c ok (Or.inl ⟨rfl, c3⟩)
      refine ⟨h', r1.trans ?_, r2, ⟨by omega, by omega⟩, pa', ?_⟩
      · by_cases c2 : pn p = 200
        · rw [if_neg (by omega), if_pos c2]
        · rw [if_pos (by omega), if_neg c2]
      · by_cases c2 : pn p = 200
        · rw [if_neg (by omega)] at r4; rw [if_pos c2]; exact r4
        · rw [if_pos (by omega)] at r4; rw [if_neg c2]; exact r4
    · rw [if_pos (b2_z.mpr c3), if_neg c3]
      exact ⟨h, rfl, zPf.rf, ⟨by omega, by omega⟩, pa, cPw.rf c⟩
theorem i32_mnm {k : Int32} : (¬ k < 2 ∧ ¬ (5 : Int32) < k) ↔ 2 ≤ k.toInt ∧ k.toInt ≤ 5 := by
  rw [Int32.lt_iff_toInt_lt, Int32.lt_iff_toInt_lt, show (2 : Int32).toInt = 2 from by decide, show (5 : Int32).toInt = 5 from by decide]
  omega
theorem cjoin_eq {h : Zh} {X : Nat} {pa : Nat → Nat} {p : Mp} (f : cFix h X) (c : cPc h X pa p) (ok : pOK p) (k a b : Int32) : ∃ h', fX5_join h (some X) k a b = some ((pJoin p k a b).1, h') ∧ zPf X h h' ∧ (zn h' ≤ zn h + 2 ∧ zs h' ≤ zs h + 200) ∧ ∃ pa', cPw h h' X pa pa' p (pJoin p k a b).2 := by
  have h200 := ok.1
  have f0 := f.1
  unfold fX5_join pJoin
  rw [zob_v (by omega) f.2.1.1, Option.bind_some, cpiece_at f c ok, Option.bind_some, Option.bind_some, cpiece_at f c ok, Option.bind_some]
  by_cases hyes : (2 ≤ k.toInt ∧ k.toInt ≤ 5) ∧ mnm a (pn p) ∧ mnm b (pn p)
  · have hyes' := hyes
    obtain ⟨y1, y2, y3⟩ := hyes'
    rw [if_pos hyes, if_neg (i32_mnm.mpr y1).1, if_neg (i32_mnm.mpr y1).2, if_pos y2, if_pos y3, if_neg (by intro z; cases z), if_neg (by intro z; cases z)]
    obtain ⟨ea, la⟩ := mnm_nI y2
    obtain ⟨eb, lb⟩ := mnm_nI y3
    have hk6 : mnm k 6 := ⟨by omega, by omega⟩
    obtain ⟨ek, lk⟩ := mnm_nI hk6
    generalize a.toNatClampNeg = x at ea la
    generalize b.toNatClampNeg = y at eb lb
    generalize k.toNatClampNeg = q at ek lk
    subst ea eb ek
    rw [nI_toInt (by omega)] at y1
    unfold fX5_two
    obtain ⟨⟨g1, g2⟩, g3, g4, g5, g6, g7⟩ := cmk_eq (n := 2) f0
    obtain ⟨-, -, ⟨wa, na, -⟩, -⟩ := c.2.1 x la
    obtain ⟨-, -, ⟨wb, nb, -⟩, -⟩ := c.2.1 y lb
    have la60 := (ok.2 x la).2.2.2.1
    have lb60 := (ok.2 y lb).2.2.2.1
    generalize e3 : zsetP (zsetP (znew (znew h 4 0 7) 103 2 2) (zn h + 1) 0 (some (pa x))) (zn h + 1) 1 (some (pa y)) = h3
    have x3 : zExt (fun u => zn h ≤ u) h h3 := by
      rw [← e3]
      exact ((g3.mono (fun _ _ z => z.elim)).tr (zExt.sP (Or.inl (by omega)))).tr (zExt.sP (Or.inl (by omega)))
    obtain ⟨h4, i1, h', r1, r2, r3, r4, fx4, n4, pa', r5⟩ := cmade_eq (h3 := h3) (k := q) (x := -3) (l := [x, y]) f c ok x3 (by rw [← e3]; exact g1) (Nat.le_refl (zn h)) (by omega) (Nat.le_succ (zn h)) (by omega) (by omega) (by rw [← e3]; exact g4) (by rw [← e3]; exact g5) (by rw [← e3]; exact g6) (by
        rw [← e3, zp_sP, u2_a (by omega), zp_sP, u2_a (by omega)]; exact g7) (fun j hj => by
        rcases List.mem_cons.mp hj with rfl | hj
        · exact la
        · rw [List.mem_singleton.mp hj]; exact lb) (Or.inr (Or.inr ⟨by omega, by omega, rfl, Nat.le_refl _⟩)) (fun j hj => by
        have hj' : j < 2 := hj
        rw [← e3, zp_sP, zp_sP]
        rcases (show j = 0 ∨ j = 1 by omega) with rfl | rfl
        · rw [u2_n (by omega), u2_s]; rfl
        · rw [u2_s]; rfl) (by show 2 < 100; omega) (by rw [pSum_2]; omega)
    rw [pSum_2] at r1 r5
    refine ⟨h', ?_, r2, ⟨by omega, ?_⟩, pa', ?_⟩
    · rw [zmO_v, Option.bind_some]
      show (((zmA (znew h 4 0 7) 3 (nI 2)).bind _).bind _) = _
      rw [zmA_v (by omega), Option.bind_some]
      show (((zbP (znew (znew h 4 0 7) 103 2 2) (some (zn h + 1)) 3 3 (nI 0) (some (pa x))).bind _).bind _) = _
      rw [zbP_v (n := 2) (by rw [g1]; omega) g5 g6 (by omega) (by omega) (by rw [g1]; have := na.1.2.1; omega) ((g3.2 _ na.1.2.1).1.trans na.1.2.2.1), Option.bind_some]
      show (((zbP _ (some (zn h + 1)) 3 3 (nI 1) (some (pa y))).bind _).bind _) = _
      rw [zbP_v (n := 2) (by show zn h + 1 < zn (znew (znew h 4 0 7) 103 2 2); rw [g1]; omega) (by exact g5) (by exact g6) (by omega) (by omega) (by show pa y < zn (znew (znew h 4 0 7) 103 2 2); rw [g1]; have := nb.1.2.1; omega) (by exact (g3.2 _ nb.1.2.1).1.trans nb.1.2.2.1), Option.bind_some, e3]
      show (((zob h3 (some (zn h)) 4).bind _).bind _) = _
      rw [zob_v (by rw [← e3]; show zn h < zn (znew (znew h 4 0 7) 103 2 2); rw [g1]; omega) (by rw [← e3]; exact g4), Option.bind_some]
      show (((fX2_init h3 (some (zn h)) (nI q) (-3) (some (zn h + 1))).bind _).bind _) = _
      rw [i1, Option.bind_some, Option.bind_some]
      show ((zob h4 (some X) 7).bind _) = _
      rw [zob_v (by omega) fx4.2.1.1, Option.bind_some, r1, Option.bind_some]
      show some (_, _) = some (_, _)
      congr 2
      by_cases c2 : pn p = 200
      · rw [if_neg (fun z => by omega), if_pos c2]
      · rw [if_neg c2]
        by_cases c3 : psz p x + psz p y + 1 ≤ 60
        · rw [if_pos c3, if_pos ⟨by omega, by omega⟩]
        · rw [if_neg c3, if_neg (fun z => c3 (by omega))]
    · rw [r4, ← e3]
      show zs (znew (znew h 4 0 7) 103 2 2) ≤ _
      rw [g2]; omega
    · by_cases c2 : pn p = 200
      · rw [if_neg (fun z => by omega)] at r5; rw [if_pos c2]; exact r5
      · rw [if_neg c2]
        by_cases c3 : psz p x + psz p y + 1 ≤ 60
        · rw [if_pos ⟨by omega, by omega⟩] at r5; rw [if_pos c3]; exact r5
        · rw [if_neg (fun z => c3 (by omega))] at r5; rw [if_neg c3]; exact r5
  · rw [if_neg hyes]
    refine ⟨h, ?_, zPf.rf, ⟨by omega, by omega⟩, pa, cPw.rf c⟩
    by_cases c1 : k < 2
    · rw [if_pos c1]
    · rw [if_neg c1]
      by_cases c2 : (5 : Int32) < k
      · rw [if_pos c2]
      · rw [if_neg c2]
        by_cases c3 : mnm a (pn p)
        · rw [if_pos c3, if_neg (by intro z; cases z), if_neg (fun c4 => hyes ⟨i32_mnm.mp ⟨c1, c2⟩, c3, c4⟩), if_pos rfl]
        · rw [if_neg c3, if_pos rfl]
/-! more, piece on the class's side -/
theorem kd_0 {p : Mp} (ok : pOK p) {q : Nat} (hq : q < pn p) : (ppt p q).length = 0 ↔ ¬ 2 ≤ pkd p q := by
  obtain ⟨-, -, -, -, g5⟩ := ok.2 q hq
  rcases g5 with ⟨a, -, b⟩ | ⟨a, -, b⟩ | ⟨a, -, b⟩
  · rw [b]; exact ⟨fun _ => by omega, fun _ => rfl⟩
  · rw [b]; exact ⟨fun _ => by omega, fun _ => rfl⟩
  · exact ⟨fun z => by omega, fun z => by omega⟩
theorem cmore_eq {h : Zh} {X : Nat} {pa : Nat → Nat} {p : Mp} (f : cFix h X) (c : cPc h X pa p) (ok : pOK p) (a b : Int32) : ∃ h', fX5_more h (some X) a b = some ((pMore p a b).1, h') ∧ zPf X h h' ∧ (zn h' ≤ zn h + 2 ∧ zs h' ≤ zs h + 200) ∧ ∃ pa', cPw h h' X pa pa' p (pMore p a b).2 := by
  have h200 := ok.1
  have f0 := f.1
  unfold fX5_more pMore
  rw [zob_v (by omega) f.2.1.1, Option.bind_some, cpiece_at f c ok, Option.bind_some, Option.bind_some, cpiece_at f c ok, Option.bind_some]
  by_cases hyes : mnm a (pn p) ∧ mnm b (pn p)
  · have hyes' := hyes
    obtain ⟨y2, y3⟩ := hyes'
    rw [if_pos hyes, if_pos y2, if_pos y3, if_neg (by intro z; cases z), if_neg (by intro z; cases z)]
    obtain ⟨ea, la⟩ := mnm_nI y2
    obtain ⟨eb, lb⟩ := mnm_nI y3
    generalize a.toNatClampNeg = x at ea la
    generalize b.toNatClampNeg = y at eb lb
    subst ea eb
    obtain ⟨wa, l0, na, aa, -⟩ := c.2.tree ok x la
    obtain ⟨wb, l1, nb, -, -⟩ := c.2.tree ok y lb
    obtain ⟨na1, na2, na3, na4⟩ := na.2
    rw [pT_len ok la] at na4
    have l60 := plen_60 ok la
    have kx := (plb_16 ok la).2.2.1
    have k5 := (ok.2 x la).1
    have pa2 : zp h (pa x) 2 = some wa := na.1.2.2.2.2.2.1
    have ki : zi h (pa x) 0 = nI (pkd p x) := by rw [na.1.2.2.2.1, pT_lab ok la, kx]
    rw [zfP_v (ci := 3) na.1.2.1 na.1.2.2.1, pa2, Option.bind_some, zaL_v (t := 3) na2 na3, na4, Option.bind_some]
    by_cases c0 : 2 ≤ pkd p x
    · have lne : (ppt p x).length ≠ 0 := fun z => (kd_0 ok la).mp z c0
      rw [if_neg (nI_ne0 (by omega) (by omega)), if_pos c0, Option.bind_some, zaL_v (t := 3) na2 na3, na4, Option.bind_some, nI_1, zmA_v (by omega), Option.bind_some]
      generalize hN : (ppt p x).length = N at *
      have g3 : zExt (fun _ => False) h (znew h 103 (N + 1) (N + 1)) := zExt.nw
      have lp := zloop_inv (f := fun ((v11, h12) : Int32 × Zh) =>
          ((zfP h12 (some (pa x)) 3 2).bind fun r16 =>
          (zaL h12 r16 3).bind fun x17 =>
          if x17 ≤ v11 then
            some (.inr h12)
          else
            (zfP h12 (some (pa x)) 3 2).bind fun r18 =>
            (zaP h12 r18 3 v11).bind fun r19 =>
            (zbP h12 (some (zn h)) 3 3 v11 r19).bind fun h20 =>
            some (.inl (v11 + (1 : Int32), h20)) : Option ((Int32 × Zh) ⊕ Zh)))
        (fun (k : Nat) (s : Int32 × Zh) => ∃ i, k = N - i ∧ i ≤ N ∧ s.1 = nI i ∧ (zExt (fun u => zn h ≤ u) h s.2 ∧ zn s.2 = zn h + 1 ∧ zs s.2 = zs h + (N + 1) ∧ zk s.2 (zn h) = 103 ∧ zl s.2 (zn h) = N + 1) ∧ ∀ j, j < i → zp s.2 (zn h) j = some (pa ((ppt p x).getD j 0)))
        (fun g => (zExt (fun u => zn h ≤ u) h g ∧ zn g = zn h + 1 ∧ zs g = zs h + (N + 1) ∧ zk g (zn h) = 103 ∧ zl g (zn h) = N + 1) ∧ ∀ j, j < N → zp g (zn h) j = some (pa ((ppt p x).getD j 0))) (by
        rintro k ⟨w, g⟩ ⟨i, hk, hi, rfl, ⟨e1, e2, e3, e4, e5⟩, hv⟩
        dsimp only at e1 e2 e3 e4 e5 hv
        obtain ⟨x1, x2, x3⟩ := e1.2 (pa x) na.1.2.1
        obtain ⟨z1, z2, z3⟩ := e1.2 wa na2
        have xp := (x3 (by have := na.1.2.1; omega)).2
        have zp' := (z3 (by omega)).2
        have rd : zfP g (some (pa x)) 3 2 = some (some wa) := by rw [zfP_v (ci := 3) (by have := na.1.2.1; omega) (x1.trans na.1.2.2.1), xp, pa2]
        show (∃ s' m', ((zfP g (some (pa x)) 3 2).bind _) = _ ∧ _) ∨ ∃ r, ((zfP g (some (pa x)) 3 2).bind _) = _ ∧ _
        rw [rd, Option.bind_some, zaL_v (t := 3) (by omega) (z1.trans na3), z2, na4, Option.bind_some]
        by_cases ci : N ≤ i
        · rw [if_pos (nI_le ci (by omega))]
          exact Or.inr ⟨g, rfl, ⟨e1, e2, e3, e4, e5⟩, fun j hj => hv j (by omega)⟩
        · have hj : i < N := by omega
          obtain ⟨-, -, ⟨wj, nj, -⟩, -⟩ := c.2.1 _ (show (ppt p x).getD i 0 < pn p by
            have := (ok.2 x la).2.1 _ (getD_mem _ i (by omega))
            omega)
          rw [if_neg (nI_nle' (by omega) (by omega)), Option.bind_some, zaP_v (t := 3) (n := N) (by omega) (z1.trans na3) (z2.trans na4) hj (by omega), Option.bind_some, zp', aa i (by omega), zbP_v (t := 3) (n := N + 1) (ci := 3) (by omega) e4 e5 (by omega) (by omega) (by have := nj.1.2.1; omega) ((e1.2 _ nj.1.2.1).1.trans nj.1.2.2.1), Option.bind_some, nI_1]
          refine Or.inl ⟨_, N - (i + 1), rfl, by omega, i + 1, rfl, by omega, rfl, ⟨e1.tr (zExt.sP (Or.inl (by omega))), e2, e3, e4, e5⟩, fun j hj => ?_⟩
          show zp (zsetP g (zn h) i (some (pa ((ppt p x).getD i 0)))) (zn h) j = _
          rw [zp_sP]
          by_cases z : j = i
          · subst z; rw [u2_s]
          · rw [u2_n (by omega)]; exact hv j (by omega)) N (nI 0, znew h 103 (N + 1) (N + 1)) zFU ⟨0, rfl, by omega, rfl, ⟨g3.mono (fun _ _ z => z.elim), rfl, rfl, znew_k h 103 _ _, if_pos rfl⟩, fun j hj => absurd hj (by omega)⟩ (by rw [zFU_v]; omega)
      obtain ⟨g, e0, ⟨e1, e2, e3, e4, e5⟩, hv⟩ := lp
      refine (?_ : ∃ h', ((zloop _ zFU ((0 : Int32), znew h 103 (N + 1) (N + 1))).bind _) = _ ∧ _)
      have e0' : zloop (fun ((v11, h12) : Int32 × Zh) =>
          ((zfP h12 (some (pa x)) 3 2).bind fun r16 =>
          (zaL h12 r16 3).bind fun x17 =>
          if x17 ≤ v11 then
            some (.inr h12)
          else
            (zfP h12 (some (pa x)) 3 2).bind fun r18 =>
            (zaP h12 r18 3 v11).bind fun r19 =>
            (zbP h12 (some (zn h)) 3 3 v11 r19).bind fun h20 =>
            some (.inl (v11 + (1 : Int32), h20)) : Option ((Int32 × Zh) ⊕ Zh))) zFU ((0 : Int32), znew h 103 (N + 1) (N + 1)) = some g := e0
      rw [e0', Option.bind_some]
      obtain ⟨x1, x2, x3⟩ := e1.2 (pa x) na.1.2.1
      obtain ⟨z1, z2, z3⟩ := e1.2 wa na2
      have xp := x3 (by have := na.1.2.1; omega)
      rw [zfP_v (ci := 3) (by have := na.1.2.1; omega) (x1.trans na.1.2.2.1), xp.2, pa2, Option.bind_some, zaL_v (t := 3) (by omega) (z1.trans na3), z2, na4, Option.bind_some,
        zbP_v (t := 3) (n := N + 1) (ci := 3) (by omega) e4 e5 (by omega) (by omega) (by have := nb.1.2.1; omega) ((e1.2 _ nb.1.2.1).1.trans nb.1.2.2.1), Option.bind_some, zmO_v, Option.bind_some]
      have q1 : zExt (fun u => zn h ≤ u) h (znew (zsetP g (zn h) N (some (pa y))) 4 0 7) := (e1.tr (zExt.sP (Or.inl (by omega)))).tr zExt.nw
      have qx : zi (znew (zsetP g (zn h) N (some (pa y))) 4 0 7) (pa x) 0 = nI (pkd p x) := by rw [((q1.2 (pa x) na.1.2.1).2.2 (by have := na.1.2.1; omega)).1, ki]
      have ent : ∀ j, j < (ppt p x ++ [y]).length → zp (znew (zsetP g (zn h) N (some (pa y))) 4 0 7) (zn h) j = some (pa ((ppt p x ++ [y]).getD j 0)) := by
        intro j hj
        rw [List.length_append, hN] at hj
        have hj' : j < N + 1 := hj
        rw [zp_nw (by show zn h ≠ zn g; omega), zp_sP]
        by_cases z : j = N
        · subst z
          rw [u2_s, ← hN, getD_app2]
        · rw [u2_n (by omega), getD_app1 _ _ _ (by omega)]
          exact hv j (by omega)
      have gq : zn (zsetP g (zn h) N (some (pa y))) = zn h + 1 := e2
      obtain ⟨h4, i1, h', r1, r2, r3, r4, fx4, n4, pa', r5⟩ := cmade_eq (h3 := znew (zsetP g (zn h) N (some (pa y))) 4 0 7) (v := zn h + 1) (w := zn h) (k := pkd p x) (x := -3) (l := ppt p x ++ [y]) f c ok q1 (by rw [zn_nw, gq]) (by omega) (by omega) (by omega) (by omega) (by omega)
        (by rw [← gq]; exact znew_k _ _ _ _) (by rw [zk_nw (by rw [gq]; omega)]; exact e4) (by rw [zl_nw (by rw [gq]; omega), List.length_append, hN]; exact e5) (by rw [← gq]; exact if_pos rfl) (fun j hj => by
          rcases List.mem_append.mp hj with hj | hj
          · have := (ok.2 x la).2.1 j hj; omega
          · rw [List.mem_singleton.mp hj]; exact lb) (Or.inr (Or.inr ⟨c0, k5, rfl, by rw [List.length_append, hN]; show 2 ≤ N + 1; omega⟩)) ent (by rw [List.length_append, hN]; show N + 1 < 100; omega) (by
          rw [pSum_app]
          have := (ok.2 x la).2.2.1
          have := (ok.2 x la).2.2.2.1
          have := (ok.2 y lb).2.2.2.1
          omega)
      have esum : 1 + pSum (psz p) (ppt p x ++ [y]) = psz p x + psz p y := by
        rw [pSum_app]
        have := (ok.2 x la).2.2.1
        omega
      rw [esum] at r1 r5
      refine ⟨h', ?_, r2, ⟨by omega, ?_⟩, pa', ?_⟩
      · show (((zfI (znew (zsetP g (zn h) N (some (pa y))) 4 0 7) (some (pa x)) 3 0).bind _)) = _
        rw [zfI_v (ci := 3) (by rw [zn_nw, gq]; have := na.1.2.1; omega) ((q1.2 _ na.1.2.1).1.trans na.1.2.2.1), qx, Option.bind_some, gq, zob_v (by rw [zn_nw, gq]; omega) (by rw [← gq]; exact znew_k _ _ _ _), Option.bind_some, i1, Option.bind_some, zob_v (by omega) fx4.2.1.1, Option.bind_some, r1, Option.bind_some]
        show some (_, _) = some (_, _)
        congr 2
        by_cases c2 : pn p = 200
        · rw [if_neg (fun z => by omega), if_pos c2]
        · rw [if_neg c2]
          by_cases c3 : psz p x + psz p y ≤ 60
          · rw [if_pos c3, if_pos ⟨by omega, by omega⟩]
          · rw [if_neg c3, if_neg (fun z => c3 (by omega))]
      · rw [r4, zs_nw]
        show zs g + 7 ≤ _
        omega
      · by_cases c2 : pn p = 200
        · rw [if_neg (fun z => by omega)] at r5; rw [if_pos c2]; exact r5
        · rw [if_neg c2]
          by_cases c3 : psz p x + psz p y ≤ 60
          · rw [if_pos ⟨by omega, by omega⟩] at r5; rw [if_pos c3]; exact r5
          · rw [if_neg (fun z => c3 (by omega))] at r5; rw [if_neg c3]; exact r5
    · have lne : (ppt p x).length = 0 := (kd_0 ok la).mpr c0
      rw [if_pos (by rw [lne]; rfl), if_neg c0]
      exact ⟨h, rfl, zPf.rf, ⟨by omega, by omega⟩, pa, cPw.rf c⟩
  · rw [if_neg hyes]
    refine ⟨h, ?_, zPf.rf, ⟨by omega, by omega⟩, pa, cPw.rf c⟩
    by_cases c3 : mnm a (pn p)
    · rw [if_pos c3, if_neg (by intro z; cases z), if_neg (fun c4 => hyes ⟨c3, c4⟩), if_pos rfl]
    · rw [if_neg c3, if_pos rfl]
theorem cpiece_eq {h : Zh} {X : Nat} {pa : Nat → Nat} {p : Mp} (f : cFix h X) (c : cPc h X pa p) (ok : pOK p) (a w : Int32) : fX5_piece h (some X) a w = some (pPiece p a w) := by
  have h200 := ok.1
  have f0 := f.1
  unfold fX5_piece pPiece
  rw [zob_v (by omega) f.2.1.1, Option.bind_some, cpiece_at f c ok, Option.bind_some]
  by_cases y2 : mnm a (pn p)
  · rw [if_pos y2, if_neg (by intro z; cases z)]
    obtain ⟨ea, la⟩ := mnm_nI y2
    generalize a.toNatClampNeg = x at ea la
    subst ea
    obtain ⟨wa, l0, na, aa, -⟩ := c.2.tree ok x la
    have l60 := plen_60 ok la
    obtain ⟨na1, na2, na3, na4⟩ := na.2
    rw [pT_len ok la] at na4
    have pl := plb_16 ok la
    have pa2 : zp h (pa x) 2 = some wa := na.1.2.2.2.2.2.1
    have i0 : zfI h (some (pa x)) 3 0 = some (nI (pkd p x)) := by rw [zfI_v (ci := 3) na.1.2.1 na.1.2.2.1, na.1.2.2.2.1, pT_lab ok la, pl.2.2.1]
    have i1 : zfI h (some (pa x)) 3 1 = some (pnm p x) := by rw [zfI_v (ci := 3) na.1.2.1 na.1.2.2.1, na.1.2.2.2.2.1, pT_lab ok la, pl.2.2.2]
    have i3 : zfI h (some (pa x)) 3 3 = some (nI (psz p x)) := by rw [zfI_v (ci := 3) na.1.2.1 na.1.2.2.1, na.1.2.2.2.2.2.2.1, pT_sz ok x la]
    have i2 : zfP h (some (pa x)) 3 2 = some (some wa) := by rw [zfP_v (ci := 3) na.1.2.1 na.1.2.2.1, pa2]
    have il : zaL h (some wa) 3 = some (nI (ppt p x).length) := by rw [zaL_v (t := 3) na2 na3, na4]
    by_cases y3 : mnm w 63
    · obtain ⟨ew, lw⟩ := mnm_nI y3
      have hy : mnm (nI x) (pn p) ∧ mnm w 63 := ⟨y2, y3⟩
      rw [if_pos hy]
      generalize w.toNatClampNeg = j at ew lw
      subst ew
      rw [if_neg (nI_pos (by omega)), if_pos (show nI j < (63 : Int32) from nI_lt (b := 63) lw (by omega)), i0, i1, i2, i3, Option.bind_some, Option.bind_some, Option.bind_some, Option.bind_some, il, Option.bind_some]
      by_cases d0 : nI j = 0
      · rw [if_pos d0, if_pos d0]
      · rw [if_neg d0, if_neg d0]
        by_cases d1 : nI j = 1
        · rw [if_pos d1, if_pos d1]
        · rw [if_neg d1, if_neg d1]
          by_cases d2 : nI j = 2
          · rw [if_pos d2, if_pos d2]
          · rw [if_neg d2, if_neg d2]
            by_cases d3 : nI j = 3
            · rw [if_pos d3, if_pos d3]
            · rw [if_neg d3, if_neg d3]
              have h0 : j ≠ 0 := fun z => d0 (by rw [z]; rfl)
              have h1 : j ≠ 1 := fun z => d1 (by rw [z]; rfl)
              have h2 : j ≠ 2 := fun z => d2 (by rw [z]; rfl)
              have h3 : j ≠ 3 := fun z => d3 (by rw [z]; rfl)
              rw [Option.bind_some, il, Option.bind_some, show nI j - (4 : Int32) = nI (j - 4) from pk_sub (b := 4) (by omega)]
              by_cases d4 : (ppt p x).length ≤ j - 4
              · rw [if_pos (nI_le d4 (by omega)), if_pos d4]
                rfl
              · have hj : j - 4 < (ppt p x).length := by omega
                have hj2 := (ok.2 x la).2.1 _ (getD_mem _ _ hj)
                obtain ⟨-, n5, ⟨wj, nj, -⟩, -⟩ := c.2.1 ((ppt p x).getD (j - 4) 0) (by omega)
                rw [if_neg (nI_nle' (by omega) (by omega)), if_neg d4, Option.bind_some, zaP_v (t := 3) (n := (ppt p x).length) na2 na3 na4 hj (by omega), Option.bind_some, aa _ hj, zfI_v (ci := 3) nj.1.2.1 nj.1.2.2.1, n5]
                rfl
    · rw [if_neg (fun z : mnm (nI x) (pn p) ∧ mnm w 63 => y3 z.2)]
      rcases mnm_not (by omega) y3 with q | q
      · rw [if_pos q]
      · by_cases z : w < 0
        · rw [if_pos z]
        · rw [if_neg z, if_neg (fun y => by
            have a1 := Int32.lt_iff_toInt_lt.mp y
            have a2 := Int32.le_iff_toInt_le.mp q
            rw [nI_toInt (by omega)] at a2
            have a3 : (63 : Int32).toInt = 63 := by decide
            omega)]
  · rw [if_neg y2, if_pos rfl, if_neg (fun z : mnm a (pn p) ∧ mnm w 63 => y2 z.1)]
