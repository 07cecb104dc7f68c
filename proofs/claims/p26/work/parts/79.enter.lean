/-! a tree of new pieces is entered -/
theorem zFo_uniq {P : Nat → Prop} {h : Zh} : ∀ (t : Tr) (w : Nat) (l l' : List Nat), zFo P h t w l → zFo P h t w l' → l = l'
  | .var _, _, _, _, a, b => by rw [show _ = _ from a, show _ = _ from b]
  | .op t k, w, l, l', a, b => by
    obtain ⟨l1, l2, u, x, f1, f2, f3, f4, f5⟩ := a
    obtain ⟨m1, m2, u', x', g1, g2, g3, g4, g5⟩ := b
    rw [f3] at g3
    injection g3 with g3
    subst g3
    have e := f4.1.2.2.2.2.2.1
    rw [g4.1.2.2.2.2.2.1] at e
    injection e with e
    subst e
    rw [f1, g1, zFo_uniq t w l1 m1 f2 g2, zFo_uniq k x' l2 m2 f5 g5]
theorem zFo_pre {P : Nat → Prop} {h : Zh} : ∀ (t : Tr) (w : Nat) (l : List Nat), zFo P h t w l → ∀ j, j ≤ tLen t → ∃ l1 r, l = l1 ++ r ∧ zFo P h (tPre t j) w l1
  | .var _, _, l, f, _, _ => ⟨l, [], (List.append_nil _).symm, f⟩
  | .op t k, w, l, f, j, hj => by
    have hj' : j ≤ tLen t + 1 := hj
    show ∃ l1 r, l = l1 ++ r ∧ zFo P h (if tLen t < j then Lean.Data.AC.Expr.op t k else tPre t j) w l1
    by_cases c : tLen t < j
    · rw [if_pos c]
      exact ⟨l, [], (List.append_nil _).symm, f⟩
    · rw [if_neg c]
      obtain ⟨l1, l2, u, x, f1, f2, -⟩ := f
      obtain ⟨m, r, g1, g2⟩ := zFo_pre t w l1 f2 j (by omega)
      exact ⟨m, r ++ (l2 ++ [u]), by rw [f1, g1, List.append_assoc], g2⟩
theorem zFo_P {P : Nat → Prop} {h : Zh} : ∀ (t : Tr) (w : Nat) (l : List Nat), zFo P h t w l → ∀ y, y ∈ l → P y ∧ y < zn h ∧ zk h y = 4
  | .var _, _, l, f, y, hy => by
    rw [show l = [] from f] at hy
    exact absurd hy List.not_mem_nil
  | .op t k, w, l, f, y, hy => by
    obtain ⟨l1, l2, u, x, f1, f2, f3, f4, f5⟩ := f
    rw [f1] at hy
    rcases List.mem_append.mp hy with hy | hy
    · exact zFo_P t w l1 f2 y hy
    · rcases List.mem_append.mp hy with hy | hy
      · exact zFo_P k x l2 f5 y hy
      · rw [List.mem_singleton.mp hy]
        exact ⟨f4.1.1, f4.1.2.1, f4.1.2.2.1⟩
/-- entering touches the row of pieces and numbers alone -/
def eF (X : Nat) (l : List Nat) (h h' : Zh) : Prop := (zn h' = zn h ∧ zs h' = zs h ∧ zk h' = zk h ∧ zl h' = zl h) ∧ (∀ u, u ≠ X + 2 → zp h' u = zp h u) ∧ ∀ u k, ¬ (u ∈ l ∧ k = 5) → zi h' u k = zi h u k
theorem eF.rf {X : Nat} {h : Zh} : eF X [] h h := ⟨⟨rfl, rfl, rfl, rfl⟩, fun _ _ => rfl, fun _ _ _ => rfl⟩
theorem eF.tr {X : Nat} {l l' : List Nat} {h h1 h2 : Zh} (a : eF X l h h1) (b : eF X l' h1 h2) : eF X (l ++ l') h h2 :=
  ⟨⟨b.1.1.trans a.1.1, b.1.2.1.trans a.1.2.1, b.1.2.2.1.trans a.1.2.2.1, b.1.2.2.2.trans a.1.2.2.2⟩, fun u hu => (b.2.1 u hu).trans (a.2.1 u hu), fun u k hn => (b.2.2 u k (fun z => hn ⟨List.mem_append_right _ z.1, z.2⟩)).trans (a.2.2 u k (fun z => hn ⟨List.mem_append_left _ z.1, z.2⟩))⟩
theorem eF.sm {X : Nat} {l : List Nat} {h h' : Zh} (a : eF X l h h') : zSm (aB X) h h' := by
  intro u hu hl
  have hu' : X + 94 ≤ u := hu
  refine ⟨by rw [a.1.1]; exact hl, by rw [a.1.2.2.1], by rw [a.1.2.2.2], fun _ => ⟨fun k hk => a.2.2 u k (by omega), ?_⟩, fun _ => a.2.1 u (by omega)⟩
  rw [a.2.1 u (by omega)]
theorem eF.fix {X : Nat} {l : List Nat} {h h' : Zh} (a : eF X l h h') (f : cFix h X) : cFix h' X := by
  have f0 := f.1
  have e : zExt (fun _ => True) h h' := ⟨⟨Nat.le_of_eq a.1.1.symm, Nat.le_of_eq a.1.2.1.symm⟩, fun v _ => ⟨by rw [a.1.2.2.1], by rw [a.1.2.2.2], fun z => absurd trivial z⟩⟩
  refine cFix.on e f (fun v k hv _ _ => ?_) (fun k => by rw [a.2.1 (X + 7) (by omega)]) (by rw [a.2.1 (X + 3) (by omega)])
  rw [a.2.1 v (by rcases hv with y | y | y | ⟨d, _, y⟩ <;> omega)]
theorem zEn_eF {X : Nat} {h : Zh} {m v : Nat} : eF X [v] h (zEn X h m v) := by
  refine ⟨⟨rfl, rfl, rfl, rfl⟩, fun u hu => ?_, fun u k hn => ?_⟩
  · show u2 (zp h) (X + 2) m (some v) u = _
    funext j
    rw [u2_n (by omega)]
  · show u2 (zi h) v 5 (nI m) u k = _
    rw [u2_n (fun z => hn ⟨by rw [z.1]; exact List.mem_cons_self, z.2⟩)]
abbrev nNew (h : Zh) (l : List Nat) : Prop := ∀ u, u ∈ l → zi h u 5 = -3 ∧ zp h u 6 = none
theorem nI_n3 {q : Nat} (hq : q < 2 ^ 31) : ¬ nI q = -3 := by
  intro z
  have := congrArg Int32.toInt z
  rw [nI_toInt hq] at this
  have h3 : (-3 : Int32).toInt = -3 := by decide
  omega
theorem centerT {X : Nat} : ∀ (fu : Nat) (d : Nat) (t : Tr) (h : Zh) (p : Mp) (pa : Nat → Nat) (v w : Nat) (l : List Nat), cFix h X → cPs h X pa p → pOK p → tOK t → tHt t < fu → d + tHt t ≤ 40 → tSz t ≤ 60 → pn p + tSz t ≤ 200 → zNd (aB X) h v w t → zFo (aB X) h t w l → (l ++ [v]).Nodup → nNew h (l ++ [v]) →
    ∃ h' pa', fX5_enter fu h (some v) (some (X + 2)) (nI (pn p)) (nI d) = some (nI (pn p + tSz t), h') ∧ cPs h' X pa' (pEnt p t) ∧ eF X (l ++ [v]) h h' ∧ zi h' v 5 = nI (pn (pEn p t).1) ∧ ((∀ q, q < pn p → pa' q = pa q) ∧ ∀ q, pn p ≤ q → q < pn (pEnt p t) → pa' q ∈ l ++ [v]) ∧ pa' (pn (pEn p t).1) = v := by
  intro fu
  induction fu with
  | zero => intro d t h p pa v w l _ _ _ _ hf; omega
  | succ fu ih =>
    intro d t h p pa v w l f c ok ht hf hd hz hn nd fo no nw
    have h200 := ok.1
    have f0 := f.1
    have sl := tSz_1 t
    obtain ⟨n1, -, n3⟩ := List.nodup_append.mp no
    have vl : v ∉ l := fun z => n3 v z v List.mem_cons_self rfl
    have nd' := nd
    obtain ⟨⟨a1, a2, a3, a4, a5, a6, a7, a8⟩, b1, b2, b3, b4⟩ := nd'
    have a1' : X + 94 ≤ v := a1
    have b1' : X + 94 ≤ w := b1
    have pre : ∀ j, j ≤ tLen t → eOK p (tPre t j) (pEn p (tPre t j)) := fun j _ => pEn_ok _ _ ok (tPre_G _ j ht.1) (by have := tPre_sz t j; omega) (by have := tPre_sz t j; omega)
    show ∃ h' pa', fX5_enterB (fX5_enter fu) h (some v) (some (X + 2)) (nI (pn p)) (nI d) = _ ∧ _
    unfold fX5_enterB
    rw [zfI_v (ci := 3) a2 a3, Option.bind_some, if_pos (nw v (List.mem_append_right _ List.mem_cons_self)).1, if_pos (show nI d ≤ (40 : Int32) from nI_le (b := 40) (by omega) (by omega))]
    have lp := zloop_inv (f := fun ((v2, v3, h4) : Int32 × Int32 × Zh) =>
        ((zfP h4 (some v) 3 2).bind fun r9 =>
        (zaL h4 r9 3).bind fun x10 =>
        if x10 ≤ v3 then
          some (.inr (v2, h4))
        else
          (zfP h4 (some v) 3 2).bind fun r11 =>
          (zaP h4 r11 3 v3).bind fun r12 =>
          (fX5_enter fu h4 r12 (some (X + 2)) v2 (nI d + (1 : Int32))).bind fun ((x13, h14) : Int32 × Zh) =>
          some (.inl (x13, v3 + (1 : Int32), h14)) : Option ((Int32 × Int32 × Zh) ⊕ (Int32 × Zh))))
      (fun (m : Nat) (st : Int32 × Int32 × Zh) => ∃ j lj paj, m = tLen t - j ∧ j ≤ tLen t ∧ st.1 = nI (pn (pEn p (tPre t j)).1) ∧ st.2.1 = nI j ∧ zFo (aB X) h (tPre t j) w lj ∧ (∃ r, l = lj ++ r) ∧ cPs st.2.2 X paj (pEn p (tPre t j)).1 ∧ eF X lj h st.2.2 ∧ (∀ i, i < j → zp h w i = some (paj ((pEn p (tPre t j)).2.getD i 0))) ∧ (∀ q, q < pn p → paj q = pa q) ∧ ∀ q, pn p ≤ q → q < pn (pEn p (tPre t j)).1 → paj q ∈ lj)
      (fun st => ∃ paj, st.1 = nI (pn (pEn p t).1) ∧ cPs st.2 X paj (pEn p t).1 ∧ eF X l h st.2 ∧ (∀ i, i < tLen t → zp h w i = some (paj ((pEn p t).2.getD i 0))) ∧ (∀ q, q < pn p → paj q = pa q) ∧ ∀ q, pn p ≤ q → q < pn (pEn p t).1 → paj q ∈ l) (by
      rintro m ⟨v2, v3, h4⟩ ⟨j, lj, paj, hm, hj, e1, e2, e3, ⟨r, e4⟩, e5, e6, e7, e8, e9⟩
      dsimp only at e1 e2 e5 e6
      subst e1 e2
      have k2 : v < zn h4 := by rw [e6.1.1]; exact a2
      have k3 : zk h4 v = 4 := by rw [e6.1.2.2.1]; exact a3
      have k6 : zp h4 v 2 = some w := by rw [e6.2.1 v (by omega)]; exact a6
      have w2 : w < zn h4 := by rw [e6.1.1]; exact b2
      have w3 : zk h4 w = 103 := by rw [e6.1.2.2.1]; exact b3
      have w4 : zl h4 w = tLen t := by rw [e6.1.2.2.2]; exact b4
      show (∃ s' m', ((zfP h4 (some v) 3 2).bind _) = _ ∧ _) ∨ ∃ r, ((zfP h4 (some v) 3 2).bind _) = _ ∧ _
      rw [zfP_v (ci := 3) k2 k3, k6, Option.bind_some, zaL_v (t := 3) w2 w3, w4, Option.bind_some]
      by_cases z : j = tLen t
      · subst z
        rw [if_pos (nI_le (Nat.le_refl _) (by omega))]
        rw [tPre_all] at e3 e5 e7 e9
        have el := zFo_uniq t w _ _ e3 fo
        subst el
        refine Or.inr ⟨_, rfl, paj, ?_, e5, e6, e7, e8, e9⟩
        show nI (pn (pEn p (tPre t (tLen t))).1) = _
        rw [tPre_all]
      · have hj' : j < tLen t := by omega
        obtain ⟨l', r', g1, g2⟩ := zFo_pre t w l fo (j + 1) (by omega)
        rw [tPre_S t j hj'] at g2
        obtain ⟨l1, l2, u, x, q1, q2, q3, q4, q5⟩ := g2
        have el := zFo_uniq _ w _ _ q2 e3
        subst el
        rw [tPre_len t j (by omega)] at q3
        obtain ⟨p1, p2, p3, p4, p5, p6⟩ := pre j (by omega)
        have kz := tKid_sz t j hj'
        have kp := tPre_sz t (j + 1)
        rw [tPre_S t j hj'] at kp
        have kp' : tSz (tPre t j) + tSz (tKid t j) ≤ tSz t := kp
        have kh := tKid_ht t j hj'
        have kp1 := tSz_1 (tPre t j)
        have mem : ∀ y, y ∈ l2 ++ [u] → y ∈ l ∧ y ∉ l1 := fun y hy => by
          rw [g1, q1] at n1
          refine ⟨by rw [g1, q1]; exact List.mem_append_left _ (List.mem_append_right _ hy), fun hz => ?_⟩
          have := (List.nodup_append.mp (List.nodup_append.mp n1).1).2.2 y hz y hy
          exact this rfl
        have ndk : (l2 ++ [u]).Nodup := by
          rw [g1, q1] at n1
          exact (List.nodup_append.mp (List.nodup_append.mp n1).1).2.1
        rw [if_neg (nI_nle' (by omega) hj'), Option.bind_some, zaP_v (t := 3) (n := tLen t) w2 w3 w4 hj' (by omega), Option.bind_some, e6.2.1 w (by omega), q3, nI_1]
        obtain ⟨h5, pa5, r1, r2, r3, r4, r5, r6⟩ := ih (d + 1) (tKid t j) h4 (pEn p (tPre t j)).1 paj u x l2 (e6.fix f) e5 p1 (tKid_OK t j ht.1 hj') (by omega) (by omega) (by omega) (by omega) (q4.on e6.sm) (q5.on e6.sm _ _ _ (q4.arr e6.sm)) ndk (fun y hy => by
          obtain ⟨y1, y2⟩ := mem y hy
          obtain ⟨y3, y4⟩ := nw y (List.mem_append_left _ y1)
          have yb : y ≠ X + 2 := fun z => by
            have yP : X + 94 ≤ y := (zFo_P t w l fo y y1).1
            omega
          exact ⟨by rw [e6.2.2 y 5 (fun z => y2 z.1)]; exact y3, by rw [e6.2.1 y yb]; exact y4⟩)
        rw [r1, Option.bind_some]
        refine Or.inl ⟨_, tLen t - (j + 1), rfl, by omega, j + 1, l1 ++ (l2 ++ [u]), pa5, rfl, by omega, ?_, by rw [nI_1], ?_, ⟨r', by rw [g1, q1]⟩, ?_, e6.tr r3, fun i hi => ?_, fun q hq => by rw [r5.1 q (by omega)]; exact e8 q hq, fun q h1 h2 => ?_⟩
        · rw [tPre_S t j hj', pEn_op]
          refine congrArg nI ?_
          have := (pEn_ok (tKid t j) (pEn p (tPre t j)).1 p1 (tKid_OK t j ht.1 hj').1 (by omega) (by omega)).2.1
          show pn (pEn p (tPre t j)).1 + tSz (tKid t j) = pn (pEn (pEn p (tPre t j)).1 (tKid t j)).1 + 1
          omega
        · rw [tPre_S t j hj']
          exact ⟨l1, l2, u, x, rfl, q2, by rw [tPre_len t j (by omega)]; exact q3, q4, q5⟩
        · rw [tPre_S t j hj', pEn_op]
          exact r2
        · rw [tPre_S t j hj', pEn_op]
          have jl : (pEn p (tPre t j)).2.length = j := by rw [p5, tPre_len _ j (by omega)]
          show _ = some (pa5 (((pEn p (tPre t j)).2 ++ [pn (pEn (pEn p (tPre t j)).1 (tKid t j)).1]).getD i 0))
          by_cases y : i = j
          · subst y
            have := getD_app2 (pEn p (tPre t i)).2 (pn (pEn (pEn p (tPre t i)).1 (tKid t i)).1)
            rw [jl] at this
            rw [this, r6]
            exact q3
          · rw [getD_app1 _ _ _ (by omega), r5.1 _ (p4 _ (getD_mem _ i (by omega)))]
            exact e7 i (by omega)
        · rw [tPre_S t j hj', pEn_op] at h2
          by_cases y : q < pn (pEn p (tPre t j)).1
          · rw [r5.1 q y]
            exact List.mem_append_left _ (e9 q h1 y)
          · exact List.mem_append_right _ (r5.2 q (by omega) h2)) (tLen t) (nI (pn p), nI 0, h) zFU (by
      rw [show tLen t = tLen t - 0 from rfl]
      refine ⟨0, [], pa, rfl, Nat.zero_le _, ?_, rfl, ?_, ⟨l, rfl⟩, ?_, eF.rf, fun i hi => absurd hi (Nat.not_lt_zero _), fun _ _ => rfl, fun q h1 h2 => ?_⟩
      · rw [tPre_0]; rfl
      · rw [tPre_0]; rfl
      · rw [tPre_0]; exact c
      · rw [tPre_0] at h2
        have h2' : q < pn p := h2
        omega) (by rw [zFU_v]; omega)
    obtain ⟨⟨w5, h6⟩, g1, paj, g2, g3, g4, g5, g6, g7⟩ := lp
    dsimp only at g2 g3 g4
    subst g2
    obtain ⟨p1, p2, p3, p4, p5, p6⟩ := pEn_ok t p ok ht.1 hz (by omega)
    obtain ⟨c1, c2, c3, c4⟩ := pEnt_ok ok ht hz hn ⟨p1, p2, p3, p4, p5, p6⟩
    have f6 := g4.fix f
    have f60 := f6.1
    have k2 : v < zn h6 := by rw [g4.1.1]; exact a2
    have k3 : zk h6 v = 4 := by rw [g4.1.2.2.1]; exact a3
    have n5 : zi h6 v 5 = -3 := by rw [g4.2.2 v 5 (fun z => vl z.1)]; exact (nw v (List.mem_append_right _ List.mem_cons_self)).1
    have n6 : zp h6 v 6 = none := by rw [g4.2.1 v (by omega)]; exact (nw v (List.mem_append_right _ List.mem_cons_self)).2
    have ent := cPs.enter (k := tKd (tLab t)) (x := tNm (tLab t)) (l := (pEn p t).2) (v := v) (w := w) g3 p1 c1 (fun q hq z => by
      have := (g3.1 q hq).2.1
      rw [z, n5] at this
      have h200' := p1.1
      exact nI_n3 (by omega) this.symm) (by
      show zNd (aB X) h6 v w (pT (pEnt p t) (pn (pEn p t).1))
      rw [c4]
      exact nd.on g4.sm) (fun i hi => by
      rw [p5] at hi
      rw [g4.2.1 w (by omega)]
      exact g5 i hi) n6
    refine ⟨zEn X h6 (pn (pEn p t).1) v, m1 paj (pn (pEn p t).1) v, ?_, ent, g4.tr zEn_eF, ?_, ⟨fun q hq => ?_, fun q h1 h2 => ?_⟩, m1_s⟩
    · refine (congrArg (fun o : Option (Int32 × Zh) => o.bind fun ((w5, h6) : Int32 × Zh) =>
        if w5 < 0 then
          some (nI (pn p), h6)
        else
          (zaL h6 (some (X + 2)) 3).bind fun x15 =>
          if w5 < x15 then
            (zbP h6 (some (X + 2)) 3 3 w5 (some v)).bind fun h16 =>
            (zgI h16 (some v) 3 5 w5).bind fun h17 =>
            some (w5 + (1 : Int32), h17)
          else
            some (nI (pn p), h6)) g1).trans ?_
      show (if nI (pn (pEn p t).1) < 0 then _ else _) = _
      rw [if_neg (nI_pos (by omega)), zaL_v (t := 3) (by omega) f6.2.2.2.1.1, f6.2.2.2.1.2, Option.bind_some, if_pos (nI_lt (by omega) (by omega)), zbP_v (t := 3) (n := 200) (ci := 3) (by omega) f6.2.2.2.1.1 f6.2.2.2.1.2 (by omega) (by omega) k2 k3, Option.bind_some, zgI_v (ci := 3) (by exact k2) (by exact k3), Option.bind_some, nI_1, p2]
    · show u2 (zi h6) v 5 (nI (pn (pEn p t).1)) v 5 = _
      rw [u2_s]
    · rw [m1_n (by omega)]; exact g6 q hq
    · have h2' : q < pn (pEn p t).1 + 1 := h2
      by_cases y : q = pn (pEn p t).1
      · rw [y, m1_s]; exact List.mem_append_right _ List.mem_cons_self
      · rw [m1_n y]; exact List.mem_append_left _ (g7 q h1 (by omega))
/-- a tree of new pieces is kept -/
theorem ckeepT {h : Zh} {X v w : Nat} {pa : Nat → Nat} {p : Mp} {t : Tr} {l : List Nat} (f : cFix h X) (c : cPc h X pa p) (ok : pOK p) (ht : tOK t) (hz : tSz t < 90000) (nd : zNd (aB X) h v w t) (fo : zFo (aB X) h t w l) (no : (l ++ [v]).Nodup) (nw : nNew h (l ++ [v])) :
    ∃ h' pa', fX5_keep h (some X) (some v) (nI (tSz t)) = some ((if tSz t ≤ 60 ∧ pn p + tSz t ≤ 200 then nI (pn p + tSz t - 1) else -2), h') ∧ (cPc h' X pa' (if tSz t ≤ 60 ∧ pn p + tSz t ≤ 200 then pEnt p t else p) ∧ pn p ≤ pn (if tSz t ≤ 60 ∧ pn p + tSz t ≤ 200 then pEnt p t else p) ∧ (∀ q, q < pn p → pa' q = pa q) ∧ ∀ q, pn p ≤ q → q < pn (if tSz t ≤ 60 ∧ pn p + tSz t ≤ 200 then pEnt p t else p) → pa' q ∈ l ++ [v]) ∧ (zn h' = zn h ∧ zs h' = zs h ∧ zk h' = zk h ∧ zl h' = zl h) ∧ (∀ u, u ≠ X + 2 → zp h' u = zp h u) ∧ ∀ u k, ¬ (u ∈ l ++ [v] ∧ k = 5) → ¬ (u = X ∧ k = 3) → zi h' u k = zi h u k := by
  have f0 := f.1
  have h200 := ok.1
  have s1 := tSz_1 t
  have nd' := nd
  obtain ⟨⟨a1, a2, a3, a4, a5, a6, a7, a8⟩, -⟩ := nd'
  have a1' : X + 94 ≤ v := a1
  unfold fX5_keep
  rw [zfI_v (ci := 3) a2 a3, a7, Option.bind_some]
  by_cases c1 : tSz t ≤ 60
  · rw [if_neg (show ¬ (60 : Int32) < nI (tSz t) from nI_nlt (a := 60) c1 (by omega)), zfI_v (ci := 6) (by omega) f.2.1.1, c.1, Option.bind_some, nI_add]
    by_cases c2 : pn p + tSz t ≤ 200
    · have hyes : tSz t ≤ 60 ∧ pn p + tSz t ≤ 200 := ⟨c1, c2⟩
      have hh := tOK_ht ht
      rw [if_pos (show nI (pn p + tSz t) ≤ (200 : Int32) from nI_le (b := 200) c2 (by omega)), zfP_v (ci := 6) (by omega) f.2.1.1, f.2.1.2.2.1, Option.bind_some, Option.bind_some, if_pos hyes, if_pos hyes]
      obtain ⟨h1, pa1, e1, e2, e3, e4, e5, e6⟩ := centerT 64 0 t h p pa v w l f c.2 ok ht (by omega) (by omega) c1 c2 nd fo no nw
      have e1' : fX5_enter 64 h (some v) (some (X + 2)) (nI (pn p)) (0 : Int32) = some (nI (pn p + tSz t), h1) := e1
      have f1 := e3.fix f
      have f10 := f1.1
      have en := pEn_ok t p ok ht.1 c1 (by omega)
      obtain ⟨g1, g2, g3, g4⟩ := pEnt_ok ok ht c1 c2 en
      have k3 : zk h1 v = 4 := by rw [e3.1.2.2.1]; exact a3
      have k2 : v < zn h1 := by rw [e3.1.1]; exact a2
      rw [e1', Option.bind_some]
      show ∃ h' pa', ((zgI h1 (some X) 6 3 (nI (pn p + tSz t))).bind _) = _ ∧ _
      rw [zgI_v (ci := 6) (by omega) f1.2.1.1, Option.bind_some, zfI_v (ci := 3) (by exact k2) (by exact k3), Option.bind_some]
      have ex : zExt (fun u => u = X) h1 (zsetI h1 X 3 (nI (pn p + tSz t))) := zExt.sI (Or.inl rfl)
      have v5 : zi (zsetI h1 X 3 (nI (pn p + tSz t))) v 5 = nI (pn p + tSz t - 1) := by
        show u2 (zi h1) X 3 _ v 5 = _
        rw [u2_n (by omega), e4]
        congr 1
        have := en.2.1
        omega
      refine ⟨_, pa1, by rw [v5], ⟨⟨?_, e2.ext ex (fun j => rfl) (fun u hu _ _ z => by omega)⟩, by rw [g2]; omega, e5.1, e5.2⟩, e3.1, fun u hu => e3.2.1 u hu, fun u k n1 n2 => ?_⟩
      · show u2 (zi h1) X 3 _ X 3 = _
        rw [u2_s, g2]
      · show u2 (zi h1) X 3 _ u k = _
        rw [u2_n n2]
        exact e3.2.2 u k n1
    · rw [if_neg (show ¬ nI (pn p + tSz t) ≤ (200 : Int32) from nI_nle' (a := 200) (by omega) (by omega)), if_neg (fun z => c2 z.2), if_neg (fun z => c2 z.2)]
      exact ⟨h, pa, rfl, ⟨c, Nat.le_refl _, fun _ _ => rfl, fun q h1 h2 => absurd h2 (by omega)⟩, ⟨rfl, rfl, rfl, rfl⟩, fun _ _ => rfl, fun _ _ _ _ => rfl⟩
  · rw [if_pos (show (60 : Int32) < nI (tSz t) from nI_lt (a := 60) (by omega) (by omega)), if_neg (fun z => c1 z.1), if_neg (fun z => c1 z.1)]
    exact ⟨h, pa, rfl, ⟨c, Nat.le_refl _, fun _ _ => rfl, fun q h1 h2 => absurd h2 (by omega)⟩, ⟨rfl, rfl, rfl, rfl⟩, fun _ _ => rfl, fun _ _ _ _ => rfl⟩
