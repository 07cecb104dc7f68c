/-! a tree of nodes becomes pieces, on the reference's side -/
def mkB (s3 : Zr) (x7 : Int32) : Option Zr :=
          (rdI s3 13 x7).bind fun x8 =>
          (rdI s3 13 x7).bind fun x9 =>
          (if x9 = 0 then
            (rdI s3 14 x7).bind fun x12 =>
            some x12
          else
            some (-3 : Int32)).bind fun (v10 : Int32) =>
          (fX6_newPiece s3 x8 v10).bind fun ((x13, s14) : Int32 × Zr) =>
          (zloop (fun ((v15, s16) : Int32 × Zr) =>
            ((rdI s16 16 x7).bind fun x20 =>
            if x20 ≤ v15 then
              some (.inr s16)
            else
              (rdI s16 15 x7).bind fun x21 =>
              (rdI s16 17 (x21 + v15)).bind fun x22 =>
              (rdI s16 24 x22).bind fun x23 =>
              (fX6_addPart s16 x13 x23).bind fun s24 =>
              some (.inl (v15 + (1 : Int32), s24)) : Option ((Int32 × Zr) ⊕ Zr))) zFU ((0 : Int32), s14)).bind fun (s17 : Zr) =>
          wrI s17 24 x7 x13
abbrev sMk (a k : Nat) : Prop := sPc a k ∨ a = 24
theorem mkB_eq {s : Zr} {p : Mp} {x lab f : Nat} {l : List Nat} (h : rPc s p) (hx : x < 200) (hl : lab ≤ 16) (e13 : s 13 x = nI (tKd lab)) (e14 : s 14 x = tNm lab) (e16 : s 16 x = nI l.length) (e15 : s 15 x = nI f) (hf : f + l.length ≤ 20000) (hk : ∀ j, j < l.length → ∃ y, y < 200 ∧ s 17 (f + j) = nI y ∧ s 24 y = nI (l.getD j 0) ∧ l.getD j 0 < pn p) (hn : pn p < 200) (hA : pAll p (pn p) + l.length ≤ 12000) :
    zS (mkB s (nI x)) (fun s' => rPc s' (pAdd p (tKd lab) (tNm lab) l) ∧ s' 24 x = nI (pn p) ∧ rOnly (fun a k => sPc a k ∨ (a = 24 ∧ k = x)) s s') := by
  unfold mkB
  refine zS.e (rd13 hx) ?_
  rw [e13]
  refine zS.e (rd13 hx) ?_
  rw [e13]
  refine zS.e (x := tNm lab) ?_ ?_
  · by_cases c : lab < 12
    · rw [if_pos ((tKd_0 hl).mpr c), rd14 hx, e14]; rfl
    · rw [if_neg (fun z => c ((tKd_0 hl).mp z))]
      unfold tNm
      rw [if_neg c]
  · obtain ⟨s1, e1, r1, o1⟩ := rnewp_eq h hn (tKd lab) (tNm lab)
    refine zS.e e1 ?_
    refine zS.b (R1 := fun s' => rPc s' (pAdd p (tKd lab) (tNm lab) l) ∧ rOnly sPc s s') (zS.up (fun j s' => rPc s' (pAdd p (tKd lab) (tNm lab) (l.take j)) ∧ rOnly sPc s s') 0 l.length (fun j s' _ hj hJ => ?_) (fun s' hJ => ?_) (Nat.zero_le _) (by omega) ⟨r1, o1⟩) (fun s2 ⟨b1, b2⟩ => ?_)
    · obtain ⟨j1, j2⟩ := hJ
      obtain ⟨y, y1, y2, y3, y4⟩ := hk j hj
      dsimp only
      rw [rd16 hx, Option.bind_some, j2 16 _ (by omega), e16, if_neg (nI_nle' (by omega) hj), rd15 hx, Option.bind_some, j2 15 _ (by omega), e15, nI_add, rd17 (by omega), Option.bind_some, j2 17 _ (by omega), y2, rd24 y1, Option.bind_some, j2 24 _ (by omega), y3]
      obtain ⟨s3, e3, r3, o3⟩ := raddp_eq j1 hn (by rw [List.length_take]; omega) y4
      refine zS.e e3 (zS.s ⟨_, by rw [nI_1], ?_, j2.tr o3⟩)
      rw [take_1 l j hj]
      exact r3
    · dsimp only
      rw [rd16 hx, Option.bind_some, hJ.2 16 _ (by omega), e16, if_pos (nI_le (Nat.le_refl _) (by omega))]
      rw [List.take_length] at hJ
      exact zS.s ⟨_, rfl, hJ⟩
    · refine ⟨_, wr24 hx, ?_, u2_s, (b2.mono (fun a k z => Or.inl z)).tr (rOnly.u (Or.inr ⟨rfl, rfl⟩))⟩
      exact b1.only (rOnly.u (S := oA 24) rfl) (by omega) (by omega) (fun a k h1 h2 => by omega)
/-- nodes one behind the other -/
def mkR : List Nat → Zr → Zr → Prop
  | [], s, s' => s' = s
  | x :: l, s, s' => ∃ s1, mkB s (nI x) = some s1 ∧ rOnly sMk s s1 ∧ mkR l s1 s'
theorem mkR_app : ∀ (a b : List Nat) (s s1 s2 : Zr), mkR a s s1 → mkR b s1 s2 → mkR (a ++ b) s s2
  | [], _, _, _, _, h1, h2 => by rw [h1] at h2; exact h2
  | x :: a, b, s, s1, s2, ⟨t, t1, t2, t3⟩, h2 => ⟨t, t1, t2, mkR_app a b t s1 s2 t3 h2⟩
theorem nP_len {V : Nat → Prop} {s : Zr} {N L : Nat} {nt : Nat → Tr} (st : nSq V s N L nt) (hN : N ≤ 200) (hL : L ≤ 20000) : ∀ d x, N - x = d → x < N → V x → (nP s x).length = tSz (nt x) := by
  intro d
  induction d using Nat.strongRecOn with
  | ind d ih =>
    intro x hd hx vx
    rw [nP_eq st hN hL hx vx, List.length_append]
    have key : ∀ j, j ≤ tLen (nt x) → ((nks s x j).flatMap (nP s)).length + 1 = tSz (tPre (nt x) j) := by
      intro j
      induction j with
      | zero => intro _; rw [tPre_0]; rfl
      | succ j jh =>
        intro hj
        obtain ⟨k1, k2, k3, k4⟩ := st.kid hN hL hx vx (show j < tLen (nt x) by omega)
        have e : nks s x (j + 1) = nks s x j ++ [nk s x j] := by
          show nks s x j ++ [nk s x (0 + j)] = _
          rw [Nat.zero_add]
        rw [e, List.flatMap_append, List.length_append, List.flatMap_cons, List.flatMap_nil, List.append_nil, ih (N - nk s x j) (by omega) _ rfl k3 k2, tPre_S _ j (by omega), k4]
        have := jh (by omega)
        show _ = tSz (tPre (nt x) j) + tSz (tKid (nt x) j)
        omega
    have := key _ (Nat.le_refl _)
    rw [tPre_all] at this
    exact this
theorem nP_self {V : Nat → Prop} {s : Zr} {N L : Nat} {nt : Nat → Tr} (st : nSq V s N L nt) (hN : N ≤ 200) (hL : L ≤ 20000) {x : Nat} (hx : x < N) (vx : V x) : x ∈ nP s x := by
  rw [nP_eq st hN hL hx vx]
  exact List.mem_append_right _ List.mem_cons_self
theorem mkT {V : Nat → Prop} {s0 : Zr} {N L : Nat} {nt : Nat → Tr} (st : nSq V s0 N L nt) (hN : N ≤ 200) (hL : L ≤ 20000) (hO : ∀ x, x < N → V x → tOK (nt x)) : ∀ d x (s : Zr) (p : Mp), N - x = d → x < N → V x → (nP s0 x).Nodup → rPc s p → pOK p → (∀ a k, 13 ≤ a → a ≤ 17 → s a k = s0 a k) → tSz (nt x) ≤ 60 → pn p + tSz (nt x) ≤ 200 →
    ∃ s', mkR (nP s0 x) s s' ∧ rPc s' (pEnt p (nt x)) ∧ s' 24 x = nI (pn (pEn p (nt x)).1) ∧ (∀ z, z ∉ nP s0 x → s' 24 z = s 24 z) ∧ rOnly sMk s s' := by
  intro d
  induction d using Nat.strongRecOn with
  | ind d ih =>
    intro x s p hd hx vx nd h ok hs hz hn
    obtain ⟨c1, c2, c3, f, c4, c5, c6⟩ := st x hx vx
    have ht := hO x hx vx
    have en := nP_eq st hN hL hx vx
    rw [en] at nd
    obtain ⟨nd1, -, nd3⟩ := List.nodup_append.mp nd
    have kid := fun j (hj : j < tLen (nt x)) => st.kid hN hL hx vx hj
    have en1 : ∀ j, nks s0 x (j + 1) = nks s0 x j ++ [nk s0 x j] := fun j => by
      show nks s0 x j ++ [nk s0 x (0 + j)] = _
      rw [Nat.zero_add]
    have pre : ∀ j, j ≤ tLen (nt x) → eOK p (tPre (nt x) j) (pEn p (tPre (nt x) j)) := fun j _ => pEn_ok _ _ ok (tPre_G _ j ht.1) (by have := tPre_sz (nt x) j; omega) (by have := tPre_sz (nt x) j; omega)
    have key : ∀ j, j ≤ tLen (nt x) → ((nks s0 x j).flatMap (nP s0)).Nodup → ∃ s', mkR ((nks s0 x j).flatMap (nP s0)) s s' ∧ rPc s' (pEn p (tPre (nt x) j)).1 ∧ (∀ i, i < j → s' 24 (nk s0 x i) = nI ((pEn p (tPre (nt x) j)).2.getD i 0)) ∧ (∀ z, z ∉ (nks s0 x j).flatMap (nP s0) → s' 24 z = s 24 z) ∧ rOnly sMk s s' := by
      intro j
      induction j with
      | zero =>
        intro _ _
        rw [tPre_0]
        exact ⟨s, rfl, h, fun i hi => absurd hi (Nat.not_lt_zero _), fun _ _ => rfl, rOnly.rf⟩
      | succ j jh =>
        intro hj hnd
        rw [en1, List.flatMap_append, List.flatMap_cons, List.flatMap_nil, List.append_nil] at hnd ⊢
        obtain ⟨n1, n2, n3⟩ := List.nodup_append.mp hnd
        obtain ⟨s1, a1, a2, a3, a4, a5⟩ := jh (by omega) n1
        obtain ⟨k1, k2, k3, k4⟩ := kid j (by omega)
        obtain ⟨e1, e2, e3, e4, e5, e6⟩ := pre j (by omega)
        have sz := tKid_sz (nt x) j (by omega)
        have psz := tPre_sz (nt x) (j + 1)
        rw [tPre_S _ j (by omega)] at psz
        have psz' : tSz (tPre (nt x) j) + tSz (tKid (nt x) j) ≤ tSz (nt x) := psz
        obtain ⟨s2, b1, b2, b3, b4, b5⟩ := ih (N - nk s0 x j) (by omega) (nk s0 x j) s1 (pEn p (tPre (nt x) j)).1 rfl k3 k2 n2 a2 e1 (fun a k h1 h2 => (a5 a k (by omega)).trans (hs a k h1 h2)) (by rw [k4]; omega) (by rw [k4]; omega)
        rw [k4] at b2 b3
        rw [tPre_S _ j (by omega), pEn_op]
        have jl : (pEn p (tPre (nt x) j)).2.length = j := by rw [e5, tPre_len _ j (by omega)]
        refine ⟨s2, mkR_app _ _ _ _ _ a1 b1, b2, fun i hi => ?_, fun z hz => ?_, a5.tr b5⟩
        · by_cases q : i = j
          · subst q
            rw [b3]
            congr 1
            have := getD_app2 (pEn p (tPre (nt x) i)).2 (pn (pEn (pEn p (tPre (nt x) i)).1 (tKid (nt x) i)).1)
            rw [jl] at this
            exact this.symm
          · have hi' : i < j := by omega
            obtain ⟨q1, q2, q3, -⟩ := kid i (by omega)
            have mem : nk s0 x i ∈ (nks s0 x j).flatMap (nP s0) := List.mem_flatMap.mpr ⟨nk s0 x i, by
              have : ∀ m, i < m → nk s0 x i ∈ nks s0 x m := by
                intro m
                induction m with
                | zero => intro h; omega
                | succ m mh =>
                  intro h
                  rw [en1]
                  by_cases w : i = m
                  · subst w; exact List.mem_append_right _ List.mem_cons_self
                  · exact List.mem_append_left _ (mh (by omega))
              exact this j hi', nP_self st hN hL q3 q2⟩
            rw [b4 _ (fun w => n3 _ mem _ w rfl), a3 i hi']
            congr 1
            exact (getD_app1 _ _ _ (by omega)).symm
        · rw [b4 z (fun w => hz (List.mem_append_right _ w)), a4 z (fun w => hz (List.mem_append_left _ w))]
    obtain ⟨s1, a1, a2, a3, a4, a5⟩ := key _ (Nat.le_refl _) nd1
    have pr := pre _ (Nat.le_refl _)
    rw [tPre_all] at a2 a3 pr
    obtain ⟨e1, e2, e3, e4, e5, e6⟩ := pr
    have hal := pAll_lim e1 (pn (pEn p (nt x)).1) (Nat.le_refl _)
    have sl := tSz_1 (nt x)
    have gs : ∀ a k, 13 ≤ a → a ≤ 17 → s1 a k = s0 a k := fun a k h1 h2 => (a5 a k (by omega)).trans (hs a k h1 h2)
    obtain ⟨s2, b1, b2, b3, b4⟩ := mkB_eq (l := (pEn p (nt x)).2) (f := f) (x := x) (lab := tLab (nt x)) a2 (by omega) (tG_lab _ ht.1) (by rw [gs 13 x (by omega) (by omega)]; exact c1) (by rw [gs 14 x (by omega) (by omega)]; exact c2) (by rw [gs 16 x (by omega) (by omega), e5]; exact c3) (by rw [gs 15 x (by omega) (by omega)]; exact c4) (by rw [e5]; omega) (fun j hj => by
      rw [e5] at hj
      obtain ⟨y, ⟨y1, y2⟩, y3, y4, y5⟩ := c6 j hj
      have ey : nk s0 x j = y := nk_at c4 y4 (by omega) (by omega)
      refine ⟨y, by omega, by rw [gs 17 _ (by omega) (by omega)]; exact y4, by rw [← ey]; exact a3 j hj, e4 _ (getD_mem _ j (by rw [e5]; exact hj))⟩) (by omega) (by rw [e5]; omega)
    rw [en]
    refine ⟨s2, mkR_app _ _ _ _ _ a1 ⟨s2, b1, b4.mono (fun a k z => by omega), rfl⟩, b2, b3, fun z hz => ?_, a5.tr (b4.mono (fun a k z => by omega))⟩
    rw [b4 24 z (fun w => by
      rcases w with w | w
      · omega
      · exact hz (List.mem_append_right _ (by rw [w.2]; exact List.mem_cons_self))), a4 z (fun w => hz (List.mem_append_left _ w))]
def stk1 (s : Zr) (S : List Nat) : Prop := ∀ i, i < S.length → s 19 i = nI (S.getD i 0)
theorem stk1_push {s : Zr} {S : List Nat} (h : stk1 s S) (x : Nat) : stk1 (u2 s 19 S.length (nI x)) (S ++ [x]) := by
  intro i hi
  rw [List.length_append] at hi
  have hi' : i < S.length + 1 := hi
  by_cases e : i = S.length
  · subst e
    rw [getD_app2, u2_s]
  · rw [getD_app1 _ _ _ (by omega), u2_n (by omega)]
    exact h i (by omega)
theorem stk1_pop {s : Zr} {S : List Nat} {x : Nat} (h : stk1 s (S ++ [x])) : stk1 s S ∧ s 19 S.length = nI x := by
  refine ⟨fun i hi => ?_, ?_⟩
  · have := h i (by rw [List.length_append]; exact Nat.lt_add_right _ hi)
    rw [getD_app1 _ _ _ hi] at this
    exact this
  · have := h S.length (by rw [List.length_append]; exact Nat.lt_succ_self _)
    rw [getD_app2] at this
    exact this
theorem snoc_ne1 : ∀ L : List Nat, L ≠ [] → ∃ L' x, L = L' ++ [x]
  | [], h => absurd rfl h
  | a :: L, _ => by
    cases L with
    | nil => exact ⟨[], a, rfl⟩
    | cons b L =>
      obtain ⟨L', x, e⟩ := snoc_ne1 (b :: L) (by simp)
      exact ⟨a :: L', x, by rw [e]; rfl⟩
abbrev sRw (a k : Nat) : Prop := a = 19 ∨ a = 23 ∨ (a = 0 ∧ k = 28)
theorem nP_lenS {V : Nat → Prop} {s : Zr} {N L : Nat} {nt : Nat → Tr} (st : nSq V s N L nt) (hN : N ≤ 200) (hL : L ≤ 20000) : ∀ S : List Nat, (∀ x, x ∈ S → x < N ∧ V x) → S.length ≤ (S.flatMap (nP s)).length
  | [], _ => Nat.zero_le _
  | x :: S, h => by
    have h1 := nP_lenS st hN hL S (fun y hy => h y (List.mem_cons_of_mem _ hy))
    obtain ⟨h2, h3⟩ := h x List.mem_cons_self
    rw [List.flatMap_cons, List.length_append, List.length_cons, nP_len st hN hL _ _ rfl h2 h3]
    have := tSz_1 (nt x)
    omega
theorem drop_cons_get {R : List Nat} {o x : Nat} {T : List Nat} (h : R.drop o = x :: T) : o < R.length ∧ R.getD o 0 = x ∧ R.drop (o + 1) = T := by
  have hl : o < R.length := by
    have := congrArg List.length h
    rw [List.length_drop, List.length_cons] at this
    omega
  have e := List.drop_eq_getElem_cons hl
  rw [h] at e
  injection e with e1 e2
  refine ⟨hl, ?_, e2.symm⟩
  rw [List.getD_eq_getElem?_getD, List.getElem?_eq_getElem hl]
  exact e1.symm
theorem rrow_eq {V : Nat → Prop} {s : Zr} {N L : Nat} {nt : Nat → Tr} (st : nSq V s N L nt) (hN : N ≤ 200) (hL : L ≤ 20000) {r : Nat} (hr : r < N) (vr : V r) (hz : tSz (nt r) ≤ 199) :
    zS (fX6_layRow s (nI r)) (fun s' => s' 0 28 = nI (tSz (nt r)) ∧ (∀ i, i < tSz (nt r) → s' 23 i = nI ((nP s r).reverse.getD i 0)) ∧ rOnly sRw s s') := by
  have len0 := nP_len st hN hL _ _ rfl hr vr
  unfold fX6_layRow
  refine zS.e rfl ?_
  refine zS.e (show wrI _ 19 (nI 0) (nI r) = _ from wr19 (by omega)) ?_
  refine zS.b (R1 := fun s' => s' 0 28 = nI (tSz (nt r)) ∧ (∀ i, i < tSz (nt r) → s' 23 i = nI ((nP s r).reverse.getD i 0)) ∧ rOnly sRw s s') ?_ (fun q hq => zS.s hq)
  refine zloop_inv (fun (n : Nat) (q : Int32 × Zr) => ∃ o S, n = tSz (nt r) - o ∧ q.1 = nI S.length ∧ stk1 q.2 S ∧ (∀ x, x ∈ S → x < N ∧ V x) ∧ (nP s r).reverse.drop o = (S.flatMap (nP s)).reverse ∧ q.2 0 28 = nI o ∧ o ≤ tSz (nt r) ∧ (∀ i, i < o → q.2 23 i = nI ((nP s r).reverse.getD i 0)) ∧ rOnly sRw s q.2) _ ?_ (tSz (nt r)) _ _ ⟨0, [r], rfl, rfl, stk1_push (S := []) (fun i hi => absurd hi (Nat.not_lt_zero _)) r, fun x hx => by rw [List.mem_singleton.mp hx]; exact ⟨hr, vr⟩, by
      show (nP s r).reverse = ([r].flatMap (nP s)).reverse
      rw [List.flatMap_cons, List.flatMap_nil, List.append_nil], by
      show u2 (u2 s 0 28 0) 19 0 (nI r) 0 28 = _
      rw [u2_a (by decide), u2_s]; rfl, Nat.zero_le _, fun i hi => absurd hi (Nat.not_lt_zero _), (rOnly.u (by omega)).tr (rOnly.u (by omega))⟩ (by rw [zFU_v]; omega)
  rintro n ⟨w, s'⟩ ⟨o, S, hn, e1, e2, e3, e4, e5, e6, e7, e8⟩
  dsimp only at e1 e2 e5 e7 e8
  subst e1
  by_cases z : S = []
  · subst z
    have eo : o = tSz (nt r) := by
      have := congrArg List.length e4
      rw [List.length_drop, List.length_reverse, len0] at this
      have h0 : (([] : List Nat).flatMap (nP s)).reverse.length = 0 := rfl
      omega
    subst eo
    refine Or.inr ⟨s', ?_, e5, e7, e8⟩
    show (if nI 0 ≤ 0 then _ else _) = _
    rw [if_pos (by decide)]
  · obtain ⟨S', x, rfl⟩ := snoc_ne1 S z
    obtain ⟨p1, p2⟩ := stk1_pop e2
    obtain ⟨hx, vx⟩ := e3 x (by simp)
    have hS' : ∀ y, y ∈ S' → y < N ∧ V y := fun y hy => e3 y (by simp [hy])
    obtain ⟨c1, c2, c3, f, c4, c5, c6⟩ := st x hx vx
    have kid := fun j (hj : j < tLen (nt x)) => st.kid hN hL hx vx hj
    rw [List.flatMap_append, List.flatMap_cons, List.flatMap_nil, List.append_nil, nP_eq st hN hL hx vx, ← List.append_assoc, List.reverse_append] at e4
    have e4' : (nP s r).reverse.drop o = x :: (S'.flatMap (nP s) ++ (nks s x (tLen (nt x))).flatMap (nP s)).reverse := e4
    obtain ⟨d1, d2, d3⟩ := drop_cons_get e4'
    rw [List.length_reverse, len0] at d1
    have dl : (S'.flatMap (nP s) ++ (nks s x (tLen (nt x))).flatMap (nP s)).length + (o + 1) = tSz (nt r) := by
      have := congrArg List.length d3
      rw [List.length_drop, List.length_reverse, len0, List.length_reverse] at this
      omega
    have ls := nP_lenS st hN hL S' hS'
    have kmem : ∀ m, m ≤ tLen (nt x) → ∀ y, y ∈ nks s x m → y < N ∧ V y := fun m hm y hy => by
      obtain ⟨j, h3, rfl⟩ := nks_mem _ hy
      obtain ⟨k1, k2, k3, -⟩ := kid j (by omega)
      exact ⟨k3, k2⟩
    have lk := nP_lenS st hN hL (nks s x (tLen (nt x))) (kmem _ (Nat.le_refl _))
    have lk2 : (nks s x (tLen (nt x))).length = tLen (nt x) := sg_len _ _ _ _
    rw [List.length_append] at dl
    refine Or.inl ?_
    show ∃ s'' m, (if nI (S' ++ [x]).length ≤ 0 then _ else _) = _ ∧ _
    have hdec : nI (S' ++ [x]).length + (-1 : Int32) = nI S'.length := by
      rw [List.length_append]
      exact nI_dec S'.length
    have hpos : ¬ nI (S' ++ [x]).length ≤ 0 := by
      rw [List.length_append]
      exact nI_nle (Nat.succ_pos _) (by show S'.length + 1 < _; omega)
    rw [if_neg hpos, hdec, rd19 (by omega), Option.bind_some]
    dsimp only
    rw [p2, e5, wr23 (by omega), Option.bind_some, Option.bind_some, u2_a (by decide), e5, nI_1]
    generalize es2 : u2 (u2 s' 23 o (nI x)) 0 28 (nI (o + 1)) = s2
    have o2 : rOnly sRw s s2 := by rw [← es2]; exact (e8.tr (rOnly.u (by omega))).tr (rOnly.u (by omega))
    have st2 : stk1 s2 S' := fun i hi => by rw [← es2, u2_a (by decide), u2_a (by decide)]; exact p1 i hi
    have f28 : s2 0 28 = nI (o + 1) := by rw [← es2, u2_s]
    have f23 : ∀ i, i < o + 1 → s2 23 i = nI ((nP s r).reverse.getD i 0) := fun i hi => by
      rw [← es2, u2_a (by decide)]
      by_cases q : i = o
      · subst q; rw [u2_s, d2]
      · rw [u2_n (by omega)]; exact e7 i (by omega)
    have lp := zloop_inv (f := fun ((v11, v12, s13) : Int32 × Int32 × Zr) =>
        ((rdI s13 16 (nI x)).bind fun x18 =>
        if x18 ≤ v12 then
          some (.inr (v11, s13))
        else
          (rdI s13 15 (nI x)).bind fun x19 =>
          (rdI s13 17 (x19 + v12)).bind fun x20 =>
          (wrI s13 19 v11 x20).bind fun s21 =>
          some (.inl (v11 + (1 : Int32), v12 + (1 : Int32), s21)) : Option ((Int32 × Int32 × Zr) ⊕ (Int32 × Zr))))
      (fun (m : Nat) (q : Int32 × Int32 × Zr) => ∃ j, m = tLen (nt x) - j ∧ j ≤ tLen (nt x) ∧ q.2.1 = nI j ∧ q.1 = nI (S' ++ nks s x j).length ∧ stk1 q.2.2 (S' ++ nks s x j) ∧ rOnly (oA 19) s2 q.2.2)
      (fun q => q.1 = nI (S' ++ nks s x (tLen (nt x))).length ∧ stk1 q.2 (S' ++ nks s x (tLen (nt x))) ∧ rOnly (oA 19) s2 q.2) (by
      rintro m ⟨v11, v12, s13⟩ ⟨j, hm, hj, q1, q2, q3, q4⟩
      dsimp only at q1 q2 q3 q4
      subst q1 q2
      have o13 : rOnly sRw s s13 := o2.tr (q4.mono (fun a k z => by omega))
      show (∃ s' m', ((rdI s13 16 (nI x)).bind _) = _ ∧ _) ∨ ∃ r, ((rdI s13 16 (nI x)).bind _) = _ ∧ _
      rw [rd16 (by omega), Option.bind_some, o13 16 _ (by omega), c3]
      by_cases y : j = tLen (nt x)
      · subst y
        rw [if_pos (nI_le (Nat.le_refl _) (by omega))]
        exact Or.inr ⟨_, rfl, rfl, q3, q4⟩
      · obtain ⟨y', ⟨y1, y2⟩, y3, y4, y5⟩ := c6 j (by omega)
        have ey : nk s x j = y' := nk_at c4 y4 (by omega) (by omega)
        have en1 : nks s x (j + 1) = nks s x j ++ [y'] := by
          show nks s x j ++ [nk s x (0 + j)] = _
          rw [Nat.zero_add, ey]
        have ll : (S' ++ nks s x j).length = S'.length + j := by rw [List.length_append]; congr 1; exact sg_len _ _ _ _
        rw [if_neg (nI_nle' (by omega) (by omega)), rd15 (by omega), Option.bind_some, o13 15 _ (by omega), c4, nI_add, rd17 (by omega), Option.bind_some, o13 17 _ (by omega), y4, wr19 (by omega), Option.bind_some, nI_1, nI_1]
        refine Or.inl ⟨_, tLen (nt x) - (j + 1), rfl, by omega, j + 1, rfl, by omega, rfl, ?_, ?_, q4.tr (rOnly.u rfl)⟩
        · have el2 : (S' ++ nks s x (j + 1)).length = (S' ++ nks s x j).length + 1 := by rw [en1, ← List.append_assoc, List.length_append (bs := [y'])]; rfl
          exact congrArg nI el2.symm
        · rw [en1, ← List.append_assoc]
          exact stk1_push q3 y') (tLen (nt x)) (nI S'.length, nI 0, s2) zFU ⟨0, rfl, Nat.zero_le _, rfl, by show _ = nI (S' ++ []).length; rw [List.append_nil], by show stk1 s2 (S' ++ []); rw [List.append_nil]; exact st2, rOnly.rf⟩ (by rw [zFU_v]; omega)
    obtain ⟨⟨w2, s3⟩, g1, g2, g3, g4⟩ := lp
    dsimp only at g2 g3 g4
    have g1' : zloop (fun ((v11, v12, s13) : Int32 × Int32 × Zr) =>
        ((rdI s13 16 (nI x)).bind fun x18 =>
        if x18 ≤ v12 then
          some (.inr (v11, s13))
        else
          (rdI s13 15 (nI x)).bind fun x19 =>
          (rdI s13 17 (x19 + v12)).bind fun x20 =>
          (wrI s13 19 v11 x20).bind fun s21 =>
          some (.inl (v11 + (1 : Int32), v12 + (1 : Int32), s21)) : Option ((Int32 × Int32 × Zr) ⊕ (Int32 × Zr)))) zFU (nI S'.length, (0 : Int32), s2) = some (w2, s3) := g1
    refine ⟨(w2, s3), tSz (nt r) - (o + 1), ?_, by omega, o + 1, S' ++ nks s x (tLen (nt x)), rfl, g2, g3, fun y hy => ?_, ?_, ?_, by omega, fun i hi => ?_, o2.tr (g4.mono (fun a k z => by omega))⟩
    · refine (congrArg (fun o : Option (Int32 × Zr) => o.bind fun ((w14, s15) : Int32 × Zr) => (some (.inl (w14, s15)) : Option ((Int32 × Zr) ⊕ Zr))) g1').trans ?_
      rfl
    · rcases List.mem_append.mp hy with hy | hy
      · exact hS' y hy
      · exact kmem _ (Nat.le_refl _) y hy
    · rw [d3, List.flatMap_append]
    · exact (g4 0 28 (by omega)).trans f28
    · exact (g4 23 i (by omega)).trans (f23 i hi)
theorem mkR_drop {l : List Nat} {i : Nat} (h : i < l.length) : l.drop i = l.getD i 0 :: l.drop (i + 1) := by
  rw [List.drop_eq_getElem_cons h, List.getD_eq_getElem?_getD, List.getElem?_eq_getElem h]
  rfl
theorem getD_rev {l : List Nat} {k : Nat} (h : k < l.length) : l.reverse.getD k 0 = l.getD (l.length - 1 - k) 0 := by
  rw [List.getD_eq_getElem?_getD, List.getD_eq_getElem?_getD, List.getElem?_reverse h]
theorem mkB_k {β : Type} (s3 : Zr) (x7 : Int32) (g : Zr → Option β) : (mkB s3 x7).bind g = (rdI s3 13 x7).bind fun x8 =>
          (rdI s3 13 x7).bind fun x9 =>
          (if x9 = 0 then
            (rdI s3 14 x7).bind fun x12 =>
            some x12
          else
            some (-3 : Int32)).bind fun (v10 : Int32) =>
          (fX6_newPiece s3 x8 v10).bind fun ((x13, s14) : Int32 × Zr) =>
          (zloop (fun ((v15, s16) : Int32 × Zr) =>
            ((rdI s16 16 x7).bind fun x20 =>
            if x20 ≤ v15 then
              some (.inr s16)
            else
              (rdI s16 15 x7).bind fun x21 =>
              (rdI s16 17 (x21 + v15)).bind fun x22 =>
              (rdI s16 24 x22).bind fun x23 =>
              (fX6_addPart s16 x13 x23).bind fun s24 =>
              some (.inl (v15 + (1 : Int32), s24)) : Option ((Int32 × Zr) ⊕ Zr))) zFU ((0 : Int32), s14)).bind fun (s17 : Zr) =>
          (wrI s17 24 x7 x13).bind g := by
  unfold mkB
  rw [Option.bind_assoc]
  refine congrArg (Option.bind _) (funext fun x8 => ?_)
  rw [Option.bind_assoc]
  refine congrArg (Option.bind _) (funext fun x9 => ?_)
  rw [Option.bind_assoc]
  refine congrArg (Option.bind _) (funext fun v10 => ?_)
  rw [Option.bind_assoc]
  refine congrArg (Option.bind _) (funext fun ⟨x13, s14⟩ => ?_)
  exact Option.bind_assoc _ _ _
abbrev sMake (a k : Nat) : Prop := sRw a k ∨ sMk a k
theorem rmake_eq {V : Nat → Prop} {s : Zr} {N L : Nat} {nt : Nat → Tr} {p : Mp} (h : rPc s p) (ok : pOK p) (st : nSq V s N L nt) (hN : N ≤ 200) (hL : L ≤ 20000) (hO : ∀ x, x < N → V x → tOK (nt x)) {r : Nat} (hr : r < N) (vr : V r) (hz : tSz (nt r) ≤ 199) (nd : (nP s r).Nodup) :
    zS (fX6_make s (nI r)) (fun q => q.1 = (if tSz (nt r) ≤ 60 ∧ pn p + tSz (nt r) ≤ 200 then nI (pn p + tSz (nt r) - 1) else -2) ∧ rPc q.2 (if tSz (nt r) ≤ 60 ∧ pn p + tSz (nt r) ≤ 200 then pEnt p (nt r) else p) ∧ rOnly sMake s q.2) := by
  have h200 := ok.1
  have sz1 := tSz_1 (nt r)
  have len0 := nP_len st hN hL _ _ rfl hr vr
  unfold fX6_make
  refine zS.b (rrow_eq st hN hL hr vr hz) (fun s1 ⟨a1, a2, a3⟩ => ?_)
  have h1 : rPc s1 p := h.only a3 (by omega) (by omega) (fun a k _ _ => by omega)
  have ob : rOnly sMake s s1 := a3.mono (fun a k z => Or.inl z)
  have e7 : s1 0 7 = nI (pn p) := h1.1
  by_cases c1 : tSz (nt r) ≤ 60
  · rw [if_neg (show ¬ (60 : Int32) < s1 0 28 by rw [a1]; exact nI_nlt (a := 60) c1 (by omega))]
    by_cases c2 : pn p + tSz (nt r) ≤ 200
    · have hyes : tSz (nt r) ≤ 60 ∧ pn p + tSz (nt r) ≤ 200 := ⟨c1, c2⟩
      rw [if_pos (show s1 0 7 + s1 0 28 ≤ (200 : Int32) by rw [a1, e7, nI_add]; exact nI_le (b := 200) c2 (by omega)), if_pos hyes, if_pos hyes, a1]
      obtain ⟨sf, m1', m2, m3, m4, m5⟩ := mkT st hN hL hO _ r s1 p rfl hr vr nd h1 ok (fun a k q1 q2 => a3 a k (by omega)) c1 c2
      have en := pEn_ok (nt r) p ok (hO r hr vr).1 c1 (by omega)
      obtain ⟨g1, g2, g3, g4⟩ := pEnt_ok ok (hO r hr vr) c1 c2 en
      refine zS.b (R1 := fun s' => s' = sf) (zS.dn (fun k s' => mkR ((nP s r).drop (tSz (nt r) - k)) s' sf ∧ rOnly sMk s1 s') (tSz (nt r)) (fun k s' hk hJ => ?_) (fun s' hJ => ?_) (by omega) ⟨by rw [Nat.sub_self]; exact m1', rOnly.rf⟩) (fun q hq => ?_)
      · obtain ⟨j1, j2⟩ := hJ
        show zS (if nI k < 0 then _ else _) _
        have ei : tSz (nt r) - k = tSz (nt r) - (k + 1) + 1 := by omega
        rw [mkR_drop (by rw [len0]; omega)] at j1
        obtain ⟨s2, b1, b2, b3⟩ := j1
        have ex : (nP s r).reverse.getD k 0 = (nP s r).getD (tSz (nt r) - (k + 1)) 0 := by
          rw [getD_rev (by rw [len0]; exact hk), len0, show tSz (nt r) - 1 - k = tSz (nt r) - (k + 1) by omega]
        rw [if_neg (nI_pos (by omega)), rd23 (by omega), Option.bind_some, j2 23 k (by omega), a2 k hk, ex]
        refine ⟨.inl (nI k + (-1 : Int32), s2), ?_, s2, rfl, by rw [ei]; exact b3, j2.tr b2⟩
        have key := mkB_k s' (nI ((nP s r).getD (tSz (nt r) - (k + 1)) 0)) (fun s25 => (some (.inl (nI k + (-1 : Int32), s25)) : Option ((Int32 × Zr) ⊕ Zr)))
        rw [b1, Option.bind_some] at key
        exact key.symm
      · show zS (if (-1 : Int32) < 0 then _ else _) _
        rw [if_pos (by decide)]
        have j1 := hJ.1
        rw [Nat.sub_zero, ← len0, List.drop_length] at j1
        exact zS.s ⟨s', rfl, j1.symm⟩
      · subst hq
        refine zS.s ⟨?_, m2, ob.tr (m5.mono (fun a k z => Or.inr z))⟩
        show q 0 7 - (1 : Int32) = _
        rw [m2.1, g2, show (1 : Int32) = nI 1 from rfl, pk_sub (by omega)]
    · rw [if_neg (show ¬ s1 0 7 + s1 0 28 ≤ (200 : Int32) by rw [a1, e7, nI_add]; exact nI_nle' (a := 200) (by omega) (by omega)), if_neg (fun z => c2 z.2), if_neg (fun z => c2 z.2)]
      exact zS.s ⟨rfl, h1, ob⟩
  · rw [if_pos (show (60 : Int32) < s1 0 28 by rw [a1]; exact nI_lt (a := 60) (by omega) (by omega)), if_neg (fun z => c1 z.1), if_neg (fun z => c1 z.1)]
    exact zS.s ⟨rfl, h1, ob⟩
/-! plain on the reference's side -/
def pPlain (p : Mp) (a : Int32) : Int32 × Mp := if mnm a (pn p) then (if tSz (tPl (pT p a.toNatClampNeg)) ≤ 60 ∧ pn p + tSz (tPl (pT p a.toNatClampNeg)) ≤ 200 then (nI (pn p + tSz (tPl (pT p a.toNatClampNeg)) - 1), pEnt p (tPl (pT p a.toNatClampNeg))) else (-2, p)) else (-1, p)
abbrev sPn (a k : Nat) : Prop := sTr a k ∨ sPl a k ∨ sMake a k
theorem rplainT {s : Zr} {p : Mp} (h : rPc s p) (ok : pOK p) (a : Int32) : zS (fX6_plain s a) (fun r => r.1 = (pPlain p a).1 ∧ rPc r.2 (pPlain p a).2 ∧ rOnly sPn s r.2) := by
  have h200 := ok.1
  unfold fX6_plain pPlain
  rw [rpiece_at h ok, Option.bind_some]
  by_cases c2 : mnm a (pn p)
  · rw [if_neg (fun z => b2_z.mp z c2), if_pos c2]
    obtain ⟨ea, la⟩ := mnm_nI c2
    generalize a.toNatClampNeg = q at ea la
    subst ea
    have x60 := (ok.2 q la).2.2.2.1
    have x1 := psz_1 ok la
    rw [rclr_eq]
    refine zS.e rfl ?_
    have o0 : rOnly sTr s (u2 (u2 s 0 15 (nI 0)) 0 20 (nI 0)) := (rOnly.u (by omega)).tr (rOnly.u (by omega))
    obtain ⟨s1, nt, r1, r2, r3, r4, r5, r6, ⟨yo, par, hp, r9⟩, r7, r8⟩ := rexpK_eq (h.tr o0) ok la (N0 := 0) (L0 := 0) (nt := fun _ => .var 0) (by rw [u2_n (by omega), u2_s]) (by rw [u2_s]) (by omega) (by omega) (fun x hx => absurd hx (Nat.not_lt_zero _))
    rw [Nat.zero_add] at r2 r4
    simp only [Nat.zero_add] at r3 r4 r7 r9
    refine zS.e r1 ?_
    dsimp only
    rw [r2]
    have e0 : tSz (nt 0) = psz p q := by rw [r6, pT_sz ok q la]
    have J0 : pJ par (psz p q) s1 (psz p q) (psz p q - 1) (psz p q - 1) nt (fun _ => .var 0) (fun _ => False) (fun _ => 0) := by
      refine ⟨⟨r3, Nat.le_refl _, by omega⟩, fun x hx => ?_, fun y _ v => v.elim, fun y _ v => v.elim, fun x h1 h2 => by omega⟩
      obtain ⟨b1, b2, b3, -⟩ := r4 x hx
      obtain ⟨f, f1, f2, f3, f4⟩ := r9 x (Nat.zero_le _) hx
      exact ⟨b1, b2, b3, f, yo x, f1, ⟨f2, f3.1, f3.2⟩, f4⟩
    refine zS.b (R1 := fun s' => ∃ L pt V po, pJ par 0 s' (psz p q) (psz p q - 1) L nt pt V po ∧ rOnly sPl s1 s') (zS.dn (fun k s' => ∃ L pt V po, pJ par k s' (psz p q) (psz p q - 1) L nt pt V po ∧ rOnly sPl s1 s') (psz p q) (fun k s' hk hJ => ?_) (fun s' hJ => ?_) (by omega) ⟨_, _, _, _, J0, rOnly.rf⟩) (fun s2 ⟨L, pt, V, po, J, o⟩ => ?_)
    · obtain ⟨L, pt, V, po, J, o⟩ := hJ
      show zS (if nI k < 0 then _ else _) _
      rw [if_neg (nI_pos (by omega))]
      refine zS.b (rplainn_eq hp J (by omega) hk (r7 k (Nat.zero_le _) hk).1 (r7 k (Nat.zero_le _) hk).2) (fun s3 ⟨L', pt', V', po', J', o'⟩ => zS.s ⟨_, rfl, L', pt', V', po', J', o.tr o'⟩)
    · show zS (if (-1 : Int32) < 0 then _ else _) _
      rw [if_pos (by decide)]
      exact zS.s ⟨_, rfl, hJ⟩
    · obtain ⟨⟨a1, a2, a3⟩, -, sq, vo, pl⟩ := J
      obtain ⟨⟨b1, b2, b3, b4⟩, b5, -⟩ := pl 0 (Nat.zero_le _) (by omega)
      have oo : rOnly (fun a k => sTr a k ∨ sPl a k) s s2 := ((o0.tr r8).mono (fun a k z => Or.inl z)).tr (o.mono (fun a k z => Or.inr z))
      have h2 : rPc s2 p := h.only oo (by omega) (by omega) (fun a k _ _ => by omega)
      refine zS.e (show rdI s2 22 (nI 0) = _ from rd22 (by omega)) ?_
      rw [b1]
      have ez : tSz (pt (po 0)) ≤ 60 := by
        rw [b4]
        have := (tPl_sz (nt 0)).2
        omega
      refine zS.b (rmake_eq h2 ok sq (by omega) (by omega) (fun x hx vx => (vo x hx vx).2) b3 b2 (by omega) b5) (fun r hr => ?_)
      rw [b4, r6] at hr
      refine zS.s ⟨?_, ?_, (oo.mono (fun a k z => z.elim Or.inl (fun y => Or.inr (Or.inl y)))).tr (hr.2.2.mono (fun a k z => Or.inr (Or.inr z)))⟩
      · rw [hr.1]
        by_cases c : tSz (tPl (pT p q)) ≤ 60 ∧ pn p + tSz (tPl (pT p q)) ≤ 200
        · rw [if_pos c, if_pos c]
        · rw [if_neg c, if_neg c]
      · have := hr.2.1
        by_cases c : tSz (tPl (pT p q)) ≤ 60 ∧ pn p + tSz (tPl (pT p q)) ≤ 200
        · rw [if_pos c] at this ⊢; exact this
        · rw [if_neg c] at this ⊢; exact this
  · rw [if_pos (b2_z.mpr c2), if_neg c2]
    exact zS.s ⟨rfl, h, rOnly.rf⟩
