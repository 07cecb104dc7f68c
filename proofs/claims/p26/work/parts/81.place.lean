/-! a part is placed, on the class's side -/
abbrev En : Type := Nat × Tr × List Nat
def gE (X : Nat) (h : Zh) (x : En) : Prop := ∃ w, zNd (aB X) h x.1 w x.2.1 ∧ zFo (aB X) h x.2.1 w x.2.2
def eN (x : En) : List Nat := x.2.2 ++ [x.1]
abbrev eP (L : List En) : List Nat := L.map (fun x => x.1)
abbrev eT (L : List En) : List Tr := L.map (fun x => x.2.1)
theorem gE.on {X : Nat} {h h' : Zh} {x : En} (s : zSm (aB X) h h') (g : gE X h x) : gE X h' x := by
  obtain ⟨w, n, f⟩ := g
  exact ⟨w, n.on s, f.on s _ _ _ (n.arr s)⟩
theorem eP_get {L : List En} {i : Nat} (hi : i < L.length) : (eP L).getD i 0 = (L.getD i (0, .var 0, [])).1 := by
  rw [List.getD_eq_getElem?_getD, List.getD_eq_getElem?_getD, List.getElem?_map, List.getElem?_eq_getElem hi]
  rfl
theorem eT_get {L : List En} {i : Nat} (hi : i < L.length) : (eT L).getD i (.var 0) = (L.getD i (0, .var 0, [])).2.1 := by
  rw [List.getD_eq_getElem?_getD, List.getD_eq_getElem?_getD, List.getElem?_map, List.getElem?_eq_getElem hi]
  rfl
theorem eL_mem {L : List En} {i : Nat} (hi : i < L.length) : L.getD i (0, .var 0, []) ∈ L := by
  rw [List.getD_eq_getElem?_getD, List.getElem?_eq_getElem hi]
  exact List.getElem_mem hi
/-- where a tree is put: the first place that is not less -/
theorem tIns_first {one : Bool} {u : Tr} : ∀ (l : List Tr) (k : Nat), k ≤ l.length → (∀ i, i < k → tCmp (l.getD i (.var 0)) u < 0) → (k = l.length ∨ ¬ tCmp (l.getD k (.var 0)) u < 0) →
    tIns one u l = if k < l.length ∧ one = true ∧ tCmp (l.getD k (.var 0)) u = 0 then l else l.take k ++ u :: l.drop k
  | [], k, hk, _, _ => by
    have : k = 0 := by simpa using hk
    subst this
    rfl
  | a :: r, 0, _, _, h2 => by
    have h2' : ¬ tCmp a u < 0 := h2.resolve_left (by simp)
    show (if tCmp a u < 0 then a :: tIns one u r else if one = true ∧ tCmp a u = 0 then a :: r else u :: a :: r) = if 0 < r.length + 1 ∧ one = true ∧ tCmp a u = 0 then a :: r else u :: a :: r
    rw [if_neg h2']
    by_cases c : one = true ∧ tCmp a u = 0
    · rw [if_pos c, if_pos ⟨by omega, c⟩]
    · rw [if_neg c, if_neg (fun z => c z.2)]
  | a :: r, k + 1, hk, h1, h2 => by
    have hk' : k ≤ r.length := Nat.le_of_succ_le_succ hk
    have a0 : tCmp a u < 0 := h1 0 (Nat.succ_pos _)
    have ih := tIns_first (one := one) (u := u) r k hk' (fun i hi => h1 (i + 1) (by omega)) (h2.elim (fun z => Or.inl (Nat.succ.inj z)) Or.inr)
    show (if tCmp a u < 0 then a :: tIns one u r else _) = if k + 1 < r.length + 1 ∧ one = true ∧ tCmp (r.getD k (.var 0)) u = 0 then a :: r else a :: (r.take k ++ u :: r.drop k)
    rw [if_pos a0, ih]
    by_cases c : k < r.length ∧ one = true ∧ tCmp (r.getD k (.var 0)) u = 0
    · rw [if_pos c, if_pos ⟨by omega, c.2⟩]
    · rw [if_neg c, if_neg (fun z => c ⟨by omega, z.2⟩)]
/-- of how many cells and slots a list's growing takes -/
abbrev aC (h h' : Zh) (cap cap' : Nat) : Prop := (zn h' + cap ≤ zn h + cap' ∧ 5 * zn h' + cap ≤ 5 * zn h + cap') ∧ zs h' + 4 * cap ≤ zs h + 4 * cap'
theorem cplace_eq {c1 c2 n0 X : Nat} {h : Zh} {v cap lab : Nat} {L : List En} {x0 : En} (A : al c1 n0 h v (eP L) cap) (hn : n0 ≤ zn h) (h59 : L.length ≤ 59) (h13 : 13 ≤ lab) (h16 : lab ≤ 16) (gL : ∀ x, x ∈ L → gE X h x ∧ tOK x.2.1 ∧ tSz x.2.1 ≤ 60) (g0 : gE X h x0) (o0 : tOK x0.2.1) (z0 : tSz x0.2.1 ≤ 60) :
    zS (fX5_place (c1, c2) h (some v) (nI (tKd lab)) (some x0.1)) (fun h' => ∃ cap' L', al c1 n0 h' v (eP L') cap' ∧ eT L' = tPlc lab (eT L) x0.2.1 ∧ (L' = L ∨ ∃ k, k ≤ L.length ∧ L' = L.take k ++ x0 :: L.drop k) ∧ (zExt (fun u => n0 ≤ u) h h' ∧ kF h h') ∧ aC h h' cap cap') := by
  have lp : (eP L).length = L.length := List.length_map _
  have lt : (eT L).length = L.length := List.length_map _
  obtain ⟨w0, nd0, fo0⟩ := g0
  unfold fX5_place
  -- where it begins to look
  refine zS.b (R1 := fun r => r = nI (if lab = 13 then L.length else if lab = 16 then min 1 L.length else 0)) ?_ (fun r hr => ?_)
  · by_cases k2 : lab = 13
    · rw [if_pos ((tKd_2 h16).mpr k2), if_pos k2, al_ob A, Option.bind_some, al_size A, lp]
      exact zS.s rfl
    · rw [if_neg (fun z => k2 ((tKd_2 h16).mp z)), if_neg k2]
      by_cases k5 : lab = 16
      · rw [if_pos ((tKd_5 h16).mpr k5), if_pos k5, al_ob A, Option.bind_some, al_size A, lp, Option.bind_some]
        refine zS.s ?_
        show (if nI L.length < nI 1 then nI L.length else nI 1) = _
        rw [nI_min (by omega) (by omega)]
      · rw [if_neg (fun z => k5 ((tKd_5 h16).mp z)), if_neg k5]
        exact zS.s rfl
  · subst hr
    generalize ek0 : (if lab = 13 then L.length else if lab = 16 then min 1 L.length else 0) = k0
    have hk0 : k0 ≤ L.length := by rw [← ek0]; split; omega; split <;> omega
    have ord : ∀ i, i < L.length → fX5_order 64 h (some (L.getD i (0, .var 0, [])).1) (some x0.1) (0 : Int32) = some (tI (tCmp ((eT L).getD i (.var 0)) x0.2.1)) := fun i hi => by
      obtain ⟨⟨wi, ndi, foi⟩, oi, zi'⟩ := gL _ (eL_mem hi)
      have hh := tOK_ht oi
      rw [eT_get hi]
      exact corder_eq 64 0 _ _ _ _ _ _ _ _ (by omega) (by omega) (by omega) (by omega) oi.1 o0.1 ndi foi nd0 fo0
    have ck : ∀ i, i < L.length → zck h (some (L.getD i (0, .var 0, [])).1) = some (some (L.getD i (0, .var 0, [])).1) := fun i hi => by
      obtain ⟨⟨wi, ndi, foi⟩, -⟩ := gL _ (eL_mem hi)
      exact zck_v ndi.1.2.1 ndi.1.2.2.1
    have gt : ∀ i, i < L.length → fJx4a65c_get_915e3 h (some v) (nI i) = some (some (L.getD i (0, .var 0, [])).1) := fun i hi => by
      rw [al_get A (by rw [lp]; exact hi), eP_get hi]
    refine zS.b (R1 := fun r => ∃ k, r = nI k ∧ k0 ≤ k ∧ k ≤ L.length ∧ (∀ i, k0 ≤ i → i < k → tCmp ((eT L).getD i (.var 0)) x0.2.1 < 0) ∧ (k = L.length ∨ ¬ tCmp ((eT L).getD k (.var 0)) x0.2.1 < 0)) ?_ (fun r ⟨k, hr, q1, q2, q3, q4⟩ => ?_)
    · refine zloop_inv (fun (n : Nat) (r : Int32) => ∃ k, n = L.length - k ∧ r = nI k ∧ k0 ≤ k ∧ k ≤ L.length ∧ ∀ i, k0 ≤ i → i < k → tCmp ((eT L).getD i (.var 0)) x0.2.1 < 0) _ ?_ (L.length - k0) _ _ ⟨k0, rfl, rfl, Nat.le_refl _, hk0, fun i h1 h2 => by omega⟩ (by rw [zFU_v]; omega)
      rintro n r ⟨k, hn', rfl, q1, q2, q3⟩
      rw [al_ob A, Option.bind_some, al_size A, lp, Option.bind_some]
      by_cases z : k = L.length
      · rw [if_pos (nI_le (by omega) (by omega))]
        exact Or.inr ⟨_, rfl, k, rfl, q1, q2, q3, Or.inl z⟩
      · have hk : k < L.length := by omega
        rw [if_neg (nI_nle' (by omega) hk), Option.bind_some, gt k hk, Option.bind_some, ck k hk, Option.bind_some, ord k hk, Option.bind_some]
        by_cases c : tCmp ((eT L).getD k (.var 0)) x0.2.1 < 0
        · rw [if_neg (fun y => absurd (tI_n.mpr c) (Int32.not_lt.mpr y)), nI_1]
          refine Or.inl ⟨_, L.length - (k + 1), rfl, by omega, k + 1, rfl, rfl, by omega, by omega, fun i h1 h2 => ?_⟩
          by_cases y : i = k
          · subst y; exact c
          · exact q3 i h1 (by omega)
        · rw [if_pos (Int32.not_lt.mp (fun y => c (tI_n.mp y)))]
          exact Or.inr ⟨_, rfl, k, rfl, q1, q2, q3, Or.inr c⟩
    · subst hr
      -- stands it there already?
      refine zS.b (R1 := fun r => r = if lab = 14 ∧ k < L.length ∧ tCmp ((eT L).getD k (.var 0)) x0.2.1 = 0 then 1 else 0) ?_ (fun r hr => ?_)
      · by_cases k3 : lab = 14
        · rw [if_pos ((tKd_3 h16).mpr k3), al_ob A, Option.bind_some, al_size A, lp, Option.bind_some]
          by_cases z : k = L.length
          · rw [if_pos (nI_le (by omega) (by omega)), if_neg (by omega)]
            exact zS.s rfl
          · have hk : k < L.length := by omega
            rw [if_neg (nI_nle' (by omega) hk), Option.bind_some, gt k hk, Option.bind_some, ck k hk, Option.bind_some, ord k hk, Option.bind_some]
            by_cases c : tCmp ((eT L).getD k (.var 0)) x0.2.1 = 0
            · rw [if_pos (tI_0.mpr c), if_pos ⟨k3, hk, c⟩]; exact zS.s rfl
            · rw [if_neg (fun y => c (tI_0.mp y)), if_neg (fun y => c y.2.2)]; exact zS.s rfl
        · rw [if_neg (fun z => k3 ((tKd_3 h16).mp z)), if_neg (fun z => k3 z.1)]
          exact zS.s rfl
      · subst hr
        -- the trees
        have key : tPlc lab (eT L) x0.2.1 = if lab = 14 ∧ k < L.length ∧ tCmp ((eT L).getD k (.var 0)) x0.2.1 = 0 then eT L else (eT L).take k ++ x0.2.1 :: (eT L).drop k := by
          unfold tPlc
          by_cases k2 : lab = 13
          · rw [if_pos k2] at ek0
            have : k = L.length := by omega
            rw [if_pos k2, if_neg (by omega), this, ← lt, List.take_length, List.drop_length]
          · rw [if_neg k2] at ek0
            rw [if_neg k2]
            by_cases k5 : lab = 16
            · rw [if_pos k5] at ek0
              rw [if_pos k5, if_neg (by omega)]
              cases L with
              | nil =>
                have : k = 0 := by simpa using q2
                subst this
                rfl
              | cons a r =>
                have k01 : k0 = 1 := by rw [← ek0]; show min 1 (r.length + 1) = 1; omega
                obtain ⟨k', rfl⟩ : ∃ k', k = k' + 1 := ⟨k - 1, by omega⟩
                have lr : (eT r).length = r.length := List.length_map _
                have q2' : k' ≤ r.length := Nat.le_of_succ_le_succ q2
                have t1 := tIns_first (one := false) (u := x0.2.1) (eT r) k' (by omega) (fun i hi => q3 (i + 1) (by omega) (by omega)) (q4.elim (fun z => Or.inl (by rw [lr]; exact Nat.succ.inj z)) Or.inr)
                rw [if_neg (fun z => absurd z.2.1 (by decide))] at t1
                show a.2.1 :: tIns false x0.2.1 (eT r) = a.2.1 :: ((eT r).take k' ++ x0.2.1 :: (eT r).drop k')
                rw [t1]
            · rw [if_neg k5] at ek0
              rw [if_neg k5]
              have t1 := tIns_first (one := lab == 14) (u := x0.2.1) (eT L) k (by omega) (fun i hi => q3 i (by omega) hi) (q4.elim (fun z => Or.inl (by omega)) Or.inr)
              rw [t1, lt]
              by_cases k3 : lab = 14
              · have b1 : (lab == 14) = true := by simpa using k3
                by_cases y : k < L.length ∧ tCmp ((eT L).getD k (.var 0)) x0.2.1 = 0
                · rw [if_pos ⟨y.1, b1, y.2⟩, if_pos ⟨k3, y⟩]
                · rw [if_neg (fun z => y ⟨z.1, z.2.2⟩), if_neg (fun z => y z.2)]
              · have b1 : (lab == 14) = false := by simpa using k3
                rw [if_neg (fun z => by rw [b1] at z; exact absurd z.2.1 (by decide)), if_neg (fun z => k3 z.1)]
        rw [key]
        by_cases c : lab = 14 ∧ k < L.length ∧ tCmp ((eT L).getD k (.var 0)) x0.2.1 = 0
        · rw [if_pos c, if_pos c, if_neg (by decide)]
          exact zS.s ⟨cap, L, A, rfl, Or.inl rfl, ⟨zExt.rf, kF.rf⟩, ⟨by omega, by omega⟩, by omega⟩
        · rw [if_neg c, if_neg c, if_pos rfl, al_ob A, Option.bind_some]
          have e : eP (L.take k ++ x0 :: L.drop k) = (eP L).take k ++ x0.1 :: (eP L).drop k := by
            show (L.take k ++ x0 :: L.drop k).map _ = _
            rw [List.map_append, List.map_cons, List.map_take, List.map_drop]
          have e2 : eT (L.take k ++ x0 :: L.drop k) = (eT L).take k ++ x0.2.1 :: (eT L).drop k := by
            show (L.take k ++ x0 :: L.drop k).map _ = _
            rw [List.map_append, List.map_cons, List.map_take, List.map_drop]
          have ad := al_add (c2 := c2) (at' := k) A hn (by omega) (by omega) nd0.1.2.1 nd0.1.2.2.1
          rw [← e] at ad
          obtain ⟨h', e3, cap', r1, r2, r3, r4⟩ := ad
          refine ⟨h', ?_, cap', L.take k ++ x0 :: L.drop k, r1, e2, Or.inr ⟨k, q2, rfl⟩, r2, r3, r4⟩
          rw [e3]
          rfl
/-! the parts of a tree as entries -/
theorem gE_kids {X : Nat} {h : Zh} : ∀ (t : Tr) (w : Nat) (l : List Nat), zFo (aB X) h t w l → ∃ Lk : List En, eT Lk = tKids t ∧ Lk.flatMap eN = l ∧ Lk.length = tLen t ∧ (∀ i, i < tLen t → zp h w i = some (Lk.getD i (0, .var 0, [])).1) ∧ ∀ x, x ∈ Lk → gE X h x
  | .var _, _, l, f => by
    rw [show l = [] from f]
    exact ⟨[], rfl, rfl, rfl, fun i hi => absurd hi (Nat.not_lt_zero _), fun x hx => absurd hx List.not_mem_nil⟩
  | .op t k, w, l, f => by
    obtain ⟨l1, l2, u, x, f1, f2, f3, f4, f5⟩ := f
    obtain ⟨Lk, a1, a2, a3, a4, a5⟩ := gE_kids t w l1 f2
    have gx : (Lk ++ [((u, k, l2) : En)]).getD Lk.length (0, .var 0, []) = (u, k, l2) := by
      rw [List.getD_eq_getElem?_getD, List.getElem?_append_right (Nat.le_refl _), Nat.sub_self]
      rfl
    refine ⟨Lk ++ [(u, k, l2)], ?_, ?_, ?_, fun i hi => ?_, fun y hy => ?_⟩
    · show (Lk ++ [((u, k, l2) : En)]).map _ = tKids t ++ [k]
      rw [List.map_append, ← a1]
      rfl
    · rw [List.flatMap_append, a2, f1, List.flatMap_cons, List.flatMap_nil, List.append_nil]
      rfl
    · rw [List.length_append, a3]; rfl
    · have hi' : i < tLen t + 1 := hi
      by_cases e : i = tLen t
      · subst e
        rw [← a3, gx, a3]
        exact f3
      · rw [a4 i (by omega), List.getD_eq_getElem?_getD, List.getD_eq_getElem?_getD, List.getElem?_append_left (by omega)]
    · rcases List.mem_append.mp hy with hy | hy
      · exact a5 y hy
      · rw [List.mem_singleton.mp hy]
        exact ⟨x, f4, f5⟩
theorem tKids_OK : ∀ (t k : Tr), tG t → k ∈ tKids t → tOK k ∧ tSz k < tSz t
  | .var _, _, _, h => absurd h List.not_mem_nil
  | .op t k, k', g, h => by
    have s1 := tSz_1 t
    have s2 := tSz_1 k
    rcases List.mem_append.mp (show k' ∈ tKids t ++ [k] from h) with h | h
    · obtain ⟨a, b⟩ := tKids_OK t k' g.2.1 h
      exact ⟨a, by show _ < tSz t + tSz k; omega⟩
    · rw [List.mem_singleton.mp h]
      exact ⟨⟨g.2.2.1, g.2.2.2⟩, by show _ < tSz t + tSz k; omega⟩
/-- the state of a list of entries -/
def eL (c1 n0 X : Nat) (h : Zh) (v cap : Nat) (L : List En) : Prop := al c1 n0 h v (eP L) cap ∧ ∀ x, x ∈ L → gE X h x ∧ tOK x.2.1 ∧ tSz x.2.1 ≤ 60
theorem eT_sum_len (L : List En) : L.length ≤ tSum (eT L) := by
  have := tSum_len (eT L)
  rwa [List.length_map] at this
/-- what a step to a list leaves and takes -/
def eS (n0 : Nat) (h h' : Zh) (cap cap' : Nat) : Prop := (zExt (fun u => n0 ≤ u) h h' ∧ kF h h') ∧ aC h h' cap cap'
theorem eS.rf {n0 : Nat} {h : Zh} {cap : Nat} : eS n0 h h cap cap := ⟨⟨zExt.rf, kF.rf⟩, ⟨by omega, by omega⟩, by omega⟩
theorem eS.tr {n0 : Nat} {h h1 h2 : Zh} {a b c : Nat} (x : eS n0 h h1 a b) (y : eS n0 h1 h2 b c) : eS n0 h h2 a c := by
  obtain ⟨⟨x1, x2⟩, ⟨x3, x4⟩, x5⟩ := x
  obtain ⟨⟨y1, y2⟩, ⟨y3, y4⟩, y5⟩ := y
  exact ⟨⟨x1.tr y1, kF.tr x1 x2 y2⟩, ⟨by omega, by omega⟩, by omega⟩
theorem cplace2 {c1 c2 n0 X : Nat} {h : Zh} {v cap lab : Nat} {L : List En} {x0 : En} (A : eL c1 n0 X h v cap L) (hn : n0 ≤ zn h) (h59 : tSum (eT L) ≤ 59) (h13 : 13 ≤ lab) (h16 : lab ≤ 16) (g0 : gE X h x0) (o0 : tOK x0.2.1) (z0 : tSz x0.2.1 ≤ 60) :
    zS (fX5_place (c1, c2) h (some v) (nI (tKd lab)) (some x0.1)) (fun h' => ∃ cap' L', eL c1 n0 X h' v cap' L' ∧ eT L' = tPlc lab (eT L) x0.2.1 ∧ (L' = L ∨ (L'.flatMap eN).Perm (L.flatMap eN ++ eN x0)) ∧ eS n0 h h' cap cap') := by
  have ll := eT_sum_len L
  refine (cplace_eq A.1 hn (by omega) h13 h16 A.2 g0 o0 z0).m (fun h' ⟨cap', L', r1, r2, r3, ⟨r4, r4'⟩, r5⟩ => ?_)
  have sm : zSm (aB X) h h' := kF.sm r4 r4'
  refine ⟨cap', L', ⟨r1, fun x hx => ?_⟩, r2, ?_, ⟨r4, r4'⟩, r5⟩
  · have : x ∈ L ∨ x = x0 := by
      rcases r3 with rfl | ⟨k, hk, rfl⟩
      · exact Or.inl hx
      · rcases List.mem_append.mp hx with hx | hx
        · exact Or.inl (List.mem_of_mem_take hx)
        · rcases List.mem_cons.mp hx with hx | hx
          · exact Or.inr hx
          · exact Or.inl (List.mem_of_mem_drop hx)
    rcases this with hx | rfl
    · exact ⟨(A.2 x hx).1.on sm, (A.2 x hx).2⟩
    · exact ⟨g0.on sm, o0, z0⟩
  · rcases r3 with rfl | ⟨k, hk, rfl⟩
    · exact Or.inl rfl
    · refine Or.inr ?_
      have p1 : (L.take k ++ x0 :: L.drop k).Perm (L ++ [x0]) := by
        refine List.perm_middle.trans ?_
        rw [List.take_append_drop]
        exact (List.perm_append_singleton _ _).symm
      have p2 := List.Perm.flatMap_right eN p1
      have e : (L ++ [x0]).flatMap eN = L.flatMap eN ++ eN x0 := by rw [List.flatMap_append, List.flatMap_cons, List.flatMap_nil, List.append_nil]
      rw [e] at p2
      exact p2
theorem ctakein_eq {c1 c2 n0 X : Nat} {h : Zh} {v cap lab : Nat} {L : List En} {x0 : En} (A : eL c1 n0 X h v cap L) (hn : n0 ≤ zn h) (h59 : tSum (eT L) + tSz x0.2.1 ≤ 59) (h13 : 13 ≤ lab) (h16 : lab ≤ 16) (g0 : gE X h x0) (o0 : tOK x0.2.1) :
    zS (fX5_takeIn (c1, c2) h (some v) (nI (tKd lab)) (some x0.1)) (fun h' => ∃ cap' L' R, eL c1 n0 X h' v cap' L' ∧ eT L' = tTake lab (eT L) x0.2.1 ∧ (L'.flatMap eN).Perm (L.flatMap eN ++ R) ∧ R.Sublist (eN x0) ∧ eS n0 h h' cap cap') := by
  have g0' := g0
  obtain ⟨w0, nd0, fo0⟩ := g0'
  have nd1 := nd0
  obtain ⟨⟨a1, a2, a3, a4, a5, a6, a7, a8⟩, b1, b2, b3, b4⟩ := nd1
  have lab0 := tG_lab _ o0.1
  have one : zS (fX5_place (c1, c2) h (some v) (nI (tKd lab)) (some x0.1)) (fun h' => ∃ cap' L' R, eL c1 n0 X h' v cap' L' ∧ eT L' = tPlc lab (eT L) x0.2.1 ∧ (L'.flatMap eN).Perm (L.flatMap eN ++ R) ∧ R.Sublist (eN x0) ∧ eS n0 h h' cap cap') := by
    refine (cplace2 A hn (by omega) h13 h16 g0 o0 (by omega)).m (fun h' ⟨cap', L', r1, r2, r3, r4⟩ => ?_)
    rcases r3 with rfl | r3
    · exact ⟨cap', L', [], r1, r2, by rw [List.append_nil], List.nil_sublist _, r4⟩
    · exact ⟨cap', L', eN x0, r1, r2, r3, List.Sublist.refl _, r4⟩
  have one' : ∀ {β : Type} {G : Zh → Option β} {Q : β → Prop}, (∀ h', (∃ cap' L' R, eL c1 n0 X h' v cap' L' ∧ eT L' = tPlc lab (eT L) x0.2.1 ∧ (L'.flatMap eN).Perm (L.flatMap eN ++ R) ∧ R.Sublist (eN x0) ∧ eS n0 h h' cap cap') → zS (G h') Q) → zS ((fX5_place (c1, c2) h (some v) (nI (tKd lab)) (some x0.1)).bind G) Q := fun k => zS.b one k
  unfold fX5_takeIn tTake
  rw [zfI_v (ci := 3) a2 a3, a4, Option.bind_some]
  by_cases k1 : tLab x0.2.1 = 12
  · rw [if_pos ((tKd_1 lab0).mpr k1)]
    by_cases k2 : lab = 13
    · rw [if_pos ((tKd_2 h16).mpr k2), if_pos ⟨Or.inl k2, k1⟩]
      exact zS.s ⟨cap, L, [], A, rfl, by rw [List.append_nil], List.nil_sublist _, eS.rf⟩
    · rw [if_neg (fun z => k2 ((tKd_2 h16).mp z))]
      by_cases k4 : lab = 15
      · rw [if_pos ((tKd_4 h16).mpr k4), if_pos ⟨Or.inr k4, k1⟩]
        exact zS.s ⟨cap, L, [], A, rfl, by rw [List.append_nil], List.nil_sublist _, eS.rf⟩
      · have hC1 : ¬ ((lab = 13 ∨ lab = 15) ∧ tLab x0.2.1 = 12) := fun z => z.1.elim k2 k4
        have hC2 : ¬ (tLab x0.2.1 = lab ∧ lab ≠ 16) := fun z => by omega
        have hC3 : ¬ nI (tKd (tLab x0.2.1)) = nI (tKd lab) := fun z => by
          rcases (tKd_eq lab0 h16).mp z with y | y <;> omega
        rw [if_neg (fun z => k4 ((tKd_4 h16).mp z)), if_neg hC1, Option.bind_some, if_neg hC3, if_neg hC2]
        exact one' (fun h' hh => zS.s hh)
  · have hC1 : ¬ ((lab = 13 ∨ lab = 15) ∧ tLab x0.2.1 = 12) := fun z => k1 z.2
    rw [if_neg (fun z => k1 ((tKd_1 lab0).mp z)), if_neg hC1, Option.bind_some]
    by_cases ke : tLab x0.2.1 = lab
    · rw [if_pos (show nI (tKd (tLab x0.2.1)) = nI (tKd lab) by rw [ke])]
      by_cases k5 : lab = 16
      · have hC2 : ¬ (tLab x0.2.1 = lab ∧ lab ≠ 16) := fun z => z.2 k5
        rw [if_pos ((tKd_5 h16).mpr k5), if_neg hC2]
        exact one' (fun h' hh => zS.s hh)
      · have hC2 : tLab x0.2.1 = lab ∧ lab ≠ 16 := ⟨ke, k5⟩
        rw [if_neg (fun z => k5 ((tKd_5 h16).mp z)), if_pos hC2]
        obtain ⟨Lk, l1, l2, l3, l4, l5⟩ := gE_kids _ _ _ fo0
        have sl := tSz_1 x0.2.1
        have kz := tKids_sum x0.2.1
        refine zS.b (R1 := fun h' => ∃ cap' L' R, eL c1 n0 X h' v cap' L' ∧ eT L' = (tKids x0.2.1).foldl (tPlc lab) (eT L) ∧ (L'.flatMap eN).Perm (L.flatMap eN ++ R) ∧ R.Sublist (eN x0) ∧ eS n0 h h' cap cap') (zS.up (fun j h' => ∃ cap' L' R, eL c1 n0 X h' v cap' L' ∧ eT L' = (eT (Lk.take j)).foldl (tPlc lab) (eT L) ∧ (L'.flatMap eN).Perm (L.flatMap eN ++ R) ∧ R.Sublist ((Lk.take j).flatMap eN) ∧ eS n0 h h' cap cap') 0 (tLen x0.2.1) (fun j h' _ hj hJ => ?_) (fun h' hJ => ?_) (Nat.zero_le _) (by omega) ⟨cap, L, [], A, rfl, by rw [List.append_nil], List.nil_sublist _, eS.rf⟩) (fun r hr => zS.s hr)
        · obtain ⟨cap', L', R, j1, j2, j3, j4, j5⟩ := hJ
          have sm : zSm (aB X) h h' := kF.sm j5.1.1 j5.1.2
          obtain ⟨⟨y1, y2, y3, y4, y5, y6, y7, y8⟩, z1, z2, z3, z4⟩ := nd0.on sm
          have eqa := nd0.arr sm
          dsimp only
          rw [zfP_v (ci := 3) y2 y3, y6, Option.bind_some, zaL_v (t := 3) z2 z3, z4, Option.bind_some, if_neg (nI_nle' (by omega) hj), Option.bind_some, zaP_v (t := 3) (n := tLen x0.2.1) z2 z3 z4 hj (by omega), Option.bind_some, eqa, l4 j hj]
          have hjk : j < Lk.length := by omega
          have mem := eL_mem hjk
          have tk : (Lk.getD j (0, .var 0, [])).2.1 ∈ tKids x0.2.1 := by
            rw [← l1]
            exact List.mem_map.mpr ⟨_, mem, rfl⟩
          obtain ⟨ok1, ok2⟩ := tKids_OK _ _ o0.1 tk
          have tt : Lk.take (j + 1) = Lk.take j ++ [Lk.getD j (0, .var 0, [])] := by
            rw [List.take_succ, List.getD_eq_getElem?_getD, List.getElem?_eq_getElem hjk]
            rfl
          have bs : tSum (eT L') ≤ tSum (eT L) + tSum (tKids x0.2.1) := by
            rw [j2]
            refine Nat.le_trans (foldPlc_sum lab _ _) (Nat.add_le_add_left ?_ _)
            rw [← l1]
            have e3 : eT Lk = eT (Lk.take j) ++ eT (Lk.drop j) := by
              show _ = (Lk.take j).map _ ++ (Lk.drop j).map _
              rw [← List.map_append, List.take_append_drop]
            rw [e3, tSum_app]
            omega
          refine zS.b (cplace2 (c2 := c2) j1 (Nat.le_trans hn j5.1.1.1.1) (by omega) h13 h16 ((l5 _ mem).on sm) ok1 (by omega)) (fun h2 ⟨cap2, L2, r1, r2, r3, r4⟩ => zS.s ⟨h2, by rw [nI_1], cap2, L2, ?_⟩)
          have e2 : eT L2 = (eT (Lk.take (j + 1))).foldl (tPlc lab) (eT L) := by
            rw [r2, j2, tt]
            show _ = ((Lk.take j ++ [_]).map _).foldl _ _
            rw [List.map_append, List.foldl_append]
            rfl
          have sub2 : ((Lk.take (j + 1)).flatMap eN) = (Lk.take j).flatMap eN ++ eN (Lk.getD j (0, .var 0, [])) := by
            rw [tt, List.flatMap_append, List.flatMap_cons, List.flatMap_nil, List.append_nil]
          rcases r3 with rfl | r3
          · exact ⟨R, r1, e2, j3, by rw [sub2]; exact j4.trans (List.sublist_append_left _ _), j5.tr r4⟩
          · refine ⟨R ++ eN (Lk.getD j (0, .var 0, [])), r1, e2, ?_, by rw [sub2]; exact j4.append (List.Sublist.refl _), j5.tr r4⟩
            rw [← List.append_assoc]
            exact r3.trans (j3.append_right _)
        · obtain ⟨cap', L', R, j1, j2, j3, j4, j5⟩ := hJ
          have sm : zSm (aB X) h h' := kF.sm j5.1.1 j5.1.2
          obtain ⟨⟨y1, y2, y3, y4, y5, y6, y7, y8⟩, z1, z2, z3, z4⟩ := nd0.on sm
          dsimp only
          rw [zfP_v (ci := 3) y2 y3, y6, Option.bind_some, zaL_v (t := 3) z2 z3, z4, Option.bind_some, if_pos (nI_le (Nat.le_refl _) (by omega))]
          rw [← l3, List.take_length] at j2 j4
          rw [l1] at j2
          rw [l2] at j4
          exact zS.s ⟨_, rfl, cap', L', R, j1, j2, j3, j4.trans (List.sublist_append_left _ _), j5⟩
    · have hC2 : ¬ (tLab x0.2.1 = lab ∧ lab ≠ 16) := fun z => ke z.1
      have hC3 : ¬ nI (tKd (tLab x0.2.1)) = nI (tKd lab) := fun z => by
        rcases (tKd_eq lab0 h16).mp z with y | y
        · omega
        · exact ke y
      rw [if_neg hC3, if_neg hC2]
      exact one' (fun h' hh => zS.s hh)
