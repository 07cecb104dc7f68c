/-! found on the reference's side: what settle sees -/
def emp (l : Rw) (i : Nat) : Nat := gS (fun r : List Nat => if r.length = 0 then 1 else 0) (l.take i)
theorem emp_le (l : Rw) : ∀ i, i ≤ l.length → emp l i ≤ i
  | 0, _ => Nat.le_refl _
  | i + 1, hi => by
    have := emp_le l i (by omega)
    unfold emp at this ⊢
    rw [take_row (by omega), gS_app]
    show _ + ((if (l.getD i []).length = 0 then 1 else 0) + 0) ≤ _
    by_cases c : (l.getD i []).length = 0
    · rw [if_pos c]; omega
    · rw [if_neg c]; omega
theorem gS_0 {α : Type} {f : α → Nat} : ∀ {l : List α}, gS f l = 0 → ∀ a, a ∈ l → f a = 0
  | [], _, _, h => absurd h List.not_mem_nil
  | b :: l, e, a, h => by
    have e : f b + gS f l = 0 := e
    rcases List.mem_cons.mp h with rfl | h
    · omega
    · exact gS_0 (by omega) a h
theorem emp_0 {l : Rw} : emp l l.length = 0 ↔ ∀ r, r ∈ l → 0 < r.length := by
  unfold emp
  rw [List.take_length]
  constructor
  · intro e r hr
    have := gS_0 e r hr
    by_cases c : r.length = 0
    · have c' : (if r.length = 0 then 1 else 0) = 0 := this
      rw [if_pos c] at c'; omega
    · omega
  · intro h
    have e : gS (fun r : List Nat => if r.length = 0 then 1 else 0) l ≤ gS (fun _ => 0) l := gS_le _ _ _ (fun r hr => by
      have := h r hr
      rw [if_neg (by omega)]
      exact Nat.le_refl _)
    have z : gS (fun _ : List Nat => 0) l = 0 := by
      clear e h
      induction l with
      | nil => rfl
      | cons a b ih => show 0 + gS _ b = 0; rw [ih]
    omega
theorem rsee1_eq {s : Zr} {l : Rw} {a f W : Nat} (ok : xOK l) (ha : a < 200) (h31 : s 31 a = nI f) (h32 : s 32 a = nI l.length) (hf : f + l.length ≤ 12000) (hr : rRb s f l W) :
    zS (zloop (fun ((v2, v3, v4) : Int32 × Int32 × Int32) =>
    ((rdI s 31 (nI a)).bind fun x9 =>
    (rdI s 32 (nI a)).bind fun x10 =>
    if (x9 + x10) ≤ v4 then
      some (.inr (v2, v3))
    else
      (rdI s 34 v4).bind fun x11 =>
      (if x11 = 0 then
        some (1 : Int32)
      else
        some (0 : Int32)).bind fun (v12 : Int32) =>
      (if v3 = 0 then
        some (0 : Int32)
      else
        (rdI s 34 v4).bind fun x16 =>
        if x16 = (1 : Int32) then
          some (1 : Int32)
        else
          some (0 : Int32)).bind fun (v14 : Int32) =>
      some (.inl (v2 + v12, v14, v4 + (1 : Int32))) : Option ((Int32 × Int32 × Int32) ⊕ (Int32 × Int32)))) zFU ((0 : Int32), (1 : Int32), nI f))
    (fun q => q.1 = nI (emp l l.length) ∧ isB q.2 (∀ i, i < l.length → (l.getD i []).length = 1)) := by
  have l144 := ok.2.1
  refine zS.m (R := fun q : Int32 × Int32 => q.1 = nI (emp l l.length) ∧ isB q.2 (∀ i, i < l.length → (l.getD i []).length = 1)) (zS.gen (fun k (q : Int32 × Int32) => (q.1, q.2, nI k)) (fun k q => ∃ i, k = f + i ∧ q.1 = nI (emp l i) ∧ isB q.2 (∀ j, j < i → (l.getD j []).length = 1)) f (f + l.length) (fun k q hk0 hk hJ => ?_) (fun q hJ => ?_) (by omega) (by omega) (x0 := ((0 : Int32), (1 : Int32))) ⟨0, rfl, nI_0.symm, isB.t (fun j z => absurd z (Nat.not_lt_zero _))⟩) (fun q hq => hq)
  · obtain ⟨i, rfl, j1, j2⟩ := hJ
    have il : i < l.length := by omega
    obtain ⟨g, g1, g2, g3, g4⟩ := hr i il
    have rm : l.getD i [] ∈ l := by
      rw [List.getD_eq_getElem?_getD, List.getElem?_eq_getElem il]
      exact List.getElem_mem il
    have r6 := (ok.1 _ rm).1
    have es : emp l (i + 1) = emp l i + if (l.getD i []).length = 0 then 1 else 0 := by
      unfold emp
      rw [take_row il, gS_app]; rfl
    dsimp only
    rw [rd31 ha, Option.bind_some, rd32 ha, Option.bind_some, h31, h32, nI_add, if_neg (nI_nle' (by omega) (by omega)), rd34 (by omega), Option.bind_some, g2]
    refine zS.b (R1 := fun y => y = nI (if (l.getD i []).length = 0 then 1 else 0)) ?_ (fun y hy => ?_)
    · by_cases c : (l.getD i []).length = 0
      · rw [if_pos (show nI (l.getD i []).length = 0 by rw [c]; exact nI_0), if_pos c]; exact zS.s rfl
      · rw [if_neg (nI_ne0 (by omega) (by omega)), if_neg c]; exact zS.s nI_0.symm
    · refine zS.b (R1 := fun y => isB y (∀ j, j < i + 1 → (l.getD j []).length = 1)) (all_up j2 ?_) (fun y' hy' => ?_)
      · rw [Option.bind_some]
        by_cases c : (l.getD i []).length = 1
        · rw [if_pos (show nI (l.getD i []).length = 1 by rw [c]; rfl)]; exact zS.s (isB.t c)
        · rw [if_neg (show ¬ nI (l.getD i []).length = (1 : Int32) from fun z => c ((nI_eq (b := 1) (by omega) (by omega)).mp z))]; exact zS.s (isB.f c)
      · refine zS.s (Or.inl ⟨(q.1 + y, y'), by rw [nI_1], i + 1, by omega, ?_, hy'⟩)
        dsimp only
        rw [hy, j1, nI_add, es]
  · obtain ⟨i, hi, j1, j2⟩ := hJ
    have : i = l.length := by omega
    subst this
    dsimp only
    rw [rd31 ha, Option.bind_some, rd32 ha, Option.bind_some, h31, h32, nI_add, if_pos (nI_le (Nat.le_refl _) (by omega))]
    exact zS.s ⟨_, rfl, j1, j2⟩
theorem rsee2_eq {s : Zr} {S : Nat → Prop} (h37 : ∀ v, v < 12 → isB (s 37 v) (S v)) : zS (zloop (fun ((v18, v19, v20) : Int32 × Int32 × Int32) =>
    (if (12 : Int32) ≤ v20 then
      some (.inr (v18, v19))
    else
      (rdZ s 37 v20).bind fun x25 =>
      (if x25 = 0 then
        some (0 : Int32)
      else
        some (1 : Int32)).bind fun (v26 : Int32) =>
      (rdZ s 37 v20).bind fun x28 =>
      (if x28 = 0 then
        some v19
      else
        some v20).bind fun (v29 : Int32) =>
      some (.inl (v18 + v26, v29, v20 + (1 : Int32))) : Option ((Int32 × Int32 × Int32) ⊕ (Int32 × Int32)))) zFU ((0 : Int32), (-3 : Int32), (0 : Int32)))
    (fun q => q.1 = nI (nmL S).length ∧ ((nmL S).length = 1 → q.2 = nI ((nmL S).getD 0 0))) := by
  let F : Nat → List Nat := fun k => (List.range k).filter (fun v => cB (S v))
  have Fl : ∀ k, (F k).length ≤ k := fun k => by
    have := List.length_filter_le (fun v => cB (S v)) (List.range k)
    rw [List.length_range] at this
    exact this
  refine zS.m (R := fun q : Int32 × Int32 => q.1 = nI (F 12).length ∧ ((F 12).length = 1 → q.2 = nI ((F 12).getD 0 0))) (zS.gen (fun k (q : Int32 × Int32) => (q.1, q.2, nI k)) (fun k q => q.1 = nI (F k).length ∧ ((F k).length = 1 → q.2 = nI ((F k).getD 0 0))) 0 12 (fun k q _ hk hJ => ?_) (fun q hJ => ?_) (Nat.zero_le _) (by omega) (x0 := ((0 : Int32), (-3 : Int32))) ⟨nI_0.symm, fun z => absurd (show (0 : Nat) = 1 from z) (by omega)⟩) (fun q hq => hq)
  · obtain ⟨j1, j2⟩ := hJ
    have eF : F (k + 1) = F k ++ (if cB (S k) = true then [k] else []) := by
      show (List.range (k + 1)).filter _ = _
      rw [List.range_succ, List.filter_append]
      congr 1
      by_cases c : cB (S k) = true
      · rw [if_pos c, List.filter_cons_of_pos (p := fun v => cB (S v)) c]; rfl
      · rw [if_neg c, List.filter_cons_of_neg (p := fun v => cB (S v)) c]; rfl
    have b := h37 k hk
    dsimp only
    rw [if_neg (k12 hk), rd37 hk, Option.bind_some]
    by_cases c : s 37 k = 0
    · rw [if_neg (fun z => b.n c (cB_t.mp z)), List.append_nil] at eF
      rw [if_pos c, Option.bind_some, Option.bind_some, if_pos c, Option.bind_some]
      refine zS.s (Or.inl ⟨(q.1 + 0, q.2), by rw [nI_1], ?_, by rw [eF]; exact j2⟩)
      dsimp only
      rw [eF, j1, ← nI_0, nI_add]; rfl
    · rw [if_pos (cB_t.mpr (b.p c))] at eF
      rw [if_neg c, Option.bind_some, Option.bind_some, if_neg c, Option.bind_some]
      have el : (F (k + 1)).length = (F k).length + 1 := by rw [eF, List.length_append]; rfl
      refine zS.s (Or.inl ⟨(q.1 + 1, nI k), by rw [nI_1], ?_, fun z => ?_⟩)
      · dsimp only
        rw [j1, nI_1, el]
      · have z0 : F k = [] := List.eq_nil_of_length_eq_zero (by omega)
        rw [eF, z0]; rfl
  · dsimp only
    rw [if_pos e12]
    exact zS.s ⟨_, rfl, hJ⟩
/-! found on the reference's side: a row as it is -/
theorem rcopy_eq {s s0 : Zr} {x f W0 W g u : Nat} {R : Rw} {r : List Nat} (hx : x < 200) (hu : u < f) (rok : rOK r) (e33 : s0 33 u = nI g) (e34 : s0 34 u = nI r.length) (gW : g + r.length ≤ W0) (e35 : ∀ j, j < r.length → s0 35 (g + j) = nI (r.getD j 0))
    (hW : W0 ≤ W) (hW2 : W + r.length < 12000) (hR : f + R.length + 20 < 12000) (h : BL s x f (R ++ [[]]) W) (o : rOnly (sBl x f W0) s0 s) :
    zS (zloop (fun ((v19, s20) : Int32 × Zr) =>
          ((rdI s20 34 (nI u)).bind fun x24 =>
          if x24 ≤ v19 then
            some (.inr s20)
          else
            (rdI s20 33 (nI u)).bind fun x25 =>
            (rdI s20 35 (x25 + v19)).bind fun x26 =>
            (fX6_addName s20 x26).bind fun s27 =>
            some (.inl (v19 + (1 : Int32), s27)) : Option ((Int32 × Zr) ⊕ Zr))) zFU ((0 : Int32), s))
      (fun s' => BL s' x f (R ++ [r]) (W + r.length) ∧ rOnly (sBl x f W0) s0 s') := by
  have r6 := rok.1
  refine zS.up (fun j s' => BL s' x f (R ++ [r.take j]) (W + j) ∧ rOnly (sBl x f W0) s0 s') 0 r.length (fun j s' _ hj hJ => ?_) (fun s' hJ => ?_) (Nat.zero_le _) (by omega) ⟨h, o⟩
  · obtain ⟨B, o'⟩ := hJ
    dsimp only
    rw [rd34 (by omega), Option.bind_some, o' 34 u (by omega), e34, if_neg (nI_nle' (by omega) hj), rd33 (by omega), Option.bind_some, o' 33 u (by omega), e33, nI_add, rd35 (by omega), Option.bind_some, o' 35 (g + j) (by omega), e35 j hj]
    obtain ⟨s3, t1, t2, t3⟩ := raddn_eq (v := r.getD j 0) B (by omega) (by omega)
    rw [t1, Option.bind_some]
    refine zS.s ⟨_, by rw [nI_1], ?_, o'.tr (t3.mono (fun a k z => by omega))⟩
    rw [take_gd hj]
    exact t2
  · obtain ⟨B, o'⟩ := hJ
    dsimp only
    rw [rd34 (by omega), Option.bind_some, o' 34 u (by omega), e34, if_pos (nI_le (Nat.le_refl _) (by omega))]
    rw [List.take_length] at B
    exact zS.s ⟨_, rfl, B, o'⟩
theorem xNe_S {l : Rw} {i : Nat} (hi : i < l.length) : xNe (l.take (i + 1)) = xNe (l.take i) ++ (if (l.getD i []).length = 0 then [] else [l.getD i []]) := by
  unfold xNe
  rw [take_row hi, List.filter_append]
  congr 1
  generalize l.getD i [] = r
  cases r with
  | nil => rfl
  | cons a r => rfl
/-- rows that are not empty go over as they are -/
theorem rnz_eq {s s0 : Zr} {l : Rw} {a x f0 f W0 : Nat} (ok : xOK l) (ha : a < x) (hx : x < 200) (h31 : s0 31 a = nI f0) (h32 : s0 32 a = nI l.length) (hf0 : f0 + l.length ≤ f) (hr : rRb s0 f0 l W0) (hfm : f ≤ 11500) (hWm : W0 ≤ 11500) (B : BL s x f [] W0) (o : rOnly (sBl x f W0) s0 s) :
    zS (zloop (fun ((v8, s9) : Int32 × Zr) =>
    ((rdI s9 31 (nI a)).bind fun x13 =>
    (rdI s9 32 (nI a)).bind fun x14 =>
    if (x13 + x14) ≤ v8 then
      some (.inr s9)
    else
      (rdI s9 34 v8).bind fun x15 =>
      (if x15 ≤ 0 then
        some s9
      else
        (fX6_beginRow s9 (nI x)).bind fun s18 =>
        (zloop (fun ((v19, s20) : Int32 × Zr) =>
          ((rdI s20 34 v8).bind fun x24 =>
          if x24 ≤ v19 then
            some (.inr s20)
          else
            (rdI s20 33 v8).bind fun x25 =>
            (rdI s20 35 (x25 + v19)).bind fun x26 =>
            (fX6_addName s20 x26).bind fun s27 =>
            some (.inl (v19 + (1 : Int32), s27)) : Option ((Int32 × Zr) ⊕ Zr))) zFU ((0 : Int32), s18)).bind fun (s21 : Zr) =>
        some s21).bind fun (s16 : Zr) =>
      some (.inl (v8 + (1 : Int32), s16)) : Option ((Int32 × Zr) ⊕ Zr))) zFU (nI f0, s))
      (fun s' => ∃ W', W0 ≤ W' ∧ W' ≤ W0 + gS List.length l ∧ BL s' x f (xNe l) W' ∧ rOnly (sBl x f W0) s0 s') := by
  have l144 := ok.2.1
  have g144 := ok.2.2
  refine zS.up (fun q s' => ∃ i, q = f0 + i ∧ i ≤ l.length ∧ ∃ W', W0 ≤ W' ∧ W' ≤ W0 + gS List.length (l.take i) ∧ BL s' x f (xNe (l.take i)) W' ∧ rOnly (sBl x f W0) s0 s') f0 (f0 + l.length) (fun q s' hq0 hq hJ => ?_) (fun s' hJ => ?_) (by omega) (by omega) ⟨0, rfl, Nat.zero_le _, W0, Nat.le_refl _, Nat.le_refl _, B, o⟩
  · obtain ⟨i, rfl, il, W', w1, w2, B', o'⟩ := hJ
    have il : i < l.length := by omega
    obtain ⟨g, g1, g2, g3, g4⟩ := hr i il
    have rm : l.getD i [] ∈ l := by
      rw [List.getD_eq_getElem?_getD, List.getElem?_eq_getElem il]
      exact List.getElem_mem il
    have rok := ok.1 _ rm
    have r6 := rok.1
    have gs : gS List.length (l.take (i + 1)) = gS List.length (l.take i) + (l.getD i []).length := by
      rw [take_row il, gS_app]; rfl
    have gt := gS_take l (i + 1)
    have xs := xNe_S il
    have xl : (xNe (l.take i)).length ≤ l.length := Nat.le_trans (xNe_len _) (by rw [List.length_take]; omega)
    generalize l.getD i [] = r at *
    generalize xNe (l.take i) = R at *
    dsimp only
    rw [rd31 (by omega), Option.bind_some, rd32 (by omega), Option.bind_some, o' 31 a (by omega), o' 32 a (by omega), h31, h32, nI_add, if_neg (nI_nle' (by omega) (by omega)), rd34 (by omega), Option.bind_some, o' 34 _ (by omega), g2]
    by_cases c : r.length = 0
    · rw [if_pos (show nI r.length ≤ 0 by rw [c]; decide), Option.bind_some]
      rw [if_pos c, List.append_nil] at xs
      exact zS.s ⟨_, by rw [nI_1], i + 1, by omega, by omega, W', w1, by omega, by rw [xs]; exact B', o'⟩
    · rw [if_neg (nI_nle (by omega) (by omega))]
      rw [if_neg c] at xs
      obtain ⟨t, t1, t2, t3⟩ := rbegr_eq hx B' (by omega)
      rw [t1, Option.bind_some]
      refine zS.b (zS.b (rcopy_eq (s0 := s0) (W0 := W0) hx (show f0 + i < f by omega) rok g1 g2 g3 g4 w1 (by omega) (by omega) t2 (o'.tr (t3.mono (fun a k z => by omega)))) (fun s7 hs7 => zS.s hs7)) (fun s7 hs7 => ?_)
      exact zS.s ⟨_, by rw [nI_1], i + 1, by omega, by omega, W' + r.length, by omega, by omega, by rw [xs]; exact hs7.1, hs7.2⟩
  · obtain ⟨i, hi, il, W', w1, w2, B', o'⟩ := hJ
    have : i = l.length := by omega
    subst this
    rw [List.take_length] at w2 B'
    dsimp only
    rw [rd31 (by omega), Option.bind_some, rd32 (by omega), Option.bind_some, o' 31 a (by omega), o' 32 a (by omega), h31, h32, nI_add, if_pos (nI_le (Nat.le_refl _) (by omega))]
    exact zS.s ⟨_, rfl, W', w1, w2, B', o'⟩
