/-! found on the class's side: what a part takes of the rows -/
theorem rOK_mem {r : List Nat} : rOK r ↔ r.length ≤ 6 ∧ ∀ x, x ∈ r → x < 12 := by
  constructor
  · rintro ⟨h1, h2⟩
    refine ⟨h1, fun x hx => ?_⟩
    obtain ⟨i, i1, i2⟩ := mem_gd.mpr hx
    rw [← i2]; exact h2 i i1
  · rintro ⟨h1, h2⟩
    exact ⟨h1, fun i hi => h2 _ (mem_gd.mp ⟨i, hi, rfl⟩)⟩
theorem rOK_sub {r r' : List Nat} (h : r'.Sublist r) (ok : rOK r) : rOK r' := by
  obtain ⟨h1, h2⟩ := rOK_mem.mp ok
  exact rOK_mem.mpr ⟨Nat.le_trans h.length_le h1, fun x hx => h2 x (h.subset hx)⟩
theorem cwithin_eq {h : Zh} {r : List Nat} {x : Int32} {P : Nat → Prop} (ok : rOK r) (hx : sM x P) : fX3_within h (nI (rwN r)) x = some (nI (rwN (xW P r))) := by
  have l6 := ok.1
  have key : zS (fX3_within h (nI (rwN r)) x) (fun y => y = nI (rwN (xW P r))) := by
    unfold fX3_within
    refine zS.b (zS.gen (fun k (c : List Nat) => (nI (rwN c), nI c.length, nI k)) (fun k c => c = xW P (r.take k)) 0 r.length (fun k c _ hk hJ => ?_) (fun c hJ => ?_) (Nat.zero_le _) (by omega) (x0 := []) rfl) (fun y hy => zS.s hy)
    · subst hJ
      have v12 := ok.2 k hk
      have ls : (xW P (r.take k)).length ≤ k := Nat.le_trans (List.length_filter_le _ _) (by rw [List.length_take]; omega)
      have sub : rOK (xW P (r.take k)) := rOK_sub (List.filter_sublist.trans (List.take_sublist _ _)) ok
      dsimp only
      rw [if_neg (show ¬ (6 : Int32) ≤ nI k from nI_nle' (b := 6) (by omega) (by omega)), cnmi_eq ok (by omega), Option.bind_some, if_pos hk, if_neg (n3_nI v12)]
      by_cases c : P (r.getD k 0)
      · rw [if_neg (fun z => (hx.at v12).mp z c), Option.bind_some]
        refine zS.s (Or.inl ⟨xW P (r.take (k + 1)), ?_, rfl⟩)
        rw [xW_s hk, if_pos (cB_t.mpr c), rwN_app sub (by omega) v12, List.length_append, nI_1, nI_1]; rfl
      · rw [if_pos ((hx.at v12).mpr c), Option.bind_some]
        refine zS.s (Or.inl ⟨xW P (r.take (k + 1)), ?_, rfl⟩)
        rw [xW_s hk, if_neg (fun z => c (cB_t.mp z)), List.append_nil, nI_1]
    · subst hJ
      dsimp only
      by_cases c : r.length = 6
      · rw [if_pos (show (6 : Int32) ≤ nI r.length by rw [c]; decide)]
        refine zS.s ⟨_, rfl, ?_⟩
        rw [List.take_length]
      · rw [if_neg (show ¬ (6 : Int32) ≤ nI r.length from nI_nle' (b := 6) (by omega) (by omega)), cnmi_eq ok (by omega), Option.bind_some, if_neg (Nat.lt_irrefl _), if_pos rfl]
        refine zS.s ⟨_, rfl, ?_⟩
        rw [List.take_length]
  obtain ⟨y, e, rfl⟩ := key
  exact e
theorem cuS_len {P : Nat → Prop} {R : Rw} {r : List Nat} : ∀ k, k ≤ r.length → (cuS P R r k).1.length + (if (cuS P R r k).2 = [] then 0 else 1) ≤ R.length + k ∧ (cuS P R r k).2.length ≤ k ∧ ∀ x, x ∈ (cuS P R r k).2 → x ∈ r
  | 0, _ => ⟨by show R.length + (if ([] : List Nat) = [] then 0 else 1) ≤ _; rw [if_pos rfl]; exact Nat.le_refl _, Nat.le_refl _, fun x hx => absurd hx List.not_mem_nil⟩
  | k + 1, hk => by
    obtain ⟨a, b, c⟩ := cuS_len (P := P) (R := R) (r := r) k (by omega)
    have hk' : k < r.length := by omega
    rw [cuS_s hk']
    generalize cuS P R r k = q at *
    obtain ⟨d, e⟩ := q
    dsimp only at a b c
    have mk : r.getD k 0 ∈ r := mem_gd.mp ⟨k, hk', rfl⟩
    unfold stS
    by_cases p : cB (P (r.getD k 0)) = true
    · rw [if_pos p]
      refine ⟨?_, ?_, fun x hx => ?_⟩
      · dsimp only
        rw [if_neg (by simp)]
        split at a <;> omega
      · dsimp only
        rw [List.length_append]
        have z : [r.getD k 0].length = 1 := rfl
        omega
      · rcases List.mem_append.mp hx with h | h
        · exact c x h
        · rw [List.mem_singleton.mp h]; exact mk
    · rw [if_neg p]
      dsimp only
      by_cases g : e = []
      · rw [if_pos g] at a
        rw [if_pos g]
        refine ⟨?_, Nat.zero_le _, fun x hx => absurd hx List.not_mem_nil⟩
        dsimp only
        rw [if_pos rfl]; omega
      · rw [if_neg g] at a
        rw [if_neg g]
        refine ⟨?_, Nat.zero_le _, fun x hx => absurd hx List.not_mem_nil⟩
        dsimp only
        rw [if_pos rfl, List.length_append]
        have z : [e].length = 1 := rfl
        omega
noncomputable def cuQ (P : Nat → Prop) (R : Rw) (r : List Nat) (k : Nat) : Rw × List Nat := if k ≤ r.length then cuS P R r k else (finS (cuS P R r r.length), [])
abbrev sRo (T u k : Nat) : Prop := (u = T ∧ k = 1) ∨ u = T + 1
theorem cstr_eq {h : Zh} {T : Nat} {r : List Nat} {x : Int32} {P : Nat → Prop} {R : Rw} (ok : rOK r) (hx : sM x P) (f : Shf h T) (rr : shR h T R) (hl : R.length + r.length ≤ 144) : zS (fX3_putStretches h (some T) (nI (rwN r)) x) (fun h' => shR h' T (R ++ xSt P [] r) ∧ iO (sRo T) h h') := by
  have l6 := ok.1
  unfold fX3_putStretches
  refine zS.b (zS.gen (fun k (b : (Rw × List Nat) × Zh) => (nI (rwN b.1.2), nI b.1.2.length, nI k, b.2)) (fun k b => b.1 = cuQ P R r k ∧ shR b.2 T b.1.1 ∧ iO (sRo T) h b.2) 0 7 (fun k b _ hk hJ => ?_) (fun b hJ => ?_) (Nat.zero_le _) (by omega) (x0 := ((R, []), h)) ⟨by unfold cuQ; rw [if_pos (Nat.zero_le _)]; rfl, rr, iO.rf⟩) (fun r hr => zS.s hr)
  · obtain ⟨q, h1⟩ := b
    obtain ⟨eq, r1, o⟩ := hJ
    dsimp only at eq r1 o ⊢
    have f1 := f.on o
    rw [if_neg (show ¬ (6 : Int32) < nI k from nI_nlt (a := 6) (by omega) (by omega)), cnmi_eq ok (by omega), Option.bind_some]
    have cl : ∀ j, j ≤ r.length → _ := fun j hj => cuS_len (P := P) (R := R) (r := r) j hj
    -- what a break does
    have brk : q.1.length + (if q.2 = [] then 0 else 1) ≤ 144 → ∀ (g : Int32 × Int32 × Zh → Option ((Int32 × Int32 × Int32 × Zh) ⊕ Zh)) (TP : (Int32 × Int32 × Int32 × Zh) ⊕ Zh → Prop), (∀ h2, shR h2 T (finS q) → iO (sRo T) h h2 → zS (g ((0 : Int32), (0 : Int32), h2)) TP) →
        zS (((if nI q.2.length ≤ 0 then some h1 else (zob h1 (some T) 5).bind fun p15 => (fX3_put h1 (some p15) (nI (rwN q.2))).bind fun h16 => some h16).bind fun (h13 : Zh) => some ((0 : Int32), (0 : Int32), h13)).bind g) TP := fun hq g TP hg => by
      by_cases c : q.2 = []
      · rw [if_pos (show nI q.2.length ≤ 0 by rw [c]; decide), Option.bind_some, Option.bind_some]
        refine hg h1 ?_ o
        unfold finS
        rw [if_pos c]; exact r1
      · rw [if_neg c] at hq
        obtain ⟨h2, p1, p2, p3⟩ := cputr_eq (x := q.2) f1 r1 (by omega)
        have lq : q.2.length ≠ 0 := fun z => c (List.eq_nil_of_length_eq_zero z)
        have q2l : q.2.length < 2 ^ 31 := by
          by_cases kr : k ≤ r.length
          · have := (cl k kr).2.1
            rw [eq] 
            unfold cuQ
            rw [if_pos kr]; omega
          · rw [eq]
            unfold cuQ
            rw [if_neg kr]; show 0 < _; omega
        rw [if_neg (nI_nle (by omega) q2l), f1.ob, Option.bind_some, p1, Option.bind_some, Option.bind_some, Option.bind_some]
        refine hg h2 ?_ (o.tr (p3.mono (fun u k z => by omega)))
        unfold finS
        rw [if_neg c]; exact p2
    by_cases kr : k < r.length
    · have e1 : q = cuS P R r k := by rw [eq]; unfold cuQ; rw [if_pos (by omega)]
      obtain ⟨c1, c2, c3⟩ := cl k (by omega)
      rw [← e1] at c1 c2 c3
      have v12 := ok.2 k kr
      have eS : cuQ P R r (k + 1) = stS P q (r.getD k 0) := by
        unfold cuQ
        rw [if_pos (by omega), cuS_s kr, e1]
      rw [if_pos kr, if_neg (n3_nI v12)]
      by_cases p : P (r.getD k 0)
      · have q6 : rOK q.2 := rOK_mem.mpr ⟨by omega, fun y hy => (rOK_mem.mp ok).2 y (c3 y hy)⟩
        rw [if_neg (fun z => (hx.at v12).mp z p), Option.bind_some]
        refine zS.s (Or.inl ⟨((q.1, q.2 ++ [r.getD k 0]), h1), ?_, ?_, r1, o⟩)
        · dsimp only
          rw [rwN_app q6 (by omega) v12, List.length_append, nI_1, nI_1]; rfl
        · rw [eS]
          unfold stS
          rw [if_pos (cB_t.mpr p)]
      · rw [if_pos ((hx.at v12).mpr p)]
        refine brk (by omega) _ _ (fun h2 s2 o2 => zS.s (Or.inl ⟨((finS q, []), h2), ?_, ?_, s2, o2⟩))
        · dsimp only
          rw [nI_1]; rfl
        · rw [eS]
          unfold stS finS
          rw [if_neg (fun z => p (cB_t.mp z))]
          by_cases c : q.2 = []
          · rw [if_pos c, if_pos c]
          · rw [if_neg c, if_neg c]
    · have eN : cuQ P R r (k + 1) = (finS q, []) := by
        have : cuQ P R r (k + 1) = (finS (cuS P R r r.length), []) := by unfold cuQ; rw [if_neg (by omega)]
        rw [this, eq]
        unfold cuQ
        by_cases c : k ≤ r.length
        · rw [if_pos c, show k = r.length by omega]
        · rw [if_neg c]; rfl
      have hq : q.1.length + (if q.2 = [] then 0 else 1) ≤ 144 := by
        have := (cl r.length (Nat.le_refl _)).1
        by_cases c : k ≤ r.length
        · have e1 : q = cuS P R r r.length := by rw [eq]; unfold cuQ; rw [if_pos c, show k = r.length by omega]
          rw [← e1] at this
          omega
        · have e1 : q = (finS (cuS P R r r.length), []) := by rw [eq]; unfold cuQ; rw [if_neg c]
          rw [e1]
          dsimp only
          rw [if_pos rfl]
          unfold finS
          by_cases g : (cuS P R r r.length).2 = []
          · rw [if_pos g] at this ⊢; omega
          · rw [if_neg g] at this ⊢
            rw [List.length_append]
            have z : [(cuS P R r r.length).2].length = 1 := rfl
            omega
      rw [if_neg kr, if_pos rfl]
      refine brk hq _ _ (fun h2 s2 o2 => zS.s (Or.inl ⟨((finS q, []), h2), ?_, eN.symm, s2, o2⟩))
      dsimp only
      rw [nI_1]; rfl
  · obtain ⟨q, h1⟩ := b
    obtain ⟨eq, r1, o⟩ := hJ
    dsimp only at eq r1 o ⊢
    rw [if_pos (show (6 : Int32) < nI 7 by decide)]
    refine zS.s ⟨_, rfl, ?_, o⟩
    have e1 : q = (finS (cuS P R r r.length), []) := by rw [eq]; unfold cuQ; rw [if_neg (by omega)]
    rw [e1] at r1
    have : finS (cuS P R r r.length) = R ++ xSt P [] r := by
      unfold cuS
      rw [List.take_length]
      exact xSt_fold r R []
    rw [← this]; exact r1
theorem xT5_len {P : Nat → Prop} {l : Rw} : (xTake 5 P l).length ≤ gS List.length l := by
  have h1 : gS (fun _ => 1) (xTake 5 P l) ≤ gS List.length (xTake 5 P l) := gS_le _ _ _ (fun s hs => by
    obtain ⟨r, h1, h2⟩ := List.mem_flatMap.mp hs
    have := (xTk1_mem h2).2.2 rfl
    exact List.length_pos_iff.mpr this)
  rw [gS_one] at h1
  have g1 : gS List.length (xTake 5 P l) ≤ gS List.length l := by
    unfold xTake
    rw [gS_flat]
    exact gS_le _ _ _ (fun r _ => xTk1_sum.1)
  omega
theorem xTn_len {k : Nat} {P : Nat → Prop} {l : Rw} (hk : k ≠ 5) : (xTake k P l).length ≤ l.length := by
  have e : (xTake k P l).length = gS (fun _ => 1) (xTake k P l) := (gS_one _).symm
  have : gS (fun r => gS (fun _ => 1) (xTk1 k P r)) l ≤ gS (fun _ => 1) l := gS_le _ _ _ (fun r _ => by
    show gS (fun _ => 1) (xTk1 k P r) ≤ 1
    rw [gS_one]; exact xTk1_sum.2 hk)
  rw [e]
  unfold xTake
  rw [gS_flat]
  rw [gS_one] at this
  exact this
theorem ctkf_eq {h : Zh} {S T k : Nat} {l : Rw} {x : Int32} {P : Nat → Prop} (ok : xOK l) (hx : sM x P) (f : Shf h S) (g : Shf h T) (hST : S + 7 ≤ T) (r : shR h S l) (hk : k = 2 ∨ k = 3 ∨ k = 4 ∨ k = 5) : zS (fX3_takeFrom h (some T) (some S) x (nI k)) (fun h' => shR h' T (xTake k P l) ∧ iO (sRo T) h h') := by
  have l144 := ok.2.1
  have g144 := ok.2.2
  unfold fX3_takeFrom
  rw [g.gI, Option.bind_some]
  have o1 : iO (sRo T) h (zsetI h T 1 0) := iO.s (Or.inl ⟨rfl, rfl⟩)
  refine zS.b (zS.up (fun i h' => shR h' T (xTake k P (l.take i)) ∧ iO (sRo T) h h') 0 l.length (fun i h' _ hi hJ => ?_) (fun h' hJ => ?_) (Nat.zero_le _) (by omega) ⟨⟨Nat.zero_le _, by rw [zi_sI, u2_s]; exact nI_0.symm, fun i z => absurd z (Nat.not_lt_zero _)⟩, o1⟩) (fun r hr => zS.s hr)
  · obtain ⟨r', o⟩ := hJ
    have f' := f.on o
    have g' := g.on o
    have rm : l.getD i [] ∈ l := gd_memP hi
    have rok := ok.1 _ rm
    have es := r.on o (by omega) (fun j _ => by omega)
    have xs := xTake_S (k := k) (P := P) hi
    have e5 := xT5_len (P := P) (l := l.take i)
    have gs : gS List.length (l.take (i + 1)) = gS List.length (l.take i) + (l.getD i []).length := by
      rw [take_row hi, gS_app]; rfl
    have gt := gS_take l (i + 1)
    have lt : (l.take i).length = i := by rw [List.length_take]; omega
    dsimp only
    rw [f'.fI, Option.bind_some, es.2.1, if_neg (nI_nle' (by omega) hi), f'.p0, Option.bind_some, f'.a1 (by omega), Option.bind_some, es.2.2 i hi, cwithin_eq rok hx, Option.bind_some]
    have put : k ≠ 5 → (xTk1 k P (l.getD i []) = [xW P (l.getD i [])]) → ∃ h2, fX3_put h' (some T) (nI (rwN (xW P (l.getD i [])))) = some h2 ∧ shR h2 T (xTake k P (l.take (i + 1))) ∧ iO (sRo T) h h2 := fun k5 ek => by
      have en := xTn_len (P := P) (l := l.take i) k5
      obtain ⟨h2, p1, p2, p3⟩ := cputr_eq (x := xW P (l.getD i [])) g' r' (by omega)
      exact ⟨h2, p1, by rw [xs, ek]; exact p2, o.tr (p3.mono (fun u k z => by omega))⟩
    by_cases k5 : k = 5
    · subst k5
      rw [if_pos (show nI 5 = (5 : Int32) from rfl), g'.ob, Option.bind_some]
      refine zS.b (zS.b (cstr_eq rok hx g' r' (by omega)) (fun h2 hh => zS.s hh)) (fun h2 hh => ?_)
      refine zS.s ⟨_, by rw [nI_1], ?_, o.tr hh.2⟩
      rw [xs]
      have : xTk1 5 P (l.getD i []) = xSt P [] (l.getD i []) := if_pos rfl
      rw [this]; exact hh.1
    · rw [if_neg (show ¬ nI k = (5 : Int32) from fun z => k5 ((nI_eq (b := 5) (by omega) (by omega)).mp z))]
      by_cases k3 : k = 3
      · subst k3
        rw [if_pos (show nI 3 = (3 : Int32) from rfl)]
        have wok : rOK (xW P (l.getD i [])) := rOK_sub List.filter_sublist rok
        by_cases c : xW P (l.getD i []) = []
        · rw [if_pos ((rwN_0 wok).mpr c), Option.bind_some]
          refine zS.s ⟨_, by rw [nI_1], ?_, o⟩
          have : xTk1 3 P (l.getD i []) = [] := (if_neg (by omega)).trans (if_pos ⟨rfl, c⟩)
          rw [xs, this, List.append_nil]
          exact r'
        · obtain ⟨h2, p1, p2, p3⟩ := put (by omega) ((if_neg (by omega)).trans (if_neg (fun z => c z.2)))
          rw [if_neg (fun z => c ((rwN_0 wok).mp z)), g'.ob, Option.bind_some, p1, Option.bind_some, Option.bind_some]
          exact zS.s ⟨_, by rw [nI_1], p2, p3⟩
      · obtain ⟨h2, p1, p2, p3⟩ := put k5 ((if_neg k5).trans (if_neg (fun z => k3 z.1)))
        rw [if_neg (show ¬ nI k = (3 : Int32) from fun z => k3 ((nI_eq (b := 3) (by omega) (by omega)).mp z)), g'.ob, Option.bind_some, p1, Option.bind_some, Option.bind_some]
        exact zS.s ⟨_, by rw [nI_1], p2, p3⟩
  · have es := r.on hJ.2 (by omega) (fun j _ => by omega)
    dsimp only
    rw [(f.on hJ.2).fI, Option.bind_some, es.2.1, if_pos (nI_le (Nat.le_refl _) (by omega))]
    refine zS.s ⟨_, rfl, ?_, hJ.2⟩
    have := hJ.1
    rw [List.take_length] at this
    exact this
