theorem rsloop2 {f : Int32 × Zr → Option ((Int32 × Zr) ⊕ Zr)} {J : Nat → Zr → Prop} {N : Nat} {s0 : Zr} (hf : ∀ k s, k < N → J k s → ∃ s', f (nI k, s) = some (.inl (nI (k + 1), s')) ∧ J (k + 1) s') (hN : ∀ s, J N s → f (nI N, s) = some (.inr s)) (hN' : N < 100000) (h0 : J 0 s0) : ∃ s', zloop f zFU ((0 : Int32), s0) = some s' ∧ J N s' := by
  refine zloop_inv (fun (n : Nat) (s : Int32 × Zr) => ∃ k, n = N - k ∧ k ≤ N ∧ s.1 = nI k ∧ J k s.2) (J N) ?_ N _ _ ⟨0, rfl, by omega, rfl, h0⟩ (by rw [zFU_v]; omega)
  rintro n ⟨w, s⟩ ⟨k, hn, hk, rfl, hJ⟩
  by_cases e : k = N
  · subst e
    exact Or.inr ⟨s, hN s hJ, hJ⟩
  · obtain ⟨s', e1, e2⟩ := hf k s (by omega) hJ
    exact Or.inl ⟨_, N - (k + 1), e1, by omega, k + 1, rfl, by omega, rfl, e2⟩
/-! more on the reference's side -/
def pMore (p : Mp) (a b : Int32) : Int32 × Mp :=
  if mnm a (pn p) ∧ mnm b (pn p) then
    if 2 ≤ pkd p a.toNatClampNeg then
      if pn p = 200 then (-2, p)
      else if psz p a.toNatClampNeg + psz p b.toNatClampNeg ≤ 60 then (nI (pn p), pAdd p (pkd p a.toNatClampNeg) (-3) (ppt p a.toNatClampNeg ++ [b.toNatClampNeg]))
      else (-2, p)
    else (-1, p)
  else (-1, p)
theorem take_1 : ∀ (l : List Nat) (i : Nat), i < l.length → l.take (i + 1) = l.take i ++ [l.getD i 0]
  | [], _, h => absurd h (Nat.not_lt_zero _)
  | _ :: _, 0, _ => rfl
  | x :: l, i + 1, h => by
    show x :: l.take (i + 1) = x :: (l.take i ++ [l.getD i 0])
    rw [take_1 l i (Nat.lt_of_succ_lt_succ h)]
theorem getD_mem : ∀ (l : List Nat) (i : Nat), i < l.length → l.getD i 0 ∈ l
  | [], _, h => absurd h (Nat.not_lt_zero _)
  | _ :: _, 0, _ => List.mem_cons_self
  | _ :: l, i + 1, h => List.mem_cons_of_mem _ (getD_mem l i (Nat.lt_of_succ_lt_succ h))
theorem rmore_eq {s : Zr} {p : Mp} (h : rPc s p) (ok : pOK p) (a b : Int32) : ∃ s', fX6_more s a b = some ((pMore p a b).1, s') ∧ rPc s' (pMore p a b).2 ∧ rOnly sPc s s' := by
  have h200 := ok.1
  have hal := pAll_lim ok (pn p) (Nat.le_refl _)
  unfold fX6_more pMore
  rw [rpiece_at h ok, rpiece_at h ok, Option.bind_some, Option.bind_some]
  by_cases c2 : mnm a (pn p)
  · rw [if_neg (fun z => b2_z.mp z c2)]
    by_cases c3 : mnm b (pn p)
    · have c23 : mnm a (pn p) ∧ mnm b (pn p) := ⟨c2, c3⟩
      rw [if_neg (fun z => b2_z.mp z c3), if_pos c23]
      obtain ⟨ea, la⟩ := mnm_nI c2
      obtain ⟨eb, lb⟩ := mnm_nI c3
      generalize a.toNatClampNeg = x at ea la
      generalize b.toNatClampNeg = y at eb lb
      subst ea eb
      obtain ⟨t1, t2, t3, t4, t5, t6⟩ := h.2.2 x la
      have sb := (h.2.2 y lb).2.2.2.2.1
      obtain ⟨q1, q2, q3, q4, q5⟩ := ok.2 x la
      have la60 := q4
      have lb60 := (ok.2 y lb).2.2.2.1
      have l60 := plen_60 ok la
      rw [rd7 (by omega), Option.bind_some, t1]
      by_cases ck : 2 ≤ pkd p x
      · rw [if_pos (show (2 : Int32) ≤ nI (pkd p x) from nI_le (a := 2) ck (by omega)), if_pos ck]
        by_cases c4 : pn p = 200
        · rw [if_pos ((r200 h ok).mpr c4), if_pos c4]
          exact ⟨s, rfl, h, rOnly.rf⟩
        · rw [if_neg (fun z => c4 ((r200 h ok).mp z)), if_neg c4, rd11 (by omega), rd11 (by omega), Option.bind_some, Option.bind_some, t5, sb, nI_add]
          by_cases c5 : psz p x + psz p y ≤ 60
          · rw [if_pos (show nI (psz p x + psz p y) ≤ (60 : Int32) from nI_le (b := 60) c5 (by omega)), if_pos c5]
            obtain ⟨s1, e, r, o⟩ := rnewp_eq h (by omega) (pkd p x) (-3)
            rw [Option.bind_some, e, Option.bind_some]
            have rd : ∀ i s', rPc s' (pAdd p (pkd p x) (-3) ((ppt p x).take i)) → s' 9 x = nI (pAll p x) ∧ s' 10 x = nI (ppt p x).length ∧ ∀ j, j < (ppt p x).length → s' 12 (pAll p x + j) = nI ((ppt p x).getD j 0) := by
              intro i s' hr
              have nw : x < pn (pAdd p (pkd p x) (-3) ((ppt p x).take i)) := Nat.lt_succ_of_lt la
              obtain ⟨_, _, u3, u4, _, u6⟩ := hr.2.2 x nw
              have et : ppt (pAdd p (pkd p x) (-3) ((ppt p x).take i)) x = ppt p x := m1_n (by omega)
              rw [pAdd_all x (by omega)] at u3 u6
              rw [et] at u4 u6
              exact ⟨u3, u4, u6⟩
            have hx := pAll_lim ok x (by omega)
            obtain ⟨s2, e2, ⟨r2, o2⟩, -⟩ := (rsloop2 (N := (ppt p x).length) (s0 := s1) (J := fun i s' => (rPc s' (pAdd p (pkd p x) (-3) ((ppt p x).take i)) ∧ rOnly sPc s s') ∧ i ≤ (ppt p x).length) (f := fun ((v9, s10) : Int32 × Zr) =>
              ((rdI s10 10 (nI x)).bind fun x14 =>
              if x14 ≤ v9 then
                some (.inr s10)
              else
                (rdI s10 9 (nI x)).bind fun x15 =>
                (rdI s10 12 (x15 + v9)).bind fun x16 =>
                (fX6_addPart s10 (nI (pn p)) x16).bind fun s17 =>
                some (.inl (v9 + (1 : Int32), s17)) : Option ((Int32 × Zr) ⊕ Zr))) (fun i s' hi j => by
              obtain ⟨⟨jr, jo⟩, _⟩ := j
              obtain ⟨w9, w10, w12⟩ := rd i s' jr
              show ∃ s'', ((rdI s' 10 (nI x)).bind fun x14 => _) = _ ∧ _
              rw [rd10 (by omega), Option.bind_some, w10, if_neg (nI_nle' (by omega) hi), rd9 (by omega), Option.bind_some, w9, nI_add, rd12 (by omega), Option.bind_some, w12 i hi, nI_1]
              have hjl := q2 _ (getD_mem (ppt p x) i hi)
              have hle : ((ppt p x).take i).length ≤ i := List.length_take_le _ _
              obtain ⟨s3, e3, r3, o3⟩ := raddp_eq jr (by omega) (by omega) (j := (ppt p x).getD i 0) (by omega)
              rw [e3]
              refine ⟨s3, rfl, ⟨?_, jo.tr o3⟩, hi⟩
              rw [take_1 _ _ hi]
              exact r3) (fun s' j => by
              obtain ⟨⟨jr, jo⟩, _⟩ := j
              obtain ⟨w9, w10, w12⟩ := rd _ s' jr
              show ((rdI s' 10 (nI x)).bind fun x14 => _) = _
              rw [rd10 (by omega), Option.bind_some, w10, if_pos (nI_le (Nat.le_refl _) (by omega))]) (by omega) ⟨⟨by rw [List.take_zero]; exact r, o⟩, Nat.zero_le _⟩)
            rw [List.take_length] at r2
            obtain ⟨s3, e3, r3, o3⟩ := raddp_eq r2 (by omega) (by omega) lb
            refine ⟨s3, ?_, r3, o2.tr o3⟩
            refine (congrArg (fun o : Option Zr => o.bind fun s11 => (fX6_addPart s11 (nI (pn p)) (nI y)).bind fun s18 => some (nI (pn p), s18)) e2).trans ?_
            show ((fX6_addPart s2 (nI (pn p)) (nI y)).bind fun s18 => some (nI (pn p), s18)) = _
            rw [e3]
            rfl
          · rw [if_neg (show ¬ nI (psz p x + psz p y) ≤ (60 : Int32) from nI_nle' (a := 60) (by omega) (by omega)), if_neg c5]
            exact ⟨s, rfl, h, rOnly.rf⟩
      · rw [if_neg (show ¬ (2 : Int32) ≤ nI (pkd p x) from nI_nle' (b := 2) (by omega) (by omega)), if_neg ck]
        exact ⟨s, rfl, h, rOnly.rf⟩
    · rw [if_pos (b2_z.mpr c3), if_neg (fun z : mnm a (pn p) ∧ mnm b (pn p) => c3 z.2)]
      exact ⟨s, rfl, h, rOnly.rf⟩
  · rw [if_pos (b2_z.mpr c2), if_neg (fun z : mnm a (pn p) ∧ mnm b (pn p) => c2 z.1)]
    exact ⟨s, rfl, h, rOnly.rf⟩
