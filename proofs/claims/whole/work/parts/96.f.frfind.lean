/-! found on the reference's side: the whole -/
def mRl (m : Ml) (c : Nat) : List Nat := (List.range (mlen m c)).map (fun i => (mdt m c i 0).toNatClampNeg)
def mRk (m : Ml) (k : Nat) : Rw := ((List.range k).filter (fun c => !mdr m c)).map (mRl m)
def mRws (m : Ml) : Rw := mRk m (mnc m)
theorem mRl_len (m : Ml) (c : Nat) : (mRl m c).length = mlen m c := by unfold mRl; rw [List.length_map, List.length_range]
theorem mRl_at {m : Ml} (om : mOK m) {c i : Nat} (hi : i < mlen m c) : mdt m c i 0 = nI ((mRl m c).getD i 0) ∧ (mRl m c).getD i 0 < 12 := by
  have e : (mRl m c).getD i 0 = (mdt m c i 0).toNatClampNeg := by
    unfold mRl
    rw [mapP_gd _ _ 0 _ _ (by rw [List.length_range]; exact hi), List.getD_eq_getElem?_getD, List.getElem?_range hi]; rfl
  obtain ⟨h1, h2⟩ := mnm_nI (om.2.2.2 c i hi).1
  rw [e]
  exact ⟨h1, h2⟩
theorem mRl_ok {m : Ml} (om : mOK m) (c : Nat) : rOK (mRl m c) := ⟨by rw [mRl_len]; exact om.2.1 c, fun i hi => by
  rw [mRl_len] at hi
  exact (mRl_at om hi).2⟩
theorem mRk_S (m : Ml) (k : Nat) : mRk m (k + 1) = mRk m k ++ (if mdr m k = true then [] else [mRl m k]) := by
  unfold mRk
  rw [List.range_succ, List.filter_append, List.map_append]
  congr 1
  by_cases c : mdr m k = true
  · rw [if_pos c, List.filter_cons_of_neg (by rw [c]; decide)]; rfl
  · rw [if_neg c, List.filter_cons_of_pos (by rw [Bool.not_eq_true] at c; rw [c]; rfl)]; rfl
theorem mRk_len (m : Ml) : ∀ k, (mRk m k).length ≤ k := fun k => by
  unfold mRk
  rw [List.length_map]
  have := List.length_filter_le (fun c => !mdr m c) (List.range k)
  rw [List.length_range] at this
  exact this
theorem mRws_ok {m : Ml} (om : mOK m) : xOK (mRws m) := by
  have key : ∀ k, k ≤ 24 → (∀ r, r ∈ mRk m k → rOK r) ∧ gS List.length (mRk m k) ≤ 6 * k := by
    intro k
    induction k with
    | zero => intro _; exact ⟨fun r hr => absurd hr List.not_mem_nil, Nat.le_refl _⟩
    | succ k ih =>
      intro hk
      obtain ⟨i1, i2⟩ := ih (by omega)
      rw [mRk_S]
      by_cases c : mdr m k = true
      · rw [if_pos c, List.append_nil]
        exact ⟨i1, by omega⟩
      · rw [if_neg c]
        refine ⟨fun r hr => (List.mem_append.mp hr).elim (i1 r) (fun z => by rw [List.mem_singleton.mp z]; exact mRl_ok om k), ?_⟩
        rw [gS_app]
        have := (mRl_ok om k).1
        show gS List.length (mRk m k) + ((mRl m k).length + 0) ≤ _
        omega
  have h24 := om.1
  obtain ⟨k1, k2⟩ := key (mnc m) h24
  have k3 := mRk_len m (mnc m)
  exact ⟨k1, by show (mRk m (mnc m)).length ≤ 144; omega, by show gS List.length (mRk m (mnc m)) ≤ 144; omega⟩
/-- a case's row is written for the root -/
theorem rcase_eq {s s0 : Zr} {m : Ml} (om : mOK m) (rl : rLog s0 m) {c W : Nat} {R : Rw} (hc : c < mnc m) (hW : W + 6 < 12000) (hR : R.length < 11000) (h : BL s 0 0 (R ++ [[]]) W) (o : rOnly (sBl 0 0 0) s0 s) :
    zS (zloop (fun ((v16, s17) : Int32 × Zr) =>
          ((rdI s17 1 (nI c)).bind fun x21 =>
          if x21 ≤ v16 then
            some (.inr s17)
          else
            (rdI s17 3 (((6 : Int32) * (nI c)) + v16)).bind fun x22 =>
            (fX6_addName s17 x22).bind fun s23 =>
            some (.inl (v16 + (1 : Int32), s23)) : Option ((Int32 × Zr) ⊕ Zr))) zFU ((0 : Int32), s))
      (fun s' => BL s' 0 0 (R ++ [mRl m c]) (W + mlen m c) ∧ rOnly (sBl 0 0 0) s0 s') := by
  have h24 := om.1
  have l6 := om.2.1 c
  have ll := mRl_len m c
  have e1 := (rl.2.1 c (by omega)).1
  refine zS.up (fun j s' => BL s' 0 0 (R ++ [(mRl m c).take j]) (W + j) ∧ rOnly (sBl 0 0 0) s0 s') 0 (mlen m c) (fun j s' _ hj hJ => ?_) (fun s' hJ => ?_) (Nat.zero_le _) (by omega) ⟨h, o⟩
  · obtain ⟨B, o'⟩ := hJ
    obtain ⟨q1, q2⟩ := mRl_at om hj
    have e3 := rl.2.2 c j (by omega) hj 0 (by omega)
    dsimp only
    rw [rd1 (by omega), Option.bind_some, o' 1 c (by omega), e1, if_neg (nI_nle' (by omega) hj), show (6 : Int32) * nI c + nI j = nI (6 * c + j) from by rw [show (6 : Int32) = nI 6 from rfl, pk_mul, nI_add], rd3 (by omega), Option.bind_some, o' 3 _ (by omega), show s0 3 (6 * c + j) = nI ((mRl m c).getD j 0) from e3.trans q1]
    obtain ⟨s3, t1, t2, t3⟩ := raddn_eq (v := (mRl m c).getD j 0) B (by omega) (by omega)
    rw [t1, Option.bind_some]
    refine zS.s ⟨_, by rw [nI_1], ?_, o'.tr (t3.mono (fun a k z => by omega))⟩
    rw [take_gd (by rw [ll]; exact hj)]
    exact t2
  · obtain ⟨B, o'⟩ := hJ
    dsimp only
    rw [rd1 (by omega), Option.bind_some, o' 1 c (by omega), e1, if_pos (nI_le (Nat.le_refl _) (by omega))]
    rw [List.take_of_length_le (by rw [ll]; exact Nat.le_refl _)] at B
    exact zS.s ⟨_, rfl, B, o'⟩
theorem fnd_nd {V : Nat → Prop} {s : Zr} {N L D : Nat} {nt : Nat → Tr} {par : Nat → Nat} (st : nSq V s N L nt) (hN : N ≤ 200) (hL : L ≤ 20000) (hD : D ≤ 20000) (hp : ∀ z, par z ≤ z) (dn : ∀ x, x < N → fDn s N D nt par x) : ∀ d x, N - x = d → x < N → V x → (nP s x).Nodup ∧ ∀ z, z ∈ nP s x → pD par z x := by
  intro d
  induction d using Nat.strongRecOn with
  | ind d ih =>
    intro x hd hx vx
    obtain ⟨-, -, -, f, y0, c4, ⟨c5, c6, c7⟩, c8⟩ := dn x hx
    have kid : ∀ j, j < tLen (nt x) → nk s x j = y0 + j ∧ V (y0 + j) := fun j hj => by
      have e := nk_at c4 (c8 j hj).1 (by omega) (by omega)
      have := (st.kid hN hL hx vx hj).2.1
      rw [e] at this
      exact ⟨e, this⟩
    have key : ∀ n, n ≤ tLen (nt x) → ((nks s x n).flatMap (nP s)).Nodup ∧ ∀ z, z ∈ (nks s x n).flatMap (nP s) → ∃ j, j < n ∧ pD par z (y0 + j) := by
      intro n
      induction n with
      | zero => intro _; exact ⟨List.nodup_nil, fun z hz => absurd hz List.not_mem_nil⟩
      | succ n ih2 =>
        intro hn
        obtain ⟨i1, i2⟩ := ih2 (by omega)
        obtain ⟨k1, k2⟩ := kid n (by omega)
        obtain ⟨g1, g2⟩ := ih (N - (y0 + n)) (by omega) (y0 + n) rfl (by omega) k2
        have es : nks s x (n + 1) = nks s x n ++ [y0 + n] := by
          show nks s x n ++ [nk s x (0 + n)] = _
          rw [Nat.zero_add, k1]
        rw [es, List.flatMap_append, List.flatMap_cons, List.flatMap_nil, List.append_nil]
        refine ⟨List.nodup_append.mpr ⟨i1, g1, fun a ha b hb hab => ?_⟩, fun z hz => ?_⟩
        · subst hab
          obtain ⟨j, j1, j2⟩ := i2 a ha
          have := pD.one hp j2 (g2 a hb) (c8 j (by omega)).2.2 (c8 n (by omega)).2.2 (by omega) (by omega)
          omega
        · rcases List.mem_append.mp hz with h | h
          · obtain ⟨j, j1, j2⟩ := i2 z h
            exact ⟨j, by omega, j2⟩
          · exact ⟨n, by omega, g2 z h⟩
    obtain ⟨k1, k2⟩ := key _ (Nat.le_refl _)
    rw [nP_eq st hN hL hx vx]
    refine ⟨List.nodup_append.mpr ⟨k1, List.nodup_cons.mpr ⟨List.not_mem_nil, List.nodup_nil⟩, fun a ha b hb hab => ?_⟩, fun z hz => ?_⟩
    · rw [List.mem_singleton.mp hb] at hab
      obtain ⟨j, j1, j2⟩ := k2 a ha
      have := j2.le hp
      omega
    · rcases List.mem_append.mp hz with h | h
      · obtain ⟨j, j1, j2⟩ := k2 z h
        have := j2.up
        rw [(c8 j j1).2.2] at this
        exact this
      · rw [List.mem_singleton.mp h]
        exact ⟨0, rfl⟩
def pFnd (p : Mp) (t : Tr) : Int32 × Mp := if tSz t ≤ 60 ∧ pn p + tSz t ≤ 200 then (nI (pn p + tSz t - 1), pEnt p t) else (-2, p)
theorem nsum_ge (z : Nat → Nat) (a : Nat) : ∀ d, (∀ i, i < d → 1 ≤ z (a + i)) → d ≤ nsum z a d
  | 0, _ => Nat.le_refl _
  | d + 1, h => by
    have h1 := nsum_ge z a d (fun i hi => h i (by omega))
    have h2 := h d (by omega)
    show d + 1 ≤ nsum z a d + z (a + d)
    omega
theorem nsum_one (z : Nat → Nat) (a : Nat) : ∀ d, (∀ i, i < d → z (a + i) = 1) → nsum z a d = d
  | 0, _ => rfl
  | d + 1, h => by
    have h1 := nsum_one z a d (fun i hi => h i (by omega))
    have h2 := h d (by omega)
    show nsum z a d + z (a + d) = d + 1
    omega
abbrev sFn (a k : Nat) : Prop := sFi a k ∨ sMake a k
theorem rfind_eq {s : Zr} {m : Ml} {p : Mp} (om : mOK m) (rl : rLog s m) (rp : rPc s p) (ok : pOK p) : zS (fX6_find s) (fun r => r.1 = (pFnd p (xFnd 12 (mRws m))).1 ∧ rPc r.2 (pFnd p (xFnd 12 (mRws m))).2 ∧ rOnly sFn s r.2) := by
  have h24 := om.1
  have xo := mRws_ok om
  unfold fX6_find
  rw [rclr_eq, Option.bind_some, Option.bind_some, Option.bind_some]
  generalize es : u2 (u2 (u2 (u2 s 0 15 (nI 0)) 0 20 (nI 0)) 0 42 0) 0 45 0 = s1
  have o1 : rOnly (fun a k => a = 0 ∧ (k = 15 ∨ k = 20 ∨ k = 42 ∨ k = 45)) s s1 := by
    rw [← es]
    exact (((rOnly.u (by omega)).tr (rOnly.u (by omega))).tr (rOnly.u (by omega))).tr (rOnly.u (by omega))
  have a15 : s1 0 15 = nI 0 := by rw [← es, u2_n (by omega), u2_n (by omega), u2_n (by omega), u2_s]
  have a20 : s1 0 20 = nI 0 := by rw [← es, u2_n (by omega), u2_n (by omega), u2_s]
  have a42 : s1 0 42 = nI 0 := by rw [← es, u2_n (by omega), u2_s]; exact nI_0.symm
  have a45 : s1 0 45 = nI 0 := by rw [← es, u2_s]; exact nI_0.symm
  obtain ⟨s2, b1, m2, ⟨b3, b4, b5, b6⟩, b7⟩ := rnn_eq (s := s1) (N := 0) (k := 1) (y := -3) (by omega) a15
  refine zS.e b1 ?_
  dsimp only
  obtain ⟨s3, c1, c2, c3⟩ := rbegl_eq (s := s2) (x := 0) (f := 0) (W := 0) (by omega) (by rw [b7 0 42 (by omega)]; exact a42) (by rw [b7 0 45 (by omega)]; exact a45)
  refine zS.e c1 ?_
  have o3 : rOnly sFi s s3 := (o1.mono (fun a k z => by omega)).tr ((b7.mono (fun a k z => by rcases z with z | z <;> omega)).tr (c3.mono (fun a k z => by rcases z with z | z | z | z <;> omega)))
  have rl3 : rLog s3 m := rl.only o3 (by omega) (fun a k _ _ => by omega)
  refine zS.b (R1 := fun t => (∃ W, W ≤ 144 ∧ BL t 0 0 (mRws m) W) ∧ rOnly (sBl 0 0 0) s3 t) (zS.up (fun c t => (∃ W, W ≤ 6 * c ∧ BL t 0 0 (mRk m c) W) ∧ rOnly (sBl 0 0 0) s3 t) 0 (mnc m) (fun c t _ hc hJ => ?_) (fun t hJ => ?_) (Nat.zero_le _) (by omega) ⟨⟨0, Nat.le_refl _, c2⟩, rOnly.rf⟩) (fun t hJ => ?_)
  · obtain ⟨⟨W, w1, B⟩, o⟩ := hJ
    have lk := mRk_len m c
    have l6 := om.2.1 c
    dsimp only
    rw [if_neg (show ¬ t 0 0 ≤ nI c by rw [o 0 0 (by omega), rl3.1]; exact nI_nle' (by omega) hc), rd2 (by omega), Option.bind_some, o 2 c (by omega), (rl3.2.1 c (by omega)).2]
    by_cases d : mdr m c = true
    · rw [if_neg (show ¬ b2 (mdr m c = true) = 0 by rw [b2_t d]; decide), Option.bind_some]
      refine zS.s ⟨_, by rw [nI_1], ⟨W, by omega, ?_⟩, o⟩
      rw [mRk_S, if_pos d, List.append_nil]
      exact B
    · rw [if_pos (show b2 (mdr m c = true) = 0 by rw [b2_f d])]
      obtain ⟨t2, f1, f2, f3⟩ := rbegr_eq (by omega) B (by omega)
      refine zS.b (R1 := fun t' => BL t' 0 0 (mRk m c ++ [mRl m c]) (W + mlen m c) ∧ rOnly (sBl 0 0 0) s3 t') (zS.e f1 (zS.b (rcase_eq om rl3 hc (by omega) (by omega) f2 (o.tr (f3.mono (fun a k z => by rcases z with z | z | z | z <;> omega)))) (fun r hr => zS.s hr))) (fun t' ht' => ?_)
      refine zS.s ⟨_, by rw [nI_1], ⟨W + mlen m c, by omega, ?_⟩, ht'.2⟩
      rw [mRk_S, if_neg d]
      exact ht'.1
  · obtain ⟨⟨W, w1, B⟩, o⟩ := hJ
    dsimp only
    rw [if_pos (show t 0 0 ≤ nI (mnc m) by rw [o 0 0 (by omega), rl3.1]; exact nI_le (Nat.le_refl _) (by omega))]
    exact zS.s ⟨_, rfl, ⟨W, by omega, B⟩, o⟩
  obtain ⟨⟨W, w1, B1, B2, B3, B4, B5⟩, o⟩ := hJ
  have l144 := xo.2.1
  have ot : rOnly sFi s t := o3.tr (o.mono (fun a k z => by rcases z with z | z | z | z <;> omega))
  have J0 : fInv t 0 1 0 (mRws m).length W (fun _ => xFnd 12 (mRws m)) (fun _ => 0) := by
    have pd : nPd t 0 (mRws m).length W 0 (mRws m) := ⟨?_, ?_, ⟨0, ?_, Nat.le_refl _⟩, 0, B1, B2, by omega, B5.rb⟩
    refine ⟨⟨?_, ?_, by rw [B3, Nat.zero_add], B4⟩, ⟨by omega, by omega, by omega, by omega, Nat.le_refl _, by omega⟩, fun y hy => ?_, ?_, fun y => Nat.zero_le _⟩
    · rw [o 0 15 (by omega), c3 0 15 (by omega)]; exact m2
    · rw [o 0 20 (by omega), c3 0 20 (by omega), b7 0 20 (by omega)]; exact a20
    · have y0 : y = 0 := by omega
      subst y0
      exact Or.inr ⟨Nat.le_refl _, mRws m, 12, xo, pd, cN_12 _, rfl⟩
    · show 0 + fWt t 0 _ 0 = _
      rw [Nat.zero_add]
      exact if_neg (fun z => z.elim (Nat.lt_irrefl _) (pd.n1 xo))
    · rw [o 14 0 (by omega), c3 14 0 (by omega)]; exact b4
    · rw [o 16 0 (by omega), c3 16 0 (by omega)]; exact b6
    · rw [o 15 0 (by omega), c3 15 0 (by omega), b5]; exact a20
  refine zS.b (R1 := fun r => ∃ x N D F W nt par, fInv r x N D F W nt par ∧ nt 0 = xFnd 12 (mRws m) ∧ rOnly sFi s r ∧ (x = N ∨ 60 < N)) (zS.gen (fun k (r : Zr) => (nI k, r)) (fun k r => ∃ N D F W nt par, fInv r k N D F W nt par ∧ nt 0 = xFnd 12 (mRws m) ∧ rOnly sFi s r) 0 75 (fun k r _ hk hJ => ?_) (fun r hJ => ?_) (Nat.zero_le _) (by omega) (x0 := t) ⟨1, 0, _, W, _, _, J0, rfl, ot⟩) (fun r hr => ?_)
  · obtain ⟨N, D, F, W, nt, par, J, e, o⟩ := hJ
    obtain ⟨a1, a2, a3, a4⟩ := J.1
    obtain ⟨b1, b2, b3, b4, b5, b6⟩ := J.2.1
    dsimp only
    by_cases d1 : N ≤ k
    · rw [if_pos (show r 0 15 ≤ nI k by rw [a1]; exact nI_le d1 (by omega))]
      exact zS.s (Or.inr ⟨_, rfl, k, N, D, F, W, nt, par, J, e, o, Or.inl (by omega)⟩)
    · rw [if_neg (show ¬ r 0 15 ≤ nI k by rw [a1]; exact nI_nle' (by omega) (by omega))]
      by_cases d2 : 60 < N
      · rw [if_pos (show (60 : Int32) < r 0 15 by rw [a1]; exact nI_lt (a := 60) d2 (by omega))]
        exact zS.s (Or.inr ⟨_, rfl, k, N, D, F, W, nt, par, J, e, o, Or.inr d2⟩)
      · rw [if_neg (show ¬ (60 : Int32) < r 0 15 by rw [a1]; exact nI_nlt (a := 60) (by omega) (by omega)), rd32 (by omega), Option.bind_some]
        have hkN : k < N := by omega
        by_cases d3 : r 32 k = -1
        · rw [if_pos (show r 32 k < 0 by rw [d3]; decide), Option.bind_some]
          exact zS.s (Or.inl ⟨r, by rw [nI_1], N, D, F, W, nt, par, J.skip hkN d3, e, o⟩)
        · have pos : ¬ r 32 k < 0 := by
            obtain ⟨l, n, ok, pd, -⟩ : fPn r D F W nt k := (J.2.2.1 k hkN).elim (fun z => (z.1.elim (Nat.lt_irrefl _) d3).elim) (fun z => z.2)
            obtain ⟨-, -, -, f, -, q, -⟩ := pd
            have := ok.2.1
            rw [q]
            exact nI_pos (by omega)
          rw [if_neg pos]
          refine zS.b (zS.b (rsettle_eq J hkN (by omega) d3) (fun r2 hr2 => zS.s hr2)) (fun r2 hr2 => ?_)
          obtain ⟨N', D', F', W', nt', par', J', -, e', o'⟩ := hr2
          exact zS.s (Or.inl ⟨r2, by rw [nI_1], N', D', F', W', nt', par', J', e'.trans e, o.tr o'⟩)
  · obtain ⟨N, D, F, W, nt, par, J, e, o⟩ := hJ
    have := J.2.1
    omega
  obtain ⟨x, N, D, F, W, nt, par, J, e, o, hx⟩ := hr
  obtain ⟨⟨a1, a2, a3, a4⟩, ⟨b1, b2, b3, b4, b5, b6⟩, dn, sz, hp⟩ := J
  have rp' : rPc r p := rp.only o (by omega) (by omega) (fun a k _ _ => by omega)
  rw [e] at sz
  unfold pFnd
  by_cases d : N ≤ 60
  · have ex : x = N := by omega
    subst ex
    have w1 := nsum_one (fWt r x nt) 0 x (fun i hi => if_pos (Or.inl (by omega)))
    have dn' : ∀ y, y < x → fDn r x D nt par y := fun y hy => (dn y hy).elim (fun z => z.2) (fun z => absurd z.1 (by omega))
    have st : nSq (fun y => tOK (nt y)) r x D nt := fun y hy vy => by
      obtain ⟨q1, q2, q3, f, y0, q4, ⟨q5, q6, q7⟩, q8⟩ := dn' y hy
      refine ⟨q1, q2, q3, f, q4, q5, fun j hj => ?_⟩
      obtain ⟨t1, t2, t3⟩ := q8 j hj
      exact ⟨y0 + j, ⟨by omega, by show tOK (nt (y0 + j)); rw [t2]; exact tKid_OK _ _ vy.1 hj⟩, by omega, t1, t2⟩
    have v0 : tOK (nt 0) := by rw [e]; exact (xFnd_ok 12 _ xo).1
    rw [if_pos (show r 0 15 ≤ (60 : Int32) by rw [a1]; exact nI_le (b := 60) d (by omega))]
    refine zS.b (R1 := fun q => q.1 = (if tSz (nt 0) ≤ 60 ∧ pn p + tSz (nt 0) ≤ 200 then nI (pn p + tSz (nt 0) - 1) else -2) ∧ rPc q.2 (if tSz (nt 0) ≤ 60 ∧ pn p + tSz (nt 0) ≤ 200 then pEnt p (nt 0) else p) ∧ rOnly sMake r q.2) (zS.b (rmake_eq rp' ok st (by omega) (by omega) (fun y _ vy => vy) (r := 0) (by omega) v0 (by rw [e]; omega) (fnd_nd st (by omega) (by omega) (by omega) hp dn' _ 0 rfl (by omega) v0).1) (fun q hq => zS.s hq)) (fun q hq => ?_)
    obtain ⟨v, r2⟩ := q
    obtain ⟨g1, g2, g3⟩ := hq
    dsimp only at g1 g2 g3 ⊢
    rw [e] at g1 g2
    refine zS.s ⟨?_, ?_, (o.mono (fun a k z => Or.inl z)).tr (g3.mono (fun a k z => Or.inr z))⟩
    · rw [g1]; split <;> rfl
    · split
      · rename_i h; rw [if_pos h] at g2; exact g2
      · rename_i h; rw [if_neg h] at g2; exact g2
  · have w1 := nsum_ge (fWt r x nt) 0 N (fun i hi => by
      unfold fWt
      by_cases c : 0 + i < x ∨ r 32 (0 + i) = -1
      · rw [if_pos c]; exact Nat.le_refl _
      · rw [if_neg c]; have := tSz_1 (nt (0 + i)); omega)
    rw [if_neg (show ¬ r 0 15 ≤ (60 : Int32) by rw [a1]; exact nI_nle' (a := 60) (by omega) (by omega)), Option.bind_some]
    rw [if_neg (fun z => by omega)]
    exact zS.s ⟨rfl, rp', o.mono (fun a k z => Or.inl z)⟩
