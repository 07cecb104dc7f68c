/-! both finders: the law's loop -/
noncomputable def lwS (c : Nat × Nat) (sc : Nat × (Nat → Int32)) (r1 r5 : Option Nat) (v9 : Int32) (h10 : Zh) : Option ((Int32 × Zh) ⊕ (Zh ⊕ (Int32 × Zh))) :=
    if (60 : Int32) ≤ v9 then
      some (.inr (.inl h10))
    else
      (fL_cell sc v9).bind fun x14 =>
      (fL_asked h10 r5 (x14 >>> ((6 : Int32) &&& 31))).bind fun ((x15, h16) : Int32 × Zh) =>
      if x15 = 0 then
        some (.inr (.inr ((0 : Int32), h16)))
      else
        (fL_act c h16 r1 x14).bind fun ((x17, h18) : Int32 × Zh) =>
        (fL_act c h18 r5 x14).bind fun ((x19, h20) : Int32 × Zh) =>
        if x17 = x19 then
          (zloop (fun (v21 : Int32) =>
            (if (6 : Int32) ≤ v21 then
              some (.inr (.inl ()))
            else
              (zob h20 r1 7).bind fun p24 =>
              (fX5_count h20 (some p24) v21).bind fun x25 =>
              (zob h20 r5 7).bind fun p26 =>
              (fX5_count h20 (some p26) v21).bind fun x27 =>
              if x25 = x27 then
                some (.inl (v21 + (1 : Int32)))
              else
                some (.inr (.inr ((0 : Int32), h20))) : Option (Int32 ⊕ (Unit ⊕ (Int32 × Zh))))) zFU (0 : Int32)).bind fun (q : (Unit ⊕ (Int32 × Zh))) => match q with
          | .inr t => some (.inr (.inr t))
          | .inl _ =>
            (fL_some (x14 >>> ((4 : Int32) &&& 31)) (6 : Int32)).bind fun x28 =>
            (fL_some (x14 >>> ((7 : Int32) &&& 31)) (40 : Int32)).bind fun x29 =>
            (zob h20 r1 7).bind fun p30 =>
            (fX5_price h20 (some p30) x28 x29).bind fun ((x31, h32) : Int32 × Zh) =>
            (zob h32 r5 7).bind fun p33 =>
            (fX5_price h32 (some p33) x28 x29).bind fun ((x34, h35) : Int32 × Zh) =>
            if x31 = x34 then
              if x31 < 0 then
                some (.inl (v9 + (1 : Int32), h35))
              else
                (zob h35 r1 7).bind fun p36 =>
                (fX5_both h35 (some p36) x28 x29).bind fun ((x37, h38) : Int32 × Zh) =>
                (zloop (fun ((v39, v40) : Int32 × Int32) =>
                  (if (6 : Int32) ≤ v40 then
                    some (.inr v39)
                  else
                    some (.inl (v39 + ((x37 >>> (v40 &&& 31)) &&& (1 : Int32)), v40 + (1 : Int32))) : Option ((Int32 × Int32) ⊕ Int32))) zFU ((0 : Int32), (0 : Int32))).bind fun (w41 : Int32) =>
                (zob h38 r1 7).bind fun p44 =>
                (fX5_told h38 (some p44) x28 (-1 : Int32) (0 : Int32)).bind fun x45 =>
                (zob h38 r1 7).bind fun p46 =>
                (fX5_shortest h38 (some p46) x29).bind fun x47 =>
                if (x45 + x47) < x31 then
                  some (.inr (.inr ((0 : Int32), h38)))
                else
                  if x31 < (x45 - w41) then
                    some (.inr (.inr ((0 : Int32), h38)))
                  else
                    if w41 ≤ x45 then
                      some (.inl (v9 + (1 : Int32), h38))
                    else
                      some (.inr (.inr ((0 : Int32), h38)))
            else
              some (.inr (.inr ((0 : Int32), h35)))
        else
          some (.inr (.inr ((0 : Int32), h20)))
def TwF (X Y c1 : Nat) (h : Zh) (m1 : Ml) (p1 : Mp) (m2 : Ml) (p2 : Mp) (A B : Nat) : Prop := ∃ ca pa cb pb, Fi h X ca pa m1 p1 ∧ Fi h Y cb pb m2 p2 ∧ Di ca cb m1 m2 pa pb p1 p2 ∧ (c1 < zn h ∧ zk h c1 = 106) ∧ zn h + (pot h pa p1 + pot h pb p2) ≤ A ∧ zs h + 64 * (pot h pa p1 + pot h pb p2) ≤ B
section TT
variable {X Y c1 : Nat} {h : Zh} {m1 m2 m' : Ml} {p1 p2 p' : Mp} {A B a b : Nat} {o : Option (Int32 × Zh)} {v : Int32}
theorem TwF.sw (T : TwF X Y c1 h m1 p1 m2 p2 A B) : TwF Y X c1 h m2 p2 m1 p1 A B := by
  obtain ⟨ca, pa, cb, pb, F, E, D, hc, n, s⟩ := T
  exact ⟨cb, pb, ca, pa, E, F, D.sw, hc, by omega, by omega⟩
theorem TwF.up {A' B' : Nat} (T : TwF X Y c1 h m1 p1 m2 p2 A B) (hA : A ≤ A') (hB : B ≤ B') : TwF X Y c1 h m1 p1 m2 p2 A' B' := by
  obtain ⟨ca, pa, cb, pb, F, E, D, hc, n, s⟩ := T
  exact ⟨ca, pa, cb, pb, F, E, D, hc, by omega, by omega⟩
theorem TwF.fx (T : TwF X Y c1 h m1 p1 m2 p2 A B) : ∃ ca pa, Fi h X ca pa m1 p1 := by
  obtain ⟨ca, pa, cb, pb, F, -⟩ := T
  exact ⟨ca, pa, F⟩
theorem TwF.fy (T : TwF X Y c1 h m1 p1 m2 p2 A B) : ∃ cb pb, Fi h Y cb pb m2 p2 := by
  obtain ⟨ca, pa, cb, pb, -, E, -⟩ := T
  exact ⟨cb, pb, E⟩
theorem TwF.gx (d : X + 94 ≤ Y ∨ Y + 94 ≤ X) (T : TwF X Y c1 h m1 p1 m2 p2 A B) (O : ∀ ca pa, Fi h X ca pa m1 p1 → c1 < zn h ∧ zk h c1 = 106 → OpW X h o v ca pa m1 p1 m' p' a b) : ∃ h', o = some (v, h') ∧ TwF X Y c1 h' m' p' m2 p2 (A + a) (B + b) := by
  obtain ⟨ca, pa, cb, pb, F, E, D, hc, n, s⟩ := T
  obtain ⟨h', ca', pa', e, g, F', N, n', s'⟩ := O ca pa F hc
  obtain ⟨E', ne⟩ := g.keep d F E D
  have pe : pot h' pb p2 = pot h pb p2 := by unfold pot; rw [ne]
  exact ⟨h', e, ca', pa', cb, pb, F', E', D.nw E N.1 N.2, ⟨Nat.lt_of_lt_of_le hc.1 g.1.1, (g.2 c1 hc.1).1.1.trans hc.2⟩, by rw [pe]; omega, by rw [pe]; omega⟩
theorem TwF.gy (d : X + 94 ≤ Y ∨ Y + 94 ≤ X) (T : TwF X Y c1 h m1 p1 m2 p2 A B) (O : ∀ cb pb, Fi h Y cb pb m2 p2 → c1 < zn h ∧ zk h c1 = 106 → OpW Y h o v cb pb m2 p2 m' p' a b) : ∃ h', o = some (v, h') ∧ TwF X Y c1 h' m1 p1 m' p' (A + a) (B + b) := by
  obtain ⟨h', e, T'⟩ := TwF.gx d.symm T.sw O
  exact ⟨h', e, T'.sw⟩
end TT
theorem cell_v {sc : Nat × (Nat → Int32)} (hL : sc.1 ≤ 260) {k : Nat} (hk : k < 60) : ∃ x, fL_cell sc (nI k) = some x := by
  unfold fL_cell
  have e : Int32.ofNat sc.1 = nI sc.1 := rfl
  rw [e]
  by_cases c : sc.1 ≤ k
  · rw [if_pos (nI_le c (by omega))]
    exact ⟨_, rfl⟩
  · rw [if_neg (nI_nle' (by omega) (by omega))]
    unfold zix
    rw [if_neg (nI_in' (by omega) (by omega))]
    exact ⟨_, rfl⟩
theorem bits_v {q : Nat} (hq : q < 64) : zloop (fun ((v39, v40) : Int32 × Int32) => (if (6 : Int32) ≤ v40 then some (.inr v39) else some (.inl (v39 + (((nI q) >>> (v40 &&& 31)) &&& (1 : Int32)), v40 + (1 : Int32))) : Option ((Int32 × Int32) ⊕ Int32))) zFU ((0 : Int32), (0 : Int32)) = some (nI (bSum q 6)) := by
  refine zloop_eq (fun j => (nI (bSum q j), nI j)) 6 (fun j hj => ?_) ?_ (by rw [zFU_v]; omega)
  · dsimp only
    rw [if_neg (show ¬ (6 : Int32) ≤ nI j from nI_nle' (b := 6) (by omega) hj), bt_bit q hq j hj, nI_add, nI_1]
    rfl
  · dsimp only
    rw [if_pos (show (6 : Int32) ≤ nI 6 from nI_le (Nat.le_refl 6) (by omega))]
theorem counts_v {X Y : Nat} {h3 : Zh} {ca pa cb pb : Nat → Nat} {m : Ml} {p : Mp} (F : Fi h3 X ca pa m p) (E : Fi h3 Y cb pb m p) : zloop (fun (v21 : Int32) => (if (6 : Int32) ≤ v21 then some (.inr (.inl ())) else (zob h3 (some X) 7).bind fun p24 => (fX5_count h3 (some p24) v21).bind fun x25 => (zob h3 (some Y) 7).bind fun p26 => (fX5_count h3 (some p26) v21).bind fun x27 => if x25 = x27 then some (.inl (v21 + (1 : Int32))) else some (.inr (.inr ((0 : Int32), h3))) : Option (Int32 ⊕ (Unit ⊕ (Int32 × Zh))))) zFU (0 : Int32) = some (.inl ()) := by
  refine zloop_eq (fun j => nI j) 6 (fun j hj => ?_) ?_ (by rw [zFU_v]; omega)
  · try dsimp only
    rw [if_neg (show ¬ (6 : Int32) ≤ nI j from nI_nle' (b := 6) (by omega) hj), F.ob, E.ob, Option.bind_some, ccount_eq F.1 F.2.1 F.2.2.2.1, F.2.2.1.1, Option.bind_some, Option.bind_some, ccount_eq E.1 E.2.1 E.2.2.2.1, E.2.2.1.1, Option.bind_some, if_pos rfl, nI_1]
  · try dsimp only
    rw [if_pos (show (6 : Int32) ≤ nI 6 from nI_le (Nat.le_refl 6) (by omega))]
set_option maxHeartbeats 4000000 in
theorem step_ok {X Y c1 c2 : Nat} {h : Zh} {m : Ml} {p : Mp} {A B k : Nat} {sc : Nat × (Nat → Int32)} (hL : sc.1 ≤ 260) (d : X + 94 ≤ Y ∨ Y + 94 ≤ X) (T : TwF X Y c1 h m p m p A B) (hk : k < 60) : ∃ h' m' p', lwS (c1, c2) sc (some X) (some Y) (nI k) h = some (.inl (nI (k + 1), h')) ∧ TwF X Y c1 h' m' p' m' p' (A + 2010) (B + 27000) := by
  obtain ⟨x, ex⟩ := cell_v hL hk
  obtain ⟨v, m', p', act⟩ := act_ok m p x
  obtain ⟨h1, e1, T1⟩ := TwF.gy d T (fun cb pb F _ => asked_ok F (x >>> ((6 : Int32) &&& 31)))
  obtain ⟨h2, e2, TwF'⟩ := TwF.gx d T1 (fun ca pa F hc => act X h1 ca pa c1 c2 F hc)
  obtain ⟨h3, e3, T3⟩ := TwF.gy d TwF' (fun cb pb F hc => act Y h2 cb pb c1 c2 F hc)
  obtain ⟨j1, -, s1⟩ := some_v (x >>> ((4 : Int32) &&& 31)) (d := 6) (by omega) (by omega)
  obtain ⟨j2, hj2, s2⟩ := some_v (x >>> ((7 : Int32) &&& 31)) (d := 40) (by omega) (by omega)
  have s1 : fL_some (x >>> ((4 : Int32) &&& 31)) (6 : Int32) = some (nI j1) := s1
  have s2 : fL_some (x >>> ((7 : Int32) &&& 31)) (40 : Int32) = some (nI j2) := s2
  obtain ⟨ca3, pa3, F3⟩ := T3.fx
  obtain ⟨cb3, pb3, E3⟩ := T3.fy
  have cl := counts_v F3 E3
  obtain ⟨h4, e4, T4⟩ := TwF.gx d T3 (fun ca pa F _ => ow_price F (nI j1) (nI j2))
  obtain ⟨cb4, pb4, E4⟩ := T4.fy
  obtain ⟨h5, e5, T5⟩ := TwF.gy d T4 (fun cb pb F _ => ow_price F (nI j1) (nI j2))
  obtain ⟨ca5, pa5, F5⟩ := T5.fx
  obtain ⟨h6, e6, T6⟩ := TwF.gx d T5 (fun ca pa F _ => ow_both F (nI j1) (nI j2))
  obtain ⟨ca6, pa6, F6⟩ := T6.fx
  have ok := F6.2.2.2.2
  have om := F6.2.2.2.1
  have h24 := om.1
  have h200 := ok.1
  have goal : ∀ h', TwF X Y c1 h' m' p' m' p' (A + 10 + 1000 + 1000) (B + 1000 + 13000 + 13000) → lwS (c1, c2) sc (some X) (some Y) (nI k) h = some (.inl (nI k + (1 : Int32), h')) → ∃ h' m' p', lwS (c1, c2) sc (some X) (some Y) (nI k) h = some (.inl (nI (k + 1), h')) ∧ TwF X Y c1 h' m' p' m' p' (A + 2010) (B + 27000) := fun h' T' e => ⟨h', m', p', by rw [e, nI_1], T'.up (by omega) (by omega)⟩
  by_cases neg : pPrice m' p' (nI j1) (nI j2) < 0
  · refine goal h5 T5 ?_
    unfold lwS
    rw [if_neg (show ¬ (60 : Int32) ≤ nI k from nI_nle' (b := 60) (by omega) hk), ex, Option.bind_some, e1, Option.bind_some]
    dsimp only
    rw [if_neg (by decide), e2, Option.bind_some]
    dsimp only
    rw [e3, Option.bind_some]
    dsimp only
    rw [if_pos rfl, cl, Option.bind_some]
    dsimp only
    rw [s1, Option.bind_some, s2, Option.bind_some, F3.ob, Option.bind_some, e4, Option.bind_some]
    dsimp only
    rw [E4.ob, Option.bind_some, e5, Option.bind_some]
    dsimp only
    rw [if_pos rfl, if_pos neg]
  · have C : (mnm (nI j1) (mnc m') ∧ mdr m' (nI j1).toNatClampNeg = false) ∧ mnm (nI j2) (pn p') := by
      by_cases C : (mnm (nI j1) (mnc m') ∧ mdr m' (nI j1).toNatClampNeg = false) ∧ mnm (nI j2) (pn p')
      · exact C
      · exfalso
        apply neg
        unfold pPrice
        rw [if_neg C]
        decide
    obtain ⟨-, l1⟩ := mnm_nI C.1.1
    obtain ⟨-, l2⟩ := mnm_nI C.2
    obtain ⟨b1, b2, b3, b4, b5⟩ := pCst_b om ok (k := (nI j1).toNatClampNeg) l2
    have hl6 := om.2.1 (nI j1).toNatClampNeg
    have eP : pPrice m' p' (nI j1) (nI j2) = nI (pCst m' p' (nI j1).toNatClampNeg (nI j2).toNatClampNeg).1 := by
      unfold pPrice
      rw [if_pos C]
    have eB : pBoth m' p' (nI j1) (nI j2) = nI (pCst m' p' (nI j1).toNatClampNeg (nI j2).toNatClampNeg).2 := by
      unfold pBoth
      rw [if_pos C]
    have eT : mTold m' (nI j1) (-1) 0 = nI (mlen m' (nI j1).toNatClampNeg) := by
      unfold mTold
      rw [if_pos C.1.1, if_pos rfl, if_pos rfl]
    have eS : pShort p' (nI j2) = nI (tFw (pT p' (nI j2).toNatClampNeg)) := by
      unfold pShort
      rw [if_pos C.2]
    have bv := bits_v b4
    rw [← eB] at bv
    refine goal h6 T6 ?_
    unfold lwS
    rw [if_neg (show ¬ (60 : Int32) ≤ nI k from nI_nle' (b := 60) (by omega) hk), ex, Option.bind_some, e1, Option.bind_some]
    dsimp only
    rw [if_neg (by decide), e2, Option.bind_some]
    dsimp only
    rw [e3, Option.bind_some]
    dsimp only
    rw [if_pos rfl, cl, Option.bind_some]
    dsimp only
    rw [s1, Option.bind_some, s2, Option.bind_some, F3.ob, Option.bind_some, e4, Option.bind_some]
    dsimp only
    rw [E4.ob, Option.bind_some, e5, Option.bind_some]
    dsimp only
    rw [if_pos rfl, if_neg neg, F5.ob, Option.bind_some, e6, Option.bind_some]
    dsimp only
    rw [bv, Option.bind_some, F6.ob, Option.bind_some, ctold_eq F6.1 F6.2.1 om, Option.bind_some, Option.bind_some, cshort_eq F6.1 F6.2.2.1.2 F6.2.2.1.1 ok, Option.bind_some, eT, eS, eP, nI_add, if_neg (nI_nlt b1 (by omega)), pk_sub b3, if_neg (nI_nlt (by omega) (by omega)), if_pos (nI_le b3 (by omega))]
