/-! the order of trees -/
def tSg (a b : Nat) : Int := if a < b then -1 else if a = b then 0 else 1
def tCk : Tr → Tr → Int
  | .op t k, .op t' k' => if tCk t t' ≠ 0 then tCk t t' else if tLab k ≠ tLab k' then tSg (tLab k) (tLab k') else if tLen k ≠ tLen k' then tSg (tLen k) (tLen k') else tCk k k'
  | .var _, _ => 0
  | .op _ _, .var _ => 0
def tCmp (t u : Tr) : Int := if tLab t ≠ tLab u then tSg (tLab t) (tLab u) else if tLen t ≠ tLen u then tSg (tLen t) (tLen u) else tCk t u
theorem tCk_op (t k t' k' : Tr) : tCk (.op t k) (.op t' k') = if tCk t t' ≠ 0 then tCk t t' else tCmp k k' := by
  unfold tCmp
  rfl
theorem tSg_0 {a b : Nat} : tSg a b = 0 ↔ a = b := by
  unfold tSg
  by_cases h : a < b
  · rw [if_pos h]; exact ⟨fun z => by omega, fun z => by omega⟩
  · rw [if_neg h]
    by_cases e : a = b
    · rw [if_pos e]; exact ⟨fun _ => e, fun _ => rfl⟩
    · rw [if_neg e]; exact ⟨fun z => by omega, fun z => absurd z e⟩
theorem tCk_0 : ∀ t u : Tr, tLab t = tLab u → tLen t = tLen u → (tCk t u = 0 ↔ t = u)
  | .var x, .var y, h, _ => by
    have h' : x = y := h
    subst h'
    exact ⟨fun _ => rfl, fun _ => by unfold tCk; rfl⟩
  | .var _, .op _ _, _, h => by
    have h' : 0 = _ + 1 := h
    omega
  | .op _ _, .var _, _, h => by
    have h' : _ + 1 = 0 := h
    omega
  | .op t k, .op t' k', h1, h2 => by
    have h1' : tLab t = tLab t' := h1
    have h2' : tLen t + 1 = tLen t' + 1 := h2
    have a := tCk_0 t t' h1' (by omega)
    rw [tCk_op]
    unfold tCmp
    by_cases c1 : tCk t t' = 0
    · rw [if_neg (by omega)]
      by_cases c2 : tLab k = tLab k'
      · rw [if_neg (by omega)]
        by_cases c3 : tLen k = tLen k'
        · rw [if_neg (by omega)]
          have b := tCk_0 k k' c2 c3
          refine ⟨fun z => ?_, fun z => ?_⟩
          · rw [a.mp c1, b.mp z]
          · cases z; exact b.mpr rfl
        · rw [if_pos c3]
          refine ⟨fun z => absurd (tSg_0.mp z) c3, fun z => ?_⟩
          cases z; exact absurd rfl c3
      · rw [if_pos c2]
        refine ⟨fun z => absurd (tSg_0.mp z) c2, fun z => ?_⟩
        cases z; exact absurd rfl c2
    · rw [if_pos c1]
      refine ⟨fun z => absurd z c1, fun z => ?_⟩
      cases z; exact absurd (a.mpr rfl) c1
theorem tCmp_0 (t u : Tr) : tCmp t u = 0 ↔ t = u := by
  unfold tCmp
  by_cases c2 : tLab t = tLab u
  · rw [if_neg (by omega)]
    by_cases c3 : tLen t = tLen u
    · rw [if_neg (by omega)]
      exact tCk_0 t u c2 c3
    · rw [if_pos c3]
      refine ⟨fun z => absurd (tSg_0.mp z) c3, fun z => ?_⟩
      cases z; exact absurd rfl c3
  · rw [if_pos c2]
    refine ⟨fun z => absurd (tSg_0.mp z) c2, fun z => ?_⟩
    cases z; exact absurd rfl c2
theorem tCk_00 (t u : Tr) : tCk (tPre t 0) (tPre u 0) = 0 := by
  rw [tPre_0, tPre_0]
  unfold tCk
  rfl
theorem tCk_S {t u : Tr} {j : Nat} (h : j < tLen t) (h' : j < tLen u) : tCk (tPre t (j + 1)) (tPre u (j + 1)) = if tCk (tPre t j) (tPre u j) ≠ 0 then tCk (tPre t j) (tPre u j) else tCmp (tKid t j) (tKid u j) := by
  rw [tPre_S t j h, tPre_S u j h', tCk_op]
theorem tCk_on {t u : Tr} (e : tLen t = tLen u) {c : Int} (hc : c ≠ 0) : ∀ d j, j + d = tLen t → tCk (tPre t j) (tPre u j) = c → tCk t u = c := by
  intro d
  induction d with
  | zero =>
    intro j hj h
    have h1 : j = tLen t := by omega
    subst h1
    rw [tPre_all] at h
    rw [e, tPre_all] at h
    exact h
  | succ d ih =>
    intro j hj h
    refine ih (j + 1) (by omega) ?_
    rw [tCk_S (by omega) (by omega), h, if_pos hc]
/-- the sign as an int -/
def tI (c : Int) : Int32 := if c = 0 then 0 else if c < 0 then -1 else 1
theorem tI_0 {c : Int} : tI c = 0 ↔ c = 0 := by
  unfold tI
  by_cases h : c = 0
  · rw [if_pos h]; exact ⟨fun _ => h, fun _ => rfl⟩
  · rw [if_neg h]
    by_cases e : c < 0
    · rw [if_pos e]; exact ⟨fun z => absurd z (by decide), fun z => absurd z h⟩
    · rw [if_neg e]; exact ⟨fun z => absurd z (by decide), fun z => absurd z h⟩
theorem tI_n {c : Int} : tI c < 0 ↔ c < 0 := by
  unfold tI
  by_cases h : c = 0
  · rw [if_pos h]; exact ⟨fun z => absurd z (by decide), fun z => by omega⟩
  · rw [if_neg h]
    by_cases e : c < 0
    · rw [if_pos e]; exact ⟨fun _ => e, fun _ => by decide⟩
    · rw [if_neg e]; exact ⟨fun z => absurd z (by decide), fun z => absurd z e⟩
theorem ccmp_eq (h : Zh) {a b : Nat} (ha : a < 2 ^ 31) (hb : b < 2 ^ 31) : fJ6_compare_7cf53 h (nI a) (nI b) = some (tI (tSg a b)) := by
  unfold fJ6_compare_7cf53 tSg
  by_cases c1 : b ≤ a
  · rw [if_pos (nI_le c1 ha)]
    by_cases c2 : a = b
    · rw [if_pos (by rw [c2]), if_neg (by omega), if_pos c2]; rfl
    · rw [if_neg (fun z => c2 ((nI_eq ha hb).mp z)), if_neg (by omega), if_neg c2]; rfl
  · rw [if_neg (nI_nle' hb (by omega)), if_pos (by omega)]; rfl
theorem tKd_eq {a b : Nat} (ha : a ≤ 16) (hb : b ≤ 16) : nI (tKd a) = nI (tKd b) ↔ (a < 12 ∧ b < 12) ∨ a = b := by
  unfold tKd
  have e := nI_eq (a := if a < 12 then 0 else a - 11) (b := if b < 12 then 0 else b - 11) (by split <;> omega) (by split <;> omega)
  rw [e]
  by_cases c1 : a < 12
  · rw [if_pos c1]
    by_cases c2 : b < 12
    · rw [if_pos c2]; exact ⟨fun _ => Or.inl ⟨c1, c2⟩, fun _ => rfl⟩
    · rw [if_neg c2]; omega
  · rw [if_neg c1]
    by_cases c2 : b < 12
    · rw [if_pos c2]; omega
    · rw [if_neg c2]; omega
theorem tKd_sg {a b : Nat} (ha : a ≤ 16) (hb : b ≤ 16) (h : ¬ ((a < 12 ∧ b < 12) ∨ a = b)) : tSg (tKd a) (tKd b) = tSg a b := by
  unfold tSg tKd
  by_cases c1 : a < 12
  · rw [if_pos c1]
    by_cases c2 : b < 12
    · exact absurd (Or.inl ⟨c1, c2⟩) h
    · rw [if_neg c2, if_pos (by omega), if_pos (by omega)]
  · rw [if_neg c1]
    by_cases c2 : b < 12
    · rw [if_pos c2, if_neg (by omega), if_neg (by omega), if_neg (by omega), if_neg (by omega)]
    · rw [if_neg c2]
      by_cases c3 : a < b
      · rw [if_pos (by omega), if_pos c3]
      · rw [if_neg (by omega), if_neg (by omega), if_neg c3, if_neg (by omega)]
theorem tNm_eq {a b : Nat} (h : (a < 12 ∧ b < 12) ∨ a = b) : tNm a = tNm b ↔ a = b := by
  rcases h with ⟨h1, h2⟩ | h
  · unfold tNm
    rw [if_pos h1, if_pos h2]
    exact nI_eq (by omega) (by omega)
  · rw [h]
    exact ⟨fun _ => rfl, fun _ => rfl⟩
/-- the class's order -/
theorem corder_eq {P Q : Nat → Prop} {h : Zh} : ∀ n d (t u : Tr) (v v' w w' : Nat) (l l' : List Nat), tHt t < n → d + tHt t ≤ 40 → tSz t < 90000 → tSz u < 90000 → tG t → tG u → zNd P h v w t → zFo P h t w l → zNd Q h v' w' u → zFo Q h u w' l' →
    fX5_order n h (some v) (some v') (nI d) = some (tI (tCmp t u)) := by
  intro n
  induction n with
  | zero => intro d t u v v' w w' l l' h1; omega
  | succ n ih =>
    intro d t u v v' w w' l l' h1 h2 s1 s2 g1 g2 nd f nd' f'
    have lab1 := tG_lab t g1
    have lab2 := tG_lab u g2
    have z1 := tSz_1 t
    have z2 := tSz_1 u
    obtain ⟨⟨-, a2, a3, a4, a5, a6, a7, a8⟩, -, b2, b3, b4⟩ := nd
    obtain ⟨⟨-, c2, c3, c4, c5, c6, c7, c8⟩, -, d2, d3, d4⟩ := nd'
    show fX5_orderB (fX5_order n) h (some v) (some v') (nI d) = _
    unfold fX5_orderB tCmp
    rw [zfI_v (ci := 3) a2 a3, a4, Option.bind_some, zfI_v (ci := 3) c2 c3, c4, Option.bind_some]
    by_cases k1 : (tLab t < 12 ∧ tLab u < 12) ∨ tLab t = tLab u
    · rw [if_pos ((tKd_eq lab1 lab2).mpr k1), zfI_v (ci := 3) a2 a3, a5, Option.bind_some, zfI_v (ci := 3) c2 c3, c5, Option.bind_some]
      by_cases k2 : tLab t = tLab u
      · rw [if_pos ((tNm_eq k1).mpr k2), if_neg (show ¬ (tLab t ≠ tLab u) by omega), zfP_v (ci := 3) a2 a3, a6, Option.bind_some, zaL_v (t := 3) b2 b3, b4, Option.bind_some, zfP_v (ci := 3) c2 c3, c6, Option.bind_some, zaL_v (t := 3) d2 d3, d4, Option.bind_some]
        by_cases k3 : tLen t = tLen u
        · rw [if_pos (show nI (tLen t) = nI (tLen u) by rw [k3]), if_neg (show ¬ (tLen t ≠ tLen u) by omega), if_pos (show nI d ≤ (40 : Int32) from nI_le (b := 40) (by omega) (by omega))]
          have q := zloop_inv (f := fun (v9 : Int32) =>
            ((some (some w)).bind fun r12 =>
            (zaL h r12 3).bind fun x13 =>
            if x13 ≤ v9 then
              some (.inr (.inl ()))
            else
              (some (some w')).bind fun r14 =>
              (zaL h r14 3).bind fun x15 =>
              if x15 ≤ v9 then
                some (.inr (.inl ()))
              else
                (some (some w)).bind fun r16 =>
                (zaP h r16 3 v9).bind fun r17 =>
                (some (some w')).bind fun r18 =>
                (zaP h r18 3 v9).bind fun r19 =>
                (fX5_order n h r17 r19 (nI d + (1 : Int32))).bind fun x20 =>
                if x20 = 0 then
                  some (.inl (v9 + (1 : Int32)))
                else
                  some (.inr (.inr x20)) : Option (Int32 ⊕ (Unit ⊕ Int32))))
            (fun (k : Nat) (s : Int32) => ∃ i, k = tLen t - i ∧ i ≤ tLen t ∧ s = nI i ∧ tCk (tPre t i) (tPre u i) = 0)
            (fun r => (r = .inl () ∧ tCk t u = 0) ∨ (r = .inr (tI (tCk t u)) ∧ tCk t u ≠ 0)) (by
            rintro k s ⟨i, hk, hi, rfl, hc⟩
            rw [Option.bind_some, zaL_v (t := 3) b2 b3, b4, Option.bind_some]
            by_cases ci : tLen t ≤ i
            · rw [if_pos (nI_le ci (by omega))]
              have ei : i = tLen t := by omega
              rw [ei, tPre_all] at hc
              rw [k3, tPre_all] at hc
              exact Or.inr ⟨_, rfl, Or.inl ⟨rfl, hc⟩⟩
            · have hi1 : i < tLen t := by omega
              have hi2 : i < tLen u := by omega
              obtain ⟨y, x, m, e1, e2, e3⟩ := f.kid t w l i hi1
              obtain ⟨y', x', m', e1', e2', e3'⟩ := f'.kid u w' l' i hi2
              have hh := tKid_ht t i hi1
              have o := ih (d + 1) (tKid t i) (tKid u i) y y' x x' m m' (by omega) (by omega) (by have := tKid_sz t i hi1; omega) (by have := tKid_sz u i hi2; omega) (tKid_OK t i g1 hi1).1 (tKid_OK u i g2 hi2).1 e2 e3 e2' e3'
              rw [if_neg (nI_nle' (by omega) hi1), Option.bind_some, zaL_v (t := 3) d2 d3, d4, Option.bind_some, if_neg (nI_nle' (by omega) hi2), Option.bind_some, zaP_v (t := 3) (n := tLen t) b2 b3 b4 hi1 (by omega), Option.bind_some, e1, Option.bind_some, zaP_v (t := 3) (n := tLen u) d2 d3 d4 hi2 (by omega), Option.bind_some, e1', nI_1, o, Option.bind_some]
              have hS := tCk_S hi1 hi2
              rw [hc, if_neg (by omega)] at hS
              by_cases cz : tCmp (tKid t i) (tKid u i) = 0
              · rw [if_pos (tI_0.mpr cz), nI_1]
                exact Or.inl ⟨_, tLen t - (i + 1), rfl, by omega, i + 1, rfl, by omega, rfl, hS.trans cz⟩
              · rw [if_neg (fun z => cz (tI_0.mp z))]
                have on := tCk_on k3 cz (tLen t - (i + 1)) (i + 1) (by omega) hS
                exact Or.inr ⟨_, rfl, Or.inr ⟨by rw [on], by rw [on]; exact cz⟩⟩) (tLen t) (nI 0) zFU ⟨0, rfl, Nat.zero_le _, rfl, tCk_00 t u⟩ (by rw [zFU_v]; omega)
          obtain ⟨r, e, hr⟩ := q
          refine (congrArg (fun o : Option (Unit ⊕ Int32) => o.bind fun (q : (Unit ⊕ Int32)) => match q with
            | .inr t => some t
            | .inl u => some (0 : Int32)) e).trans ?_
          rcases hr with ⟨rfl, hz⟩ | ⟨rfl, hz⟩
          · rw [hz]; rfl
          · rfl
        · rw [if_neg (fun z => k3 ((nI_eq (by omega) (by omega)).mp z)), if_pos k3, Option.bind_some, zaL_v (t := 3) b2 b3, b4, Option.bind_some, Option.bind_some, zaL_v (t := 3) d2 d3, d4, Option.bind_some, ccmp_eq h (by omega) (by omega)]
          rfl
      · have k12 : tLab t < 12 ∧ tLab u < 12 := k1.elim (fun z => z) (fun z => absurd z k2)
        have n1 : tNm (tLab t) = nI (tLab t) := by unfold tNm; rw [if_pos k12.1]
        have n2 : tNm (tLab u) = nI (tLab u) := by unfold tNm; rw [if_pos k12.2]
        rw [if_neg (fun z => k2 ((tNm_eq k1).mp z)), if_pos k2, Option.bind_some, Option.bind_some, n1, n2, ccmp_eq h (by omega) (by omega)]
        rfl
    · rw [if_neg (fun z => k1 ((tKd_eq lab1 lab2).mp z)), if_pos (fun z => k1 (Or.inr z)), Option.bind_some, Option.bind_some, ccmp_eq h (by unfold tKd; split <;> omega) (by unfold tKd; split <;> omega), tKd_sg lab1 lab2 k1]
      rfl
def pLike (p : Mp) (a b : Int32) : Int32 := if mnm a (pn p) ∧ mnm b (pn p) then (if tCmp (pT p a.toNatClampNeg) (pT p b.toNatClampNeg) = 0 then 1 else 0) else -1
theorem clike_eq {h : Zh} {X : Nat} {pa : Nat → Nat} {p : Mp} (f : cFix h X) (c : cPc h X pa p) (ok : pOK p) (a b : Int32) : fX5_like h (some X) a b = some (pLike p a b) := by
  have f0 := f.1
  unfold fX5_like pLike
  rw [zob_v (by omega) f.2.1.1, Option.bind_some, cpiece_at f c ok, Option.bind_some, Option.bind_some, cpiece_at f c ok, Option.bind_some]
  by_cases y2 : mnm a (pn p)
  · rw [if_pos y2, if_neg (by intro z; cases z)]
    by_cases y3 : mnm b (pn p)
    · have hy : mnm a (pn p) ∧ mnm b (pn p) := ⟨y2, y3⟩
      rw [if_pos y3, if_neg (by intro z; cases z), if_pos hy]
      obtain ⟨-, la⟩ := mnm_nI y2
      obtain ⟨-, lb⟩ := mnm_nI y3
      generalize a.toNatClampNeg = x at la
      generalize b.toNatClampNeg = y at lb
      obtain ⟨wa, l0, na, -, fa⟩ := c.2.tree ok x la
      obtain ⟨wb, l1, nb, -, fb⟩ := c.2.tree ok y lb
      have h1 := pT_ht ok la
      have s1 := pT_sz ok x la
      have s2 := pT_sz ok y lb
      have s3 := (ok.2 x la).2.2.2.1
      have s4 := (ok.2 y lb).2.2.2.1
      have o := corder_eq 64 0 (pT p x) (pT p y) _ _ _ _ _ _ (by omega) (by omega) (by omega) (by omega) (pT_OK ok x la).1 (pT_OK ok y lb).1 na fa nb fb
      have o' : fX5_order 64 h (some (pa x)) (some (pa y)) (0 : Int32) = some (tI (tCmp (pT p x) (pT p y))) := o
      rw [o', Option.bind_some]
      by_cases e : tCmp (pT p x) (pT p y) = 0
      · rw [if_pos e, if_pos (tI_0.mpr e)]; rfl
      · rw [if_neg e, if_neg (fun z => e (tI_0.mp z))]; rfl
    · rw [if_neg y3, if_pos rfl, if_neg (fun z : mnm a (pn p) ∧ mnm b (pn p) => y3 z.2)]
  · rw [if_neg y2, if_pos rfl, if_neg (fun z : mnm a (pn p) ∧ mnm b (pn p) => y2 z.1)]
