/-! expand once more: parts lie side by side, each of one node only -/
/-! a tree becomes pieces: the model -/
def pEn : Mp → Tr → Mp × List Nat
  | p, .var _ => (p, [])
  | p, .op t k => (pAdd (pEn (pEn p t).1 k).1 (tKd (tLab k)) (tNm (tLab k)) (pEn (pEn p t).1 k).2, (pEn p t).2 ++ [pn (pEn (pEn p t).1 k).1])
def pEnt (p : Mp) (t : Tr) : Mp := pAdd (pEn p t).1 (tKd (tLab t)) (tNm (tLab t)) (pEn p t).2
theorem pEn_op (p : Mp) (t k : Tr) : pEn p (.op t k) = (pEnt (pEn p t).1 k, (pEn p t).2 ++ [pn (pEn (pEn p t).1 k).1]) := rfl
/-- what entering gives -/
def eOK (p : Mp) (t : Tr) (a : Mp × List Nat) : Prop := pOK a.1 ∧ pn a.1 + 1 = pn p + tSz t ∧ (∀ q, q < pn p → pT a.1 q = pT p q) ∧ (∀ j, j ∈ a.2 → j < pn a.1) ∧ a.2.length = tLen t ∧ tFold (tLab t) (pT a.1) a.2 = t
theorem tKd_nm {x : Nat} (hx : x ≤ 16) : (x < 12 → tKd x = 0 ∧ mnm (tNm x) 12) ∧ (x = 12 → tKd x = 1 ∧ tNm x = -3) ∧ (13 ≤ x → 2 ≤ tKd x ∧ tKd x ≤ 5 ∧ tNm x = -3) := by
  unfold tKd tNm
  refine ⟨fun h => ?_, fun h => ?_, fun h => ?_⟩
  · rw [if_pos h, if_pos h]; exact ⟨rfl, nI_mnm h (by omega)⟩
  · subst h; exact ⟨rfl, rfl⟩
  · rw [if_neg (by omega), if_neg (by omega)]; exact ⟨by omega, by omega, rfl⟩
theorem pEnt_ok {p : Mp} {t : Tr} (ok : pOK p) (h : tOK t) (hs : tSz t ≤ 60) (hn : pn p + tSz t ≤ 200) (e : eOK p t (pEn p t)) : pOK (pEnt p t) ∧ pn (pEnt p t) = pn p + tSz t ∧ (∀ q, q < pn p → pT (pEnt p t) q = pT p q) ∧ pT (pEnt p t) (pn (pEn p t).1) = t := by
  obtain ⟨e1, e2, e3, e4, e5, e6⟩ := e
  have lab := tG_lab t h.1
  obtain ⟨k1, k2, k3⟩ := tKd_nm lab
  have l0 : tLab t < 13 → (pEn p t).2 = [] := fun q => List.eq_nil_of_length_eq_zero (by rw [e5]; exact tG_leaf t h.1 q)
  have esz : 1 + pSum (psz (pEn p t).1) (pEn p t).2 = tSz t := by
    have q := congrArg tSz e6
    rw [tFold_sz, pSum_congr _ (psz (pEn p t).1) _ (fun j hj => pT_sz e1 j (e4 j hj))] at q
    exact q
  have ok' : pOK (pEnt p t) := by
    refine pAdd_OK e1 (by omega) ?_ e4 (by omega) ?_
    · by_cases q : tLab t < 12
      · rw [(k1 q).1]; omega
      · by_cases q2 : tLab t = 12
        · rw [(k2 q2).1]; omega
        · exact (k3 (by omega)).2.1
    · by_cases q : tLab t < 12
      · exact Or.inl ⟨(k1 q).1, (k1 q).2, l0 (by omega)⟩
      · by_cases q2 : tLab t = 12
        · exact Or.inr (Or.inl ⟨(k2 q2).1, (k2 q2).2, l0 (by omega)⟩)
        · refine Or.inr (Or.inr ⟨(k3 (by omega)).1, (k3 (by omega)).2.2, ?_⟩)
          rw [e5]
          exact h.2 (by omega)
  refine ⟨ok', ?_, fun q hq => ?_, ?_⟩
  · show pn (pEn p t).1 + 1 = _
    exact e2
  · have hs1 := tSz_1 t
    exact (pAdd_T e1 (by omega)).trans (e3 q hq)
  · rw [show pEnt p t = pAdd (pEn p t).1 (tKd (tLab t)) (tNm (tLab t)) (pEn p t).2 from rfl] at ok' ⊢
    rw [pAdd_Tn ok' e1, tLb_kd lab]
    exact e6
theorem pEn_ok : ∀ (t : Tr) (p : Mp), pOK p → tG t → tSz t ≤ 60 → pn p + tSz t ≤ 201 → eOK p t (pEn p t)
  | .var x, p, ok, _, _, _ => ⟨ok, rfl, fun _ _ => rfl, fun j hj => absurd hj List.not_mem_nil, rfl, rfl⟩
  | .op t k, p, ok, g, hs, hn => by
    have hs' : tSz t + tSz k ≤ 60 := hs
    have hn' : pn p + (tSz t + tSz k) ≤ 201 := hn
    have s1 := tSz_1 t
    have s2 := tSz_1 k
    obtain ⟨a1, a2, a3, a4, a5, a6⟩ := pEn_ok t p ok g.2.1 (by omega) (by omega)
    have b := pEn_ok k (pEn p t).1 a1 g.2.2.1 (by omega) (by omega)
    obtain ⟨c1, c2, c3, c4⟩ := pEnt_ok a1 ⟨g.2.2.1, g.2.2.2⟩ (by omega) (by omega) b
    have b2 := b.2.1
    rw [pEn_op]
    refine ⟨c1, ?_, fun q hq => ?_, fun j hj => ?_, ?_, ?_⟩
    · show pn (pEnt (pEn p t).1 k) + 1 = pn p + (tSz t + tSz k)
      omega
    · exact (c3 q (by omega)).trans (a3 q hq)
    · show j < pn (pEnt (pEn p t).1 k)
      rcases List.mem_append.mp hj with hj | hj
      · have := a4 j hj; omega
      · rw [List.mem_singleton.mp hj]; omega
    · show ((pEn p t).2 ++ [_]).length = tLen t + 1
      rw [List.length_append, a5]; rfl
    · show tFold (tLab t) (pT (pEnt (pEn p t).1 k)) ((pEn p t).2 ++ [pn (pEn (pEn p t).1 k).1]) = _
      rw [tFold_app, c4]
      congr 1
      exact (tFold_congr (fun j hj => c3 j (a4 j hj))).trans a6
