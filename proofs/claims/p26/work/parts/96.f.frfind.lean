/-! found on the reference's side: the whole -/
def mRl (m : Ml) (c : Nat) : List Nat := (List.range (mlen m c)).map (fun i => (mdt m c i 0).toNatClampNeg)
def mRk (m : Ml) (k : Nat) : Rw := ((List.range k).filter (fun c => !mdr m c)).map (mRl m)
def mRws (m : Ml) : Rw := mRk m (mnc m)
theorem mRl_len (m : Ml) (c : Nat) : (mRl m c).length = mlen m c := by unfold mRl; rw [List.length_map, List.length_range]
theorem mRl_at {m : Ml} (om : mOK m) {c i : Nat} (hi : i < mlen m c) : mdt m c i 0 = nI ((mRl m c).getD i 0) ∧ (mRl m c).getD i 0 < 12 := by
  have e : (mRl m c).getD i 0 = (mdt m c i 0).toNatClampNeg := by
    unfold mRl
    rw [mapP_gd _ _ 0 _ _ (by rw [List.length_range]; exact hi), List.getD_eq_getElem?_getD, List.getElem?_range hi]; rfl
  obtain ⟨h1, h2⟩ := mnm_nI (om.2.2.2 c i hi).1
  rw [e]
  exact ⟨h1, h2⟩
theorem mRl_ok {m : Ml} (om : mOK m) (c : Nat) : rOK (mRl m c) := ⟨by rw [mRl_len]; exact om.2.1 c, fun i hi => by
  rw [mRl_len] at hi
  exact (mRl_at om hi).2⟩
theorem mRk_S (m : Ml) (k : Nat) : mRk m (k + 1) = mRk m k ++ (if mdr m k = true then [] else [mRl m k]) := by
  unfold mRk
  rw [List.range_succ, List.filter_append, List.map_append]
  congr 1
  by_cases c : mdr m k = true
  · rw [if_pos c, List.filter_cons_of_neg (by rw [c]; decide)]; rfl
  · rw [if_neg c, List.filter_cons_of_pos (by rw [Bool.not_eq_true] at c; rw [c]; rfl)]; rfl
theorem mRk_len (m : Ml) : ∀ k, (mRk m k).length ≤ k := fun k => by
  unfold mRk
  rw [List.length_map]
  have := List.length_filter_le (fun c => !mdr m c) (List.range k)
  rw [List.length_range] at this
  exact this
theorem mRws_ok {m : Ml} (om : mOK m) : xOK (mRws m) := by
  have key : ∀ k, k ≤ 24 → (∀ r, r ∈ mRk m k → rOK r) ∧ gS List.length (mRk m k) ≤ 6 * k := by
    intro k
    induction k with
    | zero => intro _; exact ⟨fun r hr => absurd hr List.not_mem_nil, Nat.le_refl _⟩
    | succ k ih =>
      intro hk
      obtain ⟨i1, i2⟩ := ih (by omega)
      rw [mRk_S]
      by_cases c : mdr m k = true
      · rw [if_pos c, List.append_nil]
        exact ⟨i1, by omega⟩
      · rw [if_neg c]
        refine ⟨fun r hr => (List.mem_append.mp hr).elim (i1 r) (fun z => by rw [List.mem_singleton.mp z]; exact mRl_ok om k), ?_⟩
        rw [gS_app]
        have := (mRl_ok om k).1
        show gS List.length (mRk m k) + ((mRl m k).length + 0) ≤ _
        omega
  have h24 := om.1
  obtain ⟨k1, k2⟩ := key (mnc m) h24
  have k3 := mRk_len m (mnc m)
  exact ⟨k1, by show (mRk m (mnc m)).length ≤ 144; omega, by show gS List.length (mRk m (mnc m)) ≤ 144; omega⟩
def pFnd (p : Mp) (t : Tr) : Int32 × Mp := if tSz t ≤ 60 ∧ pn p + tSz t ≤ 200 then (nI (pn p + tSz t - 1), pEnt p t) else (-2, p)
