/-! slow, on the reference's side -/
noncomputable def mWS (m : Ml) (v : Nat) : Int32 := (mLagT m (nI (v / 12)) (nI (v % 12)) 144).1
noncomputable def mWC (m : Ml) (v : Nat) : Int32 := (mLagT m (nI (v / 12)) (nI (v % 12)) 144).2.1
abbrev mWA (m : Ml) (v : Nat) : Prop := ¬ mWC m v ≤ 0
/-- what slow answers -/
def mSlowR (m : Ml) (a r : Int32) : Prop := (a < 0 ∧ r = -1) ∨ (¬ a < 0 ∧ ((∃ v, v < 144 ∧ mWA m v ∧ nI (wRank (mWA m) (mWS m) 144 v) = a ∧ r = nI v) ∨ (r = -3 ∧ ∀ v, v < 144 → mWA m v → nI (wRank (mWA m) (mWS m) 144 v) ≠ a)))
theorem wRank_144 (A : Nat → Prop) (S : Nat → Int32) (v : Nat) : wRank A S 144 v ≤ 144 := nCnt_le 144
theorem mSlowR_one {m : Ml} {a r r' : Int32} (h : mSlowR m a r) (h' : mSlowR m a r') : r = r' := by
  rcases h with ⟨p, rfl⟩ | ⟨p, h⟩ <;> rcases h' with ⟨q, rfl⟩ | ⟨q, h'⟩
  · rfl
  · exact absurd p q
  · exact absurd q p
  · rcases h with ⟨v, v1, v2, v3, rfl⟩ | ⟨rfl, h⟩ <;> rcases h' with ⟨u, u1, u2, u3, rfl⟩ | ⟨rfl, h'⟩
    · have l1 := wRank_144 (mWA m) (mWS m) v
      have l2 := wRank_144 (mWA m) (mWS m) u
      rw [wRank_inj v1 u1 v2 u2 ((nI_eq (by omega) (by omega)).mp (v3.trans u3.symm))]
    · exact absurd v3 (h' v v1 v2)
    · exact absurd u3 (h u u1 u2)
    · rfl
abbrev sSlow (a k : Nat) : Prop := sTimes a k ∨ a = 47 ∨ a = 48
/-- the reference's choice of the first of those that are left (Q) -/
theorem rpick {A Q : Nat → Prop} {S : Nat → Int32} {s : Zr} (h48 : ∀ v, v < 144 → (Q v ∧ s 48 v = 1) ∨ (¬ Q v ∧ s 48 v = 0)) (h47 : ∀ v, v < 144 → s 47 v = S v) {f : Int32 × Int32 → Option ((Int32 × Int32) ⊕ Int32)}
    (hf : ∀ v20 v21, f (v20, v21) = if (144 : Int32) ≤ v21 then some (.inr v20) else (rdZ s 48 v21).bind fun x25 => (if x25 = 0 then some v20 else if v20 = (-3 : Int32) then some v21 else (rdI s 47 v21).bind fun x28 => (rdI s 47 v20).bind fun x29 => if x28 ≤ x29 then some v20 else some v21).bind fun v26 => some (.inl (v26, v21 + (1 : Int32)))) :
    ∃ r, zloop f zFU ((-3 : Int32), (0 : Int32)) = some r ∧ ((r = -3 ∧ ∀ i, i < 144 → ¬ Q i) ∨ ∃ w, w < 144 ∧ Q w ∧ r = nI w ∧ ∀ i, i < 144 → Q i → ¬ wBef A S w i) := by
  refine zloop_inv (fun n s => ∃ j, n = 144 - j ∧ j ≤ 144 ∧ s.2 = nI j ∧ ((s.1 = -3 ∧ ∀ i, i < j → ¬ Q i) ∨ ∃ w, w < j ∧ Q w ∧ s.1 = nI w ∧ ∀ i, i < j → Q i → ¬ wBef A S w i)) _ ?_ 144 _ _ ⟨0, rfl, by omega, rfl, Or.inl ⟨rfl, fun i hi => absurd hi (by omega)⟩⟩ (by rw [zFU_v]; omega)
  rintro n ⟨v, w⟩ ⟨j, hn, hj, rfl, hv⟩
  dsimp only at hv ⊢
  rw [hf]
  by_cases c1 : j = 144
  · subst c1
    rw [if_pos (show (144 : Int32) ≤ nI 144 from nI_le (Nat.le_refl 144) (by omega))]
    exact Or.inr ⟨v, rfl, hv⟩
  · rw [if_neg (show ¬ (144 : Int32) ≤ nI j from nI_nle' (b := 144) (by omega) (by omega)), rd48 (by omega), Option.bind_some]
    have nx : ∀ v' : Int32, ((v' = -3 ∧ ∀ i, i < j + 1 → ¬ Q i) ∨ ∃ w, w < j + 1 ∧ Q w ∧ v' = nI w ∧ ∀ i, i < j + 1 → Q i → ¬ wBef A S w i) → ∃ (s' : Int32 × Int32) (m' : Nat), ((some v').bind fun v26 => (some (.inl (v26, nI j + (1 : Int32))) : Option ((Int32 × Int32) ⊕ Int32))) = some (.inl s') ∧ m' < n ∧ ∃ j, m' = 144 - j ∧ j ≤ 144 ∧ s'.2 = nI j ∧ ((s'.1 = -3 ∧ ∀ i, i < j → ¬ Q i) ∨ ∃ w, w < j ∧ Q w ∧ s'.1 = nI w ∧ ∀ i, i < j → Q i → ¬ wBef A S w i) :=
      fun v' z => ⟨(v', nI (j + 1)), 144 - (j + 1), by rw [← nI_1]; rfl, by omega, j + 1, rfl, by omega, rfl, z⟩
    have step : ∀ (p : Nat → Prop), (∀ i, i < j → p i) → p j → ∀ i, i < j + 1 → p i := fun p h1 h2 i hi => by
      by_cases e : i = j
      · rw [e]; exact h2
      · exact h1 i (by omega)
    rcases h48 j (by omega) with ⟨q, e⟩ | ⟨q, e⟩
    · rw [e, if_neg (by decide)]
      rcases hv with ⟨rfl, hv⟩ | ⟨w, w1, w2, rfl, w4⟩
      · rw [if_pos rfl]
        refine Or.inl (nx _ (Or.inr ⟨j, by omega, q, rfl, step _ (fun i hi z => absurd z (hv i hi)) (fun _ => wBef_irr)⟩))
      · have h3 : ¬ nI w = (-3 : Int32) := fun z => by
          have := congrArg Int32.toInt z
          rw [nI_toInt (by omega), show (-3 : Int32).toInt = -3 from by decide] at this
          omega
        rw [if_neg h3, rd47 (by omega), rd47 (by omega), Option.bind_some, Option.bind_some, h47 j (by omega), h47 w (by omega)]
        by_cases l : S j ≤ S w
        · rw [if_pos l]
          refine Or.inl (nx _ (Or.inr ⟨w, by omega, w2, rfl, step _ w4 (fun _ z => ?_)⟩))
          rcases z.2 with y | ⟨_, y⟩
          · rw [Int32.le_iff_toInt_le] at l; rw [Int32.lt_iff_toInt_lt] at y; omega
          · omega
        · rw [if_neg l]
          refine Or.inl (nx _ (Or.inr ⟨j, by omega, q, rfl, step _ (fun i hi z y => ?_) (fun _ => wBef_irr)⟩))
          refine w4 i hi z ⟨y.1, Or.inl ?_⟩
          rw [Int32.le_iff_toInt_le] at l
          rw [Int32.lt_iff_toInt_lt]
          rcases y.2 with y | ⟨y, _⟩
          · rw [Int32.lt_iff_toInt_lt] at y; omega
          · rw [y]; omega
    · rw [e, if_pos rfl]
      refine Or.inl (nx _ ?_)
      rcases hv with ⟨rfl, hv⟩ | ⟨w, w1, w2, rfl, w4⟩
      · exact Or.inl ⟨rfl, step _ hv q⟩
      · exact Or.inr ⟨w, by omega, w2, rfl, step _ w4 (fun z => absurd z q)⟩
