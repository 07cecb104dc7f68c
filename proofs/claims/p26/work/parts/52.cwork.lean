/-! work and lag on the class's side -/
theorem ctell_m {h : Zh} {X : Nat} {ca : Nat → Nat} {m : Ml} (c : cLog h X ca m) (ok : mOK m) {k i q : Nat} (hk : k < mnc m) (hi : i < mlen m k) (hq : q < 4) : fX0_tell h (some (ca k)) (nI i) (nI q) = some (mdt m k i q) := by
  have hl6 := ok.2.1 k
  obtain ⟨d1, d2, d3, d4, d5, d6, d7, d8, d9, d10⟩ := c.2.1 k hk
  rw [ctell_eq (n := 0) d3 d4 d5 d6 d7 (by omega) hq, d10 i q hi hq]
theorem cob_m {h : Zh} {X : Nat} {ca : Nat → Nat} {m : Ml} (c : cLog h X ca m) {k : Nat} (hk : k < mnc m) : zob h (some (ca k)) 2 = some (ca k) := by
  obtain ⟨d1, d2, d3, d4, d5, d6, d7, d8, d9, d10⟩ := c.2.1 k hk
  exact zob_v (by omega) d4
theorem cTs.ob {h h1 : Zh} {t : Tm} (c : cTs h h1 t) : zob h1 (some (zn h)) 6 = some (zn h) := zob_v (by rw [c.2.1]; omega) c.2.2.2.1
