/-! the reference: one object, its arrays behind it. 1 deeds[24]; 2 isDropped[24]; 3 name[144]; 4 hand[144]; 5 begin[144]; 6 end[144]; 7 kind[200]; 8 called[200]; 9 partFrom[200]; 10 partMany[200]; 11 size[200]; 12 part[12000]; 13 nKind[200]; 14 nName[200]; 15 nFrom[200]; 16 nMany[200]; 17 list[20000]; 18 ofPiece[200]; 19 pairX[400]; 20 pairY[400]; 21 gather[200]; 22 plainOf[200]; 23 inRow[200]; 24 pieceOf[200]; 25 laid[6]; 26 price[3904]; 27 first[64]; 28 second[64]; 29 third[64]; 30 rounds[64]; 31 logFrom[200]; 32 logMany[200]; 33 rowFrom[12000]; 34 rowLong[12000]; 35 logName[12000]; 36 follow[144]; 37 isThere[12]; 38 begins[12]; 39 ends[12]; 40 group[12]; 41 groupAt[12]; 42 isTied[144]; 43 reach[144]; 44 isBody[12]; 45 others[12]; 46 kept[14]; 47 slowSum[144]; 48 isSlow[144]. Numbers (slots of 0): 0 cases, 7 pieces, 13 parts, 15 nodes, 20 listed, 25 gathered, 28 rowed, 31 long0, 38 leastPrice, 39 bothNumber, 42 logRows, 45 logNames, 52 groups, 59 timeSum, 60 timeMany, 61 timeMost, 62 timeMissing -/
def zRN : Nat := 49
def zRk : List Nat := [8, 100, 101, 100, 100, 100, 100, 100, 100, 100, 100, 100, 100, 100, 100, 100, 100, 100, 100, 100, 100, 100, 100, 100, 100, 100, 100, 100, 100, 100, 100, 100, 100, 100, 100, 100, 101, 101, 101, 101, 100, 100, 101, 101, 101, 101, 100, 100, 101]
def zRl : List Nat := [0, 24, 24, 144, 144, 144, 144, 200, 200, 200, 200, 200, 12000, 200, 200, 200, 200, 20000, 200, 400, 400, 200, 200, 200, 200, 6, 3904, 64, 64, 64, 64, 200, 200, 12000, 12000, 12000, 144, 12, 12, 12, 12, 12, 144, 144, 12, 12, 14, 144, 144]
def zRs : List Nat := [0, 1, 2, 3, 4, 5, 6, 0, 7, 8, 9, 10, 11, 0, 12, 0, 13, 14, 15, 16, 0, 17, 18, 19, 20, 0, 21, 22, 0, 23, 24, 0, 25, 26, 27, 28, 29, 30, 0, 0, 31, 32, 0, 33, 34, 0, 35, 36, 37, 38, 39, 40, 0, 41, 42, 43, 44, 45, 46, 0, 0, 0, 0, 47, 48]
theorem zcI (x : Int32) : (Value.int x).category = 1 := rfl
theorem zcJ (x : Int64) : (Value.long x).category = 2 := rfl
abbrev Zr : Type := Nat → Nat → Int32
def zput (R : Nat) (h : Zh) (s : Zr) : Zh := (h.1, h.2.1, (fun a j => if R ≤ a ∧ a < R + zRN then s (a - R) j else zi h a j), h.2.2.2)
def zRF (R : Nat) (h : Zh) : Prop := R + zRN ≤ zn h ∧ (∀ a, a < zRN → zk h (R + a) = zRk.getD a 0 ∧ zl h (R + a) = zRl.getD a 0) ∧ (∀ k, k < 65 → zRs.getD k 0 ≠ 0 → zp h R k = some (R + zRs.getD k 0))
def rdI (s : Zr) (a : Nat) (j : Int32) : Option Int32 := if zRk.getD a 0 = 100 then (zix (zRl.getD a 0) j).bind fun q => some (s a q) else none
def rdZ (s : Zr) (a : Nat) (j : Int32) : Option Int32 := if zRk.getD a 0 = 101 then (zix (zRl.getD a 0) j).bind fun q => some (s a q) else none
def wrI (s : Zr) (a : Nat) (j x : Int32) : Option Zr := if zRk.getD a 0 = 100 then (zix (zRl.getD a 0) j).bind fun q => some (u2 s a q x) else none
def wrZ (s : Zr) (a : Nat) (j x : Int32) : Option Zr := if zRk.getD a 0 = 101 then (zix (zRl.getD a 0) j).bind fun q => (zbo x).bind fun x => some (u2 s a q x) else none
theorem zRk_lt {a k : Nat} (h : zRk.getD a 0 = k + 1) : a < zRN := by
  rcases Nat.lt_or_ge a zRN with q | q
  · exact q
  · rw [List.getD_eq_getElem?_getD, List.getElem?_eq_none (show zRk.length ≤ a from q)] at h
    cases h
theorem zput_i {R : Nat} {h : Zh} {s : Zr} {a : Nat} (ha : a < zRN) : zi (zput R h s) (R + a) = s a := by
  funext j
  show (if R ≤ R + a ∧ R + a < R + zRN then s (R + a - R) j else _) = _
  rw [if_pos ⟨Nat.le_add_right _ _, Nat.add_lt_add_left ha _⟩, Nat.add_sub_cancel_left]
theorem zput_set {R : Nat} {h : Zh} {s : Zr} {a q : Nat} {x : Int32} (ha : a < zRN) : zsetI (zput R h s) (R + a) q x = zput R h (u2 s a q x) := by
  unfold zsetI zput
  refine Prod.ext rfl (Prod.ext rfl (Prod.ext ?_ rfl))
  funext v j
  show u2 _ _ _ _ v j = _
  unfold u2
  by_cases hv : v = R + a
  · subst hv
    have hr : R ≤ R + a ∧ R + a < R + zRN := ⟨Nat.le_add_right _ _, Nat.add_lt_add_left ha _⟩
    dsimp only
    rw [if_pos hr, if_pos hr, Nat.add_sub_cancel_left]
    by_cases hj : j = q
    · rw [if_pos ⟨rfl, hj⟩, if_pos ⟨rfl, hj⟩]
    · rw [if_neg (fun z => hj z.2), if_neg (fun z => hj z.2)]
  · rw [if_neg (fun z => hv z.1)]
    dsimp only
    by_cases hr : R ≤ v ∧ v < R + zRN
    · rw [if_pos hr, if_pos hr, if_neg (fun z => hv (by omega))]
    · rw [if_neg hr, if_neg hr]
theorem zput_put (R : Nat) (h : Zh) (s s' : Zr) : zput R (zput R h s) s' = zput R h s' := by
  unfold zput
  refine Prod.ext rfl (Prod.ext rfl (Prod.ext ?_ rfl))
  funext v j
  dsimp only
  by_cases hr : R ≤ v ∧ v < R + zRN
  · rw [if_pos hr, if_pos hr]
  · rw [if_neg hr, if_neg hr]
    show (if R ≤ v ∧ v < R + zRN then _ else _) = _
    rw [if_neg hr]
theorem zob_rf {R : Nat} {h : Zh} {s : Zr} {a k : Nat} (hF : zRF R h) (hk : zRk.getD a 0 = k + 1) : zob (zput R h s) (some (R + a)) (k + 1) = some (R + a) := by
  have ha := zRk_lt hk
  have h1 := (hF.2.1 a ha).1
  unfold zob
  rw [Option.bind_some, if_pos ⟨Nat.lt_of_lt_of_le (Nat.add_lt_add_left ha _) hF.1, by rw [← hk]; exact h1⟩]
