/-! the reference: one object, its arrays behind it. 1 deeds[24]; 2 isDropped[24]; 3 name[144]; 4 hand[144]; 5 begin[144]; 6 end[144]; 7 kind[200]; 8 called[200]; 9 partFrom[200]; 10 partMany[200]; 11 size[200]; 12 part[12000]; 13 nKind[200]; 14 nName[200]; 15 nFrom[200]; 16 nMany[200]; 17 list[20000]; 18 ofPiece[200]; 19 pairX[400]; 20 pairY[400]; 21 gather[200]; 22 plainOf[200]; 23 inRow[200]; 24 pieceOf[200]; 25 laid[6]; 26 price[3904]; 27 first[64]; 28 second[64]; 29 third[64]; 30 rounds[64]; 31 logFrom[200]; 32 logMany[200]; 33 rowFrom[12000]; 34 rowLong[12000]; 35 logName[12000]; 36 follow[144]; 37 isThere[12]; 38 begins[12]; 39 ends[12]; 40 group[12]; 41 groupAt[12]; 42 isTied[144]; 43 reach[144]; 44 isBody[12]; 45 others[12]; 46 kept[14]; 47 slowSum[144]; 48 isSlow[144]. Numbers (slots of 0): 0 cases, 7 pieces, 13 parts, 15 nodes, 20 listed, 25 gathered, 28 rowed, 31 long0, 38 leastPrice, 39 bothNumber, 42 logRows, 45 logNames, 52 groups, 59 timeSum, 60 timeMany, 61 timeMost, 62 timeMissing -/
def zRN : Nat := 49
def zRk : List Nat := [8, 100, 101, 100, 100, 100, 100, 100, 100, 100, 100, 100, 100, 100, 100, 100, 100, 100, 100, 100, 100, 100, 100, 100, 100, 100, 100, 100, 100, 100, 100, 100, 100, 100, 100, 100, 101, 101, 101, 101, 100, 100, 101, 101, 101, 101, 100, 100, 101]
def zRl : List Nat := [0, 24, 24, 144, 144, 144, 144, 200, 200, 200, 200, 200, 12000, 200, 200, 200, 200, 20000, 200, 400, 400, 200, 200, 200, 200, 6, 3904, 64, 64, 64, 64, 200, 200, 12000, 12000, 12000, 144, 12, 12, 12, 12, 12, 144, 144, 12, 12, 14, 144, 144]
def zRs : List Nat := [0, 1, 2, 3, 4, 5, 6, 0, 7, 8, 9, 10, 11, 0, 12, 0, 13, 14, 15, 16, 0, 17, 18, 19, 20, 0, 21, 22, 0, 23, 24, 0, 25, 26, 27, 28, 29, 30, 0, 0, 31, 32, 0, 33, 34, 0, 35, 36, 37, 38, 39, 40, 0, 41, 42, 43, 44, 45, 46, 0, 0, 0, 0, 47, 48]
theorem zcI (x : Int32) : (Value.int x).category = 1 := rfl
theorem zcJ (x : Int64) : (Value.long x).category = 2 := rfl
abbrev Zr : Type := Nat → Nat → Int32
def zput (R : Nat) (h : Zh) (s : Zr) : Zh := (h.1, h.2.1, (fun a j => if R ≤ a ∧ a < R + zRN then s (a - R) j else zi h a j), h.2.2.2)
def zRF (R : Nat) (h : Zh) : Prop := R + zRN ≤ zn h ∧ (∀ a, a < zRN → zk h (R + a) = zRk.getD a 0 ∧ zl h (R + a) = zRl.getD a 0) ∧ (∀ k, k < 65 → zRs.getD k 0 ≠ 0 → zp h R k = some (R + zRs.getD k 0))
def rdI (s : Zr) (a : Nat) (j : Int32) : Option Int32 := if zRk.getD a 0 = 100 then (zix (zRl.getD a 0) j).bind fun q => some (s a q) else none
def rdZ (s : Zr) (a : Nat) (j : Int32) : Option Int32 := if zRk.getD a 0 = 101 then (zix (zRl.getD a 0) j).bind fun q => some (s a q) else none
def wrI (s : Zr) (a : Nat) (j x : Int32) : Option Zr := if zRk.getD a 0 = 100 then (zix (zRl.getD a 0) j).bind fun q => some (u2 s a q x) else none
def wrZ (s : Zr) (a : Nat) (j x : Int32) : Option Zr := if zRk.getD a 0 = 101 then (zix (zRl.getD a 0) j).bind fun q => (zbo x).bind fun x => some (u2 s a q x) else none
theorem zRk_lt {a k : Nat} (h : zRk.getD a 0 = k + 1) : a < zRN := by
  rcases Nat.lt_or_ge a zRN with q | q
  · exact q
  · rw [List.getD_eq_getElem?_getD, List.getElem?_eq_none (show zRk.length ≤ a from q)] at h
    cases h
theorem zput_i {R : Nat} {h : Zh} {s : Zr} {a : Nat} (ha : a < zRN) : zi (zput R h s) (R + a) = s a := by
  funext j
  show (if R ≤ R + a ∧ R + a < R + zRN then s (R + a - R) j else _) = _
  rw [if_pos ⟨Nat.le_add_right _ _, Nat.add_lt_add_left ha _⟩, Nat.add_sub_cancel_left]
theorem zput_set {R : Nat} {h : Zh} {s : Zr} {a q : Nat} {x : Int32} (ha : a < zRN) : zsetI (zput R h s) (R + a) q x = zput R h (u2 s a q x) := by
  unfold zsetI zput
  refine Prod.ext rfl (Prod.ext rfl (Prod.ext ?_ rfl))
  funext v j
  show u2 _ _ _ _ v j = _
  unfold u2
  by_cases hv : v = R + a
  · subst hv
    have hr : R ≤ R + a ∧ R + a < R + zRN := ⟨Nat.le_add_right _ _, Nat.add_lt_add_left ha _⟩
    dsimp only
    rw [if_pos hr, if_pos hr, Nat.add_sub_cancel_left]
    by_cases hj : j = q
    · rw [if_pos ⟨rfl, hj⟩, if_pos ⟨rfl, hj⟩]
    · rw [if_neg (fun z => hj z.2), if_neg (fun z => hj z.2)]
  · rw [if_neg (fun z => hv z.1)]
    dsimp only
    by_cases hr : R ≤ v ∧ v < R + zRN
    · rw [if_pos hr, if_pos hr, if_neg (fun z => hv (by omega))]
    · rw [if_neg hr, if_neg hr]
theorem zput_put (R : Nat) (h : Zh) (s s' : Zr) : zput R (zput R h s) s' = zput R h s' := by
  unfold zput
  refine Prod.ext rfl (Prod.ext rfl (Prod.ext ?_ rfl))
  funext v j
  dsimp only
  by_cases hr : R ≤ v ∧ v < R + zRN
  · rw [if_pos hr, if_pos hr]
  · rw [if_neg hr, if_neg hr]
    show (if R ≤ v ∧ v < R + zRN then _ else _) = _
    rw [if_neg hr]
theorem zob_rf {R : Nat} {h : Zh} {s : Zr} {a k : Nat} (hF : zRF R h) (hk : zRk.getD a 0 = k + 1) : zob (zput R h s) (some (R + a)) (k + 1) = some (R + a) := by
  have ha := zRk_lt hk
  have h1 := (hF.2.1 a ha).1
  unfold zob
  rw [Option.bind_some, if_pos ⟨Nat.lt_of_lt_of_le (Nat.add_lt_add_left ha _) hF.1, by rw [← hk]; exact h1⟩]
section ZRr
variable {G : Zg} {y : MethodName} {cc : ByteArray} {nL dd : Nat} {ret : Option FieldType} {α β : Type} {rvf : α → Option Value} {hff : α → Zh} {e : Option α} {pc : Nat} {lv : List (Nat × Value)} {st rest : List Value} {R : Nat} {h : Zh} {s : Zr}
theorem z_fix {h1 : Zh} {E : Option β} {x0 : β} {pc2 : Nat} {lv2 : List (Nat × Value)} {st2 : β → List Value} {h2 : β → Zh} (hE : E = some x0) (rule : ∀ F : β → Option α, (∀ x, zTT G y cc nL dd ret rvf hff (F x) pc2 lv2 (st2 x) (h2 x)) → zTT G y cc nL dd ret rvf hff (E.bind F) pc lv st h1)
    (k : zTT G y cc nL dd ret rvf hff e pc2 lv2 (st2 x0) (h2 x0)) : zTT G y cc nL dd ret rvf hff e pc lv st h1 := by
  have h3 := rule (fun x => @ite _ (x = x0) (Classical.propDecidable _) e none) (fun x => by
    by_cases hx : x = x0
    · rw [if_pos hx, hx]; exact k
    · rw [if_neg hx]; intro a ha; cases ha)
  rw [hE] at h3
  have h4 : ((some x0).bind fun x => @ite _ (x = x0) (Classical.propDecidable _) e none) = e := by
    rw [Option.bind_some, if_pos rfl]
  rw [h4] at h3
  exact h3
theorem z_rgetI {k idx : Nat} (hF : zRF R h) (hd : decode cc pc = .ok (.getfield idx, 3)) (hk : k < 65) (hf : (zf 7).getD k false = false) (hlink : Cond.fieldLink y.cls idx (TX6 k).1 (TX6 k).2.1 (TX6 k).2.2.1 ∈ zT) (kk : zTT G y cc nL dd ret rvf hff e (pc + 3) lv (.int (s 0 k) :: st) (zput R h s)) : zTT G y cc nL dd ret rvf hff e pc lv (zrv G.2.1 (some R) :: st) (zput R h s) := by
  refine z_fix (E := zfI (zput R h s) (some R) 7 k) (x0 := s 0 k) (st2 := fun x => .int x :: st) ?_ (fun F q => z_getI hd zkl7 hk hf (.inl hlink) q) kk
  unfold zfI
  rw [show (some R : Option Nat) = some (R + 0) from rfl, zob_rf hF (k := 7) (by decide), Option.bind_some, zput_i (by decide)]
theorem z_rgetA {k a idx : Nat} (hF : zRF R h) (hd : decode cc pc = .ok (.getfield idx, 3)) (hk : k < 65) (hf : (zf 7).getD k false = true) (hlink : Cond.fieldLink y.cls idx (TX6 k).1 (TX6 k).2.1 (TX6 k).2.2.1 ∈ zT) (ha : zRs.getD k 0 = a + 1) (kk : zTT G y cc nL dd ret rvf hff e (pc + 3) lv (zrv G.2.1 (some (R + (a + 1))) :: st) (zput R h s)) : zTT G y cc nL dd ret rvf hff e pc lv (zrv G.2.1 (some R) :: st) (zput R h s) := by
  refine z_fix (E := zfP (zput R h s) (some R) 7 k) (x0 := some (R + (a + 1))) (st2 := fun x => zrv G.2.1 x :: st) ?_ (fun F q => z_getP hd zkl7 hk hf (.inl hlink) q) kk
  unfold zfP
  rw [show (some R : Option Nat) = some (R + 0) from rfl, zob_rf hF (k := 7) (by decide), Option.bind_some]
  show some (zp h (R + 0) k) = _
  rw [Nat.add_zero, hF.2.2 k hk (by rw [ha]; exact Nat.succ_ne_zero _), ha]
theorem z_rputI {k idx : Nat} {x : Int32} {F : Zr → Option α} (hF : zRF R h) (hd : decode cc pc = .ok (.putfield idx, 3)) (hk : k < 65) (hf : (zf 7).getD k false = false) (hlink : Cond.fieldLink y.cls idx (TX6 k).1 (TX6 k).2.1 (TX6 k).2.2.1 ∈ zT) (hfin : (TX6 k).2.2.2 = false) (hty : tyX6 k = .int) (kk : ∀ s', zTT G y cc nL dd ret rvf hff (F s') (pc + 3) lv st (zput R h s')) : zTT G y cc nL dd ret rvf hff ((some (u2 s 0 k x)).bind F) pc lv (.int x :: zrv G.2.1 (some R) :: st) (zput R h s) := by
  refine z_sb (z_fix (E := zgI (zput R h s) (some R) 7 k x) (x0 := zput R h (u2 s 0 k x)) (st2 := fun _ => st) (h2 := fun q => q) ?_ (fun F q => z_putI hd zkl7 hk (.inl hlink) (.inl hfin) (by rw [hty]; rfl) (by rw [hty]; rfl) hf q) (kk _))
  unfold zgI
  rw [show (some R : Option Nat) = some (R + 0) from rfl, zob_rf hF (k := 7) (by decide), Option.bind_some, zput_set (by decide)]
theorem z_riald {a : Nat} {j : Int32} {F : Int32 → Option α} (hF : zRF R h) (hd : decode cc pc = .ok (.iaload, 1)) (kk : ∀ x, zTT G y cc nL dd ret rvf hff (F x) (pc + 1) lv (.int x :: st) (zput R h s)) : zTT G y cc nL dd ret rvf hff ((rdI s a j).bind F) pc lv (.int j :: zrv G.2.1 (some (R + a)) :: st) (zput R h s) := by
  unfold rdI
  by_cases hk : zRk.getD a 0 = 100
  · rw [if_pos hk]
    cases hq : zix (zRl.getD a 0) j with
    | none => intro a ha; cases ha
    | some q =>
      refine z_fix (E := zaI (zput R h s) (some (R + a)) j) (x0 := s a q) (st2 := fun x => .int x :: st) ?_ (fun F q => z_iald hd q) (kk _)
      unfold zaI
      rw [zob_rf hF (k := 99) hk, Option.bind_some]
      show ((zix (zl h (R + a)) j).bind _) = _
      rw [(hF.2.1 a (zRk_lt (k := 99) hk)).2, hq, Option.bind_some, zput_i (zRk_lt (k := 99) hk)]
  · rw [if_neg hk]; intro a ha; cases ha
theorem z_rzald {a : Nat} {j : Int32} {F : Int32 → Option α} (hF : zRF R h) (hd : decode cc pc = .ok (.baload, 1)) (kk : ∀ x, zTT G y cc nL dd ret rvf hff (F x) (pc + 1) lv (.int x :: st) (zput R h s)) : zTT G y cc nL dd ret rvf hff ((rdZ s a j).bind F) pc lv (.int j :: zrv G.2.1 (some (R + a)) :: st) (zput R h s) := by
  unfold rdZ
  by_cases hk : zRk.getD a 0 = 101
  · rw [if_pos hk]
    cases hq : zix (zRl.getD a 0) j with
    | none => intro a ha; cases ha
    | some q =>
      refine z_fix (E := zaZ (zput R h s) (some (R + a)) j) (x0 := s a q) (st2 := fun x => .int x :: st) ?_ (fun F q => z_zald hd q) (kk _)
      unfold zaZ
      rw [zob_rf hF (k := 100) hk, Option.bind_some]
      show ((zix (zl h (R + a)) j).bind _) = _
      rw [(hF.2.1 a (zRk_lt (k := 100) hk)).2, hq, Option.bind_some, zput_i (zRk_lt (k := 100) hk)]
  · rw [if_neg hk]; intro a ha; cases ha
theorem z_riast {a : Nat} {j x : Int32} {F : Zr → Option α} (hF : zRF R h) (hd : decode cc pc = .ok (.iastore, 1)) (kk : ∀ s', zTT G y cc nL dd ret rvf hff (F s') (pc + 1) lv st (zput R h s')) : zTT G y cc nL dd ret rvf hff ((wrI s a j x).bind F) pc lv (.int x :: .int j :: zrv G.2.1 (some (R + a)) :: st) (zput R h s) := by
  unfold wrI
  by_cases hk : zRk.getD a 0 = 100
  · rw [if_pos hk]
    cases hq : zix (zRl.getD a 0) j with
    | none => intro a ha; cases ha
    | some q =>
      refine z_fix (E := zbI (zput R h s) (some (R + a)) j x) (x0 := zput R h (u2 s a q x)) (st2 := fun _ => st) (h2 := fun q => q) ?_ (fun F q => z_iast hd q) (kk _)
      unfold zbI
      rw [zob_rf hF (k := 99) hk, Option.bind_some]
      show ((zix (zl h (R + a)) j).bind _) = _
      rw [(hF.2.1 a (zRk_lt (k := 99) hk)).2, hq, Option.bind_some, zput_set (zRk_lt (k := 99) hk)]
  · rw [if_neg hk]; intro a ha; cases ha
theorem z_rzast {a : Nat} {j x : Int32} {F : Zr → Option α} (hF : zRF R h) (hd : decode cc pc = .ok (.bastore, 1)) (kk : ∀ s', zTT G y cc nL dd ret rvf hff (F s') (pc + 1) lv st (zput R h s')) : zTT G y cc nL dd ret rvf hff ((wrZ s a j x).bind F) pc lv (.int x :: .int j :: zrv G.2.1 (some (R + a)) :: st) (zput R h s) := by
  unfold wrZ
  by_cases hk : zRk.getD a 0 = 101
  · rw [if_pos hk]
    cases hq : zix (zRl.getD a 0) j with
    | none => intro a ha; cases ha
    | some q =>
      rw [Option.bind_some]
      cases hx : zbo x with
      | none => intro a ha; cases ha
      | some x' =>
        have hxx := (zbo_some hx).1
        subst hxx
        refine z_fix (E := zbZ (zput R h s) (some (R + a)) j x') (x0 := zput R h (u2 s a q x')) (st2 := fun _ => st) (h2 := fun q => q) ?_ (fun F q => z_zast hd q) (kk _)
        unfold zbZ
        rw [zob_rf hF (k := 100) hk, Option.bind_some]
        show ((zix (zl h (R + a)) j).bind _) = _
        rw [(hF.2.1 a (zRk_lt (k := 100) hk)).2, hq, Option.bind_some, hx, Option.bind_some, zput_set (zRk_lt (k := 100) hk)]
  · rw [if_neg hk]; intro a ha; cases ha
/-- calls whose end is a number, nothing, a reference -/
theorem zRrecv (hF : zRF R h) : R < zn (zput R h s) ∧ zk (zput R h s) R = 7 + 1 := ⟨Nat.lt_of_lt_of_le (Nat.lt_add_of_pos_right (by decide)) hF.1, (hF.2.1 0 (by decide)).1⟩
end ZRr
