/-! the class: Case.<init>, Case.put, Case.tell, Case.timesNamed, Case.row, Laying.<init>, Laying.costsOf, java/util/Arrays.fill, Laying.weighDeed, Laying.copy, Laying.inRow, Laying.cheaper, Laying.mixed, Laying.weighRounds, Laying.weighParts, Laying.weigh, java/lang/Integer.bitCount, Laying.numberOf, Laying.choose, Laying.lay, Piece.fewestOf, Piece.<init>, Share.<init>, Share.put, Share.leaveOutEmpty, Share.nameIn, Share.hasLongRow, Share.lookAt, Share.look, Share.within, Share.putStretches, Share.takeFrom, Share.closed, Share.partByNear, Share.cutsToChoice, Share.reaches -/
def fX0_init (h : Zh) (this : Option Nat) : Option (Zh) :=
  (zob h this 2).bind fun _ =>
  (zmA h 0 (24 : Int32)).bind fun ((r1, h2) : Option Nat × Zh) =>
  (zgP h2 this 1 0 r1).bind fun h3 =>
  some h3
set_option maxRecDepth 100000 in
set_option maxHeartbeats 4000000 in
theorem kX0_init (G : Zg) (h : Zh) (this : Option Nat) {x : Zh} (hx : fX0_init h this = some x) : zCt G yX0_init cX0_init 1 (Option.none : Option Jvm.ClassFile.FieldType) 1 [zrv G.2.1 this] h none x := by
  refine z_met (a := x) (rvf := fun (_ : Zh) => none) (hff := fun (x : Zh) => x) (lv := [(0, zrv G.2.1 this)]) (by decide +kernel) (by simp [lg_sl, zcat1, zcI, zcJ]) (by simp [lv_args, zcat1, zcI, zcJ]) ?_ hx
  unfold fX0_init
  refine z_aload_n (j := 0) dX0_init_0 rfl rfl ?_
  refine z_objI2 dX0_init_1 zw323 zw65 zw66 (by decide) (by decide) (fun _ => ?_)
  refine z_aload_n (j := 0) dX0_init_4 rfl rfl ?_
  refine z_bipush (v := 24) dX0_init_5 (by decide) ?_
  refine z_newA (t := 0) dX0_init_7 (.inl ⟨rfl, rfl⟩) zw101 (fun r1 h2 => ?_)
  try dsimp only
  refine z_putP (k := 0) dX0_init_9 zkl1 (by decide) (.inl zw324) (.inr ⟨rfl, rfl, rfl, zw324⟩) (fun a => by cases a <;> exact ⟨rfl, rfl⟩) rfl (fun h3 => ?_)
  exact z_vret dX0_init_12 rfl rfl rfl
def fX0_put (h : Zh) (this : Option Nat) (a1 : Int32) (a2 : Int32) (a3 : Int32) (a4 : Int32) : Option (Zh) :=
  (zfI h this 1 1).bind fun x1 =>
  if x1 < (6 : Int32) then
    (zfI h this 1 1).bind fun x2 =>
    (zfP h this 1 0).bind fun r3 =>
    (zbI h r3 ((x2 * (4 : Int32)) + (0 : Int32)) a1).bind fun h4 =>
    (zfP h4 this 1 0).bind fun r5 =>
    (zbI h4 r5 ((x2 * (4 : Int32)) + (1 : Int32)) a2).bind fun h6 =>
    (zfP h6 this 1 0).bind fun r7 =>
    (zbI h6 r7 ((x2 * (4 : Int32)) + (2 : Int32)) a3).bind fun h8 =>
    (zfP h8 this 1 0).bind fun r9 =>
    (zbI h8 r9 ((x2 * (4 : Int32)) + (3 : Int32)) a4).bind fun h10 =>
    (zfI h10 this 1 1).bind fun x11 =>
    (zgI h10 this 1 1 (x11 + (1 : Int32))).bind fun h12 =>
    some h12
  else
    some h
set_option maxRecDepth 100000 in
set_option maxHeartbeats 4000000 in
theorem kX0_put (G : Zg) (h : Zh) (this : Option Nat) (a1 : Int32) (a2 : Int32) (a3 : Int32) (a4 : Int32) {x : Zh} (hx : fX0_put h this a1 a2 a3 a4 = some x) : zCt G yX0_put cX0_put 6 (Option.none : Option Jvm.ClassFile.FieldType) 1 [zrv G.2.1 this, .int a1, .int a2, .int a3, .int a4] h none x := by
  refine z_met (a := x) (rvf := fun (_ : Zh) => none) (hff := fun (x : Zh) => x) (lv := [(0, zrv G.2.1 this), (1, .int a1), (2, .int a2), (3, .int a3), (4, .int a4)]) (by decide +kernel) (by simp [lg_sl, zcat1, zcI, zcJ]) (by simp [lv_args, zcat1, zcI, zcJ]) ?_ hx
  unfold fX0_put
  refine z_aload_n (j := 0) dX0_put_0 rfl rfl ?_
  refine z_getI (k := 1) dX0_put_1 zkl1 (by decide) rfl (.inl zw325) (fun x1 => ?_)
  refine z_bipush (v := 6) dX0_put_4 (by decide) ?_
  refine z_icmp_lt (tgt := 10) dX0_put_6 (by decide) (fun _ => ?_) (fun _ => ?_)
  · refine z_aload_n (j := 0) dX0_put_10 rfl rfl ?_
    refine z_getI (k := 1) dX0_put_11 zkl1 (by decide) rfl (.inl zw325) (fun x2 => ?_)
    refine z_iconst (v := 4) dX0_put_14 (by decide) ?_
    refine z_imul dX0_put_15 ?_
    refine z_istore (i := 5) (lv' := [(5, .int (x2 * (4 : Int32))), (0, zrv G.2.1 this), (1, .int a1), (2, .int a2), (3, .int a3), (4, .int a4)]) dX0_put_16 (by decide) rfl ?_
    refine z_aload_n (j := 1) dX0_put_18 rfl rfl ?_
    refine z_getP (k := 0) dX0_put_19 zkl1 (by decide) rfl (.inl zw324) (fun r3 => ?_)
    refine z_iload (j := 0) dX0_put_22 rfl ?_
    refine z_iconst (v := 0) dX0_put_24 (by decide) ?_
    refine z_iadd dX0_put_25 ?_
    refine z_iload_n (j := 2) dX0_put_26 rfl rfl ?_
    refine z_iast dX0_put_27 (fun h4 => ?_)
    refine z_aload_n (j := 1) dX0_put_28 rfl rfl ?_
    refine z_getP (k := 0) dX0_put_29 zkl1 (by decide) rfl (.inl zw324) (fun r5 => ?_)
    refine z_iload (j := 0) dX0_put_32 rfl ?_
    refine z_iconst (v := 1) dX0_put_34 (by decide) ?_
    refine z_iadd dX0_put_35 ?_
    refine z_iload_n (j := 3) dX0_put_36 rfl rfl ?_
    refine z_iast dX0_put_37 (fun h6 => ?_)
    refine z_aload_n (j := 1) dX0_put_38 rfl rfl ?_
    refine z_getP (k := 0) dX0_put_39 zkl1 (by decide) rfl (.inl zw324) (fun r7 => ?_)
    refine z_iload (j := 0) dX0_put_42 rfl ?_
    refine z_iconst (v := 2) dX0_put_44 (by decide) ?_
    refine z_iadd dX0_put_45 ?_
    refine z_iload_n (j := 4) dX0_put_46 rfl rfl ?_
    refine z_iast dX0_put_47 (fun h8 => ?_)
    refine z_aload_n (j := 1) dX0_put_48 rfl rfl ?_
    refine z_getP (k := 0) dX0_put_49 zkl1 (by decide) rfl (.inl zw324) (fun r9 => ?_)
    refine z_iload (j := 0) dX0_put_52 rfl ?_
    refine z_iconst (v := 3) dX0_put_54 (by decide) ?_
    refine z_iadd dX0_put_55 ?_
    refine z_iload (j := 5) dX0_put_56 rfl ?_
    refine z_iast dX0_put_58 (fun h10 => ?_)
    refine z_aload_n (j := 1) dX0_put_59 rfl rfl ?_
    refine z_dup dX0_put_60 (zcat1 _ _) ?_
    refine z_getI (k := 1) dX0_put_61 zkl1 (by decide) rfl (.inl zw325) (fun x11 => ?_)
    refine z_iconst (v := 1) dX0_put_64 (by decide) ?_
    refine z_iadd dX0_put_65 ?_
    refine z_putI (k := 1) dX0_put_66 zkl1 (by decide) (.inl zw325) (.inl rfl) rfl rfl rfl (fun h12 => ?_)
    exact z_vret dX0_put_69 rfl rfl rfl
  · exact z_vret dX0_put_9 rfl rfl rfl
def fX0_tell (h : Zh) (this : Option Nat) (a1 : Int32) (a2 : Int32) : Option (Int32) :=
  (if ((a1 * (4 : Int32)) + a2) < 0 then
    some (-1 : Int32)
  else
    (zfP h this 1 0).bind fun r3 =>
    (zaL h r3 0).bind fun x4 =>
    if x4 ≤ ((a1 * (4 : Int32)) + a2) then
      some (-1 : Int32)
    else
      (zfP h this 1 0).bind fun r5 =>
      (zaI h r5 ((a1 * (4 : Int32)) + a2)).bind fun x6 =>
      some x6).bind fun (v1 : Int32) =>
  some v1
set_option maxRecDepth 100000 in
set_option maxHeartbeats 4000000 in
theorem kX0_tell (G : Zg) (h : Zh) (this : Option Nat) (a1 : Int32) (a2 : Int32) {x : Int32} (hx : fX0_tell h this a1 a2 = some x) : zCt G yX0_tell cX0_tell 4 (Option.some Jvm.ClassFile.FieldType.int) 1 [zrv G.2.1 this, .int a1, .int a2] h (some (.int x)) h := by
  refine z_met (a := x) (rvf := fun (x : Int32) => some (.int x)) (hff := fun (_ : Int32) => h) (lv := [(0, zrv G.2.1 this), (1, .int a1), (2, .int a2)]) (by decide +kernel) (by simp [lg_sl, zcat1, zcI, zcJ]) (by simp [lv_args, zcat1, zcI, zcJ]) ?_ hx
  unfold fX0_tell
  refine z_iload_n (j := 1) dX0_tell_0 rfl rfl ?_
  refine z_iconst (v := 4) dX0_tell_1 (by decide) ?_
  refine z_imul dX0_tell_2 ?_
  refine z_iload_n (j := 2) dX0_tell_3 rfl rfl ?_
  refine z_iadd dX0_tell_4 ?_
  refine z_istore_n (i := 3) (lv' := [(3, .int ((a1 * (4 : Int32)) + a2)), (0, zrv G.2.1 this), (1, .int a1), (2, .int a2)]) dX0_tell_5 rfl (by decide) rfl ?_
  refine z_iload_n (j := 0) dX0_tell_6 rfl rfl ?_
  refine z_join (pc2 := 29) (lv2 := fun (q : Int32) => []) (st2 := fun (q : Int32) => [.int q]) (h2 := fun (q : Int32) => h) (fun q => ?_) (fun F2 kF2 => ?_)
  · obtain ⟨v1, e0⟩ : ∃ z, z = q := ⟨_, rfl⟩
    subst e0
    try dsimp only
    exact z_iret dX0_tell_29 rfl rfl rfl rfl
  · refine z_itb ?_
    refine z_if_lt (tgt := 28) dX0_tell_7 (by decide) (fun _ => ?_) (fun _ => ?_)
    · refine z_iconst (v := -1) dX0_tell_28 (by decide) ?_
      refine z_sb ?_
      refine z_at [] rfl ?_
      exact kF2 (-1 : Int32)
    · refine z_iload_n (j := 0) dX0_tell_10 rfl rfl ?_
      refine z_aload_n (j := 1) dX0_tell_11 rfl rfl ?_
      refine z_as ?_
      refine z_getP (k := 0) dX0_tell_12 zkl1 (by decide) rfl (.inl zw324) (fun r3 => ?_)
      refine z_as ?_
      refine z_alen dX0_tell_15 (by decide) (fun x4 => ?_)
      refine z_itb ?_
      refine z_icmp_ge (tgt := 28) dX0_tell_16 (by decide) (fun _ => ?_) (fun _ => ?_)
      · refine z_iconst (v := -1) dX0_tell_28 (by decide) ?_
        refine z_sb ?_
        refine z_at [] rfl ?_
        exact kF2 (-1 : Int32)
      · refine z_aload_n (j := 1) dX0_tell_19 rfl rfl ?_
        refine z_as ?_
        refine z_getP (k := 0) dX0_tell_20 zkl1 (by decide) rfl (.inl zw324) (fun r5 => ?_)
        refine z_iload_n (j := 0) dX0_tell_23 rfl rfl ?_
        refine z_as ?_
        refine z_iald dX0_tell_24 (fun x6 => ?_)
        refine z_goto (tgt := 29) dX0_tell_25 (by decide) ?_
        refine z_sb ?_
        refine z_at [] rfl ?_
        exact kF2 x6
def fX0_timesNamed (h : Zh) (this : Option Nat) (a1 : Int32) : Option (Int32) :=
  (zloop (fun ((v1, v2) : Int32 × Int32) =>
    ((zfI h this 1 1).bind fun x6 =>
    if x6 ≤ v2 then
      some (.inr v1)
    else
      (zob h this 2).bind fun p7 =>
      (fX0_tell h (some p7) v2 (0 : Int32)).bind fun x8 =>
      (if x8 = a1 then
        some (v1 + (1 : Int32))
      else
        some v1).bind fun (v9 : Int32) =>
      some (.inl (v9, v2 + (1 : Int32))) : Option ((Int32 × Int32) ⊕ Int32))) zFU ((0 : Int32), (0 : Int32))).bind fun (w3 : Int32) =>
  some w3
set_option maxRecDepth 100000 in
set_option maxHeartbeats 4000000 in
theorem kX0_timesNamed (G : Zg) (h : Zh) (this : Option Nat) (a1 : Int32) {x : Int32} (hx : fX0_timesNamed h this a1 = some x) : zCt G yX0_timesNamed cX0_timesNamed 4 (Option.some Jvm.ClassFile.FieldType.int) 2 [zrv G.2.1 this, .int a1] h (some (.int x)) h := by
  refine z_met (a := x) (rvf := fun (x : Int32) => some (.int x)) (hff := fun (_ : Int32) => h) (lv := [(0, zrv G.2.1 this), (1, .int a1)]) (by decide +kernel) (by simp [lg_sl, zcat1, zcI, zcJ]) (by simp [lv_args, zcat1, zcI, zcJ]) ?_ hx
  unfold fX0_timesNamed
  refine z_iconst (v := 0) dX0_timesNamed_0 (by decide) ?_
  refine z_istore_n (i := 2) (lv' := [(2, .int (0 : Int32)), (0, zrv G.2.1 this), (1, .int a1)]) dX0_timesNamed_1 rfl (by decide) rfl ?_
  refine z_iconst (v := 0) dX0_timesNamed_2 (by decide) ?_
  refine z_istore_n (i := 3) (lv' := [(3, .int (0 : Int32)), (2, .int (0 : Int32)), (0, zrv G.2.1 this), (1, .int a1)]) dX0_timesNamed_3 rfl (by decide) rfl ?_
  refine z_at [2, 3, 1, 0] rfl ?_
  refine z_join (pc2 := 31) (lv2 := fun (q : Int32) => [(2, .int q)]) (st2 := fun _ => []) (h2 := fun (q : Int32) => h) (fun q => ?_) (fun F4 kF4 => ?_)
  · obtain ⟨w3, e0⟩ : ∃ z, z = q := ⟨_, rfl⟩
    subst e0
    try dsimp only
    refine z_iload_n (j := 0) dX0_timesNamed_31 rfl rfl ?_
    exact z_iret dX0_timesNamed_32 rfl rfl rfl rfl
  · refine z_loop (lvf := fun (q : Int32 × Int32) => [(0, zrv G.2.1 this), (1, .int a1), (2, .int q.1), (3, .int q.2)]) (hf2 := fun (q : Int32 × Int32) => h) (s0 := ((0 : Int32), (0 : Int32))) (fun K5 bK5 rK5 q => ?_)
    obtain ⟨v1, v2⟩ := q
    try dsimp only
    refine z_iload_n (j := 3) dX0_timesNamed_4 rfl rfl ?_
    refine z_aload_n (j := 0) dX0_timesNamed_5 rfl rfl ?_
    refine z_as ?_
    refine z_getI (k := 1) dX0_timesNamed_6 zkl1 (by decide) rfl (.inl zw325) (fun x6 => ?_)
    refine z_itb ?_
    refine z_icmp_ge (tgt := 31) dX0_timesNamed_9 (by decide) (fun _ => ?_) (fun _ => ?_)
    · refine z_sb ?_
      refine z_eq (rK5 _) ?_
      refine z_at [2] rfl ?_
      exact kF4 v1
    · refine z_aload_n (j := 0) dX0_timesNamed_12 rfl rfl ?_
      refine z_iload_n (j := 3) dX0_timesNamed_13 rfl rfl ?_
      refine z_iconst (v := 0) dX0_timesNamed_14 (by decide) ?_
      refine z_as ?_
      refine z_ob (fun p7 ep7 lp7 kp7 => ?_)
      refine z_as ?_
      refine z_callV (As := [.int v2, .int (0 : Int32)]) (rest := []) (rv2 := fun (x : Int32) => some (.int x)) (h2 := fun (_ : Int32) => h) dX0_timesNamed_15 vX0_tell (.inl zw292) (by decide) zkl1 lp7 kp7 rfl (by rw [ep7]; rfl) (by decide) (fun x hx => kX0_tell G h (some p7) v2 (0 : Int32) hx) (fun x8 => ?_)
      try dsimp only [Option.toList, List.cons_append, List.nil_append]
      refine z_iload_n (j := 1) dX0_timesNamed_18 rfl rfl ?_
      refine z_as ?_
      refine z_join (pc2 := 25) (lv2 := fun (q : Int32) => [(0, zrv G.2.1 this), (1, .int a1), (2, .int q), (3, .int v2)]) (st2 := fun (q : Int32) => []) (h2 := fun (q : Int32) => h) (fun q => ?_) (fun F10 kF10 => ?_)
      · obtain ⟨v9, e0⟩ : ∃ z, z = q := ⟨_, rfl⟩
        subst e0
        try dsimp only
        refine z_iinc (j := 3) (v := v2 + (1 : Int32)) (lv' := [(3, .int (v2 + (1 : Int32))), (0, zrv G.2.1 this), (1, .int a1), (2, .int v9)]) dX0_timesNamed_25 rfl rfl (by decide) rfl ?_
        refine z_goto (tgt := 4) dX0_timesNamed_28 (by decide) ?_
        refine z_sb ?_
        refine z_at [1, 2, 3, 0] rfl ?_
        exact bK5 (v9, v2 + (1 : Int32))
      · refine z_itb ?_
        refine z_icmp_ne (tgt := 25) dX0_timesNamed_19 (by decide) (fun _ => ?_) (fun _ => ?_)
        · refine z_iinc (j := 2) (v := v1 + (1 : Int32)) (lv' := [(2, .int (v1 + (1 : Int32))), (0, zrv G.2.1 this), (1, .int a1), (3, .int v2)]) dX0_timesNamed_22 rfl rfl (by decide) rfl ?_
          refine z_sb ?_
          refine z_at [1, 2, 0, 3] rfl ?_
          exact kF10 (v1 + (1 : Int32))
        · refine z_sb ?_
          refine z_at [0, 1, 2, 3] rfl ?_
          exact kF10 v1
def fX0_row (h : Zh) (this : Option Nat) : Option (Int32) :=
  (zloop (fun ((v1, v2) : Int32 × Int32) =>
    ((zfI h this 1 1).bind fun x6 =>
    if x6 ≤ v2 then
      some (.inr v1)
    else
      (zob h this 2).bind fun p7 =>
      (fX0_tell h (some p7) v2 (0 : Int32)).bind fun x8 =>
      some (.inl (v1 ||| ((x8 + (1 : Int32)) <<< ((v2 * (4 : Int32)) &&& 31)), v2 + (1 : Int32))) : Option ((Int32 × Int32) ⊕ Int32))) zFU ((0 : Int32), (0 : Int32))).bind fun (w3 : Int32) =>
  some w3
set_option maxRecDepth 100000 in
set_option maxHeartbeats 4000000 in
theorem kX0_row (G : Zg) (h : Zh) (this : Option Nat) {x : Int32} (hx : fX0_row h this = some x) : zCt G yX0_row cX0_row 3 (Option.some Jvm.ClassFile.FieldType.int) 2 [zrv G.2.1 this] h (some (.int x)) h := by
  refine z_met (a := x) (rvf := fun (x : Int32) => some (.int x)) (hff := fun (_ : Int32) => h) (lv := [(0, zrv G.2.1 this)]) (by decide +kernel) (by simp [lg_sl, zcat1, zcI, zcJ]) (by simp [lv_args, zcat1, zcI, zcJ]) ?_ hx
  unfold fX0_row
  refine z_iconst (v := 0) dX0_row_0 (by decide) ?_
  refine z_istore_n (i := 1) (lv' := [(1, .int (0 : Int32)), (0, zrv G.2.1 this)]) dX0_row_1 rfl (by decide) (by simp [zcat1, zcI, zcJ]) ?_
  refine z_iconst (v := 0) dX0_row_2 (by decide) ?_
  refine z_istore_n (i := 2) (lv' := [(2, .int (0 : Int32)), (1, .int (0 : Int32)), (0, zrv G.2.1 this)]) dX0_row_3 rfl (by decide) rfl ?_
  refine z_at [2, 1, 0] rfl ?_
  refine z_join (pc2 := 33) (lv2 := fun (q : Int32) => [(1, .int q)]) (st2 := fun _ => []) (h2 := fun (q : Int32) => h) (fun q => ?_) (fun F4 kF4 => ?_)
  · obtain ⟨w3, e0⟩ : ∃ z, z = q := ⟨_, rfl⟩
    subst e0
    try dsimp only
    refine z_iload_n (j := 0) dX0_row_33 rfl rfl ?_
    exact z_iret dX0_row_34 rfl rfl rfl rfl
  · refine z_loop (lvf := fun (q : Int32 × Int32) => [(0, zrv G.2.1 this), (1, .int q.1), (2, .int q.2)]) (hf2 := fun (q : Int32 × Int32) => h) (s0 := ((0 : Int32), (0 : Int32))) (fun K5 bK5 rK5 q => ?_)
    obtain ⟨v1, v2⟩ := q
    try dsimp only
    refine z_iload_n (j := 2) dX0_row_4 rfl rfl ?_
    refine z_aload_n (j := 0) dX0_row_5 rfl rfl ?_
    refine z_as ?_
    refine z_getI (k := 1) dX0_row_6 zkl1 (by decide) rfl (.inl zw325) (fun x6 => ?_)
    refine z_itb ?_
    refine z_icmp_ge (tgt := 33) dX0_row_9 (by decide) (fun _ => ?_) (fun _ => ?_)
    · refine z_sb ?_
      refine z_eq (rK5 _) ?_
      refine z_at [1] rfl ?_
      exact kF4 v1
    · refine z_iload_n (j := 1) dX0_row_12 rfl rfl ?_
      refine z_aload_n (j := 0) dX0_row_13 rfl rfl ?_
      refine z_iload_n (j := 2) dX0_row_14 rfl rfl ?_
      refine z_iconst (v := 0) dX0_row_15 (by decide) ?_
      refine z_as ?_
      refine z_ob (fun p7 ep7 lp7 kp7 => ?_)
      refine z_as ?_
      refine z_callV (As := [.int v2, .int (0 : Int32)]) (rest := [.int v1]) (rv2 := fun (x : Int32) => some (.int x)) (h2 := fun (_ : Int32) => h) dX0_row_16 vX0_tell (.inl zw292) (by decide) zkl1 lp7 kp7 rfl (by rw [ep7]; rfl) (by simp [zcat1, zcI, zcJ]) (fun x hx => kX0_tell G h (some p7) v2 (0 : Int32) hx) (fun x8 => ?_)
      try dsimp only [Option.toList, List.cons_append, List.nil_append]
      refine z_iconst (v := 1) dX0_row_19 (by decide) ?_
      refine z_iadd dX0_row_20 ?_
      refine z_iload_n (j := 2) dX0_row_21 rfl rfl ?_
      refine z_iconst (v := 4) dX0_row_22 (by decide) ?_
      refine z_imul dX0_row_23 ?_
      refine z_ishl dX0_row_24 ?_
      refine z_ior dX0_row_25 ?_
      refine z_istore_n (i := 1) (lv' := [(1, .int (v1 ||| ((x8 + (1 : Int32)) <<< ((v2 * (4 : Int32)) &&& 31)))), (0, zrv G.2.1 this), (2, .int v2)]) dX0_row_26 rfl (by decide) (by simp [zcat1, zcI, zcJ]) ?_
      refine z_iinc (j := 2) (v := v2 + (1 : Int32)) (lv' := [(2, .int (v2 + (1 : Int32))), (1, .int (v1 ||| ((x8 + (1 : Int32)) <<< ((v2 * (4 : Int32)) &&& 31)))), (0, zrv G.2.1 this)]) dX0_row_27 rfl rfl (by decide) rfl ?_
      refine z_goto (tgt := 4) dX0_row_30 (by decide) ?_
      refine z_sb ?_
      refine z_at [2, 1, 0] rfl ?_
      exact bK5 (v1 ||| ((x8 + (1 : Int32)) <<< ((v2 * (4 : Int32)) &&& 31)), v2 + (1 : Int32))
def fX1_init (h : Zh) (this : Option Nat) : Option (Zh) :=
  (zob h this 3).bind fun _ =>
  (zmA h 0 (6 : Int32)).bind fun ((r1, h2) : Option Nat × Zh) =>
  (zgP h2 this 2 0 r1).bind fun h3 =>
  (zmA h3 0 (64 : Int32)).bind fun ((r4, h5) : Option Nat × Zh) =>
  (zgP h5 this 2 3 r4).bind fun h6 =>
  (zmA h6 0 (64 : Int32)).bind fun ((r7, h8) : Option Nat × Zh) =>
  (zgP h8 this 2 4 r7).bind fun h9 =>
  some h9
set_option maxRecDepth 100000 in
set_option maxHeartbeats 4000000 in
theorem kX1_init (G : Zg) (h : Zh) (this : Option Nat) {x : Zh} (hx : fX1_init h this = some x) : zCt G yX1_init cX1_init 1 (Option.none : Option Jvm.ClassFile.FieldType) 1 [zrv G.2.1 this] h none x := by
  refine z_met (a := x) (rvf := fun (_ : Zh) => none) (hff := fun (x : Zh) => x) (lv := [(0, zrv G.2.1 this)]) (by decide +kernel) (by simp [lg_sl, zcat1, zcI, zcJ]) (by simp [lv_args, zcat1, zcI, zcJ]) ?_ hx
  unfold fX1_init
  refine z_aload_n (j := 0) dX1_init_0 rfl rfl ?_
  refine z_objI2 dX1_init_1 zw76 zw65 zw66 (by decide) (by decide) (fun _ => ?_)
  refine z_aload_n (j := 0) dX1_init_4 rfl rfl ?_
  refine z_bipush (v := 6) dX1_init_5 (by decide) ?_
  refine z_newA (t := 0) dX1_init_7 (.inl ⟨rfl, rfl⟩) zw101 (fun r1 h2 => ?_)
  try dsimp only
  refine z_putP (k := 0) dX1_init_9 zkl2 (by decide) (.inl zw77) (.inr ⟨rfl, rfl, rfl, zw77⟩) (fun a => by cases a <;> exact ⟨rfl, rfl⟩) rfl (fun h3 => ?_)
  refine z_aload_n (j := 0) dX1_init_12 rfl rfl ?_
  refine z_bipush (v := 64) dX1_init_13 (by decide) ?_
  refine z_newA (t := 0) dX1_init_15 (.inl ⟨rfl, rfl⟩) zw101 (fun r4 h5 => ?_)
  try dsimp only
  refine z_putP (k := 3) dX1_init_17 zkl2 (by decide) (.inl zw80) (.inr ⟨rfl, rfl, rfl, zw80⟩) (fun a => by cases a <;> exact ⟨rfl, rfl⟩) rfl (fun h6 => ?_)
  refine z_aload_n (j := 0) dX1_init_20 rfl rfl ?_
  refine z_bipush (v := 64) dX1_init_21 (by decide) ?_
  refine z_newA (t := 0) dX1_init_23 (.inl ⟨rfl, rfl⟩) zw101 (fun r7 h8 => ?_)
  try dsimp only
  refine z_putP (k := 4) dX1_init_25 zkl2 (by decide) (.inl zw81) (.inr ⟨rfl, rfl, rfl, zw81⟩) (fun a => by cases a <;> exact ⟨rfl, rfl⟩) rfl (fun h9 => ?_)
  exact z_vret dX1_init_28 rfl rfl rfl
def fX1_costsOf (h : Zh) (a1 : Option Nat) : Option (Option Nat × Zh) :=
  (zfP h a1 3 6).bind fun r1 =>
  (if r1 = none then
    (zmA h 0 (64 : Int32)).bind fun ((r4, h5) : Option Nat × Zh) =>
    (zgP h5 a1 3 6 r4).bind fun h6 =>
    some h6
  else
    some h).bind fun (h2 : Zh) =>
  (zfP h2 a1 3 6).bind fun r7 =>
  some (r7, h2)
set_option maxRecDepth 100000 in
set_option maxHeartbeats 4000000 in
theorem kX1_costsOf (G : Zg) (h : Zh) (a1 : Option Nat) {x : Option Nat × Zh} (hx : fX1_costsOf h a1 = some x) : zCt G yX1_costsOf cX1_costsOf 1 (Option.some (Jvm.ClassFile.FieldType.array Jvm.ClassFile.FieldType.int)) 1 [zrv G.2.1 a1] h (some (zrv G.2.1 x.1)) x.2 := by
  refine z_met (a := x) (rvf := fun (x : Option Nat × Zh) => some (zrv G.2.1 x.1)) (hff := fun (x : Option Nat × Zh) => x.2) (lv := [(0, zrv G.2.1 a1)]) (by decide +kernel) (by simp [lg_sl, zcat1, zcI, zcJ]) (by simp [lv_args, zcat1, zcI, zcJ]) ?_ hx
  unfold fX1_costsOf
  refine z_aload_n (j := 0) dX1_costsOf_0 rfl rfl ?_
  refine z_getP (k := 6) dX1_costsOf_1 zkl3 (by decide) rfl (.inr ⟨_, zw391⟩) (fun r1 => ?_)
  refine z_join (pc2 := 15) (lv2 := fun (q : Zh) => [(0, zrv G.2.1 a1)]) (st2 := fun (q : Zh) => []) (h2 := fun (q : Zh) => q) (fun q => ?_) (fun F3 kF3 => ?_)
  · obtain ⟨h2, e0⟩ : ∃ z, z = q := ⟨_, rfl⟩
    subst e0
    try dsimp only
    refine z_aload_n (j := 0) dX1_costsOf_15 rfl rfl ?_
    refine z_getP (k := 6) dX1_costsOf_16 zkl3 (by decide) rfl (.inr ⟨_, zw391⟩) (fun r7 => ?_)
    exact z_aret (b := G.2.1) (r := r7) dX1_costsOf_19 rfl (.inr ⟨_, rfl⟩) rfl rfl
  · refine z_itb ?_
    refine z_ifnonnull (tgt := 15) dX1_costsOf_4 (by decide) (fun _ => ?_) (fun _ => ?_)
    · refine z_aload_n (j := 0) dX1_costsOf_7 rfl rfl ?_
      refine z_bipush (v := 64) dX1_costsOf_8 (by decide) ?_
      refine z_as ?_
      refine z_newA (t := 0) dX1_costsOf_10 (.inl ⟨rfl, rfl⟩) zw101 (fun r4 h5 => ?_)
      try dsimp only
      refine z_as ?_
      refine z_putP (k := 6) dX1_costsOf_12 zkl3 (by decide) (.inr ⟨_, zw391⟩) (.inl rfl) (fun a => by cases a <;> exact ⟨rfl, rfl⟩) rfl (fun h6 => ?_)
      refine z_sb ?_
      refine z_at [0] rfl ?_
      exact kF3 h6
    · refine z_sb ?_
      refine z_at [0] rfl ?_
      exact kF3 h
def fJ7_fill_53178 (h : Zh) (a1 : Option Nat) (a2 : Int32) : Option (Zh) :=
  (zaL h a1 0).bind fun x1 =>
  (zloop (fun ((v2, h3) : Int32 × Zh) =>
    (if x1 ≤ v2 then
      some (.inr h3)
    else
      (zbI h3 a1 v2 a2).bind fun h7 =>
      some (.inl (v2 + (1 : Int32), h7)) : Option ((Int32 × Zh) ⊕ Zh))) zFU ((0 : Int32), h)).bind fun (h4 : Zh) =>
  some h4
set_option maxRecDepth 100000 in
set_option maxHeartbeats 4000000 in
theorem kJ7_fill_53178 (G : Zg) (h : Zh) (a1 : Option Nat) (a2 : Int32) {x : Zh} (hx : fJ7_fill_53178 h a1 a2 = some x) : zCt G yJ7_fill_53178 cJ7_fill_53178 4 (Option.none : Option Jvm.ClassFile.FieldType) 1 [zrv G.2.1 a1, .int a2] h none x := by
  refine z_met (a := x) (rvf := fun (_ : Zh) => none) (hff := fun (x : Zh) => x) (lv := [(0, zrv G.2.1 a1), (1, .int a2)]) (by decide +kernel) (by simp [lg_sl, zcat1, zcI, zcJ]) (by simp [lv_args, zcat1, zcI, zcJ]) ?_ hx
  unfold fJ7_fill_53178
  refine z_iconst (v := 0) dJ7_fill_53178_0 (by decide) ?_
  refine z_istore_n (i := 2) (lv' := [(2, .int (0 : Int32)), (0, zrv G.2.1 a1), (1, .int a2)]) dJ7_fill_53178_1 rfl (by decide) rfl ?_
  refine z_aload_n (j := 1) dJ7_fill_53178_2 rfl rfl ?_
  refine z_alen dJ7_fill_53178_3 (by decide) (fun x1 => ?_)
  refine z_istore_n (i := 3) (lv' := [(3, .int x1), (2, .int (0 : Int32)), (0, zrv G.2.1 a1), (1, .int a2)]) dJ7_fill_53178_4 rfl (by decide) rfl ?_
  refine z_at [2, 3, 1, 0] rfl ?_
  refine z_join (pc2 := 20) (lv2 := fun (q : Zh) => []) (st2 := fun _ => []) (h2 := fun (q : Zh) => q) (fun q => ?_) (fun F5 kF5 => ?_)
  · obtain ⟨h4, e0⟩ : ∃ z, z = q := ⟨_, rfl⟩
    subst e0
    try dsimp only
    exact z_vret dJ7_fill_53178_20 rfl rfl rfl
  · refine z_loop (lvf := fun (q : Int32 × Zh) => [(0, zrv G.2.1 a1), (1, .int a2), (2, .int q.1), (3, .int x1)]) (hf2 := fun (q : Int32 × Zh) => q.2) (s0 := ((0 : Int32), h)) (fun K6 bK6 rK6 q => ?_)
    obtain ⟨v2, h3⟩ := q
    try dsimp only
    refine z_iload_n (j := 2) dJ7_fill_53178_5 rfl rfl ?_
    refine z_iload_n (j := 3) dJ7_fill_53178_6 rfl rfl ?_
    refine z_itb ?_
    refine z_icmp_ge (tgt := 20) dJ7_fill_53178_7 (by decide) (fun _ => ?_) (fun _ => ?_)
    · refine z_sb ?_
      refine z_eq (rK6 _) ?_
      refine z_at [] rfl ?_
      exact kF5 h3
    · refine z_aload_n (j := 0) dJ7_fill_53178_10 rfl rfl ?_
      refine z_iload_n (j := 2) dJ7_fill_53178_11 rfl rfl ?_
      refine z_iload_n (j := 1) dJ7_fill_53178_12 rfl rfl ?_
      refine z_as ?_
      refine z_iast dJ7_fill_53178_13 (fun h7 => ?_)
      refine z_iinc (j := 2) (v := v2 + (1 : Int32)) (lv' := [(2, .int (v2 + (1 : Int32))), (0, zrv G.2.1 a1), (1, .int a2), (3, .int x1)]) dJ7_fill_53178_14 rfl rfl (by decide) rfl ?_
      refine z_goto (tgt := 5) dJ7_fill_53178_17 (by decide) ?_
      refine z_sb ?_
      refine z_at [1, 2, 0, 3] rfl ?_
      exact bK6 (v2 + (1 : Int32), h7)
def fX1_weighDeed (h : Zh) (this : Option Nat) (a1 : Option Nat) (a2 : Option Nat) : Option (Zh) :=
  (fJ7_fill_53178 h a1 (1000000 : Int32)).bind fun h1 =>
  (zfI h1 a2 3 4).bind fun x2 =>
  (zbI h1 a1 (0 : Int32) x2).bind fun h3 =>
  (zloop (fun ((v4, h5) : Int32 × Zh) =>
    ((zfI h5 this 2 1).bind fun x9 =>
    if x9 ≤ v4 then
      some (.inr h5)
    else
      (zfP h5 this 2 0).bind fun r10 =>
      (zaI h5 r10 v4).bind fun x11 =>
      (zfI h5 a2 3 1).bind fun x12 =>
      (if x11 = x12 then
        (zbI h5 a1 ((1 : Int32) <<< (v4 &&& 31)) (0 : Int32)).bind fun h15 =>
        some h15
      else
        some h5).bind fun (h13 : Zh) =>
      some (.inl (v4 + (1 : Int32), h13)) : Option ((Int32 × Zh) ⊕ Zh))) zFU ((0 : Int32), h3)).bind fun (h6 : Zh) =>
  some h6
set_option maxRecDepth 100000 in
set_option maxHeartbeats 4000000 in
theorem kX1_weighDeed (G : Zg) (h : Zh) (this : Option Nat) (a1 : Option Nat) (a2 : Option Nat) {x : Zh} (hx : fX1_weighDeed h this a1 a2 = some x) : zCt G yX1_weighDeed cX1_weighDeed 4 (Option.none : Option Jvm.ClassFile.FieldType) 2 [zrv G.2.1 this, zrv G.2.1 a1, zrv G.2.1 a2] h none x := by
  refine z_met (a := x) (rvf := fun (_ : Zh) => none) (hff := fun (x : Zh) => x) (lv := [(0, zrv G.2.1 this), (1, zrv G.2.1 a1), (2, zrv G.2.1 a2)]) (by decide +kernel) (by simp [lg_sl, zcat1, zcI, zcJ]) (by simp [lv_args, zcat1, zcI, zcJ]) ?_ hx
  unfold fX1_weighDeed
  refine z_aload_n (j := 1) dX1_weighDeed_0 rfl rfl ?_
  refine z_ldc (v := 1000000) dX1_weighDeed_1 zw216 ?_
  refine z_callS (As := [zrv G.2.1 a1, .int (1000000 : Int32)]) (rest := []) (rv2 := fun (_ : Zh) => none) (h2 := fun (x : Zh) => x) dX1_weighDeed_3 vJ7_fill_53178 (.inl zw217) (by decide) rfl rfl (by decide) (fun x hx => kJ7_fill_53178 G h a1 (1000000 : Int32) hx) (fun h1 => ?_)
  try dsimp only [Option.toList, List.cons_append, List.nil_append]
  refine z_aload_n (j := 1) dX1_weighDeed_6 rfl rfl ?_
  refine z_iconst (v := 0) dX1_weighDeed_7 (by decide) ?_
  refine z_aload_n (j := 2) dX1_weighDeed_8 rfl rfl ?_
  refine z_getI (k := 4) dX1_weighDeed_9 zkl3 (by decide) rfl (.inr ⟨_, zw387⟩) (fun x2 => ?_)
  refine z_iast dX1_weighDeed_12 (fun h3 => ?_)
  refine z_iconst (v := 0) dX1_weighDeed_13 (by decide) ?_
  refine z_istore_n (i := 3) (lv' := [(3, .int (0 : Int32)), (0, zrv G.2.1 this), (1, zrv G.2.1 a1), (2, zrv G.2.1 a2)]) dX1_weighDeed_14 rfl (by decide) (by simp [zcat1, zcI, zcJ]) ?_
  refine z_at [1, 2, 3, 0] rfl ?_
  refine z_join (pc2 := 48) (lv2 := fun (q : Zh) => []) (st2 := fun _ => []) (h2 := fun (q : Zh) => q) (fun q => ?_) (fun F7 kF7 => ?_)
  · obtain ⟨h6, e0⟩ : ∃ z, z = q := ⟨_, rfl⟩
    subst e0
    try dsimp only
    exact z_vret dX1_weighDeed_48 rfl rfl rfl
  · refine z_loop (lvf := fun (q : Int32 × Zh) => [(0, zrv G.2.1 this), (1, zrv G.2.1 a1), (2, zrv G.2.1 a2), (3, .int q.1)]) (hf2 := fun (q : Int32 × Zh) => q.2) (s0 := ((0 : Int32), h3)) (fun K8 bK8 rK8 q => ?_)
    obtain ⟨v4, h5⟩ := q
    try dsimp only
    refine z_iload_n (j := 3) dX1_weighDeed_15 rfl rfl ?_
    refine z_aload_n (j := 0) dX1_weighDeed_16 rfl rfl ?_
    refine z_as ?_
    refine z_getI (k := 1) dX1_weighDeed_17 zkl2 (by decide) rfl (.inl zw78) (fun x9 => ?_)
    refine z_itb ?_
    refine z_icmp_ge (tgt := 48) dX1_weighDeed_20 (by decide) (fun _ => ?_) (fun _ => ?_)
    · refine z_sb ?_
      refine z_eq (rK8 _) ?_
      refine z_at [] rfl ?_
      exact kF7 h5
    · refine z_aload_n (j := 0) dX1_weighDeed_23 rfl rfl ?_
      refine z_as ?_
      refine z_getP (k := 0) dX1_weighDeed_24 zkl2 (by decide) rfl (.inl zw77) (fun r10 => ?_)
      refine z_iload_n (j := 3) dX1_weighDeed_27 rfl rfl ?_
      refine z_as ?_
      refine z_iald dX1_weighDeed_28 (fun x11 => ?_)
      refine z_aload_n (j := 2) dX1_weighDeed_29 rfl rfl ?_
      refine z_as ?_
      refine z_getI (k := 1) dX1_weighDeed_30 zkl3 (by decide) rfl (.inr ⟨_, zw379⟩) (fun x12 => ?_)
      refine z_as ?_
      refine z_join (pc2 := 42) (lv2 := fun (q : Zh) => [(0, zrv G.2.1 this), (1, zrv G.2.1 a1), (2, zrv G.2.1 a2), (3, .int v4)]) (st2 := fun (q : Zh) => []) (h2 := fun (q : Zh) => q) (fun q => ?_) (fun F14 kF14 => ?_)
      · obtain ⟨h13, e0⟩ : ∃ z, z = q := ⟨_, rfl⟩
        subst e0
        try dsimp only
        refine z_iinc (j := 3) (v := v4 + (1 : Int32)) (lv' := [(3, .int (v4 + (1 : Int32))), (0, zrv G.2.1 this), (1, zrv G.2.1 a1), (2, zrv G.2.1 a2)]) dX1_weighDeed_42 rfl rfl (by decide) (by simp [zcat1, zcI, zcJ]) ?_
        refine z_goto (tgt := 15) dX1_weighDeed_45 (by decide) ?_
        refine z_sb ?_
        refine z_at [1, 2, 3, 0] rfl ?_
        exact bK8 (v4 + (1 : Int32), h13)
      · refine z_itb ?_
        refine z_icmp_ne (tgt := 42) dX1_weighDeed_33 (by decide) (fun _ => ?_) (fun _ => ?_)
        · refine z_aload_n (j := 1) dX1_weighDeed_36 rfl rfl ?_
          refine z_iconst (v := 1) dX1_weighDeed_37 (by decide) ?_
          refine z_iload_n (j := 3) dX1_weighDeed_38 rfl rfl ?_
          refine z_ishl dX1_weighDeed_39 ?_
          refine z_iconst (v := 0) dX1_weighDeed_40 (by decide) ?_
          refine z_as ?_
          refine z_iast dX1_weighDeed_41 (fun h15 => ?_)
          refine z_sb ?_
          refine z_at [0, 1, 2, 3] rfl ?_
          exact kF14 h15
        · refine z_sb ?_
          refine z_at [0, 1, 2, 3] rfl ?_
          exact kF14 h5
def fX1_copy (h : Zh) (this : Option Nat) (a1 : Option Nat) (a2 : Option Nat) : Option (Zh) :=
  (zloop (fun ((v1, h2) : Int32 × Zh) =>
    ((zfI h2 this 2 2).bind fun x6 =>
    if x6 ≤ v1 then
      some (.inr h2)
    else
      (zaI h2 a1 v1).bind fun x7 =>
      (zbI h2 a2 v1 x7).bind fun h8 =>
      some (.inl (v1 + (1 : Int32), h8)) : Option ((Int32 × Zh) ⊕ Zh))) zFU ((0 : Int32), h)).bind fun (h3 : Zh) =>
  some h3
set_option maxRecDepth 100000 in
set_option maxHeartbeats 4000000 in
theorem kX1_copy (G : Zg) (h : Zh) (this : Option Nat) (a1 : Option Nat) (a2 : Option Nat) {x : Zh} (hx : fX1_copy h this a1 a2 = some x) : zCt G yX1_copy cX1_copy 4 (Option.none : Option Jvm.ClassFile.FieldType) 1 [zrv G.2.1 this, zrv G.2.1 a1, zrv G.2.1 a2] h none x := by
  refine z_met (a := x) (rvf := fun (_ : Zh) => none) (hff := fun (x : Zh) => x) (lv := [(0, zrv G.2.1 this), (1, zrv G.2.1 a1), (2, zrv G.2.1 a2)]) (by decide +kernel) (by simp [lg_sl, zcat1, zcI, zcJ]) (by simp [lv_args, zcat1, zcI, zcJ]) ?_ hx
  unfold fX1_copy
  refine z_iconst (v := 0) dX1_copy_0 (by decide) ?_
  refine z_istore_n (i := 3) (lv' := [(3, .int (0 : Int32)), (0, zrv G.2.1 this), (1, zrv G.2.1 a1), (2, zrv G.2.1 a2)]) dX1_copy_1 rfl (by decide) (by simp [zcat1, zcI, zcJ]) ?_
  refine z_at [1, 2, 3, 0] rfl ?_
  refine z_join (pc2 := 22) (lv2 := fun (q : Zh) => []) (st2 := fun _ => []) (h2 := fun (q : Zh) => q) (fun q => ?_) (fun F4 kF4 => ?_)
  · obtain ⟨h3, e0⟩ : ∃ z, z = q := ⟨_, rfl⟩
    subst e0
    try dsimp only
    exact z_vret dX1_copy_22 rfl rfl rfl
  · refine z_loop (lvf := fun (q : Int32 × Zh) => [(0, zrv G.2.1 this), (1, zrv G.2.1 a1), (2, zrv G.2.1 a2), (3, .int q.1)]) (hf2 := fun (q : Int32 × Zh) => q.2) (s0 := ((0 : Int32), h)) (fun K5 bK5 rK5 q => ?_)
    obtain ⟨v1, h2⟩ := q
    try dsimp only
    refine z_iload_n (j := 3) dX1_copy_2 rfl rfl ?_
    refine z_aload_n (j := 0) dX1_copy_3 rfl rfl ?_
    refine z_as ?_
    refine z_getI (k := 2) dX1_copy_4 zkl2 (by decide) rfl (.inl zw79) (fun x6 => ?_)
    refine z_itb ?_
    refine z_icmp_ge (tgt := 22) dX1_copy_7 (by decide) (fun _ => ?_) (fun _ => ?_)
    · refine z_sb ?_
      refine z_eq (rK5 _) ?_
      refine z_at [] rfl ?_
      exact kF4 h2
    · refine z_aload_n (j := 2) dX1_copy_10 rfl rfl ?_
      refine z_iload_n (j := 3) dX1_copy_11 rfl rfl ?_
      refine z_aload_n (j := 1) dX1_copy_12 rfl rfl ?_
      refine z_iload_n (j := 3) dX1_copy_13 rfl rfl ?_
      refine z_as ?_
      refine z_iald dX1_copy_14 (fun x7 => ?_)
      refine z_as ?_
      refine z_iast dX1_copy_15 (fun h8 => ?_)
      refine z_iinc (j := 3) (v := v1 + (1 : Int32)) (lv' := [(3, .int (v1 + (1 : Int32))), (0, zrv G.2.1 this), (1, zrv G.2.1 a1), (2, zrv G.2.1 a2)]) dX1_copy_16 rfl rfl (by decide) (by simp [zcat1, zcI, zcJ]) ?_
      refine z_goto (tgt := 2) dX1_copy_19 (by decide) ?_
      refine z_sb ?_
      refine z_at [1, 2, 3, 0] rfl ?_
      exact bK5 (v1 + (1 : Int32), h8)
def fX1_inRow (h : Zh) (this : Option Nat) (a1 : Option Nat) (a2 : Option Nat) : Option (Zh) :=
  (zfI h this 2 2).bind fun x1 =>
  (zloop (fun ((v2, h3) : Int32 × Zh) =>
    (if v2 < 0 then
      some (.inr h3)
    else
      (zloop (fun ((v7, v8) : Int32 × Int32) =>
        ((zfI h3 this 2 1).bind fun x12 =>
        if x12 < v8 then
          some (.inr v7)
        else
          (zaI h3 a1 (v2 &&& (((1 : Int32) <<< (v8 &&& 31)) - (1 : Int32)))).bind fun x13 =>
          (zaI h3 a2 (v2 ^^^ (v2 &&& (((1 : Int32) <<< (v8 &&& 31)) - (1 : Int32))))).bind fun x14 =>
          some (.inl ((if x13 + x14 < v7 then x13 + x14 else v7), v8 + (1 : Int32))) : Option ((Int32 × Int32) ⊕ Int32))) zFU ((1000000 : Int32), (0 : Int32))).bind fun (w9 : Int32) =>
      (zbI h3 a1 v2 w9).bind fun h15 =>
      some (.inl (v2 + (-1 : Int32), h15)) : Option ((Int32 × Zh) ⊕ Zh))) zFU (x1 - (1 : Int32), h)).bind fun (h4 : Zh) =>
  some h4
set_option maxRecDepth 100000 in
set_option maxHeartbeats 4000000 in
theorem kX1_inRow (G : Zg) (h : Zh) (this : Option Nat) (a1 : Option Nat) (a2 : Option Nat) {x : Zh} (hx : fX1_inRow h this a1 a2 = some x) : zCt G yX1_inRow cX1_inRow 7 (Option.none : Option Jvm.ClassFile.FieldType) 1 [zrv G.2.1 this, zrv G.2.1 a1, zrv G.2.1 a2] h none x := by
  refine z_met (a := x) (rvf := fun (_ : Zh) => none) (hff := fun (x : Zh) => x) (lv := [(0, zrv G.2.1 this), (1, zrv G.2.1 a1), (2, zrv G.2.1 a2)]) (by decide +kernel) (by simp [lg_sl, zcat1, zcI, zcJ]) (by simp [lv_args, zcat1, zcI, zcJ]) ?_ hx
  unfold fX1_inRow
  refine z_aload_n (j := 0) dX1_inRow_0 rfl rfl ?_
  refine z_getI (k := 2) dX1_inRow_1 zkl2 (by decide) rfl (.inl zw79) (fun x1 => ?_)
  refine z_iconst (v := 1) dX1_inRow_4 (by decide) ?_
  refine z_isub dX1_inRow_5 ?_
  refine z_istore_n (i := 3) (lv' := [(3, .int (x1 - (1 : Int32))), (0, zrv G.2.1 this), (1, zrv G.2.1 a1), (2, zrv G.2.1 a2)]) dX1_inRow_6 rfl (by decide) (by simp [zcat1, zcI, zcJ]) ?_
  refine z_at [1, 2, 3, 0] rfl ?_
  refine z_join (pc2 := 72) (lv2 := fun (q : Zh) => []) (st2 := fun _ => []) (h2 := fun (q : Zh) => q) (fun q => ?_) (fun F5 kF5 => ?_)
  · obtain ⟨h4, e0⟩ : ∃ z, z = q := ⟨_, rfl⟩
    subst e0
    try dsimp only
    exact z_vret dX1_inRow_72 rfl rfl rfl
  · refine z_loop (lvf := fun (q : Int32 × Zh) => [(0, zrv G.2.1 this), (1, zrv G.2.1 a1), (2, zrv G.2.1 a2), (3, .int q.1)]) (hf2 := fun (q : Int32 × Zh) => q.2) (s0 := (x1 - (1 : Int32), h)) (fun K6 bK6 rK6 q => ?_)
    obtain ⟨v2, h3⟩ := q
    try dsimp only
    refine z_iload_n (j := 3) dX1_inRow_7 rfl rfl ?_
    refine z_itb ?_
    refine z_if_lt (tgt := 72) dX1_inRow_8 (by decide) (fun _ => ?_) (fun _ => ?_)
    · refine z_sb ?_
      refine z_eq (rK6 _) ?_
      refine z_at [] rfl ?_
      exact kF5 h3
    · refine z_ldc (v := 1000000) dX1_inRow_11 zw216 ?_
      refine z_istore (i := 4) (lv' := [(4, .int (1000000 : Int32)), (0, zrv G.2.1 this), (1, zrv G.2.1 a1), (2, zrv G.2.1 a2), (3, .int v2)]) dX1_inRow_13 (by decide) rfl ?_
      refine z_iconst (v := 0) dX1_inRow_15 (by decide) ?_
      refine z_istore (i := 5) (lv' := [(5, .int (0 : Int32)), (4, .int (1000000 : Int32)), (0, zrv G.2.1 this), (1, zrv G.2.1 a1), (2, zrv G.2.1 a2), (3, .int v2)]) dX1_inRow_16 (by decide) rfl ?_
      refine z_as ?_
      refine z_at [2, 3, 4, 5, 1, 0] rfl ?_
      refine z_join (pc2 := 61) (lv2 := fun (q : Int32) => [(0, zrv G.2.1 this), (1, zrv G.2.1 a1), (2, zrv G.2.1 a2), (3, .int v2), (4, .int q)]) (st2 := fun _ => []) (h2 := fun (q : Int32) => h3) (fun q => ?_) (fun F10 kF10 => ?_)
      · obtain ⟨w9, e0⟩ : ∃ z, z = q := ⟨_, rfl⟩
        subst e0
        try dsimp only
        refine z_aload_n (j := 1) dX1_inRow_61 rfl rfl ?_
        refine z_iload_n (j := 3) dX1_inRow_62 rfl rfl ?_
        refine z_iload (j := 4) dX1_inRow_63 rfl ?_
        refine z_as ?_
        refine z_iast dX1_inRow_65 (fun h15 => ?_)
        refine z_iinc (j := 3) (v := v2 + (-1 : Int32)) (lv' := [(3, .int (v2 + (-1 : Int32))), (0, zrv G.2.1 this), (1, zrv G.2.1 a1), (2, zrv G.2.1 a2), (4, .int w9)]) dX1_inRow_66 rfl rfl (by decide) (by simp [zcat1, zcI, zcJ]) ?_
        refine z_goto (tgt := 7) dX1_inRow_69 (by decide) ?_
        refine z_sb ?_
        refine z_at [1, 2, 3, 0] rfl ?_
        exact bK6 (v2 + (-1 : Int32), h15)
      · refine z_loop (lvf := fun (q : Int32 × Int32) => [(0, zrv G.2.1 this), (1, zrv G.2.1 a1), (2, zrv G.2.1 a2), (3, .int v2), (4, .int q.1), (5, .int q.2)]) (hf2 := fun (q : Int32 × Int32) => h3) (s0 := ((1000000 : Int32), (0 : Int32))) (fun K11 bK11 rK11 q => ?_)
        obtain ⟨v7, v8⟩ := q
        try dsimp only
        refine z_iload (j := 5) dX1_inRow_18 rfl ?_
        refine z_aload_n (j := 0) dX1_inRow_20 rfl rfl ?_
        refine z_as ?_
        refine z_getI (k := 1) dX1_inRow_21 zkl2 (by decide) rfl (.inl zw78) (fun x12 => ?_)
        refine z_itb ?_
        refine z_icmp_gt (tgt := 61) dX1_inRow_24 (by decide) (fun _ => ?_) (fun _ => ?_)
        · refine z_sb ?_
          refine z_eq (rK11 _) ?_
          refine z_at [0, 1, 2, 3, 4] rfl ?_
          exact kF10 v7
        · refine z_iload_n (j := 3) dX1_inRow_27 rfl rfl ?_
          refine z_iconst (v := 1) dX1_inRow_28 (by decide) ?_
          refine z_iload (j := 5) dX1_inRow_29 rfl ?_
          refine z_ishl dX1_inRow_31 ?_
          refine z_iconst (v := 1) dX1_inRow_32 (by decide) ?_
          refine z_isub dX1_inRow_33 ?_
          refine z_iand dX1_inRow_34 ?_
          refine z_istore (i := 6) (lv' := [(6, .int (v2 &&& (((1 : Int32) <<< (v8 &&& 31)) - (1 : Int32)))), (0, zrv G.2.1 this), (1, zrv G.2.1 a1), (2, zrv G.2.1 a2), (3, .int v2), (4, .int v7), (5, .int v8)]) dX1_inRow_35 (by decide) rfl ?_
          refine z_iload (j := 5) dX1_inRow_37 rfl ?_
          refine z_aload_n (j := 2) dX1_inRow_39 rfl rfl ?_
          refine z_iload (j := 0) dX1_inRow_40 rfl ?_
          refine z_as ?_
          refine z_iald dX1_inRow_42 (fun x13 => ?_)
          refine z_aload_n (j := 3) dX1_inRow_43 rfl rfl ?_
          refine z_iload_n (j := 4) dX1_inRow_44 rfl rfl ?_
          refine z_iload (j := 0) dX1_inRow_45 rfl ?_
          refine z_ixor dX1_inRow_47 ?_
          refine z_as ?_
          refine z_iald dX1_inRow_48 (fun x14 => ?_)
          refine z_iadd dX1_inRow_49 ?_
          refine z_mmin dX1_inRow_50 zw202 zw203 zw47 zw204 (by decide) (by decide) ?_
          refine z_istore (i := 4) (lv' := [(4, .int (if x13 + x14 < v7 then x13 + x14 else v7)), (6, .int (v2 &&& (((1 : Int32) <<< (v8 &&& 31)) - (1 : Int32)))), (0, zrv G.2.1 this), (1, zrv G.2.1 a1), (2, zrv G.2.1 a2), (3, .int v2), (5, .int v8)]) dX1_inRow_53 (by decide) rfl ?_
          refine z_iinc (j := 6) (v := v8 + (1 : Int32)) (lv' := [(5, .int (v8 + (1 : Int32))), (4, .int (if x13 + x14 < v7 then x13 + x14 else v7)), (6, .int (v2 &&& (((1 : Int32) <<< (v8 &&& 31)) - (1 : Int32)))), (0, zrv G.2.1 this), (1, zrv G.2.1 a1), (2, zrv G.2.1 a2), (3, .int v2)]) dX1_inRow_55 rfl rfl (by decide) rfl ?_
          refine z_goto (tgt := 18) dX1_inRow_58 (by decide) ?_
          refine z_sb ?_
          refine z_at [3, 4, 5, 6, 1, 0] rfl ?_
          exact bK11 ((if x13 + x14 < v7 then x13 + x14 else v7), v8 + (1 : Int32))
def fX1_cheaper (h : Zh) (this : Option Nat) (a1 : Option Nat) (a2 : Option Nat) : Option (Zh) :=
  (zloop (fun ((v1, h2) : Int32 × Zh) =>
    ((zfI h2 this 2 2).bind fun x6 =>
    if x6 ≤ v1 then
      some (.inr h2)
    else
      (zaI h2 a1 v1).bind fun x7 =>
      (zaI h2 a2 v1).bind fun x8 =>
      (zbI h2 a1 v1 (if x8 < x7 then x8 else x7)).bind fun h9 =>
      some (.inl (v1 + (1 : Int32), h9)) : Option ((Int32 × Zh) ⊕ Zh))) zFU ((0 : Int32), h)).bind fun (h3 : Zh) =>
  some h3
set_option maxRecDepth 100000 in
set_option maxHeartbeats 4000000 in
theorem kX1_cheaper (G : Zg) (h : Zh) (this : Option Nat) (a1 : Option Nat) (a2 : Option Nat) {x : Zh} (hx : fX1_cheaper h this a1 a2 = some x) : zCt G yX1_cheaper cX1_cheaper 4 (Option.none : Option Jvm.ClassFile.FieldType) 1 [zrv G.2.1 this, zrv G.2.1 a1, zrv G.2.1 a2] h none x := by
  refine z_met (a := x) (rvf := fun (_ : Zh) => none) (hff := fun (x : Zh) => x) (lv := [(0, zrv G.2.1 this), (1, zrv G.2.1 a1), (2, zrv G.2.1 a2)]) (by decide +kernel) (by simp [lg_sl, zcat1, zcI, zcJ]) (by simp [lv_args, zcat1, zcI, zcJ]) ?_ hx
  unfold fX1_cheaper
  refine z_iconst (v := 0) dX1_cheaper_0 (by decide) ?_
  refine z_istore_n (i := 3) (lv' := [(3, .int (0 : Int32)), (0, zrv G.2.1 this), (1, zrv G.2.1 a1), (2, zrv G.2.1 a2)]) dX1_cheaper_1 rfl (by decide) (by simp [zcat1, zcI, zcJ]) ?_
  refine z_at [1, 2, 3, 0] rfl ?_
  refine z_join (pc2 := 28) (lv2 := fun (q : Zh) => []) (st2 := fun _ => []) (h2 := fun (q : Zh) => q) (fun q => ?_) (fun F4 kF4 => ?_)
  · obtain ⟨h3, e0⟩ : ∃ z, z = q := ⟨_, rfl⟩
    subst e0
    try dsimp only
    exact z_vret dX1_cheaper_28 rfl rfl rfl
  · refine z_loop (lvf := fun (q : Int32 × Zh) => [(0, zrv G.2.1 this), (1, zrv G.2.1 a1), (2, zrv G.2.1 a2), (3, .int q.1)]) (hf2 := fun (q : Int32 × Zh) => q.2) (s0 := ((0 : Int32), h)) (fun K5 bK5 rK5 q => ?_)
    obtain ⟨v1, h2⟩ := q
    try dsimp only
    refine z_iload_n (j := 3) dX1_cheaper_2 rfl rfl ?_
    refine z_aload_n (j := 0) dX1_cheaper_3 rfl rfl ?_
    refine z_as ?_
    refine z_getI (k := 2) dX1_cheaper_4 zkl2 (by decide) rfl (.inl zw79) (fun x6 => ?_)
    refine z_itb ?_
    refine z_icmp_ge (tgt := 28) dX1_cheaper_7 (by decide) (fun _ => ?_) (fun _ => ?_)
    · refine z_sb ?_
      refine z_eq (rK5 _) ?_
      refine z_at [] rfl ?_
      exact kF4 h2
    · refine z_aload_n (j := 1) dX1_cheaper_10 rfl rfl ?_
      refine z_iload_n (j := 3) dX1_cheaper_11 rfl rfl ?_
      refine z_aload_n (j := 1) dX1_cheaper_12 rfl rfl ?_
      refine z_iload_n (j := 3) dX1_cheaper_13 rfl rfl ?_
      refine z_as ?_
      refine z_iald dX1_cheaper_14 (fun x7 => ?_)
      refine z_aload_n (j := 2) dX1_cheaper_15 rfl rfl ?_
      refine z_iload_n (j := 3) dX1_cheaper_16 rfl rfl ?_
      refine z_as ?_
      refine z_iald dX1_cheaper_17 (fun x8 => ?_)
      refine z_mmin dX1_cheaper_18 zw202 zw203 zw47 zw204 (by decide) (by simp [zcat1, zcI, zcJ]) ?_
      refine z_as ?_
      refine z_iast dX1_cheaper_21 (fun h9 => ?_)
      refine z_iinc (j := 3) (v := v1 + (1 : Int32)) (lv' := [(3, .int (v1 + (1 : Int32))), (0, zrv G.2.1 this), (1, zrv G.2.1 a1), (2, zrv G.2.1 a2)]) dX1_cheaper_22 rfl rfl (by decide) (by simp [zcat1, zcI, zcJ]) ?_
      refine z_goto (tgt := 2) dX1_cheaper_25 (by decide) ?_
      refine z_sb ?_
      refine z_at [1, 2, 3, 0] rfl ?_
      exact bK5 (v1 + (1 : Int32), h9)
def fX1_mixed (h : Zh) (this : Option Nat) (a1 : Option Nat) (a2 : Option Nat) : Option (Zh) :=
  (zfI h this 2 2).bind fun x1 =>
  (zloop (fun ((v2, h3) : Int32 × Zh) =>
    (if v2 < 0 then
      some (.inr h3)
    else
      (zaI h3 a1 (0 : Int32)).bind fun x7 =>
      (zaI h3 a2 v2).bind fun x8 =>
      (zloop (fun ((v9, v10) : Int32 × Int32) =>
        (if v10 ≤ 0 then
          some (.inr v9)
        else
          (zaI h3 a1 v10).bind fun x14 =>
          (zaI h3 a2 (v2 ^^^ v10)).bind fun x15 =>
          some (.inl ((if x14 + x15 < v9 then x14 + x15 else v9), (v10 - (1 : Int32)) &&& v2)) : Option ((Int32 × Int32) ⊕ Int32))) zFU (x7 + x8, v2)).bind fun (w11 : Int32) =>
      (zbI h3 a1 v2 (if (1000000 : Int32) < w11 then (1000000 : Int32) else w11)).bind fun h16 =>
      some (.inl (v2 + (-1 : Int32), h16)) : Option ((Int32 × Zh) ⊕ Zh))) zFU (x1 - (1 : Int32), h)).bind fun (h4 : Zh) =>
  some h4
set_option maxRecDepth 100000 in
set_option maxHeartbeats 4000000 in
theorem kX1_mixed (G : Zg) (h : Zh) (this : Option Nat) (a1 : Option Nat) (a2 : Option Nat) {x : Zh} (hx : fX1_mixed h this a1 a2 = some x) : zCt G yX1_mixed cX1_mixed 6 (Option.none : Option Jvm.ClassFile.FieldType) 1 [zrv G.2.1 this, zrv G.2.1 a1, zrv G.2.1 a2] h none x := by
  refine z_met (a := x) (rvf := fun (_ : Zh) => none) (hff := fun (x : Zh) => x) (lv := [(0, zrv G.2.1 this), (1, zrv G.2.1 a1), (2, zrv G.2.1 a2)]) (by decide +kernel) (by simp [lg_sl, zcat1, zcI, zcJ]) (by simp [lv_args, zcat1, zcI, zcJ]) ?_ hx
  unfold fX1_mixed
  refine z_aload_n (j := 0) dX1_mixed_0 rfl rfl ?_
  refine z_getI (k := 2) dX1_mixed_1 zkl2 (by decide) rfl (.inl zw79) (fun x1 => ?_)
  refine z_iconst (v := 1) dX1_mixed_4 (by decide) ?_
  refine z_isub dX1_mixed_5 ?_
  refine z_istore_n (i := 3) (lv' := [(3, .int (x1 - (1 : Int32))), (0, zrv G.2.1 this), (1, zrv G.2.1 a1), (2, zrv G.2.1 a2)]) dX1_mixed_6 rfl (by decide) (by simp [zcat1, zcI, zcJ]) ?_
  refine z_at [2, 3, 0] rfl ?_
  refine z_join (pc2 := 73) (lv2 := fun (q : Zh) => []) (st2 := fun _ => []) (h2 := fun (q : Zh) => q) (fun q => ?_) (fun F5 kF5 => ?_)
  · obtain ⟨h4, e0⟩ : ∃ z, z = q := ⟨_, rfl⟩
    subst e0
    try dsimp only
    exact z_vret dX1_mixed_73 rfl rfl rfl
  · refine z_loop (lvf := fun (q : Int32 × Zh) => [(1, zrv G.2.1 a1), (2, zrv G.2.1 a2), (3, .int q.1)]) (hf2 := fun (q : Int32 × Zh) => q.2) (s0 := (x1 - (1 : Int32), h)) (fun K6 bK6 rK6 q => ?_)
    obtain ⟨v2, h3⟩ := q
    try dsimp only
    refine z_iload_n (j := 2) dX1_mixed_7 rfl rfl ?_
    refine z_itb ?_
    refine z_if_lt (tgt := 73) dX1_mixed_8 (by decide) (fun _ => ?_) (fun _ => ?_)
    · refine z_sb ?_
      refine z_eq (rK6 _) ?_
      refine z_at [] rfl ?_
      exact kF5 h3
    · refine z_aload_n (j := 0) dX1_mixed_11 rfl rfl ?_
      refine z_iconst (v := 0) dX1_mixed_12 (by decide) ?_
      refine z_as ?_
      refine z_iald dX1_mixed_13 (fun x7 => ?_)
      refine z_aload_n (j := 1) dX1_mixed_14 rfl rfl ?_
      refine z_iload_n (j := 2) dX1_mixed_15 rfl rfl ?_
      refine z_as ?_
      refine z_iald dX1_mixed_16 (fun x8 => ?_)
      refine z_iadd dX1_mixed_17 ?_
      refine z_istore (i := 4) (lv' := [(4, .int (x7 + x8)), (1, zrv G.2.1 a1), (2, zrv G.2.1 a2), (3, .int v2)]) dX1_mixed_18 (by decide) rfl ?_
      refine z_iload_n (j := 3) dX1_mixed_20 rfl rfl ?_
      refine z_istore (i := 5) (lv' := [(5, .int v2), (4, .int (x7 + x8)), (1, zrv G.2.1 a1), (2, zrv G.2.1 a2), (3, .int v2)]) dX1_mixed_21 (by decide) rfl ?_
      refine z_as ?_
      refine z_at [2, 3, 4, 1, 0] rfl ?_
      refine z_join (pc2 := 57) (lv2 := fun (q : Int32) => [(1, zrv G.2.1 a1), (2, zrv G.2.1 a2), (3, .int v2), (4, .int q)]) (st2 := fun _ => []) (h2 := fun (q : Int32) => h3) (fun q => ?_) (fun F12 kF12 => ?_)
      · obtain ⟨w11, e0⟩ : ∃ z, z = q := ⟨_, rfl⟩
        subst e0
        try dsimp only
        refine z_aload_n (j := 0) dX1_mixed_57 rfl rfl ?_
        refine z_iload_n (j := 2) dX1_mixed_58 rfl rfl ?_
        refine z_iload (j := 3) dX1_mixed_59 rfl ?_
        refine z_ldc (v := 1000000) dX1_mixed_61 zw216 ?_
        refine z_mmin dX1_mixed_63 zw202 zw203 zw47 zw204 (by decide) (by simp [zcat1, zcI, zcJ]) ?_
        refine z_as ?_
        refine z_iast dX1_mixed_66 (fun h16 => ?_)
        refine z_iinc (j := 2) (v := v2 + (-1 : Int32)) (lv' := [(3, .int (v2 + (-1 : Int32))), (1, zrv G.2.1 a1), (2, zrv G.2.1 a2), (4, .int w11)]) dX1_mixed_67 rfl rfl (by decide) (by simp [zcat1, zcI, zcJ]) ?_
        refine z_goto (tgt := 7) dX1_mixed_70 (by decide) ?_
        refine z_sb ?_
        refine z_at [1, 2, 0] rfl ?_
        exact bK6 (v2 + (-1 : Int32), h16)
      · refine z_loop (lvf := fun (q : Int32 × Int32) => [(1, zrv G.2.1 a1), (2, zrv G.2.1 a2), (3, .int v2), (4, .int q.1), (5, .int q.2)]) (hf2 := fun (q : Int32 × Int32) => h3) (s0 := (x7 + x8, v2)) (fun K13 bK13 rK13 q => ?_)
        obtain ⟨v9, v10⟩ := q
        try dsimp only
        refine z_iload (j := 4) dX1_mixed_23 rfl ?_
        refine z_itb ?_
        refine z_if_le (tgt := 57) dX1_mixed_25 (by decide) (fun _ => ?_) (fun _ => ?_)
        · refine z_sb ?_
          refine z_eq (rK13 _) ?_
          refine z_at [0, 1, 2, 3] rfl ?_
          exact kF12 v9
        · refine z_iload (j := 3) dX1_mixed_28 rfl ?_
          refine z_aload_n (j := 0) dX1_mixed_30 rfl rfl ?_
          refine z_iload (j := 4) dX1_mixed_31 rfl ?_
          refine z_as ?_
          refine z_iald dX1_mixed_33 (fun x14 => ?_)
          refine z_aload_n (j := 1) dX1_mixed_34 rfl rfl ?_
          refine z_iload_n (j := 2) dX1_mixed_35 rfl rfl ?_
          refine z_iload (j := 4) dX1_mixed_36 rfl ?_
          refine z_ixor dX1_mixed_38 ?_
          refine z_as ?_
          refine z_iald dX1_mixed_39 (fun x15 => ?_)
          refine z_iadd dX1_mixed_40 ?_
          refine z_mmin dX1_mixed_41 zw202 zw203 zw47 zw204 (by decide) (by decide) ?_
          refine z_istore (i := 4) (lv' := [(4, .int (if x14 + x15 < v9 then x14 + x15 else v9)), (1, zrv G.2.1 a1), (2, zrv G.2.1 a2), (3, .int v2), (5, .int v10)]) dX1_mixed_44 (by decide) rfl ?_
          refine z_iload (j := 4) dX1_mixed_46 rfl ?_
          refine z_iconst (v := 1) dX1_mixed_48 (by decide) ?_
          refine z_isub dX1_mixed_49 ?_
          refine z_iload_n (j := 3) dX1_mixed_50 rfl rfl ?_
          refine z_iand dX1_mixed_51 ?_
          refine z_istore (i := 5) (lv' := [(5, .int ((v10 - (1 : Int32)) &&& v2)), (4, .int (if x14 + x15 < v9 then x14 + x15 else v9)), (1, zrv G.2.1 a1), (2, zrv G.2.1 a2), (3, .int v2)]) dX1_mixed_52 (by decide) rfl ?_
          refine z_goto (tgt := 23) dX1_mixed_54 (by decide) ?_
          refine z_sb ?_
          refine z_at [2, 3, 4, 1, 0] rfl ?_
          exact bK13 ((if x14 + x15 < v9 then x14 + x15 else v9), (v10 - (1 : Int32)) &&& v2)
def fX1_weighRounds (h : Zh) (this : Option Nat) (a1 : Option Nat) (a2 : Option Nat) : Option (Zh) :=
  (zfP h this 2 3).bind fun r1 =>
  (fJ7_fill_53178 h r1 (1000000 : Int32)).bind fun h2 =>
  (zloop (fun ((v3, h4) : Int32 × Zh) =>
    ((zaL h4 a2 3).bind fun x8 =>
    if x8 ≤ v3 then
      some (.inr h4)
    else
      (zfP h4 this 2 3).bind fun r9 =>
      (zaP h4 a2 3 v3).bind fun r10 =>
      (fX1_costsOf h4 r10).bind fun ((r11, h12) : Option Nat × Zh) =>
      (zob h12 this 3).bind fun p13 =>
      (fX1_cheaper h12 (some p13) r9 r11).bind fun h14 =>
      some (.inl (v3 + (1 : Int32), h14)) : Option ((Int32 × Zh) ⊕ Zh))) zFU ((1 : Int32), h2)).bind fun (h5 : Zh) =>
  (zfP h5 this 2 3).bind fun r15 =>
  (zfP h5 this 2 4).bind fun r16 =>
  (zob h5 this 3).bind fun p17 =>
  (fX1_copy h5 (some p17) r15 r16).bind fun h18 =>
  (zfP h18 this 2 4).bind fun r19 =>
  (zob h18 this 3).bind fun p20 =>
  (fX1_inRow h18 (some p20) r19 a1).bind fun h21 =>
  (zloop (fun ((v22, h23) : Int32 × Zh) =>
    ((zfI h23 this 2 2).bind fun x27 =>
    if x27 ≤ v22 then
      some (.inr h23)
    else
      (zloop (fun ((v28, h29) : Int32 × Zh) =>
        ((zfI h29 this 2 1).bind fun x33 =>
        if x33 ≤ v28 then
          some (.inr h29)
        else
          (if (v22 &&& (((1 : Int32) <<< (v28 &&& 31)) - (1 : Int32))) = v22 then
            some h29
          else
            (zaI h29 a1 v22).bind fun x36 =>
            (zaI h29 a1 (v22 &&& (((1 : Int32) <<< (v28 &&& 31)) - (1 : Int32)))).bind fun x37 =>
            (zfP h29 this 2 4).bind fun r38 =>
            (zaI h29 r38 (v22 ^^^ (v22 &&& (((1 : Int32) <<< (v28 &&& 31)) - (1 : Int32))))).bind fun x39 =>
            (zbI h29 a1 v22 (if x37 + x39 < x36 then x37 + x39 else x36)).bind fun h40 =>
            some h40).bind fun (h34 : Zh) =>
          some (.inl (v28 + (1 : Int32), h34)) : Option ((Int32 × Zh) ⊕ Zh))) zFU ((0 : Int32), h23)).bind fun (h30 : Zh) =>
      some (.inl (v22 + (1 : Int32), h30)) : Option ((Int32 × Zh) ⊕ Zh))) zFU ((1 : Int32), h21)).bind fun (h24 : Zh) =>
  some h24
set_option maxRecDepth 100000 in
set_option maxHeartbeats 4000000 in
theorem kX1_weighRounds (G : Zg) (h : Zh) (this : Option Nat) (a1 : Option Nat) (a2 : Option Nat) {x : Zh} (hx : fX1_weighRounds h this a1 a2 = some x) : zCt G yX1_weighRounds cX1_weighRounds 6 (Option.none : Option Jvm.ClassFile.FieldType) 2 [zrv G.2.1 this, zrv G.2.1 a1, zrv G.2.1 a2] h none x := by
  refine z_met (a := x) (rvf := fun (_ : Zh) => none) (hff := fun (x : Zh) => x) (lv := [(0, zrv G.2.1 this), (1, zrv G.2.1 a1), (2, zrv G.2.1 a2)]) (by decide +kernel) (by simp [lg_sl, zcat1, zcI, zcJ]) (by simp [lv_args, zcat1, zcI, zcJ]) ?_ hx
  unfold fX1_weighRounds
  refine z_aload_n (j := 0) dX1_weighRounds_0 rfl rfl ?_
  refine z_getP (k := 3) dX1_weighRounds_1 zkl2 (by decide) rfl (.inl zw80) (fun r1 => ?_)
  refine z_ldc (v := 1000000) dX1_weighRounds_4 zw216 ?_
  refine z_callS (As := [zrv G.2.1 r1, .int (1000000 : Int32)]) (rest := []) (rv2 := fun (_ : Zh) => none) (h2 := fun (x : Zh) => x) dX1_weighRounds_6 vJ7_fill_53178 (.inl zw217) (by decide) rfl rfl (by decide) (fun x hx => kJ7_fill_53178 G h r1 (1000000 : Int32) hx) (fun h2 => ?_)
  try dsimp only [Option.toList, List.cons_append, List.nil_append]
  refine z_iconst (v := 1) dX1_weighRounds_9 (by decide) ?_
  refine z_istore_n (i := 3) (lv' := [(3, .int (1 : Int32)), (0, zrv G.2.1 this), (1, zrv G.2.1 a1), (2, zrv G.2.1 a2)]) dX1_weighRounds_10 rfl (by decide) (by simp [zcat1, zcI, zcJ]) ?_
  refine z_at [1, 2, 3, 0] rfl ?_
  refine z_join (pc2 := 37) (lv2 := fun (q : Zh) => [(0, zrv G.2.1 this), (1, zrv G.2.1 a1)]) (st2 := fun _ => []) (h2 := fun (q : Zh) => q) (fun q => ?_) (fun F6 kF6 => ?_)
  · obtain ⟨h5, e0⟩ : ∃ z, z = q := ⟨_, rfl⟩
    subst e0
    try dsimp only
    refine z_aload_n (j := 0) dX1_weighRounds_37 rfl rfl ?_
    refine z_aload_n (j := 0) dX1_weighRounds_38 rfl rfl ?_
    refine z_getP (k := 3) dX1_weighRounds_39 zkl2 (by decide) rfl (.inl zw80) (fun r15 => ?_)
    refine z_aload_n (j := 0) dX1_weighRounds_42 rfl rfl ?_
    refine z_getP (k := 4) dX1_weighRounds_43 zkl2 (by decide) rfl (.inl zw81) (fun r16 => ?_)
    refine z_ob (fun p17 ep17 lp17 kp17 => ?_)
    refine z_callV (As := [zrv G.2.1 r15, zrv G.2.1 r16]) (rest := []) (rv2 := fun (_ : Zh) => none) (h2 := fun (x : Zh) => x) dX1_weighRounds_46 vX1_copy (.inl zw224) (by decide) zkl2 lp17 kp17 rfl (by rw [ep17]; rfl) (by decide) (fun x hx => kX1_copy G h5 (some p17) r15 r16 hx) (fun h18 => ?_)
    try dsimp only [Option.toList, List.cons_append, List.nil_append]
    refine z_aload_n (j := 0) dX1_weighRounds_49 rfl rfl ?_
    refine z_aload_n (j := 0) dX1_weighRounds_50 rfl rfl ?_
    refine z_getP (k := 4) dX1_weighRounds_51 zkl2 (by decide) rfl (.inl zw81) (fun r19 => ?_)
    refine z_aload_n (j := 1) dX1_weighRounds_54 rfl rfl ?_
    refine z_ob (fun p20 ep20 lp20 kp20 => ?_)
    refine z_callV (As := [zrv G.2.1 r19, zrv G.2.1 a1]) (rest := []) (rv2 := fun (_ : Zh) => none) (h2 := fun (x : Zh) => x) dX1_weighRounds_55 vX1_inRow (.inl zw228) (by decide) zkl2 lp20 kp20 rfl (by rw [ep20]; rfl) (by decide) (fun x hx => kX1_inRow G h18 (some p20) r19 a1 hx) (fun h21 => ?_)
    try dsimp only [Option.toList, List.cons_append, List.nil_append]
    refine z_iconst (v := 1) dX1_weighRounds_58 (by decide) ?_
    refine z_istore_n (i := 3) (lv' := [(3, .int (1 : Int32)), (0, zrv G.2.1 this), (1, zrv G.2.1 a1)]) dX1_weighRounds_59 rfl (by decide) rfl ?_
    refine z_at [1, 2, 0] rfl ?_
    refine z_join (pc2 := 131) (lv2 := fun (q : Zh) => []) (st2 := fun _ => []) (h2 := fun (q : Zh) => q) (fun q => ?_) (fun F25 kF25 => ?_)
    · obtain ⟨h24, e0⟩ : ∃ z, z = q := ⟨_, rfl⟩
      subst e0
      try dsimp only
      exact z_vret dX1_weighRounds_131 rfl rfl rfl
    · refine z_loop (lvf := fun (q : Int32 × Zh) => [(0, zrv G.2.1 this), (1, zrv G.2.1 a1), (3, .int q.1)]) (hf2 := fun (q : Int32 × Zh) => q.2) (s0 := ((1 : Int32), h21)) (fun K26 bK26 rK26 q => ?_)
      obtain ⟨v22, h23⟩ := q
      try dsimp only
      refine z_iload_n (j := 2) dX1_weighRounds_60 rfl rfl ?_
      refine z_aload_n (j := 0) dX1_weighRounds_61 rfl rfl ?_
      refine z_as ?_
      refine z_getI (k := 2) dX1_weighRounds_62 zkl2 (by decide) rfl (.inl zw79) (fun x27 => ?_)
      refine z_itb ?_
      refine z_icmp_ge (tgt := 131) dX1_weighRounds_65 (by decide) (fun _ => ?_) (fun _ => ?_)
      · refine z_sb ?_
        refine z_eq (rK26 _) ?_
        refine z_at [] rfl ?_
        exact kF25 h23
      · refine z_iconst (v := 0) dX1_weighRounds_68 (by decide) ?_
        refine z_istore (i := 4) (lv' := [(4, .int (0 : Int32)), (0, zrv G.2.1 this), (1, zrv G.2.1 a1), (3, .int v22)]) dX1_weighRounds_69 (by decide) rfl ?_
        refine z_as ?_
        refine z_at [1, 2, 3, 0] rfl ?_
        refine z_join (pc2 := 125) (lv2 := fun (q : Zh) => [(0, zrv G.2.1 this), (1, zrv G.2.1 a1), (3, .int v22)]) (st2 := fun _ => []) (h2 := fun (q : Zh) => q) (fun q => ?_) (fun F31 kF31 => ?_)
        · obtain ⟨h30, e0⟩ : ∃ z, z = q := ⟨_, rfl⟩
          subst e0
          try dsimp only
          refine z_iinc (j := 2) (v := v22 + (1 : Int32)) (lv' := [(3, .int (v22 + (1 : Int32))), (0, zrv G.2.1 this), (1, zrv G.2.1 a1)]) dX1_weighRounds_125 rfl rfl (by decide) rfl ?_
          refine z_goto (tgt := 60) dX1_weighRounds_128 (by decide) ?_
          refine z_sb ?_
          refine z_at [1, 2, 0] rfl ?_
          exact bK26 (v22 + (1 : Int32), h30)
        · refine z_loop (lvf := fun (q : Int32 × Zh) => [(0, zrv G.2.1 this), (1, zrv G.2.1 a1), (3, .int v22), (4, .int q.1)]) (hf2 := fun (q : Int32 × Zh) => q.2) (s0 := ((0 : Int32), h23)) (fun K32 bK32 rK32 q => ?_)
          obtain ⟨v28, h29⟩ := q
          try dsimp only
          refine z_iload (j := 3) dX1_weighRounds_71 rfl ?_
          refine z_aload_n (j := 0) dX1_weighRounds_73 rfl rfl ?_
          refine z_as ?_
          refine z_getI (k := 1) dX1_weighRounds_74 zkl2 (by decide) rfl (.inl zw78) (fun x33 => ?_)
          refine z_itb ?_
          refine z_icmp_ge (tgt := 125) dX1_weighRounds_77 (by decide) (fun _ => ?_) (fun _ => ?_)
          · refine z_sb ?_
            refine z_eq (rK32 _) ?_
            refine z_at [0, 1, 2] rfl ?_
            exact kF31 h29
          · refine z_iload_n (j := 2) dX1_weighRounds_80 rfl rfl ?_
            refine z_iconst (v := 1) dX1_weighRounds_81 (by decide) ?_
            refine z_iload (j := 3) dX1_weighRounds_82 rfl ?_
            refine z_ishl dX1_weighRounds_84 ?_
            refine z_iconst (v := 1) dX1_weighRounds_85 (by decide) ?_
            refine z_isub dX1_weighRounds_86 ?_
            refine z_iand dX1_weighRounds_87 ?_
            refine z_istore (i := 5) (lv' := [(5, .int (v22 &&& (((1 : Int32) <<< (v28 &&& 31)) - (1 : Int32)))), (0, zrv G.2.1 this), (1, zrv G.2.1 a1), (3, .int v22), (4, .int v28)]) dX1_weighRounds_88 (by decide) rfl ?_
            refine z_iload (j := 0) dX1_weighRounds_90 rfl ?_
            refine z_iload_n (j := 3) dX1_weighRounds_92 rfl rfl ?_
            refine z_as ?_
            refine z_join (pc2 := 119) (lv2 := fun (q : Zh) => [(0, zrv G.2.1 this), (1, zrv G.2.1 a1), (3, .int v22), (4, .int v28)]) (st2 := fun (q : Zh) => []) (h2 := fun (q : Zh) => q) (fun q => ?_) (fun F35 kF35 => ?_)
            · obtain ⟨h34, e0⟩ : ∃ z, z = q := ⟨_, rfl⟩
              subst e0
              try dsimp only
              refine z_iinc (j := 3) (v := v28 + (1 : Int32)) (lv' := [(4, .int (v28 + (1 : Int32))), (0, zrv G.2.1 this), (1, zrv G.2.1 a1), (3, .int v22)]) dX1_weighRounds_119 rfl rfl (by decide) rfl ?_
              refine z_goto (tgt := 71) dX1_weighRounds_122 (by decide) ?_
              refine z_sb ?_
              refine z_at [1, 2, 3, 0] rfl ?_
              exact bK32 (v28 + (1 : Int32), h34)
            · refine z_itb ?_
              refine z_icmp_eq (tgt := 119) dX1_weighRounds_93 (by decide) (fun _ => ?_) (fun _ => ?_)
              · refine z_sb ?_
                refine z_at [1, 2, 3, 4] rfl ?_
                exact kF35 h29
              · refine z_aload_n (j := 2) dX1_weighRounds_96 rfl rfl ?_
                refine z_iload_n (j := 3) dX1_weighRounds_97 rfl rfl ?_
                refine z_aload_n (j := 2) dX1_weighRounds_98 rfl rfl ?_
                refine z_iload_n (j := 3) dX1_weighRounds_99 rfl rfl ?_
                refine z_as ?_
                refine z_iald dX1_weighRounds_100 (fun x36 => ?_)
                refine z_aload_n (j := 2) dX1_weighRounds_101 rfl rfl ?_
                refine z_iload (j := 0) dX1_weighRounds_102 rfl ?_
                refine z_as ?_
                refine z_iald dX1_weighRounds_104 (fun x37 => ?_)
                refine z_aload_n (j := 1) dX1_weighRounds_105 rfl rfl ?_
                refine z_as ?_
                refine z_getP (k := 4) dX1_weighRounds_106 zkl2 (by decide) rfl (.inl zw81) (fun r38 => ?_)
                refine z_iload_n (j := 3) dX1_weighRounds_109 rfl rfl ?_
                refine z_iload (j := 0) dX1_weighRounds_110 rfl ?_
                refine z_ixor dX1_weighRounds_112 ?_
                refine z_as ?_
                refine z_iald dX1_weighRounds_113 (fun x39 => ?_)
                refine z_iadd dX1_weighRounds_114 ?_
                refine z_mmin dX1_weighRounds_115 zw202 zw203 zw47 zw204 (by decide) (by simp [zcat1, zcI, zcJ]) ?_
                refine z_as ?_
                refine z_iast dX1_weighRounds_118 (fun h40 => ?_)
                refine z_sb ?_
                refine z_at [1, 2, 3, 4] rfl ?_
                exact kF35 h40
  · refine z_loop (lvf := fun (q : Int32 × Zh) => [(0, zrv G.2.1 this), (1, zrv G.2.1 a1), (2, zrv G.2.1 a2), (3, .int q.1)]) (hf2 := fun (q : Int32 × Zh) => q.2) (s0 := ((1 : Int32), h2)) (fun K7 bK7 rK7 q => ?_)
    obtain ⟨v3, h4⟩ := q
    try dsimp only
    refine z_iload_n (j := 3) dX1_weighRounds_11 rfl rfl ?_
    refine z_aload_n (j := 2) dX1_weighRounds_12 rfl rfl ?_
    refine z_as ?_
    refine z_alen dX1_weighRounds_13 (by decide) (fun x8 => ?_)
    refine z_itb ?_
    refine z_icmp_ge (tgt := 37) dX1_weighRounds_14 (by decide) (fun _ => ?_) (fun _ => ?_)
    · refine z_sb ?_
      refine z_eq (rK7 _) ?_
      refine z_at [0, 1] rfl ?_
      exact kF6 h4
    · refine z_aload_n (j := 0) dX1_weighRounds_17 rfl rfl ?_
      refine z_aload_n (j := 0) dX1_weighRounds_18 rfl rfl ?_
      refine z_as ?_
      refine z_getP (k := 3) dX1_weighRounds_19 zkl2 (by decide) rfl (.inl zw80) (fun r9 => ?_)
      refine z_aload_n (j := 2) dX1_weighRounds_22 rfl rfl ?_
      refine z_iload_n (j := 3) dX1_weighRounds_23 rfl rfl ?_
      refine z_as ?_
      refine z_aald dX1_weighRounds_24 (by decide) (by decide) (fun r10 => ?_)
      refine z_as ?_
      refine z_callS (As := [zrv G.2.1 r10]) (rest := [zrv G.2.1 r9, zrv G.2.1 this]) (rv2 := fun (x : Option Nat × Zh) => some (zrv G.2.1 x.1)) (h2 := fun (x : Option Nat × Zh) => x.2) dX1_weighRounds_25 vX1_costsOf (.inl zw209) (by decide) rfl rfl (by simp [zcat1, zcI, zcJ]) (fun x hx => kX1_costsOf G h4 r10 hx) (fun x => ?_)
      obtain ⟨r11, h12⟩ := x
      try dsimp only [Option.toList, List.cons_append, List.nil_append]
      refine z_as ?_
      refine z_ob (fun p13 ep13 lp13 kp13 => ?_)
      refine z_as ?_
      refine z_callV (As := [zrv G.2.1 r9, zrv G.2.1 r11]) (rest := []) (rv2 := fun (_ : Zh) => none) (h2 := fun (x : Zh) => x) dX1_weighRounds_28 vX1_cheaper (.inl zw232) (by decide) zkl2 lp13 kp13 rfl (by rw [ep13]; rfl) (by decide) (fun x hx => kX1_cheaper G h12 (some p13) r9 r11 hx) (fun h14 => ?_)
      try dsimp only [Option.toList, List.cons_append, List.nil_append]
      refine z_iinc (j := 3) (v := v3 + (1 : Int32)) (lv' := [(3, .int (v3 + (1 : Int32))), (0, zrv G.2.1 this), (1, zrv G.2.1 a1), (2, zrv G.2.1 a2)]) dX1_weighRounds_31 rfl rfl (by decide) (by simp [zcat1, zcI, zcJ]) ?_
      refine z_goto (tgt := 11) dX1_weighRounds_34 (by decide) ?_
      refine z_sb ?_
      refine z_at [1, 2, 3, 0] rfl ?_
      exact bK7 (v3 + (1 : Int32), h14)
def fX1_weighParts (h : Zh) (this : Option Nat) (a1 : Option Nat) (a2 : Int32) (a3 : Option Nat) : Option (Zh) :=
  (zloop (fun ((v1, h2) : Int32 × Zh) =>
    ((zaL h2 a3 3).bind fun x6 =>
    if x6 ≤ v1 then
      some (.inr h2)
    else
      (zaP h2 a3 3 v1).bind fun r7 =>
      (fX1_costsOf h2 r7).bind fun ((r8, h9) : Option Nat × Zh) =>
      (if v1 = 0 then
        (zob h9 this 3).bind fun p12 =>
        (fX1_copy h9 (some p12) r8 a1).bind fun h13 =>
        some h13
      else
        if a2 = (2 : Int32) then
          (zob h9 this 3).bind fun p14 =>
          (fX1_inRow h9 (some p14) a1 r8).bind fun h15 =>
          some h15
        else
          if a2 = (3 : Int32) then
            (zob h9 this 3).bind fun p16 =>
            (fX1_cheaper h9 (some p16) a1 r8).bind fun h17 =>
            some h17
          else
            if a2 = (4 : Int32) then
              (zob h9 this 3).bind fun p18 =>
              (fX1_mixed h9 (some p18) a1 r8).bind fun h19 =>
              some h19
            else
              some h9).bind fun (h10 : Zh) =>
      some (.inl (v1 + (1 : Int32), h10)) : Option ((Int32 × Zh) ⊕ Zh))) zFU ((0 : Int32), h)).bind fun (h3 : Zh) =>
  (if a2 = (5 : Int32) then
    (zob h3 this 3).bind fun p22 =>
    (fX1_weighRounds h3 (some p22) a1 a3).bind fun h23 =>
    some h23
  else
    some h3).bind fun (h20 : Zh) =>
  some h20
set_option maxRecDepth 100000 in
set_option maxHeartbeats 4000000 in
theorem kX1_weighParts (G : Zg) (h : Zh) (this : Option Nat) (a1 : Option Nat) (a2 : Int32) (a3 : Option Nat) {x : Zh} (hx : fX1_weighParts h this a1 a2 a3 = some x) : zCt G yX1_weighParts cX1_weighParts 6 (Option.none : Option Jvm.ClassFile.FieldType) 3 [zrv G.2.1 this, zrv G.2.1 a1, .int a2, zrv G.2.1 a3] h none x := by
  refine z_met (a := x) (rvf := fun (_ : Zh) => none) (hff := fun (x : Zh) => x) (lv := [(0, zrv G.2.1 this), (1, zrv G.2.1 a1), (2, .int a2), (3, zrv G.2.1 a3)]) (by decide +kernel) (by simp [lg_sl, zcat1, zcI, zcJ]) (by simp [lv_args, zcat1, zcI, zcJ]) ?_ hx
  unfold fX1_weighParts
  refine z_iconst (v := 0) dX1_weighParts_0 (by decide) ?_
  refine z_istore (i := 4) (lv' := [(4, .int (0 : Int32)), (0, zrv G.2.1 this), (1, zrv G.2.1 a1), (2, .int a2), (3, zrv G.2.1 a3)]) dX1_weighParts_1 (by decide) (by simp [zcat1, zcI, zcJ]) ?_
  refine z_at [1, 2, 3, 4, 0] rfl ?_
  refine z_join (pc2 := 82) (lv2 := fun (q : Zh) => [(0, zrv G.2.1 this), (1, zrv G.2.1 a1), (2, .int a2), (3, zrv G.2.1 a3)]) (st2 := fun _ => []) (h2 := fun (q : Zh) => q) (fun q => ?_) (fun F4 kF4 => ?_)
  · obtain ⟨h3, e0⟩ : ∃ z, z = q := ⟨_, rfl⟩
    subst e0
    try dsimp only
    refine z_iload_n (j := 2) dX1_weighParts_82 rfl rfl ?_
    refine z_iconst (v := 5) dX1_weighParts_83 (by decide) ?_
    refine z_join (pc2 := 93) (lv2 := fun (q : Zh) => []) (st2 := fun (q : Zh) => []) (h2 := fun (q : Zh) => q) (fun q => ?_) (fun F21 kF21 => ?_)
    · obtain ⟨h20, e0⟩ : ∃ z, z = q := ⟨_, rfl⟩
      subst e0
      try dsimp only
      exact z_vret dX1_weighParts_93 rfl rfl rfl
    · refine z_itb ?_
      refine z_icmp_ne (tgt := 93) dX1_weighParts_84 (by decide) (fun _ => ?_) (fun _ => ?_)
      · refine z_aload_n (j := 0) dX1_weighParts_87 rfl rfl ?_
        refine z_aload_n (j := 1) dX1_weighParts_88 rfl rfl ?_
        refine z_aload_n (j := 3) dX1_weighParts_89 rfl rfl ?_
        refine z_as ?_
        refine z_ob (fun p22 ep22 lp22 kp22 => ?_)
        refine z_as ?_
        refine z_callV (As := [zrv G.2.1 a1, zrv G.2.1 a3]) (rest := []) (rv2 := fun (_ : Zh) => none) (h2 := fun (x : Zh) => x) dX1_weighParts_90 vX1_weighRounds (.inl zw240) (by decide) zkl2 lp22 kp22 rfl (by rw [ep22]; rfl) (by decide) (fun x hx => kX1_weighRounds G h3 (some p22) a1 a3 hx) (fun h23 => ?_)
        try dsimp only [Option.toList, List.cons_append, List.nil_append]
        refine z_sb ?_
        refine z_at [] rfl ?_
        exact kF21 h23
      · refine z_sb ?_
        refine z_at [] rfl ?_
        exact kF21 h3
  · refine z_loop (lvf := fun (q : Int32 × Zh) => [(0, zrv G.2.1 this), (1, zrv G.2.1 a1), (2, .int a2), (3, zrv G.2.1 a3), (4, .int q.1)]) (hf2 := fun (q : Int32 × Zh) => q.2) (s0 := ((0 : Int32), h)) (fun K5 bK5 rK5 q => ?_)
    obtain ⟨v1, h2⟩ := q
    try dsimp only
    refine z_iload (j := 4) dX1_weighParts_3 rfl ?_
    refine z_aload_n (j := 3) dX1_weighParts_5 rfl rfl ?_
    refine z_as ?_
    refine z_alen dX1_weighParts_6 (by decide) (fun x6 => ?_)
    refine z_itb ?_
    refine z_icmp_ge (tgt := 82) dX1_weighParts_7 (by decide) (fun _ => ?_) (fun _ => ?_)
    · refine z_sb ?_
      refine z_eq (rK5 _) ?_
      refine z_at [0, 1, 2, 3] rfl ?_
      exact kF4 h2
    · refine z_aload_n (j := 3) dX1_weighParts_10 rfl rfl ?_
      refine z_iload (j := 4) dX1_weighParts_11 rfl ?_
      refine z_as ?_
      refine z_aald dX1_weighParts_13 (by decide) (by decide) (fun r7 => ?_)
      refine z_as ?_
      refine z_callS (As := [zrv G.2.1 r7]) (rest := []) (rv2 := fun (x : Option Nat × Zh) => some (zrv G.2.1 x.1)) (h2 := fun (x : Option Nat × Zh) => x.2) dX1_weighParts_14 vX1_costsOf (.inl zw209) (by decide) rfl rfl (by decide) (fun x hx => kX1_costsOf G h2 r7 hx) (fun x => ?_)
      obtain ⟨r8, h9⟩ := x
      try dsimp only [Option.toList, List.cons_append, List.nil_append]
      refine z_astore (i := 5) (lv' := [(5, zrv G.2.1 r8), (0, zrv G.2.1 this), (1, zrv G.2.1 a1), (2, .int a2), (3, zrv G.2.1 a3), (4, .int v1)]) dX1_weighParts_17 (by decide) rfl ?_
      refine z_iload (j := 5) dX1_weighParts_19 rfl ?_
      refine z_as ?_
      refine z_join (pc2 := 76) (lv2 := fun (q : Zh) => [(0, zrv G.2.1 this), (1, zrv G.2.1 a1), (2, .int a2), (3, zrv G.2.1 a3), (4, .int v1)]) (st2 := fun (q : Zh) => []) (h2 := fun (q : Zh) => q) (fun q => ?_) (fun F11 kF11 => ?_)
      · obtain ⟨h10, e0⟩ : ∃ z, z = q := ⟨_, rfl⟩
        subst e0
        try dsimp only
        refine z_iinc (j := 4) (v := v1 + (1 : Int32)) (lv' := [(4, .int (v1 + (1 : Int32))), (0, zrv G.2.1 this), (1, zrv G.2.1 a1), (2, .int a2), (3, zrv G.2.1 a3)]) dX1_weighParts_76 rfl rfl (by decide) (by simp [zcat1, zcI, zcJ]) ?_
        refine z_goto (tgt := 3) dX1_weighParts_79 (by decide) ?_
        refine z_sb ?_
        refine z_at [1, 2, 3, 4, 0] rfl ?_
        exact bK5 (v1 + (1 : Int32), h10)
      · refine z_itb ?_
        refine z_if_ne (tgt := 34) dX1_weighParts_21 (by decide) (fun _ => ?_) (fun _ => ?_)
        · refine z_aload_n (j := 1) dX1_weighParts_24 rfl rfl ?_
          refine z_aload (j := 0) dX1_weighParts_25 rfl ?_
          refine z_aload_n (j := 2) dX1_weighParts_27 rfl rfl ?_
          refine z_as ?_
          refine z_ob (fun p12 ep12 lp12 kp12 => ?_)
          refine z_as ?_
          refine z_callV (As := [zrv G.2.1 r8, zrv G.2.1 a1]) (rest := []) (rv2 := fun (_ : Zh) => none) (h2 := fun (x : Zh) => x) dX1_weighParts_28 vX1_copy (.inl zw224) (by decide) zkl2 lp12 kp12 rfl (by rw [ep12]; rfl) (by decide) (fun x hx => kX1_copy G h9 (some p12) r8 a1 hx) (fun h13 => ?_)
          try dsimp only [Option.toList, List.cons_append, List.nil_append]
          refine z_goto (tgt := 76) dX1_weighParts_31 (by decide) ?_
          refine z_sb ?_
          refine z_at [1, 2, 3, 4, 5] rfl ?_
          exact kF11 h13
        · refine z_iload_n (j := 3) dX1_weighParts_34 rfl rfl ?_
          refine z_iconst (v := 2) dX1_weighParts_35 (by decide) ?_
          refine z_itb ?_
          refine z_icmp_ne (tgt := 49) dX1_weighParts_36 (by decide) (fun _ => ?_) (fun _ => ?_)
          · refine z_aload_n (j := 1) dX1_weighParts_39 rfl rfl ?_
            refine z_aload_n (j := 2) dX1_weighParts_40 rfl rfl ?_
            refine z_aload (j := 0) dX1_weighParts_41 rfl ?_
            refine z_as ?_
            refine z_ob (fun p14 ep14 lp14 kp14 => ?_)
            refine z_as ?_
            refine z_callV (As := [zrv G.2.1 a1, zrv G.2.1 r8]) (rest := []) (rv2 := fun (_ : Zh) => none) (h2 := fun (x : Zh) => x) dX1_weighParts_43 vX1_inRow (.inl zw228) (by decide) zkl2 lp14 kp14 rfl (by rw [ep14]; rfl) (by decide) (fun x hx => kX1_inRow G h9 (some p14) a1 r8 hx) (fun h15 => ?_)
            try dsimp only [Option.toList, List.cons_append, List.nil_append]
            refine z_goto (tgt := 76) dX1_weighParts_46 (by decide) ?_
            refine z_sb ?_
            refine z_at [1, 2, 3, 4, 5] rfl ?_
            exact kF11 h15
          · refine z_iload_n (j := 3) dX1_weighParts_49 rfl rfl ?_
            refine z_iconst (v := 3) dX1_weighParts_50 (by decide) ?_
            refine z_itb ?_
            refine z_icmp_ne (tgt := 64) dX1_weighParts_51 (by decide) (fun _ => ?_) (fun _ => ?_)
            · refine z_aload_n (j := 1) dX1_weighParts_54 rfl rfl ?_
              refine z_aload_n (j := 2) dX1_weighParts_55 rfl rfl ?_
              refine z_aload (j := 0) dX1_weighParts_56 rfl ?_
              refine z_as ?_
              refine z_ob (fun p16 ep16 lp16 kp16 => ?_)
              refine z_as ?_
              refine z_callV (As := [zrv G.2.1 a1, zrv G.2.1 r8]) (rest := []) (rv2 := fun (_ : Zh) => none) (h2 := fun (x : Zh) => x) dX1_weighParts_58 vX1_cheaper (.inl zw232) (by decide) zkl2 lp16 kp16 rfl (by rw [ep16]; rfl) (by decide) (fun x hx => kX1_cheaper G h9 (some p16) a1 r8 hx) (fun h17 => ?_)
              try dsimp only [Option.toList, List.cons_append, List.nil_append]
              refine z_goto (tgt := 76) dX1_weighParts_61 (by decide) ?_
              refine z_sb ?_
              refine z_at [1, 2, 3, 4, 5] rfl ?_
              exact kF11 h17
            · refine z_iload_n (j := 3) dX1_weighParts_64 rfl rfl ?_
              refine z_iconst (v := 4) dX1_weighParts_65 (by decide) ?_
              refine z_itb ?_
              refine z_icmp_ne (tgt := 76) dX1_weighParts_66 (by decide) (fun _ => ?_) (fun _ => ?_)
              · refine z_aload_n (j := 1) dX1_weighParts_69 rfl rfl ?_
                refine z_aload_n (j := 2) dX1_weighParts_70 rfl rfl ?_
                refine z_aload (j := 0) dX1_weighParts_71 rfl ?_
                refine z_as ?_
                refine z_ob (fun p18 ep18 lp18 kp18 => ?_)
                refine z_as ?_
                refine z_callV (As := [zrv G.2.1 a1, zrv G.2.1 r8]) (rest := []) (rv2 := fun (_ : Zh) => none) (h2 := fun (x : Zh) => x) dX1_weighParts_73 vX1_mixed (.inl zw236) (by decide) zkl2 lp18 kp18 rfl (by rw [ep18]; rfl) (by decide) (fun x hx => kX1_mixed G h9 (some p18) a1 r8 hx) (fun h19 => ?_)
                try dsimp only [Option.toList, List.cons_append, List.nil_append]
                refine z_sb ?_
                refine z_at [1, 2, 3, 4, 5] rfl ?_
                exact kF11 h19
              · refine z_sb ?_
                refine z_at [1, 2, 3, 4, 5] rfl ?_
                exact kF11 h9
def fX1_weighB (rc : (Zh → Option Nat → Option Nat → Int32 → Option (Zh))) (h : Zh) (a1 : Option Nat) (a2 : Option Nat) (a3 : Int32) : Option (Zh) :=
  (zfP h a2 3 2).bind fun r1 =>
  (zaL h r1 3).bind fun x2 =>
  if x2 = 0 then
    (fX1_costsOf h a2).bind fun ((r3, h4) : Option Nat × Zh) =>
    (zob h4 a1 3).bind fun p5 =>
    (fX1_weighDeed h4 (some p5) r3 a2).bind fun h6 =>
    some h6
  else
    if a3 ≤ (40 : Int32) then
      (zloop (fun ((v7, h8) : Int32 × Zh) =>
        ((zfP h8 a2 3 2).bind fun r12 =>
        (zaL h8 r12 3).bind fun x13 =>
        if x13 ≤ v7 then
          some (.inr h8)
        else
          (zfP h8 a2 3 2).bind fun r14 =>
          (zaP h8 r14 3 v7).bind fun r15 =>
          (rc h8 a1 r15 (a3 + (1 : Int32))).bind fun h16 =>
          some (.inl (v7 + (1 : Int32), h16)) : Option ((Int32 × Zh) ⊕ Zh))) zFU ((0 : Int32), h)).bind fun (h9 : Zh) =>
      (fX1_costsOf h9 a2).bind fun ((r17, h18) : Option Nat × Zh) =>
      (zfI h18 a2 3 0).bind fun x19 =>
      (zfP h18 a2 3 2).bind fun r20 =>
      (zob h18 a1 3).bind fun p21 =>
      (fX1_weighParts h18 (some p21) r17 x19 r20).bind fun h22 =>
      some h22
    else
      (fX1_costsOf h a2).bind fun ((r23, h24) : Option Nat × Zh) =>
      (zob h24 a1 3).bind fun p25 =>
      (fX1_weighDeed h24 (some p25) r23 a2).bind fun h26 =>
      some h26
set_option maxRecDepth 100000 in
set_option maxHeartbeats 4000000 in
theorem kX1_weighB (G : Zg) (rc : (Zh → Option Nat → Option Nat → Int32 → Option (Zh))) (d : Nat) (hrec : ∀ (h : Zh) (a1 : Option Nat) (a2 : Option Nat) (a3 : Int32) {x : Zh}, rc h a1 a2 a3 = some x → zCt G yX1_weigh cX1_weigh 4 (Option.none : Option Jvm.ClassFile.FieldType) d [zrv G.2.1 a1, zrv G.2.1 a2, .int a3] h none x) (hd0 : 3 ≤ d) (h : Zh) (a1 : Option Nat) (a2 : Option Nat) (a3 : Int32) {x : Zh} (hx : fX1_weighB rc h a1 a2 a3 = some x) : zCt G yX1_weigh cX1_weigh 4 (Option.none : Option Jvm.ClassFile.FieldType) (d + 1) [zrv G.2.1 a1, zrv G.2.1 a2, .int a3] h none x := by
  refine z_met (a := x) (rvf := fun (_ : Zh) => none) (hff := fun (x : Zh) => x) (lv := [(0, zrv G.2.1 a1), (1, zrv G.2.1 a2), (2, .int a3)]) (by decide +kernel) (by simp [lg_sl, zcat1, zcI, zcJ]) (by simp [lv_args, zcat1, zcI, zcJ]) ?_ hx
  unfold fX1_weighB
  refine z_aload_n (j := 1) dX1_weigh_0 rfl rfl ?_
  refine z_getP (k := 2) dX1_weigh_1 zkl3 (by decide) rfl (.inr ⟨_, zw382⟩) (fun r1 => ?_)
  refine z_alen dX1_weigh_4 (by decide) (fun x2 => ?_)
  refine z_if_eq (tgt := 14) dX1_weigh_5 (by decide) (fun _ => ?_) (fun _ => ?_)
  · refine z_aload_n (j := 0) dX1_weigh_14 rfl rfl ?_
    refine z_aload_n (j := 1) dX1_weigh_15 rfl rfl ?_
    refine z_callS (As := [zrv G.2.1 a2]) (rest := [zrv G.2.1 a1]) (rv2 := fun (x : Option Nat × Zh) => some (zrv G.2.1 x.1)) (h2 := fun (x : Option Nat × Zh) => x.2) dX1_weigh_16 vX1_costsOf (.inl zw209) (by omega) rfl rfl (by simp [zcat1, zcI, zcJ]) (fun x hx => kX1_costsOf G h a2 hx) (fun x => ?_)
    obtain ⟨r3, h4⟩ := x
    try dsimp only [Option.toList, List.cons_append, List.nil_append]
    refine z_aload_n (j := 1) dX1_weigh_19 rfl rfl ?_
    refine z_ob (fun p5 ep5 lp5 kp5 => ?_)
    refine z_callV (As := [zrv G.2.1 r3, zrv G.2.1 a2]) (rest := []) (rv2 := fun (_ : Zh) => none) (h2 := fun (x : Zh) => x) dX1_weigh_20 vX1_weighDeed (.inl zw212) (by omega) zkl2 lp5 kp5 rfl (by rw [ep5]; rfl) (by decide) (fun x hx => kX1_weighDeed G h4 (some p5) r3 a2 hx) (fun h6 => ?_)
    try dsimp only [Option.toList, List.cons_append, List.nil_append]
    exact z_vret dX1_weigh_23 rfl rfl rfl
  · refine z_iload_n (j := 2) dX1_weigh_8 rfl rfl ?_
    refine z_bipush (v := 40) dX1_weigh_9 (by decide) ?_
    refine z_icmp_le (tgt := 24) dX1_weigh_11 (by decide) (fun _ => ?_) (fun _ => ?_)
    · refine z_iconst (v := 0) dX1_weigh_24 (by decide) ?_
      refine z_istore_n (i := 3) (lv' := [(3, .int (0 : Int32)), (0, zrv G.2.1 a1), (1, zrv G.2.1 a2), (2, .int a3)]) dX1_weigh_25 rfl (by decide) rfl ?_
      refine z_at [1, 2, 3, 0] rfl ?_
      refine z_join (pc2 := 54) (lv2 := fun (q : Zh) => [(0, zrv G.2.1 a1), (1, zrv G.2.1 a2)]) (st2 := fun _ => []) (h2 := fun (q : Zh) => q) (fun q => ?_) (fun F10 kF10 => ?_)
      · obtain ⟨h9, e0⟩ : ∃ z, z = q := ⟨_, rfl⟩
        subst e0
        try dsimp only
        refine z_aload_n (j := 0) dX1_weigh_54 rfl rfl ?_
        refine z_aload_n (j := 1) dX1_weigh_55 rfl rfl ?_
        refine z_callS (As := [zrv G.2.1 a2]) (rest := [zrv G.2.1 a1]) (rv2 := fun (x : Option Nat × Zh) => some (zrv G.2.1 x.1)) (h2 := fun (x : Option Nat × Zh) => x.2) dX1_weigh_56 vX1_costsOf (.inl zw209) (by omega) rfl rfl (by simp [zcat1, zcI, zcJ]) (fun x hx => kX1_costsOf G h9 a2 hx) (fun x => ?_)
        obtain ⟨r17, h18⟩ := x
        try dsimp only [Option.toList, List.cons_append, List.nil_append]
        refine z_aload_n (j := 1) dX1_weigh_59 rfl rfl ?_
        refine z_getI (k := 0) dX1_weigh_60 zkl3 (by decide) rfl (.inr ⟨_, zw376⟩) (fun x19 => ?_)
        refine z_aload_n (j := 1) dX1_weigh_63 rfl rfl ?_
        refine z_getP (k := 2) dX1_weigh_64 zkl3 (by decide) rfl (.inr ⟨_, zw382⟩) (fun r20 => ?_)
        refine z_ob (fun p21 ep21 lp21 kp21 => ?_)
        refine z_callV (As := [zrv G.2.1 r17, .int x19, zrv G.2.1 r20]) (rest := []) (rv2 := fun (_ : Zh) => none) (h2 := fun (x : Zh) => x) dX1_weigh_67 vX1_weighParts (.inl zw220) (by omega) zkl2 lp21 kp21 rfl (by rw [ep21]; rfl) (by decide) (fun x hx => kX1_weighParts G h18 (some p21) r17 x19 r20 hx) (fun h22 => ?_)
        try dsimp only [Option.toList, List.cons_append, List.nil_append]
        exact z_vret dX1_weigh_70 rfl rfl rfl
      · refine z_loop (lvf := fun (q : Int32 × Zh) => [(0, zrv G.2.1 a1), (1, zrv G.2.1 a2), (2, .int a3), (3, .int q.1)]) (hf2 := fun (q : Int32 × Zh) => q.2) (s0 := ((0 : Int32), h)) (fun K11 bK11 rK11 q => ?_)
        obtain ⟨v7, h8⟩ := q
        try dsimp only
        refine z_iload_n (j := 3) dX1_weigh_26 rfl rfl ?_
        refine z_aload_n (j := 1) dX1_weigh_27 rfl rfl ?_
        refine z_as ?_
        refine z_getP (k := 2) dX1_weigh_28 zkl3 (by decide) rfl (.inr ⟨_, zw382⟩) (fun r12 => ?_)
        refine z_as ?_
        refine z_alen dX1_weigh_31 (by decide) (fun x13 => ?_)
        refine z_itb ?_
        refine z_icmp_ge (tgt := 54) dX1_weigh_32 (by decide) (fun _ => ?_) (fun _ => ?_)
        · refine z_sb ?_
          refine z_eq (rK11 _) ?_
          refine z_at [0, 1] rfl ?_
          exact kF10 h8
        · refine z_aload_n (j := 0) dX1_weigh_35 rfl rfl ?_
          refine z_aload_n (j := 1) dX1_weigh_36 rfl rfl ?_
          refine z_as ?_
          refine z_getP (k := 2) dX1_weigh_37 zkl3 (by decide) rfl (.inr ⟨_, zw382⟩) (fun r14 => ?_)
          refine z_iload_n (j := 3) dX1_weigh_40 rfl rfl ?_
          refine z_as ?_
          refine z_aald dX1_weigh_41 (by decide) (by decide) (fun r15 => ?_)
          refine z_iload_n (j := 2) dX1_weigh_42 rfl rfl ?_
          refine z_iconst (v := 1) dX1_weigh_43 (by decide) ?_
          refine z_iadd dX1_weigh_44 ?_
          refine z_as ?_
          refine z_callS (As := [zrv G.2.1 a1, zrv G.2.1 r15, .int (a3 + (1 : Int32))]) (rest := []) (rv2 := fun (_ : Zh) => none) (h2 := fun (x : Zh) => x) dX1_weigh_45 vX1_weigh (.inl zw206) (by omega) rfl rfl (by decide) (fun x hx => hrec h8 a1 r15 (a3 + (1 : Int32)) hx) (fun h16 => ?_)
          try dsimp only [Option.toList, List.cons_append, List.nil_append]
          refine z_iinc (j := 3) (v := v7 + (1 : Int32)) (lv' := [(3, .int (v7 + (1 : Int32))), (0, zrv G.2.1 a1), (1, zrv G.2.1 a2), (2, .int a3)]) dX1_weigh_48 rfl rfl (by decide) rfl ?_
          refine z_goto (tgt := 26) dX1_weigh_51 (by decide) ?_
          refine z_sb ?_
          refine z_at [1, 2, 3, 0] rfl ?_
          exact bK11 (v7 + (1 : Int32), h16)
    · refine z_aload_n (j := 0) dX1_weigh_14 rfl rfl ?_
      refine z_aload_n (j := 1) dX1_weigh_15 rfl rfl ?_
      refine z_callS (As := [zrv G.2.1 a2]) (rest := [zrv G.2.1 a1]) (rv2 := fun (x : Option Nat × Zh) => some (zrv G.2.1 x.1)) (h2 := fun (x : Option Nat × Zh) => x.2) dX1_weigh_16 vX1_costsOf (.inl zw209) (by omega) rfl rfl (by simp [zcat1, zcI, zcJ]) (fun x hx => kX1_costsOf G h a2 hx) (fun x => ?_)
      obtain ⟨r23, h24⟩ := x
      try dsimp only [Option.toList, List.cons_append, List.nil_append]
      refine z_aload_n (j := 1) dX1_weigh_19 rfl rfl ?_
      refine z_ob (fun p25 ep25 lp25 kp25 => ?_)
      refine z_callV (As := [zrv G.2.1 r23, zrv G.2.1 a2]) (rest := []) (rv2 := fun (_ : Zh) => none) (h2 := fun (x : Zh) => x) dX1_weigh_20 vX1_weighDeed (.inl zw212) (by omega) zkl2 lp25 kp25 rfl (by rw [ep25]; rfl) (by decide) (fun x hx => kX1_weighDeed G h24 (some p25) r23 a2 hx) (fun h26 => ?_)
      try dsimp only [Option.toList, List.cons_append, List.nil_append]
      exact z_vret dX1_weigh_23 rfl rfl rfl
def fX1_weigh : Nat → (Zh → Option Nat → Option Nat → Int32 → Option (Zh))
  | 0 => fun _ _ _ _ => none
  | n + 1 => fX1_weighB (fX1_weigh n)
theorem kX1_weigh (G : Zg) (n : Nat) (h : Zh) (a1 : Option Nat) (a2 : Option Nat) (a3 : Int32) {x : Zh} (hx : fX1_weigh n h a1 a2 a3 = some x) : zCt G yX1_weigh cX1_weigh 4 (Option.none : Option Jvm.ClassFile.FieldType) (n * 1 + 3) [zrv G.2.1 a1, zrv G.2.1 a2, .int a3] h none x := by
  induction n generalizing h a1 a2 a3 x with
  | zero => cases hx
  | succ n ih =>
    have h1 := kX1_weighB G (fX1_weigh n) (n * 1 + 3) (fun h a1 a2 a3 x hx => ih h a1 a2 a3 hx) (by omega) h a1 a2 a3 hx
    rw [show n * 1 + 3 + 1 = (n + 1) * 1 + 3 by omega] at h1
    exact h1
def fJ6_bitCount_0f7a4 (h : Zh) (a1 : Int32) : Option (Int32) :=
  (some (a1 - (((a1.toUInt32 >>> ((1 : Int32).toUInt32 &&& Int32.toUInt32 31)).toInt32) &&& (1431655765 : Int32)))).bind fun v1 =>
  (some ((v1 &&& (858993459 : Int32)) + (((v1.toUInt32 >>> ((2 : Int32).toUInt32 &&& Int32.toUInt32 31)).toInt32) &&& (858993459 : Int32)))).bind fun v2 =>
  (some ((v2 + ((v2.toUInt32 >>> ((4 : Int32).toUInt32 &&& Int32.toUInt32 31)).toInt32)) &&& (252645135 : Int32))).bind fun v3 =>
  (some (v3 + ((v3.toUInt32 >>> ((8 : Int32).toUInt32 &&& Int32.toUInt32 31)).toInt32))).bind fun v4 =>
  (some (v4 + ((v4.toUInt32 >>> ((16 : Int32).toUInt32 &&& Int32.toUInt32 31)).toInt32))).bind fun v5 =>
  some (v5 &&& (63 : Int32))
set_option maxRecDepth 100000 in
set_option maxHeartbeats 4000000 in
theorem kJ6_bitCount_0f7a4 (G : Zg) (h : Zh) (a1 : Int32) {x : Int32} (hx : fJ6_bitCount_0f7a4 h a1 = some x) : zCt G yJ6_bitCount_0f7a4 cJ6_bitCount_0f7a4 1 (Option.some Jvm.ClassFile.FieldType.int) 1 [.int a1] h (some (.int x)) h := by
  refine z_met (a := x) (rvf := fun (x : Int32) => some (.int x)) (hff := fun (_ : Int32) => h) (lv := [(0, .int a1)]) (by decide +kernel) (by simp [lg_sl, zcat1, zcI, zcJ]) (by simp [lv_args, zcat1, zcI, zcJ]) ?_ hx
  unfold fJ6_bitCount_0f7a4
  refine z_iload_n (j := 0) dJ6_bitCount_0f7a4_0 rfl rfl ?_
  refine z_iload_n (j := 0) dJ6_bitCount_0f7a4_1 rfl rfl ?_
  refine z_iconst (v := 1) dJ6_bitCount_0f7a4_2 (by decide) ?_
  refine z_iushr dJ6_bitCount_0f7a4_3 ?_
  refine z_ldcw (v := 1431655765) dJ6_bitCount_0f7a4_4 zw251 ?_
  refine z_iand dJ6_bitCount_0f7a4_7 ?_
  refine z_isub dJ6_bitCount_0f7a4_8 ?_
  refine z_let (fun v1 ev1 => ?_)
  rw [← ev1]
  refine z_istore_n (i := 0) (lv' := [(0, .int v1)]) dJ6_bitCount_0f7a4_9 rfl (by decide) rfl ?_
  refine z_iload_n (j := 0) dJ6_bitCount_0f7a4_10 rfl rfl ?_
  refine z_ldcw (v := 858993459) dJ6_bitCount_0f7a4_11 zw252 ?_
  refine z_iand dJ6_bitCount_0f7a4_14 ?_
  refine z_iload_n (j := 0) dJ6_bitCount_0f7a4_15 rfl rfl ?_
  refine z_iconst (v := 2) dJ6_bitCount_0f7a4_16 (by decide) ?_
  refine z_iushr dJ6_bitCount_0f7a4_17 ?_
  refine z_ldcw (v := 858993459) dJ6_bitCount_0f7a4_18 zw252 ?_
  refine z_iand dJ6_bitCount_0f7a4_21 ?_
  refine z_iadd dJ6_bitCount_0f7a4_22 ?_
  refine z_let (fun v2 ev2 => ?_)
  rw [← ev2]
  refine z_istore_n (i := 0) (lv' := [(0, .int v2)]) dJ6_bitCount_0f7a4_23 rfl (by decide) rfl ?_
  refine z_iload_n (j := 0) dJ6_bitCount_0f7a4_24 rfl rfl ?_
  refine z_iload_n (j := 0) dJ6_bitCount_0f7a4_25 rfl rfl ?_
  refine z_iconst (v := 4) dJ6_bitCount_0f7a4_26 (by decide) ?_
  refine z_iushr dJ6_bitCount_0f7a4_27 ?_
  refine z_iadd dJ6_bitCount_0f7a4_28 ?_
  refine z_ldcw (v := 252645135) dJ6_bitCount_0f7a4_29 zw253 ?_
  refine z_iand dJ6_bitCount_0f7a4_32 ?_
  refine z_let (fun v3 ev3 => ?_)
  rw [← ev3]
  refine z_istore_n (i := 0) (lv' := [(0, .int v3)]) dJ6_bitCount_0f7a4_33 rfl (by decide) rfl ?_
  refine z_iload_n (j := 0) dJ6_bitCount_0f7a4_34 rfl rfl ?_
  refine z_iload_n (j := 0) dJ6_bitCount_0f7a4_35 rfl rfl ?_
  refine z_bipush (v := 8) dJ6_bitCount_0f7a4_36 (by decide) ?_
  refine z_iushr dJ6_bitCount_0f7a4_38 ?_
  refine z_iadd dJ6_bitCount_0f7a4_39 ?_
  refine z_let (fun v4 ev4 => ?_)
  rw [← ev4]
  refine z_istore_n (i := 0) (lv' := [(0, .int v4)]) dJ6_bitCount_0f7a4_40 rfl (by decide) rfl ?_
  refine z_iload_n (j := 0) dJ6_bitCount_0f7a4_41 rfl rfl ?_
  refine z_iload_n (j := 0) dJ6_bitCount_0f7a4_42 rfl rfl ?_
  refine z_bipush (v := 16) dJ6_bitCount_0f7a4_43 (by decide) ?_
  refine z_iushr dJ6_bitCount_0f7a4_45 ?_
  refine z_iadd dJ6_bitCount_0f7a4_46 ?_
  refine z_let (fun v5 ev5 => ?_)
  rw [← ev5]
  refine z_istore_n (i := 0) (lv' := [(0, .int v5)]) dJ6_bitCount_0f7a4_47 rfl (by decide) rfl ?_
  refine z_iload_n (j := 0) dJ6_bitCount_0f7a4_48 rfl rfl ?_
  refine z_bipush (v := 63) dJ6_bitCount_0f7a4_49 (by decide) ?_
  refine z_iand dJ6_bitCount_0f7a4_51 ?_
  exact z_iret dJ6_bitCount_0f7a4_52 rfl rfl rfl rfl
def fX1_numberOf (h : Zh) (a1 : Int32) : Option (Int32) :=
  (zloop (fun ((v1, v2) : Int32 × Int32) =>
    (if (6 : Int32) ≤ v2 then
      some (.inr v1)
    else
      (if (a1 &&& ((1 : Int32) <<< (v2 &&& 31))) = 0 then
        some v1
      else
        some (v1 + ((32 : Int32) >>> (v2 &&& 31)))).bind fun (v6 : Int32) =>
      some (.inl (v6, v2 + (1 : Int32))) : Option ((Int32 × Int32) ⊕ Int32))) zFU ((0 : Int32), (0 : Int32))).bind fun (w3 : Int32) =>
  some w3
set_option maxRecDepth 100000 in
set_option maxHeartbeats 4000000 in
theorem kX1_numberOf (G : Zg) (h : Zh) (a1 : Int32) {x : Int32} (hx : fX1_numberOf h a1 = some x) : zCt G yX1_numberOf cX1_numberOf 3 (Option.some Jvm.ClassFile.FieldType.int) 1 [.int a1] h (some (.int x)) h := by
  refine z_met (a := x) (rvf := fun (x : Int32) => some (.int x)) (hff := fun (_ : Int32) => h) (lv := [(0, .int a1)]) (by decide +kernel) (by simp [lg_sl, zcat1, zcI, zcJ]) (by simp [lv_args, zcat1, zcI, zcJ]) ?_ hx
  unfold fX1_numberOf
  refine z_iconst (v := 0) dX1_numberOf_0 (by decide) ?_
  refine z_istore_n (i := 1) (lv' := [(1, .int (0 : Int32)), (0, .int a1)]) dX1_numberOf_1 rfl (by decide) rfl ?_
  refine z_iconst (v := 0) dX1_numberOf_2 (by decide) ?_
  refine z_istore_n (i := 2) (lv' := [(2, .int (0 : Int32)), (1, .int (0 : Int32)), (0, .int a1)]) dX1_numberOf_3 rfl (by decide) rfl ?_
  refine z_at [2, 1, 0] rfl ?_
  refine z_join (pc2 := 31) (lv2 := fun (q : Int32) => [(1, .int q)]) (st2 := fun _ => []) (h2 := fun (q : Int32) => h) (fun q => ?_) (fun F4 kF4 => ?_)
  · obtain ⟨w3, e0⟩ : ∃ z, z = q := ⟨_, rfl⟩
    subst e0
    try dsimp only
    refine z_iload_n (j := 0) dX1_numberOf_31 rfl rfl ?_
    exact z_iret dX1_numberOf_32 rfl rfl rfl rfl
  · refine z_loop (lvf := fun (q : Int32 × Int32) => [(0, .int a1), (1, .int q.1), (2, .int q.2)]) (hf2 := fun (q : Int32 × Int32) => h) (s0 := ((0 : Int32), (0 : Int32))) (fun K5 bK5 rK5 q => ?_)
    obtain ⟨v1, v2⟩ := q
    try dsimp only
    refine z_iload_n (j := 2) dX1_numberOf_4 rfl rfl ?_
    refine z_bipush (v := 6) dX1_numberOf_5 (by decide) ?_
    refine z_itb ?_
    refine z_icmp_ge (tgt := 31) dX1_numberOf_7 (by decide) (fun _ => ?_) (fun _ => ?_)
    · refine z_sb ?_
      refine z_eq (rK5 _) ?_
      refine z_at [1] rfl ?_
      exact kF4 v1
    · refine z_iload_n (j := 0) dX1_numberOf_10 rfl rfl ?_
      refine z_iconst (v := 1) dX1_numberOf_11 (by decide) ?_
      refine z_iload_n (j := 2) dX1_numberOf_12 rfl rfl ?_
      refine z_ishl dX1_numberOf_13 ?_
      refine z_iand dX1_numberOf_14 ?_
      refine z_as ?_
      refine z_join (pc2 := 25) (lv2 := fun (q : Int32) => [(0, .int a1), (1, .int q), (2, .int v2)]) (st2 := fun (q : Int32) => []) (h2 := fun (q : Int32) => h) (fun q => ?_) (fun F7 kF7 => ?_)
      · obtain ⟨v6, e0⟩ : ∃ z, z = q := ⟨_, rfl⟩
        subst e0
        try dsimp only
        refine z_iinc (j := 2) (v := v2 + (1 : Int32)) (lv' := [(2, .int (v2 + (1 : Int32))), (0, .int a1), (1, .int v6)]) dX1_numberOf_25 rfl rfl (by decide) rfl ?_
        refine z_goto (tgt := 4) dX1_numberOf_28 (by decide) ?_
        refine z_sb ?_
        refine z_at [1, 2, 0] rfl ?_
        exact bK5 (v6, v2 + (1 : Int32))
      · refine z_itb ?_
        refine z_if_eq (tgt := 25) dX1_numberOf_15 (by decide) (fun _ => ?_) (fun _ => ?_)
        · refine z_sb ?_
          refine z_at [0, 1, 2] rfl ?_
          exact kF7 v1
        · refine z_iload_n (j := 1) dX1_numberOf_18 rfl rfl ?_
          refine z_bipush (v := 32) dX1_numberOf_19 (by decide) ?_
          refine z_iload_n (j := 2) dX1_numberOf_21 rfl rfl ?_
          refine z_ishr dX1_numberOf_22 ?_
          refine z_iadd dX1_numberOf_23 ?_
          refine z_istore_n (i := 1) (lv' := [(1, .int (v1 + ((32 : Int32) >>> (v2 &&& 31)))), (0, .int a1), (2, .int v2)]) dX1_numberOf_24 rfl (by decide) rfl ?_
          refine z_sb ?_
          refine z_at [1, 0, 2] rfl ?_
          exact kF7 (v1 + ((32 : Int32) >>> (v2 &&& 31)))
def fX1_choose (h : Zh) (this : Option Nat) (a1 : Option Nat) : Option (Zh) :=
  (zgI h this 2 5 (1000000 : Int32)).bind fun h1 =>
  (zgI h1 this 2 6 (0 : Int32)).bind fun h2 =>
  (zloop (fun ((v3, h4) : Int32 × Zh) =>
    ((zfI h4 this 2 2).bind fun x8 =>
    if x8 ≤ v3 then
      some (.inr h4)
    else
      (zfI h4 this 2 1).bind fun x9 =>
      (fJ6_bitCount_0f7a4 h4 v3).bind fun x10 =>
      (zaI h4 a1 v3).bind fun x11 =>
      (fX1_numberOf h4 v3).bind fun x12 =>
      (zfI h4 this 2 5).bind fun x13 =>
      (if ((x9 - x10) + x11) < x13 then
        (zgI h4 this 2 5 ((x9 - x10) + x11)).bind fun h16 =>
        (zgI h16 this 2 6 x12).bind fun h17 =>
        some h17
      else
        (zfI h4 this 2 5).bind fun x18 =>
        if ((x9 - x10) + x11) = x18 then
          (zfI h4 this 2 6).bind fun x19 =>
          if x12 ≤ x19 then
            some h4
          else
            (zgI h4 this 2 5 ((x9 - x10) + x11)).bind fun h20 =>
            (zgI h20 this 2 6 x12).bind fun h21 =>
            some h21
        else
          some h4).bind fun (h14 : Zh) =>
      some (.inl (v3 + (1 : Int32), h14)) : Option ((Int32 × Zh) ⊕ Zh))) zFU ((0 : Int32), h2)).bind fun (h5 : Zh) =>
  some h5
set_option maxRecDepth 100000 in
set_option maxHeartbeats 4000000 in
theorem kX1_choose (G : Zg) (h : Zh) (this : Option Nat) (a1 : Option Nat) {x : Zh} (hx : fX1_choose h this a1 = some x) : zCt G yX1_choose cX1_choose 5 (Option.none : Option Jvm.ClassFile.FieldType) 2 [zrv G.2.1 this, zrv G.2.1 a1] h none x := by
  refine z_met (a := x) (rvf := fun (_ : Zh) => none) (hff := fun (x : Zh) => x) (lv := [(0, zrv G.2.1 this), (1, zrv G.2.1 a1)]) (by decide +kernel) (by simp [lg_sl, zcat1, zcI, zcJ]) (by simp [lv_args, zcat1, zcI, zcJ]) ?_ hx
  unfold fX1_choose
  refine z_aload_n (j := 0) dX1_choose_0 rfl rfl ?_
  refine z_ldc (v := 1000000) dX1_choose_1 zw216 ?_
  refine z_putI (k := 5) dX1_choose_3 zkl2 (by decide) (.inl zw82) (.inl rfl) rfl rfl rfl (fun h1 => ?_)
  refine z_aload_n (j := 0) dX1_choose_6 rfl rfl ?_
  refine z_iconst (v := 0) dX1_choose_7 (by decide) ?_
  refine z_putI (k := 6) dX1_choose_8 zkl2 (by decide) (.inl zw84) (.inl rfl) rfl rfl rfl (fun h2 => ?_)
  refine z_iconst (v := 0) dX1_choose_11 (by decide) ?_
  refine z_istore_n (i := 2) (lv' := [(2, .int (0 : Int32)), (0, zrv G.2.1 this), (1, zrv G.2.1 a1)]) dX1_choose_12 rfl (by decide) (by simp [zcat1, zcI, zcJ]) ?_
  refine z_at [1, 2, 0] rfl ?_
  refine z_join (pc2 := 83) (lv2 := fun (q : Zh) => []) (st2 := fun _ => []) (h2 := fun (q : Zh) => q) (fun q => ?_) (fun F6 kF6 => ?_)
  · obtain ⟨h5, e0⟩ : ∃ z, z = q := ⟨_, rfl⟩
    subst e0
    try dsimp only
    exact z_vret dX1_choose_83 rfl rfl rfl
  · refine z_loop (lvf := fun (q : Int32 × Zh) => [(0, zrv G.2.1 this), (1, zrv G.2.1 a1), (2, .int q.1)]) (hf2 := fun (q : Int32 × Zh) => q.2) (s0 := ((0 : Int32), h2)) (fun K7 bK7 rK7 q => ?_)
    obtain ⟨v3, h4⟩ := q
    try dsimp only
    refine z_iload_n (j := 2) dX1_choose_13 rfl rfl ?_
    refine z_aload_n (j := 0) dX1_choose_14 rfl rfl ?_
    refine z_as ?_
    refine z_getI (k := 2) dX1_choose_15 zkl2 (by decide) rfl (.inl zw79) (fun x8 => ?_)
    refine z_itb ?_
    refine z_icmp_ge (tgt := 83) dX1_choose_18 (by decide) (fun _ => ?_) (fun _ => ?_)
    · refine z_sb ?_
      refine z_eq (rK7 _) ?_
      refine z_at [] rfl ?_
      exact kF6 h4
    · refine z_aload_n (j := 0) dX1_choose_21 rfl rfl ?_
      refine z_as ?_
      refine z_getI (k := 1) dX1_choose_22 zkl2 (by decide) rfl (.inl zw78) (fun x9 => ?_)
      refine z_iload_n (j := 2) dX1_choose_25 rfl rfl ?_
      refine z_as ?_
      refine z_callS (As := [.int v3]) (rest := [.int x9]) (rv2 := fun (x : Int32) => some (.int x)) (h2 := fun (_ : Int32) => h4) dX1_choose_26 vJ6_bitCount_0f7a4 (.inl zw248) (by decide) rfl rfl (by simp [zcat1, zcI, zcJ]) (fun x hx => kJ6_bitCount_0f7a4 G h4 v3 hx) (fun x10 => ?_)
      try dsimp only [Option.toList, List.cons_append, List.nil_append]
      refine z_isub dX1_choose_29 ?_
      refine z_aload_n (j := 1) dX1_choose_30 rfl rfl ?_
      refine z_iload_n (j := 2) dX1_choose_31 rfl rfl ?_
      refine z_as ?_
      refine z_iald dX1_choose_32 (fun x11 => ?_)
      refine z_iadd dX1_choose_33 ?_
      refine z_istore_n (i := 3) (lv' := [(3, .int ((x9 - x10) + x11)), (0, zrv G.2.1 this), (1, zrv G.2.1 a1), (2, .int v3)]) dX1_choose_34 rfl (by decide) rfl ?_
      refine z_iload_n (j := 3) dX1_choose_35 rfl rfl ?_
      refine z_as ?_
      refine z_callS (As := [.int v3]) (rest := []) (rv2 := fun (x : Int32) => some (.int x)) (h2 := fun (_ : Int32) => h4) dX1_choose_36 vX1_numberOf (.inl zw254) (by decide) rfl rfl (by decide) (fun x hx => kX1_numberOf G h4 v3 hx) (fun x12 => ?_)
      try dsimp only [Option.toList, List.cons_append, List.nil_append]
      refine z_istore (i := 4) (lv' := [(4, .int x12), (3, .int ((x9 - x10) + x11)), (0, zrv G.2.1 this), (1, zrv G.2.1 a1), (2, .int v3)]) dX1_choose_39 (by decide) rfl ?_
      refine z_iload_n (j := 1) dX1_choose_41 rfl rfl ?_
      refine z_aload_n (j := 2) dX1_choose_42 rfl rfl ?_
      refine z_as ?_
      refine z_getI (k := 5) dX1_choose_43 zkl2 (by decide) rfl (.inl zw82) (fun x13 => ?_)
      refine z_as ?_
      refine z_join (pc2 := 77) (lv2 := fun (q : Zh) => [(0, zrv G.2.1 this), (1, zrv G.2.1 a1), (2, .int v3)]) (st2 := fun (q : Zh) => []) (h2 := fun (q : Zh) => q) (fun q => ?_) (fun F15 kF15 => ?_)
      · obtain ⟨h14, e0⟩ : ∃ z, z = q := ⟨_, rfl⟩
        subst e0
        try dsimp only
        refine z_iinc (j := 2) (v := v3 + (1 : Int32)) (lv' := [(2, .int (v3 + (1 : Int32))), (0, zrv G.2.1 this), (1, zrv G.2.1 a1)]) dX1_choose_77 rfl rfl (by decide) (by simp [zcat1, zcI, zcJ]) ?_
        refine z_goto (tgt := 13) dX1_choose_80 (by decide) ?_
        refine z_sb ?_
        refine z_at [1, 2, 0] rfl ?_
        exact bK7 (v3 + (1 : Int32), h14)
      · refine z_itb ?_
        refine z_icmp_lt (tgt := 66) dX1_choose_46 (by decide) (fun _ => ?_) (fun _ => ?_)
        · refine z_aload_n (j := 2) dX1_choose_66 rfl rfl ?_
          refine z_iload_n (j := 1) dX1_choose_67 rfl rfl ?_
          refine z_as ?_
          refine z_putI (k := 5) dX1_choose_68 zkl2 (by decide) (.inl zw82) (.inl rfl) rfl rfl rfl (fun h16 => ?_)
          refine z_aload_n (j := 2) dX1_choose_71 rfl rfl ?_
          refine z_iload (j := 0) dX1_choose_72 rfl ?_
          refine z_as ?_
          refine z_putI (k := 6) dX1_choose_74 zkl2 (by decide) (.inl zw84) (.inl rfl) rfl rfl rfl (fun h17 => ?_)
          refine z_sb ?_
          refine z_at [2, 3, 4] rfl ?_
          exact kF15 h17
        · refine z_iload_n (j := 1) dX1_choose_49 rfl rfl ?_
          refine z_aload_n (j := 2) dX1_choose_50 rfl rfl ?_
          refine z_as ?_
          refine z_getI (k := 5) dX1_choose_51 zkl2 (by decide) rfl (.inl zw82) (fun x18 => ?_)
          refine z_itb ?_
          refine z_icmp_ne (tgt := 77) dX1_choose_54 (by decide) (fun _ => ?_) (fun _ => ?_)
          · refine z_iload (j := 0) dX1_choose_57 rfl ?_
            refine z_aload_n (j := 2) dX1_choose_59 rfl rfl ?_
            refine z_as ?_
            refine z_getI (k := 6) dX1_choose_60 zkl2 (by decide) rfl (.inl zw84) (fun x19 => ?_)
            refine z_itb ?_
            refine z_icmp_le (tgt := 77) dX1_choose_63 (by decide) (fun _ => ?_) (fun _ => ?_)
            · refine z_sb ?_
              refine z_at [2, 3, 4] rfl ?_
              exact kF15 h4
            · refine z_aload_n (j := 2) dX1_choose_66 rfl rfl ?_
              refine z_iload_n (j := 1) dX1_choose_67 rfl rfl ?_
              refine z_as ?_
              refine z_putI (k := 5) dX1_choose_68 zkl2 (by decide) (.inl zw82) (.inl rfl) rfl rfl rfl (fun h20 => ?_)
              refine z_aload_n (j := 2) dX1_choose_71 rfl rfl ?_
              refine z_iload (j := 0) dX1_choose_72 rfl ?_
              refine z_as ?_
              refine z_putI (k := 6) dX1_choose_74 zkl2 (by decide) (.inl zw84) (.inl rfl) rfl rfl rfl (fun h21 => ?_)
              refine z_sb ?_
              refine z_at [2, 3, 4] rfl ?_
              exact kF15 h21
          · refine z_sb ?_
            refine z_at [2, 3, 4] rfl ?_
            exact kF15 h4
def fX1_lay (h : Zh) (this : Option Nat) (a1 : Option Nat) (a2 : Option Nat) : Option (Zh) :=
  (zfI h a1 1 1).bind fun x1 =>
  (zgI h this 2 1 (if (6 : Int32) < x1 then (6 : Int32) else x1)).bind fun h2 =>
  (zfI h2 this 2 1).bind fun x3 =>
  (zgI h2 this 2 2 ((1 : Int32) <<< (x3 &&& 31))).bind fun h4 =>
  (zloop (fun ((v5, h6) : Int32 × Zh) =>
    ((zfI h6 this 2 1).bind fun x10 =>
    if x10 ≤ v5 then
      some (.inr h6)
    else
      (zfP h6 this 2 0).bind fun r11 =>
      (zob h6 a1 2).bind fun p12 =>
      (fX0_tell h6 (some p12) v5 (0 : Int32)).bind fun x13 =>
      (zbI h6 r11 v5 x13).bind fun h14 =>
      some (.inl (v5 + (1 : Int32), h14)) : Option ((Int32 × Zh) ⊕ Zh))) zFU ((0 : Int32), h4)).bind fun (h7 : Zh) =>
  (fX1_weigh 64 h7 this a2 (0 : Int32)).bind fun h15 =>
  (fX1_costsOf h15 a2).bind fun ((r16, h17) : Option Nat × Zh) =>
  (zob h17 this 3).bind fun p18 =>
  (fX1_choose h17 (some p18) r16).bind fun h19 =>
  some h19
set_option maxRecDepth 100000 in
set_option maxHeartbeats 4000000 in
theorem kX1_lay (G : Zg) (h : Zh) (this : Option Nat) (a1 : Option Nat) (a2 : Option Nat) {x : Zh} (hx : fX1_lay h this a1 a2 = some x) : zCt G yX1_lay cX1_lay 4 (Option.none : Option Jvm.ClassFile.FieldType) 68 [zrv G.2.1 this, zrv G.2.1 a1, zrv G.2.1 a2] h none x := by
  refine z_met (a := x) (rvf := fun (_ : Zh) => none) (hff := fun (x : Zh) => x) (lv := [(0, zrv G.2.1 this), (1, zrv G.2.1 a1), (2, zrv G.2.1 a2)]) (by decide +kernel) (by simp [lg_sl, zcat1, zcI, zcJ]) (by simp [lv_args, zcat1, zcI, zcJ]) ?_ hx
  unfold fX1_lay
  refine z_aload_n (j := 0) dX1_lay_0 rfl rfl ?_
  refine z_aload_n (j := 1) dX1_lay_1 rfl rfl ?_
  refine z_getI (k := 1) dX1_lay_2 zkl1 (by decide) rfl (.inr ⟨_, zw326⟩) (fun x1 => ?_)
  refine z_bipush (v := 6) dX1_lay_5 (by decide) ?_
  refine z_mmin dX1_lay_7 zw202 zw203 zw47 zw204 (by decide) (by simp [zcat1, zcI, zcJ]) ?_
  refine z_putI (k := 1) dX1_lay_10 zkl2 (by decide) (.inl zw78) (.inl rfl) rfl rfl rfl (fun h2 => ?_)
  refine z_aload_n (j := 0) dX1_lay_13 rfl rfl ?_
  refine z_iconst (v := 1) dX1_lay_14 (by decide) ?_
  refine z_aload_n (j := 0) dX1_lay_15 rfl rfl ?_
  refine z_getI (k := 1) dX1_lay_16 zkl2 (by decide) rfl (.inl zw78) (fun x3 => ?_)
  refine z_ishl dX1_lay_19 ?_
  refine z_putI (k := 2) dX1_lay_20 zkl2 (by decide) (.inl zw79) (.inl rfl) rfl rfl rfl (fun h4 => ?_)
  refine z_iconst (v := 0) dX1_lay_23 (by decide) ?_
  refine z_istore_n (i := 3) (lv' := [(3, .int (0 : Int32)), (0, zrv G.2.1 this), (1, zrv G.2.1 a1), (2, zrv G.2.1 a2)]) dX1_lay_24 rfl (by decide) (by simp [zcat1, zcI, zcJ]) ?_
  refine z_at [1, 2, 3, 0] rfl ?_
  refine z_join (pc2 := 51) (lv2 := fun (q : Zh) => [(0, zrv G.2.1 this), (2, zrv G.2.1 a2)]) (st2 := fun _ => []) (h2 := fun (q : Zh) => q) (fun q => ?_) (fun F8 kF8 => ?_)
  · obtain ⟨h7, e0⟩ : ∃ z, z = q := ⟨_, rfl⟩
    subst e0
    try dsimp only
    refine z_aload_n (j := 0) dX1_lay_51 rfl rfl ?_
    refine z_aload_n (j := 1) dX1_lay_52 rfl rfl ?_
    refine z_iconst (v := 0) dX1_lay_53 (by decide) ?_
    refine z_callS (As := [zrv G.2.1 this, zrv G.2.1 a2, .int (0 : Int32)]) (rest := []) (rv2 := fun (_ : Zh) => none) (h2 := fun (x : Zh) => x) dX1_lay_54 vX1_weigh (.inl zw206) (by decide) rfl rfl (by decide) (fun x hx => kX1_weigh G 64 h7 this a2 (0 : Int32) hx) (fun h15 => ?_)
    try dsimp only [Option.toList, List.cons_append, List.nil_append]
    refine z_aload_n (j := 0) dX1_lay_57 rfl rfl ?_
    refine z_aload_n (j := 1) dX1_lay_58 rfl rfl ?_
    refine z_callS (As := [zrv G.2.1 a2]) (rest := [zrv G.2.1 this]) (rv2 := fun (x : Option Nat × Zh) => some (zrv G.2.1 x.1)) (h2 := fun (x : Option Nat × Zh) => x.2) dX1_lay_59 vX1_costsOf (.inl zw209) (by decide) rfl rfl (by simp [zcat1, zcI, zcJ]) (fun x hx => kX1_costsOf G h15 a2 hx) (fun x => ?_)
    obtain ⟨r16, h17⟩ := x
    try dsimp only [Option.toList, List.cons_append, List.nil_append]
    refine z_ob (fun p18 ep18 lp18 kp18 => ?_)
    refine z_callV (As := [zrv G.2.1 r16]) (rest := []) (rv2 := fun (_ : Zh) => none) (h2 := fun (x : Zh) => x) dX1_lay_62 vX1_choose (.inl zw244) (by decide) zkl2 lp18 kp18 rfl (by rw [ep18]; rfl) (by decide) (fun x hx => kX1_choose G h17 (some p18) r16 hx) (fun h19 => ?_)
    try dsimp only [Option.toList, List.cons_append, List.nil_append]
    exact z_vret dX1_lay_65 rfl rfl rfl
  · refine z_loop (lvf := fun (q : Int32 × Zh) => [(0, zrv G.2.1 this), (1, zrv G.2.1 a1), (2, zrv G.2.1 a2), (3, .int q.1)]) (hf2 := fun (q : Int32 × Zh) => q.2) (s0 := ((0 : Int32), h4)) (fun K9 bK9 rK9 q => ?_)
    obtain ⟨v5, h6⟩ := q
    try dsimp only
    refine z_iload_n (j := 3) dX1_lay_25 rfl rfl ?_
    refine z_aload_n (j := 0) dX1_lay_26 rfl rfl ?_
    refine z_as ?_
    refine z_getI (k := 1) dX1_lay_27 zkl2 (by decide) rfl (.inl zw78) (fun x10 => ?_)
    refine z_itb ?_
    refine z_icmp_ge (tgt := 51) dX1_lay_30 (by decide) (fun _ => ?_) (fun _ => ?_)
    · refine z_sb ?_
      refine z_eq (rK9 _) ?_
      refine z_at [0, 2] rfl ?_
      exact kF8 h6
    · refine z_aload_n (j := 0) dX1_lay_33 rfl rfl ?_
      refine z_as ?_
      refine z_getP (k := 0) dX1_lay_34 zkl2 (by decide) rfl (.inl zw77) (fun r11 => ?_)
      refine z_iload_n (j := 3) dX1_lay_37 rfl rfl ?_
      refine z_aload_n (j := 1) dX1_lay_38 rfl rfl ?_
      refine z_iload_n (j := 3) dX1_lay_39 rfl rfl ?_
      refine z_iconst (v := 0) dX1_lay_40 (by decide) ?_
      refine z_as ?_
      refine z_ob (fun p12 ep12 lp12 kp12 => ?_)
      refine z_as ?_
      refine z_callV (As := [.int v5, .int (0 : Int32)]) (rest := [.int v5, zrv G.2.1 r11]) (rv2 := fun (x : Int32) => some (.int x)) (h2 := fun (_ : Int32) => h6) dX1_lay_41 vX0_tell (.inr ⟨_, zw205⟩) (by decide) zkl1 lp12 kp12 rfl (by rw [ep12]; rfl) (by simp [zcat1, zcI, zcJ]) (fun x hx => kX0_tell G h6 (some p12) v5 (0 : Int32) hx) (fun x13 => ?_)
      try dsimp only [Option.toList, List.cons_append, List.nil_append]
      refine z_as ?_
      refine z_iast dX1_lay_44 (fun h14 => ?_)
      refine z_iinc (j := 3) (v := v5 + (1 : Int32)) (lv' := [(3, .int (v5 + (1 : Int32))), (0, zrv G.2.1 this), (1, zrv G.2.1 a1), (2, zrv G.2.1 a2)]) dX1_lay_45 rfl rfl (by decide) (by simp [zcat1, zcI, zcJ]) ?_
      refine z_goto (tgt := 25) dX1_lay_48 (by decide) ?_
      refine z_sb ?_
      refine z_at [1, 2, 3, 0] rfl ?_
      exact bK9 (v5 + (1 : Int32), h14)
def fX2_fewestOf (h : Zh) (a1 : Int32) (a2 : Option Nat) : Option (Int32) :=
  if a1 = 0 then
    some (1 : Int32)
  else
    (zaL h a2 3).bind fun x1 =>
    if x1 = 0 then
      some (0 : Int32)
    else
      (zaP h a2 3 (0 : Int32)).bind fun r2 =>
      (zfI h r2 3 4).bind fun x3 =>
      (zloop (fun ((v4, v5) : Int32 × Int32) =>
        ((zaL h a2 3).bind fun x9 =>
        if x9 ≤ v5 then
          some (.inr v4)
        else
          if a1 = (5 : Int32) then
            some (.inr v4)
          else
            (if a1 = (3 : Int32) then
              (zaP h a2 3 v5).bind fun r12 =>
              (zfI h r12 3 4).bind fun x13 =>
              some (if x13 < v4 then x13 else v4)
            else
              (zaP h a2 3 v5).bind fun r14 =>
              (zfI h r14 3 4).bind fun x15 =>
              some (v4 + x15)).bind fun (v10 : Int32) =>
            some (.inl (v10, v5 + (1 : Int32))) : Option ((Int32 × Int32) ⊕ Int32))) zFU (x3, (1 : Int32))).bind fun (w6 : Int32) =>
      some w6
set_option maxRecDepth 100000 in
set_option maxHeartbeats 4000000 in
theorem kX2_fewestOf (G : Zg) (h : Zh) (a1 : Int32) (a2 : Option Nat) {x : Int32} (hx : fX2_fewestOf h a1 a2 = some x) : zCt G yX2_fewestOf cX2_fewestOf 4 (Option.some Jvm.ClassFile.FieldType.int) 1 [.int a1, zrv G.2.1 a2] h (some (.int x)) h := by
  refine z_met (a := x) (rvf := fun (x : Int32) => some (.int x)) (hff := fun (_ : Int32) => h) (lv := [(0, .int a1), (1, zrv G.2.1 a2)]) (by decide +kernel) (by simp [lg_sl, zcat1, zcI, zcJ]) (by simp [lv_args, zcat1, zcI, zcJ]) ?_ hx
  unfold fX2_fewestOf
  refine z_iload_n (j := 0) dX2_fewestOf_0 rfl rfl ?_
  refine z_if_ne (tgt := 6) dX2_fewestOf_1 (by decide) (fun _ => ?_) (fun _ => ?_)
  · refine z_iconst (v := 1) dX2_fewestOf_4 (by decide) ?_
    exact z_iret dX2_fewestOf_5 rfl rfl rfl rfl
  · refine z_aload_n (j := 1) dX2_fewestOf_6 rfl rfl ?_
    refine z_alen dX2_fewestOf_7 (by decide) (fun x1 => ?_)
    refine z_if_ne (tgt := 13) dX2_fewestOf_8 (by decide) (fun _ => ?_) (fun _ => ?_)
    · refine z_iconst (v := 0) dX2_fewestOf_11 (by decide) ?_
      exact z_iret dX2_fewestOf_12 rfl rfl rfl rfl
    · refine z_aload_n (j := 1) dX2_fewestOf_13 rfl rfl ?_
      refine z_iconst (v := 0) dX2_fewestOf_14 (by decide) ?_
      refine z_aald dX2_fewestOf_15 (by decide) (by decide) (fun r2 => ?_)
      refine z_getI (k := 4) dX2_fewestOf_16 zkl3 (by decide) rfl (.inl zw386) (fun x3 => ?_)
      refine z_istore_n (i := 2) (lv' := [(2, .int x3), (0, .int a1), (1, zrv G.2.1 a2)]) dX2_fewestOf_19 rfl (by decide) (by simp [zcat1, zcI, zcJ]) ?_
      refine z_iconst (v := 1) dX2_fewestOf_20 (by decide) ?_
      refine z_istore_n (i := 3) (lv' := [(3, .int (1 : Int32)), (2, .int x3), (0, .int a1), (1, zrv G.2.1 a2)]) dX2_fewestOf_21 rfl (by decide) rfl ?_
      refine z_at [2, 3, 1, 0] rfl ?_
      refine z_join (pc2 := 66) (lv2 := fun (q : Int32) => [(2, .int q)]) (st2 := fun _ => []) (h2 := fun (q : Int32) => h) (fun q => ?_) (fun F7 kF7 => ?_)
      · obtain ⟨w6, e0⟩ : ∃ z, z = q := ⟨_, rfl⟩
        subst e0
        try dsimp only
        refine z_iload_n (j := 0) dX2_fewestOf_66 rfl rfl ?_
        exact z_iret dX2_fewestOf_67 rfl rfl rfl rfl
      · refine z_loop (lvf := fun (q : Int32 × Int32) => [(0, .int a1), (1, zrv G.2.1 a2), (2, .int q.1), (3, .int q.2)]) (hf2 := fun (q : Int32 × Int32) => h) (s0 := (x3, (1 : Int32))) (fun K8 bK8 rK8 q => ?_)
        obtain ⟨v4, v5⟩ := q
        try dsimp only
        refine z_iload_n (j := 3) dX2_fewestOf_22 rfl rfl ?_
        refine z_aload_n (j := 1) dX2_fewestOf_23 rfl rfl ?_
        refine z_as ?_
        refine z_alen dX2_fewestOf_24 (by decide) (fun x9 => ?_)
        refine z_itb ?_
        refine z_icmp_ge (tgt := 66) dX2_fewestOf_25 (by decide) (fun _ => ?_) (fun _ => ?_)
        · refine z_sb ?_
          refine z_eq (rK8 _) ?_
          refine z_at [2] rfl ?_
          exact kF7 v4
        · refine z_iload_n (j := 0) dX2_fewestOf_28 rfl rfl ?_
          refine z_iconst (v := 5) dX2_fewestOf_29 (by decide) ?_
          refine z_itb ?_
          refine z_icmp_eq (tgt := 66) dX2_fewestOf_30 (by decide) (fun _ => ?_) (fun _ => ?_)
          · refine z_sb ?_
            refine z_eq (rK8 _) ?_
            refine z_at [2] rfl ?_
            exact kF7 v4
          · refine z_iload_n (j := 0) dX2_fewestOf_33 rfl rfl ?_
            refine z_iconst (v := 3) dX2_fewestOf_34 (by decide) ?_
            refine z_as ?_
            refine z_join (pc2 := 59) (lv2 := fun (q : Int32) => [(0, .int a1), (1, zrv G.2.1 a2), (3, .int v5)]) (st2 := fun (q : Int32) => [.int q]) (h2 := fun (q : Int32) => h) (fun q => ?_) (fun F11 kF11 => ?_)
            · obtain ⟨v10, e0⟩ : ∃ z, z = q := ⟨_, rfl⟩
              subst e0
              try dsimp only
              refine z_istore_n (i := 2) (lv' := [(2, .int v10), (0, .int a1), (1, zrv G.2.1 a2), (3, .int v5)]) dX2_fewestOf_59 rfl (by decide) (by simp [zcat1, zcI, zcJ]) ?_
              refine z_iinc (j := 3) (v := v5 + (1 : Int32)) (lv' := [(3, .int (v5 + (1 : Int32))), (2, .int v10), (0, .int a1), (1, zrv G.2.1 a2)]) dX2_fewestOf_60 rfl rfl (by decide) rfl ?_
              refine z_goto (tgt := 22) dX2_fewestOf_63 (by decide) ?_
              refine z_sb ?_
              refine z_at [2, 3, 1, 0] rfl ?_
              exact bK8 (v10, v5 + (1 : Int32))
            · refine z_itb ?_
              refine z_icmp_ne (tgt := 51) dX2_fewestOf_35 (by decide) (fun _ => ?_) (fun _ => ?_)
              · refine z_iload_n (j := 2) dX2_fewestOf_38 rfl rfl ?_
                refine z_aload_n (j := 1) dX2_fewestOf_39 rfl rfl ?_
                refine z_iload_n (j := 3) dX2_fewestOf_40 rfl rfl ?_
                refine z_as ?_
                refine z_aald dX2_fewestOf_41 (by decide) (by decide) (fun r12 => ?_)
                refine z_as ?_
                refine z_getI (k := 4) dX2_fewestOf_42 zkl3 (by decide) rfl (.inl zw386) (fun x13 => ?_)
                refine z_mmin dX2_fewestOf_45 zw374 zw203 zw47 zw204 (by decide) (by decide) ?_
                refine z_goto (tgt := 59) dX2_fewestOf_48 (by decide) ?_
                refine z_sb ?_
                refine z_at [0, 1, 3] rfl ?_
                exact kF11 (if x13 < v4 then x13 else v4)
              · refine z_iload_n (j := 2) dX2_fewestOf_51 rfl rfl ?_
                refine z_aload_n (j := 1) dX2_fewestOf_52 rfl rfl ?_
                refine z_iload_n (j := 3) dX2_fewestOf_53 rfl rfl ?_
                refine z_as ?_
                refine z_aald dX2_fewestOf_54 (by decide) (by decide) (fun r14 => ?_)
                refine z_as ?_
                refine z_getI (k := 4) dX2_fewestOf_55 zkl3 (by decide) rfl (.inl zw386) (fun x15 => ?_)
                refine z_iadd dX2_fewestOf_58 ?_
                refine z_sb ?_
                refine z_at [0, 1, 3] rfl ?_
                exact kF11 (v4 + x15)
def fX2_init (h : Zh) (this : Option Nat) (a1 : Int32) (a2 : Int32) (a3 : Option Nat) : Option (Zh) :=
  (zob h this 4).bind fun _ =>
  (zgI h this 3 5 (-3 : Int32)).bind fun h1 =>
  (zgI h1 this 3 0 a1).bind fun h2 =>
  (zgI h2 this 3 1 a2).bind fun h3 =>
  (zgP h3 this 3 2 a3).bind fun h4 =>
  (zloop (fun ((v5, v6) : Int32 × Int32) =>
    ((zaL h4 a3 3).bind fun x10 =>
    if x10 ≤ v6 then
      some (.inr v5)
    else
      (zaP h4 a3 3 v6).bind fun r11 =>
      (zfI h4 r11 3 3).bind fun x12 =>
      some (.inl (v5 + x12, v6 + (1 : Int32))) : Option ((Int32 × Int32) ⊕ Int32))) zFU ((1 : Int32), (0 : Int32))).bind fun (w7 : Int32) =>
  (zgI h4 this 3 3 w7).bind fun h13 =>
  (fX2_fewestOf h13 a1 a3).bind fun x14 =>
  (zgI h13 this 3 4 x14).bind fun h15 =>
  some h15
set_option maxRecDepth 100000 in
set_option maxHeartbeats 4000000 in
theorem kX2_init (G : Zg) (h : Zh) (this : Option Nat) (a1 : Int32) (a2 : Int32) (a3 : Option Nat) {x : Zh} (hx : fX2_init h this a1 a2 a3 = some x) : zCt G yX2_init cX2_init 6 (Option.none : Option Jvm.ClassFile.FieldType) 2 [zrv G.2.1 this, .int a1, .int a2, zrv G.2.1 a3] h none x := by
  refine z_met (a := x) (rvf := fun (_ : Zh) => none) (hff := fun (x : Zh) => x) (lv := [(0, zrv G.2.1 this), (1, .int a1), (2, .int a2), (3, zrv G.2.1 a3)]) (by decide +kernel) (by simp [lg_sl, zcat1, zcI, zcJ]) (by simp [lv_args, zcat1, zcI, zcJ]) ?_ hx
  unfold fX2_init
  refine z_aload_n (j := 0) dX2_init_0 rfl rfl ?_
  refine z_objI2 dX2_init_1 zw370 zw65 zw66 (by decide) (by decide) (fun _ => ?_)
  refine z_aload_n (j := 0) dX2_init_4 rfl rfl ?_
  refine z_bipush (v := -3) dX2_init_5 (by decide) ?_
  refine z_putI (k := 5) dX2_init_7 zkl3 (by decide) (.inl zw389) (.inl rfl) rfl rfl rfl (fun h1 => ?_)
  refine z_aload_n (j := 0) dX2_init_10 rfl rfl ?_
  refine z_iload_n (j := 1) dX2_init_11 rfl rfl ?_
  refine z_putI (k := 0) dX2_init_12 zkl3 (by decide) (.inl zw375) (.inr ⟨rfl, rfl, rfl, zw375⟩) rfl rfl rfl (fun h2 => ?_)
  refine z_aload_n (j := 0) dX2_init_15 rfl rfl ?_
  refine z_iload_n (j := 2) dX2_init_16 rfl rfl ?_
  refine z_putI (k := 1) dX2_init_17 zkl3 (by decide) (.inl zw378) (.inr ⟨rfl, rfl, rfl, zw378⟩) rfl rfl rfl (fun h3 => ?_)
  refine z_aload_n (j := 0) dX2_init_20 rfl rfl ?_
  refine z_aload_n (j := 3) dX2_init_21 rfl rfl ?_
  refine z_putP (k := 2) dX2_init_22 zkl3 (by decide) (.inl zw381) (.inr ⟨rfl, rfl, rfl, zw381⟩) (fun a => by cases a <;> exact ⟨rfl, rfl⟩) rfl (fun h4 => ?_)
  refine z_iconst (v := 1) dX2_init_25 (by decide) ?_
  refine z_istore (i := 4) (lv' := [(4, .int (1 : Int32)), (0, zrv G.2.1 this), (1, .int a1), (2, .int a2), (3, zrv G.2.1 a3)]) dX2_init_26 (by decide) (by simp [zcat1, zcI, zcJ]) ?_
  refine z_iconst (v := 0) dX2_init_28 (by decide) ?_
  refine z_istore (i := 5) (lv' := [(5, .int (0 : Int32)), (4, .int (1 : Int32)), (0, zrv G.2.1 this), (1, .int a1), (2, .int a2), (3, zrv G.2.1 a3)]) dX2_init_29 (by decide) rfl ?_
  refine z_at [2, 3, 5, 1, 0] rfl ?_
  refine z_join (pc2 := 56) (lv2 := fun (q : Int32) => [(0, zrv G.2.1 this), (1, .int a1), (3, zrv G.2.1 a3), (4, .int q)]) (st2 := fun _ => []) (h2 := fun (q : Int32) => h4) (fun q => ?_) (fun F8 kF8 => ?_)
  · obtain ⟨w7, e0⟩ : ∃ z, z = q := ⟨_, rfl⟩
    subst e0
    try dsimp only
    refine z_aload_n (j := 0) dX2_init_56 rfl rfl ?_
    refine z_iload (j := 3) dX2_init_57 rfl ?_
    refine z_putI (k := 3) dX2_init_59 zkl3 (by decide) (.inl zw384) (.inr ⟨rfl, rfl, rfl, zw384⟩) rfl rfl rfl (fun h13 => ?_)
    refine z_aload_n (j := 0) dX2_init_62 rfl rfl ?_
    refine z_iload_n (j := 1) dX2_init_63 rfl rfl ?_
    refine z_aload_n (j := 2) dX2_init_64 rfl rfl ?_
    refine z_callS (As := [.int a1, zrv G.2.1 a3]) (rest := [zrv G.2.1 this]) (rv2 := fun (x : Int32) => some (.int x)) (h2 := fun (_ : Int32) => h13) dX2_init_65 vX2_fewestOf (.inl zw371) (by decide) rfl rfl (by simp [zcat1, zcI, zcJ]) (fun x hx => kX2_fewestOf G h13 a1 a3 hx) (fun x14 => ?_)
    try dsimp only [Option.toList, List.cons_append, List.nil_append]
    refine z_putI (k := 4) dX2_init_68 zkl3 (by decide) (.inl zw386) (.inr ⟨rfl, rfl, rfl, zw386⟩) rfl rfl rfl (fun h15 => ?_)
    exact z_vret dX2_init_71 rfl rfl rfl
  · refine z_loop (lvf := fun (q : Int32 × Int32) => [(0, zrv G.2.1 this), (1, .int a1), (3, zrv G.2.1 a3), (4, .int q.1), (5, .int q.2)]) (hf2 := fun (q : Int32 × Int32) => h4) (s0 := ((1 : Int32), (0 : Int32))) (fun K9 bK9 rK9 q => ?_)
    obtain ⟨v5, v6⟩ := q
    try dsimp only
    refine z_iload (j := 4) dX2_init_31 rfl ?_
    refine z_aload_n (j := 2) dX2_init_33 rfl rfl ?_
    refine z_as ?_
    refine z_alen dX2_init_34 (by decide) (fun x10 => ?_)
    refine z_itb ?_
    refine z_icmp_ge (tgt := 56) dX2_init_35 (by decide) (fun _ => ?_) (fun _ => ?_)
    · refine z_sb ?_
      refine z_eq (rK9 _) ?_
      refine z_at [0, 1, 2, 3] rfl ?_
      exact kF8 v5
    · refine z_iload (j := 3) dX2_init_38 rfl ?_
      refine z_aload_n (j := 2) dX2_init_40 rfl rfl ?_
      refine z_iload (j := 4) dX2_init_41 rfl ?_
      refine z_as ?_
      refine z_aald dX2_init_43 (by decide) (by decide) (fun r11 => ?_)
      refine z_as ?_
      refine z_getI (k := 3) dX2_init_44 zkl3 (by decide) rfl (.inl zw384) (fun x12 => ?_)
      refine z_iadd dX2_init_47 ?_
      refine z_istore (i := 4) (lv' := [(4, .int (v5 + x12)), (0, zrv G.2.1 this), (1, .int a1), (3, zrv G.2.1 a3), (5, .int v6)]) dX2_init_48 (by decide) (by simp [zcat1, zcI, zcJ]) ?_
      refine z_iinc (j := 4) (v := v6 + (1 : Int32)) (lv' := [(5, .int (v6 + (1 : Int32))), (4, .int (v5 + x12)), (0, zrv G.2.1 this), (1, .int a1), (3, zrv G.2.1 a3)]) dX2_init_50 rfl rfl (by decide) rfl ?_
      refine z_goto (tgt := 31) dX2_init_53 (by decide) ?_
      refine z_sb ?_
      refine z_at [2, 3, 4, 1, 0] rfl ?_
      exact bK9 (v5 + x12, v6 + (1 : Int32))
def fX3_init (h : Zh) (this : Option Nat) : Option (Zh) :=
  (zob h this 5).bind fun _ =>
  (zmA h 0 (144 : Int32)).bind fun ((r1, h2) : Option Nat × Zh) =>
  (zgP h2 this 4 0 r1).bind fun h3 =>
  (zmA h3 0 (12 : Int32)).bind fun ((r4, h5) : Option Nat × Zh) =>
  (zgP h5 this 4 5 r4).bind fun h6 =>
  (zmA h6 0 (12 : Int32)).bind fun ((r7, h8) : Option Nat × Zh) =>
  (zgP h8 this 4 6 r7).bind fun h9 =>
  (zmA h9 0 (12 : Int32)).bind fun ((r10, h11) : Option Nat × Zh) =>
  (zgP h11 this 4 7 r10).bind fun h12 =>
  (zmA h12 0 (12 : Int32)).bind fun ((r13, h14) : Option Nat × Zh) =>
  (zgP h14 this 4 8 r13).bind fun h15 =>
  (zmA h15 0 (12 : Int32)).bind fun ((r16, h17) : Option Nat × Zh) =>
  (zgP h17 this 4 9 r16).bind fun h18 =>
  some h18
set_option maxRecDepth 100000 in
set_option maxHeartbeats 4000000 in
theorem kX3_init (G : Zg) (h : Zh) (this : Option Nat) {x : Zh} (hx : fX3_init h this = some x) : zCt G yX3_init cX3_init 1 (Option.none : Option Jvm.ClassFile.FieldType) 1 [zrv G.2.1 this] h none x := by
  refine z_met (a := x) (rvf := fun (_ : Zh) => none) (hff := fun (x : Zh) => x) (lv := [(0, zrv G.2.1 this)]) (by decide +kernel) (by simp [lg_sl, zcat1, zcI, zcJ]) (by simp [lv_args, zcat1, zcI, zcJ]) ?_ hx
  unfold fX3_init
  refine z_aload_n (j := 0) dX3_init_0 rfl rfl ?_
  refine z_objI2 dX3_init_1 zw108 zw65 zw66 (by decide) (by decide) (fun _ => ?_)
  refine z_aload_n (j := 0) dX3_init_4 rfl rfl ?_
  refine z_sipush (v := 144) dX3_init_5 (by decide) ?_
  refine z_newA (t := 0) dX3_init_8 (.inl ⟨rfl, rfl⟩) zw101 (fun r1 h2 => ?_)
  try dsimp only
  refine z_putP (k := 0) dX3_init_10 zkl4 (by decide) (.inl zw109) (.inr ⟨rfl, rfl, rfl, zw109⟩) (fun a => by cases a <;> exact ⟨rfl, rfl⟩) rfl (fun h3 => ?_)
  refine z_aload_n (j := 0) dX3_init_13 rfl rfl ?_
  refine z_bipush (v := 12) dX3_init_14 (by decide) ?_
  refine z_newA (t := 0) dX3_init_16 (.inl ⟨rfl, rfl⟩) zw101 (fun r4 h5 => ?_)
  try dsimp only
  refine z_putP (k := 5) dX3_init_18 zkl4 (by decide) (.inl zw117) (.inr ⟨rfl, rfl, rfl, zw117⟩) (fun a => by cases a <;> exact ⟨rfl, rfl⟩) rfl (fun h6 => ?_)
  refine z_aload_n (j := 0) dX3_init_21 rfl rfl ?_
  refine z_bipush (v := 12) dX3_init_22 (by decide) ?_
  refine z_newA (t := 0) dX3_init_24 (.inl ⟨rfl, rfl⟩) zw101 (fun r7 h8 => ?_)
  try dsimp only
  refine z_putP (k := 6) dX3_init_26 zkl4 (by decide) (.inl zw118) (.inr ⟨rfl, rfl, rfl, zw118⟩) (fun a => by cases a <;> exact ⟨rfl, rfl⟩) rfl (fun h9 => ?_)
  refine z_aload_n (j := 0) dX3_init_29 rfl rfl ?_
  refine z_bipush (v := 12) dX3_init_30 (by decide) ?_
  refine z_newA (t := 0) dX3_init_32 (.inl ⟨rfl, rfl⟩) zw101 (fun r10 h11 => ?_)
  try dsimp only
  refine z_putP (k := 7) dX3_init_34 zkl4 (by decide) (.inl zw119) (.inr ⟨rfl, rfl, rfl, zw119⟩) (fun a => by cases a <;> exact ⟨rfl, rfl⟩) rfl (fun h12 => ?_)
  refine z_aload_n (j := 0) dX3_init_37 rfl rfl ?_
  refine z_bipush (v := 12) dX3_init_38 (by decide) ?_
  refine z_newA (t := 0) dX3_init_40 (.inl ⟨rfl, rfl⟩) zw101 (fun r13 h14 => ?_)
  try dsimp only
  refine z_putP (k := 8) dX3_init_42 zkl4 (by decide) (.inl zw120) (.inr ⟨rfl, rfl, rfl, zw120⟩) (fun a => by cases a <;> exact ⟨rfl, rfl⟩) rfl (fun h15 => ?_)
  refine z_aload_n (j := 0) dX3_init_45 rfl rfl ?_
  refine z_bipush (v := 12) dX3_init_46 (by decide) ?_
  refine z_newA (t := 0) dX3_init_48 (.inl ⟨rfl, rfl⟩) zw101 (fun r16 h17 => ?_)
  try dsimp only
  refine z_putP (k := 9) dX3_init_50 zkl4 (by decide) (.inl zw121) (.inr ⟨rfl, rfl, rfl, zw121⟩) (fun a => by cases a <;> exact ⟨rfl, rfl⟩) rfl (fun h18 => ?_)
  exact z_vret dX3_init_53 rfl rfl rfl
def fX3_put (h : Zh) (this : Option Nat) (a1 : Int32) : Option (Zh) :=
  (zfI h this 4 1).bind fun x1 =>
  (zfP h this 4 0).bind fun r2 =>
  (zaL h r2 0).bind fun x3 =>
  if x1 < x3 then
    (zfP h this 4 0).bind fun r4 =>
    (zfI h this 4 1).bind fun x5 =>
    (zbI h r4 x5 a1).bind fun h6 =>
    (zfI h6 this 4 1).bind fun x7 =>
    (zgI h6 this 4 1 (x7 + (1 : Int32))).bind fun h8 =>
    some h8
  else
    some h
set_option maxRecDepth 100000 in
set_option maxHeartbeats 4000000 in
theorem kX3_put (G : Zg) (h : Zh) (this : Option Nat) (a1 : Int32) {x : Zh} (hx : fX3_put h this a1 = some x) : zCt G yX3_put cX3_put 2 (Option.none : Option Jvm.ClassFile.FieldType) 1 [zrv G.2.1 this, .int a1] h none x := by
  refine z_met (a := x) (rvf := fun (_ : Zh) => none) (hff := fun (x : Zh) => x) (lv := [(0, zrv G.2.1 this), (1, .int a1)]) (by decide +kernel) (by simp [lg_sl, zcat1, zcI, zcJ]) (by simp [lv_args, zcat1, zcI, zcJ]) ?_ hx
  unfold fX3_put
  refine z_aload_n (j := 0) dX3_put_0 rfl rfl ?_
  refine z_getI (k := 1) dX3_put_1 zkl4 (by decide) rfl (.inl zw111) (fun x1 => ?_)
  refine z_aload_n (j := 0) dX3_put_4 rfl rfl ?_
  refine z_getP (k := 0) dX3_put_5 zkl4 (by decide) rfl (.inl zw109) (fun r2 => ?_)
  refine z_alen dX3_put_8 (by decide) (fun x3 => ?_)
  refine z_icmp_lt (tgt := 13) dX3_put_9 (by decide) (fun _ => ?_) (fun _ => ?_)
  · refine z_aload_n (j := 0) dX3_put_13 rfl rfl ?_
    refine z_getP (k := 0) dX3_put_14 zkl4 (by decide) rfl (.inl zw109) (fun r4 => ?_)
    refine z_aload_n (j := 0) dX3_put_17 rfl rfl ?_
    refine z_getI (k := 1) dX3_put_18 zkl4 (by decide) rfl (.inl zw111) (fun x5 => ?_)
    refine z_iload_n (j := 1) dX3_put_21 rfl rfl ?_
    refine z_iast dX3_put_22 (fun h6 => ?_)
    refine z_aload_n (j := 0) dX3_put_23 rfl rfl ?_
    refine z_dup dX3_put_24 (zcat1 _ _) ?_
    refine z_getI (k := 1) dX3_put_25 zkl4 (by decide) rfl (.inl zw111) (fun x7 => ?_)
    refine z_iconst (v := 1) dX3_put_28 (by decide) ?_
    refine z_iadd dX3_put_29 ?_
    refine z_putI (k := 1) dX3_put_30 zkl4 (by decide) (.inl zw111) (.inl rfl) rfl rfl rfl (fun h8 => ?_)
    exact z_vret dX3_put_33 rfl rfl rfl
  · exact z_vret dX3_put_12 rfl rfl rfl
def fX3_leaveOutEmpty (h : Zh) (this : Option Nat) : Option (Zh) :=
  (zfI h this 4 1).bind fun x1 =>
  (zgI h this 4 1 (0 : Int32)).bind fun h2 =>
  (zloop (fun ((v3, h4) : Int32 × Zh) =>
    (if x1 ≤ v3 then
      some (.inr h4)
    else
      (zfP h4 this 4 0).bind fun r8 =>
      (zaI h4 r8 v3).bind fun x9 =>
      (if x9 = 0 then
        some h4
      else
        (zfP h4 this 4 0).bind fun r12 =>
        (zaI h4 r12 v3).bind fun x13 =>
        (zob h4 this 5).bind fun p14 =>
        (fX3_put h4 (some p14) x13).bind fun h15 =>
        some h15).bind fun (h10 : Zh) =>
      some (.inl (v3 + (1 : Int32), h10)) : Option ((Int32 × Zh) ⊕ Zh))) zFU ((0 : Int32), h2)).bind fun (h5 : Zh) =>
  some h5
set_option maxRecDepth 100000 in
set_option maxHeartbeats 4000000 in
theorem kX3_leaveOutEmpty (G : Zg) (h : Zh) (this : Option Nat) {x : Zh} (hx : fX3_leaveOutEmpty h this = some x) : zCt G yX3_leaveOutEmpty cX3_leaveOutEmpty 3 (Option.none : Option Jvm.ClassFile.FieldType) 2 [zrv G.2.1 this] h none x := by
  refine z_met (a := x) (rvf := fun (_ : Zh) => none) (hff := fun (x : Zh) => x) (lv := [(0, zrv G.2.1 this)]) (by decide +kernel) (by simp [lg_sl, zcat1, zcI, zcJ]) (by simp [lv_args, zcat1, zcI, zcJ]) ?_ hx
  unfold fX3_leaveOutEmpty
  refine z_aload_n (j := 0) dX3_leaveOutEmpty_0 rfl rfl ?_
  refine z_getI (k := 1) dX3_leaveOutEmpty_1 zkl4 (by decide) rfl (.inl zw111) (fun x1 => ?_)
  refine z_istore_n (i := 1) (lv' := [(1, .int x1), (0, zrv G.2.1 this)]) dX3_leaveOutEmpty_4 rfl (by decide) (by simp [zcat1, zcI, zcJ]) ?_
  refine z_aload_n (j := 1) dX3_leaveOutEmpty_5 rfl rfl ?_
  refine z_iconst (v := 0) dX3_leaveOutEmpty_6 (by decide) ?_
  refine z_putI (k := 1) dX3_leaveOutEmpty_7 zkl4 (by decide) (.inl zw111) (.inl rfl) rfl rfl rfl (fun h2 => ?_)
  refine z_iconst (v := 0) dX3_leaveOutEmpty_10 (by decide) ?_
  refine z_istore_n (i := 2) (lv' := [(2, .int (0 : Int32)), (1, .int x1), (0, zrv G.2.1 this)]) dX3_leaveOutEmpty_11 rfl (by decide) rfl ?_
  refine z_at [2, 1, 0] rfl ?_
  refine z_join (pc2 := 42) (lv2 := fun (q : Zh) => []) (st2 := fun _ => []) (h2 := fun (q : Zh) => q) (fun q => ?_) (fun F6 kF6 => ?_)
  · obtain ⟨h5, e0⟩ : ∃ z, z = q := ⟨_, rfl⟩
    subst e0
    try dsimp only
    exact z_vret dX3_leaveOutEmpty_42 rfl rfl rfl
  · refine z_loop (lvf := fun (q : Int32 × Zh) => [(0, zrv G.2.1 this), (1, .int x1), (2, .int q.1)]) (hf2 := fun (q : Int32 × Zh) => q.2) (s0 := ((0 : Int32), h2)) (fun K7 bK7 rK7 q => ?_)
    obtain ⟨v3, h4⟩ := q
    try dsimp only
    refine z_iload_n (j := 2) dX3_leaveOutEmpty_12 rfl rfl ?_
    refine z_iload_n (j := 1) dX3_leaveOutEmpty_13 rfl rfl ?_
    refine z_itb ?_
    refine z_icmp_ge (tgt := 42) dX3_leaveOutEmpty_14 (by decide) (fun _ => ?_) (fun _ => ?_)
    · refine z_sb ?_
      refine z_eq (rK7 _) ?_
      refine z_at [] rfl ?_
      exact kF6 h4
    · refine z_aload_n (j := 0) dX3_leaveOutEmpty_17 rfl rfl ?_
      refine z_as ?_
      refine z_getP (k := 0) dX3_leaveOutEmpty_18 zkl4 (by decide) rfl (.inl zw109) (fun r8 => ?_)
      refine z_iload_n (j := 2) dX3_leaveOutEmpty_21 rfl rfl ?_
      refine z_as ?_
      refine z_iald dX3_leaveOutEmpty_22 (fun x9 => ?_)
      refine z_as ?_
      refine z_join (pc2 := 36) (lv2 := fun (q : Zh) => [(0, zrv G.2.1 this), (1, .int x1), (2, .int v3)]) (st2 := fun (q : Zh) => []) (h2 := fun (q : Zh) => q) (fun q => ?_) (fun F11 kF11 => ?_)
      · obtain ⟨h10, e0⟩ : ∃ z, z = q := ⟨_, rfl⟩
        subst e0
        try dsimp only
        refine z_iinc (j := 2) (v := v3 + (1 : Int32)) (lv' := [(2, .int (v3 + (1 : Int32))), (0, zrv G.2.1 this), (1, .int x1)]) dX3_leaveOutEmpty_36 rfl rfl (by decide) rfl ?_
        refine z_goto (tgt := 12) dX3_leaveOutEmpty_39 (by decide) ?_
        refine z_sb ?_
        refine z_at [1, 2, 0] rfl ?_
        exact bK7 (v3 + (1 : Int32), h10)
      · refine z_itb ?_
        refine z_if_eq (tgt := 36) dX3_leaveOutEmpty_23 (by decide) (fun _ => ?_) (fun _ => ?_)
        · refine z_sb ?_
          refine z_at [0, 1, 2] rfl ?_
          exact kF11 h4
        · refine z_aload_n (j := 0) dX3_leaveOutEmpty_26 rfl rfl ?_
          refine z_aload_n (j := 0) dX3_leaveOutEmpty_27 rfl rfl ?_
          refine z_as ?_
          refine z_getP (k := 0) dX3_leaveOutEmpty_28 zkl4 (by decide) rfl (.inl zw109) (fun r12 => ?_)
          refine z_iload_n (j := 2) dX3_leaveOutEmpty_31 rfl rfl ?_
          refine z_as ?_
          refine z_iald dX3_leaveOutEmpty_32 (fun x13 => ?_)
          refine z_as ?_
          refine z_ob (fun p14 ep14 lp14 kp14 => ?_)
          refine z_as ?_
          refine z_callV (As := [.int x13]) (rest := []) (rv2 := fun (_ : Zh) => none) (h2 := fun (x : Zh) => x) dX3_leaveOutEmpty_33 vX3_put (.inl zw559) (by decide) zkl4 lp14 kp14 rfl (by rw [ep14]; rfl) (by decide) (fun x hx => kX3_put G h4 (some p14) x13 hx) (fun h15 => ?_)
          try dsimp only [Option.toList, List.cons_append, List.nil_append]
          refine z_sb ?_
          refine z_at [0, 1, 2] rfl ?_
          exact kF11 h15
def fX3_nameIn (h : Zh) (a1 : Int32) (a2 : Int32) : Option (Int32) :=
  (if a2 < 0 then
    some (0 : Int32)
  else
    if (6 : Int32) ≤ a2 then
      some (0 : Int32)
    else
      some ((a1 >>> ((a2 * (4 : Int32)) &&& 31)) &&& (15 : Int32))).bind fun (v1 : Int32) =>
  (if v1 < (1 : Int32) then
    some (-3 : Int32)
  else
    if (12 : Int32) < v1 then
      some (-3 : Int32)
    else
      some (v1 - (1 : Int32))).bind fun (v3 : Int32) =>
  some v3
set_option maxRecDepth 100000 in
set_option maxHeartbeats 4000000 in
theorem kX3_nameIn (G : Zg) (h : Zh) (a1 : Int32) (a2 : Int32) {x : Int32} (hx : fX3_nameIn h a1 a2 = some x) : zCt G yX3_nameIn cX3_nameIn 3 (Option.some Jvm.ClassFile.FieldType.int) 1 [.int a1, .int a2] h (some (.int x)) h := by
  refine z_met (a := x) (rvf := fun (x : Int32) => some (.int x)) (hff := fun (_ : Int32) => h) (lv := [(0, .int a1), (1, .int a2)]) (by decide +kernel) (by simp [lg_sl, zcat1, zcI, zcJ]) (by simp [lv_args, zcat1, zcI, zcJ]) ?_ hx
  unfold fX3_nameIn
  refine z_iload_n (j := 1) dX3_nameIn_0 rfl rfl ?_
  refine z_join (pc2 := 22) (lv2 := fun (q : Int32) => []) (st2 := fun (q : Int32) => [.int q]) (h2 := fun (q : Int32) => h) (fun q => ?_) (fun F2 kF2 => ?_)
  · obtain ⟨v1, e0⟩ : ∃ z, z = q := ⟨_, rfl⟩
    subst e0
    try dsimp only
    refine z_istore_n (i := 2) (lv' := [(2, .int v1)]) dX3_nameIn_22 rfl (by decide) rfl ?_
    refine z_iload_n (j := 0) dX3_nameIn_23 rfl rfl ?_
    refine z_iconst (v := 1) dX3_nameIn_24 (by decide) ?_
    refine z_join (pc2 := 42) (lv2 := fun (q : Int32) => []) (st2 := fun (q : Int32) => [.int q]) (h2 := fun (q : Int32) => h) (fun q => ?_) (fun F4 kF4 => ?_)
    · obtain ⟨v3, e0⟩ : ∃ z, z = q := ⟨_, rfl⟩
      subst e0
      try dsimp only
      exact z_iret dX3_nameIn_42 rfl rfl rfl rfl
    · refine z_itb ?_
      refine z_icmp_lt (tgt := 40) dX3_nameIn_25 (by decide) (fun _ => ?_) (fun _ => ?_)
      · refine z_bipush (v := -3) dX3_nameIn_40 (by decide) ?_
        refine z_sb ?_
        refine z_at [] rfl ?_
        exact kF4 (-3 : Int32)
      · refine z_iload_n (j := 0) dX3_nameIn_28 rfl rfl ?_
        refine z_bipush (v := 12) dX3_nameIn_29 (by decide) ?_
        refine z_itb ?_
        refine z_icmp_gt (tgt := 40) dX3_nameIn_31 (by decide) (fun _ => ?_) (fun _ => ?_)
        · refine z_bipush (v := -3) dX3_nameIn_40 (by decide) ?_
          refine z_sb ?_
          refine z_at [] rfl ?_
          exact kF4 (-3 : Int32)
        · refine z_iload_n (j := 0) dX3_nameIn_34 rfl rfl ?_
          refine z_iconst (v := 1) dX3_nameIn_35 (by decide) ?_
          refine z_isub dX3_nameIn_36 ?_
          refine z_goto (tgt := 42) dX3_nameIn_37 (by decide) ?_
          refine z_sb ?_
          refine z_at [] rfl ?_
          exact kF4 (v1 - (1 : Int32))
  · refine z_itb ?_
    refine z_if_lt (tgt := 21) dX3_nameIn_1 (by decide) (fun _ => ?_) (fun _ => ?_)
    · refine z_iconst (v := 0) dX3_nameIn_21 (by decide) ?_
      refine z_sb ?_
      refine z_at [] rfl ?_
      exact kF2 (0 : Int32)
    · refine z_iload_n (j := 1) dX3_nameIn_4 rfl rfl ?_
      refine z_bipush (v := 6) dX3_nameIn_5 (by decide) ?_
      refine z_itb ?_
      refine z_icmp_ge (tgt := 21) dX3_nameIn_7 (by decide) (fun _ => ?_) (fun _ => ?_)
      · refine z_iconst (v := 0) dX3_nameIn_21 (by decide) ?_
        refine z_sb ?_
        refine z_at [] rfl ?_
        exact kF2 (0 : Int32)
      · refine z_iload_n (j := 0) dX3_nameIn_10 rfl rfl ?_
        refine z_iload_n (j := 1) dX3_nameIn_11 rfl rfl ?_
        refine z_iconst (v := 4) dX3_nameIn_12 (by decide) ?_
        refine z_imul dX3_nameIn_13 ?_
        refine z_ishr dX3_nameIn_14 ?_
        refine z_bipush (v := 15) dX3_nameIn_15 (by decide) ?_
        refine z_iand dX3_nameIn_17 ?_
        refine z_goto (tgt := 22) dX3_nameIn_18 (by decide) ?_
        refine z_sb ?_
        refine z_at [] rfl ?_
        exact kF2 ((a1 >>> ((a2 * (4 : Int32)) &&& 31)) &&& (15 : Int32))
def fX3_hasLongRow (h : Zh) (this : Option Nat) : Option (Int32) :=
  (zloop (fun (v1 : Int32) =>
    ((zfI h this 4 1).bind fun x4 =>
    if x4 ≤ v1 then
      some (.inr (.inl ()))
    else
      (zfP h this 4 0).bind fun r5 =>
      (zaI h r5 v1).bind fun x6 =>
      (fX3_nameIn h x6 (1 : Int32)).bind fun x7 =>
      if x7 = (-3 : Int32) then
        some (.inl (v1 + (1 : Int32)))
      else
        some (.inr (.inr (1 : Int32))) : Option (Int32 ⊕ (Unit ⊕ Int32)))) zFU (0 : Int32)).bind fun (q : (Unit ⊕ Int32)) => match q with
  | .inr t => some t
  | .inl u =>
    some (0 : Int32)
set_option maxRecDepth 100000 in
set_option maxHeartbeats 4000000 in
theorem kX3_hasLongRow (G : Zg) (h : Zh) (this : Option Nat) {x : Int32} (hx : fX3_hasLongRow h this = some x) : zCt G yX3_hasLongRow cX3_hasLongRow 2 (Option.some Jvm.ClassFile.FieldType.boolean) 2 [zrv G.2.1 this] h (some (.int x)) h := by
  refine z_met (a := x) (rvf := fun (x : Int32) => some (.int x)) (hff := fun (_ : Int32) => h) (lv := [(0, zrv G.2.1 this)]) (by decide +kernel) (by simp [lg_sl, zcat1, zcI, zcJ]) (by simp [lv_args, zcat1, zcI, zcJ]) ?_ hx
  unfold fX3_hasLongRow
  refine z_iconst (v := 0) dX3_hasLongRow_0 (by decide) ?_
  refine z_istore_n (i := 1) (lv' := [(1, .int (0 : Int32)), (0, zrv G.2.1 this)]) dX3_hasLongRow_1 rfl (by decide) (by simp [zcat1, zcI, zcJ]) ?_
  refine z_at [1, 0] rfl ?_
  refine z_joinS (pc2 := 33) (lv2 := fun (q : Unit) => []) (st2 := fun _ => []) (h2 := fun (q : Unit) => h) (fun q => ?_) (fun _ => rfl) (fun F2 kF2 tF2 => ?_)
  · obtain ⟨u, e0⟩ : ∃ z, z = q := ⟨_, rfl⟩
    subst e0
    try dsimp only
    refine z_iconst (v := 0) dX3_hasLongRow_33 (by decide) ?_
    exact z_iret dX3_hasLongRow_34 rfl rfl rfl rfl
  · refine z_loop (lvf := fun (q : Int32) => [(0, zrv G.2.1 this), (1, .int q)]) (hf2 := fun (q : Int32) => h) (s0 := (0 : Int32)) (fun K3 bK3 rK3 q => ?_)
    obtain ⟨v1, e0⟩ : ∃ z, z = q := ⟨_, rfl⟩
    subst e0
    try dsimp only
    refine z_iload_n (j := 1) dX3_hasLongRow_2 rfl rfl ?_
    refine z_aload_n (j := 0) dX3_hasLongRow_3 rfl rfl ?_
    refine z_as ?_
    refine z_getI (k := 1) dX3_hasLongRow_4 zkl4 (by decide) rfl (.inl zw111) (fun x4 => ?_)
    refine z_itb ?_
    refine z_icmp_ge (tgt := 33) dX3_hasLongRow_7 (by decide) (fun _ => ?_) (fun _ => ?_)
    · refine z_sb ?_
      refine z_eq (rK3 _) ?_
      refine z_at [] rfl ?_
      exact kF2 ()
    · refine z_aload_n (j := 0) dX3_hasLongRow_10 rfl rfl ?_
      refine z_as ?_
      refine z_getP (k := 0) dX3_hasLongRow_11 zkl4 (by decide) rfl (.inl zw109) (fun r5 => ?_)
      refine z_iload_n (j := 1) dX3_hasLongRow_14 rfl rfl ?_
      refine z_as ?_
      refine z_iald dX3_hasLongRow_15 (fun x6 => ?_)
      refine z_iconst (v := 1) dX3_hasLongRow_16 (by decide) ?_
      refine z_as ?_
      refine z_callS (As := [.int x6, .int (1 : Int32)]) (rest := []) (rv2 := fun (x : Int32) => some (.int x)) (h2 := fun (_ : Int32) => h) dX3_hasLongRow_17 vX3_nameIn (.inl zw572) (by decide) rfl rfl (by decide) (fun x hx => kX3_nameIn G h x6 (1 : Int32) hx) (fun x7 => ?_)
      try dsimp only [Option.toList, List.cons_append, List.nil_append]
      refine z_bipush (v := -3) dX3_hasLongRow_20 (by decide) ?_
      refine z_itb ?_
      refine z_icmp_eq (tgt := 27) dX3_hasLongRow_22 (by decide) (fun _ => ?_) (fun _ => ?_)
      · refine z_iinc (j := 1) (v := v1 + (1 : Int32)) (lv' := [(1, .int (v1 + (1 : Int32))), (0, zrv G.2.1 this)]) dX3_hasLongRow_27 rfl rfl (by decide) (by simp [zcat1, zcI, zcJ]) ?_
        refine z_goto (tgt := 2) dX3_hasLongRow_30 (by decide) ?_
        refine z_sb ?_
        refine z_at [1, 0] rfl ?_
        exact bK3 (v1 + (1 : Int32))
      · refine z_iconst (v := 1) dX3_hasLongRow_25 (by decide) ?_
        refine z_sb ?_
        refine z_eq (rK3 _) ?_
        refine z_eq (tF2 _) ?_
        exact z_iret dX3_hasLongRow_26 rfl rfl rfl rfl
def fX3_lookAt (h : Zh) (this : Option Nat) (a1 : Int32) : Option (Zh) :=
  (zloop (fun ((v1, v2, h3) : Int32 × Int32 × Zh) =>
    (if (6 : Int32) ≤ v2 then
      some (.inr (v1, h3))
    else
      (fX3_nameIn h3 a1 v2).bind fun x8 =>
      if x8 = (-3 : Int32) then
        some (.inr (v1, h3))
      else
        (zfI h3 this 4 2).bind fun x9 =>
        (zgI h3 this 4 2 (x9 ||| ((1 : Int32) <<< (x8 &&& 31)))).bind fun h10 =>
        (if v1 = (-3 : Int32) then
          (zfI h10 this 4 3).bind fun x13 =>
          (zgI h10 this 4 3 (x13 ||| ((1 : Int32) <<< (x8 &&& 31)))).bind fun h14 =>
          some h14
        else
          (zfP h10 this 4 5).bind fun r15 =>
          (zaI h10 r15 v1).bind fun x16 =>
          (zbI h10 r15 v1 (x16 ||| ((1 : Int32) <<< (x8 &&& 31)))).bind fun h17 =>
          (zfP h17 this 4 6).bind fun r18 =>
          (zaI h17 r18 x8).bind fun x19 =>
          (zbI h17 r18 x8 (x19 ||| ((1 : Int32) <<< (v1 &&& 31)))).bind fun h20 =>
          some h20).bind fun (h11 : Zh) =>
        some (.inl (x8, v2 + (1 : Int32), h11)) : Option ((Int32 × Int32 × Zh) ⊕ (Int32 × Zh)))) zFU ((-3 : Int32), (0 : Int32), h)).bind fun ((w4, h5) : Int32 × Zh) =>
  (if w4 = (-3 : Int32) then
    some h5
  else
    (zfI h5 this 4 4).bind fun x23 =>
    (zgI h5 this 4 4 (x23 ||| ((1 : Int32) <<< (w4 &&& 31)))).bind fun h24 =>
    some h24).bind fun (h21 : Zh) =>
  some h21
set_option maxRecDepth 100000 in
set_option maxHeartbeats 4000000 in
theorem kX3_lookAt (G : Zg) (h : Zh) (this : Option Nat) (a1 : Int32) {x : Zh} (hx : fX3_lookAt h this a1 = some x) : zCt G yX3_lookAt cX3_lookAt 5 (Option.none : Option Jvm.ClassFile.FieldType) 2 [zrv G.2.1 this, .int a1] h none x := by
  refine z_met (a := x) (rvf := fun (_ : Zh) => none) (hff := fun (x : Zh) => x) (lv := [(0, zrv G.2.1 this), (1, .int a1)]) (by decide +kernel) (by simp [lg_sl, zcat1, zcI, zcJ]) (by simp [lv_args, zcat1, zcI, zcJ]) ?_ hx
  unfold fX3_lookAt
  refine z_bipush (v := -3) dX3_lookAt_0 (by decide) ?_
  refine z_istore_n (i := 2) (lv' := [(2, .int (-3 : Int32)), (0, zrv G.2.1 this), (1, .int a1)]) dX3_lookAt_2 rfl (by decide) rfl ?_
  refine z_iconst (v := 0) dX3_lookAt_3 (by decide) ?_
  refine z_istore_n (i := 3) (lv' := [(3, .int (0 : Int32)), (2, .int (-3 : Int32)), (0, zrv G.2.1 this), (1, .int a1)]) dX3_lookAt_4 rfl (by decide) rfl ?_
  refine z_at [2, 3, 1, 0] rfl ?_
  refine z_join (pc2 := 98) (lv2 := fun (q : Int32 × Zh) => [(0, zrv G.2.1 this), (2, .int q.1)]) (st2 := fun _ => []) (h2 := fun (q : Int32 × Zh) => q.2) (fun q => ?_) (fun F6 kF6 => ?_)
  · obtain ⟨w4, h5⟩ := q
    try dsimp only
    refine z_iload_n (j := 1) dX3_lookAt_98 rfl rfl ?_
    refine z_bipush (v := -3) dX3_lookAt_99 (by decide) ?_
    refine z_join (pc2 := 116) (lv2 := fun (q : Zh) => []) (st2 := fun (q : Zh) => []) (h2 := fun (q : Zh) => q) (fun q => ?_) (fun F22 kF22 => ?_)
    · obtain ⟨h21, e0⟩ : ∃ z, z = q := ⟨_, rfl⟩
      subst e0
      try dsimp only
      exact z_vret dX3_lookAt_116 rfl rfl rfl
    · refine z_itb ?_
      refine z_icmp_eq (tgt := 116) dX3_lookAt_101 (by decide) (fun _ => ?_) (fun _ => ?_)
      · refine z_sb ?_
        refine z_at [] rfl ?_
        exact kF22 h5
      · refine z_aload_n (j := 0) dX3_lookAt_104 rfl rfl ?_
        refine z_dup dX3_lookAt_105 (zcat1 _ _) ?_
        refine z_as ?_
        refine z_getI (k := 4) dX3_lookAt_106 zkl4 (by decide) rfl (.inl zw116) (fun x23 => ?_)
        refine z_iconst (v := 1) dX3_lookAt_109 (by decide) ?_
        refine z_iload_n (j := 1) dX3_lookAt_110 rfl rfl ?_
        refine z_ishl dX3_lookAt_111 ?_
        refine z_ior dX3_lookAt_112 ?_
        refine z_as ?_
        refine z_putI (k := 4) dX3_lookAt_113 zkl4 (by decide) (.inl zw116) (.inl rfl) rfl rfl rfl (fun h24 => ?_)
        refine z_sb ?_
        refine z_at [] rfl ?_
        exact kF22 h24
  · refine z_loop (lvf := fun (q : Int32 × Int32 × Zh) => [(0, zrv G.2.1 this), (1, .int a1), (2, .int q.1), (3, .int q.2.1)]) (hf2 := fun (q : Int32 × Int32 × Zh) => q.2.2) (s0 := ((-3 : Int32), (0 : Int32), h)) (fun K7 bK7 rK7 q => ?_)
    obtain ⟨v1, v2, h3⟩ := q
    try dsimp only
    refine z_iload_n (j := 3) dX3_lookAt_5 rfl rfl ?_
    refine z_bipush (v := 6) dX3_lookAt_6 (by decide) ?_
    refine z_itb ?_
    refine z_icmp_ge (tgt := 98) dX3_lookAt_8 (by decide) (fun _ => ?_) (fun _ => ?_)
    · refine z_sb ?_
      refine z_eq (rK7 _) ?_
      refine z_at [0, 2] rfl ?_
      exact kF6 (v1, h3)
    · refine z_iload_n (j := 1) dX3_lookAt_11 rfl rfl ?_
      refine z_iload_n (j := 3) dX3_lookAt_12 rfl rfl ?_
      refine z_as ?_
      refine z_callS (As := [.int a1, .int v2]) (rest := []) (rv2 := fun (x : Int32) => some (.int x)) (h2 := fun (_ : Int32) => h3) dX3_lookAt_13 vX3_nameIn (.inl zw572) (by decide) rfl rfl (by decide) (fun x hx => kX3_nameIn G h3 a1 v2 hx) (fun x8 => ?_)
      try dsimp only [Option.toList, List.cons_append, List.nil_append]
      refine z_istore (i := 4) (lv' := [(4, .int x8), (0, zrv G.2.1 this), (1, .int a1), (2, .int v1), (3, .int v2)]) dX3_lookAt_16 (by decide) rfl ?_
      refine z_iload (j := 0) dX3_lookAt_18 rfl ?_
      refine z_bipush (v := -3) dX3_lookAt_20 (by decide) ?_
      refine z_itb ?_
      refine z_icmp_ne (tgt := 28) dX3_lookAt_22 (by decide) (fun _ => ?_) (fun _ => ?_)
      · refine z_goto (tgt := 98) dX3_lookAt_25 (by decide) ?_
        refine z_sb ?_
        refine z_eq (rK7 _) ?_
        refine z_at [1, 3] rfl ?_
        exact kF6 (v1, h3)
      · refine z_aload_n (j := 1) dX3_lookAt_28 rfl rfl ?_
        refine z_dup dX3_lookAt_29 (zcat1 _ _) ?_
        refine z_as ?_
        refine z_getI (k := 2) dX3_lookAt_30 zkl4 (by decide) rfl (.inl zw113) (fun x9 => ?_)
        refine z_iconst (v := 1) dX3_lookAt_33 (by decide) ?_
        refine z_iload (j := 0) dX3_lookAt_34 rfl ?_
        refine z_ishl dX3_lookAt_36 ?_
        refine z_ior dX3_lookAt_37 ?_
        refine z_as ?_
        refine z_putI (k := 2) dX3_lookAt_38 zkl4 (by decide) (.inl zw113) (.inl rfl) rfl rfl rfl (fun h10 => ?_)
        refine z_iload_n (j := 3) dX3_lookAt_41 rfl rfl ?_
        refine z_bipush (v := -3) dX3_lookAt_42 (by decide) ?_
        refine z_as ?_
        refine z_join (pc2 := 89) (lv2 := fun (q : Zh) => [(0, zrv G.2.1 this), (1, .int a1), (3, .int v2), (4, .int x8)]) (st2 := fun (q : Zh) => []) (h2 := fun (q : Zh) => q) (fun q => ?_) (fun F12 kF12 => ?_)
        · obtain ⟨h11, e0⟩ : ∃ z, z = q := ⟨_, rfl⟩
          subst e0
          try dsimp only
          refine z_iload (j := 3) dX3_lookAt_89 rfl ?_
          refine z_istore_n (i := 2) (lv' := [(2, .int x8), (0, zrv G.2.1 this), (1, .int a1), (3, .int v2), (4, .int x8)]) dX3_lookAt_91 rfl (by decide) rfl ?_
          refine z_iinc (j := 3) (v := v2 + (1 : Int32)) (lv' := [(3, .int (v2 + (1 : Int32))), (2, .int x8), (0, zrv G.2.1 this), (1, .int a1), (4, .int x8)]) dX3_lookAt_92 rfl rfl (by decide) rfl ?_
          refine z_goto (tgt := 5) dX3_lookAt_95 (by decide) ?_
          refine z_sb ?_
          refine z_at [2, 3, 1, 0] rfl ?_
          exact bK7 (x8, v2 + (1 : Int32), h11)
        · refine z_itb ?_
          refine z_icmp_ne (tgt := 63) dX3_lookAt_44 (by decide) (fun _ => ?_) (fun _ => ?_)
          · refine z_aload_n (j := 1) dX3_lookAt_47 rfl rfl ?_
            refine z_dup dX3_lookAt_48 (zcat1 _ _) ?_
            refine z_as ?_
            refine z_getI (k := 3) dX3_lookAt_49 zkl4 (by decide) rfl (.inl zw115) (fun x13 => ?_)
            refine z_iconst (v := 1) dX3_lookAt_52 (by decide) ?_
            refine z_iload (j := 0) dX3_lookAt_53 rfl ?_
            refine z_ishl dX3_lookAt_55 ?_
            refine z_ior dX3_lookAt_56 ?_
            refine z_as ?_
            refine z_putI (k := 3) dX3_lookAt_57 zkl4 (by decide) (.inl zw115) (.inl rfl) rfl rfl rfl (fun h14 => ?_)
            refine z_goto (tgt := 89) dX3_lookAt_60 (by decide) ?_
            refine z_sb ?_
            refine z_at [1, 2, 4, 0] rfl ?_
            exact kF12 h14
          · refine z_aload_n (j := 1) dX3_lookAt_63 rfl rfl ?_
            refine z_as ?_
            refine z_getP (k := 5) dX3_lookAt_64 zkl4 (by decide) rfl (.inl zw117) (fun r15 => ?_)
            refine z_iload_n (j := 3) dX3_lookAt_67 rfl rfl ?_
            refine z_dup2 dX3_lookAt_68 rfl (zcat1 _ _) ?_
            refine z_as ?_
            refine z_iald dX3_lookAt_69 (fun x16 => ?_)
            refine z_iconst (v := 1) dX3_lookAt_70 (by decide) ?_
            refine z_iload (j := 0) dX3_lookAt_71 rfl ?_
            refine z_ishl dX3_lookAt_73 ?_
            refine z_ior dX3_lookAt_74 ?_
            refine z_as ?_
            refine z_iast dX3_lookAt_75 (fun h17 => ?_)
            refine z_aload_n (j := 1) dX3_lookAt_76 rfl rfl ?_
            refine z_as ?_
            refine z_getP (k := 6) dX3_lookAt_77 zkl4 (by decide) rfl (.inl zw118) (fun r18 => ?_)
            refine z_iload (j := 0) dX3_lookAt_80 rfl ?_
            refine z_dup2 dX3_lookAt_82 rfl (zcat1 _ _) ?_
            refine z_as ?_
            refine z_iald dX3_lookAt_83 (fun x19 => ?_)
            refine z_iconst (v := 1) dX3_lookAt_84 (by decide) ?_
            refine z_iload_n (j := 3) dX3_lookAt_85 rfl rfl ?_
            refine z_ishl dX3_lookAt_86 ?_
            refine z_ior dX3_lookAt_87 ?_
            refine z_as ?_
            refine z_iast dX3_lookAt_88 (fun h20 => ?_)
            refine z_sb ?_
            refine z_at [1, 2, 4, 0] rfl ?_
            exact kF12 h20
def fX3_look (h : Zh) (this : Option Nat) : Option (Zh) :=
  (zgI h this 4 2 (0 : Int32)).bind fun h1 =>
  (zgI h1 this 4 3 (0 : Int32)).bind fun h2 =>
  (zgI h2 this 4 4 (0 : Int32)).bind fun h3 =>
  (zfP h3 this 4 5).bind fun r4 =>
  (fJ7_fill_53178 h3 r4 (0 : Int32)).bind fun h5 =>
  (zfP h5 this 4 6).bind fun r6 =>
  (fJ7_fill_53178 h5 r6 (0 : Int32)).bind fun h7 =>
  (zloop (fun ((v8, h9) : Int32 × Zh) =>
    ((zfI h9 this 4 1).bind fun x13 =>
    if x13 ≤ v8 then
      some (.inr h9)
    else
      (zfP h9 this 4 0).bind fun r14 =>
      (zaI h9 r14 v8).bind fun x15 =>
      (zob h9 this 5).bind fun p16 =>
      (fX3_lookAt h9 (some p16) x15).bind fun h17 =>
      some (.inl (v8 + (1 : Int32), h17)) : Option ((Int32 × Zh) ⊕ Zh))) zFU ((0 : Int32), h7)).bind fun (h10 : Zh) =>
  some h10
set_option maxRecDepth 100000 in
set_option maxHeartbeats 4000000 in
theorem kX3_look (G : Zg) (h : Zh) (this : Option Nat) {x : Zh} (hx : fX3_look h this = some x) : zCt G yX3_look cX3_look 2 (Option.none : Option Jvm.ClassFile.FieldType) 3 [zrv G.2.1 this] h none x := by
  refine z_met (a := x) (rvf := fun (_ : Zh) => none) (hff := fun (x : Zh) => x) (lv := [(0, zrv G.2.1 this)]) (by decide +kernel) (by simp [lg_sl, zcat1, zcI, zcJ]) (by simp [lv_args, zcat1, zcI, zcJ]) ?_ hx
  unfold fX3_look
  refine z_aload_n (j := 0) dX3_look_0 rfl rfl ?_
  refine z_iconst (v := 0) dX3_look_1 (by decide) ?_
  refine z_putI (k := 2) dX3_look_2 zkl4 (by decide) (.inl zw113) (.inl rfl) rfl rfl rfl (fun h1 => ?_)
  refine z_aload_n (j := 0) dX3_look_5 rfl rfl ?_
  refine z_iconst (v := 0) dX3_look_6 (by decide) ?_
  refine z_putI (k := 3) dX3_look_7 zkl4 (by decide) (.inl zw115) (.inl rfl) rfl rfl rfl (fun h2 => ?_)
  refine z_aload_n (j := 0) dX3_look_10 rfl rfl ?_
  refine z_iconst (v := 0) dX3_look_11 (by decide) ?_
  refine z_putI (k := 4) dX3_look_12 zkl4 (by decide) (.inl zw116) (.inl rfl) rfl rfl rfl (fun h3 => ?_)
  refine z_aload_n (j := 0) dX3_look_15 rfl rfl ?_
  refine z_getP (k := 5) dX3_look_16 zkl4 (by decide) rfl (.inl zw117) (fun r4 => ?_)
  refine z_iconst (v := 0) dX3_look_19 (by decide) ?_
  refine z_callS (As := [zrv G.2.1 r4, .int (0 : Int32)]) (rest := []) (rv2 := fun (_ : Zh) => none) (h2 := fun (x : Zh) => x) dX3_look_20 vJ7_fill_53178 (.inl zw567) (by decide) rfl rfl (by decide) (fun x hx => kJ7_fill_53178 G h3 r4 (0 : Int32) hx) (fun h5 => ?_)
  try dsimp only [Option.toList, List.cons_append, List.nil_append]
  refine z_aload_n (j := 0) dX3_look_23 rfl rfl ?_
  refine z_getP (k := 6) dX3_look_24 zkl4 (by decide) rfl (.inl zw118) (fun r6 => ?_)
  refine z_iconst (v := 0) dX3_look_27 (by decide) ?_
  refine z_callS (As := [zrv G.2.1 r6, .int (0 : Int32)]) (rest := []) (rv2 := fun (_ : Zh) => none) (h2 := fun (x : Zh) => x) dX3_look_28 vJ7_fill_53178 (.inl zw567) (by decide) rfl rfl (by decide) (fun x hx => kJ7_fill_53178 G h5 r6 (0 : Int32) hx) (fun h7 => ?_)
  try dsimp only [Option.toList, List.cons_append, List.nil_append]
  refine z_iconst (v := 0) dX3_look_31 (by decide) ?_
  refine z_istore_n (i := 1) (lv' := [(1, .int (0 : Int32)), (0, zrv G.2.1 this)]) dX3_look_32 rfl (by decide) (by simp [zcat1, zcI, zcJ]) ?_
  refine z_at [1, 0] rfl ?_
  refine z_join (pc2 := 57) (lv2 := fun (q : Zh) => []) (st2 := fun _ => []) (h2 := fun (q : Zh) => q) (fun q => ?_) (fun F11 kF11 => ?_)
  · obtain ⟨h10, e0⟩ : ∃ z, z = q := ⟨_, rfl⟩
    subst e0
    try dsimp only
    exact z_vret dX3_look_57 rfl rfl rfl
  · refine z_loop (lvf := fun (q : Int32 × Zh) => [(0, zrv G.2.1 this), (1, .int q.1)]) (hf2 := fun (q : Int32 × Zh) => q.2) (s0 := ((0 : Int32), h7)) (fun K12 bK12 rK12 q => ?_)
    obtain ⟨v8, h9⟩ := q
    try dsimp only
    refine z_iload_n (j := 1) dX3_look_33 rfl rfl ?_
    refine z_aload_n (j := 0) dX3_look_34 rfl rfl ?_
    refine z_as ?_
    refine z_getI (k := 1) dX3_look_35 zkl4 (by decide) rfl (.inl zw111) (fun x13 => ?_)
    refine z_itb ?_
    refine z_icmp_ge (tgt := 57) dX3_look_38 (by decide) (fun _ => ?_) (fun _ => ?_)
    · refine z_sb ?_
      refine z_eq (rK12 _) ?_
      refine z_at [] rfl ?_
      exact kF11 h9
    · refine z_aload_n (j := 0) dX3_look_41 rfl rfl ?_
      refine z_aload_n (j := 0) dX3_look_42 rfl rfl ?_
      refine z_as ?_
      refine z_getP (k := 0) dX3_look_43 zkl4 (by decide) rfl (.inl zw109) (fun r14 => ?_)
      refine z_iload_n (j := 1) dX3_look_46 rfl rfl ?_
      refine z_as ?_
      refine z_iald dX3_look_47 (fun x15 => ?_)
      refine z_as ?_
      refine z_ob (fun p16 ep16 lp16 kp16 => ?_)
      refine z_as ?_
      refine z_callV (As := [.int x15]) (rest := []) (rv2 := fun (_ : Zh) => none) (h2 := fun (x : Zh) => x) dX3_look_48 vX3_lookAt (.inl zw568) (by decide) zkl4 lp16 kp16 rfl (by rw [ep16]; rfl) (by decide) (fun x hx => kX3_lookAt G h9 (some p16) x15 hx) (fun h17 => ?_)
      try dsimp only [Option.toList, List.cons_append, List.nil_append]
      refine z_iinc (j := 1) (v := v8 + (1 : Int32)) (lv' := [(1, .int (v8 + (1 : Int32))), (0, zrv G.2.1 this)]) dX3_look_51 rfl rfl (by decide) (by simp [zcat1, zcI, zcJ]) ?_
      refine z_goto (tgt := 33) dX3_look_54 (by decide) ?_
      refine z_sb ?_
      refine z_at [1, 0] rfl ?_
      exact bK12 (v8 + (1 : Int32), h17)
def fX3_within (h : Zh) (a1 : Int32) (a2 : Int32) : Option (Int32) :=
  (zloop (fun ((v1, v2, v3) : Int32 × Int32 × Int32) =>
    (if (6 : Int32) ≤ v3 then
      some (.inr v1)
    else
      (fX3_nameIn h a1 v3).bind fun x7 =>
      if x7 = (-3 : Int32) then
        some (.inr v1)
      else
        (if (a2 &&& ((1 : Int32) <<< (x7 &&& 31))) = 0 then
          some (v1, v2)
        else
          some (v1 ||| ((x7 + (1 : Int32)) <<< ((v2 * (4 : Int32)) &&& 31)), v2 + (1 : Int32))).bind fun ((v8, v9) : Int32 × Int32) =>
        some (.inl (v8, v9, v3 + (1 : Int32))) : Option ((Int32 × Int32 × Int32) ⊕ Int32))) zFU ((0 : Int32), (0 : Int32), (0 : Int32))).bind fun (w4 : Int32) =>
  some w4
set_option maxRecDepth 100000 in
set_option maxHeartbeats 4000000 in
theorem kX3_within (G : Zg) (h : Zh) (a1 : Int32) (a2 : Int32) {x : Int32} (hx : fX3_within h a1 a2 = some x) : zCt G yX3_within cX3_within 6 (Option.some Jvm.ClassFile.FieldType.int) 2 [.int a1, .int a2] h (some (.int x)) h := by
  refine z_met (a := x) (rvf := fun (x : Int32) => some (.int x)) (hff := fun (_ : Int32) => h) (lv := [(0, .int a1), (1, .int a2)]) (by decide +kernel) (by simp [lg_sl, zcat1, zcI, zcJ]) (by simp [lv_args, zcat1, zcI, zcJ]) ?_ hx
  unfold fX3_within
  refine z_iconst (v := 0) dX3_within_0 (by decide) ?_
  refine z_istore_n (i := 2) (lv' := [(2, .int (0 : Int32)), (0, .int a1), (1, .int a2)]) dX3_within_1 rfl (by decide) rfl ?_
  refine z_iconst (v := 0) dX3_within_2 (by decide) ?_
  refine z_istore_n (i := 3) (lv' := [(3, .int (0 : Int32)), (2, .int (0 : Int32)), (0, .int a1), (1, .int a2)]) dX3_within_3 rfl (by decide) rfl ?_
  refine z_iconst (v := 0) dX3_within_4 (by decide) ?_
  refine z_istore (i := 4) (lv' := [(4, .int (0 : Int32)), (3, .int (0 : Int32)), (2, .int (0 : Int32)), (0, .int a1), (1, .int a2)]) dX3_within_5 (by decide) rfl ?_
  refine z_at [3, 4, 2, 1, 0] rfl ?_
  refine z_join (pc2 := 64) (lv2 := fun (q : Int32) => [(2, .int q)]) (st2 := fun _ => []) (h2 := fun (q : Int32) => h) (fun q => ?_) (fun F5 kF5 => ?_)
  · obtain ⟨w4, e0⟩ : ∃ z, z = q := ⟨_, rfl⟩
    subst e0
    try dsimp only
    refine z_iload_n (j := 0) dX3_within_64 rfl rfl ?_
    exact z_iret dX3_within_65 rfl rfl rfl rfl
  · refine z_loop (lvf := fun (q : Int32 × Int32 × Int32) => [(0, .int a1), (1, .int a2), (2, .int q.1), (3, .int q.2.1), (4, .int q.2.2)]) (hf2 := fun (q : Int32 × Int32 × Int32) => h) (s0 := ((0 : Int32), (0 : Int32), (0 : Int32))) (fun K6 bK6 rK6 q => ?_)
    obtain ⟨v1, v2, v3⟩ := q
    try dsimp only
    refine z_iload (j := 4) dX3_within_7 rfl ?_
    refine z_bipush (v := 6) dX3_within_9 (by decide) ?_
    refine z_itb ?_
    refine z_icmp_ge (tgt := 64) dX3_within_11 (by decide) (fun _ => ?_) (fun _ => ?_)
    · refine z_sb ?_
      refine z_eq (rK6 _) ?_
      refine z_at [2] rfl ?_
      exact kF5 v1
    · refine z_iload_n (j := 0) dX3_within_14 rfl rfl ?_
      refine z_iload (j := 4) dX3_within_15 rfl ?_
      refine z_as ?_
      refine z_callS (As := [.int a1, .int v3]) (rest := []) (rv2 := fun (x : Int32) => some (.int x)) (h2 := fun (_ : Int32) => h) dX3_within_17 vX3_nameIn (.inl zw572) (by decide) rfl rfl (by decide) (fun x hx => kX3_nameIn G h a1 v3 hx) (fun x7 => ?_)
      try dsimp only [Option.toList, List.cons_append, List.nil_append]
      refine z_istore (i := 5) (lv' := [(5, .int x7), (0, .int a1), (1, .int a2), (2, .int v1), (3, .int v2), (4, .int v3)]) dX3_within_20 (by decide) rfl ?_
      refine z_iload (j := 0) dX3_within_22 rfl ?_
      refine z_bipush (v := -3) dX3_within_24 (by decide) ?_
      refine z_itb ?_
      refine z_icmp_ne (tgt := 32) dX3_within_26 (by decide) (fun _ => ?_) (fun _ => ?_)
      · refine z_goto (tgt := 64) dX3_within_29 (by decide) ?_
        refine z_sb ?_
        refine z_eq (rK6 _) ?_
        refine z_at [3] rfl ?_
        exact kF5 v1
      · refine z_iload_n (j := 2) dX3_within_32 rfl rfl ?_
        refine z_iconst (v := 1) dX3_within_33 (by decide) ?_
        refine z_iload (j := 0) dX3_within_34 rfl ?_
        refine z_ishl dX3_within_36 ?_
        refine z_iand dX3_within_37 ?_
        refine z_as ?_
        refine z_join (pc2 := 58) (lv2 := fun (q : Int32 × Int32) => [(0, .int a1), (1, .int a2), (2, .int q.1), (3, .int q.2), (4, .int v3)]) (st2 := fun (q : Int32 × Int32) => []) (h2 := fun (q : Int32 × Int32) => h) (fun q => ?_) (fun F10 kF10 => ?_)
        · obtain ⟨v8, v9⟩ := q
          try dsimp only
          refine z_iinc (j := 4) (v := v3 + (1 : Int32)) (lv' := [(4, .int (v3 + (1 : Int32))), (0, .int a1), (1, .int a2), (2, .int v8), (3, .int v9)]) dX3_within_58 rfl rfl (by decide) rfl ?_
          refine z_goto (tgt := 7) dX3_within_61 (by decide) ?_
          refine z_sb ?_
          refine z_at [1, 2, 3, 4, 0] rfl ?_
          exact bK6 (v8, v9, v3 + (1 : Int32))
        · refine z_itb ?_
          refine z_if_ne (tgt := 44) dX3_within_38 (by decide) (fun _ => ?_) (fun _ => ?_)
          · refine z_goto (tgt := 58) dX3_within_41 (by decide) ?_
            refine z_sb ?_
            refine z_at [1, 2, 3, 4, 5] rfl ?_
            exact kF10 (v1, v2)
          · refine z_iload_n (j := 3) dX3_within_44 rfl rfl ?_
            refine z_iload (j := 0) dX3_within_45 rfl ?_
            refine z_iconst (v := 1) dX3_within_47 (by decide) ?_
            refine z_iadd dX3_within_48 ?_
            refine z_iload_n (j := 4) dX3_within_49 rfl rfl ?_
            refine z_iconst (v := 4) dX3_within_50 (by decide) ?_
            refine z_imul dX3_within_51 ?_
            refine z_ishl dX3_within_52 ?_
            refine z_ior dX3_within_53 ?_
            refine z_istore_n (i := 2) (lv' := [(2, .int (v1 ||| ((x7 + (1 : Int32)) <<< ((v2 * (4 : Int32)) &&& 31)))), (5, .int x7), (0, .int a1), (1, .int a2), (3, .int v2), (4, .int v3)]) dX3_within_54 rfl (by decide) rfl ?_
            refine z_iinc (j := 4) (v := v2 + (1 : Int32)) (lv' := [(3, .int (v2 + (1 : Int32))), (2, .int (v1 ||| ((x7 + (1 : Int32)) <<< ((v2 * (4 : Int32)) &&& 31)))), (5, .int x7), (0, .int a1), (1, .int a2), (4, .int v3)]) dX3_within_55 rfl rfl (by decide) rfl ?_
            refine z_sb ?_
            refine z_at [3, 4, 1, 0, 5] rfl ?_
            exact kF10 (v1 ||| ((x7 + (1 : Int32)) <<< ((v2 * (4 : Int32)) &&& 31)), v2 + (1 : Int32))
def fX3_putStretches (h : Zh) (this : Option Nat) (a1 : Int32) (a2 : Int32) : Option (Zh) :=
  (zloop (fun ((v1, v2, v3, h4) : Int32 × Int32 × Int32 × Zh) =>
    (if (6 : Int32) < v3 then
      some (.inr h4)
    else
      (fX3_nameIn h4 a1 v3).bind fun x8 =>
      (if x8 = (-3 : Int32) then
        (if v2 ≤ 0 then
          some h4
        else
          (zob h4 this 5).bind fun p15 =>
          (fX3_put h4 (some p15) v1).bind fun h16 =>
          some h16).bind fun (h13 : Zh) =>
        some ((0 : Int32), (0 : Int32), h13)
      else
        if (a2 &&& ((1 : Int32) <<< (x8 &&& 31))) = 0 then
          (if v2 ≤ 0 then
            some h4
          else
            (zob h4 this 5).bind fun p19 =>
            (fX3_put h4 (some p19) v1).bind fun h20 =>
            some h20).bind fun (h17 : Zh) =>
          some ((0 : Int32), (0 : Int32), h17)
        else
          some (v1 ||| ((x8 + (1 : Int32)) <<< ((v2 * (4 : Int32)) &&& 31)), v2 + (1 : Int32), h4)).bind fun ((v9, v10, h11) : Int32 × Int32 × Zh) =>
      some (.inl (v9, v10, v3 + (1 : Int32), h11)) : Option ((Int32 × Int32 × Int32 × Zh) ⊕ Zh))) zFU ((0 : Int32), (0 : Int32), (0 : Int32), h)).bind fun (h5 : Zh) =>
  some h5
set_option maxRecDepth 100000 in
set_option maxHeartbeats 4000000 in
theorem kX3_putStretches (G : Zg) (h : Zh) (this : Option Nat) (a1 : Int32) (a2 : Int32) {x : Zh} (hx : fX3_putStretches h this a1 a2 = some x) : zCt G yX3_putStretches cX3_putStretches 7 (Option.none : Option Jvm.ClassFile.FieldType) 2 [zrv G.2.1 this, .int a1, .int a2] h none x := by
  refine z_met (a := x) (rvf := fun (_ : Zh) => none) (hff := fun (x : Zh) => x) (lv := [(0, zrv G.2.1 this), (1, .int a1), (2, .int a2)]) (by decide +kernel) (by simp [lg_sl, zcat1, zcI, zcJ]) (by simp [lv_args, zcat1, zcI, zcJ]) ?_ hx
  unfold fX3_putStretches
  refine z_iconst (v := 0) dX3_putStretches_0 (by decide) ?_
  refine z_istore_n (i := 3) (lv' := [(3, .int (0 : Int32)), (0, zrv G.2.1 this), (1, .int a1), (2, .int a2)]) dX3_putStretches_1 rfl (by decide) rfl ?_
  refine z_iconst (v := 0) dX3_putStretches_2 (by decide) ?_
  refine z_istore (i := 4) (lv' := [(4, .int (0 : Int32)), (3, .int (0 : Int32)), (0, zrv G.2.1 this), (1, .int a1), (2, .int a2)]) dX3_putStretches_3 (by decide) rfl ?_
  refine z_iconst (v := 0) dX3_putStretches_5 (by decide) ?_
  refine z_istore (i := 5) (lv' := [(5, .int (0 : Int32)), (4, .int (0 : Int32)), (3, .int (0 : Int32)), (0, zrv G.2.1 this), (1, .int a1), (2, .int a2)]) dX3_putStretches_6 (by decide) rfl ?_
  refine z_at [3, 4, 5, 2, 1, 0] rfl ?_
  refine z_join (pc2 := 78) (lv2 := fun (q : Zh) => []) (st2 := fun _ => []) (h2 := fun (q : Zh) => q) (fun q => ?_) (fun F6 kF6 => ?_)
  · obtain ⟨h5, e0⟩ : ∃ z, z = q := ⟨_, rfl⟩
    subst e0
    try dsimp only
    exact z_vret dX3_putStretches_78 rfl rfl rfl
  · refine z_loop (lvf := fun (q : Int32 × Int32 × Int32 × Zh) => [(0, zrv G.2.1 this), (1, .int a1), (2, .int a2), (3, .int q.1), (4, .int q.2.1), (5, .int q.2.2.1)]) (hf2 := fun (q : Int32 × Int32 × Int32 × Zh) => q.2.2.2) (s0 := ((0 : Int32), (0 : Int32), (0 : Int32), h)) (fun K7 bK7 rK7 q => ?_)
    obtain ⟨v1, v2, v3, h4⟩ := q
    try dsimp only
    refine z_iload (j := 5) dX3_putStretches_8 rfl ?_
    refine z_bipush (v := 6) dX3_putStretches_10 (by decide) ?_
    refine z_itb ?_
    refine z_icmp_gt (tgt := 78) dX3_putStretches_12 (by decide) (fun _ => ?_) (fun _ => ?_)
    · refine z_sb ?_
      refine z_eq (rK7 _) ?_
      refine z_at [] rfl ?_
      exact kF6 h4
    · refine z_iload_n (j := 1) dX3_putStretches_15 rfl rfl ?_
      refine z_iload (j := 5) dX3_putStretches_16 rfl ?_
      refine z_as ?_
      refine z_callS (As := [.int a1, .int v3]) (rest := []) (rv2 := fun (x : Int32) => some (.int x)) (h2 := fun (_ : Int32) => h4) dX3_putStretches_18 vX3_nameIn (.inl zw572) (by decide) rfl rfl (by decide) (fun x hx => kX3_nameIn G h4 a1 v3 hx) (fun x8 => ?_)
      try dsimp only [Option.toList, List.cons_append, List.nil_append]
      refine z_istore (i := 6) (lv' := [(6, .int x8), (0, zrv G.2.1 this), (1, .int a1), (2, .int a2), (3, .int v1), (4, .int v2), (5, .int v3)]) dX3_putStretches_21 (by decide) rfl ?_
      refine z_iload (j := 0) dX3_putStretches_23 rfl ?_
      refine z_bipush (v := -3) dX3_putStretches_25 (by decide) ?_
      refine z_as ?_
      refine z_join (pc2 := 72) (lv2 := fun (q : Int32 × Int32 × Zh) => [(0, zrv G.2.1 this), (1, .int a1), (2, .int a2), (3, .int q.1), (4, .int q.2.1), (5, .int v3)]) (st2 := fun (q : Int32 × Int32 × Zh) => []) (h2 := fun (q : Int32 × Int32 × Zh) => q.2.2) (fun q => ?_) (fun F12 kF12 => ?_)
      · obtain ⟨v9, v10, h11⟩ := q
        try dsimp only
        refine z_iinc (j := 5) (v := v3 + (1 : Int32)) (lv' := [(5, .int (v3 + (1 : Int32))), (0, zrv G.2.1 this), (1, .int a1), (2, .int a2), (3, .int v9), (4, .int v10)]) dX3_putStretches_72 rfl rfl (by decide) rfl ?_
        refine z_goto (tgt := 8) dX3_putStretches_75 (by decide) ?_
        refine z_sb ?_
        refine z_at [1, 2, 3, 4, 5, 0] rfl ?_
        exact bK7 (v9, v10, v3 + (1 : Int32), h11)
      · refine z_itb ?_
        refine z_icmp_eq (tgt := 57) dX3_putStretches_27 (by decide) (fun _ => ?_) (fun _ => ?_)
        · refine z_iload (j := 5) dX3_putStretches_57 rfl ?_
          refine z_as ?_
          refine z_join (pc2 := 67) (lv2 := fun (q : Zh) => [(0, zrv G.2.1 this), (1, .int a1), (2, .int a2), (5, .int v3)]) (st2 := fun (q : Zh) => []) (h2 := fun (q : Zh) => q) (fun q => ?_) (fun F14 kF14 => ?_)
          · obtain ⟨h13, e0⟩ : ∃ z, z = q := ⟨_, rfl⟩
            subst e0
            try dsimp only
            refine z_iconst (v := 0) dX3_putStretches_67 (by decide) ?_
            refine z_istore_n (i := 3) (lv' := [(3, .int (0 : Int32)), (0, zrv G.2.1 this), (1, .int a1), (2, .int a2), (5, .int v3)]) dX3_putStretches_68 rfl (by decide) rfl ?_
            refine z_iconst (v := 0) dX3_putStretches_69 (by decide) ?_
            refine z_istore (i := 4) (lv' := [(4, .int (0 : Int32)), (3, .int (0 : Int32)), (0, zrv G.2.1 this), (1, .int a1), (2, .int a2), (5, .int v3)]) dX3_putStretches_70 (by decide) rfl ?_
            refine z_sb ?_
            refine z_at [2, 3, 4, 1, 0, 5] rfl ?_
            exact kF12 ((0 : Int32), (0 : Int32), h13)
          · refine z_itb ?_
            refine z_if_le (tgt := 67) dX3_putStretches_59 (by decide) (fun _ => ?_) (fun _ => ?_)
            · refine z_sb ?_
              refine z_at [1, 2, 3, 6] rfl ?_
              exact kF14 h4
            · refine z_aload_n (j := 1) dX3_putStretches_62 rfl rfl ?_
              refine z_iload_n (j := 4) dX3_putStretches_63 rfl rfl ?_
              refine z_as ?_
              refine z_ob (fun p15 ep15 lp15 kp15 => ?_)
              refine z_as ?_
              refine z_callV (As := [.int v1]) (rest := []) (rv2 := fun (_ : Zh) => none) (h2 := fun (x : Zh) => x) dX3_putStretches_64 vX3_put (.inl zw559) (by decide) zkl4 lp15 kp15 rfl (by rw [ep15]; rfl) (by decide) (fun x hx => kX3_put G h4 (some p15) v1 hx) (fun h16 => ?_)
              try dsimp only [Option.toList, List.cons_append, List.nil_append]
              refine z_sb ?_
              refine z_at [1, 2, 3, 6] rfl ?_
              exact kF14 h16
        · refine z_iload_n (j := 3) dX3_putStretches_30 rfl rfl ?_
          refine z_iconst (v := 1) dX3_putStretches_31 (by decide) ?_
          refine z_iload (j := 0) dX3_putStretches_32 rfl ?_
          refine z_ishl dX3_putStretches_34 ?_
          refine z_iand dX3_putStretches_35 ?_
          refine z_itb ?_
          refine z_if_eq (tgt := 57) dX3_putStretches_36 (by decide) (fun _ => ?_) (fun _ => ?_)
          · refine z_iload (j := 5) dX3_putStretches_57 rfl ?_
            refine z_as ?_
            refine z_join (pc2 := 67) (lv2 := fun (q : Zh) => [(0, zrv G.2.1 this), (1, .int a1), (2, .int a2), (5, .int v3)]) (st2 := fun (q : Zh) => []) (h2 := fun (q : Zh) => q) (fun q => ?_) (fun F18 kF18 => ?_)
            · obtain ⟨h17, e0⟩ : ∃ z, z = q := ⟨_, rfl⟩
              subst e0
              try dsimp only
              refine z_iconst (v := 0) dX3_putStretches_67 (by decide) ?_
              refine z_istore_n (i := 3) (lv' := [(3, .int (0 : Int32)), (0, zrv G.2.1 this), (1, .int a1), (2, .int a2), (5, .int v3)]) dX3_putStretches_68 rfl (by decide) rfl ?_
              refine z_iconst (v := 0) dX3_putStretches_69 (by decide) ?_
              refine z_istore (i := 4) (lv' := [(4, .int (0 : Int32)), (3, .int (0 : Int32)), (0, zrv G.2.1 this), (1, .int a1), (2, .int a2), (5, .int v3)]) dX3_putStretches_70 (by decide) rfl ?_
              refine z_sb ?_
              refine z_at [2, 3, 4, 1, 0, 5] rfl ?_
              exact kF12 ((0 : Int32), (0 : Int32), h17)
            · refine z_itb ?_
              refine z_if_le (tgt := 67) dX3_putStretches_59 (by decide) (fun _ => ?_) (fun _ => ?_)
              · refine z_sb ?_
                refine z_at [1, 2, 3, 6] rfl ?_
                exact kF18 h4
              · refine z_aload_n (j := 1) dX3_putStretches_62 rfl rfl ?_
                refine z_iload_n (j := 4) dX3_putStretches_63 rfl rfl ?_
                refine z_as ?_
                refine z_ob (fun p19 ep19 lp19 kp19 => ?_)
                refine z_as ?_
                refine z_callV (As := [.int v1]) (rest := []) (rv2 := fun (_ : Zh) => none) (h2 := fun (x : Zh) => x) dX3_putStretches_64 vX3_put (.inl zw559) (by decide) zkl4 lp19 kp19 rfl (by rw [ep19]; rfl) (by decide) (fun x hx => kX3_put G h4 (some p19) v1 hx) (fun h20 => ?_)
                try dsimp only [Option.toList, List.cons_append, List.nil_append]
                refine z_sb ?_
                refine z_at [1, 2, 3, 6] rfl ?_
                exact kF18 h20
          · refine z_iload_n (j := 4) dX3_putStretches_39 rfl rfl ?_
            refine z_iload (j := 0) dX3_putStretches_40 rfl ?_
            refine z_iconst (v := 1) dX3_putStretches_42 (by decide) ?_
            refine z_iadd dX3_putStretches_43 ?_
            refine z_iload (j := 5) dX3_putStretches_44 rfl ?_
            refine z_iconst (v := 4) dX3_putStretches_46 (by decide) ?_
            refine z_imul dX3_putStretches_47 ?_
            refine z_ishl dX3_putStretches_48 ?_
            refine z_ior dX3_putStretches_49 ?_
            refine z_istore_n (i := 3) (lv' := [(3, .int (v1 ||| ((x8 + (1 : Int32)) <<< ((v2 * (4 : Int32)) &&& 31)))), (6, .int x8), (0, zrv G.2.1 this), (1, .int a1), (2, .int a2), (4, .int v2), (5, .int v3)]) dX3_putStretches_50 rfl (by decide) rfl ?_
            refine z_iinc (j := 5) (v := v2 + (1 : Int32)) (lv' := [(4, .int (v2 + (1 : Int32))), (3, .int (v1 ||| ((x8 + (1 : Int32)) <<< ((v2 * (4 : Int32)) &&& 31)))), (6, .int x8), (0, zrv G.2.1 this), (1, .int a1), (2, .int a2), (5, .int v3)]) dX3_putStretches_51 rfl rfl (by decide) rfl ?_
            refine z_goto (tgt := 72) dX3_putStretches_54 (by decide) ?_
            refine z_sb ?_
            refine z_at [3, 4, 5, 1, 0, 6] rfl ?_
            exact kF12 (v1 ||| ((x8 + (1 : Int32)) <<< ((v2 * (4 : Int32)) &&& 31)), v2 + (1 : Int32), h4)
def fX3_takeFrom (h : Zh) (this : Option Nat) (a1 : Option Nat) (a2 : Int32) (a3 : Int32) : Option (Zh) :=
  (zgI h this 4 1 (0 : Int32)).bind fun h1 =>
  (zloop (fun ((v2, h3) : Int32 × Zh) =>
    ((zfI h3 a1 4 1).bind fun x7 =>
    if x7 ≤ v2 then
      some (.inr h3)
    else
      (zfP h3 a1 4 0).bind fun r8 =>
      (zaI h3 r8 v2).bind fun x9 =>
      (fX3_within h3 x9 a2).bind fun x10 =>
      (if a3 = (5 : Int32) then
        (zob h3 this 5).bind fun p13 =>
        (fX3_putStretches h3 (some p13) x9 a2).bind fun h14 =>
        some h14
      else
        if a3 = (3 : Int32) then
          if x10 = 0 then
            some h3
          else
            (zob h3 this 5).bind fun p15 =>
            (fX3_put h3 (some p15) x10).bind fun h16 =>
            some h16
        else
          (zob h3 this 5).bind fun p17 =>
          (fX3_put h3 (some p17) x10).bind fun h18 =>
          some h18).bind fun (h11 : Zh) =>
      some (.inl (v2 + (1 : Int32), h11)) : Option ((Int32 × Zh) ⊕ Zh))) zFU ((0 : Int32), h1)).bind fun (h4 : Zh) =>
  some h4
set_option maxRecDepth 100000 in
set_option maxHeartbeats 4000000 in
theorem kX3_takeFrom (G : Zg) (h : Zh) (this : Option Nat) (a1 : Option Nat) (a2 : Int32) (a3 : Int32) {x : Zh} (hx : fX3_takeFrom h this a1 a2 a3 = some x) : zCt G yX3_takeFrom cX3_takeFrom 7 (Option.none : Option Jvm.ClassFile.FieldType) 3 [zrv G.2.1 this, zrv G.2.1 a1, .int a2, .int a3] h none x := by
  refine z_met (a := x) (rvf := fun (_ : Zh) => none) (hff := fun (x : Zh) => x) (lv := [(0, zrv G.2.1 this), (1, zrv G.2.1 a1), (2, .int a2), (3, .int a3)]) (by decide +kernel) (by simp [lg_sl, zcat1, zcI, zcJ]) (by simp [lv_args, zcat1, zcI, zcJ]) ?_ hx
  unfold fX3_takeFrom
  refine z_aload_n (j := 0) dX3_takeFrom_0 rfl rfl ?_
  refine z_iconst (v := 0) dX3_takeFrom_1 (by decide) ?_
  refine z_putI (k := 1) dX3_takeFrom_2 zkl4 (by decide) (.inl zw111) (.inl rfl) rfl rfl rfl (fun h1 => ?_)
  refine z_iconst (v := 0) dX3_takeFrom_5 (by decide) ?_
  refine z_istore (i := 4) (lv' := [(4, .int (0 : Int32)), (0, zrv G.2.1 this), (1, zrv G.2.1 a1), (2, .int a2), (3, .int a3)]) dX3_takeFrom_6 (by decide) rfl ?_
  refine z_at [1, 2, 3, 4, 0] rfl ?_
  refine z_join (pc2 := 71) (lv2 := fun (q : Zh) => []) (st2 := fun _ => []) (h2 := fun (q : Zh) => q) (fun q => ?_) (fun F5 kF5 => ?_)
  · obtain ⟨h4, e0⟩ : ∃ z, z = q := ⟨_, rfl⟩
    subst e0
    try dsimp only
    exact z_vret dX3_takeFrom_71 rfl rfl rfl
  · refine z_loop (lvf := fun (q : Int32 × Zh) => [(0, zrv G.2.1 this), (1, zrv G.2.1 a1), (2, .int a2), (3, .int a3), (4, .int q.1)]) (hf2 := fun (q : Int32 × Zh) => q.2) (s0 := ((0 : Int32), h1)) (fun K6 bK6 rK6 q => ?_)
    obtain ⟨v2, h3⟩ := q
    try dsimp only
    refine z_iload (j := 4) dX3_takeFrom_8 rfl ?_
    refine z_aload_n (j := 1) dX3_takeFrom_10 rfl rfl ?_
    refine z_as ?_
    refine z_getI (k := 1) dX3_takeFrom_11 zkl4 (by decide) rfl (.inl zw111) (fun x7 => ?_)
    refine z_itb ?_
    refine z_icmp_ge (tgt := 71) dX3_takeFrom_14 (by decide) (fun _ => ?_) (fun _ => ?_)
    · refine z_sb ?_
      refine z_eq (rK6 _) ?_
      refine z_at [] rfl ?_
      exact kF5 h3
    · refine z_aload_n (j := 1) dX3_takeFrom_17 rfl rfl ?_
      refine z_as ?_
      refine z_getP (k := 0) dX3_takeFrom_18 zkl4 (by decide) rfl (.inl zw109) (fun r8 => ?_)
      refine z_iload (j := 4) dX3_takeFrom_21 rfl ?_
      refine z_as ?_
      refine z_iald dX3_takeFrom_23 (fun x9 => ?_)
      refine z_istore (i := 5) (lv' := [(5, .int x9), (0, zrv G.2.1 this), (1, zrv G.2.1 a1), (2, .int a2), (3, .int a3), (4, .int v2)]) dX3_takeFrom_24 (by decide) rfl ?_
      refine z_iload (j := 0) dX3_takeFrom_26 rfl ?_
      refine z_iload_n (j := 3) dX3_takeFrom_28 rfl rfl ?_
      refine z_as ?_
      refine z_callS (As := [.int x9, .int a2]) (rest := []) (rv2 := fun (x : Int32) => some (.int x)) (h2 := fun (_ : Int32) => h3) dX3_takeFrom_29 vX3_within (.inl zw637) (by decide) rfl rfl (by decide) (fun x hx => kX3_within G h3 x9 a2 hx) (fun x10 => ?_)
      try dsimp only [Option.toList, List.cons_append, List.nil_append]
      refine z_istore (i := 6) (lv' := [(6, .int x10), (5, .int x9), (0, zrv G.2.1 this), (1, zrv G.2.1 a1), (2, .int a2), (3, .int a3), (4, .int v2)]) dX3_takeFrom_32 (by decide) rfl ?_
      refine z_iload_n (j := 5) dX3_takeFrom_34 rfl rfl ?_
      refine z_iconst (v := 5) dX3_takeFrom_35 (by decide) ?_
      refine z_as ?_
      refine z_join (pc2 := 65) (lv2 := fun (q : Zh) => [(0, zrv G.2.1 this), (1, zrv G.2.1 a1), (2, .int a2), (3, .int a3), (4, .int v2)]) (st2 := fun (q : Zh) => []) (h2 := fun (q : Zh) => q) (fun q => ?_) (fun F12 kF12 => ?_)
      · obtain ⟨h11, e0⟩ : ∃ z, z = q := ⟨_, rfl⟩
        subst e0
        try dsimp only
        refine z_iinc (j := 4) (v := v2 + (1 : Int32)) (lv' := [(4, .int (v2 + (1 : Int32))), (0, zrv G.2.1 this), (1, zrv G.2.1 a1), (2, .int a2), (3, .int a3)]) dX3_takeFrom_65 rfl rfl (by decide) rfl ?_
        refine z_goto (tgt := 8) dX3_takeFrom_68 (by decide) ?_
        refine z_sb ?_
        refine z_at [1, 2, 3, 4, 0] rfl ?_
        exact bK6 (v2 + (1 : Int32), h11)
      · refine z_itb ?_
        refine z_icmp_ne (tgt := 49) dX3_takeFrom_36 (by decide) (fun _ => ?_) (fun _ => ?_)
        · refine z_aload_n (j := 2) dX3_takeFrom_39 rfl rfl ?_
          refine z_iload (j := 1) dX3_takeFrom_40 rfl ?_
          refine z_iload_n (j := 4) dX3_takeFrom_42 rfl rfl ?_
          refine z_as ?_
          refine z_ob (fun p13 ep13 lp13 kp13 => ?_)
          refine z_as ?_
          refine z_callV (As := [.int x9, .int a2]) (rest := []) (rv2 := fun (_ : Zh) => none) (h2 := fun (x : Zh) => x) dX3_takeFrom_43 vX3_putStretches (.inl zw640) (by decide) zkl4 lp13 kp13 rfl (by rw [ep13]; rfl) (by decide) (fun x hx => kX3_putStretches G h3 (some p13) x9 a2 hx) (fun h14 => ?_)
          try dsimp only [Option.toList, List.cons_append, List.nil_append]
          refine z_goto (tgt := 65) dX3_takeFrom_46 (by decide) ?_
          refine z_sb ?_
          refine z_at [2, 3, 4, 5, 6] rfl ?_
          exact kF12 h14
        · refine z_iload_n (j := 5) dX3_takeFrom_49 rfl rfl ?_
          refine z_iconst (v := 3) dX3_takeFrom_50 (by decide) ?_
          refine z_itb ?_
          refine z_icmp_ne (tgt := 59) dX3_takeFrom_51 (by decide) (fun _ => ?_) (fun _ => ?_)
          · refine z_iload (j := 0) dX3_takeFrom_54 rfl ?_
            refine z_itb ?_
            refine z_if_eq (tgt := 65) dX3_takeFrom_56 (by decide) (fun _ => ?_) (fun _ => ?_)
            · refine z_sb ?_
              refine z_at [2, 3, 4, 5, 6] rfl ?_
              exact kF12 h3
            · refine z_aload_n (j := 2) dX3_takeFrom_59 rfl rfl ?_
              refine z_iload (j := 0) dX3_takeFrom_60 rfl ?_
              refine z_as ?_
              refine z_ob (fun p15 ep15 lp15 kp15 => ?_)
              refine z_as ?_
              refine z_callV (As := [.int x10]) (rest := []) (rv2 := fun (_ : Zh) => none) (h2 := fun (x : Zh) => x) dX3_takeFrom_62 vX3_put (.inl zw559) (by decide) zkl4 lp15 kp15 rfl (by rw [ep15]; rfl) (by decide) (fun x hx => kX3_put G h3 (some p15) x10 hx) (fun h16 => ?_)
              try dsimp only [Option.toList, List.cons_append, List.nil_append]
              refine z_sb ?_
              refine z_at [2, 3, 4, 5, 6] rfl ?_
              exact kF12 h16
          · refine z_aload_n (j := 2) dX3_takeFrom_59 rfl rfl ?_
            refine z_iload (j := 0) dX3_takeFrom_60 rfl ?_
            refine z_as ?_
            refine z_ob (fun p17 ep17 lp17 kp17 => ?_)
            refine z_as ?_
            refine z_callV (As := [.int x10]) (rest := []) (rv2 := fun (_ : Zh) => none) (h2 := fun (x : Zh) => x) dX3_takeFrom_62 vX3_put (.inl zw559) (by decide) zkl4 lp17 kp17 rfl (by rw [ep17]; rfl) (by decide) (fun x hx => kX3_put G h3 (some p17) x10 hx) (fun h18 => ?_)
            try dsimp only [Option.toList, List.cons_append, List.nil_append]
            refine z_sb ?_
            refine z_at [2, 3, 4, 5, 6] rfl ?_
            exact kF12 h18
def fX3_closed (h : Zh) (a1 : Int32) (a2 : Option Nat) : Option (Int32) :=
  (zloop (fun ((v1, v2) : Int32 × Int32) =>
    (if (12 : Int32) ≤ v2 then
      some (.inr v1)
    else
      (zloop (fun ((v6, v7) : Int32 × Int32) =>
        (if (12 : Int32) ≤ v7 then
          some (.inr v6)
        else
          (zaL h a2 0).bind fun x11 =>
          if x11 ≤ v7 then
            some (.inr v6)
          else
            (if (v6 &&& ((1 : Int32) <<< (v7 &&& 31))) = 0 then
              some v6
            else
              (zaI h a2 v7).bind fun x14 =>
              some (v6 ||| x14)).bind fun (v12 : Int32) =>
            some (.inl (v12, v7 + (1 : Int32))) : Option ((Int32 × Int32) ⊕ Int32))) zFU (v1, (0 : Int32))).bind fun (w8 : Int32) =>
      some (.inl (w8, v2 + (1 : Int32))) : Option ((Int32 × Int32) ⊕ Int32))) zFU (a1, (0 : Int32))).bind fun (w3 : Int32) =>
  some w3
set_option maxRecDepth 100000 in
set_option maxHeartbeats 4000000 in
theorem kX3_closed (G : Zg) (h : Zh) (a1 : Int32) (a2 : Option Nat) {x : Int32} (hx : fX3_closed h a1 a2 = some x) : zCt G yX3_closed cX3_closed 5 (Option.some Jvm.ClassFile.FieldType.int) 1 [.int a1, zrv G.2.1 a2] h (some (.int x)) h := by
  refine z_met (a := x) (rvf := fun (x : Int32) => some (.int x)) (hff := fun (_ : Int32) => h) (lv := [(0, .int a1), (1, zrv G.2.1 a2)]) (by decide +kernel) (by simp [lg_sl, zcat1, zcI, zcJ]) (by simp [lv_args, zcat1, zcI, zcJ]) ?_ hx
  unfold fX3_closed
  refine z_iload_n (j := 0) dX3_closed_0 rfl rfl ?_
  refine z_istore_n (i := 2) (lv' := [(2, .int a1), (0, .int a1), (1, zrv G.2.1 a2)]) dX3_closed_1 rfl (by decide) (by simp [zcat1, zcI, zcJ]) ?_
  refine z_iconst (v := 0) dX3_closed_2 (by decide) ?_
  refine z_istore_n (i := 3) (lv' := [(3, .int (0 : Int32)), (2, .int a1), (0, .int a1), (1, zrv G.2.1 a2)]) dX3_closed_3 rfl (by decide) rfl ?_
  refine z_at [3, 1, 0] rfl ?_
  refine z_join (pc2 := 55) (lv2 := fun (q : Int32) => [(2, .int q)]) (st2 := fun _ => []) (h2 := fun (q : Int32) => h) (fun q => ?_) (fun F4 kF4 => ?_)
  · obtain ⟨w3, e0⟩ : ∃ z, z = q := ⟨_, rfl⟩
    subst e0
    try dsimp only
    refine z_iload_n (j := 0) dX3_closed_55 rfl rfl ?_
    exact z_iret dX3_closed_56 rfl rfl rfl rfl
  · refine z_loop (lvf := fun (q : Int32 × Int32) => [(1, zrv G.2.1 a2), (2, .int q.1), (3, .int q.2)]) (hf2 := fun (q : Int32 × Int32) => h) (s0 := (a1, (0 : Int32))) (fun K5 bK5 rK5 q => ?_)
    obtain ⟨v1, v2⟩ := q
    try dsimp only
    refine z_iload_n (j := 2) dX3_closed_4 rfl rfl ?_
    refine z_bipush (v := 12) dX3_closed_5 (by decide) ?_
    refine z_itb ?_
    refine z_icmp_ge (tgt := 55) dX3_closed_7 (by decide) (fun _ => ?_) (fun _ => ?_)
    · refine z_sb ?_
      refine z_eq (rK5 _) ?_
      refine z_at [1] rfl ?_
      exact kF4 v1
    · refine z_iconst (v := 0) dX3_closed_10 (by decide) ?_
      refine z_istore (i := 4) (lv' := [(4, .int (0 : Int32)), (1, zrv G.2.1 a2), (2, .int v1), (3, .int v2)]) dX3_closed_11 (by decide) rfl ?_
      refine z_as ?_
      refine z_at [1, 2, 3, 0] rfl ?_
      refine z_join (pc2 := 49) (lv2 := fun (q : Int32) => [(1, zrv G.2.1 a2), (2, .int q), (3, .int v2)]) (st2 := fun _ => []) (h2 := fun (q : Int32) => h) (fun q => ?_) (fun F9 kF9 => ?_)
      · obtain ⟨w8, e0⟩ : ∃ z, z = q := ⟨_, rfl⟩
        subst e0
        try dsimp only
        refine z_iinc (j := 2) (v := v2 + (1 : Int32)) (lv' := [(3, .int (v2 + (1 : Int32))), (1, zrv G.2.1 a2), (2, .int w8)]) dX3_closed_49 rfl rfl (by decide) rfl ?_
        refine z_goto (tgt := 4) dX3_closed_52 (by decide) ?_
        refine z_sb ?_
        refine z_at [1, 2, 0] rfl ?_
        exact bK5 (w8, v2 + (1 : Int32))
      · refine z_loop (lvf := fun (q : Int32 × Int32) => [(1, zrv G.2.1 a2), (2, .int q.1), (3, .int v2), (4, .int q.2)]) (hf2 := fun (q : Int32 × Int32) => h) (s0 := (v1, (0 : Int32))) (fun K10 bK10 rK10 q => ?_)
        obtain ⟨v6, v7⟩ := q
        try dsimp only
        refine z_iload (j := 3) dX3_closed_13 rfl ?_
        refine z_bipush (v := 12) dX3_closed_15 (by decide) ?_
        refine z_itb ?_
        refine z_icmp_ge (tgt := 49) dX3_closed_17 (by decide) (fun _ => ?_) (fun _ => ?_)
        · refine z_sb ?_
          refine z_eq (rK10 _) ?_
          refine z_at [0, 1, 2] rfl ?_
          exact kF9 v6
        · refine z_iload (j := 3) dX3_closed_20 rfl ?_
          refine z_aload_n (j := 0) dX3_closed_22 rfl rfl ?_
          refine z_as ?_
          refine z_alen dX3_closed_23 (by decide) (fun x11 => ?_)
          refine z_itb ?_
          refine z_icmp_ge (tgt := 49) dX3_closed_24 (by decide) (fun _ => ?_) (fun _ => ?_)
          · refine z_sb ?_
            refine z_eq (rK10 _) ?_
            refine z_at [0, 1, 2] rfl ?_
            exact kF9 v6
          · refine z_iload_n (j := 1) dX3_closed_27 rfl rfl ?_
            refine z_iconst (v := 1) dX3_closed_28 (by decide) ?_
            refine z_iload (j := 3) dX3_closed_29 rfl ?_
            refine z_ishl dX3_closed_31 ?_
            refine z_iand dX3_closed_32 ?_
            refine z_as ?_
            refine z_join (pc2 := 43) (lv2 := fun (q : Int32) => [(1, zrv G.2.1 a2), (2, .int q), (3, .int v2), (4, .int v7)]) (st2 := fun (q : Int32) => []) (h2 := fun (q : Int32) => h) (fun q => ?_) (fun F13 kF13 => ?_)
            · obtain ⟨v12, e0⟩ : ∃ z, z = q := ⟨_, rfl⟩
              subst e0
              try dsimp only
              refine z_iinc (j := 3) (v := v7 + (1 : Int32)) (lv' := [(4, .int (v7 + (1 : Int32))), (1, zrv G.2.1 a2), (2, .int v12), (3, .int v2)]) dX3_closed_43 rfl rfl (by decide) rfl ?_
              refine z_goto (tgt := 13) dX3_closed_46 (by decide) ?_
              refine z_sb ?_
              refine z_at [1, 2, 3, 0] rfl ?_
              exact bK10 (v12, v7 + (1 : Int32))
            · refine z_itb ?_
              refine z_if_eq (tgt := 43) dX3_closed_33 (by decide) (fun _ => ?_) (fun _ => ?_)
              · refine z_sb ?_
                refine z_at [0, 1, 2, 3] rfl ?_
                exact kF13 v6
              · refine z_iload_n (j := 1) dX3_closed_36 rfl rfl ?_
                refine z_aload_n (j := 0) dX3_closed_37 rfl rfl ?_
                refine z_iload (j := 3) dX3_closed_38 rfl ?_
                refine z_as ?_
                refine z_iald dX3_closed_40 (fun x14 => ?_)
                refine z_ior dX3_closed_41 ?_
                refine z_istore_n (i := 2) (lv' := [(2, .int (v6 ||| x14)), (1, zrv G.2.1 a2), (3, .int v2), (4, .int v7)]) dX3_closed_42 rfl (by decide) (by simp [zcat1, zcI, zcJ]) ?_
                refine z_sb ?_
                refine z_at [1, 0, 2, 3] rfl ?_
                exact kF13 (v6 ||| x14)
def fX3_partByNear (h : Zh) (this : Option Nat) (a1 : Int32) : Option (Zh) :=
  (zgI h this 4 10 (0 : Int32)).bind fun h1 =>
  (zloop (fun ((v2, v3, h4) : Int32 × Int32 × Zh) =>
    (if (12 : Int32) ≤ v3 then
      some (.inr h4)
    else
      (if (v2 &&& ((1 : Int32) <<< (v3 &&& 31))) = 0 then
        some (v2, h4)
      else
        (zfI h4 this 4 10).bind fun x11 =>
        (zfP h4 this 4 9).bind fun r12 =>
        (zaL h4 r12 0).bind fun x13 =>
        if x11 < x13 then
          (zfP h4 this 4 7).bind fun r14 =>
          (fX3_closed h4 ((1 : Int32) <<< (v3 &&& 31)) r14).bind fun x15 =>
          (zfP h4 this 4 9).bind fun r16 =>
          (zfI h4 this 4 10).bind fun x17 =>
          (zbI h4 r16 x17 (x15 &&& a1)).bind fun h18 =>
          (zfI h18 this 4 10).bind fun x19 =>
          (zgI h18 this 4 10 (x19 + (1 : Int32))).bind fun h20 =>
          some (v2 &&& ((x15 &&& a1) ^^^ (-1 : Int32)), h20)
        else
          some (v2, h4)).bind fun ((v8, h9) : Int32 × Zh) =>
      some (.inl (v8, v3 + (1 : Int32), h9)) : Option ((Int32 × Int32 × Zh) ⊕ Zh))) zFU (a1, (0 : Int32), h1)).bind fun (h5 : Zh) =>
  some h5
set_option maxRecDepth 100000 in
set_option maxHeartbeats 4000000 in
theorem kX3_partByNear (G : Zg) (h : Zh) (this : Option Nat) (a1 : Int32) {x : Zh} (hx : fX3_partByNear h this a1 = some x) : zCt G yX3_partByNear cX3_partByNear 5 (Option.none : Option Jvm.ClassFile.FieldType) 2 [zrv G.2.1 this, .int a1] h none x := by
  refine z_met (a := x) (rvf := fun (_ : Zh) => none) (hff := fun (x : Zh) => x) (lv := [(0, zrv G.2.1 this), (1, .int a1)]) (by decide +kernel) (by simp [lg_sl, zcat1, zcI, zcJ]) (by simp [lv_args, zcat1, zcI, zcJ]) ?_ hx
  unfold fX3_partByNear
  refine z_aload_n (j := 0) dX3_partByNear_0 rfl rfl ?_
  refine z_iconst (v := 0) dX3_partByNear_1 (by decide) ?_
  refine z_putI (k := 10) dX3_partByNear_2 zkl4 (by decide) (.inl zw123) (.inl rfl) rfl rfl rfl (fun h1 => ?_)
  refine z_iload_n (j := 1) dX3_partByNear_5 rfl rfl ?_
  refine z_istore_n (i := 2) (lv' := [(2, .int a1), (0, zrv G.2.1 this), (1, .int a1)]) dX3_partByNear_6 rfl (by decide) rfl ?_
  refine z_iconst (v := 0) dX3_partByNear_7 (by decide) ?_
  refine z_istore_n (i := 3) (lv' := [(3, .int (0 : Int32)), (2, .int a1), (0, zrv G.2.1 this), (1, .int a1)]) dX3_partByNear_8 rfl (by decide) rfl ?_
  refine z_at [2, 3, 1, 0] rfl ?_
  refine z_join (pc2 := 86) (lv2 := fun (q : Zh) => []) (st2 := fun _ => []) (h2 := fun (q : Zh) => q) (fun q => ?_) (fun F6 kF6 => ?_)
  · obtain ⟨h5, e0⟩ : ∃ z, z = q := ⟨_, rfl⟩
    subst e0
    try dsimp only
    exact z_vret dX3_partByNear_86 rfl rfl rfl
  · refine z_loop (lvf := fun (q : Int32 × Int32 × Zh) => [(0, zrv G.2.1 this), (1, .int a1), (2, .int q.1), (3, .int q.2.1)]) (hf2 := fun (q : Int32 × Int32 × Zh) => q.2.2) (s0 := (a1, (0 : Int32), h1)) (fun K7 bK7 rK7 q => ?_)
    obtain ⟨v2, v3, h4⟩ := q
    try dsimp only
    refine z_iload_n (j := 3) dX3_partByNear_9 rfl rfl ?_
    refine z_bipush (v := 12) dX3_partByNear_10 (by decide) ?_
    refine z_itb ?_
    refine z_icmp_ge (tgt := 86) dX3_partByNear_12 (by decide) (fun _ => ?_) (fun _ => ?_)
    · refine z_sb ?_
      refine z_eq (rK7 _) ?_
      refine z_at [] rfl ?_
      exact kF6 h4
    · refine z_iload_n (j := 2) dX3_partByNear_15 rfl rfl ?_
      refine z_iconst (v := 1) dX3_partByNear_16 (by decide) ?_
      refine z_iload_n (j := 3) dX3_partByNear_17 rfl rfl ?_
      refine z_ishl dX3_partByNear_18 ?_
      refine z_iand dX3_partByNear_19 ?_
      refine z_as ?_
      refine z_join (pc2 := 80) (lv2 := fun (q : Int32 × Zh) => [(0, zrv G.2.1 this), (1, .int a1), (2, .int q.1), (3, .int v3)]) (st2 := fun (q : Int32 × Zh) => []) (h2 := fun (q : Int32 × Zh) => q.2) (fun q => ?_) (fun F10 kF10 => ?_)
      · obtain ⟨v8, h9⟩ := q
        try dsimp only
        refine z_iinc (j := 3) (v := v3 + (1 : Int32)) (lv' := [(3, .int (v3 + (1 : Int32))), (0, zrv G.2.1 this), (1, .int a1), (2, .int v8)]) dX3_partByNear_80 rfl rfl (by decide) rfl ?_
        refine z_goto (tgt := 9) dX3_partByNear_83 (by decide) ?_
        refine z_sb ?_
        refine z_at [1, 2, 3, 0] rfl ?_
        exact bK7 (v8, v3 + (1 : Int32), h9)
      · refine z_itb ?_
        refine z_if_eq (tgt := 80) dX3_partByNear_20 (by decide) (fun _ => ?_) (fun _ => ?_)
        · refine z_sb ?_
          refine z_at [0, 1, 2, 3] rfl ?_
          exact kF10 (v2, h4)
        · refine z_aload_n (j := 0) dX3_partByNear_23 rfl rfl ?_
          refine z_as ?_
          refine z_getI (k := 10) dX3_partByNear_24 zkl4 (by decide) rfl (.inl zw123) (fun x11 => ?_)
          refine z_aload_n (j := 0) dX3_partByNear_27 rfl rfl ?_
          refine z_as ?_
          refine z_getP (k := 9) dX3_partByNear_28 zkl4 (by decide) rfl (.inl zw121) (fun r12 => ?_)
          refine z_as ?_
          refine z_alen dX3_partByNear_31 (by decide) (fun x13 => ?_)
          refine z_itb ?_
          refine z_icmp_lt (tgt := 38) dX3_partByNear_32 (by decide) (fun _ => ?_) (fun _ => ?_)
          · refine z_iconst (v := 1) dX3_partByNear_38 (by decide) ?_
            refine z_iload_n (j := 3) dX3_partByNear_39 rfl rfl ?_
            refine z_ishl dX3_partByNear_40 ?_
            refine z_aload_n (j := 0) dX3_partByNear_41 rfl rfl ?_
            refine z_as ?_
            refine z_getP (k := 7) dX3_partByNear_42 zkl4 (by decide) rfl (.inl zw119) (fun r14 => ?_)
            refine z_as ?_
            refine z_callS (As := [.int ((1 : Int32) <<< (v3 &&& 31)), zrv G.2.1 r14]) (rest := []) (rv2 := fun (x : Int32) => some (.int x)) (h2 := fun (_ : Int32) => h4) dX3_partByNear_45 vX3_closed (.inl zw596) (by decide) rfl rfl (by decide) (fun x hx => kX3_closed G h4 ((1 : Int32) <<< (v3 &&& 31)) r14 hx) (fun x15 => ?_)
            try dsimp only [Option.toList, List.cons_append, List.nil_append]
            refine z_iload_n (j := 1) dX3_partByNear_48 rfl rfl ?_
            refine z_iand dX3_partByNear_49 ?_
            refine z_istore (i := 4) (lv' := [(4, .int (x15 &&& a1)), (0, zrv G.2.1 this), (1, .int a1), (2, .int v2), (3, .int v3)]) dX3_partByNear_50 (by decide) rfl ?_
            refine z_aload_n (j := 1) dX3_partByNear_52 rfl rfl ?_
            refine z_as ?_
            refine z_getP (k := 9) dX3_partByNear_53 zkl4 (by decide) rfl (.inl zw121) (fun r16 => ?_)
            refine z_aload_n (j := 1) dX3_partByNear_56 rfl rfl ?_
            refine z_as ?_
            refine z_getI (k := 10) dX3_partByNear_57 zkl4 (by decide) rfl (.inl zw123) (fun x17 => ?_)
            refine z_iload (j := 0) dX3_partByNear_60 rfl ?_
            refine z_as ?_
            refine z_iast dX3_partByNear_62 (fun h18 => ?_)
            refine z_aload_n (j := 1) dX3_partByNear_63 rfl rfl ?_
            refine z_dup dX3_partByNear_64 (zcat1 _ _) ?_
            refine z_as ?_
            refine z_getI (k := 10) dX3_partByNear_65 zkl4 (by decide) rfl (.inl zw123) (fun x19 => ?_)
            refine z_iconst (v := 1) dX3_partByNear_68 (by decide) ?_
            refine z_iadd dX3_partByNear_69 ?_
            refine z_as ?_
            refine z_putI (k := 10) dX3_partByNear_70 zkl4 (by decide) (.inl zw123) (.inl rfl) rfl rfl rfl (fun h20 => ?_)
            refine z_iload_n (j := 3) dX3_partByNear_73 rfl rfl ?_
            refine z_iload (j := 0) dX3_partByNear_74 rfl ?_
            refine z_iconst (v := -1) dX3_partByNear_76 (by decide) ?_
            refine z_ixor dX3_partByNear_77 ?_
            refine z_iand dX3_partByNear_78 ?_
            refine z_istore_n (i := 2) (lv' := [(2, .int (v2 &&& ((x15 &&& a1) ^^^ (-1 : Int32)))), (4, .int (x15 &&& a1)), (0, zrv G.2.1 this), (1, .int a1), (3, .int v3)]) dX3_partByNear_79 rfl (by decide) rfl ?_
            refine z_sb ?_
            refine z_at [2, 3, 0, 4] rfl ?_
            exact kF10 (v2 &&& ((x15 &&& a1) ^^^ (-1 : Int32)), h20)
          · refine z_goto (tgt := 80) dX3_partByNear_35 (by decide) ?_
            refine z_sb ?_
            refine z_at [0, 1, 2, 3] rfl ?_
            exact kF10 (v2, h4)
def fX3_cutsToChoice (h : Zh) (this : Option Nat) : Option (Int32 × Zh) :=
  (zloop (fun ((v1, h2) : Int32 × Zh) =>
    (if (12 : Int32) ≤ v1 then
      some (.inr h2)
    else
      (zfP h2 this 4 7).bind fun r6 =>
      (zfP h2 this 4 5).bind fun r7 =>
      (zaI h2 r7 v1).bind fun x8 =>
      (zfP h2 this 4 6).bind fun r9 =>
      (zaI h2 r9 v1).bind fun x10 =>
      (zbI h2 r6 v1 (x8 ||| x10)).bind fun h11 =>
      some (.inl (v1 + (1 : Int32), h11)) : Option ((Int32 × Zh) ⊕ Zh))) zFU ((0 : Int32), h)).bind fun (h3 : Zh) =>
  (zfI h3 this 4 2).bind fun x12 =>
  (zob h3 this 5).bind fun p13 =>
  (fX3_partByNear h3 (some p13) x12).bind fun h14 =>
  (zfI h14 this 4 10).bind fun x15 =>
  (if x15 ≤ (1 : Int32) then
    some (0 : Int32)
  else
    some (1 : Int32)).bind fun (v16 : Int32) =>
  (zbo v16).bind fun _ =>
  some (v16, h14)
set_option maxRecDepth 100000 in
set_option maxHeartbeats 4000000 in
theorem kX3_cutsToChoice (G : Zg) (h : Zh) (this : Option Nat) {x : Int32 × Zh} (hx : fX3_cutsToChoice h this = some x) : zCt G yX3_cutsToChoice cX3_cutsToChoice 2 (Option.some Jvm.ClassFile.FieldType.boolean) 3 [zrv G.2.1 this] h (some (.int x.1)) x.2 := by
  refine z_met (a := x) (rvf := fun (x : Int32 × Zh) => some (.int x.1)) (hff := fun (x : Int32 × Zh) => x.2) (lv := [(0, zrv G.2.1 this)]) (by decide +kernel) (by simp [lg_sl, zcat1, zcI, zcJ]) (by simp [lv_args, zcat1, zcI, zcJ]) ?_ hx
  unfold fX3_cutsToChoice
  refine z_iconst (v := 0) dX3_cutsToChoice_0 (by decide) ?_
  refine z_istore_n (i := 1) (lv' := [(1, .int (0 : Int32)), (0, zrv G.2.1 this)]) dX3_cutsToChoice_1 rfl (by decide) (by simp [zcat1, zcI, zcJ]) ?_
  refine z_at [1, 0] rfl ?_
  refine z_join (pc2 := 33) (lv2 := fun (q : Zh) => [(0, zrv G.2.1 this)]) (st2 := fun _ => []) (h2 := fun (q : Zh) => q) (fun q => ?_) (fun F4 kF4 => ?_)
  · obtain ⟨h3, e0⟩ : ∃ z, z = q := ⟨_, rfl⟩
    subst e0
    try dsimp only
    refine z_aload_n (j := 0) dX3_cutsToChoice_33 rfl rfl ?_
    refine z_aload_n (j := 0) dX3_cutsToChoice_34 rfl rfl ?_
    refine z_getI (k := 2) dX3_cutsToChoice_35 zkl4 (by decide) rfl (.inl zw113) (fun x12 => ?_)
    refine z_ob (fun p13 ep13 lp13 kp13 => ?_)
    refine z_callV (As := [.int x12]) (rest := []) (rv2 := fun (_ : Zh) => none) (h2 := fun (x : Zh) => x) dX3_cutsToChoice_38 vX3_partByNear (.inl zw592) (by decide) zkl4 lp13 kp13 rfl (by rw [ep13]; rfl) (by decide) (fun x hx => kX3_partByNear G h3 (some p13) x12 hx) (fun h14 => ?_)
    try dsimp only [Option.toList, List.cons_append, List.nil_append]
    refine z_aload_n (j := 0) dX3_cutsToChoice_41 rfl rfl ?_
    refine z_getI (k := 10) dX3_cutsToChoice_42 zkl4 (by decide) rfl (.inl zw123) (fun x15 => ?_)
    refine z_iconst (v := 1) dX3_cutsToChoice_45 (by decide) ?_
    refine z_join (pc2 := 54) (lv2 := fun (q : Int32) => []) (st2 := fun (q : Int32) => [.int q]) (h2 := fun (q : Int32) => h14) (fun q => ?_) (fun F17 kF17 => ?_)
    · obtain ⟨v16, e0⟩ : ∃ z, z = q := ⟨_, rfl⟩
      subst e0
      try dsimp only
      refine z_bo (fun hbb18 => ?_)
      exact z_iret dX3_cutsToChoice_54 rfl (by rcases hbb18 with q | q <;> rw [q] <;> rfl) rfl rfl
    · refine z_itb ?_
      refine z_icmp_le (tgt := 53) dX3_cutsToChoice_46 (by decide) (fun _ => ?_) (fun _ => ?_)
      · refine z_iconst (v := 0) dX3_cutsToChoice_53 (by decide) ?_
        refine z_sb ?_
        refine z_at [] rfl ?_
        exact kF17 (0 : Int32)
      · refine z_iconst (v := 1) dX3_cutsToChoice_49 (by decide) ?_
        refine z_goto (tgt := 54) dX3_cutsToChoice_50 (by decide) ?_
        refine z_sb ?_
        refine z_at [] rfl ?_
        exact kF17 (1 : Int32)
  · refine z_loop (lvf := fun (q : Int32 × Zh) => [(0, zrv G.2.1 this), (1, .int q.1)]) (hf2 := fun (q : Int32 × Zh) => q.2) (s0 := ((0 : Int32), h)) (fun K5 bK5 rK5 q => ?_)
    obtain ⟨v1, h2⟩ := q
    try dsimp only
    refine z_iload_n (j := 1) dX3_cutsToChoice_2 rfl rfl ?_
    refine z_bipush (v := 12) dX3_cutsToChoice_3 (by decide) ?_
    refine z_itb ?_
    refine z_icmp_ge (tgt := 33) dX3_cutsToChoice_5 (by decide) (fun _ => ?_) (fun _ => ?_)
    · refine z_sb ?_
      refine z_eq (rK5 _) ?_
      refine z_at [0] rfl ?_
      exact kF4 h2
    · refine z_aload_n (j := 0) dX3_cutsToChoice_8 rfl rfl ?_
      refine z_as ?_
      refine z_getP (k := 7) dX3_cutsToChoice_9 zkl4 (by decide) rfl (.inl zw119) (fun r6 => ?_)
      refine z_iload_n (j := 1) dX3_cutsToChoice_12 rfl rfl ?_
      refine z_aload_n (j := 0) dX3_cutsToChoice_13 rfl rfl ?_
      refine z_as ?_
      refine z_getP (k := 5) dX3_cutsToChoice_14 zkl4 (by decide) rfl (.inl zw117) (fun r7 => ?_)
      refine z_iload_n (j := 1) dX3_cutsToChoice_17 rfl rfl ?_
      refine z_as ?_
      refine z_iald dX3_cutsToChoice_18 (fun x8 => ?_)
      refine z_aload_n (j := 0) dX3_cutsToChoice_19 rfl rfl ?_
      refine z_as ?_
      refine z_getP (k := 6) dX3_cutsToChoice_20 zkl4 (by decide) rfl (.inl zw118) (fun r9 => ?_)
      refine z_iload_n (j := 1) dX3_cutsToChoice_23 rfl rfl ?_
      refine z_as ?_
      refine z_iald dX3_cutsToChoice_24 (fun x10 => ?_)
      refine z_ior dX3_cutsToChoice_25 ?_
      refine z_as ?_
      refine z_iast dX3_cutsToChoice_26 (fun h11 => ?_)
      refine z_iinc (j := 1) (v := v1 + (1 : Int32)) (lv' := [(1, .int (v1 + (1 : Int32))), (0, zrv G.2.1 this)]) dX3_cutsToChoice_27 rfl rfl (by decide) (by simp [zcat1, zcI, zcJ]) ?_
      refine z_goto (tgt := 2) dX3_cutsToChoice_30 (by decide) ?_
      refine z_sb ?_
      refine z_at [1, 0] rfl ?_
      exact bK5 (v1 + (1 : Int32), h11)
def fX3_reaches (h : Zh) (this : Option Nat) (a1 : Int32) (a2 : Int32) : Option (Int32) :=
  (zloop (fun (v1 : Int32) =>
    (if (12 : Int32) ≤ v1 then
      some (.inr (.inl ()))
    else
      if (a1 &&& ((1 : Int32) <<< (v1 &&& 31))) = 0 then
        some (.inl (v1 + (1 : Int32)))
      else
        (zfP h this 4 8).bind fun r4 =>
        (zaI h r4 v1).bind fun x5 =>
        if (x5 &&& a2) = 0 then
          some (.inl (v1 + (1 : Int32)))
        else
          some (.inr (.inr (1 : Int32))) : Option (Int32 ⊕ (Unit ⊕ Int32)))) zFU (0 : Int32)).bind fun (q : (Unit ⊕ Int32)) => match q with
  | .inr t => some t
  | .inl u =>
    some (0 : Int32)
set_option maxRecDepth 100000 in
set_option maxHeartbeats 4000000 in
theorem kX3_reaches (G : Zg) (h : Zh) (this : Option Nat) (a1 : Int32) (a2 : Int32) {x : Int32} (hx : fX3_reaches h this a1 a2 = some x) : zCt G yX3_reaches cX3_reaches 4 (Option.some Jvm.ClassFile.FieldType.boolean) 1 [zrv G.2.1 this, .int a1, .int a2] h (some (.int x)) h := by
  refine z_met (a := x) (rvf := fun (x : Int32) => some (.int x)) (hff := fun (_ : Int32) => h) (lv := [(0, zrv G.2.1 this), (1, .int a1), (2, .int a2)]) (by decide +kernel) (by simp [lg_sl, zcat1, zcI, zcJ]) (by simp [lv_args, zcat1, zcI, zcJ]) ?_ hx
  unfold fX3_reaches
  refine z_iconst (v := 0) dX3_reaches_0 (by decide) ?_
  refine z_istore_n (i := 3) (lv' := [(3, .int (0 : Int32)), (0, zrv G.2.1 this), (1, .int a1), (2, .int a2)]) dX3_reaches_1 rfl (by decide) rfl ?_
  refine z_at [1, 2, 3, 0] rfl ?_
  refine z_joinS (pc2 := 35) (lv2 := fun (q : Unit) => []) (st2 := fun _ => []) (h2 := fun (q : Unit) => h) (fun q => ?_) (fun _ => rfl) (fun F2 kF2 tF2 => ?_)
  · obtain ⟨u, e0⟩ : ∃ z, z = q := ⟨_, rfl⟩
    subst e0
    try dsimp only
    refine z_iconst (v := 0) dX3_reaches_35 (by decide) ?_
    exact z_iret dX3_reaches_36 rfl rfl rfl rfl
  · refine z_loop (lvf := fun (q : Int32) => [(0, zrv G.2.1 this), (1, .int a1), (2, .int a2), (3, .int q)]) (hf2 := fun (q : Int32) => h) (s0 := (0 : Int32)) (fun K3 bK3 rK3 q => ?_)
    obtain ⟨v1, e0⟩ : ∃ z, z = q := ⟨_, rfl⟩
    subst e0
    try dsimp only
    refine z_iload_n (j := 3) dX3_reaches_2 rfl rfl ?_
    refine z_bipush (v := 12) dX3_reaches_3 (by decide) ?_
    refine z_itb ?_
    refine z_icmp_ge (tgt := 35) dX3_reaches_5 (by decide) (fun _ => ?_) (fun _ => ?_)
    · refine z_sb ?_
      refine z_eq (rK3 _) ?_
      refine z_at [] rfl ?_
      exact kF2 ()
    · refine z_iload_n (j := 1) dX3_reaches_8 rfl rfl ?_
      refine z_iconst (v := 1) dX3_reaches_9 (by decide) ?_
      refine z_iload_n (j := 3) dX3_reaches_10 rfl rfl ?_
      refine z_ishl dX3_reaches_11 ?_
      refine z_iand dX3_reaches_12 ?_
      refine z_itb ?_
      refine z_if_eq (tgt := 29) dX3_reaches_13 (by decide) (fun _ => ?_) (fun _ => ?_)
      · refine z_iinc (j := 3) (v := v1 + (1 : Int32)) (lv' := [(3, .int (v1 + (1 : Int32))), (0, zrv G.2.1 this), (1, .int a1), (2, .int a2)]) dX3_reaches_29 rfl rfl (by decide) rfl ?_
        refine z_goto (tgt := 2) dX3_reaches_32 (by decide) ?_
        refine z_sb ?_
        refine z_at [1, 2, 3, 0] rfl ?_
        exact bK3 (v1 + (1 : Int32))
      · refine z_aload_n (j := 0) dX3_reaches_16 rfl rfl ?_
        refine z_as ?_
        refine z_getP (k := 8) dX3_reaches_17 zkl4 (by decide) rfl (.inl zw120) (fun r4 => ?_)
        refine z_iload_n (j := 3) dX3_reaches_20 rfl rfl ?_
        refine z_as ?_
        refine z_iald dX3_reaches_21 (fun x5 => ?_)
        refine z_iload_n (j := 2) dX3_reaches_22 rfl rfl ?_
        refine z_iand dX3_reaches_23 ?_
        refine z_itb ?_
        refine z_if_eq (tgt := 29) dX3_reaches_24 (by decide) (fun _ => ?_) (fun _ => ?_)
        · refine z_iinc (j := 3) (v := v1 + (1 : Int32)) (lv' := [(3, .int (v1 + (1 : Int32))), (0, zrv G.2.1 this), (1, .int a1), (2, .int a2)]) dX3_reaches_29 rfl rfl (by decide) rfl ?_
          refine z_goto (tgt := 2) dX3_reaches_32 (by decide) ?_
          refine z_sb ?_
          refine z_at [1, 2, 3, 0] rfl ?_
          exact bK3 (v1 + (1 : Int32))
        · refine z_iconst (v := 1) dX3_reaches_27 (by decide) ?_
          refine z_sb ?_
          refine z_eq (rK3 _) ?_
          refine z_eq (tF2 _) ?_
          exact z_iret dX3_reaches_28 rfl rfl rfl rfl
