/-! the class: Share.orderByReach, Share.cutsToRow, Share.cutsToBeside, Share.someNotAll, Share.goesTo, Share.putAhead, Share.cutsToLoop, Share.cutsTo, TrailFinder.<init>, TrailFinder.open, TrailFinder.caseAt, TrailFinder.inLog, TrailFinder.isName, TrailFinder.isHand, TrailFinder.isTime, TrailFinder.add, TrailFinder.cut, TrailFinder.drop, TrailFinder.told, TrailFinder.pairs, TrailFinder.follows, TrailFinder.stands, TrailFinder.silence, TrailFinder.deedOf, TrailFinder.enter, TrailFinder.keep, TrailFinder.deed, TrailFinder.pieceAt, TrailFinder.two, TrailFinder.join, TrailFinder.more, TrailFinder.piece, java/util/AbstractCollection.<init>, java/util/AbstractList.<init>, java/util/ArrayList.<init> -/
def fX3_orderByReach (h : Zh) (this : Option Nat) : Option (Zh) :=
  (zloop (fun ((v1, h2) : Int32 × Zh) =>
    ((zfI h2 this 4 10).bind fun x6 =>
    if x6 ≤ v1 then
      some (.inr h2)
    else
      (zfP h2 this 4 9).bind fun r7 =>
      (zaI h2 r7 v1).bind fun x8 =>
      (zloop (fun ((v9, h10) : Int32 × Zh) =>
        (if v9 ≤ 0 then
          some (.inr (v9, h10))
        else
          (zfP h10 this 4 9).bind fun r15 =>
          (zaI h10 r15 (v9 - (1 : Int32))).bind fun x16 =>
          (zob h10 this 5).bind fun p17 =>
          (fX3_reaches h10 (some p17) x8 x16).bind fun x18 =>
          if x18 = 0 then
            some (.inr (v9, h10))
          else
            (zfP h10 this 4 9).bind fun r19 =>
            (zfP h10 this 4 9).bind fun r20 =>
            (zaI h10 r20 (v9 - (1 : Int32))).bind fun x21 =>
            (zbI h10 r19 v9 x21).bind fun h22 =>
            some (.inl (v9 + (-1 : Int32), h22)) : Option ((Int32 × Zh) ⊕ (Int32 × Zh)))) zFU (v1, h2)).bind fun ((w11, h12) : Int32 × Zh) =>
      (zfP h12 this 4 9).bind fun r23 =>
      (zbI h12 r23 w11 x8).bind fun h24 =>
      some (.inl (v1 + (1 : Int32), h24)) : Option ((Int32 × Zh) ⊕ Zh))) zFU ((1 : Int32), h)).bind fun (h3 : Zh) =>
  some h3
set_option maxRecDepth 100000 in
set_option maxHeartbeats 4000000 in
theorem kX3_orderByReach (G : Zg) (h : Zh) (this : Option Nat) {x : Zh} (hx : fX3_orderByReach h this = some x) : zCt G yX3_orderByReach cX3_orderByReach 4 (Option.none : Option Jvm.ClassFile.FieldType) 2 [zrv G.2.1 this] h none x := by
  refine z_met (a := x) (rvf := fun (_ : Zh) => none) (hff := fun (x : Zh) => x) (lv := [(0, zrv G.2.1 this)]) (by decide +kernel) (by simp [lg_sl, zcat1, zcI, zcJ]) (by simp [lv_args, zcat1, zcI, zcJ]) ?_ hx
  unfold fX3_orderByReach
  refine z_iconst (v := 1) dX3_orderByReach_0 (by decide) ?_
  refine z_istore_n (i := 1) (lv' := [(1, .int (1 : Int32)), (0, zrv G.2.1 this)]) dX3_orderByReach_1 rfl (by decide) (by simp [zcat1, zcI, zcJ]) ?_
  refine z_at [1, 0] rfl ?_
  refine z_join (pc2 := 72) (lv2 := fun (q : Zh) => []) (st2 := fun _ => []) (h2 := fun (q : Zh) => q) (fun q => ?_) (fun F4 kF4 => ?_)
  · obtain ⟨h3, e0⟩ : ∃ z, z = q := ⟨_, rfl⟩
    subst e0
    try dsimp only
    exact z_vret dX3_orderByReach_72 rfl rfl rfl
  · refine z_loop (lvf := fun (q : Int32 × Zh) => [(0, zrv G.2.1 this), (1, .int q.1)]) (hf2 := fun (q : Int32 × Zh) => q.2) (s0 := ((1 : Int32), h)) (fun K5 bK5 rK5 q => ?_)
    obtain ⟨v1, h2⟩ := q
    try dsimp only
    refine z_iload_n (j := 1) dX3_orderByReach_2 rfl rfl ?_
    refine z_aload_n (j := 0) dX3_orderByReach_3 rfl rfl ?_
    refine z_as ?_
    refine z_getI (k := 10) dX3_orderByReach_4 zkl4 (by decide) rfl (.inl zw123) (fun x6 => ?_)
    refine z_itb ?_
    refine z_icmp_ge (tgt := 72) dX3_orderByReach_7 (by decide) (fun _ => ?_) (fun _ => ?_)
    · refine z_sb ?_
      refine z_eq (rK5 _) ?_
      refine z_at [] rfl ?_
      exact kF4 h2
    · refine z_aload_n (j := 0) dX3_orderByReach_10 rfl rfl ?_
      refine z_as ?_
      refine z_getP (k := 9) dX3_orderByReach_11 zkl4 (by decide) rfl (.inl zw121) (fun r7 => ?_)
      refine z_iload_n (j := 1) dX3_orderByReach_14 rfl rfl ?_
      refine z_as ?_
      refine z_iald dX3_orderByReach_15 (fun x8 => ?_)
      refine z_istore_n (i := 2) (lv' := [(2, .int x8), (0, zrv G.2.1 this), (1, .int v1)]) dX3_orderByReach_16 rfl (by decide) rfl ?_
      refine z_iload_n (j := 2) dX3_orderByReach_17 rfl rfl ?_
      refine z_istore_n (i := 3) (lv' := [(3, .int v1), (2, .int x8), (0, zrv G.2.1 this), (1, .int v1)]) dX3_orderByReach_18 rfl (by decide) rfl ?_
      refine z_as ?_
      refine z_at [2, 3, 1, 0] rfl ?_
      refine z_join (pc2 := 59) (lv2 := fun (q : Int32 × Zh) => [(0, zrv G.2.1 this), (1, .int v1), (2, .int x8), (3, .int q.1)]) (st2 := fun _ => []) (h2 := fun (q : Int32 × Zh) => q.2) (fun q => ?_) (fun F13 kF13 => ?_)
      · obtain ⟨w11, h12⟩ := q
        try dsimp only
        refine z_aload_n (j := 0) dX3_orderByReach_59 rfl rfl ?_
        refine z_as ?_
        refine z_getP (k := 9) dX3_orderByReach_60 zkl4 (by decide) rfl (.inl zw121) (fun r23 => ?_)
        refine z_iload_n (j := 3) dX3_orderByReach_63 rfl rfl ?_
        refine z_iload_n (j := 2) dX3_orderByReach_64 rfl rfl ?_
        refine z_as ?_
        refine z_iast dX3_orderByReach_65 (fun h24 => ?_)
        refine z_iinc (j := 1) (v := v1 + (1 : Int32)) (lv' := [(1, .int (v1 + (1 : Int32))), (0, zrv G.2.1 this), (2, .int x8), (3, .int w11)]) dX3_orderByReach_66 rfl rfl (by decide) (by simp [zcat1, zcI, zcJ]) ?_
        refine z_goto (tgt := 2) dX3_orderByReach_69 (by decide) ?_
        refine z_sb ?_
        refine z_at [1, 0] rfl ?_
        exact bK5 (v1 + (1 : Int32), h24)
      · refine z_loop (lvf := fun (q : Int32 × Zh) => [(0, zrv G.2.1 this), (1, .int v1), (2, .int x8), (3, .int q.1)]) (hf2 := fun (q : Int32 × Zh) => q.2) (s0 := (v1, h2)) (fun K14 bK14 rK14 q => ?_)
        obtain ⟨v9, h10⟩ := q
        try dsimp only
        refine z_iload_n (j := 3) dX3_orderByReach_19 rfl rfl ?_
        refine z_itb ?_
        refine z_if_le (tgt := 59) dX3_orderByReach_20 (by decide) (fun _ => ?_) (fun _ => ?_)
        · refine z_sb ?_
          refine z_eq (rK14 _) ?_
          refine z_at [0, 1, 2, 3] rfl ?_
          exact kF13 (v9, h10)
        · refine z_aload_n (j := 0) dX3_orderByReach_23 rfl rfl ?_
          refine z_iload_n (j := 2) dX3_orderByReach_24 rfl rfl ?_
          refine z_aload_n (j := 0) dX3_orderByReach_25 rfl rfl ?_
          refine z_as ?_
          refine z_getP (k := 9) dX3_orderByReach_26 zkl4 (by decide) rfl (.inl zw121) (fun r15 => ?_)
          refine z_iload_n (j := 3) dX3_orderByReach_29 rfl rfl ?_
          refine z_iconst (v := 1) dX3_orderByReach_30 (by decide) ?_
          refine z_isub dX3_orderByReach_31 ?_
          refine z_as ?_
          refine z_iald dX3_orderByReach_32 (fun x16 => ?_)
          refine z_as ?_
          refine z_ob (fun p17 ep17 lp17 kp17 => ?_)
          refine z_as ?_
          refine z_callV (As := [.int x8, .int x16]) (rest := []) (rv2 := fun (x : Int32) => some (.int x)) (h2 := fun (_ : Int32) => h10) dX3_orderByReach_33 vX3_reaches (.inl zw607) (by decide) zkl4 lp17 kp17 rfl (by rw [ep17]; rfl) (by decide) (fun x hx => kX3_reaches G h10 (some p17) x8 x16 hx) (fun x18 => ?_)
          try dsimp only [Option.toList, List.cons_append, List.nil_append]
          refine z_itb ?_
          refine z_if_eq (tgt := 59) dX3_orderByReach_36 (by decide) (fun _ => ?_) (fun _ => ?_)
          · refine z_sb ?_
            refine z_eq (rK14 _) ?_
            refine z_at [0, 1, 2, 3] rfl ?_
            exact kF13 (v9, h10)
          · refine z_aload_n (j := 0) dX3_orderByReach_39 rfl rfl ?_
            refine z_as ?_
            refine z_getP (k := 9) dX3_orderByReach_40 zkl4 (by decide) rfl (.inl zw121) (fun r19 => ?_)
            refine z_iload_n (j := 3) dX3_orderByReach_43 rfl rfl ?_
            refine z_aload_n (j := 0) dX3_orderByReach_44 rfl rfl ?_
            refine z_as ?_
            refine z_getP (k := 9) dX3_orderByReach_45 zkl4 (by decide) rfl (.inl zw121) (fun r20 => ?_)
            refine z_iload_n (j := 3) dX3_orderByReach_48 rfl rfl ?_
            refine z_iconst (v := 1) dX3_orderByReach_49 (by decide) ?_
            refine z_isub dX3_orderByReach_50 ?_
            refine z_as ?_
            refine z_iald dX3_orderByReach_51 (fun x21 => ?_)
            refine z_as ?_
            refine z_iast dX3_orderByReach_52 (fun h22 => ?_)
            refine z_iinc (j := 3) (v := v9 + (-1 : Int32)) (lv' := [(3, .int (v9 + (-1 : Int32))), (0, zrv G.2.1 this), (1, .int v1), (2, .int x8)]) dX3_orderByReach_53 rfl rfl (by decide) rfl ?_
            refine z_goto (tgt := 19) dX3_orderByReach_56 (by decide) ?_
            refine z_sb ?_
            refine z_at [1, 2, 3, 0] rfl ?_
            exact bK14 (v9 + (-1 : Int32), h22)
def fX3_cutsToRow (h : Zh) (this : Option Nat) : Option (Int32 × Zh) :=
  (zloop (fun ((v1, h2) : Int32 × Zh) =>
    (if (12 : Int32) ≤ v1 then
      some (.inr h2)
    else
      (zfP h2 this 4 8).bind fun r6 =>
      (zfP h2 this 4 5).bind fun r7 =>
      (zaI h2 r7 v1).bind fun x8 =>
      (zfP h2 this 4 5).bind fun r9 =>
      (fX3_closed h2 x8 r9).bind fun x10 =>
      (zbI h2 r6 v1 x10).bind fun h11 =>
      some (.inl (v1 + (1 : Int32), h11)) : Option ((Int32 × Zh) ⊕ Zh))) zFU ((0 : Int32), h)).bind fun (h3 : Zh) =>
  (zloop (fun ((v12, h13) : Int32 × Zh) =>
    (if (12 : Int32) ≤ v12 then
      some (.inr h13)
    else
      (zfP h13 this 4 7).bind fun r17 =>
      (zbI h13 r17 v12 (0 : Int32)).bind fun h18 =>
      (zloop (fun ((v19, h20) : Int32 × Zh) =>
        (if (12 : Int32) ≤ v19 then
          some (.inr h20)
        else
          (zfP h20 this 4 8).bind fun r24 =>
          (zaI h20 r24 v12).bind fun x25 =>
          (if (x25 &&& ((1 : Int32) <<< (v19 &&& 31))) = 0 then
            some (0 : Int32)
          else
            some (1 : Int32)).bind fun (v26 : Int32) =>
          (zfP h20 this 4 8).bind fun r28 =>
          (zaI h20 r28 v19).bind fun x29 =>
          (if (x29 &&& ((1 : Int32) <<< (v12 &&& 31))) = 0 then
            some (0 : Int32)
          else
            some (1 : Int32)).bind fun (v30 : Int32) =>
          (if v26 = v30 then
            (zfP h20 this 4 7).bind fun r34 =>
            (zaI h20 r34 v12).bind fun x35 =>
            (zfI h20 this 4 2).bind fun x36 =>
            (zbI h20 r34 v12 (x35 ||| (x36 &&& ((1 : Int32) <<< (v19 &&& 31))))).bind fun h37 =>
            some h37
          else
            some h20).bind fun (h32 : Zh) =>
          some (.inl (v19 + (1 : Int32), h32)) : Option ((Int32 × Zh) ⊕ Zh))) zFU ((0 : Int32), h18)).bind fun (h21 : Zh) =>
      some (.inl (v12 + (1 : Int32), h21)) : Option ((Int32 × Zh) ⊕ Zh))) zFU ((0 : Int32), h3)).bind fun (h14 : Zh) =>
  (zfI h14 this 4 2).bind fun x38 =>
  (zob h14 this 5).bind fun p39 =>
  (fX3_partByNear h14 (some p39) x38).bind fun h40 =>
  (zob h40 this 5).bind fun p41 =>
  (fX3_orderByReach h40 (some p41)).bind fun h42 =>
  (zfI h42 this 4 10).bind fun x43 =>
  (if x43 ≤ (1 : Int32) then
    some (0 : Int32)
  else
    some (1 : Int32)).bind fun (v44 : Int32) =>
  (zbo v44).bind fun _ =>
  some (v44, h42)
set_option maxRecDepth 100000 in
set_option maxHeartbeats 4000000 in
theorem kX3_cutsToRow (G : Zg) (h : Zh) (this : Option Nat) {x : Int32 × Zh} (hx : fX3_cutsToRow h this = some x) : zCt G yX3_cutsToRow cX3_cutsToRow 5 (Option.some Jvm.ClassFile.FieldType.boolean) 3 [zrv G.2.1 this] h (some (.int x.1)) x.2 := by
  refine z_met (a := x) (rvf := fun (x : Int32 × Zh) => some (.int x.1)) (hff := fun (x : Int32 × Zh) => x.2) (lv := [(0, zrv G.2.1 this)]) (by decide +kernel) (by simp [lg_sl, zcat1, zcI, zcJ]) (by simp [lv_args, zcat1, zcI, zcJ]) ?_ hx
  unfold fX3_cutsToRow
  refine z_iconst (v := 0) dX3_cutsToRow_0 (by decide) ?_
  refine z_istore_n (i := 1) (lv' := [(1, .int (0 : Int32)), (0, zrv G.2.1 this)]) dX3_cutsToRow_1 rfl (by decide) (by simp [zcat1, zcI, zcJ]) ?_
  refine z_at [1, 0] rfl ?_
  refine z_join (pc2 := 33) (lv2 := fun (q : Zh) => [(0, zrv G.2.1 this)]) (st2 := fun _ => []) (h2 := fun (q : Zh) => q) (fun q => ?_) (fun F4 kF4 => ?_)
  · obtain ⟨h3, e0⟩ : ∃ z, z = q := ⟨_, rfl⟩
    subst e0
    try dsimp only
    refine z_iconst (v := 0) dX3_cutsToRow_33 (by decide) ?_
    refine z_istore_n (i := 1) (lv' := [(1, .int (0 : Int32)), (0, zrv G.2.1 this)]) dX3_cutsToRow_34 rfl (by decide) (by simp [zcat1, zcI, zcJ]) ?_
    refine z_at [1, 0] rfl ?_
    refine z_join (pc2 := 130) (lv2 := fun (q : Zh) => [(0, zrv G.2.1 this)]) (st2 := fun _ => []) (h2 := fun (q : Zh) => q) (fun q => ?_) (fun F15 kF15 => ?_)
    · obtain ⟨h14, e0⟩ : ∃ z, z = q := ⟨_, rfl⟩
      subst e0
      try dsimp only
      refine z_aload_n (j := 0) dX3_cutsToRow_130 rfl rfl ?_
      refine z_aload_n (j := 0) dX3_cutsToRow_131 rfl rfl ?_
      refine z_getI (k := 2) dX3_cutsToRow_132 zkl4 (by decide) rfl (.inl zw113) (fun x38 => ?_)
      refine z_ob (fun p39 ep39 lp39 kp39 => ?_)
      refine z_callV (As := [.int x38]) (rest := []) (rv2 := fun (_ : Zh) => none) (h2 := fun (x : Zh) => x) dX3_cutsToRow_135 vX3_partByNear (.inl zw592) (by decide) zkl4 lp39 kp39 rfl (by rw [ep39]; rfl) (by decide) (fun x hx => kX3_partByNear G h14 (some p39) x38 hx) (fun h40 => ?_)
      try dsimp only [Option.toList, List.cons_append, List.nil_append]
      refine z_aload_n (j := 0) dX3_cutsToRow_138 rfl rfl ?_
      refine z_ob (fun p41 ep41 lp41 kp41 => ?_)
      refine z_callV (As := []) (rest := []) (rv2 := fun (_ : Zh) => none) (h2 := fun (x : Zh) => x) dX3_cutsToRow_139 vX3_orderByReach (.inl zw603) (by decide) zkl4 lp41 kp41 rfl (by rw [ep41]; rfl) (by decide) (fun x hx => kX3_orderByReach G h40 (some p41) hx) (fun h42 => ?_)
      try dsimp only [Option.toList, List.cons_append, List.nil_append]
      refine z_aload_n (j := 0) dX3_cutsToRow_142 rfl rfl ?_
      refine z_getI (k := 10) dX3_cutsToRow_143 zkl4 (by decide) rfl (.inl zw123) (fun x43 => ?_)
      refine z_iconst (v := 1) dX3_cutsToRow_146 (by decide) ?_
      refine z_join (pc2 := 155) (lv2 := fun (q : Int32) => []) (st2 := fun (q : Int32) => [.int q]) (h2 := fun (q : Int32) => h42) (fun q => ?_) (fun F45 kF45 => ?_)
      · obtain ⟨v44, e0⟩ : ∃ z, z = q := ⟨_, rfl⟩
        subst e0
        try dsimp only
        refine z_bo (fun hbb46 => ?_)
        exact z_iret dX3_cutsToRow_155 rfl (by rcases hbb46 with q | q <;> rw [q] <;> rfl) rfl rfl
      · refine z_itb ?_
        refine z_icmp_le (tgt := 154) dX3_cutsToRow_147 (by decide) (fun _ => ?_) (fun _ => ?_)
        · refine z_iconst (v := 0) dX3_cutsToRow_154 (by decide) ?_
          refine z_sb ?_
          refine z_at [] rfl ?_
          exact kF45 (0 : Int32)
        · refine z_iconst (v := 1) dX3_cutsToRow_150 (by decide) ?_
          refine z_goto (tgt := 155) dX3_cutsToRow_151 (by decide) ?_
          refine z_sb ?_
          refine z_at [] rfl ?_
          exact kF45 (1 : Int32)
    · refine z_loop (lvf := fun (q : Int32 × Zh) => [(0, zrv G.2.1 this), (1, .int q.1)]) (hf2 := fun (q : Int32 × Zh) => q.2) (s0 := ((0 : Int32), h3)) (fun K16 bK16 rK16 q => ?_)
      obtain ⟨v12, h13⟩ := q
      try dsimp only
      refine z_iload_n (j := 1) dX3_cutsToRow_35 rfl rfl ?_
      refine z_bipush (v := 12) dX3_cutsToRow_36 (by decide) ?_
      refine z_itb ?_
      refine z_icmp_ge (tgt := 130) dX3_cutsToRow_38 (by decide) (fun _ => ?_) (fun _ => ?_)
      · refine z_sb ?_
        refine z_eq (rK16 _) ?_
        refine z_at [0] rfl ?_
        exact kF15 h13
      · refine z_aload_n (j := 0) dX3_cutsToRow_41 rfl rfl ?_
        refine z_as ?_
        refine z_getP (k := 7) dX3_cutsToRow_42 zkl4 (by decide) rfl (.inl zw119) (fun r17 => ?_)
        refine z_iload_n (j := 1) dX3_cutsToRow_45 rfl rfl ?_
        refine z_iconst (v := 0) dX3_cutsToRow_46 (by decide) ?_
        refine z_as ?_
        refine z_iast dX3_cutsToRow_47 (fun h18 => ?_)
        refine z_iconst (v := 0) dX3_cutsToRow_48 (by decide) ?_
        refine z_istore_n (i := 2) (lv' := [(2, .int (0 : Int32)), (0, zrv G.2.1 this), (1, .int v12)]) dX3_cutsToRow_49 rfl (by decide) rfl ?_
        refine z_as ?_
        refine z_at [1, 2, 0] rfl ?_
        refine z_join (pc2 := 124) (lv2 := fun (q : Zh) => [(0, zrv G.2.1 this), (1, .int v12)]) (st2 := fun _ => []) (h2 := fun (q : Zh) => q) (fun q => ?_) (fun F22 kF22 => ?_)
        · obtain ⟨h21, e0⟩ : ∃ z, z = q := ⟨_, rfl⟩
          subst e0
          try dsimp only
          refine z_iinc (j := 1) (v := v12 + (1 : Int32)) (lv' := [(1, .int (v12 + (1 : Int32))), (0, zrv G.2.1 this)]) dX3_cutsToRow_124 rfl rfl (by decide) (by simp [zcat1, zcI, zcJ]) ?_
          refine z_goto (tgt := 35) dX3_cutsToRow_127 (by decide) ?_
          refine z_sb ?_
          refine z_at [1, 0] rfl ?_
          exact bK16 (v12 + (1 : Int32), h21)
        · refine z_loop (lvf := fun (q : Int32 × Zh) => [(0, zrv G.2.1 this), (1, .int v12), (2, .int q.1)]) (hf2 := fun (q : Int32 × Zh) => q.2) (s0 := ((0 : Int32), h18)) (fun K23 bK23 rK23 q => ?_)
          obtain ⟨v19, h20⟩ := q
          try dsimp only
          refine z_iload_n (j := 2) dX3_cutsToRow_50 rfl rfl ?_
          refine z_bipush (v := 12) dX3_cutsToRow_51 (by decide) ?_
          refine z_itb ?_
          refine z_icmp_ge (tgt := 124) dX3_cutsToRow_53 (by decide) (fun _ => ?_) (fun _ => ?_)
          · refine z_sb ?_
            refine z_eq (rK23 _) ?_
            refine z_at [0, 1] rfl ?_
            exact kF22 h20
          · refine z_aload_n (j := 0) dX3_cutsToRow_56 rfl rfl ?_
            refine z_as ?_
            refine z_getP (k := 8) dX3_cutsToRow_57 zkl4 (by decide) rfl (.inl zw120) (fun r24 => ?_)
            refine z_iload_n (j := 1) dX3_cutsToRow_60 rfl rfl ?_
            refine z_as ?_
            refine z_iald dX3_cutsToRow_61 (fun x25 => ?_)
            refine z_iconst (v := 1) dX3_cutsToRow_62 (by decide) ?_
            refine z_iload_n (j := 2) dX3_cutsToRow_63 rfl rfl ?_
            refine z_ishl dX3_cutsToRow_64 ?_
            refine z_iand dX3_cutsToRow_65 ?_
            refine z_as ?_
            refine z_join (pc2 := 74) (lv2 := fun (q : Int32) => [(0, zrv G.2.1 this), (1, .int v12), (2, .int v19)]) (st2 := fun (q : Int32) => [.int q]) (h2 := fun (q : Int32) => h20) (fun q => ?_) (fun F27 kF27 => ?_)
            · obtain ⟨v26, e0⟩ : ∃ z, z = q := ⟨_, rfl⟩
              subst e0
              try dsimp only
              refine z_istore_n (i := 3) (lv' := [(3, .int v26), (0, zrv G.2.1 this), (1, .int v12), (2, .int v19)]) dX3_cutsToRow_74 rfl (by decide) rfl ?_
              refine z_aload_n (j := 1) dX3_cutsToRow_75 rfl rfl ?_
              refine z_as ?_
              refine z_getP (k := 8) dX3_cutsToRow_76 zkl4 (by decide) rfl (.inl zw120) (fun r28 => ?_)
              refine z_iload_n (j := 3) dX3_cutsToRow_79 rfl rfl ?_
              refine z_as ?_
              refine z_iald dX3_cutsToRow_80 (fun x29 => ?_)
              refine z_iconst (v := 1) dX3_cutsToRow_81 (by decide) ?_
              refine z_iload_n (j := 2) dX3_cutsToRow_82 rfl rfl ?_
              refine z_ishl dX3_cutsToRow_83 ?_
              refine z_iand dX3_cutsToRow_84 ?_
              refine z_as ?_
              refine z_join (pc2 := 93) (lv2 := fun (q : Int32) => [(0, zrv G.2.1 this), (1, .int v12), (2, .int v19), (3, .int v26)]) (st2 := fun (q : Int32) => [.int q]) (h2 := fun (q : Int32) => h20) (fun q => ?_) (fun F31 kF31 => ?_)
              · obtain ⟨v30, e0⟩ : ∃ z, z = q := ⟨_, rfl⟩
                subst e0
                try dsimp only
                refine z_istore (i := 4) (lv' := [(4, .int v30), (0, zrv G.2.1 this), (1, .int v12), (2, .int v19), (3, .int v26)]) dX3_cutsToRow_93 (by decide) rfl ?_
                refine z_iload_n (j := 4) dX3_cutsToRow_95 rfl rfl ?_
                refine z_iload (j := 0) dX3_cutsToRow_96 rfl ?_
                refine z_as ?_
                refine z_join (pc2 := 118) (lv2 := fun (q : Zh) => [(0, zrv G.2.1 this), (1, .int v12), (2, .int v19)]) (st2 := fun (q : Zh) => []) (h2 := fun (q : Zh) => q) (fun q => ?_) (fun F33 kF33 => ?_)
                · obtain ⟨h32, e0⟩ : ∃ z, z = q := ⟨_, rfl⟩
                  subst e0
                  try dsimp only
                  refine z_iinc (j := 2) (v := v19 + (1 : Int32)) (lv' := [(2, .int (v19 + (1 : Int32))), (0, zrv G.2.1 this), (1, .int v12)]) dX3_cutsToRow_118 rfl rfl (by decide) rfl ?_
                  refine z_goto (tgt := 50) dX3_cutsToRow_121 (by decide) ?_
                  refine z_sb ?_
                  refine z_at [1, 2, 0] rfl ?_
                  exact bK23 (v19 + (1 : Int32), h32)
                · refine z_itb ?_
                  refine z_icmp_ne (tgt := 118) dX3_cutsToRow_98 (by decide) (fun _ => ?_) (fun _ => ?_)
                  · refine z_aload_n (j := 1) dX3_cutsToRow_101 rfl rfl ?_
                    refine z_as ?_
                    refine z_getP (k := 7) dX3_cutsToRow_102 zkl4 (by decide) rfl (.inl zw119) (fun r34 => ?_)
                    refine z_iload_n (j := 2) dX3_cutsToRow_105 rfl rfl ?_
                    refine z_dup2 dX3_cutsToRow_106 rfl (zcat1 _ _) ?_
                    refine z_as ?_
                    refine z_iald dX3_cutsToRow_107 (fun x35 => ?_)
                    refine z_aload_n (j := 1) dX3_cutsToRow_108 rfl rfl ?_
                    refine z_as ?_
                    refine z_getI (k := 2) dX3_cutsToRow_109 zkl4 (by decide) rfl (.inl zw113) (fun x36 => ?_)
                    refine z_iconst (v := 1) dX3_cutsToRow_112 (by decide) ?_
                    refine z_iload_n (j := 3) dX3_cutsToRow_113 rfl rfl ?_
                    refine z_ishl dX3_cutsToRow_114 ?_
                    refine z_iand dX3_cutsToRow_115 ?_
                    refine z_ior dX3_cutsToRow_116 ?_
                    refine z_as ?_
                    refine z_iast dX3_cutsToRow_117 (fun h37 => ?_)
                    refine z_sb ?_
                    refine z_at [1, 2, 3] rfl ?_
                    exact kF33 h37
                  · refine z_sb ?_
                    refine z_at [1, 2, 3] rfl ?_
                    exact kF33 h20
              · refine z_itb ?_
                refine z_if_eq (tgt := 92) dX3_cutsToRow_85 (by decide) (fun _ => ?_) (fun _ => ?_)
                · refine z_iconst (v := 0) dX3_cutsToRow_92 (by decide) ?_
                  refine z_sb ?_
                  refine z_at [1, 2, 3, 0] rfl ?_
                  exact kF31 (0 : Int32)
                · refine z_iconst (v := 1) dX3_cutsToRow_88 (by decide) ?_
                  refine z_goto (tgt := 93) dX3_cutsToRow_89 (by decide) ?_
                  refine z_sb ?_
                  refine z_at [1, 2, 3, 0] rfl ?_
                  exact kF31 (1 : Int32)
            · refine z_itb ?_
              refine z_if_eq (tgt := 73) dX3_cutsToRow_66 (by decide) (fun _ => ?_) (fun _ => ?_)
              · refine z_iconst (v := 0) dX3_cutsToRow_73 (by decide) ?_
                refine z_sb ?_
                refine z_at [0, 1, 2] rfl ?_
                exact kF27 (0 : Int32)
              · refine z_iconst (v := 1) dX3_cutsToRow_69 (by decide) ?_
                refine z_goto (tgt := 74) dX3_cutsToRow_70 (by decide) ?_
                refine z_sb ?_
                refine z_at [0, 1, 2] rfl ?_
                exact kF27 (1 : Int32)
  · refine z_loop (lvf := fun (q : Int32 × Zh) => [(0, zrv G.2.1 this), (1, .int q.1)]) (hf2 := fun (q : Int32 × Zh) => q.2) (s0 := ((0 : Int32), h)) (fun K5 bK5 rK5 q => ?_)
    obtain ⟨v1, h2⟩ := q
    try dsimp only
    refine z_iload_n (j := 1) dX3_cutsToRow_2 rfl rfl ?_
    refine z_bipush (v := 12) dX3_cutsToRow_3 (by decide) ?_
    refine z_itb ?_
    refine z_icmp_ge (tgt := 33) dX3_cutsToRow_5 (by decide) (fun _ => ?_) (fun _ => ?_)
    · refine z_sb ?_
      refine z_eq (rK5 _) ?_
      refine z_at [0] rfl ?_
      exact kF4 h2
    · refine z_aload_n (j := 0) dX3_cutsToRow_8 rfl rfl ?_
      refine z_as ?_
      refine z_getP (k := 8) dX3_cutsToRow_9 zkl4 (by decide) rfl (.inl zw120) (fun r6 => ?_)
      refine z_iload_n (j := 1) dX3_cutsToRow_12 rfl rfl ?_
      refine z_aload_n (j := 0) dX3_cutsToRow_13 rfl rfl ?_
      refine z_as ?_
      refine z_getP (k := 5) dX3_cutsToRow_14 zkl4 (by decide) rfl (.inl zw117) (fun r7 => ?_)
      refine z_iload_n (j := 1) dX3_cutsToRow_17 rfl rfl ?_
      refine z_as ?_
      refine z_iald dX3_cutsToRow_18 (fun x8 => ?_)
      refine z_aload_n (j := 0) dX3_cutsToRow_19 rfl rfl ?_
      refine z_as ?_
      refine z_getP (k := 5) dX3_cutsToRow_20 zkl4 (by decide) rfl (.inl zw117) (fun r9 => ?_)
      refine z_as ?_
      refine z_callS (As := [.int x8, zrv G.2.1 r9]) (rest := [.int v1, zrv G.2.1 r6]) (rv2 := fun (x : Int32) => some (.int x)) (h2 := fun (_ : Int32) => h2) dX3_cutsToRow_23 vX3_closed (.inl zw596) (by decide) rfl rfl (by simp [zcat1, zcI, zcJ]) (fun x hx => kX3_closed G h2 x8 r9 hx) (fun x10 => ?_)
      try dsimp only [Option.toList, List.cons_append, List.nil_append]
      refine z_as ?_
      refine z_iast dX3_cutsToRow_26 (fun h11 => ?_)
      refine z_iinc (j := 1) (v := v1 + (1 : Int32)) (lv' := [(1, .int (v1 + (1 : Int32))), (0, zrv G.2.1 this)]) dX3_cutsToRow_27 rfl rfl (by decide) (by simp [zcat1, zcI, zcJ]) ?_
      refine z_goto (tgt := 2) dX3_cutsToRow_30 (by decide) ?_
      refine z_sb ?_
      refine z_at [1, 0] rfl ?_
      exact bK5 (v1 + (1 : Int32), h11)
def fX3_cutsToBeside (h : Zh) (this : Option Nat) : Option (Int32 × Zh) :=
  (zloop (fun ((v1, h2) : Int32 × Zh) =>
    (if (12 : Int32) ≤ v1 then
      some (.inr h2)
    else
      (zfP h2 this 4 7).bind fun r6 =>
      (zfI h2 this 4 2).bind fun x7 =>
      (zfP h2 this 4 5).bind fun r8 =>
      (zaI h2 r8 v1).bind fun x9 =>
      (zfP h2 this 4 6).bind fun r10 =>
      (zaI h2 r10 v1).bind fun x11 =>
      (zbI h2 r6 v1 (x7 &&& ((x9 &&& x11) ^^^ (-1 : Int32)))).bind fun h12 =>
      some (.inl (v1 + (1 : Int32), h12)) : Option ((Int32 × Zh) ⊕ Zh))) zFU ((0 : Int32), h)).bind fun (h3 : Zh) =>
  (zfI h3 this 4 2).bind fun x13 =>
  (zob h3 this 5).bind fun p14 =>
  (fX3_partByNear h3 (some p14) x13).bind fun h15 =>
  (zloop (fun (v16 : Int32) =>
    ((zfI h15 this 4 10).bind fun x19 =>
    if x19 ≤ v16 then
      some (.inr (.inl ()))
    else
      (zfP h15 this 4 9).bind fun r20 =>
      (zaI h15 r20 v16).bind fun x21 =>
      (zfI h15 this 4 3).bind fun x22 =>
      if (x21 &&& x22) = 0 then
        some (.inr (.inr ((0 : Int32), h15)))
      else
        (zfP h15 this 4 9).bind fun r23 =>
        (zaI h15 r23 v16).bind fun x24 =>
        (zfI h15 this 4 4).bind fun x25 =>
        if (x24 &&& x25) = 0 then
          some (.inr (.inr ((0 : Int32), h15)))
        else
          some (.inl (v16 + (1 : Int32))) : Option (Int32 ⊕ (Unit ⊕ (Int32 × Zh))))) zFU (0 : Int32)).bind fun (q : (Unit ⊕ (Int32 × Zh))) => match q with
  | .inr t => some t
  | .inl u =>
    (zfI h15 this 4 10).bind fun x26 =>
    (if x26 ≤ (1 : Int32) then
      some (0 : Int32)
    else
      some (1 : Int32)).bind fun (v27 : Int32) =>
    (zbo v27).bind fun _ =>
    some (v27, h15)
set_option maxRecDepth 100000 in
set_option maxHeartbeats 4000000 in
theorem kX3_cutsToBeside (G : Zg) (h : Zh) (this : Option Nat) {x : Int32 × Zh} (hx : fX3_cutsToBeside h this = some x) : zCt G yX3_cutsToBeside cX3_cutsToBeside 2 (Option.some Jvm.ClassFile.FieldType.boolean) 3 [zrv G.2.1 this] h (some (.int x.1)) x.2 := by
  refine z_met (a := x) (rvf := fun (x : Int32 × Zh) => some (.int x.1)) (hff := fun (x : Int32 × Zh) => x.2) (lv := [(0, zrv G.2.1 this)]) (by decide +kernel) (by simp [lg_sl, zcat1, zcI, zcJ]) (by simp [lv_args, zcat1, zcI, zcJ]) ?_ hx
  unfold fX3_cutsToBeside
  refine z_iconst (v := 0) dX3_cutsToBeside_0 (by decide) ?_
  refine z_istore_n (i := 1) (lv' := [(1, .int (0 : Int32)), (0, zrv G.2.1 this)]) dX3_cutsToBeside_1 rfl (by decide) (by simp [zcat1, zcI, zcJ]) ?_
  refine z_at [1, 0] rfl ?_
  refine z_join (pc2 := 40) (lv2 := fun (q : Zh) => [(0, zrv G.2.1 this)]) (st2 := fun _ => []) (h2 := fun (q : Zh) => q) (fun q => ?_) (fun F4 kF4 => ?_)
  · obtain ⟨h3, e0⟩ : ∃ z, z = q := ⟨_, rfl⟩
    subst e0
    try dsimp only
    refine z_aload_n (j := 0) dX3_cutsToBeside_40 rfl rfl ?_
    refine z_aload_n (j := 0) dX3_cutsToBeside_41 rfl rfl ?_
    refine z_getI (k := 2) dX3_cutsToBeside_42 zkl4 (by decide) rfl (.inl zw113) (fun x13 => ?_)
    refine z_ob (fun p14 ep14 lp14 kp14 => ?_)
    refine z_callV (As := [.int x13]) (rest := []) (rv2 := fun (_ : Zh) => none) (h2 := fun (x : Zh) => x) dX3_cutsToBeside_45 vX3_partByNear (.inl zw592) (by decide) zkl4 lp14 kp14 rfl (by rw [ep14]; rfl) (by decide) (fun x hx => kX3_partByNear G h3 (some p14) x13 hx) (fun h15 => ?_)
    try dsimp only [Option.toList, List.cons_append, List.nil_append]
    refine z_iconst (v := 0) dX3_cutsToBeside_48 (by decide) ?_
    refine z_istore_n (i := 1) (lv' := [(1, .int (0 : Int32)), (0, zrv G.2.1 this)]) dX3_cutsToBeside_49 rfl (by decide) (by simp [zcat1, zcI, zcJ]) ?_
    refine z_at [1, 0] rfl ?_
    refine z_joinS (pc2 := 94) (lv2 := fun (q : Unit) => [(0, zrv G.2.1 this)]) (st2 := fun _ => []) (h2 := fun (q : Unit) => h15) (fun q => ?_) (fun _ => rfl) (fun F17 kF17 tF17 => ?_)
    · obtain ⟨u, e0⟩ : ∃ z, z = q := ⟨_, rfl⟩
      subst e0
      try dsimp only
      refine z_aload_n (j := 0) dX3_cutsToBeside_94 rfl rfl ?_
      refine z_getI (k := 10) dX3_cutsToBeside_95 zkl4 (by decide) rfl (.inl zw123) (fun x26 => ?_)
      refine z_iconst (v := 1) dX3_cutsToBeside_98 (by decide) ?_
      refine z_join (pc2 := 107) (lv2 := fun (q : Int32) => []) (st2 := fun (q : Int32) => [.int q]) (h2 := fun (q : Int32) => h15) (fun q => ?_) (fun F28 kF28 => ?_)
      · obtain ⟨v27, e0⟩ : ∃ z, z = q := ⟨_, rfl⟩
        subst e0
        try dsimp only
        refine z_bo (fun hbb29 => ?_)
        exact z_iret dX3_cutsToBeside_107 rfl (by rcases hbb29 with q | q <;> rw [q] <;> rfl) rfl rfl
      · refine z_itb ?_
        refine z_icmp_le (tgt := 106) dX3_cutsToBeside_99 (by decide) (fun _ => ?_) (fun _ => ?_)
        · refine z_iconst (v := 0) dX3_cutsToBeside_106 (by decide) ?_
          refine z_sb ?_
          refine z_at [] rfl ?_
          exact kF28 (0 : Int32)
        · refine z_iconst (v := 1) dX3_cutsToBeside_102 (by decide) ?_
          refine z_goto (tgt := 107) dX3_cutsToBeside_103 (by decide) ?_
          refine z_sb ?_
          refine z_at [] rfl ?_
          exact kF28 (1 : Int32)
    · refine z_loop (lvf := fun (q : Int32) => [(0, zrv G.2.1 this), (1, .int q)]) (hf2 := fun (q : Int32) => h15) (s0 := (0 : Int32)) (fun K18 bK18 rK18 q => ?_)
      obtain ⟨v16, e0⟩ : ∃ z, z = q := ⟨_, rfl⟩
      subst e0
      try dsimp only
      refine z_iload_n (j := 1) dX3_cutsToBeside_50 rfl rfl ?_
      refine z_aload_n (j := 0) dX3_cutsToBeside_51 rfl rfl ?_
      refine z_as ?_
      refine z_getI (k := 10) dX3_cutsToBeside_52 zkl4 (by decide) rfl (.inl zw123) (fun x19 => ?_)
      refine z_itb ?_
      refine z_icmp_ge (tgt := 94) dX3_cutsToBeside_55 (by decide) (fun _ => ?_) (fun _ => ?_)
      · refine z_sb ?_
        refine z_eq (rK18 _) ?_
        refine z_at [0] rfl ?_
        exact kF17 ()
      · refine z_aload_n (j := 0) dX3_cutsToBeside_58 rfl rfl ?_
        refine z_as ?_
        refine z_getP (k := 9) dX3_cutsToBeside_59 zkl4 (by decide) rfl (.inl zw121) (fun r20 => ?_)
        refine z_iload_n (j := 1) dX3_cutsToBeside_62 rfl rfl ?_
        refine z_as ?_
        refine z_iald dX3_cutsToBeside_63 (fun x21 => ?_)
        refine z_aload_n (j := 0) dX3_cutsToBeside_64 rfl rfl ?_
        refine z_as ?_
        refine z_getI (k := 3) dX3_cutsToBeside_65 zkl4 (by decide) rfl (.inl zw115) (fun x22 => ?_)
        refine z_iand dX3_cutsToBeside_68 ?_
        refine z_itb ?_
        refine z_if_eq (tgt := 86) dX3_cutsToBeside_69 (by decide) (fun _ => ?_) (fun _ => ?_)
        · refine z_iconst (v := 0) dX3_cutsToBeside_86 (by decide) ?_
          refine z_sb ?_
          refine z_eq (rK18 _) ?_
          refine z_eq (tF17 _) ?_
          exact z_iret dX3_cutsToBeside_87 rfl rfl rfl rfl
        · refine z_aload_n (j := 0) dX3_cutsToBeside_72 rfl rfl ?_
          refine z_as ?_
          refine z_getP (k := 9) dX3_cutsToBeside_73 zkl4 (by decide) rfl (.inl zw121) (fun r23 => ?_)
          refine z_iload_n (j := 1) dX3_cutsToBeside_76 rfl rfl ?_
          refine z_as ?_
          refine z_iald dX3_cutsToBeside_77 (fun x24 => ?_)
          refine z_aload_n (j := 0) dX3_cutsToBeside_78 rfl rfl ?_
          refine z_as ?_
          refine z_getI (k := 4) dX3_cutsToBeside_79 zkl4 (by decide) rfl (.inl zw116) (fun x25 => ?_)
          refine z_iand dX3_cutsToBeside_82 ?_
          refine z_itb ?_
          refine z_if_ne (tgt := 88) dX3_cutsToBeside_83 (by decide) (fun _ => ?_) (fun _ => ?_)
          · refine z_iconst (v := 0) dX3_cutsToBeside_86 (by decide) ?_
            refine z_sb ?_
            refine z_eq (rK18 _) ?_
            refine z_eq (tF17 _) ?_
            exact z_iret dX3_cutsToBeside_87 rfl rfl rfl rfl
          · refine z_iinc (j := 1) (v := v16 + (1 : Int32)) (lv' := [(1, .int (v16 + (1 : Int32))), (0, zrv G.2.1 this)]) dX3_cutsToBeside_88 rfl rfl (by decide) (by simp [zcat1, zcI, zcJ]) ?_
            refine z_goto (tgt := 50) dX3_cutsToBeside_91 (by decide) ?_
            refine z_sb ?_
            refine z_at [1, 0] rfl ?_
            exact bK18 (v16 + (1 : Int32))
  · refine z_loop (lvf := fun (q : Int32 × Zh) => [(0, zrv G.2.1 this), (1, .int q.1)]) (hf2 := fun (q : Int32 × Zh) => q.2) (s0 := ((0 : Int32), h)) (fun K5 bK5 rK5 q => ?_)
    obtain ⟨v1, h2⟩ := q
    try dsimp only
    refine z_iload_n (j := 1) dX3_cutsToBeside_2 rfl rfl ?_
    refine z_bipush (v := 12) dX3_cutsToBeside_3 (by decide) ?_
    refine z_itb ?_
    refine z_icmp_ge (tgt := 40) dX3_cutsToBeside_5 (by decide) (fun _ => ?_) (fun _ => ?_)
    · refine z_sb ?_
      refine z_eq (rK5 _) ?_
      refine z_at [0] rfl ?_
      exact kF4 h2
    · refine z_aload_n (j := 0) dX3_cutsToBeside_8 rfl rfl ?_
      refine z_as ?_
      refine z_getP (k := 7) dX3_cutsToBeside_9 zkl4 (by decide) rfl (.inl zw119) (fun r6 => ?_)
      refine z_iload_n (j := 1) dX3_cutsToBeside_12 rfl rfl ?_
      refine z_aload_n (j := 0) dX3_cutsToBeside_13 rfl rfl ?_
      refine z_as ?_
      refine z_getI (k := 2) dX3_cutsToBeside_14 zkl4 (by decide) rfl (.inl zw113) (fun x7 => ?_)
      refine z_aload_n (j := 0) dX3_cutsToBeside_17 rfl rfl ?_
      refine z_as ?_
      refine z_getP (k := 5) dX3_cutsToBeside_18 zkl4 (by decide) rfl (.inl zw117) (fun r8 => ?_)
      refine z_iload_n (j := 1) dX3_cutsToBeside_21 rfl rfl ?_
      refine z_as ?_
      refine z_iald dX3_cutsToBeside_22 (fun x9 => ?_)
      refine z_aload_n (j := 0) dX3_cutsToBeside_23 rfl rfl ?_
      refine z_as ?_
      refine z_getP (k := 6) dX3_cutsToBeside_24 zkl4 (by decide) rfl (.inl zw118) (fun r10 => ?_)
      refine z_iload_n (j := 1) dX3_cutsToBeside_27 rfl rfl ?_
      refine z_as ?_
      refine z_iald dX3_cutsToBeside_28 (fun x11 => ?_)
      refine z_iand dX3_cutsToBeside_29 ?_
      refine z_iconst (v := -1) dX3_cutsToBeside_30 (by decide) ?_
      refine z_ixor dX3_cutsToBeside_31 ?_
      refine z_iand dX3_cutsToBeside_32 ?_
      refine z_as ?_
      refine z_iast dX3_cutsToBeside_33 (fun h12 => ?_)
      refine z_iinc (j := 1) (v := v1 + (1 : Int32)) (lv' := [(1, .int (v1 + (1 : Int32))), (0, zrv G.2.1 this)]) dX3_cutsToBeside_34 rfl rfl (by decide) (by simp [zcat1, zcI, zcJ]) ?_
      refine z_goto (tgt := 2) dX3_cutsToBeside_37 (by decide) ?_
      refine z_sb ?_
      refine z_at [1, 0] rfl ?_
      exact bK5 (v1 + (1 : Int32), h12)
def fX3_someNotAll (h : Zh) (a1 : Int32) (a2 : Int32) : Option (Int32) :=
  (if (a1 &&& a2) = 0 then
    some (0 : Int32)
  else
    if (a1 &&& a2) = a2 then
      some (0 : Int32)
    else
      some (1 : Int32)).bind fun (v1 : Int32) =>
  (zbo v1).bind fun _ =>
  some v1
set_option maxRecDepth 100000 in
set_option maxHeartbeats 4000000 in
theorem kX3_someNotAll (G : Zg) (h : Zh) (a1 : Int32) (a2 : Int32) {x : Int32} (hx : fX3_someNotAll h a1 a2 = some x) : zCt G yX3_someNotAll cX3_someNotAll 2 (Option.some Jvm.ClassFile.FieldType.boolean) 1 [.int a1, .int a2] h (some (.int x)) h := by
  refine z_met (a := x) (rvf := fun (x : Int32) => some (.int x)) (hff := fun (_ : Int32) => h) (lv := [(0, .int a1), (1, .int a2)]) (by decide +kernel) (by simp [lg_sl, zcat1, zcI, zcJ]) (by simp [lv_args, zcat1, zcI, zcJ]) ?_ hx
  unfold fX3_someNotAll
  refine z_iload_n (j := 0) dX3_someNotAll_0 rfl rfl ?_
  refine z_iload_n (j := 1) dX3_someNotAll_1 rfl rfl ?_
  refine z_iand dX3_someNotAll_2 ?_
  refine z_join (pc2 := 18) (lv2 := fun (q : Int32) => []) (st2 := fun (q : Int32) => [.int q]) (h2 := fun (q : Int32) => h) (fun q => ?_) (fun F2 kF2 => ?_)
  · obtain ⟨v1, e0⟩ : ∃ z, z = q := ⟨_, rfl⟩
    subst e0
    try dsimp only
    refine z_bo (fun hbb3 => ?_)
    exact z_iret dX3_someNotAll_18 rfl (by rcases hbb3 with q | q <;> rw [q] <;> rfl) rfl rfl
  · refine z_itb ?_
    refine z_if_eq (tgt := 17) dX3_someNotAll_3 (by decide) (fun _ => ?_) (fun _ => ?_)
    · refine z_iconst (v := 0) dX3_someNotAll_17 (by decide) ?_
      refine z_sb ?_
      refine z_at [] rfl ?_
      exact kF2 (0 : Int32)
    · refine z_iload_n (j := 0) dX3_someNotAll_6 rfl rfl ?_
      refine z_iload_n (j := 1) dX3_someNotAll_7 rfl rfl ?_
      refine z_iand dX3_someNotAll_8 ?_
      refine z_iload_n (j := 1) dX3_someNotAll_9 rfl rfl ?_
      refine z_itb ?_
      refine z_icmp_eq (tgt := 17) dX3_someNotAll_10 (by decide) (fun _ => ?_) (fun _ => ?_)
      · refine z_iconst (v := 0) dX3_someNotAll_17 (by decide) ?_
        refine z_sb ?_
        refine z_at [] rfl ?_
        exact kF2 (0 : Int32)
      · refine z_iconst (v := 1) dX3_someNotAll_13 (by decide) ?_
        refine z_goto (tgt := 18) dX3_someNotAll_14 (by decide) ?_
        refine z_sb ?_
        refine z_at [] rfl ?_
        exact kF2 (1 : Int32)
def fX3_goesTo (h : Zh) (this : Option Nat) (a1 : Int32) (a2 : Int32) : Option (Int32) :=
  (zloop (fun (v1 : Int32) =>
    (if (12 : Int32) ≤ v1 then
      some (.inr (.inl ()))
    else
      if (a2 &&& ((1 : Int32) <<< (v1 &&& 31))) = 0 then
        some (.inl (v1 + (1 : Int32)))
      else
        (zfP h this 4 6).bind fun r4 =>
        (zaI h r4 v1).bind fun x5 =>
        (zfI h this 4 4).bind fun x6 =>
        if ((x5 &&& a1) &&& (x6 ^^^ (-1 : Int32))) = 0 then
          (zfP h this 4 5).bind fun r7 =>
          (zaI h r7 v1).bind fun x8 =>
          (zfI h this 4 3).bind fun x9 =>
          if ((x8 &&& a1) &&& (x9 ^^^ (-1 : Int32))) = 0 then
            (zfP h this 4 6).bind fun r10 =>
            (zaI h r10 v1).bind fun x11 =>
            (zfI h this 4 4).bind fun x12 =>
            (fX3_someNotAll h x11 x12).bind fun x13 =>
            if x13 = 0 then
              (zfP h this 4 5).bind fun r14 =>
              (zaI h r14 v1).bind fun x15 =>
              (zfI h this 4 3).bind fun x16 =>
              (fX3_someNotAll h x15 x16).bind fun x17 =>
              if x17 = 0 then
                some (.inl (v1 + (1 : Int32)))
              else
                some (.inr (.inr (1 : Int32)))
            else
              some (.inr (.inr (1 : Int32)))
          else
            some (.inr (.inr (1 : Int32)))
        else
          some (.inr (.inr (1 : Int32))) : Option (Int32 ⊕ (Unit ⊕ Int32)))) zFU (0 : Int32)).bind fun (q : (Unit ⊕ Int32)) => match q with
  | .inr t => some t
  | .inl u =>
    some (0 : Int32)
set_option maxRecDepth 100000 in
set_option maxHeartbeats 4000000 in
theorem kX3_goesTo (G : Zg) (h : Zh) (this : Option Nat) (a1 : Int32) (a2 : Int32) {x : Int32} (hx : fX3_goesTo h this a1 a2 = some x) : zCt G yX3_goesTo cX3_goesTo 4 (Option.some Jvm.ClassFile.FieldType.boolean) 2 [zrv G.2.1 this, .int a1, .int a2] h (some (.int x)) h := by
  refine z_met (a := x) (rvf := fun (x : Int32) => some (.int x)) (hff := fun (_ : Int32) => h) (lv := [(0, zrv G.2.1 this), (1, .int a1), (2, .int a2)]) (by decide +kernel) (by simp [lg_sl, zcat1, zcI, zcJ]) (by simp [lv_args, zcat1, zcI, zcJ]) ?_ hx
  unfold fX3_goesTo
  refine z_iconst (v := 0) dX3_goesTo_0 (by decide) ?_
  refine z_istore_n (i := 3) (lv' := [(3, .int (0 : Int32)), (0, zrv G.2.1 this), (1, .int a1), (2, .int a2)]) dX3_goesTo_1 rfl (by decide) rfl ?_
  refine z_at [1, 2, 3, 0] rfl ?_
  refine z_joinS (pc2 := 99) (lv2 := fun (q : Unit) => []) (st2 := fun _ => []) (h2 := fun (q : Unit) => h) (fun q => ?_) (fun _ => rfl) (fun F2 kF2 tF2 => ?_)
  · obtain ⟨u, e0⟩ : ∃ z, z = q := ⟨_, rfl⟩
    subst e0
    try dsimp only
    refine z_iconst (v := 0) dX3_goesTo_99 (by decide) ?_
    exact z_iret dX3_goesTo_100 rfl rfl rfl rfl
  · refine z_loop (lvf := fun (q : Int32) => [(0, zrv G.2.1 this), (1, .int a1), (2, .int a2), (3, .int q)]) (hf2 := fun (q : Int32) => h) (s0 := (0 : Int32)) (fun K3 bK3 rK3 q => ?_)
    obtain ⟨v1, e0⟩ : ∃ z, z = q := ⟨_, rfl⟩
    subst e0
    try dsimp only
    refine z_iload_n (j := 3) dX3_goesTo_2 rfl rfl ?_
    refine z_bipush (v := 12) dX3_goesTo_3 (by decide) ?_
    refine z_itb ?_
    refine z_icmp_ge (tgt := 99) dX3_goesTo_5 (by decide) (fun _ => ?_) (fun _ => ?_)
    · refine z_sb ?_
      refine z_eq (rK3 _) ?_
      refine z_at [] rfl ?_
      exact kF2 ()
    · refine z_iload_n (j := 2) dX3_goesTo_8 rfl rfl ?_
      refine z_iconst (v := 1) dX3_goesTo_9 (by decide) ?_
      refine z_iload_n (j := 3) dX3_goesTo_10 rfl rfl ?_
      refine z_ishl dX3_goesTo_11 ?_
      refine z_iand dX3_goesTo_12 ?_
      refine z_itb ?_
      refine z_if_ne (tgt := 19) dX3_goesTo_13 (by decide) (fun _ => ?_) (fun _ => ?_)
      · refine z_goto (tgt := 93) dX3_goesTo_16 (by decide) ?_
        refine z_iinc (j := 3) (v := v1 + (1 : Int32)) (lv' := [(3, .int (v1 + (1 : Int32))), (0, zrv G.2.1 this), (1, .int a1), (2, .int a2)]) dX3_goesTo_93 rfl rfl (by decide) rfl ?_
        refine z_goto (tgt := 2) dX3_goesTo_96 (by decide) ?_
        refine z_sb ?_
        refine z_at [1, 2, 3, 0] rfl ?_
        exact bK3 (v1 + (1 : Int32))
      · refine z_aload_n (j := 0) dX3_goesTo_19 rfl rfl ?_
        refine z_as ?_
        refine z_getP (k := 6) dX3_goesTo_20 zkl4 (by decide) rfl (.inl zw118) (fun r4 => ?_)
        refine z_iload_n (j := 3) dX3_goesTo_23 rfl rfl ?_
        refine z_as ?_
        refine z_iald dX3_goesTo_24 (fun x5 => ?_)
        refine z_iload_n (j := 1) dX3_goesTo_25 rfl rfl ?_
        refine z_iand dX3_goesTo_26 ?_
        refine z_aload_n (j := 0) dX3_goesTo_27 rfl rfl ?_
        refine z_as ?_
        refine z_getI (k := 4) dX3_goesTo_28 zkl4 (by decide) rfl (.inl zw116) (fun x6 => ?_)
        refine z_iconst (v := -1) dX3_goesTo_31 (by decide) ?_
        refine z_ixor dX3_goesTo_32 ?_
        refine z_iand dX3_goesTo_33 ?_
        refine z_itb ?_
        refine z_if_eq (tgt := 39) dX3_goesTo_34 (by decide) (fun _ => ?_) (fun _ => ?_)
        · refine z_aload_n (j := 0) dX3_goesTo_39 rfl rfl ?_
          refine z_as ?_
          refine z_getP (k := 5) dX3_goesTo_40 zkl4 (by decide) rfl (.inl zw117) (fun r7 => ?_)
          refine z_iload_n (j := 3) dX3_goesTo_43 rfl rfl ?_
          refine z_as ?_
          refine z_iald dX3_goesTo_44 (fun x8 => ?_)
          refine z_iload_n (j := 1) dX3_goesTo_45 rfl rfl ?_
          refine z_iand dX3_goesTo_46 ?_
          refine z_aload_n (j := 0) dX3_goesTo_47 rfl rfl ?_
          refine z_as ?_
          refine z_getI (k := 3) dX3_goesTo_48 zkl4 (by decide) rfl (.inl zw115) (fun x9 => ?_)
          refine z_iconst (v := -1) dX3_goesTo_51 (by decide) ?_
          refine z_ixor dX3_goesTo_52 ?_
          refine z_iand dX3_goesTo_53 ?_
          refine z_itb ?_
          refine z_if_eq (tgt := 59) dX3_goesTo_54 (by decide) (fun _ => ?_) (fun _ => ?_)
          · refine z_aload_n (j := 0) dX3_goesTo_59 rfl rfl ?_
            refine z_as ?_
            refine z_getP (k := 6) dX3_goesTo_60 zkl4 (by decide) rfl (.inl zw118) (fun r10 => ?_)
            refine z_iload_n (j := 3) dX3_goesTo_63 rfl rfl ?_
            refine z_as ?_
            refine z_iald dX3_goesTo_64 (fun x11 => ?_)
            refine z_aload_n (j := 0) dX3_goesTo_65 rfl rfl ?_
            refine z_as ?_
            refine z_getI (k := 4) dX3_goesTo_66 zkl4 (by decide) rfl (.inl zw116) (fun x12 => ?_)
            refine z_as ?_
            refine z_callS (As := [.int x11, .int x12]) (rest := []) (rv2 := fun (x : Int32) => some (.int x)) (h2 := fun (_ : Int32) => h) dX3_goesTo_69 vX3_someNotAll (.inl zw623) (by decide) rfl rfl (by decide) (fun x hx => kX3_someNotAll G h x11 x12 hx) (fun x13 => ?_)
            try dsimp only [Option.toList, List.cons_append, List.nil_append]
            refine z_itb ?_
            refine z_if_ne (tgt := 91) dX3_goesTo_72 (by decide) (fun _ => ?_) (fun _ => ?_)
            · refine z_aload_n (j := 0) dX3_goesTo_75 rfl rfl ?_
              refine z_as ?_
              refine z_getP (k := 5) dX3_goesTo_76 zkl4 (by decide) rfl (.inl zw117) (fun r14 => ?_)
              refine z_iload_n (j := 3) dX3_goesTo_79 rfl rfl ?_
              refine z_as ?_
              refine z_iald dX3_goesTo_80 (fun x15 => ?_)
              refine z_aload_n (j := 0) dX3_goesTo_81 rfl rfl ?_
              refine z_as ?_
              refine z_getI (k := 3) dX3_goesTo_82 zkl4 (by decide) rfl (.inl zw115) (fun x16 => ?_)
              refine z_as ?_
              refine z_callS (As := [.int x15, .int x16]) (rest := []) (rv2 := fun (x : Int32) => some (.int x)) (h2 := fun (_ : Int32) => h) dX3_goesTo_85 vX3_someNotAll (.inl zw623) (by decide) rfl rfl (by decide) (fun x hx => kX3_someNotAll G h x15 x16 hx) (fun x17 => ?_)
              try dsimp only [Option.toList, List.cons_append, List.nil_append]
              refine z_itb ?_
              refine z_if_eq (tgt := 93) dX3_goesTo_88 (by decide) (fun _ => ?_) (fun _ => ?_)
              · refine z_iinc (j := 3) (v := v1 + (1 : Int32)) (lv' := [(3, .int (v1 + (1 : Int32))), (0, zrv G.2.1 this), (1, .int a1), (2, .int a2)]) dX3_goesTo_93 rfl rfl (by decide) rfl ?_
                refine z_goto (tgt := 2) dX3_goesTo_96 (by decide) ?_
                refine z_sb ?_
                refine z_at [1, 2, 3, 0] rfl ?_
                exact bK3 (v1 + (1 : Int32))
              · refine z_iconst (v := 1) dX3_goesTo_91 (by decide) ?_
                refine z_sb ?_
                refine z_eq (rK3 _) ?_
                refine z_eq (tF2 _) ?_
                exact z_iret dX3_goesTo_92 rfl rfl rfl rfl
            · refine z_iconst (v := 1) dX3_goesTo_91 (by decide) ?_
              refine z_sb ?_
              refine z_eq (rK3 _) ?_
              refine z_eq (tF2 _) ?_
              exact z_iret dX3_goesTo_92 rfl rfl rfl rfl
          · refine z_iconst (v := 1) dX3_goesTo_57 (by decide) ?_
            refine z_sb ?_
            refine z_eq (rK3 _) ?_
            refine z_eq (tF2 _) ?_
            exact z_iret dX3_goesTo_58 rfl rfl rfl rfl
        · refine z_iconst (v := 1) dX3_goesTo_37 (by decide) ?_
          refine z_sb ?_
          refine z_eq (rK3 _) ?_
          refine z_eq (tF2 _) ?_
          exact z_iret dX3_goesTo_38 rfl rfl rfl rfl
def fX3_putAhead (h : Zh) (this : Option Nat) (a1 : Int32) : Option (Zh) :=
  (zfI h this 4 10).bind fun x1 =>
  (zfP h this 4 9).bind fun r2 =>
  (zaL h r2 0).bind fun x3 =>
  if x1 < x3 then
    (zfI h this 4 10).bind fun x4 =>
    (zloop (fun ((v5, h6) : Int32 × Zh) =>
      (if v5 ≤ 0 then
        some (.inr h6)
      else
        (zfP h6 this 4 9).bind fun r10 =>
        (zfP h6 this 4 9).bind fun r11 =>
        (zaI h6 r11 (v5 - (1 : Int32))).bind fun x12 =>
        (zbI h6 r10 v5 x12).bind fun h13 =>
        some (.inl (v5 + (-1 : Int32), h13)) : Option ((Int32 × Zh) ⊕ Zh))) zFU (x4, h)).bind fun (h7 : Zh) =>
    (zfP h7 this 4 9).bind fun r14 =>
    (zbI h7 r14 (0 : Int32) a1).bind fun h15 =>
    (zfI h15 this 4 10).bind fun x16 =>
    (zgI h15 this 4 10 (x16 + (1 : Int32))).bind fun h17 =>
    some h17
  else
    some h
set_option maxRecDepth 100000 in
set_option maxHeartbeats 4000000 in
theorem kX3_putAhead (G : Zg) (h : Zh) (this : Option Nat) (a1 : Int32) {x : Zh} (hx : fX3_putAhead h this a1 = some x) : zCt G yX3_putAhead cX3_putAhead 3 (Option.none : Option Jvm.ClassFile.FieldType) 1 [zrv G.2.1 this, .int a1] h none x := by
  refine z_met (a := x) (rvf := fun (_ : Zh) => none) (hff := fun (x : Zh) => x) (lv := [(0, zrv G.2.1 this), (1, .int a1)]) (by decide +kernel) (by simp [lg_sl, zcat1, zcI, zcJ]) (by simp [lv_args, zcat1, zcI, zcJ]) ?_ hx
  unfold fX3_putAhead
  refine z_aload_n (j := 0) dX3_putAhead_0 rfl rfl ?_
  refine z_getI (k := 10) dX3_putAhead_1 zkl4 (by decide) rfl (.inl zw123) (fun x1 => ?_)
  refine z_aload_n (j := 0) dX3_putAhead_4 rfl rfl ?_
  refine z_getP (k := 9) dX3_putAhead_5 zkl4 (by decide) rfl (.inl zw121) (fun r2 => ?_)
  refine z_alen dX3_putAhead_8 (by decide) (fun x3 => ?_)
  refine z_icmp_lt (tgt := 13) dX3_putAhead_9 (by decide) (fun _ => ?_) (fun _ => ?_)
  · refine z_aload_n (j := 0) dX3_putAhead_13 rfl rfl ?_
    refine z_getI (k := 10) dX3_putAhead_14 zkl4 (by decide) rfl (.inl zw123) (fun x4 => ?_)
    refine z_istore_n (i := 2) (lv' := [(2, .int x4), (0, zrv G.2.1 this), (1, .int a1)]) dX3_putAhead_17 rfl (by decide) rfl ?_
    refine z_at [1, 2, 0] rfl ?_
    refine z_join (pc2 := 42) (lv2 := fun (q : Zh) => [(0, zrv G.2.1 this), (1, .int a1)]) (st2 := fun _ => []) (h2 := fun (q : Zh) => q) (fun q => ?_) (fun F8 kF8 => ?_)
    · obtain ⟨h7, e0⟩ : ∃ z, z = q := ⟨_, rfl⟩
      subst e0
      try dsimp only
      refine z_aload_n (j := 0) dX3_putAhead_42 rfl rfl ?_
      refine z_getP (k := 9) dX3_putAhead_43 zkl4 (by decide) rfl (.inl zw121) (fun r14 => ?_)
      refine z_iconst (v := 0) dX3_putAhead_46 (by decide) ?_
      refine z_iload_n (j := 1) dX3_putAhead_47 rfl rfl ?_
      refine z_iast dX3_putAhead_48 (fun h15 => ?_)
      refine z_aload_n (j := 0) dX3_putAhead_49 rfl rfl ?_
      refine z_dup dX3_putAhead_50 (zcat1 _ _) ?_
      refine z_getI (k := 10) dX3_putAhead_51 zkl4 (by decide) rfl (.inl zw123) (fun x16 => ?_)
      refine z_iconst (v := 1) dX3_putAhead_54 (by decide) ?_
      refine z_iadd dX3_putAhead_55 ?_
      refine z_putI (k := 10) dX3_putAhead_56 zkl4 (by decide) (.inl zw123) (.inl rfl) rfl rfl rfl (fun h17 => ?_)
      exact z_vret dX3_putAhead_59 rfl rfl rfl
    · refine z_loop (lvf := fun (q : Int32 × Zh) => [(0, zrv G.2.1 this), (1, .int a1), (2, .int q.1)]) (hf2 := fun (q : Int32 × Zh) => q.2) (s0 := (x4, h)) (fun K9 bK9 rK9 q => ?_)
      obtain ⟨v5, h6⟩ := q
      try dsimp only
      refine z_iload_n (j := 2) dX3_putAhead_18 rfl rfl ?_
      refine z_itb ?_
      refine z_if_le (tgt := 42) dX3_putAhead_19 (by decide) (fun _ => ?_) (fun _ => ?_)
      · refine z_sb ?_
        refine z_eq (rK9 _) ?_
        refine z_at [0, 1] rfl ?_
        exact kF8 h6
      · refine z_aload_n (j := 0) dX3_putAhead_22 rfl rfl ?_
        refine z_as ?_
        refine z_getP (k := 9) dX3_putAhead_23 zkl4 (by decide) rfl (.inl zw121) (fun r10 => ?_)
        refine z_iload_n (j := 2) dX3_putAhead_26 rfl rfl ?_
        refine z_aload_n (j := 0) dX3_putAhead_27 rfl rfl ?_
        refine z_as ?_
        refine z_getP (k := 9) dX3_putAhead_28 zkl4 (by decide) rfl (.inl zw121) (fun r11 => ?_)
        refine z_iload_n (j := 2) dX3_putAhead_31 rfl rfl ?_
        refine z_iconst (v := 1) dX3_putAhead_32 (by decide) ?_
        refine z_isub dX3_putAhead_33 ?_
        refine z_as ?_
        refine z_iald dX3_putAhead_34 (fun x12 => ?_)
        refine z_as ?_
        refine z_iast dX3_putAhead_35 (fun h13 => ?_)
        refine z_iinc (j := 2) (v := v5 + (-1 : Int32)) (lv' := [(2, .int (v5 + (-1 : Int32))), (0, zrv G.2.1 this), (1, .int a1)]) dX3_putAhead_36 rfl rfl (by decide) rfl ?_
        refine z_goto (tgt := 18) dX3_putAhead_39 (by decide) ?_
        refine z_sb ?_
        refine z_at [1, 2, 0] rfl ?_
        exact bK9 (v5 + (-1 : Int32), h13)
  · exact z_vret dX3_putAhead_12 rfl rfl rfl
def fX3_cutsToLoop (h : Zh) (this : Option Nat) : Option (Int32 × Zh) :=
  (zfI h this 4 3).bind fun x1 =>
  (zfI h this 4 4).bind fun x2 =>
  (zfI h this 4 2).bind fun x3 =>
  (zloop (fun ((v4, h5) : Int32 × Zh) =>
    (if (12 : Int32) ≤ v4 then
      some (.inr h5)
    else
      (zfP h5 this 4 7).bind fun r9 =>
      (zfP h5 this 4 5).bind fun r10 =>
      (zaI h5 r10 v4).bind fun x11 =>
      (zfP h5 this 4 6).bind fun r12 =>
      (zaI h5 r12 v4).bind fun x13 =>
      (zbI h5 r9 v4 ((x11 ||| x13) &&& (x3 &&& ((x1 ||| x2) ^^^ (-1 : Int32))))).bind fun h14 =>
      some (.inl (v4 + (1 : Int32), h14)) : Option ((Int32 × Zh) ⊕ Zh))) zFU ((0 : Int32), h)).bind fun (h6 : Zh) =>
  (zob h6 this 5).bind fun p15 =>
  (fX3_partByNear h6 (some p15) (x3 &&& ((x1 ||| x2) ^^^ (-1 : Int32)))).bind fun h16 =>
  (zloop (fun ((v17, v18) : Int32 × Int32) =>
    ((zfI h16 this 4 10).bind fun x22 =>
    if x22 ≤ v18 then
      some (.inr v17)
    else
      (zfP h16 this 4 9).bind fun r23 =>
      (zaI h16 r23 v18).bind fun x24 =>
      (zob h16 this 5).bind fun p25 =>
      (fX3_goesTo h16 (some p25) (x1 ||| x2) x24).bind fun x26 =>
      (if x26 = 0 then
        some v17
      else
        (zfP h16 this 4 9).bind fun r29 =>
        (zaI h16 r29 v18).bind fun x30 =>
        some (v17 ||| x30)).bind fun (v27 : Int32) =>
      some (.inl (v27, v18 + (1 : Int32))) : Option ((Int32 × Int32) ⊕ Int32))) zFU (x1 ||| x2, (0 : Int32))).bind fun (w19 : Int32) =>
  (zfI h16 this 4 2).bind fun x31 =>
  (zob h16 this 5).bind fun p32 =>
  (fX3_partByNear h16 (some p32) (x31 &&& (w19 ^^^ (-1 : Int32)))).bind fun h33 =>
  (zob h33 this 5).bind fun p34 =>
  (fX3_putAhead h33 (some p34) w19).bind fun h35 =>
  (zfI h35 this 4 10).bind fun x36 =>
  (if x36 ≤ (1 : Int32) then
    some (0 : Int32)
  else
    some (1 : Int32)).bind fun (v37 : Int32) =>
  (zbo v37).bind fun _ =>
  some (v37, h35)
set_option maxRecDepth 100000 in
set_option maxHeartbeats 4000000 in
theorem kX3_cutsToLoop (G : Zg) (h : Zh) (this : Option Nat) {x : Int32 × Zh} (hx : fX3_cutsToLoop h this = some x) : zCt G yX3_cutsToLoop cX3_cutsToLoop 5 (Option.some Jvm.ClassFile.FieldType.boolean) 3 [zrv G.2.1 this] h (some (.int x.1)) x.2 := by
  refine z_met (a := x) (rvf := fun (x : Int32 × Zh) => some (.int x.1)) (hff := fun (x : Int32 × Zh) => x.2) (lv := [(0, zrv G.2.1 this)]) (by decide +kernel) (by simp [lg_sl, zcat1, zcI, zcJ]) (by simp [lv_args, zcat1, zcI, zcJ]) ?_ hx
  unfold fX3_cutsToLoop
  refine z_aload_n (j := 0) dX3_cutsToLoop_0 rfl rfl ?_
  refine z_getI (k := 3) dX3_cutsToLoop_1 zkl4 (by decide) rfl (.inl zw115) (fun x1 => ?_)
  refine z_aload_n (j := 0) dX3_cutsToLoop_4 rfl rfl ?_
  refine z_getI (k := 4) dX3_cutsToLoop_5 zkl4 (by decide) rfl (.inl zw116) (fun x2 => ?_)
  refine z_ior dX3_cutsToLoop_8 ?_
  refine z_istore_n (i := 1) (lv' := [(1, .int (x1 ||| x2)), (0, zrv G.2.1 this)]) dX3_cutsToLoop_9 rfl (by decide) (by simp [zcat1, zcI, zcJ]) ?_
  refine z_aload_n (j := 1) dX3_cutsToLoop_10 rfl rfl ?_
  refine z_getI (k := 2) dX3_cutsToLoop_11 zkl4 (by decide) rfl (.inl zw113) (fun x3 => ?_)
  refine z_iload_n (j := 0) dX3_cutsToLoop_14 rfl rfl ?_
  refine z_iconst (v := -1) dX3_cutsToLoop_15 (by decide) ?_
  refine z_ixor dX3_cutsToLoop_16 ?_
  refine z_iand dX3_cutsToLoop_17 ?_
  refine z_istore_n (i := 2) (lv' := [(2, .int (x3 &&& ((x1 ||| x2) ^^^ (-1 : Int32)))), (1, .int (x1 ||| x2)), (0, zrv G.2.1 this)]) dX3_cutsToLoop_18 rfl (by decide) rfl ?_
  refine z_iconst (v := 0) dX3_cutsToLoop_19 (by decide) ?_
  refine z_istore_n (i := 3) (lv' := [(3, .int (0 : Int32)), (2, .int (x3 &&& ((x1 ||| x2) ^^^ (-1 : Int32)))), (1, .int (x1 ||| x2)), (0, zrv G.2.1 this)]) dX3_cutsToLoop_20 rfl (by decide) rfl ?_
  refine z_at [3, 2, 1, 0] rfl ?_
  refine z_join (pc2 := 54) (lv2 := fun (q : Zh) => [(0, zrv G.2.1 this), (1, .int (x1 ||| x2)), (2, .int (x3 &&& ((x1 ||| x2) ^^^ (-1 : Int32))))]) (st2 := fun _ => []) (h2 := fun (q : Zh) => q) (fun q => ?_) (fun F7 kF7 => ?_)
  · obtain ⟨h6, e0⟩ : ∃ z, z = q := ⟨_, rfl⟩
    subst e0
    try dsimp only
    refine z_aload_n (j := 0) dX3_cutsToLoop_54 rfl rfl ?_
    refine z_iload_n (j := 2) dX3_cutsToLoop_55 rfl rfl ?_
    refine z_ob (fun p15 ep15 lp15 kp15 => ?_)
    refine z_callV (As := [.int (x3 &&& ((x1 ||| x2) ^^^ (-1 : Int32)))]) (rest := []) (rv2 := fun (_ : Zh) => none) (h2 := fun (x : Zh) => x) dX3_cutsToLoop_56 vX3_partByNear (.inl zw592) (by decide) zkl4 lp15 kp15 rfl (by rw [ep15]; rfl) (by decide) (fun x hx => kX3_partByNear G h6 (some p15) (x3 &&& ((x1 ||| x2) ^^^ (-1 : Int32))) hx) (fun h16 => ?_)
    try dsimp only [Option.toList, List.cons_append, List.nil_append]
    refine z_iload_n (j := 1) dX3_cutsToLoop_59 rfl rfl ?_
    refine z_istore_n (i := 3) (lv' := [(3, .int (x1 ||| x2)), (0, zrv G.2.1 this), (1, .int (x1 ||| x2)), (2, .int (x3 &&& ((x1 ||| x2) ^^^ (-1 : Int32))))]) dX3_cutsToLoop_60 rfl (by decide) rfl ?_
    refine z_iconst (v := 0) dX3_cutsToLoop_61 (by decide) ?_
    refine z_istore (i := 4) (lv' := [(4, .int (0 : Int32)), (3, .int (x1 ||| x2)), (0, zrv G.2.1 this), (1, .int (x1 ||| x2)), (2, .int (x3 &&& ((x1 ||| x2) ^^^ (-1 : Int32))))]) dX3_cutsToLoop_62 (by decide) rfl ?_
    refine z_at [2, 3, 1, 0] rfl ?_
    refine z_join (pc2 := 104) (lv2 := fun (q : Int32) => [(0, zrv G.2.1 this), (3, .int q)]) (st2 := fun _ => []) (h2 := fun (q : Int32) => h16) (fun q => ?_) (fun F20 kF20 => ?_)
    · obtain ⟨w19, e0⟩ : ∃ z, z = q := ⟨_, rfl⟩
      subst e0
      try dsimp only
      refine z_aload_n (j := 0) dX3_cutsToLoop_104 rfl rfl ?_
      refine z_aload_n (j := 0) dX3_cutsToLoop_105 rfl rfl ?_
      refine z_getI (k := 2) dX3_cutsToLoop_106 zkl4 (by decide) rfl (.inl zw113) (fun x31 => ?_)
      refine z_iload_n (j := 1) dX3_cutsToLoop_109 rfl rfl ?_
      refine z_iconst (v := -1) dX3_cutsToLoop_110 (by decide) ?_
      refine z_ixor dX3_cutsToLoop_111 ?_
      refine z_iand dX3_cutsToLoop_112 ?_
      refine z_ob (fun p32 ep32 lp32 kp32 => ?_)
      refine z_callV (As := [.int (x31 &&& (w19 ^^^ (-1 : Int32)))]) (rest := []) (rv2 := fun (_ : Zh) => none) (h2 := fun (x : Zh) => x) dX3_cutsToLoop_113 vX3_partByNear (.inl zw592) (by decide) zkl4 lp32 kp32 rfl (by rw [ep32]; rfl) (by decide) (fun x hx => kX3_partByNear G h16 (some p32) (x31 &&& (w19 ^^^ (-1 : Int32))) hx) (fun h33 => ?_)
      try dsimp only [Option.toList, List.cons_append, List.nil_append]
      refine z_aload_n (j := 0) dX3_cutsToLoop_116 rfl rfl ?_
      refine z_iload_n (j := 1) dX3_cutsToLoop_117 rfl rfl ?_
      refine z_ob (fun p34 ep34 lp34 kp34 => ?_)
      refine z_callV (As := [.int w19]) (rest := []) (rv2 := fun (_ : Zh) => none) (h2 := fun (x : Zh) => x) dX3_cutsToLoop_118 vX3_putAhead (.inl zw626) (by decide) zkl4 lp34 kp34 rfl (by rw [ep34]; rfl) (by decide) (fun x hx => kX3_putAhead G h33 (some p34) w19 hx) (fun h35 => ?_)
      try dsimp only [Option.toList, List.cons_append, List.nil_append]
      refine z_aload_n (j := 0) dX3_cutsToLoop_121 rfl rfl ?_
      refine z_getI (k := 10) dX3_cutsToLoop_122 zkl4 (by decide) rfl (.inl zw123) (fun x36 => ?_)
      refine z_iconst (v := 1) dX3_cutsToLoop_125 (by decide) ?_
      refine z_join (pc2 := 134) (lv2 := fun (q : Int32) => []) (st2 := fun (q : Int32) => [.int q]) (h2 := fun (q : Int32) => h35) (fun q => ?_) (fun F38 kF38 => ?_)
      · obtain ⟨v37, e0⟩ : ∃ z, z = q := ⟨_, rfl⟩
        subst e0
        try dsimp only
        refine z_bo (fun hbb39 => ?_)
        exact z_iret dX3_cutsToLoop_134 rfl (by rcases hbb39 with q | q <;> rw [q] <;> rfl) rfl rfl
      · refine z_itb ?_
        refine z_icmp_le (tgt := 133) dX3_cutsToLoop_126 (by decide) (fun _ => ?_) (fun _ => ?_)
        · refine z_iconst (v := 0) dX3_cutsToLoop_133 (by decide) ?_
          refine z_sb ?_
          refine z_at [] rfl ?_
          exact kF38 (0 : Int32)
        · refine z_iconst (v := 1) dX3_cutsToLoop_129 (by decide) ?_
          refine z_goto (tgt := 134) dX3_cutsToLoop_130 (by decide) ?_
          refine z_sb ?_
          refine z_at [] rfl ?_
          exact kF38 (1 : Int32)
    · refine z_loop (lvf := fun (q : Int32 × Int32) => [(0, zrv G.2.1 this), (1, .int (x1 ||| x2)), (3, .int q.1), (4, .int q.2)]) (hf2 := fun (q : Int32 × Int32) => h16) (s0 := (x1 ||| x2, (0 : Int32))) (fun K21 bK21 rK21 q => ?_)
      obtain ⟨v17, v18⟩ := q
      try dsimp only
      refine z_iload (j := 3) dX3_cutsToLoop_64 rfl ?_
      refine z_aload_n (j := 0) dX3_cutsToLoop_66 rfl rfl ?_
      refine z_as ?_
      refine z_getI (k := 10) dX3_cutsToLoop_67 zkl4 (by decide) rfl (.inl zw123) (fun x22 => ?_)
      refine z_itb ?_
      refine z_icmp_ge (tgt := 104) dX3_cutsToLoop_70 (by decide) (fun _ => ?_) (fun _ => ?_)
      · refine z_sb ?_
        refine z_eq (rK21 _) ?_
        refine z_at [0, 2] rfl ?_
        exact kF20 v17
      · refine z_aload_n (j := 0) dX3_cutsToLoop_73 rfl rfl ?_
        refine z_iload_n (j := 1) dX3_cutsToLoop_74 rfl rfl ?_
        refine z_aload_n (j := 0) dX3_cutsToLoop_75 rfl rfl ?_
        refine z_as ?_
        refine z_getP (k := 9) dX3_cutsToLoop_76 zkl4 (by decide) rfl (.inl zw121) (fun r23 => ?_)
        refine z_iload (j := 3) dX3_cutsToLoop_79 rfl ?_
        refine z_as ?_
        refine z_iald dX3_cutsToLoop_81 (fun x24 => ?_)
        refine z_as ?_
        refine z_ob (fun p25 ep25 lp25 kp25 => ?_)
        refine z_as ?_
        refine z_callV (As := [.int (x1 ||| x2), .int x24]) (rest := []) (rv2 := fun (x : Int32) => some (.int x)) (h2 := fun (_ : Int32) => h16) dX3_cutsToLoop_82 vX3_goesTo (.inl zw619) (by decide) zkl4 lp25 kp25 rfl (by rw [ep25]; rfl) (by decide) (fun x hx => kX3_goesTo G h16 (some p25) (x1 ||| x2) x24 hx) (fun x26 => ?_)
        try dsimp only [Option.toList, List.cons_append, List.nil_append]
        refine z_as ?_
        refine z_join (pc2 := 98) (lv2 := fun (q : Int32) => [(0, zrv G.2.1 this), (1, .int (x1 ||| x2)), (3, .int q), (4, .int v18)]) (st2 := fun (q : Int32) => []) (h2 := fun (q : Int32) => h16) (fun q => ?_) (fun F28 kF28 => ?_)
        · obtain ⟨v27, e0⟩ : ∃ z, z = q := ⟨_, rfl⟩
          subst e0
          try dsimp only
          refine z_iinc (j := 3) (v := v18 + (1 : Int32)) (lv' := [(4, .int (v18 + (1 : Int32))), (0, zrv G.2.1 this), (1, .int (x1 ||| x2)), (3, .int v27)]) dX3_cutsToLoop_98 rfl rfl (by decide) rfl ?_
          refine z_goto (tgt := 64) dX3_cutsToLoop_101 (by decide) ?_
          refine z_sb ?_
          refine z_at [1, 2, 3, 0] rfl ?_
          exact bK21 (v27, v18 + (1 : Int32))
        · refine z_itb ?_
          refine z_if_eq (tgt := 98) dX3_cutsToLoop_85 (by decide) (fun _ => ?_) (fun _ => ?_)
          · refine z_sb ?_
            refine z_at [0, 1, 2, 3] rfl ?_
            exact kF28 v17
          · refine z_iload_n (j := 2) dX3_cutsToLoop_88 rfl rfl ?_
            refine z_aload_n (j := 0) dX3_cutsToLoop_89 rfl rfl ?_
            refine z_as ?_
            refine z_getP (k := 9) dX3_cutsToLoop_90 zkl4 (by decide) rfl (.inl zw121) (fun r29 => ?_)
            refine z_iload (j := 3) dX3_cutsToLoop_93 rfl ?_
            refine z_as ?_
            refine z_iald dX3_cutsToLoop_95 (fun x30 => ?_)
            refine z_ior dX3_cutsToLoop_96 ?_
            refine z_istore_n (i := 3) (lv' := [(3, .int (v17 ||| x30)), (0, zrv G.2.1 this), (1, .int (x1 ||| x2)), (4, .int v18)]) dX3_cutsToLoop_97 rfl (by decide) rfl ?_
            refine z_sb ?_
            refine z_at [1, 2, 0, 3] rfl ?_
            exact kF28 (v17 ||| x30)
  · refine z_loop (lvf := fun (q : Int32 × Zh) => [(0, zrv G.2.1 this), (1, .int (x1 ||| x2)), (2, .int (x3 &&& ((x1 ||| x2) ^^^ (-1 : Int32)))), (3, .int q.1)]) (hf2 := fun (q : Int32 × Zh) => q.2) (s0 := ((0 : Int32), h)) (fun K8 bK8 rK8 q => ?_)
    obtain ⟨v4, h5⟩ := q
    try dsimp only
    refine z_iload_n (j := 3) dX3_cutsToLoop_21 rfl rfl ?_
    refine z_bipush (v := 12) dX3_cutsToLoop_22 (by decide) ?_
    refine z_itb ?_
    refine z_icmp_ge (tgt := 54) dX3_cutsToLoop_24 (by decide) (fun _ => ?_) (fun _ => ?_)
    · refine z_sb ?_
      refine z_eq (rK8 _) ?_
      refine z_at [0, 1, 2] rfl ?_
      exact kF7 h5
    · refine z_aload_n (j := 0) dX3_cutsToLoop_27 rfl rfl ?_
      refine z_as ?_
      refine z_getP (k := 7) dX3_cutsToLoop_28 zkl4 (by decide) rfl (.inl zw119) (fun r9 => ?_)
      refine z_iload_n (j := 3) dX3_cutsToLoop_31 rfl rfl ?_
      refine z_aload_n (j := 0) dX3_cutsToLoop_32 rfl rfl ?_
      refine z_as ?_
      refine z_getP (k := 5) dX3_cutsToLoop_33 zkl4 (by decide) rfl (.inl zw117) (fun r10 => ?_)
      refine z_iload_n (j := 3) dX3_cutsToLoop_36 rfl rfl ?_
      refine z_as ?_
      refine z_iald dX3_cutsToLoop_37 (fun x11 => ?_)
      refine z_aload_n (j := 0) dX3_cutsToLoop_38 rfl rfl ?_
      refine z_as ?_
      refine z_getP (k := 6) dX3_cutsToLoop_39 zkl4 (by decide) rfl (.inl zw118) (fun r12 => ?_)
      refine z_iload_n (j := 3) dX3_cutsToLoop_42 rfl rfl ?_
      refine z_as ?_
      refine z_iald dX3_cutsToLoop_43 (fun x13 => ?_)
      refine z_ior dX3_cutsToLoop_44 ?_
      refine z_iload_n (j := 2) dX3_cutsToLoop_45 rfl rfl ?_
      refine z_iand dX3_cutsToLoop_46 ?_
      refine z_as ?_
      refine z_iast dX3_cutsToLoop_47 (fun h14 => ?_)
      refine z_iinc (j := 3) (v := v4 + (1 : Int32)) (lv' := [(3, .int (v4 + (1 : Int32))), (0, zrv G.2.1 this), (1, .int (x1 ||| x2)), (2, .int (x3 &&& ((x1 ||| x2) ^^^ (-1 : Int32))))]) dX3_cutsToLoop_48 rfl rfl (by decide) rfl ?_
      refine z_goto (tgt := 21) dX3_cutsToLoop_51 (by decide) ?_
      refine z_sb ?_
      refine z_at [1, 2, 3, 0] rfl ?_
      exact bK8 (v4 + (1 : Int32), h14)
def fX3_cutsTo (h : Zh) (this : Option Nat) : Option (Int32 × Zh) :=
  (zob h this 5).bind fun p1 =>
  (fX3_cutsToChoice h (some p1)).bind fun ((x2, h3) : Int32 × Zh) =>
  if x2 = 0 then
    (zob h3 this 5).bind fun p4 =>
    (fX3_cutsToRow h3 (some p4)).bind fun ((x5, h6) : Int32 × Zh) =>
    if x5 = 0 then
      (zob h6 this 5).bind fun p7 =>
      (fX3_cutsToBeside h6 (some p7)).bind fun ((x8, h9) : Int32 × Zh) =>
      if x8 = 0 then
        (zob h9 this 5).bind fun p10 =>
        (fX3_cutsToLoop h9 (some p10)).bind fun ((x11, h12) : Int32 × Zh) =>
        if x11 = 0 then
          some ((-3 : Int32), h12)
        else
          some ((5 : Int32), h12)
      else
        some ((4 : Int32), h9)
    else
      some ((2 : Int32), h6)
  else
    some ((3 : Int32), h3)
set_option maxRecDepth 100000 in
set_option maxHeartbeats 4000000 in
theorem kX3_cutsTo (G : Zg) (h : Zh) (this : Option Nat) {x : Int32 × Zh} (hx : fX3_cutsTo h this = some x) : zCt G yX3_cutsTo cX3_cutsTo 1 (Option.some Jvm.ClassFile.FieldType.int) 4 [zrv G.2.1 this] h (some (.int x.1)) x.2 := by
  refine z_met (a := x) (rvf := fun (x : Int32 × Zh) => some (.int x.1)) (hff := fun (x : Int32 × Zh) => x.2) (lv := [(0, zrv G.2.1 this)]) (by decide +kernel) (by simp [lg_sl, zcat1, zcI, zcJ]) (by simp [lv_args, zcat1, zcI, zcJ]) ?_ hx
  unfold fX3_cutsTo
  refine z_aload_n (j := 0) dX3_cutsTo_0 rfl rfl ?_
  refine z_ob (fun p1 ep1 lp1 kp1 => ?_)
  refine z_callV (As := []) (rest := []) (rv2 := fun (x : Int32 × Zh) => some (.int x.1)) (h2 := fun (x : Int32 × Zh) => x.2) dX3_cutsTo_1 vX3_cutsToChoice (.inl zw588) (by decide) zkl4 lp1 kp1 rfl (by rw [ep1]; rfl) (by decide) (fun x hx => kX3_cutsToChoice G h (some p1) hx) (fun x => ?_)
  obtain ⟨x2, h3⟩ := x
  try dsimp only [Option.toList, List.cons_append, List.nil_append]
  refine z_if_eq (tgt := 9) dX3_cutsTo_4 (by decide) (fun _ => ?_) (fun _ => ?_)
  · refine z_aload_n (j := 0) dX3_cutsTo_9 rfl rfl ?_
    refine z_ob (fun p4 ep4 lp4 kp4 => ?_)
    refine z_callV (As := []) (rest := []) (rv2 := fun (x : Int32 × Zh) => some (.int x.1)) (h2 := fun (x : Int32 × Zh) => x.2) dX3_cutsTo_10 vX3_cutsToRow (.inl zw599) (by decide) zkl4 lp4 kp4 rfl (by rw [ep4]; rfl) (by decide) (fun x hx => kX3_cutsToRow G h3 (some p4) hx) (fun x => ?_)
    obtain ⟨x5, h6⟩ := x
    try dsimp only [Option.toList, List.cons_append, List.nil_append]
    refine z_if_eq (tgt := 18) dX3_cutsTo_13 (by decide) (fun _ => ?_) (fun _ => ?_)
    · refine z_aload_n (j := 0) dX3_cutsTo_18 rfl rfl ?_
      refine z_ob (fun p7 ep7 lp7 kp7 => ?_)
      refine z_callV (As := []) (rest := []) (rv2 := fun (x : Int32 × Zh) => some (.int x.1)) (h2 := fun (x : Int32 × Zh) => x.2) dX3_cutsTo_19 vX3_cutsToBeside (.inl zw611) (by decide) zkl4 lp7 kp7 rfl (by rw [ep7]; rfl) (by decide) (fun x hx => kX3_cutsToBeside G h6 (some p7) hx) (fun x => ?_)
      obtain ⟨x8, h9⟩ := x
      try dsimp only [Option.toList, List.cons_append, List.nil_append]
      refine z_if_eq (tgt := 27) dX3_cutsTo_22 (by decide) (fun _ => ?_) (fun _ => ?_)
      · refine z_aload_n (j := 0) dX3_cutsTo_27 rfl rfl ?_
        refine z_ob (fun p10 ep10 lp10 kp10 => ?_)
        refine z_callV (As := []) (rest := []) (rv2 := fun (x : Int32 × Zh) => some (.int x.1)) (h2 := fun (x : Int32 × Zh) => x.2) dX3_cutsTo_28 vX3_cutsToLoop (.inl zw615) (by decide) zkl4 lp10 kp10 rfl (by rw [ep10]; rfl) (by decide) (fun x hx => kX3_cutsToLoop G h9 (some p10) hx) (fun x => ?_)
        obtain ⟨x11, h12⟩ := x
        try dsimp only [Option.toList, List.cons_append, List.nil_append]
        refine z_if_eq (tgt := 36) dX3_cutsTo_31 (by decide) (fun _ => ?_) (fun _ => ?_)
        · refine z_bipush (v := -3) dX3_cutsTo_36 (by decide) ?_
          exact z_iret dX3_cutsTo_38 rfl rfl rfl rfl
        · refine z_iconst (v := 5) dX3_cutsTo_34 (by decide) ?_
          exact z_iret dX3_cutsTo_35 rfl rfl rfl rfl
      · refine z_iconst (v := 4) dX3_cutsTo_25 (by decide) ?_
        exact z_iret dX3_cutsTo_26 rfl rfl rfl rfl
    · refine z_iconst (v := 2) dX3_cutsTo_16 (by decide) ?_
      exact z_iret dX3_cutsTo_17 rfl rfl rfl rfl
  · refine z_iconst (v := 3) dX3_cutsTo_7 (by decide) ?_
    exact z_iret dX3_cutsTo_8 rfl rfl rfl rfl
def fX5_init (h : Zh) (this : Option Nat) : Option (Zh) :=
  (zob h this 7).bind fun _ =>
  (zmA h 2 (24 : Int32)).bind fun ((r1, h2) : Option Nat × Zh) =>
  (zgP h2 this 6 0 r1).bind fun h3 =>
  (zmA h3 3 (200 : Int32)).bind fun ((r4, h5) : Option Nat × Zh) =>
  (zgP h5 this 6 2 r4).bind fun h6 =>
  (zmO h6 2 7).bind fun ((r7, h8) : Option Nat × Zh) =>
  (zob h8 r7 3).bind fun p9 =>
  (fX1_init h8 (some p9)).bind fun h10 =>
  (zgP h10 this 6 4 r7).bind fun h11 =>
  (zmA h11 4 (12 : Int32)).bind fun ((r12, h13) : Option Nat × Zh) =>
  (zgP h13 this 6 5 r12).bind fun h14 =>
  (zmA h14 0 (144 : Int32)).bind fun ((r15, h16) : Option Nat × Zh) =>
  (zgP h16 this 6 6 r15).bind fun h17 =>
  (zmA h17 0 (144 : Int32)).bind fun ((r18, h19) : Option Nat × Zh) =>
  (zgP h19 this 6 7 r18).bind fun h20 =>
  (zloop (fun ((v21, h22) : Int32 × Zh) =>
    ((zfP h22 this 6 5).bind fun r26 =>
    (zaL h22 r26 4).bind fun x27 =>
    if x27 ≤ v21 then
      some (.inr h22)
    else
      (zfP h22 this 6 5).bind fun r28 =>
      (zmO h22 4 11).bind fun ((r29, h30) : Option Nat × Zh) =>
      (zob h30 r29 5).bind fun p31 =>
      (fX3_init h30 (some p31)).bind fun h32 =>
      (zbP h32 r28 4 4 v21 r29).bind fun h33 =>
      some (.inl (v21 + (1 : Int32), h33)) : Option ((Int32 × Zh) ⊕ Zh))) zFU ((0 : Int32), h20)).bind fun (h23 : Zh) =>
  some h23
set_option maxRecDepth 100000 in
set_option maxHeartbeats 4000000 in
theorem kX5_init (G : Zg) (h : Zh) (this : Option Nat) {x : Zh} (hx : fX5_init h this = some x) : zCt G yX5_init cX5_init 2 (Option.none : Option Jvm.ClassFile.FieldType) 2 [zrv G.2.1 this] h none x := by
  refine z_met (a := x) (rvf := fun (_ : Zh) => none) (hff := fun (x : Zh) => x) (lv := [(0, zrv G.2.1 this)]) (by decide +kernel) (by simp [lg_sl, zcat1, zcI, zcJ]) (by simp [lv_args, zcat1, zcI, zcJ]) ?_ hx
  unfold fX5_init
  refine z_aload_n (j := 0) dX5_init_0 rfl rfl ?_
  refine z_objI2 dX5_init_1 zw64 zw65 zw66 (by decide) (by decide) (fun _ => ?_)
  refine z_aload_n (j := 0) dX5_init_4 rfl rfl ?_
  refine z_bipush (v := 24) dX5_init_5 (by decide) ?_
  refine z_newQ (t := 2) dX5_init_7 (by decide) (by decide) rfl zw67 (fun r1 h2 => ?_)
  try dsimp only
  refine z_putP (k := 0) dX5_init_10 zkl6 (by decide) (.inl zw148) (.inr ⟨rfl, rfl, rfl, zw148⟩) (fun a => by cases a <;> exact ⟨rfl, rfl⟩) rfl (fun h3 => ?_)
  refine z_aload_n (j := 0) dX5_init_13 rfl rfl ?_
  refine z_sipush (v := 200) dX5_init_14 (by decide) ?_
  refine z_newQ (t := 3) dX5_init_17 (by decide) (by decide) rfl zw69 (fun r4 h5 => ?_)
  try dsimp only
  refine z_putP (k := 2) dX5_init_20 zkl6 (by decide) (.inl zw150) (.inr ⟨rfl, rfl, rfl, zw150⟩) (fun a => by cases a <;> exact ⟨rfl, rfl⟩) rfl (fun h6 => ?_)
  refine z_aload_n (j := 0) dX5_init_23 rfl rfl ?_
  refine z_newO dX5_init_24 zkl2 zw71 zw72 zw45 (by decide +kernel) (fun r7 h8 => ?_)
  try dsimp only
  refine z_dup dX5_init_27 (zcat1 _ _) ?_
  refine z_ob (fun p9 ep9 lp9 kp9 => ?_)
  refine z_callI (As := []) (rest := [zrv G.2.1 r7, zrv G.2.1 this]) (h2 := fun (x : Zh) => x) dX5_init_28 vX1_init (.inr ⟨_, zw73⟩) (by decide) rfl (by rw [ep9]; rfl) (by simp [zcat1, zcI, zcJ]) (fun x hx => kX1_init G h8 (some p9) hx) (fun h10 => ?_)
  try dsimp only [Option.toList, List.cons_append, List.nil_append]
  refine z_putP (k := 4) dX5_init_31 zkl6 (by decide) (.inl zw152) (.inr ⟨rfl, rfl, rfl, zw152⟩) (fun a => by cases a <;> exact ⟨rfl, rfl⟩) rfl (fun h11 => ?_)
  refine z_aload_n (j := 0) dX5_init_34 rfl rfl ?_
  refine z_bipush (v := 12) dX5_init_35 (by decide) ?_
  refine z_newQ (t := 4) dX5_init_37 (by decide) (by decide) rfl zw102 (fun r12 h13 => ?_)
  try dsimp only
  refine z_putP (k := 5) dX5_init_40 zkl6 (by decide) (.inl zw153) (.inr ⟨rfl, rfl, rfl, zw153⟩) (fun a => by cases a <;> exact ⟨rfl, rfl⟩) rfl (fun h14 => ?_)
  refine z_aload_n (j := 0) dX5_init_43 rfl rfl ?_
  refine z_sipush (v := 144) dX5_init_44 (by decide) ?_
  refine z_newA (t := 0) dX5_init_47 (.inl ⟨rfl, rfl⟩) zw101 (fun r15 h16 => ?_)
  try dsimp only
  refine z_putP (k := 6) dX5_init_49 zkl6 (by decide) (.inl zw154) (.inr ⟨rfl, rfl, rfl, zw154⟩) (fun a => by cases a <;> exact ⟨rfl, rfl⟩) rfl (fun h17 => ?_)
  refine z_aload_n (j := 0) dX5_init_52 rfl rfl ?_
  refine z_sipush (v := 144) dX5_init_53 (by decide) ?_
  refine z_newA (t := 0) dX5_init_56 (.inl ⟨rfl, rfl⟩) zw101 (fun r18 h19 => ?_)
  try dsimp only
  refine z_putP (k := 7) dX5_init_58 zkl6 (by decide) (.inl zw155) (.inr ⟨rfl, rfl, rfl, zw155⟩) (fun a => by cases a <;> exact ⟨rfl, rfl⟩) rfl (fun h20 => ?_)
  refine z_iconst (v := 0) dX5_init_61 (by decide) ?_
  refine z_istore_n (i := 1) (lv' := [(1, .int (0 : Int32)), (0, zrv G.2.1 this)]) dX5_init_62 rfl (by decide) (by simp [zcat1, zcI, zcJ]) ?_
  refine z_at [1, 0] rfl ?_
  refine z_join (pc2 := 91) (lv2 := fun (q : Zh) => []) (st2 := fun _ => []) (h2 := fun (q : Zh) => q) (fun q => ?_) (fun F24 kF24 => ?_)
  · obtain ⟨h23, e0⟩ : ∃ z, z = q := ⟨_, rfl⟩
    subst e0
    try dsimp only
    exact z_vret dX5_init_91 rfl rfl rfl
  · refine z_loop (lvf := fun (q : Int32 × Zh) => [(0, zrv G.2.1 this), (1, .int q.1)]) (hf2 := fun (q : Int32 × Zh) => q.2) (s0 := ((0 : Int32), h20)) (fun K25 bK25 rK25 q => ?_)
    obtain ⟨v21, h22⟩ := q
    try dsimp only
    refine z_iload_n (j := 1) dX5_init_63 rfl rfl ?_
    refine z_aload_n (j := 0) dX5_init_64 rfl rfl ?_
    refine z_as ?_
    refine z_getP (k := 5) dX5_init_65 zkl6 (by decide) rfl (.inl zw153) (fun r26 => ?_)
    refine z_as ?_
    refine z_alen dX5_init_68 (by decide) (fun x27 => ?_)
    refine z_itb ?_
    refine z_icmp_ge (tgt := 91) dX5_init_69 (by decide) (fun _ => ?_) (fun _ => ?_)
    · refine z_sb ?_
      refine z_eq (rK25 _) ?_
      refine z_at [] rfl ?_
      exact kF24 h22
    · refine z_aload_n (j := 0) dX5_init_72 rfl rfl ?_
      refine z_as ?_
      refine z_getP (k := 5) dX5_init_73 zkl6 (by decide) rfl (.inl zw153) (fun r28 => ?_)
      refine z_iload_n (j := 1) dX5_init_76 rfl rfl ?_
      refine z_as ?_
      refine z_newO dX5_init_77 zkl4 zw102 zw104 zw46 (by decide +kernel) (fun r29 h30 => ?_)
      try dsimp only
      refine z_dup dX5_init_80 (zcat1 _ _) ?_
      refine z_as ?_
      refine z_ob (fun p31 ep31 lp31 kp31 => ?_)
      refine z_as ?_
      refine z_callI (As := []) (rest := [zrv G.2.1 r29, .int v21, zrv G.2.1 r28]) (h2 := fun (x : Zh) => x) dX5_init_81 vX3_init (.inr ⟨_, zw105⟩) (by decide) rfl (by rw [ep31]; rfl) (by simp [zcat1, zcI, zcJ]) (fun x hx => kX3_init G h30 (some p31) hx) (fun h32 => ?_)
      try dsimp only [Option.toList, List.cons_append, List.nil_append]
      refine z_as ?_
      refine z_aast dX5_init_84 (by decide) (by decide) zkl4 rfl (fun h33 => ?_)
      refine z_iinc (j := 1) (v := v21 + (1 : Int32)) (lv' := [(1, .int (v21 + (1 : Int32))), (0, zrv G.2.1 this)]) dX5_init_85 rfl rfl (by decide) (by simp [zcat1, zcI, zcJ]) ?_
      refine z_goto (tgt := 63) dX5_init_88 (by decide) ?_
      refine z_sb ?_
      refine z_at [1, 0] rfl ?_
      exact bK25 (v21 + (1 : Int32), h33)
def fX5_open (h : Zh) (this : Option Nat) : Option (Int32 × Zh) :=
  (zfI h this 6 1).bind fun x1 =>
  if x1 < (24 : Int32) then
    (zfP h this 6 0).bind fun r2 =>
    (zfI h this 6 1).bind fun x3 =>
    (zmO h 1 3).bind fun ((r4, h5) : Option Nat × Zh) =>
    (zob h5 r4 2).bind fun p6 =>
    (fX0_init h5 (some p6)).bind fun h7 =>
    (zbP h7 r2 2 1 x3 r4).bind fun h8 =>
    (zfI h8 this 6 1).bind fun x9 =>
    (zgI h8 this 6 1 (x9 + (1 : Int32))).bind fun h10 =>
    some (x9, h10)
  else
    some ((-2 : Int32), h)
set_option maxRecDepth 100000 in
set_option maxHeartbeats 4000000 in
theorem kX5_open (G : Zg) (h : Zh) (this : Option Nat) {x : Int32 × Zh} (hx : fX5_open h this = some x) : zCt G yX5_open cX5_open 1 (Option.some Jvm.ClassFile.FieldType.int) 2 [zrv G.2.1 this] h (some (.int x.1)) x.2 := by
  refine z_met (a := x) (rvf := fun (x : Int32 × Zh) => some (.int x.1)) (hff := fun (x : Int32 × Zh) => x.2) (lv := [(0, zrv G.2.1 this)]) (by decide +kernel) (by simp [lg_sl, zcat1, zcI, zcJ]) (by simp [lv_args, zcat1, zcI, zcJ]) ?_ hx
  unfold fX5_open
  refine z_aload_n (j := 0) dX5_open_0 rfl rfl ?_
  refine z_getI (k := 1) dX5_open_1 zkl6 (by decide) rfl (.inl zw149) (fun x1 => ?_)
  refine z_bipush (v := 24) dX5_open_4 (by decide) ?_
  refine z_icmp_lt (tgt := 12) dX5_open_6 (by decide) (fun _ => ?_) (fun _ => ?_)
  · refine z_aload_n (j := 0) dX5_open_12 rfl rfl ?_
    refine z_getP (k := 0) dX5_open_13 zkl6 (by decide) rfl (.inl zw148) (fun r2 => ?_)
    refine z_aload_n (j := 0) dX5_open_16 rfl rfl ?_
    refine z_getI (k := 1) dX5_open_17 zkl6 (by decide) rfl (.inl zw149) (fun x3 => ?_)
    refine z_newO dX5_open_20 zkl1 zw67 zw184 zw51 (by decide +kernel) (fun r4 h5 => ?_)
    try dsimp only
    refine z_dup dX5_open_23 (zcat1 _ _) ?_
    refine z_ob (fun p6 ep6 lp6 kp6 => ?_)
    refine z_callI (As := []) (rest := [zrv G.2.1 r4, .int x3, zrv G.2.1 r2]) (h2 := fun (x : Zh) => x) dX5_open_24 vX0_init (.inr ⟨_, zw320⟩) (by decide) rfl (by rw [ep6]; rfl) (by simp [zcat1, zcI, zcJ]) (fun x hx => kX0_init G h5 (some p6) hx) (fun h7 => ?_)
    try dsimp only [Option.toList, List.cons_append, List.nil_append]
    refine z_aast dX5_open_27 (by decide) (by decide) zkl1 rfl (fun h8 => ?_)
    refine z_aload_n (j := 0) dX5_open_28 rfl rfl ?_
    refine z_dup dX5_open_29 (zcat1 _ _) ?_
    refine z_getI (k := 1) dX5_open_30 zkl6 (by decide) rfl (.inl zw149) (fun x9 => ?_)
    refine z_dup_x1 dX5_open_33 rfl (zcat1 _ _) ?_
    refine z_iconst (v := 1) dX5_open_34 (by decide) ?_
    refine z_iadd dX5_open_35 ?_
    refine z_putI (k := 1) dX5_open_36 zkl6 (by decide) (.inl zw149) (.inl rfl) rfl rfl rfl (fun h10 => ?_)
    exact z_iret dX5_open_39 rfl rfl rfl rfl
  · refine z_bipush (v := -2) dX5_open_9 (by decide) ?_
    exact z_iret dX5_open_11 rfl rfl rfl rfl
def fX5_caseAt (h : Zh) (this : Option Nat) (a1 : Int32) : Option (Option Nat) :=
  (if a1 < 0 then
    some none
  else
    (zfI h this 6 1).bind fun x3 =>
    if x3 ≤ a1 then
      some none
    else
      (zfP h this 6 0).bind fun r4 =>
      (zaL h r4 2).bind fun x5 =>
      if x5 ≤ a1 then
        some none
      else
        (zfP h this 6 0).bind fun r6 =>
        (zaP h r6 2 a1).bind fun r7 =>
        some r7).bind fun (v1 : Option Nat) =>
  some v1
set_option maxRecDepth 100000 in
set_option maxHeartbeats 4000000 in
theorem kX5_caseAt (G : Zg) (h : Zh) (this : Option Nat) (a1 : Int32) {x : Option Nat} (hx : fX5_caseAt h this a1 = some x) : zCt G yX5_caseAt cX5_caseAt 2 (Option.some (Jvm.ClassFile.FieldType.object "TrailFinder$Case")) 1 [zrv G.2.1 this, .int a1] h (some (zrv G.2.1 x)) h := by
  refine z_met (a := x) (rvf := fun (x : Option Nat) => some (zrv G.2.1 x)) (hff := fun (_ : Option Nat) => h) (lv := [(0, zrv G.2.1 this), (1, .int a1)]) (by decide +kernel) (by simp [lg_sl, zcat1, zcI, zcJ]) (by simp [lv_args, zcat1, zcI, zcJ]) ?_ hx
  unfold fX5_caseAt
  refine z_iload_n (j := 1) dX5_caseAt_0 rfl rfl ?_
  refine z_join (pc2 := 31) (lv2 := fun (q : Option Nat) => []) (st2 := fun (q : Option Nat) => [zrv G.2.1 q]) (h2 := fun (q : Option Nat) => h) (fun q => ?_) (fun F2 kF2 => ?_)
  · obtain ⟨v1, e0⟩ : ∃ z, z = q := ⟨_, rfl⟩
    subst e0
    try dsimp only
    exact z_aret (b := G.2.1) (r := v1) dX5_caseAt_31 rfl (.inl ⟨_, rfl⟩) rfl rfl
  · refine z_itb ?_
    refine z_if_lt (tgt := 30) dX5_caseAt_1 (by decide) (fun _ => ?_) (fun _ => ?_)
    · refine z_null (b := G.2.1) dX5_caseAt_30 ?_
      refine z_sb ?_
      refine z_at [] rfl ?_
      exact kF2 none
    · refine z_iload_n (j := 1) dX5_caseAt_4 rfl rfl ?_
      refine z_aload_n (j := 0) dX5_caseAt_5 rfl rfl ?_
      refine z_as ?_
      refine z_getI (k := 1) dX5_caseAt_6 zkl6 (by decide) rfl (.inl zw149) (fun x3 => ?_)
      refine z_itb ?_
      refine z_icmp_ge (tgt := 30) dX5_caseAt_9 (by decide) (fun _ => ?_) (fun _ => ?_)
      · refine z_null (b := G.2.1) dX5_caseAt_30 ?_
        refine z_sb ?_
        refine z_at [] rfl ?_
        exact kF2 none
      · refine z_iload_n (j := 1) dX5_caseAt_12 rfl rfl ?_
        refine z_aload_n (j := 0) dX5_caseAt_13 rfl rfl ?_
        refine z_as ?_
        refine z_getP (k := 0) dX5_caseAt_14 zkl6 (by decide) rfl (.inl zw148) (fun r4 => ?_)
        refine z_as ?_
        refine z_alen dX5_caseAt_17 (by decide) (fun x5 => ?_)
        refine z_itb ?_
        refine z_icmp_ge (tgt := 30) dX5_caseAt_18 (by decide) (fun _ => ?_) (fun _ => ?_)
        · refine z_null (b := G.2.1) dX5_caseAt_30 ?_
          refine z_sb ?_
          refine z_at [] rfl ?_
          exact kF2 none
        · refine z_aload_n (j := 0) dX5_caseAt_21 rfl rfl ?_
          refine z_as ?_
          refine z_getP (k := 0) dX5_caseAt_22 zkl6 (by decide) rfl (.inl zw148) (fun r6 => ?_)
          refine z_iload_n (j := 1) dX5_caseAt_25 rfl rfl ?_
          refine z_as ?_
          refine z_aald dX5_caseAt_26 (by decide) (by decide) (fun r7 => ?_)
          refine z_goto (tgt := 31) dX5_caseAt_27 (by decide) ?_
          refine z_sb ?_
          refine z_at [] rfl ?_
          exact kF2 r7
def fX5_inLog (h : Zh) (this : Option Nat) (a1 : Int32) : Option (Option Nat) :=
  (zob h this 7).bind fun p1 =>
  (fX5_caseAt h (some p1) a1).bind fun r2 =>
  (if r2 = none then
    some none
  else
    (zfI h r2 1 2).bind fun x5 =>
    if x5 = 0 then
      some r2
    else
      some none).bind fun (v3 : Option Nat) =>
  some v3
set_option maxRecDepth 100000 in
set_option maxHeartbeats 4000000 in
theorem kX5_inLog (G : Zg) (h : Zh) (this : Option Nat) (a1 : Int32) {x : Option Nat} (hx : fX5_inLog h this a1 = some x) : zCt G yX5_inLog cX5_inLog 3 (Option.some (Jvm.ClassFile.FieldType.object "TrailFinder$Case")) 2 [zrv G.2.1 this, .int a1] h (some (zrv G.2.1 x)) h := by
  refine z_met (a := x) (rvf := fun (x : Option Nat) => some (zrv G.2.1 x)) (hff := fun (_ : Option Nat) => h) (lv := [(0, zrv G.2.1 this), (1, .int a1)]) (by decide +kernel) (by simp [lg_sl, zcat1, zcI, zcJ]) (by simp [lv_args, zcat1, zcI, zcJ]) ?_ hx
  unfold fX5_inLog
  refine z_aload_n (j := 0) dX5_inLog_0 rfl rfl ?_
  refine z_iload_n (j := 1) dX5_inLog_1 rfl rfl ?_
  refine z_ob (fun p1 ep1 lp1 kp1 => ?_)
  refine z_callV (As := [.int a1]) (rest := []) (rv2 := fun (x : Option Nat) => some (zrv G.2.1 x)) (h2 := fun (_ : Option Nat) => h) dX5_inLog_2 vX5_caseAt (.inl zw177) (by decide) zkl6 lp1 kp1 rfl (by rw [ep1]; rfl) (by decide) (fun x hx => kX5_caseAt G h (some p1) a1 hx) (fun r2 => ?_)
  try dsimp only [Option.toList, List.cons_append, List.nil_append]
  refine z_astore_n (i := 2) (lv' := [(2, zrv G.2.1 r2), (0, zrv G.2.1 this), (1, .int a1)]) dX5_inLog_5 rfl (by decide) rfl ?_
  refine z_aload_n (j := 0) dX5_inLog_6 rfl rfl ?_
  refine z_join (pc2 := 22) (lv2 := fun (q : Option Nat) => []) (st2 := fun (q : Option Nat) => [zrv G.2.1 q]) (h2 := fun (q : Option Nat) => h) (fun q => ?_) (fun F4 kF4 => ?_)
  · obtain ⟨v3, e0⟩ : ∃ z, z = q := ⟨_, rfl⟩
    subst e0
    try dsimp only
    exact z_aret (b := G.2.1) (r := v3) dX5_inLog_22 rfl (.inl ⟨_, rfl⟩) rfl rfl
  · refine z_itb ?_
    refine z_ifnull (tgt := 17) dX5_inLog_7 (by decide) (fun _ => ?_) (fun _ => ?_)
    · refine z_null (b := G.2.1) dX5_inLog_17 ?_
      refine z_goto (tgt := 22) dX5_inLog_18 (by decide) ?_
      refine z_sb ?_
      refine z_at [] rfl ?_
      exact kF4 none
    · refine z_aload_n (j := 0) dX5_inLog_10 rfl rfl ?_
      refine z_as ?_
      refine z_getI (k := 2) dX5_inLog_11 zkl1 (by decide) rfl (.inr ⟨_, zw328⟩) (fun x5 => ?_)
      refine z_itb ?_
      refine z_if_eq (tgt := 21) dX5_inLog_14 (by decide) (fun _ => ?_) (fun _ => ?_)
      · refine z_aload_n (j := 0) dX5_inLog_21 rfl rfl ?_
        refine z_sb ?_
        refine z_at [] rfl ?_
        exact kF4 r2
      · refine z_null (b := G.2.1) dX5_inLog_17 ?_
        refine z_goto (tgt := 22) dX5_inLog_18 (by decide) ?_
        refine z_sb ?_
        refine z_at [] rfl ?_
        exact kF4 none
def fX5_isName (h : Zh) (a1 : Int32) : Option (Int32) :=
  (if a1 < 0 then
    some (0 : Int32)
  else
    if (12 : Int32) ≤ a1 then
      some (0 : Int32)
    else
      some (1 : Int32)).bind fun (v1 : Int32) =>
  (zbo v1).bind fun _ =>
  some v1
set_option maxRecDepth 100000 in
set_option maxHeartbeats 4000000 in
theorem kX5_isName (G : Zg) (h : Zh) (a1 : Int32) {x : Int32} (hx : fX5_isName h a1 = some x) : zCt G yX5_isName cX5_isName 1 (Option.some Jvm.ClassFile.FieldType.boolean) 1 [.int a1] h (some (.int x)) h := by
  refine z_met (a := x) (rvf := fun (x : Int32) => some (.int x)) (hff := fun (_ : Int32) => h) (lv := [(0, .int a1)]) (by decide +kernel) (by simp [lg_sl, zcat1, zcI, zcJ]) (by simp [lv_args, zcat1, zcI, zcJ]) ?_ hx
  unfold fX5_isName
  refine z_iload_n (j := 0) dX5_isName_0 rfl rfl ?_
  refine z_join (pc2 := 15) (lv2 := fun (q : Int32) => []) (st2 := fun (q : Int32) => [.int q]) (h2 := fun (q : Int32) => h) (fun q => ?_) (fun F2 kF2 => ?_)
  · obtain ⟨v1, e0⟩ : ∃ z, z = q := ⟨_, rfl⟩
    subst e0
    try dsimp only
    refine z_bo (fun hbb3 => ?_)
    exact z_iret dX5_isName_15 rfl (by rcases hbb3 with q | q <;> rw [q] <;> rfl) rfl rfl
  · refine z_itb ?_
    refine z_if_lt (tgt := 14) dX5_isName_1 (by decide) (fun _ => ?_) (fun _ => ?_)
    · refine z_iconst (v := 0) dX5_isName_14 (by decide) ?_
      refine z_sb ?_
      refine z_at [] rfl ?_
      exact kF2 (0 : Int32)
    · refine z_iload_n (j := 0) dX5_isName_4 rfl rfl ?_
      refine z_bipush (v := 12) dX5_isName_5 (by decide) ?_
      refine z_itb ?_
      refine z_icmp_ge (tgt := 14) dX5_isName_7 (by decide) (fun _ => ?_) (fun _ => ?_)
      · refine z_iconst (v := 0) dX5_isName_14 (by decide) ?_
        refine z_sb ?_
        refine z_at [] rfl ?_
        exact kF2 (0 : Int32)
      · refine z_iconst (v := 1) dX5_isName_10 (by decide) ?_
        refine z_goto (tgt := 15) dX5_isName_11 (by decide) ?_
        refine z_sb ?_
        refine z_at [] rfl ?_
        exact kF2 (1 : Int32)
def fX5_isHand (h : Zh) (a1 : Int32) : Option (Int32) :=
  (if a1 < 0 then
    some (0 : Int32)
  else
    if (8 : Int32) ≤ a1 then
      some (0 : Int32)
    else
      some (1 : Int32)).bind fun (v1 : Int32) =>
  (zbo v1).bind fun _ =>
  some v1
set_option maxRecDepth 100000 in
set_option maxHeartbeats 4000000 in
theorem kX5_isHand (G : Zg) (h : Zh) (a1 : Int32) {x : Int32} (hx : fX5_isHand h a1 = some x) : zCt G yX5_isHand cX5_isHand 1 (Option.some Jvm.ClassFile.FieldType.boolean) 1 [.int a1] h (some (.int x)) h := by
  refine z_met (a := x) (rvf := fun (x : Int32) => some (.int x)) (hff := fun (_ : Int32) => h) (lv := [(0, .int a1)]) (by decide +kernel) (by simp [lg_sl, zcat1, zcI, zcJ]) (by simp [lv_args, zcat1, zcI, zcJ]) ?_ hx
  unfold fX5_isHand
  refine z_iload_n (j := 0) dX5_isHand_0 rfl rfl ?_
  refine z_join (pc2 := 15) (lv2 := fun (q : Int32) => []) (st2 := fun (q : Int32) => [.int q]) (h2 := fun (q : Int32) => h) (fun q => ?_) (fun F2 kF2 => ?_)
  · obtain ⟨v1, e0⟩ : ∃ z, z = q := ⟨_, rfl⟩
    subst e0
    try dsimp only
    refine z_bo (fun hbb3 => ?_)
    exact z_iret dX5_isHand_15 rfl (by rcases hbb3 with q | q <;> rw [q] <;> rfl) rfl rfl
  · refine z_itb ?_
    refine z_if_lt (tgt := 14) dX5_isHand_1 (by decide) (fun _ => ?_) (fun _ => ?_)
    · refine z_iconst (v := 0) dX5_isHand_14 (by decide) ?_
      refine z_sb ?_
      refine z_at [] rfl ?_
      exact kF2 (0 : Int32)
    · refine z_iload_n (j := 0) dX5_isHand_4 rfl rfl ?_
      refine z_bipush (v := 8) dX5_isHand_5 (by decide) ?_
      refine z_itb ?_
      refine z_icmp_ge (tgt := 14) dX5_isHand_7 (by decide) (fun _ => ?_) (fun _ => ?_)
      · refine z_iconst (v := 0) dX5_isHand_14 (by decide) ?_
        refine z_sb ?_
        refine z_at [] rfl ?_
        exact kF2 (0 : Int32)
      · refine z_iconst (v := 1) dX5_isHand_10 (by decide) ?_
        refine z_goto (tgt := 15) dX5_isHand_11 (by decide) ?_
        refine z_sb ?_
        refine z_at [] rfl ?_
        exact kF2 (1 : Int32)
def fX5_isTime (h : Zh) (a1 : Int32) : Option (Int32) :=
  (if a1 = (-1 : Int32) then
    some (1 : Int32)
  else
    if a1 < 0 then
      some (0 : Int32)
    else
      if (1000000 : Int32) < a1 then
        some (0 : Int32)
      else
        some (1 : Int32)).bind fun (v1 : Int32) =>
  (zbo v1).bind fun _ =>
  some v1
set_option maxRecDepth 100000 in
set_option maxHeartbeats 4000000 in
theorem kX5_isTime (G : Zg) (h : Zh) (a1 : Int32) {x : Int32} (hx : fX5_isTime h a1 = some x) : zCt G yX5_isTime cX5_isTime 1 (Option.some Jvm.ClassFile.FieldType.boolean) 1 [.int a1] h (some (.int x)) h := by
  refine z_met (a := x) (rvf := fun (x : Int32) => some (.int x)) (hff := fun (_ : Int32) => h) (lv := [(0, .int a1)]) (by decide +kernel) (by simp [lg_sl, zcat1, zcI, zcJ]) (by simp [lv_args, zcat1, zcI, zcJ]) ?_ hx
  unfold fX5_isTime
  refine z_iload_n (j := 0) dX5_isTime_0 rfl rfl ?_
  refine z_iconst (v := -1) dX5_isTime_1 (by decide) ?_
  refine z_join (pc2 := 20) (lv2 := fun (q : Int32) => []) (st2 := fun (q : Int32) => [.int q]) (h2 := fun (q : Int32) => h) (fun q => ?_) (fun F2 kF2 => ?_)
  · obtain ⟨v1, e0⟩ : ∃ z, z = q := ⟨_, rfl⟩
    subst e0
    try dsimp only
    refine z_bo (fun hbb3 => ?_)
    exact z_iret dX5_isTime_20 rfl (by rcases hbb3 with q | q <;> rw [q] <;> rfl) rfl rfl
  · refine z_itb ?_
    refine z_icmp_eq (tgt := 15) dX5_isTime_2 (by decide) (fun _ => ?_) (fun _ => ?_)
    · refine z_iconst (v := 1) dX5_isTime_15 (by decide) ?_
      refine z_goto (tgt := 20) dX5_isTime_16 (by decide) ?_
      refine z_sb ?_
      refine z_at [] rfl ?_
      exact kF2 (1 : Int32)
    · refine z_iload_n (j := 0) dX5_isTime_5 rfl rfl ?_
      refine z_itb ?_
      refine z_if_lt (tgt := 19) dX5_isTime_6 (by decide) (fun _ => ?_) (fun _ => ?_)
      · refine z_iconst (v := 0) dX5_isTime_19 (by decide) ?_
        refine z_sb ?_
        refine z_at [] rfl ?_
        exact kF2 (0 : Int32)
      · refine z_iload_n (j := 0) dX5_isTime_9 rfl rfl ?_
        refine z_ldc (v := 1000000) dX5_isTime_10 zw346 ?_
        refine z_itb ?_
        refine z_icmp_gt (tgt := 19) dX5_isTime_12 (by decide) (fun _ => ?_) (fun _ => ?_)
        · refine z_iconst (v := 0) dX5_isTime_19 (by decide) ?_
          refine z_sb ?_
          refine z_at [] rfl ?_
          exact kF2 (0 : Int32)
        · refine z_iconst (v := 1) dX5_isTime_15 (by decide) ?_
          refine z_goto (tgt := 20) dX5_isTime_16 (by decide) ?_
          refine z_sb ?_
          refine z_at [] rfl ?_
          exact kF2 (1 : Int32)
def fX5_add (h : Zh) (this : Option Nat) (a1 : Int32) (a2 : Int32) (a3 : Int32) (a4 : Int32) (a5 : Int32) : Option (Int32 × Zh) :=
  (zob h this 7).bind fun p1 =>
  (fX5_inLog h (some p1) a1).bind fun r2 =>
  if r2 = none then
    some ((-1 : Int32), h)
  else
    (fX5_isName h a2).bind fun x3 =>
    if x3 = 0 then
      some ((-1 : Int32), h)
    else
      (fX5_isHand h a3).bind fun x4 =>
      if x4 = 0 then
        some ((-1 : Int32), h)
      else
        (fX5_isTime h a4).bind fun x5 =>
        if x5 = 0 then
          some ((-1 : Int32), h)
        else
          (fX5_isTime h a5).bind fun x6 =>
          if x6 = 0 then
            some ((-1 : Int32), h)
          else
            (zfI h r2 1 1).bind fun x7 =>
            if x7 < (6 : Int32) then
              (zob h r2 2).bind fun p8 =>
              (fX0_put h (some p8) a2 a3 a4 a5).bind fun h9 =>
              (zfI h9 r2 1 1).bind fun x10 =>
              some (x10, h9)
            else
              some ((-2 : Int32), h)
set_option maxRecDepth 100000 in
set_option maxHeartbeats 4000000 in
theorem kX5_add (G : Zg) (h : Zh) (this : Option Nat) (a1 : Int32) (a2 : Int32) (a3 : Int32) (a4 : Int32) (a5 : Int32) {x : Int32 × Zh} (hx : fX5_add h this a1 a2 a3 a4 a5 = some x) : zCt G yX5_add cX5_add 7 (Option.some Jvm.ClassFile.FieldType.int) 3 [zrv G.2.1 this, .int a1, .int a2, .int a3, .int a4, .int a5] h (some (.int x.1)) x.2 := by
  refine z_met (a := x) (rvf := fun (x : Int32 × Zh) => some (.int x.1)) (hff := fun (x : Int32 × Zh) => x.2) (lv := [(0, zrv G.2.1 this), (1, .int a1), (2, .int a2), (3, .int a3), (4, .int a4), (5, .int a5)]) (by decide +kernel) (by simp [lg_sl, zcat1, zcI, zcJ]) (by simp [lv_args, zcat1, zcI, zcJ]) ?_ hx
  unfold fX5_add
  refine z_aload_n (j := 0) dX5_add_0 rfl rfl ?_
  refine z_iload_n (j := 1) dX5_add_1 rfl rfl ?_
  refine z_ob (fun p1 ep1 lp1 kp1 => ?_)
  refine z_callV (As := [.int a1]) (rest := []) (rv2 := fun (x : Option Nat) => some (zrv G.2.1 x)) (h2 := fun (_ : Option Nat) => h) dX5_add_2 vX5_inLog (.inl zw190) (by decide) zkl6 lp1 kp1 rfl (by rw [ep1]; rfl) (by decide) (fun x hx => kX5_inLog G h (some p1) a1 hx) (fun r2 => ?_)
  try dsimp only [Option.toList, List.cons_append, List.nil_append]
  refine z_astore (i := 6) (lv' := [(6, zrv G.2.1 r2), (0, zrv G.2.1 this), (1, .int a1), (2, .int a2), (3, .int a3), (4, .int a4), (5, .int a5)]) dX5_add_5 (by decide) rfl ?_
  refine z_aload (j := 0) dX5_add_7 rfl ?_
  refine z_ifnull (tgt := 42) dX5_add_9 (by decide) (fun _ => ?_) (fun _ => ?_)
  · refine z_iconst (v := -1) dX5_add_42 (by decide) ?_
    exact z_iret dX5_add_43 rfl rfl rfl rfl
  · refine z_iload_n (j := 3) dX5_add_12 rfl rfl ?_
    refine z_callS (As := [.int a2]) (rest := []) (rv2 := fun (x : Int32) => some (.int x)) (h2 := fun (_ : Int32) => h) dX5_add_13 vX5_isName (.inl zw285) (by decide) rfl rfl (by decide) (fun x hx => kX5_isName G h a2 hx) (fun x3 => ?_)
    try dsimp only [Option.toList, List.cons_append, List.nil_append]
    refine z_if_eq (tgt := 42) dX5_add_16 (by decide) (fun _ => ?_) (fun _ => ?_)
    · refine z_iconst (v := -1) dX5_add_42 (by decide) ?_
      exact z_iret dX5_add_43 rfl rfl rfl rfl
    · refine z_iload_n (j := 4) dX5_add_19 rfl rfl ?_
      refine z_callS (As := [.int a3]) (rest := []) (rv2 := fun (x : Int32) => some (.int x)) (h2 := fun (_ : Int32) => h) dX5_add_20 vX5_isHand (.inl zw340) (by decide) rfl rfl (by decide) (fun x hx => kX5_isHand G h a3 hx) (fun x4 => ?_)
      try dsimp only [Option.toList, List.cons_append, List.nil_append]
      refine z_if_eq (tgt := 42) dX5_add_23 (by decide) (fun _ => ?_) (fun _ => ?_)
      · refine z_iconst (v := -1) dX5_add_42 (by decide) ?_
        exact z_iret dX5_add_43 rfl rfl rfl rfl
      · refine z_iload (j := 5) dX5_add_26 rfl ?_
        refine z_callS (As := [.int a4]) (rest := []) (rv2 := fun (x : Int32) => some (.int x)) (h2 := fun (_ : Int32) => h) dX5_add_28 vX5_isTime (.inl zw343) (by decide) rfl rfl (by decide) (fun x hx => kX5_isTime G h a4 hx) (fun x5 => ?_)
        try dsimp only [Option.toList, List.cons_append, List.nil_append]
        refine z_if_eq (tgt := 42) dX5_add_31 (by decide) (fun _ => ?_) (fun _ => ?_)
        · refine z_iconst (v := -1) dX5_add_42 (by decide) ?_
          exact z_iret dX5_add_43 rfl rfl rfl rfl
        · refine z_iload (j := 6) dX5_add_34 rfl ?_
          refine z_callS (As := [.int a5]) (rest := []) (rv2 := fun (x : Int32) => some (.int x)) (h2 := fun (_ : Int32) => h) dX5_add_36 vX5_isTime (.inl zw343) (by decide) rfl rfl (by decide) (fun x hx => kX5_isTime G h a5 hx) (fun x6 => ?_)
          try dsimp only [Option.toList, List.cons_append, List.nil_append]
          refine z_if_ne (tgt := 44) dX5_add_39 (by decide) (fun _ => ?_) (fun _ => ?_)
          · refine z_iconst (v := -1) dX5_add_42 (by decide) ?_
            exact z_iret dX5_add_43 rfl rfl rfl rfl
          · refine z_aload (j := 0) dX5_add_44 rfl ?_
            refine z_getI (k := 1) dX5_add_46 zkl1 (by decide) rfl (.inr ⟨_, zw327⟩) (fun x7 => ?_)
            refine z_bipush (v := 6) dX5_add_49 (by decide) ?_
            refine z_icmp_lt (tgt := 57) dX5_add_51 (by decide) (fun _ => ?_) (fun _ => ?_)
            · refine z_aload (j := 0) dX5_add_57 rfl ?_
              refine z_iload_n (j := 3) dX5_add_59 rfl rfl ?_
              refine z_iload_n (j := 4) dX5_add_60 rfl rfl ?_
              refine z_iload (j := 5) dX5_add_61 rfl ?_
              refine z_iload (j := 6) dX5_add_63 rfl ?_
              refine z_ob (fun p8 ep8 lp8 kp8 => ?_)
              refine z_callV (As := [.int a2, .int a3, .int a4, .int a5]) (rest := []) (rv2 := fun (_ : Zh) => none) (h2 := fun (x : Zh) => x) dX5_add_65 vX0_put (.inr ⟨_, zw347⟩) (by decide) zkl1 lp8 kp8 rfl (by rw [ep8]; rfl) (by decide) (fun x hx => kX0_put G h (some p8) a2 a3 a4 a5 hx) (fun h9 => ?_)
              try dsimp only [Option.toList, List.cons_append, List.nil_append]
              refine z_aload (j := 0) dX5_add_68 rfl ?_
              refine z_getI (k := 1) dX5_add_70 zkl1 (by decide) rfl (.inr ⟨_, zw327⟩) (fun x10 => ?_)
              exact z_iret dX5_add_73 rfl rfl rfl rfl
            · refine z_bipush (v := -2) dX5_add_54 (by decide) ?_
              exact z_iret dX5_add_56 rfl rfl rfl rfl
def fX5_cut (h : Zh) (this : Option Nat) (a1 : Int32) : Option (Int32 × Zh) :=
  (zob h this 7).bind fun p1 =>
  (fX5_inLog h (some p1) a1).bind fun r2 =>
  if r2 = none then
    some ((-1 : Int32), h)
  else
    (zfI h r2 1 1).bind fun x3 =>
    if x3 = 0 then
      some ((-1 : Int32), h)
    else
      (zfI h r2 1 1).bind fun x4 =>
      (zgI h r2 1 1 (x4 - (1 : Int32))).bind fun h5 =>
      (zfI h5 r2 1 1).bind fun x6 =>
      some (x6, h5)
set_option maxRecDepth 100000 in
set_option maxHeartbeats 4000000 in
theorem kX5_cut (G : Zg) (h : Zh) (this : Option Nat) (a1 : Int32) {x : Int32 × Zh} (hx : fX5_cut h this a1 = some x) : zCt G yX5_cut cX5_cut 3 (Option.some Jvm.ClassFile.FieldType.int) 3 [zrv G.2.1 this, .int a1] h (some (.int x.1)) x.2 := by
  refine z_met (a := x) (rvf := fun (x : Int32 × Zh) => some (.int x.1)) (hff := fun (x : Int32 × Zh) => x.2) (lv := [(0, zrv G.2.1 this), (1, .int a1)]) (by decide +kernel) (by simp [lg_sl, zcat1, zcI, zcJ]) (by simp [lv_args, zcat1, zcI, zcJ]) ?_ hx
  unfold fX5_cut
  refine z_aload_n (j := 0) dX5_cut_0 rfl rfl ?_
  refine z_iload_n (j := 1) dX5_cut_1 rfl rfl ?_
  refine z_ob (fun p1 ep1 lp1 kp1 => ?_)
  refine z_callV (As := [.int a1]) (rest := []) (rv2 := fun (x : Option Nat) => some (zrv G.2.1 x)) (h2 := fun (_ : Option Nat) => h) dX5_cut_2 vX5_inLog (.inl zw190) (by decide) zkl6 lp1 kp1 rfl (by rw [ep1]; rfl) (by decide) (fun x hx => kX5_inLog G h (some p1) a1 hx) (fun r2 => ?_)
  try dsimp only [Option.toList, List.cons_append, List.nil_append]
  refine z_astore_n (i := 2) (lv' := [(2, zrv G.2.1 r2), (0, zrv G.2.1 this), (1, .int a1)]) dX5_cut_5 rfl (by decide) rfl ?_
  refine z_aload_n (j := 0) dX5_cut_6 rfl rfl ?_
  refine z_ifnull (tgt := 17) dX5_cut_7 (by decide) (fun _ => ?_) (fun _ => ?_)
  · refine z_iconst (v := -1) dX5_cut_17 (by decide) ?_
    exact z_iret dX5_cut_18 rfl rfl rfl rfl
  · refine z_aload_n (j := 0) dX5_cut_10 rfl rfl ?_
    refine z_getI (k := 1) dX5_cut_11 zkl1 (by decide) rfl (.inr ⟨_, zw327⟩) (fun x3 => ?_)
    refine z_if_ne (tgt := 19) dX5_cut_14 (by decide) (fun _ => ?_) (fun _ => ?_)
    · refine z_iconst (v := -1) dX5_cut_17 (by decide) ?_
      exact z_iret dX5_cut_18 rfl rfl rfl rfl
    · refine z_aload_n (j := 0) dX5_cut_19 rfl rfl ?_
      refine z_dup dX5_cut_20 (zcat1 _ _) ?_
      refine z_getI (k := 1) dX5_cut_21 zkl1 (by decide) rfl (.inr ⟨_, zw327⟩) (fun x4 => ?_)
      refine z_iconst (v := 1) dX5_cut_24 (by decide) ?_
      refine z_isub dX5_cut_25 ?_
      refine z_putI (k := 1) dX5_cut_26 zkl1 (by decide) (.inr ⟨_, zw327⟩) (.inl rfl) rfl rfl rfl (fun h5 => ?_)
      refine z_aload_n (j := 0) dX5_cut_29 rfl rfl ?_
      refine z_getI (k := 1) dX5_cut_30 zkl1 (by decide) rfl (.inr ⟨_, zw327⟩) (fun x6 => ?_)
      exact z_iret dX5_cut_33 rfl rfl rfl rfl
def fX5_drop (h : Zh) (this : Option Nat) (a1 : Int32) (a2 : Int32) : Option (Int32 × Zh) :=
  (zob h this 7).bind fun p1 =>
  (fX5_caseAt h (some p1) a1).bind fun r2 =>
  if r2 = none then
    some ((-1 : Int32), h)
  else
    (zfI h r2 1 2).bind fun x3 =>
    (if x3 = 0 then
      some (0 : Int32)
    else
      some (1 : Int32)).bind fun (v4 : Int32) =>
    (zbo a2).bind fun _ =>
    (zgI h r2 1 2 a2).bind fun h7 =>
    some (v4, h7)
set_option maxRecDepth 100000 in
set_option maxHeartbeats 4000000 in
theorem kX5_drop (G : Zg) (h : Zh) (this : Option Nat) (a1 : Int32) (a2 : Int32) {x : Int32 × Zh} (hx : fX5_drop h this a1 a2 = some x) : zCt G yX5_drop cX5_drop 5 (Option.some Jvm.ClassFile.FieldType.int) 2 [zrv G.2.1 this, .int a1, .int a2] h (some (.int x.1)) x.2 := by
  refine z_met (a := x) (rvf := fun (x : Int32 × Zh) => some (.int x.1)) (hff := fun (x : Int32 × Zh) => x.2) (lv := [(0, zrv G.2.1 this), (1, .int a1), (2, .int a2)]) (by decide +kernel) (by simp [lg_sl, zcat1, zcI, zcJ]) (by simp [lv_args, zcat1, zcI, zcJ]) ?_ hx
  unfold fX5_drop
  refine z_aload_n (j := 0) dX5_drop_0 rfl rfl ?_
  refine z_iload_n (j := 1) dX5_drop_1 rfl rfl ?_
  refine z_ob (fun p1 ep1 lp1 kp1 => ?_)
  refine z_callV (As := [.int a1]) (rest := []) (rv2 := fun (x : Option Nat) => some (zrv G.2.1 x)) (h2 := fun (_ : Option Nat) => h) dX5_drop_2 vX5_caseAt (.inl zw177) (by decide) zkl6 lp1 kp1 rfl (by rw [ep1]; rfl) (by decide) (fun x hx => kX5_caseAt G h (some p1) a1 hx) (fun r2 => ?_)
  try dsimp only [Option.toList, List.cons_append, List.nil_append]
  refine z_astore_n (i := 3) (lv' := [(3, zrv G.2.1 r2), (0, zrv G.2.1 this), (1, .int a1), (2, .int a2)]) dX5_drop_5 rfl (by decide) rfl ?_
  refine z_aload_n (j := 0) dX5_drop_6 rfl rfl ?_
  refine z_ifnonnull (tgt := 12) dX5_drop_7 (by decide) (fun _ => ?_) (fun _ => ?_)
  · refine z_iconst (v := -1) dX5_drop_10 (by decide) ?_
    exact z_iret dX5_drop_11 rfl rfl rfl rfl
  · refine z_aload_n (j := 0) dX5_drop_12 rfl rfl ?_
    refine z_getI (k := 2) dX5_drop_13 zkl1 (by decide) rfl (.inr ⟨_, zw328⟩) (fun x3 => ?_)
    refine z_join (pc2 := 24) (lv2 := fun (q : Int32) => [(2, .int a2), (3, zrv G.2.1 r2)]) (st2 := fun (q : Int32) => [.int q]) (h2 := fun (q : Int32) => h) (fun q => ?_) (fun F5 kF5 => ?_)
    · obtain ⟨v4, e0⟩ : ∃ z, z = q := ⟨_, rfl⟩
      subst e0
      try dsimp only
      refine z_istore (i := 4) (lv' := [(4, .int v4), (2, .int a2), (3, zrv G.2.1 r2)]) dX5_drop_24 (by decide) (by simp [zcat1, zcI, zcJ]) ?_
      refine z_aload_n (j := 2) dX5_drop_26 rfl rfl ?_
      refine z_iload_n (j := 1) dX5_drop_27 rfl rfl ?_
      refine z_bo (fun hbb6 => ?_)
      try dsimp only
      refine z_putI (k := 2) dX5_drop_28 zkl1 (by decide) (.inr ⟨_, zw328⟩) (.inl rfl) (by rcases hbb6 with q | q <;> rw [q] <;> rfl) (by rcases hbb6 with q | q <;> rw [q] <;> rfl) rfl (fun h7 => ?_)
      refine z_iload (j := 0) dX5_drop_31 rfl ?_
      exact z_iret dX5_drop_33 rfl rfl rfl rfl
    · refine z_itb ?_
      refine z_if_eq (tgt := 23) dX5_drop_16 (by decide) (fun _ => ?_) (fun _ => ?_)
      · refine z_iconst (v := 0) dX5_drop_23 (by decide) ?_
        refine z_sb ?_
        refine z_at [3, 0] rfl ?_
        exact kF5 (0 : Int32)
      · refine z_iconst (v := 1) dX5_drop_19 (by decide) ?_
        refine z_goto (tgt := 24) dX5_drop_20 (by decide) ?_
        refine z_sb ?_
        refine z_at [3, 0] rfl ?_
        exact kF5 (1 : Int32)
def fX5_told (h : Zh) (this : Option Nat) (a1 : Int32) (a2 : Int32) (a3 : Int32) : Option (Int32) :=
  (zob h this 7).bind fun p1 =>
  (fX5_caseAt h (some p1) a1).bind fun r2 =>
  if r2 = none then
    some (-9 : Int32)
  else
    if a2 = (-1 : Int32) then
      if a3 = 0 then
        (zfI h r2 1 1).bind fun x3 =>
        some x3
      else
        if a2 = (-1 : Int32) then
          if a3 = (1 : Int32) then
            (zfI h r2 1 2).bind fun x4 =>
            (if x4 = 0 then
              some (0 : Int32)
            else
              some (1 : Int32)).bind fun (v5 : Int32) =>
            some v5
          else
            if a2 < 0 then
              some (-9 : Int32)
            else
              (zfI h r2 1 1).bind fun x7 =>
              if x7 ≤ a2 then
                some (-9 : Int32)
              else
                if a3 < 0 then
                  some (-9 : Int32)
                else
                  if a3 ≤ (3 : Int32) then
                    (zob h r2 2).bind fun p8 =>
                    (fX0_tell h (some p8) a2 a3).bind fun x9 =>
                    some x9
                  else
                    some (-9 : Int32)
        else
          if a2 < 0 then
            some (-9 : Int32)
          else
            (zfI h r2 1 1).bind fun x10 =>
            if x10 ≤ a2 then
              some (-9 : Int32)
            else
              if a3 < 0 then
                some (-9 : Int32)
              else
                if a3 ≤ (3 : Int32) then
                  (zob h r2 2).bind fun p11 =>
                  (fX0_tell h (some p11) a2 a3).bind fun x12 =>
                  some x12
                else
                  some (-9 : Int32)
    else
      if a2 = (-1 : Int32) then
        if a3 = (1 : Int32) then
          (zfI h r2 1 2).bind fun x13 =>
          (if x13 = 0 then
            some (0 : Int32)
          else
            some (1 : Int32)).bind fun (v14 : Int32) =>
          some v14
        else
          if a2 < 0 then
            some (-9 : Int32)
          else
            (zfI h r2 1 1).bind fun x16 =>
            if x16 ≤ a2 then
              some (-9 : Int32)
            else
              if a3 < 0 then
                some (-9 : Int32)
              else
                if a3 ≤ (3 : Int32) then
                  (zob h r2 2).bind fun p17 =>
                  (fX0_tell h (some p17) a2 a3).bind fun x18 =>
                  some x18
                else
                  some (-9 : Int32)
      else
        if a2 < 0 then
          some (-9 : Int32)
        else
          (zfI h r2 1 1).bind fun x19 =>
          if x19 ≤ a2 then
            some (-9 : Int32)
          else
            if a3 < 0 then
              some (-9 : Int32)
            else
              if a3 ≤ (3 : Int32) then
                (zob h r2 2).bind fun p20 =>
                (fX0_tell h (some p20) a2 a3).bind fun x21 =>
                some x21
              else
                some (-9 : Int32)
set_option maxRecDepth 100000 in
set_option maxHeartbeats 4000000 in
theorem kX5_told (G : Zg) (h : Zh) (this : Option Nat) (a1 : Int32) (a2 : Int32) (a3 : Int32) {x : Int32} (hx : fX5_told h this a1 a2 a3 = some x) : zCt G yX5_told cX5_told 5 (Option.some Jvm.ClassFile.FieldType.int) 2 [zrv G.2.1 this, .int a1, .int a2, .int a3] h (some (.int x)) h := by
  refine z_met (a := x) (rvf := fun (x : Int32) => some (.int x)) (hff := fun (_ : Int32) => h) (lv := [(0, zrv G.2.1 this), (1, .int a1), (2, .int a2), (3, .int a3)]) (by decide +kernel) (by simp [lg_sl, zcat1, zcI, zcJ]) (by simp [lv_args, zcat1, zcI, zcJ]) ?_ hx
  unfold fX5_told
  refine z_aload_n (j := 0) dX5_told_0 rfl rfl ?_
  refine z_iload_n (j := 1) dX5_told_1 rfl rfl ?_
  refine z_ob (fun p1 ep1 lp1 kp1 => ?_)
  refine z_callV (As := [.int a1]) (rest := []) (rv2 := fun (x : Option Nat) => some (zrv G.2.1 x)) (h2 := fun (_ : Option Nat) => h) dX5_told_2 vX5_caseAt (.inl zw177) (by decide) zkl6 lp1 kp1 rfl (by rw [ep1]; rfl) (by decide) (fun x hx => kX5_caseAt G h (some p1) a1 hx) (fun r2 => ?_)
  try dsimp only [Option.toList, List.cons_append, List.nil_append]
  refine z_astore (i := 4) (lv' := [(4, zrv G.2.1 r2), (0, zrv G.2.1 this), (1, .int a1), (2, .int a2), (3, .int a3)]) dX5_told_5 (by decide) rfl ?_
  refine z_aload (j := 0) dX5_told_7 rfl ?_
  refine z_ifnonnull (tgt := 15) dX5_told_9 (by decide) (fun _ => ?_) (fun _ => ?_)
  · refine z_bipush (v := -9) dX5_told_12 (by decide) ?_
    exact z_iret dX5_told_14 rfl rfl rfl rfl
  · refine z_iload_n (j := 3) dX5_told_15 rfl rfl ?_
    refine z_iconst (v := -1) dX5_told_16 (by decide) ?_
    refine z_icmp_ne (tgt := 30) dX5_told_17 (by decide) (fun _ => ?_) (fun _ => ?_)
    · refine z_iload_n (j := 4) dX5_told_20 rfl rfl ?_
      refine z_if_ne (tgt := 30) dX5_told_21 (by decide) (fun _ => ?_) (fun _ => ?_)
      · refine z_aload (j := 0) dX5_told_24 rfl ?_
        refine z_getI (k := 1) dX5_told_26 zkl1 (by decide) rfl (.inr ⟨_, zw327⟩) (fun x3 => ?_)
        exact z_iret dX5_told_29 rfl rfl rfl rfl
      · refine z_iload_n (j := 3) dX5_told_30 rfl rfl ?_
        refine z_iconst (v := -1) dX5_told_31 (by decide) ?_
        refine z_icmp_ne (tgt := 54) dX5_told_32 (by decide) (fun _ => ?_) (fun _ => ?_)
        · refine z_iload_n (j := 4) dX5_told_35 rfl rfl ?_
          refine z_iconst (v := 1) dX5_told_36 (by decide) ?_
          refine z_icmp_ne (tgt := 54) dX5_told_37 (by decide) (fun _ => ?_) (fun _ => ?_)
          · refine z_aload (j := 0) dX5_told_40 rfl ?_
            refine z_getI (k := 2) dX5_told_42 zkl1 (by decide) rfl (.inr ⟨_, zw328⟩) (fun x4 => ?_)
            refine z_join (pc2 := 53) (lv2 := fun (q : Int32) => []) (st2 := fun (q : Int32) => [.int q]) (h2 := fun (q : Int32) => h) (fun q => ?_) (fun F6 kF6 => ?_)
            · obtain ⟨v5, e0⟩ : ∃ z, z = q := ⟨_, rfl⟩
              subst e0
              try dsimp only
              exact z_iret dX5_told_53 rfl rfl rfl rfl
            · refine z_itb ?_
              refine z_if_eq (tgt := 52) dX5_told_45 (by decide) (fun _ => ?_) (fun _ => ?_)
              · refine z_iconst (v := 0) dX5_told_52 (by decide) ?_
                refine z_sb ?_
                refine z_at [] rfl ?_
                exact kF6 (0 : Int32)
              · refine z_iconst (v := 1) dX5_told_48 (by decide) ?_
                refine z_goto (tgt := 53) dX5_told_49 (by decide) ?_
                refine z_sb ?_
                refine z_at [] rfl ?_
                exact kF6 (1 : Int32)
          · refine z_iload_n (j := 3) dX5_told_54 rfl rfl ?_
            refine z_if_lt (tgt := 76) dX5_told_55 (by decide) (fun _ => ?_) (fun _ => ?_)
            · refine z_bipush (v := -9) dX5_told_76 (by decide) ?_
              exact z_iret dX5_told_78 rfl rfl rfl rfl
            · refine z_iload_n (j := 3) dX5_told_58 rfl rfl ?_
              refine z_aload (j := 0) dX5_told_59 rfl ?_
              refine z_getI (k := 1) dX5_told_61 zkl1 (by decide) rfl (.inr ⟨_, zw327⟩) (fun x7 => ?_)
              refine z_icmp_ge (tgt := 76) dX5_told_64 (by decide) (fun _ => ?_) (fun _ => ?_)
              · refine z_bipush (v := -9) dX5_told_76 (by decide) ?_
                exact z_iret dX5_told_78 rfl rfl rfl rfl
              · refine z_iload_n (j := 4) dX5_told_67 rfl rfl ?_
                refine z_if_lt (tgt := 76) dX5_told_68 (by decide) (fun _ => ?_) (fun _ => ?_)
                · refine z_bipush (v := -9) dX5_told_76 (by decide) ?_
                  exact z_iret dX5_told_78 rfl rfl rfl rfl
                · refine z_iload_n (j := 4) dX5_told_71 rfl rfl ?_
                  refine z_iconst (v := 3) dX5_told_72 (by decide) ?_
                  refine z_icmp_le (tgt := 79) dX5_told_73 (by decide) (fun _ => ?_) (fun _ => ?_)
                  · refine z_aload (j := 0) dX5_told_79 rfl ?_
                    refine z_iload_n (j := 3) dX5_told_81 rfl rfl ?_
                    refine z_iload_n (j := 4) dX5_told_82 rfl rfl ?_
                    refine z_ob (fun p8 ep8 lp8 kp8 => ?_)
                    refine z_callV (As := [.int a2, .int a3]) (rest := []) (rv2 := fun (x : Int32) => some (.int x)) (h2 := fun (_ : Int32) => h) dX5_told_83 vX0_tell (.inr ⟨_, zw181⟩) (by decide) zkl1 lp8 kp8 rfl (by rw [ep8]; rfl) (by decide) (fun x hx => kX0_tell G h (some p8) a2 a3 hx) (fun x9 => ?_)
                    try dsimp only [Option.toList, List.cons_append, List.nil_append]
                    exact z_iret dX5_told_86 rfl rfl rfl rfl
                  · refine z_bipush (v := -9) dX5_told_76 (by decide) ?_
                    exact z_iret dX5_told_78 rfl rfl rfl rfl
        · refine z_iload_n (j := 3) dX5_told_54 rfl rfl ?_
          refine z_if_lt (tgt := 76) dX5_told_55 (by decide) (fun _ => ?_) (fun _ => ?_)
          · refine z_bipush (v := -9) dX5_told_76 (by decide) ?_
            exact z_iret dX5_told_78 rfl rfl rfl rfl
          · refine z_iload_n (j := 3) dX5_told_58 rfl rfl ?_
            refine z_aload (j := 0) dX5_told_59 rfl ?_
            refine z_getI (k := 1) dX5_told_61 zkl1 (by decide) rfl (.inr ⟨_, zw327⟩) (fun x10 => ?_)
            refine z_icmp_ge (tgt := 76) dX5_told_64 (by decide) (fun _ => ?_) (fun _ => ?_)
            · refine z_bipush (v := -9) dX5_told_76 (by decide) ?_
              exact z_iret dX5_told_78 rfl rfl rfl rfl
            · refine z_iload_n (j := 4) dX5_told_67 rfl rfl ?_
              refine z_if_lt (tgt := 76) dX5_told_68 (by decide) (fun _ => ?_) (fun _ => ?_)
              · refine z_bipush (v := -9) dX5_told_76 (by decide) ?_
                exact z_iret dX5_told_78 rfl rfl rfl rfl
              · refine z_iload_n (j := 4) dX5_told_71 rfl rfl ?_
                refine z_iconst (v := 3) dX5_told_72 (by decide) ?_
                refine z_icmp_le (tgt := 79) dX5_told_73 (by decide) (fun _ => ?_) (fun _ => ?_)
                · refine z_aload (j := 0) dX5_told_79 rfl ?_
                  refine z_iload_n (j := 3) dX5_told_81 rfl rfl ?_
                  refine z_iload_n (j := 4) dX5_told_82 rfl rfl ?_
                  refine z_ob (fun p11 ep11 lp11 kp11 => ?_)
                  refine z_callV (As := [.int a2, .int a3]) (rest := []) (rv2 := fun (x : Int32) => some (.int x)) (h2 := fun (_ : Int32) => h) dX5_told_83 vX0_tell (.inr ⟨_, zw181⟩) (by decide) zkl1 lp11 kp11 rfl (by rw [ep11]; rfl) (by decide) (fun x hx => kX0_tell G h (some p11) a2 a3 hx) (fun x12 => ?_)
                  try dsimp only [Option.toList, List.cons_append, List.nil_append]
                  exact z_iret dX5_told_86 rfl rfl rfl rfl
                · refine z_bipush (v := -9) dX5_told_76 (by decide) ?_
                  exact z_iret dX5_told_78 rfl rfl rfl rfl
    · refine z_iload_n (j := 3) dX5_told_30 rfl rfl ?_
      refine z_iconst (v := -1) dX5_told_31 (by decide) ?_
      refine z_icmp_ne (tgt := 54) dX5_told_32 (by decide) (fun _ => ?_) (fun _ => ?_)
      · refine z_iload_n (j := 4) dX5_told_35 rfl rfl ?_
        refine z_iconst (v := 1) dX5_told_36 (by decide) ?_
        refine z_icmp_ne (tgt := 54) dX5_told_37 (by decide) (fun _ => ?_) (fun _ => ?_)
        · refine z_aload (j := 0) dX5_told_40 rfl ?_
          refine z_getI (k := 2) dX5_told_42 zkl1 (by decide) rfl (.inr ⟨_, zw328⟩) (fun x13 => ?_)
          refine z_join (pc2 := 53) (lv2 := fun (q : Int32) => []) (st2 := fun (q : Int32) => [.int q]) (h2 := fun (q : Int32) => h) (fun q => ?_) (fun F15 kF15 => ?_)
          · obtain ⟨v14, e0⟩ : ∃ z, z = q := ⟨_, rfl⟩
            subst e0
            try dsimp only
            exact z_iret dX5_told_53 rfl rfl rfl rfl
          · refine z_itb ?_
            refine z_if_eq (tgt := 52) dX5_told_45 (by decide) (fun _ => ?_) (fun _ => ?_)
            · refine z_iconst (v := 0) dX5_told_52 (by decide) ?_
              refine z_sb ?_
              refine z_at [] rfl ?_
              exact kF15 (0 : Int32)
            · refine z_iconst (v := 1) dX5_told_48 (by decide) ?_
              refine z_goto (tgt := 53) dX5_told_49 (by decide) ?_
              refine z_sb ?_
              refine z_at [] rfl ?_
              exact kF15 (1 : Int32)
        · refine z_iload_n (j := 3) dX5_told_54 rfl rfl ?_
          refine z_if_lt (tgt := 76) dX5_told_55 (by decide) (fun _ => ?_) (fun _ => ?_)
          · refine z_bipush (v := -9) dX5_told_76 (by decide) ?_
            exact z_iret dX5_told_78 rfl rfl rfl rfl
          · refine z_iload_n (j := 3) dX5_told_58 rfl rfl ?_
            refine z_aload (j := 0) dX5_told_59 rfl ?_
            refine z_getI (k := 1) dX5_told_61 zkl1 (by decide) rfl (.inr ⟨_, zw327⟩) (fun x16 => ?_)
            refine z_icmp_ge (tgt := 76) dX5_told_64 (by decide) (fun _ => ?_) (fun _ => ?_)
            · refine z_bipush (v := -9) dX5_told_76 (by decide) ?_
              exact z_iret dX5_told_78 rfl rfl rfl rfl
            · refine z_iload_n (j := 4) dX5_told_67 rfl rfl ?_
              refine z_if_lt (tgt := 76) dX5_told_68 (by decide) (fun _ => ?_) (fun _ => ?_)
              · refine z_bipush (v := -9) dX5_told_76 (by decide) ?_
                exact z_iret dX5_told_78 rfl rfl rfl rfl
              · refine z_iload_n (j := 4) dX5_told_71 rfl rfl ?_
                refine z_iconst (v := 3) dX5_told_72 (by decide) ?_
                refine z_icmp_le (tgt := 79) dX5_told_73 (by decide) (fun _ => ?_) (fun _ => ?_)
                · refine z_aload (j := 0) dX5_told_79 rfl ?_
                  refine z_iload_n (j := 3) dX5_told_81 rfl rfl ?_
                  refine z_iload_n (j := 4) dX5_told_82 rfl rfl ?_
                  refine z_ob (fun p17 ep17 lp17 kp17 => ?_)
                  refine z_callV (As := [.int a2, .int a3]) (rest := []) (rv2 := fun (x : Int32) => some (.int x)) (h2 := fun (_ : Int32) => h) dX5_told_83 vX0_tell (.inr ⟨_, zw181⟩) (by decide) zkl1 lp17 kp17 rfl (by rw [ep17]; rfl) (by decide) (fun x hx => kX0_tell G h (some p17) a2 a3 hx) (fun x18 => ?_)
                  try dsimp only [Option.toList, List.cons_append, List.nil_append]
                  exact z_iret dX5_told_86 rfl rfl rfl rfl
                · refine z_bipush (v := -9) dX5_told_76 (by decide) ?_
                  exact z_iret dX5_told_78 rfl rfl rfl rfl
      · refine z_iload_n (j := 3) dX5_told_54 rfl rfl ?_
        refine z_if_lt (tgt := 76) dX5_told_55 (by decide) (fun _ => ?_) (fun _ => ?_)
        · refine z_bipush (v := -9) dX5_told_76 (by decide) ?_
          exact z_iret dX5_told_78 rfl rfl rfl rfl
        · refine z_iload_n (j := 3) dX5_told_58 rfl rfl ?_
          refine z_aload (j := 0) dX5_told_59 rfl ?_
          refine z_getI (k := 1) dX5_told_61 zkl1 (by decide) rfl (.inr ⟨_, zw327⟩) (fun x19 => ?_)
          refine z_icmp_ge (tgt := 76) dX5_told_64 (by decide) (fun _ => ?_) (fun _ => ?_)
          · refine z_bipush (v := -9) dX5_told_76 (by decide) ?_
            exact z_iret dX5_told_78 rfl rfl rfl rfl
          · refine z_iload_n (j := 4) dX5_told_67 rfl rfl ?_
            refine z_if_lt (tgt := 76) dX5_told_68 (by decide) (fun _ => ?_) (fun _ => ?_)
            · refine z_bipush (v := -9) dX5_told_76 (by decide) ?_
              exact z_iret dX5_told_78 rfl rfl rfl rfl
            · refine z_iload_n (j := 4) dX5_told_71 rfl rfl ?_
              refine z_iconst (v := 3) dX5_told_72 (by decide) ?_
              refine z_icmp_le (tgt := 79) dX5_told_73 (by decide) (fun _ => ?_) (fun _ => ?_)
              · refine z_aload (j := 0) dX5_told_79 rfl ?_
                refine z_iload_n (j := 3) dX5_told_81 rfl rfl ?_
                refine z_iload_n (j := 4) dX5_told_82 rfl rfl ?_
                refine z_ob (fun p20 ep20 lp20 kp20 => ?_)
                refine z_callV (As := [.int a2, .int a3]) (rest := []) (rv2 := fun (x : Int32) => some (.int x)) (h2 := fun (_ : Int32) => h) dX5_told_83 vX0_tell (.inr ⟨_, zw181⟩) (by decide) zkl1 lp20 kp20 rfl (by rw [ep20]; rfl) (by decide) (fun x hx => kX0_tell G h (some p20) a2 a3 hx) (fun x21 => ?_)
                try dsimp only [Option.toList, List.cons_append, List.nil_append]
                exact z_iret dX5_told_86 rfl rfl rfl rfl
              · refine z_bipush (v := -9) dX5_told_76 (by decide) ?_
                exact z_iret dX5_told_78 rfl rfl rfl rfl
def fX5_pairs (h : Zh) (this : Option Nat) (a1 : Int32) (a2 : Int32) (a3 : Int32) : Option (Int32) :=
  (zloop (fun ((v1, v2) : Int32 × Int32) =>
    ((zfI h this 6 1).bind fun x6 =>
    if x6 ≤ v2 then
      some (.inr v1)
    else
      (zob h this 7).bind fun p7 =>
      (fX5_inLog h (some p7) v2).bind fun r8 =>
      (if r8 = none then
        some v1
      else
        (zloop (fun ((v11, v12) : Int32 × Int32) =>
          ((zfI h r8 1 1).bind fun x16 =>
          if x16 ≤ v12 then
            some (.inr v11)
          else
            (zob h r8 2).bind fun p17 =>
            (fX0_tell h (some p17) (v12 - (1 : Int32)) a1).bind fun x18 =>
            (if x18 = a2 then
              (zob h r8 2).bind fun p21 =>
              (fX0_tell h (some p21) v12 a1).bind fun x22 =>
              if x22 = a3 then
                some (v11 + (1 : Int32))
              else
                some v11
            else
              some v11).bind fun (v19 : Int32) =>
            some (.inl (v19, v12 + (1 : Int32))) : Option ((Int32 × Int32) ⊕ Int32))) zFU (v1, (1 : Int32))).bind fun (w13 : Int32) =>
        some w13).bind fun (v9 : Int32) =>
      some (.inl (v9, v2 + (1 : Int32))) : Option ((Int32 × Int32) ⊕ Int32))) zFU ((0 : Int32), (0 : Int32))).bind fun (w3 : Int32) =>
  some w3
set_option maxRecDepth 100000 in
set_option maxHeartbeats 4000000 in
theorem kX5_pairs (G : Zg) (h : Zh) (this : Option Nat) (a1 : Int32) (a2 : Int32) (a3 : Int32) {x : Int32} (hx : fX5_pairs h this a1 a2 a3 = some x) : zCt G yX5_pairs cX5_pairs 8 (Option.some Jvm.ClassFile.FieldType.int) 3 [zrv G.2.1 this, .int a1, .int a2, .int a3] h (some (.int x)) h := by
  refine z_met (a := x) (rvf := fun (x : Int32) => some (.int x)) (hff := fun (_ : Int32) => h) (lv := [(0, zrv G.2.1 this), (1, .int a1), (2, .int a2), (3, .int a3)]) (by decide +kernel) (by simp [lg_sl, zcat1, zcI, zcJ]) (by simp [lv_args, zcat1, zcI, zcJ]) ?_ hx
  unfold fX5_pairs
  refine z_iconst (v := 0) dX5_pairs_0 (by decide) ?_
  refine z_istore (i := 4) (lv' := [(4, .int (0 : Int32)), (0, zrv G.2.1 this), (1, .int a1), (2, .int a2), (3, .int a3)]) dX5_pairs_1 (by decide) rfl ?_
  refine z_iconst (v := 0) dX5_pairs_3 (by decide) ?_
  refine z_istore (i := 5) (lv' := [(5, .int (0 : Int32)), (4, .int (0 : Int32)), (0, zrv G.2.1 this), (1, .int a1), (2, .int a2), (3, .int a3)]) dX5_pairs_4 (by decide) rfl ?_
  refine z_at [2, 3, 4, 5, 1, 0] rfl ?_
  refine z_join (pc2 := 85) (lv2 := fun (q : Int32) => [(4, .int q)]) (st2 := fun _ => []) (h2 := fun (q : Int32) => h) (fun q => ?_) (fun F4 kF4 => ?_)
  · obtain ⟨w3, e0⟩ : ∃ z, z = q := ⟨_, rfl⟩
    subst e0
    try dsimp only
    refine z_iload (j := 0) dX5_pairs_85 rfl ?_
    exact z_iret dX5_pairs_87 rfl rfl rfl rfl
  · refine z_loop (lvf := fun (q : Int32 × Int32) => [(0, zrv G.2.1 this), (1, .int a1), (2, .int a2), (3, .int a3), (4, .int q.1), (5, .int q.2)]) (hf2 := fun (q : Int32 × Int32) => h) (s0 := ((0 : Int32), (0 : Int32))) (fun K5 bK5 rK5 q => ?_)
    obtain ⟨v1, v2⟩ := q
    try dsimp only
    refine z_iload (j := 5) dX5_pairs_6 rfl ?_
    refine z_aload_n (j := 0) dX5_pairs_8 rfl rfl ?_
    refine z_as ?_
    refine z_getI (k := 1) dX5_pairs_9 zkl6 (by decide) rfl (.inl zw149) (fun x6 => ?_)
    refine z_itb ?_
    refine z_icmp_ge (tgt := 85) dX5_pairs_12 (by decide) (fun _ => ?_) (fun _ => ?_)
    · refine z_sb ?_
      refine z_eq (rK5 _) ?_
      refine z_at [4] rfl ?_
      exact kF4 v1
    · refine z_aload_n (j := 0) dX5_pairs_15 rfl rfl ?_
      refine z_iload (j := 5) dX5_pairs_16 rfl ?_
      refine z_as ?_
      refine z_ob (fun p7 ep7 lp7 kp7 => ?_)
      refine z_as ?_
      refine z_callV (As := [.int v2]) (rest := []) (rv2 := fun (x : Option Nat) => some (zrv G.2.1 x)) (h2 := fun (_ : Option Nat) => h) dX5_pairs_18 vX5_inLog (.inl zw190) (by decide) zkl6 lp7 kp7 rfl (by rw [ep7]; rfl) (by decide) (fun x hx => kX5_inLog G h (some p7) v2 hx) (fun r8 => ?_)
      try dsimp only [Option.toList, List.cons_append, List.nil_append]
      refine z_astore (i := 6) (lv' := [(6, zrv G.2.1 r8), (0, zrv G.2.1 this), (1, .int a1), (2, .int a2), (3, .int a3), (4, .int v1), (5, .int v2)]) dX5_pairs_21 (by decide) rfl ?_
      refine z_aload (j := 0) dX5_pairs_23 rfl ?_
      refine z_as ?_
      refine z_join (pc2 := 79) (lv2 := fun (q : Int32) => [(0, zrv G.2.1 this), (1, .int a1), (2, .int a2), (3, .int a3), (4, .int q), (5, .int v2)]) (st2 := fun (q : Int32) => []) (h2 := fun (q : Int32) => h) (fun q => ?_) (fun F10 kF10 => ?_)
      · obtain ⟨v9, e0⟩ : ∃ z, z = q := ⟨_, rfl⟩
        subst e0
        try dsimp only
        refine z_iinc (j := 5) (v := v2 + (1 : Int32)) (lv' := [(5, .int (v2 + (1 : Int32))), (0, zrv G.2.1 this), (1, .int a1), (2, .int a2), (3, .int a3), (4, .int v9)]) dX5_pairs_79 rfl rfl (by decide) rfl ?_
        refine z_goto (tgt := 6) dX5_pairs_82 (by decide) ?_
        refine z_sb ?_
        refine z_at [1, 2, 3, 4, 5, 0] rfl ?_
        exact bK5 (v9, v2 + (1 : Int32))
      · refine z_itb ?_
        refine z_ifnonnull (tgt := 31) dX5_pairs_25 (by decide) (fun _ => ?_) (fun _ => ?_)
        · refine z_goto (tgt := 79) dX5_pairs_28 (by decide) ?_
          refine z_sb ?_
          refine z_at [1, 2, 3, 4, 5, 6] rfl ?_
          exact kF10 v1
        · refine z_iconst (v := 1) dX5_pairs_31 (by decide) ?_
          refine z_istore (i := 7) (lv' := [(7, .int (1 : Int32)), (6, zrv G.2.1 r8), (0, zrv G.2.1 this), (1, .int a1), (2, .int a2), (3, .int a3), (4, .int v1), (5, .int v2)]) dX5_pairs_32 (by decide) (by simp [zcat1, zcI, zcJ]) ?_
          refine z_as ?_
          refine z_at [2, 3, 4, 5, 6, 7, 1, 0] rfl ?_
          refine z_join (pc2 := 79) (lv2 := fun (q : Int32) => [(0, zrv G.2.1 this), (1, .int a1), (2, .int a2), (3, .int a3), (4, .int q), (5, .int v2)]) (st2 := fun _ => []) (h2 := fun (q : Int32) => h) (fun q => ?_) (fun F14 kF14 => ?_)
          · obtain ⟨w13, e0⟩ : ∃ z, z = q := ⟨_, rfl⟩
            subst e0
            try dsimp only
            refine z_sb ?_
            refine z_at [0, 1, 2, 3, 4, 5] rfl ?_
            exact kF10 w13
          · refine z_loop (lvf := fun (q : Int32 × Int32) => [(0, zrv G.2.1 this), (1, .int a1), (2, .int a2), (3, .int a3), (4, .int q.1), (5, .int v2), (6, zrv G.2.1 r8), (7, .int q.2)]) (hf2 := fun (q : Int32 × Int32) => h) (s0 := (v1, (1 : Int32))) (fun K15 bK15 rK15 q => ?_)
            obtain ⟨v11, v12⟩ := q
            try dsimp only
            refine z_iload (j := 7) dX5_pairs_34 rfl ?_
            refine z_aload (j := 6) dX5_pairs_36 rfl ?_
            refine z_as ?_
            refine z_getI (k := 1) dX5_pairs_38 zkl1 (by decide) rfl (.inr ⟨_, zw327⟩) (fun x16 => ?_)
            refine z_itb ?_
            refine z_icmp_ge (tgt := 79) dX5_pairs_41 (by decide) (fun _ => ?_) (fun _ => ?_)
            · refine z_sb ?_
              refine z_eq (rK15 _) ?_
              refine z_at [0, 1, 2, 3, 4, 5] rfl ?_
              exact kF14 v11
            · refine z_aload (j := 6) dX5_pairs_44 rfl ?_
              refine z_iload (j := 7) dX5_pairs_46 rfl ?_
              refine z_iconst (v := 1) dX5_pairs_48 (by decide) ?_
              refine z_isub dX5_pairs_49 ?_
              refine z_iload_n (j := 1) dX5_pairs_50 rfl rfl ?_
              refine z_as ?_
              refine z_ob (fun p17 ep17 lp17 kp17 => ?_)
              refine z_as ?_
              refine z_callV (As := [.int (v12 - (1 : Int32)), .int a1]) (rest := []) (rv2 := fun (x : Int32) => some (.int x)) (h2 := fun (_ : Int32) => h) dX5_pairs_51 vX0_tell (.inr ⟨_, zw181⟩) (by decide) zkl1 lp17 kp17 rfl (by rw [ep17]; rfl) (by decide) (fun x hx => kX0_tell G h (some p17) (v12 - (1 : Int32)) a1 hx) (fun x18 => ?_)
              try dsimp only [Option.toList, List.cons_append, List.nil_append]
              refine z_iload_n (j := 2) dX5_pairs_54 rfl rfl ?_
              refine z_as ?_
              refine z_join (pc2 := 73) (lv2 := fun (q : Int32) => [(0, zrv G.2.1 this), (1, .int a1), (2, .int a2), (3, .int a3), (4, .int q), (5, .int v2), (6, zrv G.2.1 r8), (7, .int v12)]) (st2 := fun (q : Int32) => []) (h2 := fun (q : Int32) => h) (fun q => ?_) (fun F20 kF20 => ?_)
              · obtain ⟨v19, e0⟩ : ∃ z, z = q := ⟨_, rfl⟩
                subst e0
                try dsimp only
                refine z_iinc (j := 7) (v := v12 + (1 : Int32)) (lv' := [(7, .int (v12 + (1 : Int32))), (0, zrv G.2.1 this), (1, .int a1), (2, .int a2), (3, .int a3), (4, .int v19), (5, .int v2), (6, zrv G.2.1 r8)]) dX5_pairs_73 rfl rfl (by decide) (by simp [zcat1, zcI, zcJ]) ?_
                refine z_goto (tgt := 34) dX5_pairs_76 (by decide) ?_
                refine z_sb ?_
                refine z_at [1, 2, 3, 4, 5, 6, 7, 0] rfl ?_
                exact bK15 (v19, v12 + (1 : Int32))
              · refine z_itb ?_
                refine z_icmp_ne (tgt := 73) dX5_pairs_55 (by decide) (fun _ => ?_) (fun _ => ?_)
                · refine z_aload (j := 6) dX5_pairs_58 rfl ?_
                  refine z_iload (j := 7) dX5_pairs_60 rfl ?_
                  refine z_iload_n (j := 1) dX5_pairs_62 rfl rfl ?_
                  refine z_as ?_
                  refine z_ob (fun p21 ep21 lp21 kp21 => ?_)
                  refine z_as ?_
                  refine z_callV (As := [.int v12, .int a1]) (rest := []) (rv2 := fun (x : Int32) => some (.int x)) (h2 := fun (_ : Int32) => h) dX5_pairs_63 vX0_tell (.inr ⟨_, zw181⟩) (by decide) zkl1 lp21 kp21 rfl (by rw [ep21]; rfl) (by decide) (fun x hx => kX0_tell G h (some p21) v12 a1 hx) (fun x22 => ?_)
                  try dsimp only [Option.toList, List.cons_append, List.nil_append]
                  refine z_iload_n (j := 3) dX5_pairs_66 rfl rfl ?_
                  refine z_itb ?_
                  refine z_icmp_ne (tgt := 73) dX5_pairs_67 (by decide) (fun _ => ?_) (fun _ => ?_)
                  · refine z_iinc (j := 4) (v := v11 + (1 : Int32)) (lv' := [(4, .int (v11 + (1 : Int32))), (0, zrv G.2.1 this), (1, .int a1), (2, .int a2), (3, .int a3), (5, .int v2), (6, zrv G.2.1 r8), (7, .int v12)]) dX5_pairs_70 rfl rfl (by decide) rfl ?_
                    refine z_sb ?_
                    refine z_at [1, 2, 3, 4, 0, 5, 6, 7] rfl ?_
                    exact kF20 (v11 + (1 : Int32))
                  · refine z_sb ?_
                    refine z_at [0, 1, 2, 3, 4, 5, 6, 7] rfl ?_
                    exact kF20 v11
                · refine z_sb ?_
                  refine z_at [0, 1, 2, 3, 4, 5, 6, 7] rfl ?_
                  exact kF20 v11
def fX5_follows (h : Zh) (this : Option Nat) (a1 : Int32) (a2 : Int32) : Option (Int32) :=
  (fX5_isName h a1).bind fun x1 =>
  if x1 = 0 then
    some (-1 : Int32)
  else
    (fX5_isName h a2).bind fun x2 =>
    if x2 = 0 then
      some (-1 : Int32)
    else
      (zob h this 7).bind fun p3 =>
      (fX5_pairs h (some p3) (0 : Int32) a2 a1).bind fun x4 =>
      some x4
set_option maxRecDepth 100000 in
set_option maxHeartbeats 4000000 in
theorem kX5_follows (G : Zg) (h : Zh) (this : Option Nat) (a1 : Int32) (a2 : Int32) {x : Int32} (hx : fX5_follows h this a1 a2 = some x) : zCt G yX5_follows cX5_follows 3 (Option.some Jvm.ClassFile.FieldType.int) 4 [zrv G.2.1 this, .int a1, .int a2] h (some (.int x)) h := by
  refine z_met (a := x) (rvf := fun (x : Int32) => some (.int x)) (hff := fun (_ : Int32) => h) (lv := [(0, zrv G.2.1 this), (1, .int a1), (2, .int a2)]) (by decide +kernel) (by simp [lg_sl, zcat1, zcI, zcJ]) (by simp [lv_args, zcat1, zcI, zcJ]) ?_ hx
  unfold fX5_follows
  refine z_iload_n (j := 1) dX5_follows_0 rfl rfl ?_
  refine z_callS (As := [.int a1]) (rest := []) (rv2 := fun (x : Int32) => some (.int x)) (h2 := fun (_ : Int32) => h) dX5_follows_1 vX5_isName (.inl zw285) (by decide) rfl rfl (by decide) (fun x hx => kX5_isName G h a1 hx) (fun x1 => ?_)
  try dsimp only [Option.toList, List.cons_append, List.nil_append]
  refine z_if_eq (tgt := 14) dX5_follows_4 (by decide) (fun _ => ?_) (fun _ => ?_)
  · refine z_iconst (v := -1) dX5_follows_14 (by decide) ?_
    exact z_iret dX5_follows_15 rfl rfl rfl rfl
  · refine z_iload_n (j := 2) dX5_follows_7 rfl rfl ?_
    refine z_callS (As := [.int a2]) (rest := []) (rv2 := fun (x : Int32) => some (.int x)) (h2 := fun (_ : Int32) => h) dX5_follows_8 vX5_isName (.inl zw285) (by decide) rfl rfl (by decide) (fun x hx => kX5_isName G h a2 hx) (fun x2 => ?_)
    try dsimp only [Option.toList, List.cons_append, List.nil_append]
    refine z_if_ne (tgt := 16) dX5_follows_11 (by decide) (fun _ => ?_) (fun _ => ?_)
    · refine z_iconst (v := -1) dX5_follows_14 (by decide) ?_
      exact z_iret dX5_follows_15 rfl rfl rfl rfl
    · refine z_aload_n (j := 0) dX5_follows_16 rfl rfl ?_
      refine z_iconst (v := 0) dX5_follows_17 (by decide) ?_
      refine z_iload_n (j := 2) dX5_follows_18 rfl rfl ?_
      refine z_iload_n (j := 1) dX5_follows_19 rfl rfl ?_
      refine z_ob (fun p3 ep3 lp3 kp3 => ?_)
      refine z_callV (As := [.int (0 : Int32), .int a2, .int a1]) (rest := []) (rv2 := fun (x : Int32) => some (.int x)) (h2 := fun (_ : Int32) => h) dX5_follows_20 vX5_pairs (.inl zw663) (by decide) zkl6 lp3 kp3 rfl (by rw [ep3]; rfl) (by decide) (fun x hx => kX5_pairs G h (some p3) (0 : Int32) a2 a1 hx) (fun x4 => ?_)
      try dsimp only [Option.toList, List.cons_append, List.nil_append]
      exact z_iret dX5_follows_23 rfl rfl rfl rfl
def fX5_stands (h : Zh) (this : Option Nat) (a1 : Int32) (a2 : Int32) : Option (Int32) :=
  (fX5_isName h a1).bind fun x1 =>
  if x1 = 0 then
    some (-1 : Int32)
  else
    if a2 < 0 then
      some (-1 : Int32)
    else
      if a2 ≤ (2 : Int32) then
        (zloop (fun ((v2, v3) : Int32 × Int32) =>
          ((zfI h this 6 1).bind fun x7 =>
          if x7 ≤ v3 then
            some (.inr v2)
          else
            (zob h this 7).bind fun p8 =>
            (fX5_inLog h (some p8) v3).bind fun r9 =>
            (if r9 = none then
              some v2
            else
              (zfI h r9 1 1).bind fun x12 =>
              if x12 = 0 then
                some v2
              else
                (if a2 = 0 then
                  (zob h r9 2).bind fun p15 =>
                  (fX0_tell h (some p15) (0 : Int32) (0 : Int32)).bind fun x16 =>
                  if x16 = a1 then
                    some (v2 + (1 : Int32))
                  else
                    some v2
                else
                  some v2).bind fun (v13 : Int32) =>
                (if a2 = (1 : Int32) then
                  (zfI h r9 1 1).bind fun x19 =>
                  (zob h r9 2).bind fun p20 =>
                  (fX0_tell h (some p20) (x19 - (1 : Int32)) (0 : Int32)).bind fun x21 =>
                  if x21 = a1 then
                    some (v13 + (1 : Int32))
                  else
                    some v13
                else
                  some v13).bind fun (v17 : Int32) =>
                if a2 = (2 : Int32) then
                  (zob h r9 2).bind fun p22 =>
                  (fX0_timesNamed h (some p22) a1).bind fun x23 =>
                  some (v17 + x23)
                else
                  some v17).bind fun (v10 : Int32) =>
            some (.inl (v10, v3 + (1 : Int32))) : Option ((Int32 × Int32) ⊕ Int32))) zFU ((0 : Int32), (0 : Int32))).bind fun (w4 : Int32) =>
        some w4
      else
        some (-1 : Int32)
set_option maxRecDepth 100000 in
set_option maxHeartbeats 4000000 in
theorem kX5_stands (G : Zg) (h : Zh) (this : Option Nat) (a1 : Int32) (a2 : Int32) {x : Int32} (hx : fX5_stands h this a1 a2 = some x) : zCt G yX5_stands cX5_stands 6 (Option.some Jvm.ClassFile.FieldType.int) 3 [zrv G.2.1 this, .int a1, .int a2] h (some (.int x)) h := by
  refine z_met (a := x) (rvf := fun (x : Int32) => some (.int x)) (hff := fun (_ : Int32) => h) (lv := [(0, zrv G.2.1 this), (1, .int a1), (2, .int a2)]) (by decide +kernel) (by simp [lg_sl, zcat1, zcI, zcJ]) (by simp [lv_args, zcat1, zcI, zcJ]) ?_ hx
  unfold fX5_stands
  refine z_iload_n (j := 1) dX5_stands_0 rfl rfl ?_
  refine z_callS (As := [.int a1]) (rest := []) (rv2 := fun (x : Int32) => some (.int x)) (h2 := fun (_ : Int32) => h) dX5_stands_1 vX5_isName (.inl zw285) (by decide) rfl rfl (by decide) (fun x hx => kX5_isName G h a1 hx) (fun x1 => ?_)
  try dsimp only [Option.toList, List.cons_append, List.nil_append]
  refine z_if_eq (tgt := 16) dX5_stands_4 (by decide) (fun _ => ?_) (fun _ => ?_)
  · refine z_iconst (v := -1) dX5_stands_16 (by decide) ?_
    exact z_iret dX5_stands_17 rfl rfl rfl rfl
  · refine z_iload_n (j := 2) dX5_stands_7 rfl rfl ?_
    refine z_if_lt (tgt := 16) dX5_stands_8 (by decide) (fun _ => ?_) (fun _ => ?_)
    · refine z_iconst (v := -1) dX5_stands_16 (by decide) ?_
      exact z_iret dX5_stands_17 rfl rfl rfl rfl
    · refine z_iload_n (j := 2) dX5_stands_11 rfl rfl ?_
      refine z_iconst (v := 2) dX5_stands_12 (by decide) ?_
      refine z_icmp_le (tgt := 18) dX5_stands_13 (by decide) (fun _ => ?_) (fun _ => ?_)
      · refine z_iconst (v := 0) dX5_stands_18 (by decide) ?_
        refine z_istore_n (i := 3) (lv' := [(3, .int (0 : Int32)), (0, zrv G.2.1 this), (1, .int a1), (2, .int a2)]) dX5_stands_19 rfl (by decide) rfl ?_
        refine z_iconst (v := 0) dX5_stands_20 (by decide) ?_
        refine z_istore (i := 4) (lv' := [(4, .int (0 : Int32)), (3, .int (0 : Int32)), (0, zrv G.2.1 this), (1, .int a1), (2, .int a2)]) dX5_stands_21 (by decide) rfl ?_
        refine z_at [2, 3, 4, 1, 0] rfl ?_
        refine z_join (pc2 := 119) (lv2 := fun (q : Int32) => [(3, .int q)]) (st2 := fun _ => []) (h2 := fun (q : Int32) => h) (fun q => ?_) (fun F5 kF5 => ?_)
        · obtain ⟨w4, e0⟩ : ∃ z, z = q := ⟨_, rfl⟩
          subst e0
          try dsimp only
          refine z_iload_n (j := 0) dX5_stands_119 rfl rfl ?_
          exact z_iret dX5_stands_120 rfl rfl rfl rfl
        · refine z_loop (lvf := fun (q : Int32 × Int32) => [(0, zrv G.2.1 this), (1, .int a1), (2, .int a2), (3, .int q.1), (4, .int q.2)]) (hf2 := fun (q : Int32 × Int32) => h) (s0 := ((0 : Int32), (0 : Int32))) (fun K6 bK6 rK6 q => ?_)
          obtain ⟨v2, v3⟩ := q
          try dsimp only
          refine z_iload (j := 4) dX5_stands_23 rfl ?_
          refine z_aload_n (j := 0) dX5_stands_25 rfl rfl ?_
          refine z_as ?_
          refine z_getI (k := 1) dX5_stands_26 zkl6 (by decide) rfl (.inl zw149) (fun x7 => ?_)
          refine z_itb ?_
          refine z_icmp_ge (tgt := 119) dX5_stands_29 (by decide) (fun _ => ?_) (fun _ => ?_)
          · refine z_sb ?_
            refine z_eq (rK6 _) ?_
            refine z_at [3] rfl ?_
            exact kF5 v2
          · refine z_aload_n (j := 0) dX5_stands_32 rfl rfl ?_
            refine z_iload (j := 4) dX5_stands_33 rfl ?_
            refine z_as ?_
            refine z_ob (fun p8 ep8 lp8 kp8 => ?_)
            refine z_as ?_
            refine z_callV (As := [.int v3]) (rest := []) (rv2 := fun (x : Option Nat) => some (zrv G.2.1 x)) (h2 := fun (_ : Option Nat) => h) dX5_stands_35 vX5_inLog (.inl zw190) (by decide) zkl6 lp8 kp8 rfl (by rw [ep8]; rfl) (by decide) (fun x hx => kX5_inLog G h (some p8) v3 hx) (fun r9 => ?_)
            try dsimp only [Option.toList, List.cons_append, List.nil_append]
            refine z_astore (i := 5) (lv' := [(5, zrv G.2.1 r9), (0, zrv G.2.1 this), (1, .int a1), (2, .int a2), (3, .int v2), (4, .int v3)]) dX5_stands_38 (by decide) rfl ?_
            refine z_aload (j := 0) dX5_stands_40 rfl ?_
            refine z_as ?_
            refine z_join (pc2 := 113) (lv2 := fun (q : Int32) => [(0, zrv G.2.1 this), (1, .int a1), (2, .int a2), (3, .int q), (4, .int v3)]) (st2 := fun (q : Int32) => []) (h2 := fun (q : Int32) => h) (fun q => ?_) (fun F11 kF11 => ?_)
            · obtain ⟨v10, e0⟩ : ∃ z, z = q := ⟨_, rfl⟩
              subst e0
              try dsimp only
              refine z_iinc (j := 4) (v := v3 + (1 : Int32)) (lv' := [(4, .int (v3 + (1 : Int32))), (0, zrv G.2.1 this), (1, .int a1), (2, .int a2), (3, .int v10)]) dX5_stands_113 rfl rfl (by decide) rfl ?_
              refine z_goto (tgt := 23) dX5_stands_116 (by decide) ?_
              refine z_sb ?_
              refine z_at [1, 2, 3, 4, 0] rfl ?_
              exact bK6 (v10, v3 + (1 : Int32))
            · refine z_itb ?_
              refine z_ifnull (tgt := 113) dX5_stands_42 (by decide) (fun _ => ?_) (fun _ => ?_)
              · refine z_sb ?_
                refine z_at [1, 2, 3, 4, 5] rfl ?_
                exact kF11 v2
              · refine z_aload (j := 0) dX5_stands_45 rfl ?_
                refine z_as ?_
                refine z_getI (k := 1) dX5_stands_47 zkl1 (by decide) rfl (.inr ⟨_, zw327⟩) (fun x12 => ?_)
                refine z_itb ?_
                refine z_if_ne (tgt := 56) dX5_stands_50 (by decide) (fun _ => ?_) (fun _ => ?_)
                · refine z_goto (tgt := 113) dX5_stands_53 (by decide) ?_
                  refine z_sb ?_
                  refine z_at [1, 2, 3, 4, 5] rfl ?_
                  exact kF11 v2
                · refine z_iload_n (j := 3) dX5_stands_56 rfl rfl ?_
                  refine z_as ?_
                  refine z_join (pc2 := 74) (lv2 := fun (q : Int32) => [(0, zrv G.2.1 this), (1, .int a1), (2, .int a2), (3, .int q), (4, .int v3), (5, zrv G.2.1 r9)]) (st2 := fun (q : Int32) => []) (h2 := fun (q : Int32) => h) (fun q => ?_) (fun F14 kF14 => ?_)
                  · obtain ⟨v13, e0⟩ : ∃ z, z = q := ⟨_, rfl⟩
                    subst e0
                    try dsimp only
                    refine z_iload_n (j := 2) dX5_stands_74 rfl rfl ?_
                    refine z_iconst (v := 1) dX5_stands_75 (by decide) ?_
                    refine z_as ?_
                    refine z_join (pc2 := 99) (lv2 := fun (q : Int32) => [(0, zrv G.2.1 this), (1, .int a1), (2, .int a2), (3, .int q), (4, .int v3), (5, zrv G.2.1 r9)]) (st2 := fun (q : Int32) => []) (h2 := fun (q : Int32) => h) (fun q => ?_) (fun F18 kF18 => ?_)
                    · obtain ⟨v17, e0⟩ : ∃ z, z = q := ⟨_, rfl⟩
                      subst e0
                      try dsimp only
                      refine z_iload_n (j := 2) dX5_stands_99 rfl rfl ?_
                      refine z_iconst (v := 2) dX5_stands_100 (by decide) ?_
                      refine z_itb ?_
                      refine z_icmp_ne (tgt := 113) dX5_stands_101 (by decide) (fun _ => ?_) (fun _ => ?_)
                      · refine z_iload_n (j := 3) dX5_stands_104 rfl rfl ?_
                        refine z_aload (j := 5) dX5_stands_105 rfl ?_
                        refine z_iload_n (j := 1) dX5_stands_107 rfl rfl ?_
                        refine z_as ?_
                        refine z_ob (fun p22 ep22 lp22 kp22 => ?_)
                        refine z_as ?_
                        refine z_callV (As := [.int a1]) (rest := [.int v17]) (rv2 := fun (x : Int32) => some (.int x)) (h2 := fun (_ : Int32) => h) dX5_stands_108 vX0_timesNamed (.inr ⟨_, zw288⟩) (by decide) zkl1 lp22 kp22 rfl (by rw [ep22]; rfl) (by simp [zcat1, zcI, zcJ]) (fun x hx => kX0_timesNamed G h (some p22) a1 hx) (fun x23 => ?_)
                        try dsimp only [Option.toList, List.cons_append, List.nil_append]
                        refine z_iadd dX5_stands_111 ?_
                        refine z_istore_n (i := 3) (lv' := [(3, .int (v17 + x23)), (0, zrv G.2.1 this), (1, .int a1), (2, .int a2), (4, .int v3), (5, zrv G.2.1 r9)]) dX5_stands_112 rfl (by decide) rfl ?_
                        refine z_sb ?_
                        refine z_at [1, 2, 3, 0, 4] rfl ?_
                        exact kF11 (v17 + x23)
                      · refine z_sb ?_
                        refine z_at [0, 1, 2, 3, 4] rfl ?_
                        exact kF11 v17
                    · refine z_itb ?_
                      refine z_icmp_ne (tgt := 99) dX5_stands_76 (by decide) (fun _ => ?_) (fun _ => ?_)
                      · refine z_aload (j := 5) dX5_stands_79 rfl ?_
                        refine z_aload (j := 5) dX5_stands_81 rfl ?_
                        refine z_as ?_
                        refine z_getI (k := 1) dX5_stands_83 zkl1 (by decide) rfl (.inr ⟨_, zw327⟩) (fun x19 => ?_)
                        refine z_iconst (v := 1) dX5_stands_86 (by decide) ?_
                        refine z_isub dX5_stands_87 ?_
                        refine z_iconst (v := 0) dX5_stands_88 (by decide) ?_
                        refine z_as ?_
                        refine z_ob (fun p20 ep20 lp20 kp20 => ?_)
                        refine z_as ?_
                        refine z_callV (As := [.int (x19 - (1 : Int32)), .int (0 : Int32)]) (rest := []) (rv2 := fun (x : Int32) => some (.int x)) (h2 := fun (_ : Int32) => h) dX5_stands_89 vX0_tell (.inr ⟨_, zw181⟩) (by decide) zkl1 lp20 kp20 rfl (by rw [ep20]; rfl) (by decide) (fun x hx => kX0_tell G h (some p20) (x19 - (1 : Int32)) (0 : Int32) hx) (fun x21 => ?_)
                        try dsimp only [Option.toList, List.cons_append, List.nil_append]
                        refine z_iload_n (j := 1) dX5_stands_92 rfl rfl ?_
                        refine z_itb ?_
                        refine z_icmp_ne (tgt := 99) dX5_stands_93 (by decide) (fun _ => ?_) (fun _ => ?_)
                        · refine z_iinc (j := 3) (v := v13 + (1 : Int32)) (lv' := [(3, .int (v13 + (1 : Int32))), (0, zrv G.2.1 this), (1, .int a1), (2, .int a2), (4, .int v3), (5, zrv G.2.1 r9)]) dX5_stands_96 rfl rfl (by decide) rfl ?_
                          refine z_sb ?_
                          refine z_at [1, 2, 3, 0, 4, 5] rfl ?_
                          exact kF18 (v13 + (1 : Int32))
                        · refine z_sb ?_
                          refine z_at [0, 1, 2, 3, 4, 5] rfl ?_
                          exact kF18 v13
                      · refine z_sb ?_
                        refine z_at [0, 1, 2, 3, 4, 5] rfl ?_
                        exact kF18 v13
                  · refine z_itb ?_
                    refine z_if_ne (tgt := 74) dX5_stands_57 (by decide) (fun _ => ?_) (fun _ => ?_)
                    · refine z_aload (j := 0) dX5_stands_60 rfl ?_
                      refine z_iconst (v := 0) dX5_stands_62 (by decide) ?_
                      refine z_iconst (v := 0) dX5_stands_63 (by decide) ?_
                      refine z_as ?_
                      refine z_ob (fun p15 ep15 lp15 kp15 => ?_)
                      refine z_as ?_
                      refine z_callV (As := [.int (0 : Int32), .int (0 : Int32)]) (rest := []) (rv2 := fun (x : Int32) => some (.int x)) (h2 := fun (_ : Int32) => h) dX5_stands_64 vX0_tell (.inr ⟨_, zw181⟩) (by decide) zkl1 lp15 kp15 rfl (by rw [ep15]; rfl) (by decide) (fun x hx => kX0_tell G h (some p15) (0 : Int32) (0 : Int32) hx) (fun x16 => ?_)
                      try dsimp only [Option.toList, List.cons_append, List.nil_append]
                      refine z_iload_n (j := 2) dX5_stands_67 rfl rfl ?_
                      refine z_itb ?_
                      refine z_icmp_ne (tgt := 74) dX5_stands_68 (by decide) (fun _ => ?_) (fun _ => ?_)
                      · refine z_iinc (j := 4) (v := v2 + (1 : Int32)) (lv' := [(3, .int (v2 + (1 : Int32))), (5, zrv G.2.1 r9), (0, zrv G.2.1 this), (1, .int a1), (2, .int a2), (4, .int v3)]) dX5_stands_71 rfl rfl (by decide) rfl ?_
                        refine z_sb ?_
                        refine z_at [2, 3, 4, 0, 5, 1] rfl ?_
                        exact kF14 (v2 + (1 : Int32))
                      · refine z_sb ?_
                        refine z_at [1, 2, 3, 4, 5, 0] rfl ?_
                        exact kF14 v2
                    · refine z_sb ?_
                      refine z_at [1, 2, 3, 4, 5, 0] rfl ?_
                      exact kF14 v2
      · refine z_iconst (v := -1) dX5_stands_16 (by decide) ?_
        exact z_iret dX5_stands_17 rfl rfl rfl rfl
def fX5_silence (h : Zh) : Option (Option Nat × Zh) :=
  (zmO h 3 7).bind fun ((r1, h2) : Option Nat × Zh) =>
  (zmA h2 3 (0 : Int32)).bind fun ((r3, h4) : Option Nat × Zh) =>
  (zob h4 r1 4).bind fun p5 =>
  (fX2_init h4 (some p5) (1 : Int32) (-3 : Int32) r3).bind fun h6 =>
  some (r1, h6)
set_option maxRecDepth 100000 in
set_option maxHeartbeats 4000000 in
theorem kX5_silence (G : Zg) (h : Zh) {x : Option Nat × Zh} (hx : fX5_silence h = some x) : zCt G yX5_silence cX5_silence 0 (Option.some (Jvm.ClassFile.FieldType.object "TrailFinder$Piece")) 3 [] h (some (zrv G.2.1 x.1)) x.2 := by
  refine z_met (a := x) (rvf := fun (x : Option Nat × Zh) => some (zrv G.2.1 x.1)) (hff := fun (x : Option Nat × Zh) => x.2) (lv := []) (by decide +kernel) (by simp [lg_sl, zcat1, zcI, zcJ]) (by simp [lv_args, zcat1, zcI, zcJ]) ?_ hx
  unfold fX5_silence
  refine z_newO dX5_silence_0 zkl3 zw69 zw366 zw50 (by decide +kernel) (fun r1 h2 => ?_)
  try dsimp only
  refine z_dup dX5_silence_3 (zcat1 _ _) ?_
  refine z_iconst (v := 1) dX5_silence_4 (by decide) ?_
  refine z_bipush (v := -3) dX5_silence_5 (by decide) ?_
  refine z_iconst (v := 0) dX5_silence_7 (by decide) ?_
  refine z_newQ (t := 3) dX5_silence_8 (by decide) (by decide) rfl zw69 (fun r3 h4 => ?_)
  try dsimp only
  refine z_ob (fun p5 ep5 lp5 kp5 => ?_)
  refine z_callI (As := [.int (1 : Int32), .int (-3 : Int32), zrv G.2.1 r3]) (rest := [zrv G.2.1 r1]) (h2 := fun (x : Zh) => x) dX5_silence_11 vX2_init (.inr ⟨_, zw367⟩) (by decide) rfl (by rw [ep5]; rfl) (by simp [zcat1, zcI, zcJ]) (fun x hx => kX2_init G h4 (some p5) (1 : Int32) (-3 : Int32) r3 hx) (fun h6 => ?_)
  try dsimp only [Option.toList, List.cons_append, List.nil_append]
  exact z_aret (b := G.2.1) (r := r1) dX5_silence_14 rfl (.inl ⟨_, rfl⟩) rfl rfl
def fX5_deedOf (h : Zh) (a1 : Int32) : Option (Option Nat × Zh) :=
  (zmO h 3 7).bind fun ((r1, h2) : Option Nat × Zh) =>
  (zmA h2 3 (0 : Int32)).bind fun ((r3, h4) : Option Nat × Zh) =>
  (zob h4 r1 4).bind fun p5 =>
  (fX2_init h4 (some p5) (0 : Int32) a1 r3).bind fun h6 =>
  some (r1, h6)
set_option maxRecDepth 100000 in
set_option maxHeartbeats 4000000 in
theorem kX5_deedOf (G : Zg) (h : Zh) (a1 : Int32) {x : Option Nat × Zh} (hx : fX5_deedOf h a1 = some x) : zCt G yX5_deedOf cX5_deedOf 1 (Option.some (Jvm.ClassFile.FieldType.object "TrailFinder$Piece")) 3 [.int a1] h (some (zrv G.2.1 x.1)) x.2 := by
  refine z_met (a := x) (rvf := fun (x : Option Nat × Zh) => some (zrv G.2.1 x.1)) (hff := fun (x : Option Nat × Zh) => x.2) (lv := [(0, .int a1)]) (by decide +kernel) (by simp [lg_sl, zcat1, zcI, zcJ]) (by simp [lv_args, zcat1, zcI, zcJ]) ?_ hx
  unfold fX5_deedOf
  refine z_newO dX5_deedOf_0 zkl3 zw69 zw366 zw50 (by decide +kernel) (fun r1 h2 => ?_)
  try dsimp only
  refine z_dup dX5_deedOf_3 (zcat1 _ _) ?_
  refine z_iconst (v := 0) dX5_deedOf_4 (by decide) ?_
  refine z_iload_n (j := 0) dX5_deedOf_5 rfl rfl ?_
  refine z_iconst (v := 0) dX5_deedOf_6 (by decide) ?_
  refine z_newQ (t := 3) dX5_deedOf_7 (by decide) (by decide) rfl zw69 (fun r3 h4 => ?_)
  try dsimp only
  refine z_ob (fun p5 ep5 lp5 kp5 => ?_)
  refine z_callI (As := [.int (0 : Int32), .int a1, zrv G.2.1 r3]) (rest := [zrv G.2.1 r1]) (h2 := fun (x : Zh) => x) dX5_deedOf_10 vX2_init (.inr ⟨_, zw367⟩) (by decide) rfl (by rw [ep5]; rfl) (by simp [zcat1, zcI, zcJ]) (fun x hx => kX2_init G h4 (some p5) (0 : Int32) a1 r3 hx) (fun h6 => ?_)
  try dsimp only [Option.toList, List.cons_append, List.nil_append]
  exact z_aret (b := G.2.1) (r := r1) dX5_deedOf_13 rfl (.inl ⟨_, rfl⟩) rfl rfl
def fX5_enterB (rc : (Zh → Option Nat → Option Nat → Int32 → Int32 → Option (Int32 × Zh))) (h : Zh) (a1 : Option Nat) (a2 : Option Nat) (a3 : Int32) (a4 : Int32) : Option (Int32 × Zh) :=
  (zfI h a1 3 5).bind fun x1 =>
  if x1 = (-3 : Int32) then
    if a4 ≤ (40 : Int32) then
      (zloop (fun ((v2, v3, h4) : Int32 × Int32 × Zh) =>
        ((zfP h4 a1 3 2).bind fun r9 =>
        (zaL h4 r9 3).bind fun x10 =>
        if x10 ≤ v3 then
          some (.inr (v2, h4))
        else
          (zfP h4 a1 3 2).bind fun r11 =>
          (zaP h4 r11 3 v3).bind fun r12 =>
          (rc h4 r12 a2 v2 (a4 + (1 : Int32))).bind fun ((x13, h14) : Int32 × Zh) =>
          some (.inl (x13, v3 + (1 : Int32), h14)) : Option ((Int32 × Int32 × Zh) ⊕ (Int32 × Zh)))) zFU (a3, (0 : Int32), h)).bind fun ((w5, h6) : Int32 × Zh) =>
      if w5 < 0 then
        some (a3, h6)
      else
        (zaL h6 a2 3).bind fun x15 =>
        if w5 < x15 then
          (zbP h6 a2 3 3 w5 a1).bind fun h16 =>
          (zgI h16 a1 3 5 w5).bind fun h17 =>
          some (w5 + (1 : Int32), h17)
        else
          some (a3, h6)
    else
      some (a3, h)
  else
    some (a3, h)
set_option maxRecDepth 100000 in
set_option maxHeartbeats 4000000 in
theorem kX5_enterB (G : Zg) (rc : (Zh → Option Nat → Option Nat → Int32 → Int32 → Option (Int32 × Zh))) (d : Nat) (hrec : ∀ (h : Zh) (a1 : Option Nat) (a2 : Option Nat) (a3 : Int32) (a4 : Int32) {x : Int32 × Zh}, rc h a1 a2 a3 a4 = some x → zCt G yX5_enter cX5_enter 6 (Option.some Jvm.ClassFile.FieldType.int) d [zrv G.2.1 a1, zrv G.2.1 a2, .int a3, .int a4] h (some (.int x.1)) x.2) (hd0 : 1 ≤ d) (h : Zh) (a1 : Option Nat) (a2 : Option Nat) (a3 : Int32) (a4 : Int32) {x : Int32 × Zh} (hx : fX5_enterB rc h a1 a2 a3 a4 = some x) : zCt G yX5_enter cX5_enter 6 (Option.some Jvm.ClassFile.FieldType.int) (d + 1) [zrv G.2.1 a1, zrv G.2.1 a2, .int a3, .int a4] h (some (.int x.1)) x.2 := by
  refine z_met (a := x) (rvf := fun (x : Int32 × Zh) => some (.int x.1)) (hff := fun (x : Int32 × Zh) => x.2) (lv := [(0, zrv G.2.1 a1), (1, zrv G.2.1 a2), (2, .int a3), (3, .int a4)]) (by decide +kernel) (by simp [lg_sl, zcat1, zcI, zcJ]) (by simp [lv_args, zcat1, zcI, zcJ]) ?_ hx
  unfold fX5_enterB
  refine z_aload_n (j := 0) dX5_enter_0 rfl rfl ?_
  refine z_getI (k := 5) dX5_enter_1 zkl3 (by decide) rfl (.inr ⟨_, zw390⟩) (fun x1 => ?_)
  refine z_bipush (v := -3) dX5_enter_4 (by decide) ?_
  refine z_icmp_ne (tgt := 15) dX5_enter_6 (by decide) (fun _ => ?_) (fun _ => ?_)
  · refine z_iload_n (j := 3) dX5_enter_9 rfl rfl ?_
    refine z_bipush (v := 40) dX5_enter_10 (by decide) ?_
    refine z_icmp_le (tgt := 17) dX5_enter_12 (by decide) (fun _ => ?_) (fun _ => ?_)
    · refine z_iload_n (j := 2) dX5_enter_17 rfl rfl ?_
      refine z_istore (i := 4) (lv' := [(4, .int a3), (0, zrv G.2.1 a1), (1, zrv G.2.1 a2), (2, .int a3), (3, .int a4)]) dX5_enter_18 (by decide) rfl ?_
      refine z_iconst (v := 0) dX5_enter_20 (by decide) ?_
      refine z_istore (i := 5) (lv' := [(5, .int (0 : Int32)), (4, .int a3), (0, zrv G.2.1 a1), (1, zrv G.2.1 a2), (2, .int a3), (3, .int a4)]) dX5_enter_21 (by decide) rfl ?_
      refine z_at [2, 3, 4, 5, 1, 0] rfl ?_
      refine z_join (pc2 := 57) (lv2 := fun (q : Int32 × Zh) => [(0, zrv G.2.1 a1), (1, zrv G.2.1 a2), (2, .int a3), (4, .int q.1)]) (st2 := fun _ => []) (h2 := fun (q : Int32 × Zh) => q.2) (fun q => ?_) (fun F7 kF7 => ?_)
      · obtain ⟨w5, h6⟩ := q
        try dsimp only
        refine z_iload (j := 3) dX5_enter_57 rfl ?_
        refine z_if_lt (tgt := 69) dX5_enter_59 (by decide) (fun _ => ?_) (fun _ => ?_)
        · refine z_iload_n (j := 2) dX5_enter_69 rfl rfl ?_
          exact z_iret dX5_enter_70 rfl rfl rfl rfl
        · refine z_iload (j := 3) dX5_enter_62 rfl ?_
          refine z_aload_n (j := 1) dX5_enter_64 rfl rfl ?_
          refine z_alen dX5_enter_65 (by decide) (fun x15 => ?_)
          refine z_icmp_lt (tgt := 71) dX5_enter_66 (by decide) (fun _ => ?_) (fun _ => ?_)
          · refine z_aload_n (j := 1) dX5_enter_71 rfl rfl ?_
            refine z_iload (j := 3) dX5_enter_72 rfl ?_
            refine z_aload_n (j := 0) dX5_enter_74 rfl rfl ?_
            refine z_aast dX5_enter_75 (by decide) (by decide) zkl3 rfl (fun h16 => ?_)
            refine z_aload_n (j := 0) dX5_enter_76 rfl rfl ?_
            refine z_iload (j := 3) dX5_enter_77 rfl ?_
            refine z_putI (k := 5) dX5_enter_79 zkl3 (by decide) (.inr ⟨_, zw390⟩) (.inl rfl) rfl rfl rfl (fun h17 => ?_)
            refine z_iload (j := 3) dX5_enter_82 rfl ?_
            refine z_iconst (v := 1) dX5_enter_84 (by decide) ?_
            refine z_iadd dX5_enter_85 ?_
            exact z_iret dX5_enter_86 rfl rfl rfl rfl
          · refine z_iload_n (j := 2) dX5_enter_69 rfl rfl ?_
            exact z_iret dX5_enter_70 rfl rfl rfl rfl
      · refine z_loop (lvf := fun (q : Int32 × Int32 × Zh) => [(0, zrv G.2.1 a1), (1, zrv G.2.1 a2), (2, .int a3), (3, .int a4), (4, .int q.1), (5, .int q.2.1)]) (hf2 := fun (q : Int32 × Int32 × Zh) => q.2.2) (s0 := (a3, (0 : Int32), h)) (fun K8 bK8 rK8 q => ?_)
        obtain ⟨v2, v3, h4⟩ := q
        try dsimp only
        refine z_iload (j := 5) dX5_enter_23 rfl ?_
        refine z_aload_n (j := 0) dX5_enter_25 rfl rfl ?_
        refine z_as ?_
        refine z_getP (k := 2) dX5_enter_26 zkl3 (by decide) rfl (.inr ⟨_, zw383⟩) (fun r9 => ?_)
        refine z_as ?_
        refine z_alen dX5_enter_29 (by decide) (fun x10 => ?_)
        refine z_itb ?_
        refine z_icmp_ge (tgt := 57) dX5_enter_30 (by decide) (fun _ => ?_) (fun _ => ?_)
        · refine z_sb ?_
          refine z_eq (rK8 _) ?_
          refine z_at [0, 1, 2, 4] rfl ?_
          exact kF7 (v2, h4)
        · refine z_aload_n (j := 0) dX5_enter_33 rfl rfl ?_
          refine z_as ?_
          refine z_getP (k := 2) dX5_enter_34 zkl3 (by decide) rfl (.inr ⟨_, zw383⟩) (fun r11 => ?_)
          refine z_iload (j := 5) dX5_enter_37 rfl ?_
          refine z_as ?_
          refine z_aald dX5_enter_39 (by decide) (by decide) (fun r12 => ?_)
          refine z_aload_n (j := 1) dX5_enter_40 rfl rfl ?_
          refine z_iload (j := 4) dX5_enter_41 rfl ?_
          refine z_iload_n (j := 3) dX5_enter_43 rfl rfl ?_
          refine z_iconst (v := 1) dX5_enter_44 (by decide) ?_
          refine z_iadd dX5_enter_45 ?_
          refine z_as ?_
          refine z_callS (As := [zrv G.2.1 r12, zrv G.2.1 a2, .int v2, .int (a4 + (1 : Int32))]) (rest := []) (rv2 := fun (x : Int32 × Zh) => some (.int x.1)) (h2 := fun (x : Int32 × Zh) => x.2) dX5_enter_46 vX5_enter (.inl zw414) (by omega) rfl rfl (by decide) (fun x hx => hrec h4 r12 a2 v2 (a4 + (1 : Int32)) hx) (fun x => ?_)
          obtain ⟨x13, h14⟩ := x
          try dsimp only [Option.toList, List.cons_append, List.nil_append]
          refine z_istore (i := 4) (lv' := [(4, .int x13), (0, zrv G.2.1 a1), (1, zrv G.2.1 a2), (2, .int a3), (3, .int a4), (5, .int v3)]) dX5_enter_49 (by decide) rfl ?_
          refine z_iinc (j := 5) (v := v3 + (1 : Int32)) (lv' := [(5, .int (v3 + (1 : Int32))), (4, .int x13), (0, zrv G.2.1 a1), (1, zrv G.2.1 a2), (2, .int a3), (3, .int a4)]) dX5_enter_51 rfl rfl (by decide) rfl ?_
          refine z_goto (tgt := 23) dX5_enter_54 (by decide) ?_
          refine z_sb ?_
          refine z_at [2, 3, 4, 5, 1, 0] rfl ?_
          exact bK8 (x13, v3 + (1 : Int32), h14)
    · refine z_iload_n (j := 2) dX5_enter_15 rfl rfl ?_
      exact z_iret dX5_enter_16 rfl rfl rfl rfl
  · refine z_iload_n (j := 2) dX5_enter_15 rfl rfl ?_
    exact z_iret dX5_enter_16 rfl rfl rfl rfl
def fX5_enter : Nat → (Zh → Option Nat → Option Nat → Int32 → Int32 → Option (Int32 × Zh))
  | 0 => fun _ _ _ _ _ => none
  | n + 1 => fX5_enterB (fX5_enter n)
theorem kX5_enter (G : Zg) (n : Nat) (h : Zh) (a1 : Option Nat) (a2 : Option Nat) (a3 : Int32) (a4 : Int32) {x : Int32 × Zh} (hx : fX5_enter n h a1 a2 a3 a4 = some x) : zCt G yX5_enter cX5_enter 6 (Option.some Jvm.ClassFile.FieldType.int) (n * 1 + 1) [zrv G.2.1 a1, zrv G.2.1 a2, .int a3, .int a4] h (some (.int x.1)) x.2 := by
  induction n generalizing h a1 a2 a3 a4 x with
  | zero => cases hx
  | succ n ih =>
    have h1 := kX5_enterB G (fX5_enter n) (n * 1 + 1) (fun h a1 a2 a3 a4 x hx => ih h a1 a2 a3 a4 hx) (by omega) h a1 a2 a3 a4 hx
    rw [show n * 1 + 1 + 1 = (n + 1) * 1 + 1 by omega] at h1
    exact h1
def fX5_keep (h : Zh) (this : Option Nat) (a1 : Option Nat) (a2 : Int32) : Option (Int32 × Zh) :=
  (zfI h a1 3 3).bind fun x1 =>
  if (60 : Int32) < x1 then
    some ((-2 : Int32), h)
  else
    (zfI h this 6 3).bind fun x2 =>
    if (x2 + a2) ≤ (200 : Int32) then
      (zfP h this 6 2).bind fun r3 =>
      (zfI h this 6 3).bind fun x4 =>
      (fX5_enter 64 h a1 r3 x4 (0 : Int32)).bind fun ((x5, h6) : Int32 × Zh) =>
      (zgI h6 this 6 3 x5).bind fun h7 =>
      (zfI h7 a1 3 5).bind fun x8 =>
      some (x8, h7)
    else
      some ((-2 : Int32), h)
set_option maxRecDepth 100000 in
set_option maxHeartbeats 4000000 in
theorem kX5_keep (G : Zg) (h : Zh) (this : Option Nat) (a1 : Option Nat) (a2 : Int32) {x : Int32 × Zh} (hx : fX5_keep h this a1 a2 = some x) : zCt G yX5_keep cX5_keep 3 (Option.some Jvm.ClassFile.FieldType.int) 66 [zrv G.2.1 this, zrv G.2.1 a1, .int a2] h (some (.int x.1)) x.2 := by
  refine z_met (a := x) (rvf := fun (x : Int32 × Zh) => some (.int x.1)) (hff := fun (x : Int32 × Zh) => x.2) (lv := [(0, zrv G.2.1 this), (1, zrv G.2.1 a1), (2, .int a2)]) (by decide +kernel) (by simp [lg_sl, zcat1, zcI, zcJ]) (by simp [lv_args, zcat1, zcI, zcJ]) ?_ hx
  unfold fX5_keep
  refine z_aload_n (j := 1) dX5_keep_0 rfl rfl ?_
  refine z_getI (k := 3) dX5_keep_1 zkl3 (by decide) rfl (.inr ⟨_, zw385⟩) (fun x1 => ?_)
  refine z_bipush (v := 60) dX5_keep_4 (by decide) ?_
  refine z_icmp_gt (tgt := 21) dX5_keep_6 (by decide) (fun _ => ?_) (fun _ => ?_)
  · refine z_bipush (v := -2) dX5_keep_21 (by decide) ?_
    exact z_iret dX5_keep_23 rfl rfl rfl rfl
  · refine z_aload_n (j := 0) dX5_keep_9 rfl rfl ?_
    refine z_getI (k := 3) dX5_keep_10 zkl6 (by decide) rfl (.inl zw151) (fun x2 => ?_)
    refine z_iload_n (j := 2) dX5_keep_13 rfl rfl ?_
    refine z_iadd dX5_keep_14 ?_
    refine z_sipush (v := 200) dX5_keep_15 (by decide) ?_
    refine z_icmp_le (tgt := 24) dX5_keep_18 (by decide) (fun _ => ?_) (fun _ => ?_)
    · refine z_aload_n (j := 0) dX5_keep_24 rfl rfl ?_
      refine z_aload_n (j := 1) dX5_keep_25 rfl rfl ?_
      refine z_aload_n (j := 0) dX5_keep_26 rfl rfl ?_
      refine z_getP (k := 2) dX5_keep_27 zkl6 (by decide) rfl (.inl zw150) (fun r3 => ?_)
      refine z_aload_n (j := 0) dX5_keep_30 rfl rfl ?_
      refine z_getI (k := 3) dX5_keep_31 zkl6 (by decide) rfl (.inl zw151) (fun x4 => ?_)
      refine z_iconst (v := 0) dX5_keep_34 (by decide) ?_
      refine z_callS (As := [zrv G.2.1 a1, zrv G.2.1 r3, .int x4, .int (0 : Int32)]) (rest := [zrv G.2.1 this]) (rv2 := fun (x : Int32 × Zh) => some (.int x.1)) (h2 := fun (x : Int32 × Zh) => x.2) dX5_keep_35 vX5_enter (.inl zw414) (by decide) rfl rfl (by simp [zcat1, zcI, zcJ]) (fun x hx => kX5_enter G 64 h a1 r3 x4 (0 : Int32) hx) (fun x => ?_)
      obtain ⟨x5, h6⟩ := x
      try dsimp only [Option.toList, List.cons_append, List.nil_append]
      refine z_putI (k := 3) dX5_keep_38 zkl6 (by decide) (.inl zw151) (.inl rfl) rfl rfl rfl (fun h7 => ?_)
      refine z_aload_n (j := 1) dX5_keep_41 rfl rfl ?_
      refine z_getI (k := 5) dX5_keep_42 zkl3 (by decide) rfl (.inr ⟨_, zw390⟩) (fun x8 => ?_)
      exact z_iret dX5_keep_45 rfl rfl rfl rfl
    · refine z_bipush (v := -2) dX5_keep_21 (by decide) ?_
      exact z_iret dX5_keep_23 rfl rfl rfl rfl
def fX5_deed (h : Zh) (this : Option Nat) (a1 : Int32) : Option (Int32 × Zh) :=
  if a1 = (-1 : Int32) then
    (if a1 = (-1 : Int32) then
      (fX5_silence h).bind fun ((r4, h5) : Option Nat × Zh) =>
      some (r4, h5)
    else
      (fX5_deedOf h a1).bind fun ((r6, h7) : Option Nat × Zh) =>
      some (r6, h7)).bind fun ((v1, h2) : Option Nat × Zh) =>
    (zob h2 this 7).bind fun p8 =>
    (fX5_keep h2 (some p8) v1 (1 : Int32)).bind fun ((x9, h10) : Int32 × Zh) =>
    some (x9, h10)
  else
    (fX5_isName h a1).bind fun x11 =>
    if x11 = 0 then
      some ((-1 : Int32), h)
    else
      (if a1 = (-1 : Int32) then
        (fX5_silence h).bind fun ((r15, h16) : Option Nat × Zh) =>
        some (r15, h16)
      else
        (fX5_deedOf h a1).bind fun ((r17, h18) : Option Nat × Zh) =>
        some (r17, h18)).bind fun ((v12, h13) : Option Nat × Zh) =>
      (zob h13 this 7).bind fun p19 =>
      (fX5_keep h13 (some p19) v12 (1 : Int32)).bind fun ((x20, h21) : Int32 × Zh) =>
      some (x20, h21)
set_option maxRecDepth 100000 in
set_option maxHeartbeats 4000000 in
theorem kX5_deed (G : Zg) (h : Zh) (this : Option Nat) (a1 : Int32) {x : Int32 × Zh} (hx : fX5_deed h this a1 = some x) : zCt G yX5_deed cX5_deed 2 (Option.some Jvm.ClassFile.FieldType.int) 67 [zrv G.2.1 this, .int a1] h (some (.int x.1)) x.2 := by
  refine z_met (a := x) (rvf := fun (x : Int32 × Zh) => some (.int x.1)) (hff := fun (x : Int32 × Zh) => x.2) (lv := [(0, zrv G.2.1 this), (1, .int a1)]) (by decide +kernel) (by simp [lg_sl, zcat1, zcI, zcJ]) (by simp [lv_args, zcat1, zcI, zcJ]) ?_ hx
  unfold fX5_deed
  refine z_iload_n (j := 1) dX5_deed_0 rfl rfl ?_
  refine z_iconst (v := -1) dX5_deed_1 (by decide) ?_
  refine z_icmp_eq (tgt := 14) dX5_deed_2 (by decide) (fun _ => ?_) (fun _ => ?_)
  · refine z_aload_n (j := 0) dX5_deed_14 rfl rfl ?_
    refine z_iload_n (j := 1) dX5_deed_15 rfl rfl ?_
    refine z_iconst (v := -1) dX5_deed_16 (by decide) ?_
    refine z_join (pc2 := 30) (lv2 := fun (q : Option Nat × Zh) => []) (st2 := fun (q : Option Nat × Zh) => [zrv G.2.1 q.1, zrv G.2.1 this]) (h2 := fun (q : Option Nat × Zh) => q.2) (fun q => ?_) (fun F3 kF3 => ?_)
    · obtain ⟨v1, h2⟩ := q
      try dsimp only
      refine z_iconst (v := 1) dX5_deed_30 (by decide) ?_
      refine z_ob (fun p8 ep8 lp8 kp8 => ?_)
      refine z_callV (As := [zrv G.2.1 v1, .int (1 : Int32)]) (rest := []) (rv2 := fun (x : Int32 × Zh) => some (.int x.1)) (h2 := fun (x : Int32 × Zh) => x.2) dX5_deed_31 vX5_keep (.inl zw410) (by decide) zkl6 lp8 kp8 rfl (by rw [ep8]; rfl) (by decide) (fun x hx => kX5_keep G h2 (some p8) v1 (1 : Int32) hx) (fun x => ?_)
      obtain ⟨x9, h10⟩ := x
      try dsimp only [Option.toList, List.cons_append, List.nil_append]
      exact z_iret dX5_deed_34 rfl rfl rfl rfl
    · refine z_itb ?_
      refine z_icmp_ne (tgt := 26) dX5_deed_17 (by decide) (fun _ => ?_) (fun _ => ?_)
      · refine z_as ?_
        refine z_callS (As := []) (rest := [zrv G.2.1 this]) (rv2 := fun (x : Option Nat × Zh) => some (zrv G.2.1 x.1)) (h2 := fun (x : Option Nat × Zh) => x.2) dX5_deed_20 vX5_silence (.inl zw363) (by decide) rfl rfl (by simp [zcat1, zcI, zcJ]) (fun x hx => kX5_silence G h hx) (fun x => ?_)
        obtain ⟨r4, h5⟩ := x
        try dsimp only [Option.toList, List.cons_append, List.nil_append]
        refine z_goto (tgt := 30) dX5_deed_23 (by decide) ?_
        refine z_sb ?_
        refine z_at [] rfl ?_
        exact kF3 (r4, h5)
      · refine z_iload_n (j := 1) dX5_deed_26 rfl rfl ?_
        refine z_as ?_
        refine z_callS (As := [.int a1]) (rest := [zrv G.2.1 this]) (rv2 := fun (x : Option Nat × Zh) => some (zrv G.2.1 x.1)) (h2 := fun (x : Option Nat × Zh) => x.2) dX5_deed_27 vX5_deedOf (.inl zw407) (by decide) rfl rfl (by simp [zcat1, zcI, zcJ]) (fun x hx => kX5_deedOf G h a1 hx) (fun x => ?_)
        obtain ⟨r6, h7⟩ := x
        try dsimp only [Option.toList, List.cons_append, List.nil_append]
        refine z_sb ?_
        refine z_at [] rfl ?_
        exact kF3 (r6, h7)
  · refine z_iload_n (j := 1) dX5_deed_5 rfl rfl ?_
    refine z_callS (As := [.int a1]) (rest := []) (rv2 := fun (x : Int32) => some (.int x)) (h2 := fun (_ : Int32) => h) dX5_deed_6 vX5_isName (.inl zw285) (by decide) rfl rfl (by decide) (fun x hx => kX5_isName G h a1 hx) (fun x11 => ?_)
    try dsimp only [Option.toList, List.cons_append, List.nil_append]
    refine z_if_ne (tgt := 14) dX5_deed_9 (by decide) (fun _ => ?_) (fun _ => ?_)
    · refine z_iconst (v := -1) dX5_deed_12 (by decide) ?_
      exact z_iret dX5_deed_13 rfl rfl rfl rfl
    · refine z_aload_n (j := 0) dX5_deed_14 rfl rfl ?_
      refine z_iload_n (j := 1) dX5_deed_15 rfl rfl ?_
      refine z_iconst (v := -1) dX5_deed_16 (by decide) ?_
      refine z_join (pc2 := 30) (lv2 := fun (q : Option Nat × Zh) => []) (st2 := fun (q : Option Nat × Zh) => [zrv G.2.1 q.1, zrv G.2.1 this]) (h2 := fun (q : Option Nat × Zh) => q.2) (fun q => ?_) (fun F14 kF14 => ?_)
      · obtain ⟨v12, h13⟩ := q
        try dsimp only
        refine z_iconst (v := 1) dX5_deed_30 (by decide) ?_
        refine z_ob (fun p19 ep19 lp19 kp19 => ?_)
        refine z_callV (As := [zrv G.2.1 v12, .int (1 : Int32)]) (rest := []) (rv2 := fun (x : Int32 × Zh) => some (.int x.1)) (h2 := fun (x : Int32 × Zh) => x.2) dX5_deed_31 vX5_keep (.inl zw410) (by decide) zkl6 lp19 kp19 rfl (by rw [ep19]; rfl) (by decide) (fun x hx => kX5_keep G h13 (some p19) v12 (1 : Int32) hx) (fun x => ?_)
        obtain ⟨x20, h21⟩ := x
        try dsimp only [Option.toList, List.cons_append, List.nil_append]
        exact z_iret dX5_deed_34 rfl rfl rfl rfl
      · refine z_itb ?_
        refine z_icmp_ne (tgt := 26) dX5_deed_17 (by decide) (fun _ => ?_) (fun _ => ?_)
        · refine z_as ?_
          refine z_callS (As := []) (rest := [zrv G.2.1 this]) (rv2 := fun (x : Option Nat × Zh) => some (zrv G.2.1 x.1)) (h2 := fun (x : Option Nat × Zh) => x.2) dX5_deed_20 vX5_silence (.inl zw363) (by decide) rfl rfl (by simp [zcat1, zcI, zcJ]) (fun x hx => kX5_silence G h hx) (fun x => ?_)
          obtain ⟨r15, h16⟩ := x
          try dsimp only [Option.toList, List.cons_append, List.nil_append]
          refine z_goto (tgt := 30) dX5_deed_23 (by decide) ?_
          refine z_sb ?_
          refine z_at [] rfl ?_
          exact kF14 (r15, h16)
        · refine z_iload_n (j := 1) dX5_deed_26 rfl rfl ?_
          refine z_as ?_
          refine z_callS (As := [.int a1]) (rest := [zrv G.2.1 this]) (rv2 := fun (x : Option Nat × Zh) => some (zrv G.2.1 x.1)) (h2 := fun (x : Option Nat × Zh) => x.2) dX5_deed_27 vX5_deedOf (.inl zw407) (by decide) rfl rfl (by simp [zcat1, zcI, zcJ]) (fun x hx => kX5_deedOf G h a1 hx) (fun x => ?_)
          obtain ⟨r17, h18⟩ := x
          try dsimp only [Option.toList, List.cons_append, List.nil_append]
          refine z_sb ?_
          refine z_at [] rfl ?_
          exact kF14 (r17, h18)
def fX5_pieceAt (h : Zh) (this : Option Nat) (a1 : Int32) : Option (Option Nat) :=
  (if a1 < 0 then
    some none
  else
    (zfI h this 6 3).bind fun x3 =>
    if x3 ≤ a1 then
      some none
    else
      (zfP h this 6 2).bind fun r4 =>
      (zaL h r4 3).bind fun x5 =>
      if x5 ≤ a1 then
        some none
      else
        (zfP h this 6 2).bind fun r6 =>
        (zaP h r6 3 a1).bind fun r7 =>
        some r7).bind fun (v1 : Option Nat) =>
  some v1
set_option maxRecDepth 100000 in
set_option maxHeartbeats 4000000 in
theorem kX5_pieceAt (G : Zg) (h : Zh) (this : Option Nat) (a1 : Int32) {x : Option Nat} (hx : fX5_pieceAt h this a1 = some x) : zCt G yX5_pieceAt cX5_pieceAt 2 (Option.some (Jvm.ClassFile.FieldType.object "TrailFinder$Piece")) 1 [zrv G.2.1 this, .int a1] h (some (zrv G.2.1 x)) h := by
  refine z_met (a := x) (rvf := fun (x : Option Nat) => some (zrv G.2.1 x)) (hff := fun (_ : Option Nat) => h) (lv := [(0, zrv G.2.1 this), (1, .int a1)]) (by decide +kernel) (by simp [lg_sl, zcat1, zcI, zcJ]) (by simp [lv_args, zcat1, zcI, zcJ]) ?_ hx
  unfold fX5_pieceAt
  refine z_iload_n (j := 1) dX5_pieceAt_0 rfl rfl ?_
  refine z_join (pc2 := 31) (lv2 := fun (q : Option Nat) => []) (st2 := fun (q : Option Nat) => [zrv G.2.1 q]) (h2 := fun (q : Option Nat) => h) (fun q => ?_) (fun F2 kF2 => ?_)
  · obtain ⟨v1, e0⟩ : ∃ z, z = q := ⟨_, rfl⟩
    subst e0
    try dsimp only
    exact z_aret (b := G.2.1) (r := v1) dX5_pieceAt_31 rfl (.inl ⟨_, rfl⟩) rfl rfl
  · refine z_itb ?_
    refine z_if_lt (tgt := 30) dX5_pieceAt_1 (by decide) (fun _ => ?_) (fun _ => ?_)
    · refine z_null (b := G.2.1) dX5_pieceAt_30 ?_
      refine z_sb ?_
      refine z_at [] rfl ?_
      exact kF2 none
    · refine z_iload_n (j := 1) dX5_pieceAt_4 rfl rfl ?_
      refine z_aload_n (j := 0) dX5_pieceAt_5 rfl rfl ?_
      refine z_as ?_
      refine z_getI (k := 3) dX5_pieceAt_6 zkl6 (by decide) rfl (.inl zw151) (fun x3 => ?_)
      refine z_itb ?_
      refine z_icmp_ge (tgt := 30) dX5_pieceAt_9 (by decide) (fun _ => ?_) (fun _ => ?_)
      · refine z_null (b := G.2.1) dX5_pieceAt_30 ?_
        refine z_sb ?_
        refine z_at [] rfl ?_
        exact kF2 none
      · refine z_iload_n (j := 1) dX5_pieceAt_12 rfl rfl ?_
        refine z_aload_n (j := 0) dX5_pieceAt_13 rfl rfl ?_
        refine z_as ?_
        refine z_getP (k := 2) dX5_pieceAt_14 zkl6 (by decide) rfl (.inl zw150) (fun r4 => ?_)
        refine z_as ?_
        refine z_alen dX5_pieceAt_17 (by decide) (fun x5 => ?_)
        refine z_itb ?_
        refine z_icmp_ge (tgt := 30) dX5_pieceAt_18 (by decide) (fun _ => ?_) (fun _ => ?_)
        · refine z_null (b := G.2.1) dX5_pieceAt_30 ?_
          refine z_sb ?_
          refine z_at [] rfl ?_
          exact kF2 none
        · refine z_aload_n (j := 0) dX5_pieceAt_21 rfl rfl ?_
          refine z_as ?_
          refine z_getP (k := 2) dX5_pieceAt_22 zkl6 (by decide) rfl (.inl zw150) (fun r6 => ?_)
          refine z_iload_n (j := 1) dX5_pieceAt_25 rfl rfl ?_
          refine z_as ?_
          refine z_aald dX5_pieceAt_26 (by decide) (by decide) (fun r7 => ?_)
          refine z_goto (tgt := 31) dX5_pieceAt_27 (by decide) ?_
          refine z_sb ?_
          refine z_at [] rfl ?_
          exact kF2 r7
def fX5_two (h : Zh) (a1 : Int32) (a2 : Option Nat) (a3 : Option Nat) : Option (Option Nat × Zh) :=
  (zmO h 3 7).bind fun ((r1, h2) : Option Nat × Zh) =>
  (zmA h2 3 (2 : Int32)).bind fun ((r3, h4) : Option Nat × Zh) =>
  (zbP h4 r3 3 3 (0 : Int32) a2).bind fun h5 =>
  (zbP h5 r3 3 3 (1 : Int32) a3).bind fun h6 =>
  (zob h6 r1 4).bind fun p7 =>
  (fX2_init h6 (some p7) a1 (-3 : Int32) r3).bind fun h8 =>
  some (r1, h8)
set_option maxRecDepth 100000 in
set_option maxHeartbeats 4000000 in
theorem kX5_two (G : Zg) (h : Zh) (a1 : Int32) (a2 : Option Nat) (a3 : Option Nat) {x : Option Nat × Zh} (hx : fX5_two h a1 a2 a3 = some x) : zCt G yX5_two cX5_two 3 (Option.some (Jvm.ClassFile.FieldType.object "TrailFinder$Piece")) 3 [.int a1, zrv G.2.1 a2, zrv G.2.1 a3] h (some (zrv G.2.1 x.1)) x.2 := by
  refine z_met (a := x) (rvf := fun (x : Option Nat × Zh) => some (zrv G.2.1 x.1)) (hff := fun (x : Option Nat × Zh) => x.2) (lv := [(0, .int a1), (1, zrv G.2.1 a2), (2, zrv G.2.1 a3)]) (by decide +kernel) (by simp [lg_sl, zcat1, zcI, zcJ]) (by simp [lv_args, zcat1, zcI, zcJ]) ?_ hx
  unfold fX5_two
  refine z_newO dX5_two_0 zkl3 zw69 zw366 zw50 (by decide +kernel) (fun r1 h2 => ?_)
  try dsimp only
  refine z_dup dX5_two_3 (zcat1 _ _) ?_
  refine z_iload_n (j := 0) dX5_two_4 rfl rfl ?_
  refine z_bipush (v := -3) dX5_two_5 (by decide) ?_
  refine z_iconst (v := 2) dX5_two_7 (by decide) ?_
  refine z_newQ (t := 3) dX5_two_8 (by decide) (by decide) rfl zw69 (fun r3 h4 => ?_)
  try dsimp only
  refine z_dup dX5_two_11 (zcat1 _ _) ?_
  refine z_iconst (v := 0) dX5_two_12 (by decide) ?_
  refine z_aload_n (j := 1) dX5_two_13 rfl rfl ?_
  refine z_aast dX5_two_14 (by decide) (by decide) zkl3 rfl (fun h5 => ?_)
  refine z_dup dX5_two_15 (zcat1 _ _) ?_
  refine z_iconst (v := 1) dX5_two_16 (by decide) ?_
  refine z_aload_n (j := 2) dX5_two_17 rfl rfl ?_
  refine z_aast dX5_two_18 (by decide) (by decide) zkl3 rfl (fun h6 => ?_)
  refine z_ob (fun p7 ep7 lp7 kp7 => ?_)
  refine z_callI (As := [.int a1, .int (-3 : Int32), zrv G.2.1 r3]) (rest := [zrv G.2.1 r1]) (h2 := fun (x : Zh) => x) dX5_two_19 vX2_init (.inr ⟨_, zw367⟩) (by decide) rfl (by rw [ep7]; rfl) (by simp [zcat1, zcI, zcJ]) (fun x hx => kX2_init G h6 (some p7) a1 (-3 : Int32) r3 hx) (fun h8 => ?_)
  try dsimp only [Option.toList, List.cons_append, List.nil_append]
  exact z_aret (b := G.2.1) (r := r1) dX5_two_22 rfl (.inl ⟨_, rfl⟩) rfl rfl
def fX5_join (h : Zh) (this : Option Nat) (a1 : Int32) (a2 : Int32) (a3 : Int32) : Option (Int32 × Zh) :=
  (zob h this 7).bind fun p1 =>
  (fX5_pieceAt h (some p1) a2).bind fun r2 =>
  (zob h this 7).bind fun p3 =>
  (fX5_pieceAt h (some p3) a3).bind fun r4 =>
  if a1 < (2 : Int32) then
    some ((-1 : Int32), h)
  else
    if (5 : Int32) < a1 then
      some ((-1 : Int32), h)
    else
      if r2 = none then
        some ((-1 : Int32), h)
      else
        if r4 = none then
          some ((-1 : Int32), h)
        else
          (fX5_two h a1 r2 r4).bind fun ((r5, h6) : Option Nat × Zh) =>
          (zob h6 this 7).bind fun p7 =>
          (fX5_keep h6 (some p7) r5 (1 : Int32)).bind fun ((x8, h9) : Int32 × Zh) =>
          some (x8, h9)
set_option maxRecDepth 100000 in
set_option maxHeartbeats 4000000 in
theorem kX5_join (G : Zg) (h : Zh) (this : Option Nat) (a1 : Int32) (a2 : Int32) (a3 : Int32) {x : Int32 × Zh} (hx : fX5_join h this a1 a2 a3 = some x) : zCt G yX5_join cX5_join 6 (Option.some Jvm.ClassFile.FieldType.int) 67 [zrv G.2.1 this, .int a1, .int a2, .int a3] h (some (.int x.1)) x.2 := by
  refine z_met (a := x) (rvf := fun (x : Int32 × Zh) => some (.int x.1)) (hff := fun (x : Int32 × Zh) => x.2) (lv := [(0, zrv G.2.1 this), (1, .int a1), (2, .int a2), (3, .int a3)]) (by decide +kernel) (by simp [lg_sl, zcat1, zcI, zcJ]) (by simp [lv_args, zcat1, zcI, zcJ]) ?_ hx
  unfold fX5_join
  refine z_aload_n (j := 0) dX5_join_0 rfl rfl ?_
  refine z_iload_n (j := 2) dX5_join_1 rfl rfl ?_
  refine z_ob (fun p1 ep1 lp1 kp1 => ?_)
  refine z_callV (As := [.int a2]) (rest := []) (rv2 := fun (x : Option Nat) => some (zrv G.2.1 x)) (h2 := fun (_ : Option Nat) => h) dX5_join_2 vX5_pieceAt (.inl zw194) (by decide) zkl6 lp1 kp1 rfl (by rw [ep1]; rfl) (by decide) (fun x hx => kX5_pieceAt G h (some p1) a2 hx) (fun r2 => ?_)
  try dsimp only [Option.toList, List.cons_append, List.nil_append]
  refine z_astore (i := 4) (lv' := [(4, zrv G.2.1 r2), (0, zrv G.2.1 this), (1, .int a1), (2, .int a2), (3, .int a3)]) dX5_join_5 (by decide) rfl ?_
  refine z_aload_n (j := 1) dX5_join_7 rfl rfl ?_
  refine z_iload_n (j := 4) dX5_join_8 rfl rfl ?_
  refine z_ob (fun p3 ep3 lp3 kp3 => ?_)
  refine z_callV (As := [.int a3]) (rest := []) (rv2 := fun (x : Option Nat) => some (zrv G.2.1 x)) (h2 := fun (_ : Option Nat) => h) dX5_join_9 vX5_pieceAt (.inl zw194) (by decide) zkl6 lp3 kp3 rfl (by rw [ep3]; rfl) (by decide) (fun x hx => kX5_pieceAt G h (some p3) a3 hx) (fun r4 => ?_)
  try dsimp only [Option.toList, List.cons_append, List.nil_append]
  refine z_astore (i := 5) (lv' := [(5, zrv G.2.1 r4), (4, zrv G.2.1 r2), (0, zrv G.2.1 this), (1, .int a1), (2, .int a2), (3, .int a3)]) dX5_join_12 (by decide) (by simp [zcat1, zcI, zcJ]) ?_
  refine z_iload_n (j := 3) dX5_join_14 rfl rfl ?_
  refine z_iconst (v := 2) dX5_join_15 (by decide) ?_
  refine z_icmp_lt (tgt := 34) dX5_join_16 (by decide) (fun _ => ?_) (fun _ => ?_)
  · refine z_iconst (v := -1) dX5_join_34 (by decide) ?_
    exact z_iret dX5_join_35 rfl rfl rfl rfl
  · refine z_iload_n (j := 3) dX5_join_19 rfl rfl ?_
    refine z_iconst (v := 5) dX5_join_20 (by decide) ?_
    refine z_icmp_gt (tgt := 34) dX5_join_21 (by decide) (fun _ => ?_) (fun _ => ?_)
    · refine z_iconst (v := -1) dX5_join_34 (by decide) ?_
      exact z_iret dX5_join_35 rfl rfl rfl rfl
    · refine z_aload (j := 1) dX5_join_24 rfl ?_
      refine z_ifnull (tgt := 34) dX5_join_26 (by decide) (fun _ => ?_) (fun _ => ?_)
      · refine z_iconst (v := -1) dX5_join_34 (by decide) ?_
        exact z_iret dX5_join_35 rfl rfl rfl rfl
      · refine z_aload (j := 0) dX5_join_29 rfl ?_
        refine z_ifnonnull (tgt := 36) dX5_join_31 (by decide) (fun _ => ?_) (fun _ => ?_)
        · refine z_iconst (v := -1) dX5_join_34 (by decide) ?_
          exact z_iret dX5_join_35 rfl rfl rfl rfl
        · refine z_aload_n (j := 2) dX5_join_36 rfl rfl ?_
          refine z_iload_n (j := 3) dX5_join_37 rfl rfl ?_
          refine z_aload (j := 1) dX5_join_38 rfl ?_
          refine z_aload (j := 0) dX5_join_40 rfl ?_
          refine z_callS (As := [.int a1, zrv G.2.1 r2, zrv G.2.1 r4]) (rest := [zrv G.2.1 this]) (rv2 := fun (x : Option Nat × Zh) => some (zrv G.2.1 x.1)) (h2 := fun (x : Option Nat × Zh) => x.2) dX5_join_42 vX5_two (.inl zw421) (by decide) rfl rfl (by simp [zcat1, zcI, zcJ]) (fun x hx => kX5_two G h a1 r2 r4 hx) (fun x => ?_)
          obtain ⟨r5, h6⟩ := x
          try dsimp only [Option.toList, List.cons_append, List.nil_append]
          refine z_iconst (v := 1) dX5_join_45 (by decide) ?_
          refine z_ob (fun p7 ep7 lp7 kp7 => ?_)
          refine z_callV (As := [zrv G.2.1 r5, .int (1 : Int32)]) (rest := []) (rv2 := fun (x : Int32 × Zh) => some (.int x.1)) (h2 := fun (x : Int32 × Zh) => x.2) dX5_join_46 vX5_keep (.inl zw410) (by decide) zkl6 lp7 kp7 rfl (by rw [ep7]; rfl) (by decide) (fun x hx => kX5_keep G h6 (some p7) r5 (1 : Int32) hx) (fun x => ?_)
          obtain ⟨x8, h9⟩ := x
          try dsimp only [Option.toList, List.cons_append, List.nil_append]
          exact z_iret dX5_join_49 rfl rfl rfl rfl
def fX5_more (h : Zh) (this : Option Nat) (a1 : Int32) (a2 : Int32) : Option (Int32 × Zh) :=
  (zob h this 7).bind fun p1 =>
  (fX5_pieceAt h (some p1) a1).bind fun r2 =>
  (zob h this 7).bind fun p3 =>
  (fX5_pieceAt h (some p3) a2).bind fun r4 =>
  if r2 = none then
    some ((-1 : Int32), h)
  else
    if r4 = none then
      some ((-1 : Int32), h)
    else
      (zfP h r2 3 2).bind fun r5 =>
      (zaL h r5 3).bind fun x6 =>
      if x6 = 0 then
        some ((-1 : Int32), h)
      else
        (zfP h r2 3 2).bind fun r7 =>
        (zaL h r7 3).bind fun x8 =>
        (zmA h 3 (x8 + (1 : Int32))).bind fun ((r9, h10) : Option Nat × Zh) =>
        (zloop (fun ((v11, h12) : Int32 × Zh) =>
          ((zfP h12 r2 3 2).bind fun r16 =>
          (zaL h12 r16 3).bind fun x17 =>
          if x17 ≤ v11 then
            some (.inr h12)
          else
            (zfP h12 r2 3 2).bind fun r18 =>
            (zaP h12 r18 3 v11).bind fun r19 =>
            (zbP h12 r9 3 3 v11 r19).bind fun h20 =>
            some (.inl (v11 + (1 : Int32), h20)) : Option ((Int32 × Zh) ⊕ Zh))) zFU ((0 : Int32), h10)).bind fun (h13 : Zh) =>
        (zfP h13 r2 3 2).bind fun r21 =>
        (zaL h13 r21 3).bind fun x22 =>
        (zbP h13 r9 3 3 x22 r4).bind fun h23 =>
        (zmO h23 3 7).bind fun ((r24, h25) : Option Nat × Zh) =>
        (zfI h25 r2 3 0).bind fun x26 =>
        (zob h25 r24 4).bind fun p27 =>
        (fX2_init h25 (some p27) x26 (-3 : Int32) r9).bind fun h28 =>
        (zob h28 this 7).bind fun p29 =>
        (fX5_keep h28 (some p29) r24 (1 : Int32)).bind fun ((x30, h31) : Int32 × Zh) =>
        some (x30, h31)
set_option maxRecDepth 100000 in
set_option maxHeartbeats 4000000 in
theorem kX5_more (G : Zg) (h : Zh) (this : Option Nat) (a1 : Int32) (a2 : Int32) {x : Int32 × Zh} (hx : fX5_more h this a1 a2 = some x) : zCt G yX5_more cX5_more 7 (Option.some Jvm.ClassFile.FieldType.int) 67 [zrv G.2.1 this, .int a1, .int a2] h (some (.int x.1)) x.2 := by
  refine z_met (a := x) (rvf := fun (x : Int32 × Zh) => some (.int x.1)) (hff := fun (x : Int32 × Zh) => x.2) (lv := [(0, zrv G.2.1 this), (1, .int a1), (2, .int a2)]) (by decide +kernel) (by simp [lg_sl, zcat1, zcI, zcJ]) (by simp [lv_args, zcat1, zcI, zcJ]) ?_ hx
  unfold fX5_more
  refine z_aload_n (j := 0) dX5_more_0 rfl rfl ?_
  refine z_iload_n (j := 1) dX5_more_1 rfl rfl ?_
  refine z_ob (fun p1 ep1 lp1 kp1 => ?_)
  refine z_callV (As := [.int a1]) (rest := []) (rv2 := fun (x : Option Nat) => some (zrv G.2.1 x)) (h2 := fun (_ : Option Nat) => h) dX5_more_2 vX5_pieceAt (.inl zw194) (by decide) zkl6 lp1 kp1 rfl (by rw [ep1]; rfl) (by decide) (fun x hx => kX5_pieceAt G h (some p1) a1 hx) (fun r2 => ?_)
  try dsimp only [Option.toList, List.cons_append, List.nil_append]
  refine z_astore_n (i := 3) (lv' := [(3, zrv G.2.1 r2), (0, zrv G.2.1 this), (1, .int a1), (2, .int a2)]) dX5_more_5 rfl (by decide) rfl ?_
  refine z_aload_n (j := 1) dX5_more_6 rfl rfl ?_
  refine z_iload_n (j := 3) dX5_more_7 rfl rfl ?_
  refine z_ob (fun p3 ep3 lp3 kp3 => ?_)
  refine z_callV (As := [.int a2]) (rest := []) (rv2 := fun (x : Option Nat) => some (zrv G.2.1 x)) (h2 := fun (_ : Option Nat) => h) dX5_more_8 vX5_pieceAt (.inl zw194) (by decide) zkl6 lp3 kp3 rfl (by rw [ep3]; rfl) (by decide) (fun x hx => kX5_pieceAt G h (some p3) a2 hx) (fun r4 => ?_)
  try dsimp only [Option.toList, List.cons_append, List.nil_append]
  refine z_astore (i := 4) (lv' := [(4, zrv G.2.1 r4), (3, zrv G.2.1 r2), (0, zrv G.2.1 this), (1, .int a1), (2, .int a2)]) dX5_more_11 (by decide) (by simp [zcat1, zcI, zcJ]) ?_
  refine z_aload_n (j := 1) dX5_more_13 rfl rfl ?_
  refine z_ifnull (tgt := 30) dX5_more_14 (by decide) (fun _ => ?_) (fun _ => ?_)
  · refine z_iconst (v := -1) dX5_more_30 (by decide) ?_
    exact z_iret dX5_more_31 rfl rfl rfl rfl
  · refine z_aload (j := 0) dX5_more_17 rfl ?_
    refine z_ifnull (tgt := 30) dX5_more_19 (by decide) (fun _ => ?_) (fun _ => ?_)
    · refine z_iconst (v := -1) dX5_more_30 (by decide) ?_
      exact z_iret dX5_more_31 rfl rfl rfl rfl
    · refine z_aload_n (j := 1) dX5_more_22 rfl rfl ?_
      refine z_getP (k := 2) dX5_more_23 zkl3 (by decide) rfl (.inr ⟨_, zw383⟩) (fun r5 => ?_)
      refine z_alen dX5_more_26 (by decide) (fun x6 => ?_)
      refine z_if_ne (tgt := 32) dX5_more_27 (by decide) (fun _ => ?_) (fun _ => ?_)
      · refine z_iconst (v := -1) dX5_more_30 (by decide) ?_
        exact z_iret dX5_more_31 rfl rfl rfl rfl
      · refine z_aload_n (j := 1) dX5_more_32 rfl rfl ?_
        refine z_getP (k := 2) dX5_more_33 zkl3 (by decide) rfl (.inr ⟨_, zw383⟩) (fun r7 => ?_)
        refine z_alen dX5_more_36 (by decide) (fun x8 => ?_)
        refine z_iconst (v := 1) dX5_more_37 (by decide) ?_
        refine z_iadd dX5_more_38 ?_
        refine z_newQ (t := 3) dX5_more_39 (by decide) (by decide) rfl zw69 (fun r9 h10 => ?_)
        try dsimp only
        refine z_astore (i := 5) (lv' := [(5, zrv G.2.1 r9), (4, zrv G.2.1 r4), (3, zrv G.2.1 r2), (0, zrv G.2.1 this), (1, .int a1), (2, .int a2)]) dX5_more_42 (by decide) (by simp [zcat1, zcI, zcJ]) ?_
        refine z_iconst (v := 0) dX5_more_44 (by decide) ?_
        refine z_istore (i := 6) (lv' := [(6, .int (0 : Int32)), (5, zrv G.2.1 r9), (4, zrv G.2.1 r4), (3, zrv G.2.1 r2), (0, zrv G.2.1 this), (1, .int a1), (2, .int a2)]) dX5_more_45 (by decide) (by simp [zcat1, zcI, zcJ]) ?_
        refine z_at [4, 3, 2, 1, 0] rfl ?_
        refine z_join (pc2 := 75) (lv2 := fun (q : Zh) => [(0, zrv G.2.1 this), (3, zrv G.2.1 r2), (4, zrv G.2.1 r4), (5, zrv G.2.1 r9)]) (st2 := fun _ => []) (h2 := fun (q : Zh) => q) (fun q => ?_) (fun F14 kF14 => ?_)
        · obtain ⟨h13, e0⟩ : ∃ z, z = q := ⟨_, rfl⟩
          subst e0
          try dsimp only
          refine z_aload (j := 3) dX5_more_75 rfl ?_
          refine z_aload_n (j := 1) dX5_more_77 rfl rfl ?_
          refine z_getP (k := 2) dX5_more_78 zkl3 (by decide) rfl (.inr ⟨_, zw383⟩) (fun r21 => ?_)
          refine z_alen dX5_more_81 (by decide) (fun x22 => ?_)
          refine z_aload (j := 2) dX5_more_82 rfl ?_
          refine z_aast dX5_more_84 (by decide) (by decide) zkl3 rfl (fun h23 => ?_)
          refine z_aload_n (j := 0) dX5_more_85 rfl rfl ?_
          refine z_newO dX5_more_86 zkl3 zw69 zw366 zw50 (by decide +kernel) (fun r24 h25 => ?_)
          try dsimp only
          refine z_dup dX5_more_89 (zcat1 _ _) ?_
          refine z_aload_n (j := 1) dX5_more_90 rfl rfl ?_
          refine z_getI (k := 0) dX5_more_91 zkl3 (by decide) rfl (.inr ⟨_, zw377⟩) (fun x26 => ?_)
          refine z_bipush (v := -3) dX5_more_94 (by decide) ?_
          refine z_aload (j := 3) dX5_more_96 rfl ?_
          refine z_ob (fun p27 ep27 lp27 kp27 => ?_)
          refine z_callI (As := [.int x26, .int (-3 : Int32), zrv G.2.1 r9]) (rest := [zrv G.2.1 r24, zrv G.2.1 this]) (h2 := fun (x : Zh) => x) dX5_more_98 vX2_init (.inr ⟨_, zw367⟩) (by decide) rfl (by rw [ep27]; rfl) (by simp [zcat1, zcI, zcJ]) (fun x hx => kX2_init G h25 (some p27) x26 (-3 : Int32) r9 hx) (fun h28 => ?_)
          try dsimp only [Option.toList, List.cons_append, List.nil_append]
          refine z_iconst (v := 1) dX5_more_101 (by decide) ?_
          refine z_ob (fun p29 ep29 lp29 kp29 => ?_)
          refine z_callV (As := [zrv G.2.1 r24, .int (1 : Int32)]) (rest := []) (rv2 := fun (x : Int32 × Zh) => some (.int x.1)) (h2 := fun (x : Int32 × Zh) => x.2) dX5_more_102 vX5_keep (.inl zw410) (by decide) zkl6 lp29 kp29 rfl (by rw [ep29]; rfl) (by decide) (fun x hx => kX5_keep G h28 (some p29) r24 (1 : Int32) hx) (fun x => ?_)
          obtain ⟨x30, h31⟩ := x
          try dsimp only [Option.toList, List.cons_append, List.nil_append]
          exact z_iret dX5_more_105 rfl rfl rfl rfl
        · refine z_loop (lvf := fun (q : Int32 × Zh) => [(0, zrv G.2.1 this), (3, zrv G.2.1 r2), (4, zrv G.2.1 r4), (5, zrv G.2.1 r9), (6, .int q.1)]) (hf2 := fun (q : Int32 × Zh) => q.2) (s0 := ((0 : Int32), h10)) (fun K15 bK15 rK15 q => ?_)
          obtain ⟨v11, h12⟩ := q
          try dsimp only
          refine z_iload (j := 4) dX5_more_47 rfl ?_
          refine z_aload_n (j := 1) dX5_more_49 rfl rfl ?_
          refine z_as ?_
          refine z_getP (k := 2) dX5_more_50 zkl3 (by decide) rfl (.inr ⟨_, zw383⟩) (fun r16 => ?_)
          refine z_as ?_
          refine z_alen dX5_more_53 (by decide) (fun x17 => ?_)
          refine z_itb ?_
          refine z_icmp_ge (tgt := 75) dX5_more_54 (by decide) (fun _ => ?_) (fun _ => ?_)
          · refine z_sb ?_
            refine z_eq (rK15 _) ?_
            refine z_at [0, 1, 2, 3] rfl ?_
            exact kF14 h12
          · refine z_aload (j := 3) dX5_more_57 rfl ?_
            refine z_iload (j := 4) dX5_more_59 rfl ?_
            refine z_aload_n (j := 1) dX5_more_61 rfl rfl ?_
            refine z_as ?_
            refine z_getP (k := 2) dX5_more_62 zkl3 (by decide) rfl (.inr ⟨_, zw383⟩) (fun r18 => ?_)
            refine z_iload (j := 4) dX5_more_65 rfl ?_
            refine z_as ?_
            refine z_aald dX5_more_67 (by decide) (by decide) (fun r19 => ?_)
            refine z_as ?_
            refine z_aast dX5_more_68 (by decide) (by decide) zkl3 rfl (fun h20 => ?_)
            refine z_iinc (j := 4) (v := v11 + (1 : Int32)) (lv' := [(6, .int (v11 + (1 : Int32))), (0, zrv G.2.1 this), (3, zrv G.2.1 r2), (4, zrv G.2.1 r4), (5, zrv G.2.1 r9)]) dX5_more_69 rfl rfl (by decide) (by simp [zcat1, zcI, zcJ]) ?_
            refine z_goto (tgt := 47) dX5_more_72 (by decide) ?_
            refine z_sb ?_
            refine z_at [1, 2, 3, 4, 0] rfl ?_
            exact bK15 (v11 + (1 : Int32), h20)
def fX5_piece (h : Zh) (this : Option Nat) (a1 : Int32) (a2 : Int32) : Option (Int32) :=
  (zob h this 7).bind fun p1 =>
  (fX5_pieceAt h (some p1) a1).bind fun r2 =>
  if r2 = none then
    some (-1 : Int32)
  else
    if a2 < 0 then
      some (-1 : Int32)
    else
      if a2 < (63 : Int32) then
        if a2 = 0 then
          (zfI h r2 3 0).bind fun x3 =>
          some x3
        else
          if a2 = (1 : Int32) then
            (zfI h r2 3 1).bind fun x4 =>
            some x4
          else
            if a2 = (2 : Int32) then
              (zfP h r2 3 2).bind fun r5 =>
              (zaL h r5 3).bind fun x6 =>
              some x6
            else
              if a2 = (3 : Int32) then
                (zfI h r2 3 3).bind fun x7 =>
                some x7
              else
                (zfP h r2 3 2).bind fun r8 =>
                (zaL h r8 3).bind fun x9 =>
                (if x9 ≤ (a2 - (4 : Int32)) then
                  some (-3 : Int32)
                else
                  (zfP h r2 3 2).bind fun r12 =>
                  (zaP h r12 3 (a2 - (4 : Int32))).bind fun r13 =>
                  (zfI h r13 3 5).bind fun x14 =>
                  some x14).bind fun (v10 : Int32) =>
                some v10
      else
        some (-1 : Int32)
set_option maxRecDepth 100000 in
set_option maxHeartbeats 4000000 in
theorem kX5_piece (G : Zg) (h : Zh) (this : Option Nat) (a1 : Int32) (a2 : Int32) {x : Int32} (hx : fX5_piece h this a1 a2 = some x) : zCt G yX5_piece cX5_piece 4 (Option.some Jvm.ClassFile.FieldType.int) 2 [zrv G.2.1 this, .int a1, .int a2] h (some (.int x)) h := by
  refine z_met (a := x) (rvf := fun (x : Int32) => some (.int x)) (hff := fun (_ : Int32) => h) (lv := [(0, zrv G.2.1 this), (1, .int a1), (2, .int a2)]) (by decide +kernel) (by simp [lg_sl, zcat1, zcI, zcJ]) (by simp [lv_args, zcat1, zcI, zcJ]) ?_ hx
  unfold fX5_piece
  refine z_aload_n (j := 0) dX5_piece_0 rfl rfl ?_
  refine z_iload_n (j := 1) dX5_piece_1 rfl rfl ?_
  refine z_ob (fun p1 ep1 lp1 kp1 => ?_)
  refine z_callV (As := [.int a1]) (rest := []) (rv2 := fun (x : Option Nat) => some (zrv G.2.1 x)) (h2 := fun (_ : Option Nat) => h) dX5_piece_2 vX5_pieceAt (.inl zw194) (by decide) zkl6 lp1 kp1 rfl (by rw [ep1]; rfl) (by decide) (fun x hx => kX5_pieceAt G h (some p1) a1 hx) (fun r2 => ?_)
  try dsimp only [Option.toList, List.cons_append, List.nil_append]
  refine z_astore_n (i := 3) (lv' := [(3, zrv G.2.1 r2), (0, zrv G.2.1 this), (1, .int a1), (2, .int a2)]) dX5_piece_5 rfl (by decide) rfl ?_
  refine z_aload_n (j := 0) dX5_piece_6 rfl rfl ?_
  refine z_ifnull (tgt := 20) dX5_piece_7 (by decide) (fun _ => ?_) (fun _ => ?_)
  · refine z_iconst (v := -1) dX5_piece_20 (by decide) ?_
    exact z_iret dX5_piece_21 rfl rfl rfl rfl
  · refine z_iload_n (j := 3) dX5_piece_10 rfl rfl ?_
    refine z_if_lt (tgt := 20) dX5_piece_11 (by decide) (fun _ => ?_) (fun _ => ?_)
    · refine z_iconst (v := -1) dX5_piece_20 (by decide) ?_
      exact z_iret dX5_piece_21 rfl rfl rfl rfl
    · refine z_iload_n (j := 3) dX5_piece_14 rfl rfl ?_
      refine z_bipush (v := 63) dX5_piece_15 (by decide) ?_
      refine z_icmp_lt (tgt := 22) dX5_piece_17 (by decide) (fun _ => ?_) (fun _ => ?_)
      · refine z_iload_n (j := 3) dX5_piece_22 rfl rfl ?_
        refine z_if_ne (tgt := 31) dX5_piece_23 (by decide) (fun _ => ?_) (fun _ => ?_)
        · refine z_aload_n (j := 0) dX5_piece_26 rfl rfl ?_
          refine z_getI (k := 0) dX5_piece_27 zkl3 (by decide) rfl (.inr ⟨_, zw377⟩) (fun x3 => ?_)
          exact z_iret dX5_piece_30 rfl rfl rfl rfl
        · refine z_iload_n (j := 3) dX5_piece_31 rfl rfl ?_
          refine z_iconst (v := 1) dX5_piece_32 (by decide) ?_
          refine z_icmp_ne (tgt := 41) dX5_piece_33 (by decide) (fun _ => ?_) (fun _ => ?_)
          · refine z_aload_n (j := 0) dX5_piece_36 rfl rfl ?_
            refine z_getI (k := 1) dX5_piece_37 zkl3 (by decide) rfl (.inr ⟨_, zw380⟩) (fun x4 => ?_)
            exact z_iret dX5_piece_40 rfl rfl rfl rfl
          · refine z_iload_n (j := 3) dX5_piece_41 rfl rfl ?_
            refine z_iconst (v := 2) dX5_piece_42 (by decide) ?_
            refine z_icmp_ne (tgt := 52) dX5_piece_43 (by decide) (fun _ => ?_) (fun _ => ?_)
            · refine z_aload_n (j := 0) dX5_piece_46 rfl rfl ?_
              refine z_getP (k := 2) dX5_piece_47 zkl3 (by decide) rfl (.inr ⟨_, zw383⟩) (fun r5 => ?_)
              refine z_alen dX5_piece_50 (by decide) (fun x6 => ?_)
              exact z_iret dX5_piece_51 rfl rfl rfl rfl
            · refine z_iload_n (j := 3) dX5_piece_52 rfl rfl ?_
              refine z_iconst (v := 3) dX5_piece_53 (by decide) ?_
              refine z_icmp_ne (tgt := 62) dX5_piece_54 (by decide) (fun _ => ?_) (fun _ => ?_)
              · refine z_aload_n (j := 0) dX5_piece_57 rfl rfl ?_
                refine z_getI (k := 3) dX5_piece_58 zkl3 (by decide) rfl (.inr ⟨_, zw385⟩) (fun x7 => ?_)
                exact z_iret dX5_piece_61 rfl rfl rfl rfl
              · refine z_iload_n (j := 3) dX5_piece_62 rfl rfl ?_
                refine z_iconst (v := 4) dX5_piece_63 (by decide) ?_
                refine z_isub dX5_piece_64 ?_
                refine z_aload_n (j := 0) dX5_piece_65 rfl rfl ?_
                refine z_getP (k := 2) dX5_piece_66 zkl3 (by decide) rfl (.inr ⟨_, zw383⟩) (fun r8 => ?_)
                refine z_alen dX5_piece_69 (by decide) (fun x9 => ?_)
                refine z_join (pc2 := 89) (lv2 := fun (q : Int32) => []) (st2 := fun (q : Int32) => [.int q]) (h2 := fun (q : Int32) => h) (fun q => ?_) (fun F11 kF11 => ?_)
                · obtain ⟨v10, e0⟩ : ∃ z, z = q := ⟨_, rfl⟩
                  subst e0
                  try dsimp only
                  exact z_iret dX5_piece_89 rfl rfl rfl rfl
                · refine z_itb ?_
                  refine z_icmp_ge (tgt := 87) dX5_piece_70 (by decide) (fun _ => ?_) (fun _ => ?_)
                  · refine z_bipush (v := -3) dX5_piece_87 (by decide) ?_
                    refine z_sb ?_
                    refine z_at [] rfl ?_
                    exact kF11 (-3 : Int32)
                  · refine z_aload_n (j := 0) dX5_piece_73 rfl rfl ?_
                    refine z_as ?_
                    refine z_getP (k := 2) dX5_piece_74 zkl3 (by decide) rfl (.inr ⟨_, zw383⟩) (fun r12 => ?_)
                    refine z_iload_n (j := 3) dX5_piece_77 rfl rfl ?_
                    refine z_iconst (v := 4) dX5_piece_78 (by decide) ?_
                    refine z_isub dX5_piece_79 ?_
                    refine z_as ?_
                    refine z_aald dX5_piece_80 (by decide) (by decide) (fun r13 => ?_)
                    refine z_as ?_
                    refine z_getI (k := 5) dX5_piece_81 zkl3 (by decide) rfl (.inr ⟨_, zw390⟩) (fun x14 => ?_)
                    refine z_goto (tgt := 89) dX5_piece_84 (by decide) ?_
                    refine z_sb ?_
                    refine z_at [] rfl ?_
                    exact kF11 x14
      · refine z_iconst (v := -1) dX5_piece_20 (by decide) ?_
        exact z_iret dX5_piece_21 rfl rfl rfl rfl
def fJxa1e45_init_da8c8 (h : Zh) (this : Option Nat) : Option (Unit) :=
  (zob h this 1).bind fun _ =>
  some ()
set_option maxRecDepth 100000 in
set_option maxHeartbeats 4000000 in
theorem kJxa1e45_init_da8c8 (G : Zg) (h : Zh) (this : Option Nat) {x : Unit} (hx : fJxa1e45_init_da8c8 h this = some x) : zCt G yJxa1e45_init_da8c8 cJxa1e45_init_da8c8 1 (Option.none : Option Jvm.ClassFile.FieldType) 1 [zrv G.2.1 this] h none h := by
  refine z_met (a := x) (rvf := fun (_ : Unit) => none) (hff := fun (_ : Unit) => h) (lv := [(0, zrv G.2.1 this)]) (by decide +kernel) (by simp [lg_sl, zcat1, zcI, zcJ]) (by simp [lv_args, zcat1, zcI, zcJ]) ?_ hx
  unfold fJxa1e45_init_da8c8
  refine z_aload_n (j := 0) dJxa1e45_init_da8c8_0 rfl rfl ?_
  refine z_objI2 dJxa1e45_init_da8c8_1 zw446 zw65 zw66 (by decide) (by decide) (fun _ => ?_)
  exact z_vret dJxa1e45_init_da8c8_4 rfl rfl rfl
def fJxc12de_init_da8c8 (h : Zh) (this : Option Nat) : Option (Zh) :=
  (zob h this 1).bind fun p1 =>
  (fJxa1e45_init_da8c8 h (some p1)).bind fun _ =>
  (zgI h this 0 0 (0 : Int32)).bind fun h2 =>
  some h2
set_option maxRecDepth 100000 in
set_option maxHeartbeats 4000000 in
theorem kJxc12de_init_da8c8 (G : Zg) (h : Zh) (this : Option Nat) {x : Zh} (hx : fJxc12de_init_da8c8 h this = some x) : zCt G yJxc12de_init_da8c8 cJxc12de_init_da8c8 1 (Option.none : Option Jvm.ClassFile.FieldType) 2 [zrv G.2.1 this] h none x := by
  refine z_met (a := x) (rvf := fun (_ : Zh) => none) (hff := fun (x : Zh) => x) (lv := [(0, zrv G.2.1 this)]) (by decide +kernel) (by simp [lg_sl, zcat1, zcI, zcJ]) (by simp [lv_args, zcat1, zcI, zcJ]) ?_ hx
  unfold fJxc12de_init_da8c8
  refine z_aload_n (j := 0) dJxc12de_init_da8c8_0 rfl rfl ?_
  refine z_ob (fun p1 ep1 lp1 kp1 => ?_)
  refine z_callI (As := []) (rest := []) (h2 := fun (_ : Unit) => h) dJxc12de_init_da8c8_1 vJxa1e45_init_da8c8 (.inl zw443) (by decide) rfl (by rw [ep1]; rfl) (by decide) (fun x hx => kJxa1e45_init_da8c8 G h (some p1) hx) (fun _ => ?_)
  try dsimp only [Option.toList, List.cons_append, List.nil_append]
  refine z_aload_n (j := 0) dJxc12de_init_da8c8_4 rfl rfl ?_
  refine z_iconst (v := 0) dJxc12de_init_da8c8_5 (by decide) ?_
  refine z_putI (k := 0) dJxc12de_init_da8c8_6 zkl0 (by decide) (.inl zw451) (.inl rfl) rfl rfl rfl (fun h2 => ?_)
  exact z_vret dJxc12de_init_da8c8_9 rfl rfl rfl
def fJx4a65c_init_da8c8 (c : Nat × Nat) (h : Zh) (this : Option Nat) : Option (Zh) :=
  (zob h this 1).bind fun p1 =>
  (fJxc12de_init_da8c8 h (some p1)).bind fun h2 =>
  (zgP h2 this 0 1 (some c.1)).bind fun h3 =>
  some h3
set_option maxRecDepth 100000 in
set_option maxHeartbeats 4000000 in
theorem kJx4a65c_init_da8c8 (G : Zg) (c : Nat × Nat) (hc : c = G.2.2.2.2.2) (h : Zh) (this : Option Nat) {x : Zh} (hx : fJx4a65c_init_da8c8 c h this = some x) : zCt G yJx4a65c_init_da8c8 cJx4a65c_init_da8c8 1 (Option.none : Option Jvm.ClassFile.FieldType) 3 [zrv G.2.1 this] h none x := by
  refine z_met (a := x) (rvf := fun (_ : Zh) => none) (hff := fun (x : Zh) => x) (lv := [(0, zrv G.2.1 this)]) (by decide +kernel) (by simp [lg_sl, zcat1, zcI, zcJ]) (by simp [lv_args, zcat1, zcI, zcJ]) ?_ hx
  unfold fJx4a65c_init_da8c8
  refine z_aload_n (j := 0) dJx4a65c_init_da8c8_0 rfl rfl ?_
  refine z_ob (fun p1 ep1 lp1 kp1 => ?_)
  refine z_callI (As := []) (rest := []) (h2 := fun (x : Zh) => x) dJx4a65c_init_da8c8_1 vJxc12de_init_da8c8 (.inl zw440) (by decide) rfl (by rw [ep1]; rfl) (by decide) (fun x hx => kJxc12de_init_da8c8 G h (some p1) hx) (fun h2 => ?_)
  try dsimp only [Option.toList, List.cons_append, List.nil_append]
  refine z_aload_n (j := 0) dJx4a65c_init_da8c8_4 rfl rfl ?_
  refine z_gets2 hc dJx4a65c_init_da8c8_5 zw447 ?_
  refine z_putP (k := 1) dJx4a65c_init_da8c8_8 zkl0 (by decide) (.inl zw449) (.inl rfl) (fun a => by cases a <;> exact ⟨rfl, rfl⟩) rfl (fun h3 => ?_)
  exact z_vret dJx4a65c_init_da8c8_11 rfl rfl rfl
