/-! the reference: takes, cutNode, leaf, rest, one, flower, settle, find, clearTimes, time, timeTold, work, layWaits, lag, slow, passes, areLike, count -/
def fX6_takes (s : Zr) (a1 : Int32) (a2 : Int32) : Option (Zr) :=
  (wrI s 17 (s 0 20) a2).bind fun s1 =>
  (some (u2 s1 0 20 ((s1 0 20) + (1 : Int32)))).bind fun s2 =>
  (rdI s2 16 a1).bind fun x3 =>
  (wrI s2 16 a1 (x3 + (1 : Int32))).bind fun s4 =>
  some s4
set_option maxRecDepth 100000 in
set_option maxHeartbeats 4000000 in
theorem kX6_takes (G : Zg) (R : Nat) (h0 : Zh) (hF : zRF R h0) (s : Zr) (a1 : Int32) (a2 : Int32) {x : Zr} (hx : fX6_takes s a1 a2 = some x) : zCt G yX6_takes cX6_takes 3 (Option.none : Option Jvm.ClassFile.FieldType) 1 [zrv G.2.1 (some R), .int a1, .int a2] (zput R h0 s) none (zput R h0 x) := by
  refine z_met (a := x) (rvf := fun (_ : Zr) => none) (hff := fun (x : Zr) => zput R h0 x) (lv := [(0, zrv G.2.1 (some R)), (1, .int a1), (2, .int a2)]) (by decide +kernel) (by simp [lg_sl, zcat1, zcI, zcJ]) (by simp [lv_args, zcat1, zcI, zcJ]) ?_ hx
  unfold fX6_takes
  refine z_aload_n (j := 0) dX6_takes_0 rfl rfl ?_
  refine z_rgetA (k := 21) (a := 16) hF dX6_takes_1 (by decide) rfl zw797 rfl ?_
  refine z_aload_n (j := 0) dX6_takes_4 rfl rfl ?_
  refine z_rgetI (k := 20) hF dX6_takes_5 (by decide) rfl zw796 ?_
  refine z_iload_n (j := 2) dX6_takes_8 rfl rfl ?_
  refine z_riast hF dX6_takes_9 (fun s1 => ?_)
  refine z_aload_n (j := 0) dX6_takes_10 rfl rfl ?_
  refine z_dup dX6_takes_11 (zcat1 _ _) ?_
  refine z_rgetI (k := 20) hF dX6_takes_12 (by decide) rfl zw796 ?_
  refine z_iconst (v := 1) dX6_takes_15 (by decide) ?_
  refine z_iadd dX6_takes_16 ?_
  refine z_rputI (k := 20) hF dX6_takes_17 (by decide) rfl zw796 rfl rfl (fun s2 => ?_)
  refine z_aload_n (j := 0) dX6_takes_20 rfl rfl ?_
  refine z_rgetA (k := 19) (a := 15) hF dX6_takes_21 (by decide) rfl zw795 rfl ?_
  refine z_iload_n (j := 1) dX6_takes_24 rfl rfl ?_
  refine z_dup2 dX6_takes_25 rfl (zcat1 _ _) ?_
  refine z_riald hF dX6_takes_26 (fun x3 => ?_)
  refine z_iconst (v := 1) dX6_takes_27 (by decide) ?_
  refine z_iadd dX6_takes_28 ?_
  refine z_riast hF dX6_takes_29 (fun s4 => ?_)
  exact z_vret dX6_takes_30 rfl rfl rfl
def fX6_cutNode (s : Zr) (a1 : Int32) (a2 : Int32) : Option (Zr) :=
  (wrI s 13 a1 a2).bind fun s1 =>
  (if a2 = (5 : Int32) then
    (fX6_partNode s1 a1 (-3 : Int32) a2).bind fun ((x5, s6) : Int32 × Zr) =>
    (wrI s6 46 (0 : Int32) x5).bind fun s7 =>
    some ((0 : Int32) + (1 : Int32), s7)
  else
    some ((0 : Int32), s1)).bind fun ((v2, s3) : Int32 × Zr) =>
  (zloop (fun ((v8, v9, s10) : Int32 × Int32 × Zr) =>
    (if (s10 0 52) ≤ v9 then
      some (.inr (v8, s10))
    else
      (rdI s10 41 v9).bind fun x15 =>
      (fX6_partNode s10 a1 x15 a2).bind fun ((x16, s17) : Int32 × Zr) =>
      (wrI s17 46 v8 x16).bind fun s18 =>
      some (.inl (v8 + (1 : Int32), v9 + (1 : Int32), s18)) : Option ((Int32 × Int32 × Zr) ⊕ (Int32 × Zr)))) zFU (v2, (0 : Int32), s3)).bind fun ((w11, s12) : Int32 × Zr) =>
  (wrI s12 15 a1 (s12 0 20)).bind fun s19 =>
  (zloop (fun ((v20, s21) : Int32 × Zr) =>
    (if w11 ≤ v20 then
      some (.inr s21)
    else
      (rdI s21 46 v20).bind fun x25 =>
      (fX6_takes s21 a1 x25).bind fun s26 =>
      some (.inl (v20 + (1 : Int32), s26)) : Option ((Int32 × Zr) ⊕ Zr))) zFU ((0 : Int32), s19)).bind fun (s22 : Zr) =>
  some s22
set_option maxRecDepth 100000 in
set_option maxHeartbeats 4000000 in
theorem kX6_cutNode (G : Zg) (R : Nat) (h0 : Zh) (hF : zRF R h0) (s : Zr) (a1 : Int32) (a2 : Int32) {x : Zr} (hx : fX6_cutNode s a1 a2 = some x) : zCt G yX6_cutNode cX6_cutNode 6 (Option.none : Option Jvm.ClassFile.FieldType) 3 [zrv G.2.1 (some R), .int a1, .int a2] (zput R h0 s) none (zput R h0 x) := by
  refine z_met (a := x) (rvf := fun (_ : Zr) => none) (hff := fun (x : Zr) => zput R h0 x) (lv := [(0, zrv G.2.1 (some R)), (1, .int a1), (2, .int a2)]) (by decide +kernel) (by simp [lg_sl, zcat1, zcI, zcJ]) (by simp [lv_args, zcat1, zcI, zcJ]) ?_ hx
  unfold fX6_cutNode
  refine z_aload_n (j := 0) dX6_cutNode_0 rfl rfl ?_
  refine z_rgetA (k := 16) (a := 12) hF dX6_cutNode_1 (by decide) rfl zw792 rfl ?_
  refine z_iload_n (j := 1) dX6_cutNode_4 rfl rfl ?_
  refine z_iload_n (j := 2) dX6_cutNode_5 rfl rfl ?_
  refine z_riast hF dX6_cutNode_6 (fun s1 => ?_)
  refine z_aload_n (j := 0) dX6_cutNode_7 rfl rfl ?_
  refine z_rgetA (k := 58) (a := 45) hF dX6_cutNode_8 (by decide) rfl zw834 rfl ?_
  refine z_astore_n (lv' := [(3, zrv G.2.1 (some (R + 46))), (0, zrv G.2.1 (some R)), (1, .int a1), (2, .int a2)]) dX6_cutNode_11 rfl (by decide) rfl ?_
  refine z_iconst (v := 0) dX6_cutNode_12 (by decide) ?_
  refine z_istore (lv' := [(4, .int (0 : Int32)), (3, zrv G.2.1 (some (R + 46))), (0, zrv G.2.1 (some R)), (1, .int a1), (2, .int a2)]) dX6_cutNode_13 (by decide) rfl ?_
  refine z_iload_n (j := 4) dX6_cutNode_15 rfl rfl ?_
  refine z_iconst (v := 5) dX6_cutNode_16 (by decide) ?_
  refine z_join (pc2 := 35) (lv2 := fun (q : Int32 × Zr) => [(0, zrv G.2.1 (some R)), (1, .int a1), (2, .int a2), (3, zrv G.2.1 (some (R + 46))), (4, .int q.1)]) (st2 := fun (q : Int32 × Zr) => []) (h2 := fun (q : Int32 × Zr) => zput R h0 q.2) (fun q => ?_) (fun F4 kF4 => ?_)
  · obtain ⟨v2, s3⟩ := q
    try dsimp only
    refine z_iconst (v := 0) dX6_cutNode_35 (by decide) ?_
    refine z_istore (lv' := [(5, .int (0 : Int32)), (0, zrv G.2.1 (some R)), (1, .int a1), (2, .int a2), (3, zrv G.2.1 (some (R + 46))), (4, .int v2)]) dX6_cutNode_36 (by decide) rfl ?_
    refine z_at [1, 2, 3, 4, 5, 0] rfl ?_
    refine z_join (pc2 := 73) (lv2 := fun (q : Int32 × Zr) => [(0, zrv G.2.1 (some R)), (1, .int a1), (3, zrv G.2.1 (some (R + 46))), (4, .int q.1)]) (st2 := fun _ => []) (h2 := fun (q : Int32 × Zr) => zput R h0 q.2) (fun q => ?_) (fun F13 kF13 => ?_)
    · obtain ⟨w11, s12⟩ := q
      try dsimp only
      refine z_aload_n (j := 0) dX6_cutNode_73 rfl rfl ?_
      refine z_rgetA (k := 18) (a := 14) hF dX6_cutNode_74 (by decide) rfl zw794 rfl ?_
      refine z_iload_n (j := 1) dX6_cutNode_77 rfl rfl ?_
      refine z_aload_n (j := 0) dX6_cutNode_78 rfl rfl ?_
      refine z_rgetI (k := 20) hF dX6_cutNode_79 (by decide) rfl zw796 ?_
      refine z_riast hF dX6_cutNode_82 (fun s19 => ?_)
      refine z_iconst (v := 0) dX6_cutNode_83 (by decide) ?_
      refine z_istore (lv' := [(5, .int (0 : Int32)), (0, zrv G.2.1 (some R)), (1, .int a1), (3, zrv G.2.1 (some (R + 46))), (4, .int w11)]) dX6_cutNode_84 (by decide) rfl ?_
      refine z_at [1, 2, 3, 4, 0] rfl ?_
      refine z_join (pc2 := 108) (lv2 := fun (q : Zr) => []) (st2 := fun _ => []) (h2 := fun (q : Zr) => zput R h0 q) (fun q => ?_) (fun F23 kF23 => ?_)
      · obtain ⟨s22, e0⟩ : ∃ z, z = q := ⟨_, rfl⟩
        subst e0
        try dsimp only
        exact z_vret dX6_cutNode_108 rfl rfl rfl
      · refine z_loop (lvf := fun (q : Int32 × Zr) => [(0, zrv G.2.1 (some R)), (1, .int a1), (3, zrv G.2.1 (some (R + 46))), (4, .int w11), (5, .int q.1)]) (hf2 := fun (q : Int32 × Zr) => zput R h0 q.2) (s0 := ((0 : Int32), s19)) (fun K24 bK24 rK24 q => ?_)
        obtain ⟨v20, s21⟩ := q
        try dsimp only
        refine z_iload (j := 4) dX6_cutNode_86 rfl ?_
        refine z_iload (j := 3) dX6_cutNode_88 rfl ?_
        refine z_itb ?_
        refine z_icmp_ge (tgt := 108) dX6_cutNode_90 (by decide) (fun _ => ?_) (fun _ => ?_)
        · refine z_sb ?_
          refine z_eq (rK24 _) ?_
          refine z_at [] rfl ?_
          exact kF23 s21
        · refine z_aload_n (j := 0) dX6_cutNode_93 rfl rfl ?_
          refine z_iload_n (j := 1) dX6_cutNode_94 rfl rfl ?_
          refine z_aload_n (j := 2) dX6_cutNode_95 rfl rfl ?_
          refine z_iload (j := 4) dX6_cutNode_96 rfl ?_
          refine z_as ?_
          refine z_riald hF dX6_cutNode_98 (fun x25 => ?_)
          refine z_as ?_
          refine z_callV (As := [.int a1, .int x25]) (rest := []) (rv2 := fun (_ : Zr) => none) (h2 := fun (x : Zr) => zput R h0 x) dX6_cutNode_99 vX6_takes (.inl zw1183) (by decide) zkl7 (zRrecv hF).1 (zRrecv hF).2 rfl rfl (by decide) (fun x hx => kX6_takes G R h0 hF s21 a1 x25 hx) (fun s26 => ?_)
          try dsimp only [Option.toList, List.cons_append, List.nil_append]
          refine z_iinc (j := 4) (v := v20 + (1 : Int32)) (lv' := [(5, .int (v20 + (1 : Int32))), (0, zrv G.2.1 (some R)), (1, .int a1), (3, zrv G.2.1 (some (R + 46))), (4, .int w11)]) dX6_cutNode_102 rfl rfl (by decide) rfl ?_
          refine z_goto (tgt := 86) dX6_cutNode_105 (by decide) ?_
          refine z_sb ?_
          refine z_at [1, 2, 3, 4, 0] rfl ?_
          exact bK24 (v20 + (1 : Int32), s26)
    · refine z_loop (lvf := fun (q : Int32 × Int32 × Zr) => [(0, zrv G.2.1 (some R)), (1, .int a1), (2, .int a2), (3, zrv G.2.1 (some (R + 46))), (4, .int q.1), (5, .int q.2.1)]) (hf2 := fun (q : Int32 × Int32 × Zr) => zput R h0 q.2.2) (s0 := (v2, (0 : Int32), s3)) (fun K14 bK14 rK14 q => ?_)
      obtain ⟨v8, v9, s10⟩ := q
      try dsimp only
      refine z_iload (j := 5) dX6_cutNode_38 rfl ?_
      refine z_aload_n (j := 0) dX6_cutNode_40 rfl rfl ?_
      refine z_rgetI (k := 52) hF dX6_cutNode_41 (by decide) rfl zw828 ?_
      refine z_itb ?_
      refine z_icmp_ge (tgt := 73) dX6_cutNode_44 (by decide) (fun _ => ?_) (fun _ => ?_)
      · refine z_sb ?_
        refine z_eq (rK14 _) ?_
        refine z_at [0, 1, 3, 4] rfl ?_
        exact kF13 (v8, s10)
      · refine z_aload_n (j := 3) dX6_cutNode_47 rfl rfl ?_
        refine z_iload (j := 4) dX6_cutNode_48 rfl ?_
        refine z_aload_n (j := 0) dX6_cutNode_50 rfl rfl ?_
        refine z_iload_n (j := 1) dX6_cutNode_51 rfl rfl ?_
        refine z_aload_n (j := 0) dX6_cutNode_52 rfl rfl ?_
        refine z_rgetA (k := 53) (a := 40) hF dX6_cutNode_53 (by decide) rfl zw829 rfl ?_
        refine z_iload (j := 5) dX6_cutNode_56 rfl ?_
        refine z_as ?_
        refine z_riald hF dX6_cutNode_58 (fun x15 => ?_)
        refine z_iload_n (j := 2) dX6_cutNode_59 rfl rfl ?_
        refine z_as ?_
        refine z_callV (As := [.int a1, .int x15, .int a2]) (rest := [.int v8, zrv G.2.1 (some (R + 46))]) (rv2 := fun (x : Int32 × Zr) => some (.int x.1)) (h2 := fun (x : Int32 × Zr) => zput R h0 x.2) dX6_cutNode_60 vX6_partNode (.inl zw1207) (by decide) zkl7 (zRrecv hF).1 (zRrecv hF).2 rfl rfl (by simp [zcat1, zcI, zcJ]) (fun x hx => kX6_partNode G R h0 hF s10 a1 x15 a2 hx) (fun x => ?_)
        obtain ⟨x16, s17⟩ := x
        try dsimp only [Option.toList, List.cons_append, List.nil_append]
        refine z_as ?_
        refine z_riast hF dX6_cutNode_63 (fun s18 => ?_)
        refine z_iinc (j := 4) (v := v8 + (1 : Int32)) (lv' := [(4, .int (v8 + (1 : Int32))), (0, zrv G.2.1 (some R)), (1, .int a1), (2, .int a2), (3, zrv G.2.1 (some (R + 46))), (5, .int v9)]) dX6_cutNode_64 rfl rfl (by decide) rfl ?_
        refine z_iinc (j := 5) (v := v9 + (1 : Int32)) (lv' := [(5, .int (v9 + (1 : Int32))), (4, .int (v8 + (1 : Int32))), (0, zrv G.2.1 (some R)), (1, .int a1), (2, .int a2), (3, zrv G.2.1 (some (R + 46)))]) dX6_cutNode_67 rfl rfl (by decide) rfl ?_
        refine z_goto (tgt := 38) dX6_cutNode_70 (by decide) ?_
        refine z_sb ?_
        refine z_at [2, 3, 4, 5, 1, 0] rfl ?_
        exact bK14 (v8 + (1 : Int32), v9 + (1 : Int32), s18)
  · refine z_itb ?_
    refine z_icmp_ne (tgt := 35) dX6_cutNode_17 (by decide) (fun _ => ?_) (fun _ => ?_)
    · refine z_aload_n (j := 1) dX6_cutNode_20 rfl rfl ?_
      refine z_iload (j := 0) dX6_cutNode_21 rfl ?_
      refine z_aload_n (j := 2) dX6_cutNode_23 rfl rfl ?_
      refine z_iload_n (j := 3) dX6_cutNode_24 rfl rfl ?_
      refine z_bipush (v := -3) dX6_cutNode_25 (by decide) ?_
      refine z_iload_n (j := 4) dX6_cutNode_27 rfl rfl ?_
      refine z_as ?_
      refine z_callV (As := [.int a1, .int (-3 : Int32), .int a2]) (rest := [.int (0 : Int32), zrv G.2.1 (some (R + 46))]) (rv2 := fun (x : Int32 × Zr) => some (.int x.1)) (h2 := fun (x : Int32 × Zr) => zput R h0 x.2) dX6_cutNode_28 vX6_partNode (.inl zw1207) (by decide) zkl7 (zRrecv hF).1 (zRrecv hF).2 rfl rfl (by simp [zcat1, zcI, zcJ]) (fun x hx => kX6_partNode G R h0 hF s1 a1 (-3 : Int32) a2 hx) (fun x => ?_)
      obtain ⟨x5, s6⟩ := x
      try dsimp only [Option.toList, List.cons_append, List.nil_append]
      refine z_as ?_
      refine z_riast hF dX6_cutNode_31 (fun s7 => ?_)
      refine z_iinc (j := 0) (v := (0 : Int32) + (1 : Int32)) (lv' := [(4, .int ((0 : Int32) + (1 : Int32))), (3, zrv G.2.1 (some (R + 46))), (0, zrv G.2.1 (some R)), (1, .int a1), (2, .int a2)]) dX6_cutNode_32 rfl rfl (by decide) rfl ?_
      refine z_sb ?_
      refine z_at [2, 3, 4, 1, 0] rfl ?_
      exact kF4 ((0 : Int32) + (1 : Int32), s7)
    · refine z_sb ?_
      refine z_at [2, 3, 4, 1, 0] rfl ?_
      exact kF4 ((0 : Int32), s1)
def fX6_leaf (s : Zr) (a1 : Int32) (a2 : Int32) : Option (Int32 × Zr) :=
  (fX6_newNode s a1 a2).bind fun ((x1, s2) : Int32 × Zr) =>
  (wrI s2 32 x1 (-1 : Int32)).bind fun s3 =>
  some (x1, s3)
set_option maxRecDepth 100000 in
set_option maxHeartbeats 4000000 in
theorem kX6_leaf (G : Zg) (R : Nat) (h0 : Zh) (hF : zRF R h0) (s : Zr) (a1 : Int32) (a2 : Int32) {x : Int32 × Zr} (hx : fX6_leaf s a1 a2 = some x) : zCt G yX6_leaf cX6_leaf 4 (Option.some Jvm.ClassFile.FieldType.int) 2 [zrv G.2.1 (some R), .int a1, .int a2] (zput R h0 s) (some (.int x.1)) (zput R h0 x.2) := by
  refine z_met (a := x) (rvf := fun (x : Int32 × Zr) => some (.int x.1)) (hff := fun (x : Int32 × Zr) => zput R h0 x.2) (lv := [(0, zrv G.2.1 (some R)), (1, .int a1), (2, .int a2)]) (by decide +kernel) (by simp [lg_sl, zcat1, zcI, zcJ]) (by simp [lv_args, zcat1, zcI, zcJ]) ?_ hx
  unfold fX6_leaf
  refine z_aload_n (j := 0) dX6_leaf_0 rfl rfl ?_
  refine z_iload_n (j := 1) dX6_leaf_1 rfl rfl ?_
  refine z_iload_n (j := 2) dX6_leaf_2 rfl rfl ?_
  refine z_callV (As := [.int a1, .int a2]) (rest := []) (rv2 := fun (x : Int32 × Zr) => some (.int x.1)) (h2 := fun (x : Int32 × Zr) => zput R h0 x.2) dX6_leaf_3 vX6_newNode (.inl zw1066) (by decide) zkl7 (zRrecv hF).1 (zRrecv hF).2 rfl rfl (by decide) (fun x hx => kX6_newNode G R h0 hF s a1 a2 hx) (fun x => ?_)
  obtain ⟨x1, s2⟩ := x
  try dsimp only [Option.toList, List.cons_append, List.nil_append]
  refine z_istore_n (lv' := [(3, .int x1), (0, zrv G.2.1 (some R)), (1, .int a1), (2, .int a2)]) dX6_leaf_6 rfl (by decide) rfl ?_
  refine z_aload_n (j := 1) dX6_leaf_7 rfl rfl ?_
  refine z_rgetA (k := 41) (a := 31) hF dX6_leaf_8 (by decide) rfl zw817 rfl ?_
  refine z_iload_n (j := 0) dX6_leaf_11 rfl rfl ?_
  refine z_iconst (v := -1) dX6_leaf_12 (by decide) ?_
  refine z_riast hF dX6_leaf_13 (fun s3 => ?_)
  refine z_iload_n (j := 0) dX6_leaf_14 rfl rfl ?_
  exact z_iret dX6_leaf_15 rfl rfl rfl rfl
def fX6_rest (s : Zr) (a1 : Int32) : Option (Zr) :=
  (wrI s 13 a1 (3 : Int32)).bind fun s1 =>
  (fX6_leaf s1 (1 : Int32) (-3 : Int32)).bind fun ((x2, s3) : Int32 × Zr) =>
  (fX6_newNode s3 (1 : Int32) (-3 : Int32)).bind fun ((x4, s5) : Int32 × Zr) =>
  (fX6_beginLog s5 x4).bind fun s6 =>
  (rdI s6 31 a1).bind fun x7 =>
  (zloop (fun ((v8, s9) : Int32 × Zr) =>
    ((rdI s9 31 a1).bind fun x13 =>
    (rdI s9 32 a1).bind fun x14 =>
    if (x13 + x14) ≤ v8 then
      some (.inr s9)
    else
      (rdI s9 34 v8).bind fun x15 =>
      (if x15 ≤ 0 then
        some s9
      else
        (fX6_beginRow s9 x4).bind fun s18 =>
        (zloop (fun ((v19, s20) : Int32 × Zr) =>
          ((rdI s20 34 v8).bind fun x24 =>
          if x24 ≤ v19 then
            some (.inr s20)
          else
            (rdI s20 33 v8).bind fun x25 =>
            (rdI s20 35 (x25 + v19)).bind fun x26 =>
            (fX6_addName s20 x26).bind fun s27 =>
            some (.inl (v19 + (1 : Int32), s27)) : Option ((Int32 × Zr) ⊕ Zr))) zFU ((0 : Int32), s18)).bind fun (s21 : Zr) =>
        some s21).bind fun (s16 : Zr) =>
      some (.inl (v8 + (1 : Int32), s16)) : Option ((Int32 × Zr) ⊕ Zr))) zFU (x7, s6)).bind fun (s10 : Zr) =>
  (wrI s10 15 a1 (s10 0 20)).bind fun s28 =>
  (fX6_takes s28 a1 x2).bind fun s29 =>
  (fX6_takes s29 a1 x4).bind fun s30 =>
  some s30
set_option maxRecDepth 100000 in
set_option maxHeartbeats 4000000 in
theorem kX6_rest (G : Zg) (R : Nat) (h0 : Zh) (hF : zRF R h0) (s : Zr) (a1 : Int32) {x : Zr} (hx : fX6_rest s a1 = some x) : zCt G yX6_rest cX6_rest 6 (Option.none : Option Jvm.ClassFile.FieldType) 3 [zrv G.2.1 (some R), .int a1] (zput R h0 s) none (zput R h0 x) := by
  refine z_met (a := x) (rvf := fun (_ : Zr) => none) (hff := fun (x : Zr) => zput R h0 x) (lv := [(0, zrv G.2.1 (some R)), (1, .int a1)]) (by decide +kernel) (by simp [lg_sl, zcat1, zcI, zcJ]) (by simp [lv_args, zcat1, zcI, zcJ]) ?_ hx
  unfold fX6_rest
  refine z_aload_n (j := 0) dX6_rest_0 rfl rfl ?_
  refine z_rgetA (k := 16) (a := 12) hF dX6_rest_1 (by decide) rfl zw792 rfl ?_
  refine z_iload_n (j := 1) dX6_rest_4 rfl rfl ?_
  refine z_iconst (v := 3) dX6_rest_5 (by decide) ?_
  refine z_riast hF dX6_rest_6 (fun s1 => ?_)
  refine z_aload_n (j := 0) dX6_rest_7 rfl rfl ?_
  refine z_iconst (v := 1) dX6_rest_8 (by decide) ?_
  refine z_bipush (v := -3) dX6_rest_9 (by decide) ?_
  refine z_callV (As := [.int (1 : Int32), .int (-3 : Int32)]) (rest := []) (rv2 := fun (x : Int32 × Zr) => some (.int x.1)) (h2 := fun (x : Int32 × Zr) => zput R h0 x.2) dX6_rest_11 vX6_leaf (.inl zw1179) (by decide) zkl7 (zRrecv hF).1 (zRrecv hF).2 rfl rfl (by decide) (fun x hx => kX6_leaf G R h0 hF s1 (1 : Int32) (-3 : Int32) hx) (fun x => ?_)
  obtain ⟨x2, s3⟩ := x
  try dsimp only [Option.toList, List.cons_append, List.nil_append]
  refine z_istore_n (lv' := [(2, .int x2), (0, zrv G.2.1 (some R)), (1, .int a1)]) dX6_rest_14 rfl (by decide) rfl ?_
  refine z_aload_n (j := 1) dX6_rest_15 rfl rfl ?_
  refine z_iconst (v := 1) dX6_rest_16 (by decide) ?_
  refine z_bipush (v := -3) dX6_rest_17 (by decide) ?_
  refine z_callV (As := [.int (1 : Int32), .int (-3 : Int32)]) (rest := []) (rv2 := fun (x : Int32 × Zr) => some (.int x.1)) (h2 := fun (x : Int32 × Zr) => zput R h0 x.2) dX6_rest_19 vX6_newNode (.inl zw1066) (by decide) zkl7 (zRrecv hF).1 (zRrecv hF).2 rfl rfl (by decide) (fun x hx => kX6_newNode G R h0 hF s3 (1 : Int32) (-3 : Int32) hx) (fun x => ?_)
  obtain ⟨x4, s5⟩ := x
  try dsimp only [Option.toList, List.cons_append, List.nil_append]
  refine z_istore_n (lv' := [(3, .int x4), (2, .int x2), (0, zrv G.2.1 (some R)), (1, .int a1)]) dX6_rest_22 rfl (by decide) rfl ?_
  refine z_aload_n (j := 2) dX6_rest_23 rfl rfl ?_
  refine z_iload_n (j := 0) dX6_rest_24 rfl rfl ?_
  refine z_callV (As := [.int x4]) (rest := []) (rv2 := fun (_ : Zr) => none) (h2 := fun (x : Zr) => zput R h0 x) dX6_rest_25 vX6_beginLog (.inl zw1155) (by decide) zkl7 (zRrecv hF).1 (zRrecv hF).2 rfl rfl (by decide) (fun x hx => kX6_beginLog G R h0 hF s5 x4 hx) (fun s6 => ?_)
  try dsimp only [Option.toList, List.cons_append, List.nil_append]
  refine z_aload_n (j := 2) dX6_rest_28 rfl rfl ?_
  refine z_rgetA (k := 40) (a := 30) hF dX6_rest_29 (by decide) rfl zw816 rfl ?_
  refine z_iload_n (j := 3) dX6_rest_32 rfl rfl ?_
  refine z_riald hF dX6_rest_33 (fun x7 => ?_)
  refine z_istore (lv' := [(4, .int x7), (3, .int x4), (2, .int x2), (0, zrv G.2.1 (some R)), (1, .int a1)]) dX6_rest_34 (by decide) rfl ?_
  refine z_at [3, 4, 2, 1, 0] rfl ?_
  refine z_join (pc2 := 115) (lv2 := fun (q : Zr) => [(0, zrv G.2.1 (some R)), (1, .int a1), (2, .int x2), (3, .int x4)]) (st2 := fun _ => []) (h2 := fun (q : Zr) => zput R h0 q) (fun q => ?_) (fun F11 kF11 => ?_)
  · obtain ⟨s10, e0⟩ : ∃ z, z = q := ⟨_, rfl⟩
    subst e0
    try dsimp only
    refine z_aload_n (j := 0) dX6_rest_115 rfl rfl ?_
    refine z_rgetA (k := 18) (a := 14) hF dX6_rest_116 (by decide) rfl zw794 rfl ?_
    refine z_iload_n (j := 1) dX6_rest_119 rfl rfl ?_
    refine z_aload_n (j := 0) dX6_rest_120 rfl rfl ?_
    refine z_rgetI (k := 20) hF dX6_rest_121 (by decide) rfl zw796 ?_
    refine z_riast hF dX6_rest_124 (fun s28 => ?_)
    refine z_aload_n (j := 0) dX6_rest_125 rfl rfl ?_
    refine z_iload_n (j := 1) dX6_rest_126 rfl rfl ?_
    refine z_iload_n (j := 2) dX6_rest_127 rfl rfl ?_
    refine z_callV (As := [.int a1, .int x2]) (rest := []) (rv2 := fun (_ : Zr) => none) (h2 := fun (x : Zr) => zput R h0 x) dX6_rest_128 vX6_takes (.inl zw1183) (by decide) zkl7 (zRrecv hF).1 (zRrecv hF).2 rfl rfl (by decide) (fun x hx => kX6_takes G R h0 hF s28 a1 x2 hx) (fun s29 => ?_)
    try dsimp only [Option.toList, List.cons_append, List.nil_append]
    refine z_aload_n (j := 0) dX6_rest_131 rfl rfl ?_
    refine z_iload_n (j := 1) dX6_rest_132 rfl rfl ?_
    refine z_iload_n (j := 3) dX6_rest_133 rfl rfl ?_
    refine z_callV (As := [.int a1, .int x4]) (rest := []) (rv2 := fun (_ : Zr) => none) (h2 := fun (x : Zr) => zput R h0 x) dX6_rest_134 vX6_takes (.inl zw1183) (by decide) zkl7 (zRrecv hF).1 (zRrecv hF).2 rfl rfl (by decide) (fun x hx => kX6_takes G R h0 hF s29 a1 x4 hx) (fun s30 => ?_)
    try dsimp only [Option.toList, List.cons_append, List.nil_append]
    exact z_vret dX6_rest_137 rfl rfl rfl
  · refine z_loop (lvf := fun (q : Int32 × Zr) => [(0, zrv G.2.1 (some R)), (1, .int a1), (2, .int x2), (3, .int x4), (4, .int q.1)]) (hf2 := fun (q : Int32 × Zr) => zput R h0 q.2) (s0 := (x7, s6)) (fun K12 bK12 rK12 q => ?_)
    obtain ⟨v8, s9⟩ := q
    try dsimp only
    refine z_iload (j := 4) dX6_rest_36 rfl ?_
    refine z_aload_n (j := 0) dX6_rest_38 rfl rfl ?_
    refine z_rgetA (k := 40) (a := 30) hF dX6_rest_39 (by decide) rfl zw816 rfl ?_
    refine z_iload_n (j := 1) dX6_rest_42 rfl rfl ?_
    refine z_as ?_
    refine z_riald hF dX6_rest_43 (fun x13 => ?_)
    refine z_aload_n (j := 0) dX6_rest_44 rfl rfl ?_
    refine z_rgetA (k := 41) (a := 31) hF dX6_rest_45 (by decide) rfl zw817 rfl ?_
    refine z_iload_n (j := 1) dX6_rest_48 rfl rfl ?_
    refine z_as ?_
    refine z_riald hF dX6_rest_49 (fun x14 => ?_)
    refine z_iadd dX6_rest_50 ?_
    refine z_itb ?_
    refine z_icmp_ge (tgt := 115) dX6_rest_51 (by decide) (fun _ => ?_) (fun _ => ?_)
    · refine z_sb ?_
      refine z_eq (rK12 _) ?_
      refine z_at [0, 1, 2, 3] rfl ?_
      exact kF11 s9
    · refine z_aload_n (j := 0) dX6_rest_54 rfl rfl ?_
      refine z_rgetA (k := 44) (a := 33) hF dX6_rest_55 (by decide) rfl zw820 rfl ?_
      refine z_iload (j := 4) dX6_rest_58 rfl ?_
      refine z_as ?_
      refine z_riald hF dX6_rest_60 (fun x15 => ?_)
      refine z_as ?_
      refine z_join (pc2 := 109) (lv2 := fun (q : Zr) => [(0, zrv G.2.1 (some R)), (1, .int a1), (2, .int x2), (3, .int x4), (4, .int v8)]) (st2 := fun (q : Zr) => []) (h2 := fun (q : Zr) => zput R h0 q) (fun q => ?_) (fun F17 kF17 => ?_)
      · obtain ⟨s16, e0⟩ : ∃ z, z = q := ⟨_, rfl⟩
        subst e0
        try dsimp only
        refine z_iinc (j := 4) (v := v8 + (1 : Int32)) (lv' := [(4, .int (v8 + (1 : Int32))), (0, zrv G.2.1 (some R)), (1, .int a1), (2, .int x2), (3, .int x4)]) dX6_rest_109 rfl rfl (by decide) rfl ?_
        refine z_goto (tgt := 36) dX6_rest_112 (by decide) ?_
        refine z_sb ?_
        refine z_at [1, 2, 3, 4, 0] rfl ?_
        exact bK12 (v8 + (1 : Int32), s16)
      · refine z_itb ?_
        refine z_if_le (tgt := 109) dX6_rest_61 (by decide) (fun _ => ?_) (fun _ => ?_)
        · refine z_sb ?_
          refine z_at [0, 1, 2, 3, 4] rfl ?_
          exact kF17 s9
        · refine z_aload_n (j := 0) dX6_rest_64 rfl rfl ?_
          refine z_iload_n (j := 3) dX6_rest_65 rfl rfl ?_
          refine z_as ?_
          refine z_callV (As := [.int x4]) (rest := []) (rv2 := fun (_ : Zr) => none) (h2 := fun (x : Zr) => zput R h0 x) dX6_rest_66 vX6_beginRow (.inl zw1159) (by decide) zkl7 (zRrecv hF).1 (zRrecv hF).2 rfl rfl (by decide) (fun x hx => kX6_beginRow G R h0 hF s9 x4 hx) (fun s18 => ?_)
          try dsimp only [Option.toList, List.cons_append, List.nil_append]
          refine z_iconst (v := 0) dX6_rest_69 (by decide) ?_
          refine z_istore (lv' := [(5, .int (0 : Int32)), (0, zrv G.2.1 (some R)), (1, .int a1), (2, .int x2), (3, .int x4), (4, .int v8)]) dX6_rest_70 (by decide) rfl ?_
          refine z_as ?_
          refine z_at [1, 2, 3, 4, 5, 0] rfl ?_
          refine z_join (pc2 := 109) (lv2 := fun (q : Zr) => [(0, zrv G.2.1 (some R)), (1, .int a1), (2, .int x2), (3, .int x4), (4, .int v8)]) (st2 := fun _ => []) (h2 := fun (q : Zr) => zput R h0 q) (fun q => ?_) (fun F22 kF22 => ?_)
          · obtain ⟨s21, e0⟩ : ∃ z, z = q := ⟨_, rfl⟩
            subst e0
            try dsimp only
            refine z_sb ?_
            refine z_at [0, 1, 2, 3, 4] rfl ?_
            exact kF17 s21
          · refine z_loop (lvf := fun (q : Int32 × Zr) => [(0, zrv G.2.1 (some R)), (1, .int a1), (2, .int x2), (3, .int x4), (4, .int v8), (5, .int q.1)]) (hf2 := fun (q : Int32 × Zr) => zput R h0 q.2) (s0 := ((0 : Int32), s18)) (fun K23 bK23 rK23 q => ?_)
            obtain ⟨v19, s20⟩ := q
            try dsimp only
            refine z_iload (j := 5) dX6_rest_72 rfl ?_
            refine z_aload_n (j := 0) dX6_rest_74 rfl rfl ?_
            refine z_rgetA (k := 44) (a := 33) hF dX6_rest_75 (by decide) rfl zw820 rfl ?_
            refine z_iload (j := 4) dX6_rest_78 rfl ?_
            refine z_as ?_
            refine z_riald hF dX6_rest_80 (fun x24 => ?_)
            refine z_itb ?_
            refine z_icmp_ge (tgt := 109) dX6_rest_81 (by decide) (fun _ => ?_) (fun _ => ?_)
            · refine z_sb ?_
              refine z_eq (rK23 _) ?_
              refine z_at [0, 1, 2, 3, 4] rfl ?_
              exact kF22 s20
            · refine z_aload_n (j := 0) dX6_rest_84 rfl rfl ?_
              refine z_aload_n (j := 0) dX6_rest_85 rfl rfl ?_
              refine z_rgetA (k := 46) (a := 34) hF dX6_rest_86 (by decide) rfl zw822 rfl ?_
              refine z_aload_n (j := 0) dX6_rest_89 rfl rfl ?_
              refine z_rgetA (k := 43) (a := 32) hF dX6_rest_90 (by decide) rfl zw819 rfl ?_
              refine z_iload (j := 4) dX6_rest_93 rfl ?_
              refine z_as ?_
              refine z_riald hF dX6_rest_95 (fun x25 => ?_)
              refine z_iload (j := 5) dX6_rest_96 rfl ?_
              refine z_iadd dX6_rest_98 ?_
              refine z_as ?_
              refine z_riald hF dX6_rest_99 (fun x26 => ?_)
              refine z_as ?_
              refine z_callV (As := [.int x26]) (rest := []) (rv2 := fun (_ : Zr) => none) (h2 := fun (x : Zr) => zput R h0 x) dX6_rest_100 vX6_addName (.inl zw1163) (by decide) zkl7 (zRrecv hF).1 (zRrecv hF).2 rfl rfl (by decide) (fun x hx => kX6_addName G R h0 hF s20 x26 hx) (fun s27 => ?_)
              try dsimp only [Option.toList, List.cons_append, List.nil_append]
              refine z_iinc (j := 5) (v := v19 + (1 : Int32)) (lv' := [(5, .int (v19 + (1 : Int32))), (0, zrv G.2.1 (some R)), (1, .int a1), (2, .int x2), (3, .int x4), (4, .int v8)]) dX6_rest_103 rfl rfl (by decide) rfl ?_
              refine z_goto (tgt := 72) dX6_rest_106 (by decide) ?_
              refine z_sb ?_
              refine z_at [1, 2, 3, 4, 5, 0] rfl ?_
              exact bK23 (v19 + (1 : Int32), s27)
def fX6_one (s : Zr) (a1 : Int32) (a2 : Int32) (a3 : Int32) : Option (Zr) :=
  if a3 = 0 then
    (wrI s 13 a1 (5 : Int32)).bind fun s1 =>
    (fX6_leaf s1 (0 : Int32) a2).bind fun ((x2, s3) : Int32 × Zr) =>
    (fX6_leaf s3 (1 : Int32) (-3 : Int32)).bind fun ((x4, s5) : Int32 × Zr) =>
    (wrI s5 15 a1 (s5 0 20)).bind fun s6 =>
    (fX6_takes s6 a1 x2).bind fun s7 =>
    (fX6_takes s7 a1 x4).bind fun s8 =>
    some s8
  else
    (wrI s 13 a1 (0 : Int32)).bind fun s9 =>
    (wrI s9 14 a1 a2).bind fun s10 =>
    some s10
set_option maxRecDepth 100000 in
set_option maxHeartbeats 4000000 in
theorem kX6_one (G : Zg) (R : Nat) (h0 : Zh) (hF : zRF R h0) (s : Zr) (a1 : Int32) (a2 : Int32) (a3 : Int32) {x : Zr} (hx : fX6_one s a1 a2 a3 = some x) : zCt G yX6_one cX6_one 6 (Option.none : Option Jvm.ClassFile.FieldType) 3 [zrv G.2.1 (some R), .int a1, .int a2, .int a3] (zput R h0 s) none (zput R h0 x) := by
  refine z_met (a := x) (rvf := fun (_ : Zr) => none) (hff := fun (x : Zr) => zput R h0 x) (lv := [(0, zrv G.2.1 (some R)), (1, .int a1), (2, .int a2), (3, .int a3)]) (by decide +kernel) (by simp [lg_sl, zcat1, zcI, zcJ]) (by simp [lv_args, zcat1, zcI, zcJ]) ?_ hx
  unfold fX6_one
  refine z_iload_n (j := 3) dX6_one_0 rfl rfl ?_
  refine z_if_eq (tgt := 19) dX6_one_1 (by decide) (fun _ => ?_) (fun _ => ?_)
  · refine z_aload_n (j := 0) dX6_one_19 rfl rfl ?_
    refine z_rgetA (k := 16) (a := 12) hF dX6_one_20 (by decide) rfl zw792 rfl ?_
    refine z_iload_n (j := 1) dX6_one_23 rfl rfl ?_
    refine z_iconst (v := 5) dX6_one_24 (by decide) ?_
    refine z_riast hF dX6_one_25 (fun s1 => ?_)
    refine z_aload_n (j := 0) dX6_one_26 rfl rfl ?_
    refine z_iconst (v := 0) dX6_one_27 (by decide) ?_
    refine z_iload_n (j := 2) dX6_one_28 rfl rfl ?_
    refine z_callV (As := [.int (0 : Int32), .int a2]) (rest := []) (rv2 := fun (x : Int32 × Zr) => some (.int x.1)) (h2 := fun (x : Int32 × Zr) => zput R h0 x.2) dX6_one_29 vX6_leaf (.inl zw1179) (by decide) zkl7 (zRrecv hF).1 (zRrecv hF).2 rfl rfl (by decide) (fun x hx => kX6_leaf G R h0 hF s1 (0 : Int32) a2 hx) (fun x => ?_)
    obtain ⟨x2, s3⟩ := x
    try dsimp only [Option.toList, List.cons_append, List.nil_append]
    refine z_istore (lv' := [(4, .int x2), (0, zrv G.2.1 (some R)), (1, .int a1), (2, .int a2), (3, .int a3)]) dX6_one_32 (by decide) rfl ?_
    refine z_aload_n (j := 1) dX6_one_34 rfl rfl ?_
    refine z_iconst (v := 1) dX6_one_35 (by decide) ?_
    refine z_bipush (v := -3) dX6_one_36 (by decide) ?_
    refine z_callV (As := [.int (1 : Int32), .int (-3 : Int32)]) (rest := []) (rv2 := fun (x : Int32 × Zr) => some (.int x.1)) (h2 := fun (x : Int32 × Zr) => zput R h0 x.2) dX6_one_38 vX6_leaf (.inl zw1179) (by decide) zkl7 (zRrecv hF).1 (zRrecv hF).2 rfl rfl (by decide) (fun x hx => kX6_leaf G R h0 hF s3 (1 : Int32) (-3 : Int32) hx) (fun x => ?_)
    obtain ⟨x4, s5⟩ := x
    try dsimp only [Option.toList, List.cons_append, List.nil_append]
    refine z_istore (lv' := [(5, .int x4), (4, .int x2), (0, zrv G.2.1 (some R)), (1, .int a1), (2, .int a2), (3, .int a3)]) dX6_one_41 (by decide) rfl ?_
    refine z_aload_n (j := 2) dX6_one_43 rfl rfl ?_
    refine z_rgetA (k := 18) (a := 14) hF dX6_one_44 (by decide) rfl zw794 rfl ?_
    refine z_iload_n (j := 3) dX6_one_47 rfl rfl ?_
    refine z_aload_n (j := 2) dX6_one_48 rfl rfl ?_
    refine z_rgetI (k := 20) hF dX6_one_49 (by decide) rfl zw796 ?_
    refine z_riast hF dX6_one_52 (fun s6 => ?_)
    refine z_aload_n (j := 2) dX6_one_53 rfl rfl ?_
    refine z_iload_n (j := 3) dX6_one_54 rfl rfl ?_
    refine z_iload (j := 1) dX6_one_55 rfl ?_
    refine z_callV (As := [.int a1, .int x2]) (rest := []) (rv2 := fun (_ : Zr) => none) (h2 := fun (x : Zr) => zput R h0 x) dX6_one_57 vX6_takes (.inl zw1183) (by decide) zkl7 (zRrecv hF).1 (zRrecv hF).2 rfl rfl (by decide) (fun x hx => kX6_takes G R h0 hF s6 a1 x2 hx) (fun s7 => ?_)
    try dsimp only [Option.toList, List.cons_append, List.nil_append]
    refine z_aload_n (j := 2) dX6_one_60 rfl rfl ?_
    refine z_iload_n (j := 3) dX6_one_61 rfl rfl ?_
    refine z_iload (j := 0) dX6_one_62 rfl ?_
    refine z_callV (As := [.int a1, .int x4]) (rest := []) (rv2 := fun (_ : Zr) => none) (h2 := fun (x : Zr) => zput R h0 x) dX6_one_64 vX6_takes (.inl zw1183) (by decide) zkl7 (zRrecv hF).1 (zRrecv hF).2 rfl rfl (by decide) (fun x hx => kX6_takes G R h0 hF s7 a1 x4 hx) (fun s8 => ?_)
    try dsimp only [Option.toList, List.cons_append, List.nil_append]
    exact z_vret dX6_one_67 rfl rfl rfl
  · refine z_aload_n (j := 0) dX6_one_4 rfl rfl ?_
    refine z_rgetA (k := 16) (a := 12) hF dX6_one_5 (by decide) rfl zw792 rfl ?_
    refine z_iload_n (j := 1) dX6_one_8 rfl rfl ?_
    refine z_iconst (v := 0) dX6_one_9 (by decide) ?_
    refine z_riast hF dX6_one_10 (fun s9 => ?_)
    refine z_aload_n (j := 0) dX6_one_11 rfl rfl ?_
    refine z_rgetA (k := 17) (a := 13) hF dX6_one_12 (by decide) rfl zw793 rfl ?_
    refine z_iload_n (j := 1) dX6_one_15 rfl rfl ?_
    refine z_iload_n (j := 2) dX6_one_16 rfl rfl ?_
    refine z_riast hF dX6_one_17 (fun s10 => ?_)
    exact z_vret dX6_one_18 rfl rfl rfl
def fX6_flower (s : Zr) (a1 : Int32) : Option (Zr) :=
  (wrI s 13 a1 (5 : Int32)).bind fun s1 =>
  (fX6_leaf s1 (3 : Int32) (-3 : Int32)).bind fun ((x2, s3) : Int32 × Zr) =>
  (fX6_leaf s3 (1 : Int32) (-3 : Int32)).bind fun ((x4, s5) : Int32 × Zr) =>
  (wrI s5 15 a1 (s5 0 20)).bind fun s6 =>
  (fX6_takes s6 a1 x2).bind fun s7 =>
  (fX6_takes s7 a1 x4).bind fun s8 =>
  (zloop (fun ((v9, s10) : Int32 × Zr) =>
    (if (12 : Int32) ≤ v9 then
      some (.inr s10)
    else
      (rdZ s10 37 v9).bind fun x14 =>
      (if x14 = 0 then
        some s10
      else
        (fX6_leaf s10 (0 : Int32) v9).bind fun ((x17, s18) : Int32 × Zr) =>
        some s18).bind fun (s15 : Zr) =>
      some (.inl (v9 + (1 : Int32), s15)) : Option ((Int32 × Zr) ⊕ Zr))) zFU ((0 : Int32), s8)).bind fun (s11 : Zr) =>
  (wrI s11 15 x2 (s11 0 20)).bind fun s19 =>
  (zloop (fun ((v20, s21) : Int32 × Zr) =>
    (if (s21 0 15) ≤ v20 then
      some (.inr s21)
    else
      (fX6_takes s21 x2 v20).bind fun s25 =>
      some (.inl (v20 + (1 : Int32), s25)) : Option ((Int32 × Zr) ⊕ Zr))) zFU (s8 0 15, s19)).bind fun (s22 : Zr) =>
  some s22
set_option maxRecDepth 100000 in
set_option maxHeartbeats 4000000 in
theorem kX6_flower (G : Zg) (R : Nat) (h0 : Zh) (hF : zRF R h0) (s : Zr) (a1 : Int32) {x : Zr} (hx : fX6_flower s a1 = some x) : zCt G yX6_flower cX6_flower 7 (Option.none : Option Jvm.ClassFile.FieldType) 3 [zrv G.2.1 (some R), .int a1] (zput R h0 s) none (zput R h0 x) := by
  refine z_met (a := x) (rvf := fun (_ : Zr) => none) (hff := fun (x : Zr) => zput R h0 x) (lv := [(0, zrv G.2.1 (some R)), (1, .int a1)]) (by decide +kernel) (by simp [lg_sl, zcat1, zcI, zcJ]) (by simp [lv_args, zcat1, zcI, zcJ]) ?_ hx
  unfold fX6_flower
  refine z_aload_n (j := 0) dX6_flower_0 rfl rfl ?_
  refine z_rgetA (k := 16) (a := 12) hF dX6_flower_1 (by decide) rfl zw792 rfl ?_
  refine z_iload_n (j := 1) dX6_flower_4 rfl rfl ?_
  refine z_iconst (v := 5) dX6_flower_5 (by decide) ?_
  refine z_riast hF dX6_flower_6 (fun s1 => ?_)
  refine z_aload_n (j := 0) dX6_flower_7 rfl rfl ?_
  refine z_iconst (v := 3) dX6_flower_8 (by decide) ?_
  refine z_bipush (v := -3) dX6_flower_9 (by decide) ?_
  refine z_callV (As := [.int (3 : Int32), .int (-3 : Int32)]) (rest := []) (rv2 := fun (x : Int32 × Zr) => some (.int x.1)) (h2 := fun (x : Int32 × Zr) => zput R h0 x.2) dX6_flower_11 vX6_leaf (.inl zw1179) (by decide) zkl7 (zRrecv hF).1 (zRrecv hF).2 rfl rfl (by decide) (fun x hx => kX6_leaf G R h0 hF s1 (3 : Int32) (-3 : Int32) hx) (fun x => ?_)
  obtain ⟨x2, s3⟩ := x
  try dsimp only [Option.toList, List.cons_append, List.nil_append]
  refine z_istore_n (lv' := [(2, .int x2), (0, zrv G.2.1 (some R)), (1, .int a1)]) dX6_flower_14 rfl (by decide) rfl ?_
  refine z_aload_n (j := 1) dX6_flower_15 rfl rfl ?_
  refine z_iconst (v := 1) dX6_flower_16 (by decide) ?_
  refine z_bipush (v := -3) dX6_flower_17 (by decide) ?_
  refine z_callV (As := [.int (1 : Int32), .int (-3 : Int32)]) (rest := []) (rv2 := fun (x : Int32 × Zr) => some (.int x.1)) (h2 := fun (x : Int32 × Zr) => zput R h0 x.2) dX6_flower_19 vX6_leaf (.inl zw1179) (by decide) zkl7 (zRrecv hF).1 (zRrecv hF).2 rfl rfl (by decide) (fun x hx => kX6_leaf G R h0 hF s3 (1 : Int32) (-3 : Int32) hx) (fun x => ?_)
  obtain ⟨x4, s5⟩ := x
  try dsimp only [Option.toList, List.cons_append, List.nil_append]
  refine z_istore_n (lv' := [(3, .int x4), (2, .int x2), (0, zrv G.2.1 (some R)), (1, .int a1)]) dX6_flower_22 rfl (by decide) rfl ?_
  refine z_aload_n (j := 2) dX6_flower_23 rfl rfl ?_
  refine z_rgetA (k := 18) (a := 14) hF dX6_flower_24 (by decide) rfl zw794 rfl ?_
  refine z_iload_n (j := 3) dX6_flower_27 rfl rfl ?_
  refine z_aload_n (j := 2) dX6_flower_28 rfl rfl ?_
  refine z_rgetI (k := 20) hF dX6_flower_29 (by decide) rfl zw796 ?_
  refine z_riast hF dX6_flower_32 (fun s6 => ?_)
  refine z_aload_n (j := 2) dX6_flower_33 rfl rfl ?_
  refine z_iload_n (j := 3) dX6_flower_34 rfl rfl ?_
  refine z_iload_n (j := 1) dX6_flower_35 rfl rfl ?_
  refine z_callV (As := [.int a1, .int x2]) (rest := []) (rv2 := fun (_ : Zr) => none) (h2 := fun (x : Zr) => zput R h0 x) dX6_flower_36 vX6_takes (.inl zw1183) (by decide) zkl7 (zRrecv hF).1 (zRrecv hF).2 rfl rfl (by decide) (fun x hx => kX6_takes G R h0 hF s6 a1 x2 hx) (fun s7 => ?_)
  try dsimp only [Option.toList, List.cons_append, List.nil_append]
  refine z_aload_n (j := 2) dX6_flower_39 rfl rfl ?_
  refine z_iload_n (j := 3) dX6_flower_40 rfl rfl ?_
  refine z_iload_n (j := 0) dX6_flower_41 rfl rfl ?_
  refine z_callV (As := [.int a1, .int x4]) (rest := []) (rv2 := fun (_ : Zr) => none) (h2 := fun (x : Zr) => zput R h0 x) dX6_flower_42 vX6_takes (.inl zw1183) (by decide) zkl7 (zRrecv hF).1 (zRrecv hF).2 rfl rfl (by decide) (fun x hx => kX6_takes G R h0 hF s7 a1 x4 hx) (fun s8 => ?_)
  try dsimp only [Option.toList, List.cons_append, List.nil_append]
  refine z_aload_n (j := 2) dX6_flower_45 rfl rfl ?_
  refine z_rgetI (k := 15) hF dX6_flower_46 (by decide) rfl zw791 ?_
  refine z_istore (lv' := [(4, .int (s8 0 15)), (3, .int x4), (2, .int x2), (0, zrv G.2.1 (some R)), (1, .int a1)]) dX6_flower_49 (by decide) rfl ?_
  refine z_iconst (v := 0) dX6_flower_51 (by decide) ?_
  refine z_istore (lv' := [(5, .int (0 : Int32)), (4, .int (s8 0 15)), (3, .int x4), (2, .int x2), (0, zrv G.2.1 (some R)), (1, .int a1)]) dX6_flower_52 (by decide) rfl ?_
  refine z_at [4, 3, 1, 0] rfl ?_
  refine z_join (pc2 := 86) (lv2 := fun (q : Zr) => [(0, zrv G.2.1 (some R)), (2, .int x2), (4, .int (s8 0 15))]) (st2 := fun _ => []) (h2 := fun (q : Zr) => zput R h0 q) (fun q => ?_) (fun F12 kF12 => ?_)
  · obtain ⟨s11, e0⟩ : ∃ z, z = q := ⟨_, rfl⟩
    subst e0
    try dsimp only
    refine z_aload_n (j := 0) dX6_flower_86 rfl rfl ?_
    refine z_rgetA (k := 18) (a := 14) hF dX6_flower_87 (by decide) rfl zw794 rfl ?_
    refine z_iload_n (j := 1) dX6_flower_90 rfl rfl ?_
    refine z_aload_n (j := 0) dX6_flower_91 rfl rfl ?_
    refine z_rgetI (k := 20) hF dX6_flower_92 (by decide) rfl zw796 ?_
    refine z_riast hF dX6_flower_95 (fun s19 => ?_)
    refine z_iload (j := 2) dX6_flower_96 rfl ?_
    refine z_istore (lv' := [(5, .int (s8 0 15)), (0, zrv G.2.1 (some R)), (2, .int x2), (4, .int (s8 0 15))]) dX6_flower_98 (by decide) rfl ?_
    refine z_at [1, 2, 0] rfl ?_
    refine z_join (pc2 := 122) (lv2 := fun (q : Zr) => []) (st2 := fun _ => []) (h2 := fun (q : Zr) => zput R h0 q) (fun q => ?_) (fun F23 kF23 => ?_)
    · obtain ⟨s22, e0⟩ : ∃ z, z = q := ⟨_, rfl⟩
      subst e0
      try dsimp only
      exact z_vret dX6_flower_122 rfl rfl rfl
    · refine z_loop (lvf := fun (q : Int32 × Zr) => [(0, zrv G.2.1 (some R)), (2, .int x2), (5, .int q.1)]) (hf2 := fun (q : Int32 × Zr) => zput R h0 q.2) (s0 := (s8 0 15, s19)) (fun K24 bK24 rK24 q => ?_)
      obtain ⟨v20, s21⟩ := q
      try dsimp only
      refine z_iload (j := 2) dX6_flower_100 rfl ?_
      refine z_aload_n (j := 0) dX6_flower_102 rfl rfl ?_
      refine z_rgetI (k := 15) hF dX6_flower_103 (by decide) rfl zw791 ?_
      refine z_itb ?_
      refine z_icmp_ge (tgt := 122) dX6_flower_106 (by decide) (fun _ => ?_) (fun _ => ?_)
      · refine z_sb ?_
        refine z_eq (rK24 _) ?_
        refine z_at [] rfl ?_
        exact kF23 s21
      · refine z_aload_n (j := 0) dX6_flower_109 rfl rfl ?_
        refine z_iload_n (j := 1) dX6_flower_110 rfl rfl ?_
        refine z_iload (j := 2) dX6_flower_111 rfl ?_
        refine z_as ?_
        refine z_callV (As := [.int x2, .int v20]) (rest := []) (rv2 := fun (_ : Zr) => none) (h2 := fun (x : Zr) => zput R h0 x) dX6_flower_113 vX6_takes (.inl zw1183) (by decide) zkl7 (zRrecv hF).1 (zRrecv hF).2 rfl rfl (by decide) (fun x hx => kX6_takes G R h0 hF s21 x2 v20 hx) (fun s25 => ?_)
        try dsimp only [Option.toList, List.cons_append, List.nil_append]
        refine z_iinc (j := 2) (v := v20 + (1 : Int32)) (lv' := [(5, .int (v20 + (1 : Int32))), (0, zrv G.2.1 (some R)), (2, .int x2)]) dX6_flower_116 rfl rfl (by decide) rfl ?_
        refine z_goto (tgt := 100) dX6_flower_119 (by decide) ?_
        refine z_sb ?_
        refine z_at [1, 2, 0] rfl ?_
        exact bK24 (v20 + (1 : Int32), s25)
  · refine z_loop (lvf := fun (q : Int32 × Zr) => [(0, zrv G.2.1 (some R)), (2, .int x2), (4, .int (s8 0 15)), (5, .int q.1)]) (hf2 := fun (q : Int32 × Zr) => zput R h0 q.2) (s0 := ((0 : Int32), s8)) (fun K13 bK13 rK13 q => ?_)
    obtain ⟨v9, s10⟩ := q
    try dsimp only
    refine z_iload (j := 3) dX6_flower_54 rfl ?_
    refine z_bipush (v := 12) dX6_flower_56 (by decide) ?_
    refine z_itb ?_
    refine z_icmp_ge (tgt := 86) dX6_flower_58 (by decide) (fun _ => ?_) (fun _ => ?_)
    · refine z_sb ?_
      refine z_eq (rK13 _) ?_
      refine z_at [0, 1, 2] rfl ?_
      exact kF12 s10
    · refine z_aload_n (j := 0) dX6_flower_61 rfl rfl ?_
      refine z_rgetA (k := 48) (a := 36) hF dX6_flower_62 (by decide) rfl zw824 rfl ?_
      refine z_iload (j := 3) dX6_flower_65 rfl ?_
      refine z_as ?_
      refine z_rzald hF dX6_flower_67 (fun x14 => ?_)
      refine z_as ?_
      refine z_join (pc2 := 80) (lv2 := fun (q : Zr) => [(0, zrv G.2.1 (some R)), (2, .int x2), (4, .int (s8 0 15)), (5, .int v9)]) (st2 := fun (q : Zr) => []) (h2 := fun (q : Zr) => zput R h0 q) (fun q => ?_) (fun F16 kF16 => ?_)
      · obtain ⟨s15, e0⟩ : ∃ z, z = q := ⟨_, rfl⟩
        subst e0
        try dsimp only
        refine z_iinc (j := 3) (v := v9 + (1 : Int32)) (lv' := [(5, .int (v9 + (1 : Int32))), (0, zrv G.2.1 (some R)), (2, .int x2), (4, .int (s8 0 15))]) dX6_flower_80 rfl rfl (by decide) rfl ?_
        refine z_goto (tgt := 54) dX6_flower_83 (by decide) ?_
        refine z_sb ?_
        refine z_at [1, 2, 3, 0] rfl ?_
        exact bK13 (v9 + (1 : Int32), s15)
      · refine z_itb ?_
        refine z_if_eq (tgt := 80) dX6_flower_68 (by decide) (fun _ => ?_) (fun _ => ?_)
        · refine z_sb ?_
          refine z_at [0, 1, 2, 3] rfl ?_
          exact kF16 s10
        · refine z_aload_n (j := 0) dX6_flower_71 rfl rfl ?_
          refine z_iconst (v := 0) dX6_flower_72 (by decide) ?_
          refine z_iload (j := 3) dX6_flower_73 rfl ?_
          refine z_as ?_
          refine z_callV (As := [.int (0 : Int32), .int v9]) (rest := []) (rv2 := fun (x : Int32 × Zr) => some (.int x.1)) (h2 := fun (x : Int32 × Zr) => zput R h0 x.2) dX6_flower_75 vX6_leaf (.inl zw1179) (by decide) zkl7 (zRrecv hF).1 (zRrecv hF).2 rfl rfl (by decide) (fun x hx => kX6_leaf G R h0 hF s10 (0 : Int32) v9 hx) (fun x => ?_)
          obtain ⟨x17, s18⟩ := x
          try dsimp only [Option.toList, List.cons_append, List.nil_append]
          refine z_istore (lv' := [(6, .int x17), (0, zrv G.2.1 (some R)), (2, .int x2), (4, .int (s8 0 15)), (5, .int v9)]) dX6_flower_78 (by decide) rfl ?_
          refine z_sb ?_
          refine z_at [1, 2, 3, 4] rfl ?_
          exact kF16 s18
def fX6_settle (s : Zr) (a1 : Int32) : Option (Zr) :=
  (rdI s 31 a1).bind fun x1 =>
  (zloop (fun ((v2, v3, v4) : Int32 × Int32 × Int32) =>
    ((rdI s 31 a1).bind fun x9 =>
    (rdI s 32 a1).bind fun x10 =>
    if (x9 + x10) ≤ v4 then
      some (.inr (v2, v3))
    else
      (rdI s 34 v4).bind fun x11 =>
      (if x11 = 0 then
        some (1 : Int32)
      else
        some (0 : Int32)).bind fun (v12 : Int32) =>
      (if v3 = 0 then
        some (0 : Int32)
      else
        (rdI s 34 v4).bind fun x16 =>
        if x16 = (1 : Int32) then
          some (1 : Int32)
        else
          some (0 : Int32)).bind fun (v14 : Int32) =>
      some (.inl (v2 + v12, v14, v4 + (1 : Int32))) : Option ((Int32 × Int32 × Int32) ⊕ (Int32 × Int32)))) zFU ((0 : Int32), (1 : Int32), x1)).bind fun ((w5, w6) : Int32 × Int32) =>
  (fX6_look s a1).bind fun s17 =>
  (zloop (fun ((v18, v19, v20) : Int32 × Int32 × Int32) =>
    (if (12 : Int32) ≤ v20 then
      some (.inr (v18, v19))
    else
      (rdZ s17 37 v20).bind fun x25 =>
      (if x25 = 0 then
        some (0 : Int32)
      else
        some (1 : Int32)).bind fun (v26 : Int32) =>
      (rdZ s17 37 v20).bind fun x28 =>
      (if x28 = 0 then
        some v19
      else
        some v20).bind fun (v29 : Int32) =>
      some (.inl (v18 + v26, v29, v20 + (1 : Int32))) : Option ((Int32 × Int32 × Int32) ⊕ (Int32 × Int32)))) zFU ((0 : Int32), (-3 : Int32), (0 : Int32))).bind fun ((w21, w22) : Int32 × Int32) =>
  (if w21 = 0 then
    (wrI s17 13 a1 (1 : Int32)).bind fun s33 =>
    some s33
  else
    if w5 ≤ 0 then
      if w21 = (1 : Int32) then
        (fX6_one s17 a1 w22 w6).bind fun s34 =>
        some s34
      else
        (fX6_cutsChoice s17).bind fun ((x35, s36) : Int32 × Zr) =>
        if x35 = 0 then
          (fX6_cutsRow s36).bind fun ((x37, s38) : Int32 × Zr) =>
          if x37 = 0 then
            (fX6_cutsBeside s38).bind fun ((x39, s40) : Int32 × Zr) =>
            if x39 = 0 then
              (fX6_cutsLoop s40).bind fun ((x41, s42) : Int32 × Zr) =>
              if x41 = 0 then
                (fX6_flower s42 a1).bind fun s43 =>
                some s43
              else
                (fX6_cutNode s42 a1 (5 : Int32)).bind fun s44 =>
                some s44
            else
              (fX6_cutNode s40 a1 (4 : Int32)).bind fun s45 =>
              some s45
          else
            (fX6_cutNode s38 a1 (2 : Int32)).bind fun s46 =>
            some s46
        else
          (fX6_cutNode s36 a1 (3 : Int32)).bind fun s47 =>
          some s47
    else
      (fX6_rest s17 a1).bind fun s48 =>
      some s48).bind fun (s31 : Zr) =>
  some s31
set_option maxRecDepth 100000 in
set_option maxHeartbeats 4000000 in
theorem kX6_settle (G : Zg) (R : Nat) (h0 : Zh) (hF : zRF R h0) (s : Zr) (a1 : Int32) {x : Zr} (hx : fX6_settle s a1 = some x) : zCt G yX6_settle cX6_settle 7 (Option.none : Option Jvm.ClassFile.FieldType) 4 [zrv G.2.1 (some R), .int a1] (zput R h0 s) none (zput R h0 x) := by
  refine z_met (a := x) (rvf := fun (_ : Zr) => none) (hff := fun (x : Zr) => zput R h0 x) (lv := [(0, zrv G.2.1 (some R)), (1, .int a1)]) (by decide +kernel) (by simp [lg_sl, zcat1, zcI, zcJ]) (by simp [lv_args, zcat1, zcI, zcJ]) ?_ hx
  unfold fX6_settle
  refine z_iconst (v := 0) dX6_settle_0 (by decide) ?_
  refine z_istore_n (lv' := [(2, .int (0 : Int32)), (0, zrv G.2.1 (some R)), (1, .int a1)]) dX6_settle_1 rfl (by decide) rfl ?_
  refine z_iconst (v := 1) dX6_settle_2 (by decide) ?_
  refine z_istore_n (lv' := [(3, .int (1 : Int32)), (2, .int (0 : Int32)), (0, zrv G.2.1 (some R)), (1, .int a1)]) dX6_settle_3 rfl (by decide) rfl ?_
  refine z_aload_n (j := 2) dX6_settle_4 rfl rfl ?_
  refine z_rgetA (k := 40) (a := 30) hF dX6_settle_5 (by decide) rfl zw816 rfl ?_
  refine z_iload_n (j := 3) dX6_settle_8 rfl rfl ?_
  refine z_riald hF dX6_settle_9 (fun x1 => ?_)
  refine z_istore (lv' := [(4, .int x1), (3, .int (1 : Int32)), (2, .int (0 : Int32)), (0, zrv G.2.1 (some R)), (1, .int a1)]) dX6_settle_10 (by decide) rfl ?_
  refine z_at [3, 4, 2, 1, 0] rfl ?_
  refine z_join (pc2 := 75) (lv2 := fun (q : Int32 × Int32) => [(0, zrv G.2.1 (some R)), (1, .int a1), (2, .int q.1), (3, .int q.2)]) (st2 := fun _ => []) (h2 := fun (q : Int32 × Int32) => zput R h0 s) (fun q => ?_) (fun F7 kF7 => ?_)
  · obtain ⟨w5, w6⟩ := q
    try dsimp only
    refine z_aload_n (j := 0) dX6_settle_75 rfl rfl ?_
    refine z_iload_n (j := 1) dX6_settle_76 rfl rfl ?_
    refine z_callV (As := [.int a1]) (rest := []) (rv2 := fun (_ : Zr) => none) (h2 := fun (x : Zr) => zput R h0 x) dX6_settle_77 vX6_look (.inl zw1171) (by decide) zkl7 (zRrecv hF).1 (zRrecv hF).2 rfl rfl (by decide) (fun x hx => kX6_look G R h0 hF s a1 hx) (fun s17 => ?_)
    try dsimp only [Option.toList, List.cons_append, List.nil_append]
    refine z_iconst (v := 0) dX6_settle_80 (by decide) ?_
    refine z_istore (lv' := [(4, .int (0 : Int32)), (0, zrv G.2.1 (some R)), (1, .int a1), (2, .int w5), (3, .int w6)]) dX6_settle_81 (by decide) rfl ?_
    refine z_bipush (v := -3) dX6_settle_83 (by decide) ?_
    refine z_istore (lv' := [(5, .int (-3 : Int32)), (4, .int (0 : Int32)), (0, zrv G.2.1 (some R)), (1, .int a1), (2, .int w5), (3, .int w6)]) dX6_settle_85 (by decide) rfl ?_
    refine z_iconst (v := 0) dX6_settle_87 (by decide) ?_
    refine z_istore (lv' := [(6, .int (0 : Int32)), (5, .int (-3 : Int32)), (4, .int (0 : Int32)), (0, zrv G.2.1 (some R)), (1, .int a1), (2, .int w5), (3, .int w6)]) dX6_settle_88 (by decide) rfl ?_
    refine z_at [3, 4, 5, 6, 2, 1, 0] rfl ?_
    refine z_join (pc2 := 142) (lv2 := fun (q : Int32 × Int32) => [(0, zrv G.2.1 (some R)), (1, .int a1), (2, .int w5), (3, .int w6), (4, .int q.1), (5, .int q.2)]) (st2 := fun _ => []) (h2 := fun (q : Int32 × Int32) => zput R h0 s17) (fun q => ?_) (fun F23 kF23 => ?_)
    · obtain ⟨w21, w22⟩ := q
      try dsimp only
      refine z_iload (j := 4) dX6_settle_142 rfl ?_
      refine z_join (pc2 := 255) (lv2 := fun (q : Zr) => []) (st2 := fun (q : Zr) => []) (h2 := fun (q : Zr) => zput R h0 q) (fun q => ?_) (fun F32 kF32 => ?_)
      · obtain ⟨s31, e0⟩ : ∃ z, z = q := ⟨_, rfl⟩
        subst e0
        try dsimp only
        exact z_vret dX6_settle_255 rfl rfl rfl
      · refine z_itb ?_
        refine z_if_ne (tgt := 157) dX6_settle_144 (by decide) (fun _ => ?_) (fun _ => ?_)
        · refine z_aload_n (j := 0) dX6_settle_147 rfl rfl ?_
          refine z_rgetA (k := 16) (a := 12) hF dX6_settle_148 (by decide) rfl zw792 rfl ?_
          refine z_iload_n (j := 1) dX6_settle_151 rfl rfl ?_
          refine z_iconst (v := 1) dX6_settle_152 (by decide) ?_
          refine z_as ?_
          refine z_riast hF dX6_settle_153 (fun s33 => ?_)
          refine z_goto (tgt := 255) dX6_settle_154 (by decide) ?_
          refine z_sb ?_
          refine z_at [] rfl ?_
          exact kF32 s33
        · refine z_iload_n (j := 2) dX6_settle_157 rfl rfl ?_
          refine z_itb ?_
          refine z_if_le (tgt := 169) dX6_settle_158 (by decide) (fun _ => ?_) (fun _ => ?_)
          · refine z_iload (j := 4) dX6_settle_169 rfl ?_
            refine z_iconst (v := 1) dX6_settle_171 (by decide) ?_
            refine z_itb ?_
            refine z_icmp_ne (tgt := 186) dX6_settle_172 (by decide) (fun _ => ?_) (fun _ => ?_)
            · refine z_aload_n (j := 0) dX6_settle_175 rfl rfl ?_
              refine z_iload_n (j := 1) dX6_settle_176 rfl rfl ?_
              refine z_iload (j := 5) dX6_settle_177 rfl ?_
              refine z_iload_n (j := 3) dX6_settle_179 rfl rfl ?_
              refine z_as ?_
              refine z_callV (As := [.int a1, .int w22, .int w6]) (rest := []) (rv2 := fun (_ : Zr) => none) (h2 := fun (x : Zr) => zput R h0 x) dX6_settle_180 vX6_one (.inl zw1187) (by decide) zkl7 (zRrecv hF).1 (zRrecv hF).2 rfl rfl (by decide) (fun x hx => kX6_one G R h0 hF s17 a1 w22 w6 hx) (fun s34 => ?_)
              try dsimp only [Option.toList, List.cons_append, List.nil_append]
              refine z_goto (tgt := 255) dX6_settle_183 (by decide) ?_
              refine z_sb ?_
              refine z_at [] rfl ?_
              exact kF32 s34
            · refine z_aload_n (j := 0) dX6_settle_186 rfl rfl ?_
              refine z_as ?_
              refine z_callV (As := []) (rest := []) (rv2 := fun (x : Int32 × Zr) => some (.int x.1)) (h2 := fun (x : Int32 × Zr) => zput R h0 x.2) dX6_settle_187 vX6_cutsChoice (.inl zw1191) (by decide) zkl7 (zRrecv hF).1 (zRrecv hF).2 rfl rfl (by decide) (fun x hx => kX6_cutsChoice G R h0 hF s17 hx) (fun x => ?_)
              obtain ⟨x35, s36⟩ := x
              try dsimp only [Option.toList, List.cons_append, List.nil_append]
              refine z_itb ?_
              refine z_if_eq (tgt := 202) dX6_settle_190 (by decide) (fun _ => ?_) (fun _ => ?_)
              · refine z_aload_n (j := 0) dX6_settle_202 rfl rfl ?_
                refine z_as ?_
                refine z_callV (As := []) (rest := []) (rv2 := fun (x : Int32 × Zr) => some (.int x.1)) (h2 := fun (x : Int32 × Zr) => zput R h0 x.2) dX6_settle_203 vX6_cutsRow (.inl zw1211) (by decide) zkl7 (zRrecv hF).1 (zRrecv hF).2 rfl rfl (by decide) (fun x hx => kX6_cutsRow G R h0 hF s36 hx) (fun x => ?_)
                obtain ⟨x37, s38⟩ := x
                try dsimp only [Option.toList, List.cons_append, List.nil_append]
                refine z_itb ?_
                refine z_if_eq (tgt := 218) dX6_settle_206 (by decide) (fun _ => ?_) (fun _ => ?_)
                · refine z_aload_n (j := 0) dX6_settle_218 rfl rfl ?_
                  refine z_as ?_
                  refine z_callV (As := []) (rest := []) (rv2 := fun (x : Int32 × Zr) => some (.int x.1)) (h2 := fun (x : Int32 × Zr) => zput R h0 x.2) dX6_settle_219 vX6_cutsBeside (.inl zw1231) (by decide) zkl7 (zRrecv hF).1 (zRrecv hF).2 rfl rfl (by decide) (fun x hx => kX6_cutsBeside G R h0 hF s38 hx) (fun x => ?_)
                  obtain ⟨x39, s40⟩ := x
                  try dsimp only [Option.toList, List.cons_append, List.nil_append]
                  refine z_itb ?_
                  refine z_if_eq (tgt := 234) dX6_settle_222 (by decide) (fun _ => ?_) (fun _ => ?_)
                  · refine z_aload_n (j := 0) dX6_settle_234 rfl rfl ?_
                    refine z_as ?_
                    refine z_callV (As := []) (rest := []) (rv2 := fun (x : Int32 × Zr) => some (.int x.1)) (h2 := fun (x : Int32 × Zr) => zput R h0 x.2) dX6_settle_235 vX6_cutsLoop (.inl zw1235) (by decide) zkl7 (zRrecv hF).1 (zRrecv hF).2 rfl rfl (by decide) (fun x hx => kX6_cutsLoop G R h0 hF s40 hx) (fun x => ?_)
                    obtain ⟨x41, s42⟩ := x
                    try dsimp only [Option.toList, List.cons_append, List.nil_append]
                    refine z_itb ?_
                    refine z_if_eq (tgt := 250) dX6_settle_238 (by decide) (fun _ => ?_) (fun _ => ?_)
                    · refine z_aload_n (j := 0) dX6_settle_250 rfl rfl ?_
                      refine z_iload_n (j := 1) dX6_settle_251 rfl rfl ?_
                      refine z_as ?_
                      refine z_callV (As := [.int a1]) (rest := []) (rv2 := fun (_ : Zr) => none) (h2 := fun (x : Zr) => zput R h0 x) dX6_settle_252 vX6_flower (.inl zw1243) (by decide) zkl7 (zRrecv hF).1 (zRrecv hF).2 rfl rfl (by decide) (fun x hx => kX6_flower G R h0 hF s42 a1 hx) (fun s43 => ?_)
                      try dsimp only [Option.toList, List.cons_append, List.nil_append]
                      refine z_sb ?_
                      refine z_at [] rfl ?_
                      exact kF32 s43
                    · refine z_aload_n (j := 0) dX6_settle_241 rfl rfl ?_
                      refine z_iload_n (j := 1) dX6_settle_242 rfl rfl ?_
                      refine z_iconst (v := 5) dX6_settle_243 (by decide) ?_
                      refine z_as ?_
                      refine z_callV (As := [.int a1, .int (5 : Int32)]) (rest := []) (rv2 := fun (_ : Zr) => none) (h2 := fun (x : Zr) => zput R h0 x) dX6_settle_244 vX6_cutNode (.inl zw1203) (by decide) zkl7 (zRrecv hF).1 (zRrecv hF).2 rfl rfl (by decide) (fun x hx => kX6_cutNode G R h0 hF s42 a1 (5 : Int32) hx) (fun s44 => ?_)
                      try dsimp only [Option.toList, List.cons_append, List.nil_append]
                      refine z_goto (tgt := 255) dX6_settle_247 (by decide) ?_
                      refine z_sb ?_
                      refine z_at [] rfl ?_
                      exact kF32 s44
                  · refine z_aload_n (j := 0) dX6_settle_225 rfl rfl ?_
                    refine z_iload_n (j := 1) dX6_settle_226 rfl rfl ?_
                    refine z_iconst (v := 4) dX6_settle_227 (by decide) ?_
                    refine z_as ?_
                    refine z_callV (As := [.int a1, .int (4 : Int32)]) (rest := []) (rv2 := fun (_ : Zr) => none) (h2 := fun (x : Zr) => zput R h0 x) dX6_settle_228 vX6_cutNode (.inl zw1203) (by decide) zkl7 (zRrecv hF).1 (zRrecv hF).2 rfl rfl (by decide) (fun x hx => kX6_cutNode G R h0 hF s40 a1 (4 : Int32) hx) (fun s45 => ?_)
                    try dsimp only [Option.toList, List.cons_append, List.nil_append]
                    refine z_goto (tgt := 255) dX6_settle_231 (by decide) ?_
                    refine z_sb ?_
                    refine z_at [] rfl ?_
                    exact kF32 s45
                · refine z_aload_n (j := 0) dX6_settle_209 rfl rfl ?_
                  refine z_iload_n (j := 1) dX6_settle_210 rfl rfl ?_
                  refine z_iconst (v := 2) dX6_settle_211 (by decide) ?_
                  refine z_as ?_
                  refine z_callV (As := [.int a1, .int (2 : Int32)]) (rest := []) (rv2 := fun (_ : Zr) => none) (h2 := fun (x : Zr) => zput R h0 x) dX6_settle_212 vX6_cutNode (.inl zw1203) (by decide) zkl7 (zRrecv hF).1 (zRrecv hF).2 rfl rfl (by decide) (fun x hx => kX6_cutNode G R h0 hF s38 a1 (2 : Int32) hx) (fun s46 => ?_)
                  try dsimp only [Option.toList, List.cons_append, List.nil_append]
                  refine z_goto (tgt := 255) dX6_settle_215 (by decide) ?_
                  refine z_sb ?_
                  refine z_at [] rfl ?_
                  exact kF32 s46
              · refine z_aload_n (j := 0) dX6_settle_193 rfl rfl ?_
                refine z_iload_n (j := 1) dX6_settle_194 rfl rfl ?_
                refine z_iconst (v := 3) dX6_settle_195 (by decide) ?_
                refine z_as ?_
                refine z_callV (As := [.int a1, .int (3 : Int32)]) (rest := []) (rv2 := fun (_ : Zr) => none) (h2 := fun (x : Zr) => zput R h0 x) dX6_settle_196 vX6_cutNode (.inl zw1203) (by decide) zkl7 (zRrecv hF).1 (zRrecv hF).2 rfl rfl (by decide) (fun x hx => kX6_cutNode G R h0 hF s36 a1 (3 : Int32) hx) (fun s47 => ?_)
                try dsimp only [Option.toList, List.cons_append, List.nil_append]
                refine z_goto (tgt := 255) dX6_settle_199 (by decide) ?_
                refine z_sb ?_
                refine z_at [] rfl ?_
                exact kF32 s47
          · refine z_aload_n (j := 0) dX6_settle_161 rfl rfl ?_
            refine z_iload_n (j := 1) dX6_settle_162 rfl rfl ?_
            refine z_as ?_
            refine z_callV (As := [.int a1]) (rest := []) (rv2 := fun (_ : Zr) => none) (h2 := fun (x : Zr) => zput R h0 x) dX6_settle_163 vX6_rest (.inl zw1175) (by decide) zkl7 (zRrecv hF).1 (zRrecv hF).2 rfl rfl (by decide) (fun x hx => kX6_rest G R h0 hF s17 a1 hx) (fun s48 => ?_)
            try dsimp only [Option.toList, List.cons_append, List.nil_append]
            refine z_goto (tgt := 255) dX6_settle_166 (by decide) ?_
            refine z_sb ?_
            refine z_at [] rfl ?_
            exact kF32 s48
    · refine z_loop (lvf := fun (q : Int32 × Int32 × Int32) => [(0, zrv G.2.1 (some R)), (1, .int a1), (2, .int w5), (3, .int w6), (4, .int q.1), (5, .int q.2.1), (6, .int q.2.2)]) (hf2 := fun (q : Int32 × Int32 × Int32) => zput R h0 s17) (s0 := ((0 : Int32), (-3 : Int32), (0 : Int32))) (fun K24 bK24 rK24 q => ?_)
      obtain ⟨v18, v19, v20⟩ := q
      try dsimp only
      refine z_iload (j := 6) dX6_settle_90 rfl ?_
      refine z_bipush (v := 12) dX6_settle_92 (by decide) ?_
      refine z_itb ?_
      refine z_icmp_ge (tgt := 142) dX6_settle_94 (by decide) (fun _ => ?_) (fun _ => ?_)
      · refine z_sb ?_
        refine z_eq (rK24 _) ?_
        refine z_at [0, 1, 2, 3, 4, 5] rfl ?_
        exact kF23 (v18, v19)
      · refine z_iload (j := 4) dX6_settle_97 rfl ?_
        refine z_aload_n (j := 0) dX6_settle_99 rfl rfl ?_
        refine z_rgetA (k := 48) (a := 36) hF dX6_settle_100 (by decide) rfl zw824 rfl ?_
        refine z_iload (j := 6) dX6_settle_103 rfl ?_
        refine z_as ?_
        refine z_rzald hF dX6_settle_105 (fun x25 => ?_)
        refine z_as ?_
        refine z_join (pc2 := 114) (lv2 := fun (q : Int32) => [(0, zrv G.2.1 (some R)), (1, .int a1), (2, .int w5), (3, .int w6), (5, .int v19), (6, .int v20)]) (st2 := fun (q : Int32) => [.int q, .int v18]) (h2 := fun (q : Int32) => zput R h0 s17) (fun q => ?_) (fun F27 kF27 => ?_)
        · obtain ⟨v26, e0⟩ : ∃ z, z = q := ⟨_, rfl⟩
          subst e0
          try dsimp only
          refine z_iadd dX6_settle_114 ?_
          refine z_istore (lv' := [(4, .int (v18 + v26)), (0, zrv G.2.1 (some R)), (1, .int a1), (2, .int w5), (3, .int w6), (5, .int v19), (6, .int v20)]) dX6_settle_115 (by decide) rfl ?_
          refine z_aload_n (j := 1) dX6_settle_117 rfl rfl ?_
          refine z_rgetA (k := 48) (a := 36) hF dX6_settle_118 (by decide) rfl zw824 rfl ?_
          refine z_iload (j := 6) dX6_settle_121 rfl ?_
          refine z_as ?_
          refine z_rzald hF dX6_settle_123 (fun x28 => ?_)
          refine z_as ?_
          refine z_join (pc2 := 134) (lv2 := fun (q : Int32) => [(0, zrv G.2.1 (some R)), (1, .int a1), (2, .int w5), (3, .int w6), (4, .int (v18 + v26)), (6, .int v20)]) (st2 := fun (q : Int32) => [.int q]) (h2 := fun (q : Int32) => zput R h0 s17) (fun q => ?_) (fun F30 kF30 => ?_)
          · obtain ⟨v29, e0⟩ : ∃ z, z = q := ⟨_, rfl⟩
            subst e0
            try dsimp only
            refine z_istore (lv' := [(5, .int v29), (0, zrv G.2.1 (some R)), (1, .int a1), (2, .int w5), (3, .int w6), (4, .int (v18 + v26)), (6, .int v20)]) dX6_settle_134 (by decide) rfl ?_
            refine z_iinc (j := 6) (v := v20 + (1 : Int32)) (lv' := [(6, .int (v20 + (1 : Int32))), (5, .int v29), (0, zrv G.2.1 (some R)), (1, .int a1), (2, .int w5), (3, .int w6), (4, .int (v18 + v26))]) dX6_settle_136 rfl rfl (by decide) rfl ?_
            refine z_goto (tgt := 90) dX6_settle_139 (by decide) ?_
            refine z_sb ?_
            refine z_at [2, 3, 4, 5, 6, 1, 0] rfl ?_
            exact bK24 (v18 + v26, v29, v20 + (1 : Int32))
          · refine z_itb ?_
            refine z_if_eq (tgt := 132) dX6_settle_124 (by decide) (fun _ => ?_) (fun _ => ?_)
            · refine z_iload (j := 5) dX6_settle_132 rfl ?_
              refine z_sb ?_
              refine z_at [1, 2, 3, 4, 0, 6] rfl ?_
              exact kF30 v19
            · refine z_iload (j := 6) dX6_settle_127 rfl ?_
              refine z_goto (tgt := 134) dX6_settle_129 (by decide) ?_
              refine z_sb ?_
              refine z_at [1, 2, 3, 4, 0, 6] rfl ?_
              exact kF30 v20
        · refine z_itb ?_
          refine z_if_eq (tgt := 113) dX6_settle_106 (by decide) (fun _ => ?_) (fun _ => ?_)
          · refine z_iconst (v := 0) dX6_settle_113 (by decide) ?_
            refine z_sb ?_
            refine z_at [0, 1, 2, 3, 5, 6] rfl ?_
            exact kF27 (0 : Int32)
          · refine z_iconst (v := 1) dX6_settle_109 (by decide) ?_
            refine z_goto (tgt := 114) dX6_settle_110 (by decide) ?_
            refine z_sb ?_
            refine z_at [0, 1, 2, 3, 5, 6] rfl ?_
            exact kF27 (1 : Int32)
  · refine z_loop (lvf := fun (q : Int32 × Int32 × Int32) => [(0, zrv G.2.1 (some R)), (1, .int a1), (2, .int q.1), (3, .int q.2.1), (4, .int q.2.2)]) (hf2 := fun (q : Int32 × Int32 × Int32) => zput R h0 s) (s0 := ((0 : Int32), (1 : Int32), x1)) (fun K8 bK8 rK8 q => ?_)
    obtain ⟨v2, v3, v4⟩ := q
    try dsimp only
    refine z_iload (j := 4) dX6_settle_12 rfl ?_
    refine z_aload_n (j := 0) dX6_settle_14 rfl rfl ?_
    refine z_rgetA (k := 40) (a := 30) hF dX6_settle_15 (by decide) rfl zw816 rfl ?_
    refine z_iload_n (j := 1) dX6_settle_18 rfl rfl ?_
    refine z_as ?_
    refine z_riald hF dX6_settle_19 (fun x9 => ?_)
    refine z_aload_n (j := 0) dX6_settle_20 rfl rfl ?_
    refine z_rgetA (k := 41) (a := 31) hF dX6_settle_21 (by decide) rfl zw817 rfl ?_
    refine z_iload_n (j := 1) dX6_settle_24 rfl rfl ?_
    refine z_as ?_
    refine z_riald hF dX6_settle_25 (fun x10 => ?_)
    refine z_iadd dX6_settle_26 ?_
    refine z_itb ?_
    refine z_icmp_ge (tgt := 75) dX6_settle_27 (by decide) (fun _ => ?_) (fun _ => ?_)
    · refine z_sb ?_
      refine z_eq (rK8 _) ?_
      refine z_at [0, 1, 2, 3] rfl ?_
      exact kF7 (v2, v3)
    · refine z_iload_n (j := 2) dX6_settle_30 rfl rfl ?_
      refine z_aload_n (j := 0) dX6_settle_31 rfl rfl ?_
      refine z_rgetA (k := 44) (a := 33) hF dX6_settle_32 (by decide) rfl zw820 rfl ?_
      refine z_iload (j := 4) dX6_settle_35 rfl ?_
      refine z_as ?_
      refine z_riald hF dX6_settle_37 (fun x11 => ?_)
      refine z_as ?_
      refine z_join (pc2 := 46) (lv2 := fun (q : Int32) => [(0, zrv G.2.1 (some R)), (1, .int a1), (3, .int v3), (4, .int v4)]) (st2 := fun (q : Int32) => [.int q, .int v2]) (h2 := fun (q : Int32) => zput R h0 s) (fun q => ?_) (fun F13 kF13 => ?_)
      · obtain ⟨v12, e0⟩ : ∃ z, z = q := ⟨_, rfl⟩
        subst e0
        try dsimp only
        refine z_iadd dX6_settle_46 ?_
        refine z_istore_n (lv' := [(2, .int (v2 + v12)), (0, zrv G.2.1 (some R)), (1, .int a1), (3, .int v3), (4, .int v4)]) dX6_settle_47 rfl (by decide) rfl ?_
        refine z_iload_n (j := 3) dX6_settle_48 rfl rfl ?_
        refine z_as ?_
        refine z_join (pc2 := 68) (lv2 := fun (q : Int32) => [(0, zrv G.2.1 (some R)), (1, .int a1), (2, .int (v2 + v12)), (4, .int v4)]) (st2 := fun (q : Int32) => [.int q]) (h2 := fun (q : Int32) => zput R h0 s) (fun q => ?_) (fun F15 kF15 => ?_)
        · obtain ⟨v14, e0⟩ : ∃ z, z = q := ⟨_, rfl⟩
          subst e0
          try dsimp only
          refine z_istore_n (lv' := [(3, .int v14), (0, zrv G.2.1 (some R)), (1, .int a1), (2, .int (v2 + v12)), (4, .int v4)]) dX6_settle_68 rfl (by decide) rfl ?_
          refine z_iinc (j := 4) (v := v4 + (1 : Int32)) (lv' := [(4, .int (v4 + (1 : Int32))), (3, .int v14), (0, zrv G.2.1 (some R)), (1, .int a1), (2, .int (v2 + v12))]) dX6_settle_69 rfl rfl (by decide) rfl ?_
          refine z_goto (tgt := 12) dX6_settle_72 (by decide) ?_
          refine z_sb ?_
          refine z_at [2, 3, 4, 1, 0] rfl ?_
          exact bK8 (v2 + v12, v14, v4 + (1 : Int32))
        · refine z_itb ?_
          refine z_if_eq (tgt := 67) dX6_settle_49 (by decide) (fun _ => ?_) (fun _ => ?_)
          · refine z_iconst (v := 0) dX6_settle_67 (by decide) ?_
            refine z_sb ?_
            refine z_at [1, 2, 0, 4] rfl ?_
            exact kF15 (0 : Int32)
          · refine z_aload_n (j := 1) dX6_settle_52 rfl rfl ?_
            refine z_rgetA (k := 44) (a := 33) hF dX6_settle_53 (by decide) rfl zw820 rfl ?_
            refine z_iload (j := 4) dX6_settle_56 rfl ?_
            refine z_as ?_
            refine z_riald hF dX6_settle_58 (fun x16 => ?_)
            refine z_iconst (v := 1) dX6_settle_59 (by decide) ?_
            refine z_itb ?_
            refine z_icmp_ne (tgt := 67) dX6_settle_60 (by decide) (fun _ => ?_) (fun _ => ?_)
            · refine z_iconst (v := 1) dX6_settle_63 (by decide) ?_
              refine z_goto (tgt := 68) dX6_settle_64 (by decide) ?_
              refine z_sb ?_
              refine z_at [1, 2, 0, 4] rfl ?_
              exact kF15 (1 : Int32)
            · refine z_iconst (v := 0) dX6_settle_67 (by decide) ?_
              refine z_sb ?_
              refine z_at [1, 2, 0, 4] rfl ?_
              exact kF15 (0 : Int32)
      · refine z_itb ?_
        refine z_if_ne (tgt := 45) dX6_settle_38 (by decide) (fun _ => ?_) (fun _ => ?_)
        · refine z_iconst (v := 1) dX6_settle_41 (by decide) ?_
          refine z_goto (tgt := 46) dX6_settle_42 (by decide) ?_
          refine z_sb ?_
          refine z_at [0, 1, 3, 4] rfl ?_
          exact kF13 (1 : Int32)
        · refine z_iconst (v := 0) dX6_settle_45 (by decide) ?_
          refine z_sb ?_
          refine z_at [0, 1, 3, 4] rfl ?_
          exact kF13 (0 : Int32)
def fX6_find (s : Zr) : Option (Int32 × Zr) :=
  (fX6_clearTree s).bind fun s1 =>
  (some (u2 s1 0 42 (0 : Int32))).bind fun s2 =>
  (some (u2 s2 0 45 (0 : Int32))).bind fun s3 =>
  (fX6_newNode s3 (1 : Int32) (-3 : Int32)).bind fun ((x4, s5) : Int32 × Zr) =>
  (fX6_beginLog s5 x4).bind fun s6 =>
  (zloop (fun ((v7, s8) : Int32 × Zr) =>
    (if (s8 0 0) ≤ v7 then
      some (.inr s8)
    else
      (rdZ s8 2 v7).bind fun x12 =>
      (if x12 = 0 then
        (fX6_beginRow s8 x4).bind fun s15 =>
        (zloop (fun ((v16, s17) : Int32 × Zr) =>
          ((rdI s17 1 v7).bind fun x21 =>
          if x21 ≤ v16 then
            some (.inr s17)
          else
            (rdI s17 3 (((6 : Int32) * v7) + v16)).bind fun x22 =>
            (fX6_addName s17 x22).bind fun s23 =>
            some (.inl (v16 + (1 : Int32), s23)) : Option ((Int32 × Zr) ⊕ Zr))) zFU ((0 : Int32), s15)).bind fun (s18 : Zr) =>
        some s18
      else
        some s8).bind fun (s13 : Zr) =>
      some (.inl (v7 + (1 : Int32), s13)) : Option ((Int32 × Zr) ⊕ Zr))) zFU ((0 : Int32), s6)).bind fun (s9 : Zr) =>
  (zloop (fun ((v24, s25) : Int32 × Zr) =>
    (if (s25 0 15) ≤ v24 then
      some (.inr s25)
    else
      if (60 : Int32) < (s25 0 15) then
        some (.inr s25)
      else
        (rdI s25 32 v24).bind fun x29 =>
        (if x29 < 0 then
          some s25
        else
          (fX6_settle s25 v24).bind fun s32 =>
          some s32).bind fun (s30 : Zr) =>
        some (.inl (v24 + (1 : Int32), s30)) : Option ((Int32 × Zr) ⊕ Zr))) zFU ((0 : Int32), s9)).bind fun (s26 : Zr) =>
  (if (s26 0 15) ≤ (60 : Int32) then
    (fX6_make s26 x4).bind fun ((x36, s37) : Int32 × Zr) =>
    some (x36, s37)
  else
    some ((-2 : Int32), s26)).bind fun ((v33, s34) : Int32 × Zr) =>
  some (v33, s34)
set_option maxRecDepth 100000 in
set_option maxHeartbeats 4000000 in
theorem kX6_find (G : Zg) (R : Nat) (h0 : Zh) (hF : zRF R h0) (s : Zr) {x : Int32 × Zr} (hx : fX6_find s = some x) : zCt G yX6_find cX6_find 4 (Option.some Jvm.ClassFile.FieldType.int) 5 [zrv G.2.1 (some R)] (zput R h0 s) (some (.int x.1)) (zput R h0 x.2) := by
  refine z_met (a := x) (rvf := fun (x : Int32 × Zr) => some (.int x.1)) (hff := fun (x : Int32 × Zr) => zput R h0 x.2) (lv := [(0, zrv G.2.1 (some R))]) (by decide +kernel) (by simp [lg_sl, zcat1, zcI, zcJ]) (by simp [lv_args, zcat1, zcI, zcJ]) ?_ hx
  unfold fX6_find
  refine z_aload_n (j := 0) dX6_find_0 rfl rfl ?_
  refine z_callV (As := []) (rest := []) (rv2 := fun (_ : Zr) => none) (h2 := fun (x : Zr) => zput R h0 x) dX6_find_1 vX6_clearTree (.inl zw1058) (by decide) zkl7 (zRrecv hF).1 (zRrecv hF).2 rfl rfl (by decide) (fun x hx => kX6_clearTree G R h0 hF s hx) (fun s1 => ?_)
  try dsimp only [Option.toList, List.cons_append, List.nil_append]
  refine z_aload_n (j := 0) dX6_find_4 rfl rfl ?_
  refine z_iconst (v := 0) dX6_find_5 (by decide) ?_
  refine z_rputI (k := 42) hF dX6_find_6 (by decide) rfl zw818 rfl rfl (fun s2 => ?_)
  refine z_aload_n (j := 0) dX6_find_9 rfl rfl ?_
  refine z_iconst (v := 0) dX6_find_10 (by decide) ?_
  refine z_rputI (k := 45) hF dX6_find_11 (by decide) rfl zw821 rfl rfl (fun s3 => ?_)
  refine z_aload_n (j := 0) dX6_find_14 rfl rfl ?_
  refine z_iconst (v := 1) dX6_find_15 (by decide) ?_
  refine z_bipush (v := -3) dX6_find_16 (by decide) ?_
  refine z_callV (As := [.int (1 : Int32), .int (-3 : Int32)]) (rest := []) (rv2 := fun (x : Int32 × Zr) => some (.int x.1)) (h2 := fun (x : Int32 × Zr) => zput R h0 x.2) dX6_find_18 vX6_newNode (.inl zw1066) (by decide) zkl7 (zRrecv hF).1 (zRrecv hF).2 rfl rfl (by decide) (fun x hx => kX6_newNode G R h0 hF s3 (1 : Int32) (-3 : Int32) hx) (fun x => ?_)
  obtain ⟨x4, s5⟩ := x
  try dsimp only [Option.toList, List.cons_append, List.nil_append]
  refine z_istore_n (lv' := [(1, .int x4), (0, zrv G.2.1 (some R))]) dX6_find_21 rfl (by decide) rfl ?_
  refine z_aload_n (j := 1) dX6_find_22 rfl rfl ?_
  refine z_iload_n (j := 0) dX6_find_23 rfl rfl ?_
  refine z_callV (As := [.int x4]) (rest := []) (rv2 := fun (_ : Zr) => none) (h2 := fun (x : Zr) => zput R h0 x) dX6_find_24 vX6_beginLog (.inl zw1155) (by decide) zkl7 (zRrecv hF).1 (zRrecv hF).2 rfl rfl (by decide) (fun x hx => kX6_beginLog G R h0 hF s5 x4 hx) (fun s6 => ?_)
  try dsimp only [Option.toList, List.cons_append, List.nil_append]
  refine z_iconst (v := 0) dX6_find_27 (by decide) ?_
  refine z_istore_n (lv' := [(2, .int (0 : Int32)), (1, .int x4), (0, zrv G.2.1 (some R))]) dX6_find_28 rfl (by decide) rfl ?_
  refine z_at [2, 1, 0] rfl ?_
  refine z_join (pc2 := 90) (lv2 := fun (q : Zr) => [(0, zrv G.2.1 (some R)), (1, .int x4)]) (st2 := fun _ => []) (h2 := fun (q : Zr) => zput R h0 q) (fun q => ?_) (fun F10 kF10 => ?_)
  · obtain ⟨s9, e0⟩ : ∃ z, z = q := ⟨_, rfl⟩
    subst e0
    try dsimp only
    refine z_iconst (v := 0) dX6_find_90 (by decide) ?_
    refine z_istore_n (lv' := [(2, .int (0 : Int32)), (0, zrv G.2.1 (some R)), (1, .int x4)]) dX6_find_91 rfl (by decide) rfl ?_
    refine z_at [1, 2, 0] rfl ?_
    refine z_join (pc2 := 129) (lv2 := fun (q : Zr) => [(0, zrv G.2.1 (some R)), (1, .int x4)]) (st2 := fun _ => []) (h2 := fun (q : Zr) => zput R h0 q) (fun q => ?_) (fun F27 kF27 => ?_)
    · obtain ⟨s26, e0⟩ : ∃ z, z = q := ⟨_, rfl⟩
      subst e0
      try dsimp only
      refine z_aload_n (j := 0) dX6_find_129 rfl rfl ?_
      refine z_rgetI (k := 15) hF dX6_find_130 (by decide) rfl zw791 ?_
      refine z_bipush (v := 60) dX6_find_133 (by decide) ?_
      refine z_join (pc2 := 148) (lv2 := fun (q : Int32 × Zr) => []) (st2 := fun (q : Int32 × Zr) => [.int q.1]) (h2 := fun (q : Int32 × Zr) => zput R h0 q.2) (fun q => ?_) (fun F35 kF35 => ?_)
      · obtain ⟨v33, s34⟩ := q
        try dsimp only
        exact z_iret dX6_find_148 rfl rfl rfl rfl
      · refine z_itb ?_
        refine z_icmp_le (tgt := 143) dX6_find_135 (by decide) (fun _ => ?_) (fun _ => ?_)
        · refine z_aload_n (j := 0) dX6_find_143 rfl rfl ?_
          refine z_iload_n (j := 1) dX6_find_144 rfl rfl ?_
          refine z_as ?_
          refine z_callV (As := [.int x4]) (rest := []) (rv2 := fun (x : Int32 × Zr) => some (.int x.1)) (h2 := fun (x : Int32 × Zr) => zput R h0 x.2) dX6_find_145 vX6_make (.inl zw1094) (by decide) zkl7 (zRrecv hF).1 (zRrecv hF).2 rfl rfl (by decide) (fun x hx => kX6_make G R h0 hF s26 x4 hx) (fun x => ?_)
          obtain ⟨x36, s37⟩ := x
          try dsimp only [Option.toList, List.cons_append, List.nil_append]
          refine z_sb ?_
          refine z_at [] rfl ?_
          exact kF35 (x36, s37)
        · refine z_bipush (v := -2) dX6_find_138 (by decide) ?_
          refine z_goto (tgt := 148) dX6_find_140 (by decide) ?_
          refine z_sb ?_
          refine z_at [] rfl ?_
          exact kF35 ((-2 : Int32), s26)
    · refine z_loop (lvf := fun (q : Int32 × Zr) => [(0, zrv G.2.1 (some R)), (1, .int x4), (2, .int q.1)]) (hf2 := fun (q : Int32 × Zr) => zput R h0 q.2) (s0 := ((0 : Int32), s9)) (fun K28 bK28 rK28 q => ?_)
      obtain ⟨v24, s25⟩ := q
      try dsimp only
      refine z_iload_n (j := 2) dX6_find_92 rfl rfl ?_
      refine z_aload_n (j := 0) dX6_find_93 rfl rfl ?_
      refine z_rgetI (k := 15) hF dX6_find_94 (by decide) rfl zw791 ?_
      refine z_itb ?_
      refine z_icmp_ge (tgt := 129) dX6_find_97 (by decide) (fun _ => ?_) (fun _ => ?_)
      · refine z_sb ?_
        refine z_eq (rK28 _) ?_
        refine z_at [0, 1] rfl ?_
        exact kF27 s25
      · refine z_aload_n (j := 0) dX6_find_100 rfl rfl ?_
        refine z_rgetI (k := 15) hF dX6_find_101 (by decide) rfl zw791 ?_
        refine z_bipush (v := 60) dX6_find_104 (by decide) ?_
        refine z_itb ?_
        refine z_icmp_gt (tgt := 129) dX6_find_106 (by decide) (fun _ => ?_) (fun _ => ?_)
        · refine z_sb ?_
          refine z_eq (rK28 _) ?_
          refine z_at [0, 1] rfl ?_
          exact kF27 s25
        · refine z_aload_n (j := 0) dX6_find_109 rfl rfl ?_
          refine z_rgetA (k := 41) (a := 31) hF dX6_find_110 (by decide) rfl zw817 rfl ?_
          refine z_iload_n (j := 2) dX6_find_113 rfl rfl ?_
          refine z_as ?_
          refine z_riald hF dX6_find_114 (fun x29 => ?_)
          refine z_as ?_
          refine z_join (pc2 := 123) (lv2 := fun (q : Zr) => [(0, zrv G.2.1 (some R)), (1, .int x4), (2, .int v24)]) (st2 := fun (q : Zr) => []) (h2 := fun (q : Zr) => zput R h0 q) (fun q => ?_) (fun F31 kF31 => ?_)
          · obtain ⟨s30, e0⟩ : ∃ z, z = q := ⟨_, rfl⟩
            subst e0
            try dsimp only
            refine z_iinc (j := 2) (v := v24 + (1 : Int32)) (lv' := [(2, .int (v24 + (1 : Int32))), (0, zrv G.2.1 (some R)), (1, .int x4)]) dX6_find_123 rfl rfl (by decide) rfl ?_
            refine z_goto (tgt := 92) dX6_find_126 (by decide) ?_
            refine z_sb ?_
            refine z_at [1, 2, 0] rfl ?_
            exact bK28 (v24 + (1 : Int32), s30)
          · refine z_itb ?_
            refine z_if_lt (tgt := 123) dX6_find_115 (by decide) (fun _ => ?_) (fun _ => ?_)
            · refine z_sb ?_
              refine z_at [0, 1, 2] rfl ?_
              exact kF31 s25
            · refine z_aload_n (j := 0) dX6_find_118 rfl rfl ?_
              refine z_iload_n (j := 2) dX6_find_119 rfl rfl ?_
              refine z_as ?_
              refine z_callV (As := [.int v24]) (rest := []) (rv2 := fun (_ : Zr) => none) (h2 := fun (x : Zr) => zput R h0 x) dX6_find_120 vX6_settle (.inl zw1167) (by decide) zkl7 (zRrecv hF).1 (zRrecv hF).2 rfl rfl (by decide) (fun x hx => kX6_settle G R h0 hF s25 v24 hx) (fun s32 => ?_)
              try dsimp only [Option.toList, List.cons_append, List.nil_append]
              refine z_sb ?_
              refine z_at [0, 1, 2] rfl ?_
              exact kF31 s32
  · refine z_loop (lvf := fun (q : Int32 × Zr) => [(0, zrv G.2.1 (some R)), (1, .int x4), (2, .int q.1)]) (hf2 := fun (q : Int32 × Zr) => zput R h0 q.2) (s0 := ((0 : Int32), s6)) (fun K11 bK11 rK11 q => ?_)
    obtain ⟨v7, s8⟩ := q
    try dsimp only
    refine z_iload_n (j := 2) dX6_find_29 rfl rfl ?_
    refine z_aload_n (j := 0) dX6_find_30 rfl rfl ?_
    refine z_rgetI (k := 0) hF dX6_find_31 (by decide) rfl zw776 ?_
    refine z_itb ?_
    refine z_icmp_ge (tgt := 90) dX6_find_34 (by decide) (fun _ => ?_) (fun _ => ?_)
    · refine z_sb ?_
      refine z_eq (rK11 _) ?_
      refine z_at [0, 1] rfl ?_
      exact kF10 s8
    · refine z_aload_n (j := 0) dX6_find_37 rfl rfl ?_
      refine z_rgetA (k := 2) (a := 1) hF dX6_find_38 (by decide) rfl zw778 rfl ?_
      refine z_iload_n (j := 2) dX6_find_41 rfl rfl ?_
      refine z_as ?_
      refine z_rzald hF dX6_find_42 (fun x12 => ?_)
      refine z_as ?_
      refine z_join (pc2 := 84) (lv2 := fun (q : Zr) => [(0, zrv G.2.1 (some R)), (1, .int x4), (2, .int v7)]) (st2 := fun (q : Zr) => []) (h2 := fun (q : Zr) => zput R h0 q) (fun q => ?_) (fun F14 kF14 => ?_)
      · obtain ⟨s13, e0⟩ : ∃ z, z = q := ⟨_, rfl⟩
        subst e0
        try dsimp only
        refine z_iinc (j := 2) (v := v7 + (1 : Int32)) (lv' := [(2, .int (v7 + (1 : Int32))), (0, zrv G.2.1 (some R)), (1, .int x4)]) dX6_find_84 rfl rfl (by decide) rfl ?_
        refine z_goto (tgt := 29) dX6_find_87 (by decide) ?_
        refine z_sb ?_
        refine z_at [1, 2, 0] rfl ?_
        exact bK11 (v7 + (1 : Int32), s13)
      · refine z_itb ?_
        refine z_if_ne (tgt := 84) dX6_find_43 (by decide) (fun _ => ?_) (fun _ => ?_)
        · refine z_aload_n (j := 0) dX6_find_46 rfl rfl ?_
          refine z_iload_n (j := 1) dX6_find_47 rfl rfl ?_
          refine z_as ?_
          refine z_callV (As := [.int x4]) (rest := []) (rv2 := fun (_ : Zr) => none) (h2 := fun (x : Zr) => zput R h0 x) dX6_find_48 vX6_beginRow (.inl zw1159) (by decide) zkl7 (zRrecv hF).1 (zRrecv hF).2 rfl rfl (by decide) (fun x hx => kX6_beginRow G R h0 hF s8 x4 hx) (fun s15 => ?_)
          try dsimp only [Option.toList, List.cons_append, List.nil_append]
          refine z_iconst (v := 0) dX6_find_51 (by decide) ?_
          refine z_istore_n (lv' := [(3, .int (0 : Int32)), (0, zrv G.2.1 (some R)), (1, .int x4), (2, .int v7)]) dX6_find_52 rfl (by decide) rfl ?_
          refine z_as ?_
          refine z_at [1, 2, 3, 0] rfl ?_
          refine z_join (pc2 := 84) (lv2 := fun (q : Zr) => [(0, zrv G.2.1 (some R)), (1, .int x4), (2, .int v7)]) (st2 := fun _ => []) (h2 := fun (q : Zr) => zput R h0 q) (fun q => ?_) (fun F19 kF19 => ?_)
          · obtain ⟨s18, e0⟩ : ∃ z, z = q := ⟨_, rfl⟩
            subst e0
            try dsimp only
            refine z_sb ?_
            refine z_at [0, 1, 2] rfl ?_
            exact kF14 s18
          · refine z_loop (lvf := fun (q : Int32 × Zr) => [(0, zrv G.2.1 (some R)), (1, .int x4), (2, .int v7), (3, .int q.1)]) (hf2 := fun (q : Int32 × Zr) => zput R h0 q.2) (s0 := ((0 : Int32), s15)) (fun K20 bK20 rK20 q => ?_)
            obtain ⟨v16, s17⟩ := q
            try dsimp only
            refine z_iload_n (j := 3) dX6_find_53 rfl rfl ?_
            refine z_aload_n (j := 0) dX6_find_54 rfl rfl ?_
            refine z_rgetA (k := 1) (a := 0) hF dX6_find_55 (by decide) rfl zw777 rfl ?_
            refine z_iload_n (j := 2) dX6_find_58 rfl rfl ?_
            refine z_as ?_
            refine z_riald hF dX6_find_59 (fun x21 => ?_)
            refine z_itb ?_
            refine z_icmp_ge (tgt := 84) dX6_find_60 (by decide) (fun _ => ?_) (fun _ => ?_)
            · refine z_sb ?_
              refine z_eq (rK20 _) ?_
              refine z_at [0, 1, 2] rfl ?_
              exact kF19 s17
            · refine z_aload_n (j := 0) dX6_find_63 rfl rfl ?_
              refine z_aload_n (j := 0) dX6_find_64 rfl rfl ?_
              refine z_rgetA (k := 3) (a := 2) hF dX6_find_65 (by decide) rfl zw779 rfl ?_
              refine z_bipush (v := 6) dX6_find_68 (by decide) ?_
              refine z_iload_n (j := 2) dX6_find_70 rfl rfl ?_
              refine z_imul dX6_find_71 ?_
              refine z_iload_n (j := 3) dX6_find_72 rfl rfl ?_
              refine z_iadd dX6_find_73 ?_
              refine z_as ?_
              refine z_riald hF dX6_find_74 (fun x22 => ?_)
              refine z_as ?_
              refine z_callV (As := [.int x22]) (rest := []) (rv2 := fun (_ : Zr) => none) (h2 := fun (x : Zr) => zput R h0 x) dX6_find_75 vX6_addName (.inl zw1163) (by decide) zkl7 (zRrecv hF).1 (zRrecv hF).2 rfl rfl (by decide) (fun x hx => kX6_addName G R h0 hF s17 x22 hx) (fun s23 => ?_)
              try dsimp only [Option.toList, List.cons_append, List.nil_append]
              refine z_iinc (j := 3) (v := v16 + (1 : Int32)) (lv' := [(3, .int (v16 + (1 : Int32))), (0, zrv G.2.1 (some R)), (1, .int x4), (2, .int v7)]) dX6_find_78 rfl rfl (by decide) rfl ?_
              refine z_goto (tgt := 53) dX6_find_81 (by decide) ?_
              refine z_sb ?_
              refine z_at [1, 2, 3, 0] rfl ?_
              exact bK20 (v16 + (1 : Int32), s23)
        · refine z_sb ?_
          refine z_at [0, 1, 2] rfl ?_
          exact kF14 s8
def fX6_clearTimes (s : Zr) : Option (Zr) :=
  (some (u2 s 0 59 (0 : Int32))).bind fun s1 =>
  (some (u2 s1 0 60 (0 : Int32))).bind fun s2 =>
  (some (u2 s2 0 61 (-3 : Int32))).bind fun s3 =>
  (some (u2 s3 0 62 (0 : Int32))).bind fun s4 =>
  some s4
set_option maxRecDepth 100000 in
set_option maxHeartbeats 4000000 in
theorem kX6_clearTimes (G : Zg) (R : Nat) (h0 : Zh) (hF : zRF R h0) (s : Zr) {x : Zr} (hx : fX6_clearTimes s = some x) : zCt G yX6_clearTimes cX6_clearTimes 1 (Option.none : Option Jvm.ClassFile.FieldType) 1 [zrv G.2.1 (some R)] (zput R h0 s) none (zput R h0 x) := by
  refine z_met (a := x) (rvf := fun (_ : Zr) => none) (hff := fun (x : Zr) => zput R h0 x) (lv := [(0, zrv G.2.1 (some R))]) (by decide +kernel) (by simp [lg_sl, zcat1, zcI, zcJ]) (by simp [lv_args, zcat1, zcI, zcJ]) ?_ hx
  unfold fX6_clearTimes
  refine z_aload_n (j := 0) dX6_clearTimes_0 rfl rfl ?_
  refine z_iconst (v := 0) dX6_clearTimes_1 (by decide) ?_
  refine z_rputI (k := 59) hF dX6_clearTimes_2 (by decide) rfl zw835 rfl rfl (fun s1 => ?_)
  refine z_aload_n (j := 0) dX6_clearTimes_5 rfl rfl ?_
  refine z_iconst (v := 0) dX6_clearTimes_6 (by decide) ?_
  refine z_rputI (k := 60) hF dX6_clearTimes_7 (by decide) rfl zw836 rfl rfl (fun s2 => ?_)
  refine z_aload_n (j := 0) dX6_clearTimes_10 rfl rfl ?_
  refine z_bipush (v := -3) dX6_clearTimes_11 (by decide) ?_
  refine z_rputI (k := 61) hF dX6_clearTimes_13 (by decide) rfl zw837 rfl rfl (fun s3 => ?_)
  refine z_aload_n (j := 0) dX6_clearTimes_16 rfl rfl ?_
  refine z_iconst (v := 0) dX6_clearTimes_17 (by decide) ?_
  refine z_rputI (k := 62) hF dX6_clearTimes_18 (by decide) rfl zw838 rfl rfl (fun s4 => ?_)
  exact z_vret dX6_clearTimes_21 rfl rfl rfl
def fX6_time (s : Zr) (a1 : Int32) (a2 : Int32) : Option (Zr) :=
  if a1 < 0 then
    (some (u2 s 0 62 ((s 0 62) + (1 : Int32)))).bind fun s1 =>
    some s1
  else
    if 0 ≤ a2 then
      (if (s 0 60) = 0 then
        some (a2 - a1)
      else
        if (a2 - a1) ≤ (s 0 61) then
          some (s 0 61)
        else
          some (a2 - a1)).bind fun (v2 : Int32) =>
      (some (u2 s 0 61 v2)).bind fun s4 =>
      (some (u2 s4 0 60 ((s4 0 60) + (1 : Int32)))).bind fun s5 =>
      (some (u2 s5 0 59 ((s5 0 59) + (a2 - a1)))).bind fun s6 =>
      some s6
    else
      (some (u2 s 0 62 ((s 0 62) + (1 : Int32)))).bind fun s7 =>
      some s7
set_option maxRecDepth 100000 in
set_option maxHeartbeats 4000000 in
theorem kX6_time (G : Zg) (R : Nat) (h0 : Zh) (hF : zRF R h0) (s : Zr) (a1 : Int32) (a2 : Int32) {x : Zr} (hx : fX6_time s a1 a2 = some x) : zCt G yX6_time cX6_time 4 (Option.none : Option Jvm.ClassFile.FieldType) 1 [zrv G.2.1 (some R), .int a1, .int a2] (zput R h0 s) none (zput R h0 x) := by
  refine z_met (a := x) (rvf := fun (_ : Zr) => none) (hff := fun (x : Zr) => zput R h0 x) (lv := [(0, zrv G.2.1 (some R)), (1, .int a1), (2, .int a2)]) (by decide +kernel) (by simp [lg_sl, zcat1, zcI, zcJ]) (by simp [lv_args, zcat1, zcI, zcJ]) ?_ hx
  unfold fX6_time
  refine z_iload_n (j := 1) dX6_time_0 rfl rfl ?_
  refine z_if_lt (tgt := 8) dX6_time_1 (by decide) (fun _ => ?_) (fun _ => ?_)
  · refine z_aload_n (j := 0) dX6_time_8 rfl rfl ?_
    refine z_dup dX6_time_9 (zcat1 _ _) ?_
    refine z_rgetI (k := 62) hF dX6_time_10 (by decide) rfl zw838 ?_
    refine z_iconst (v := 1) dX6_time_13 (by decide) ?_
    refine z_iadd dX6_time_14 ?_
    refine z_rputI (k := 62) hF dX6_time_15 (by decide) rfl zw838 rfl rfl (fun s1 => ?_)
    exact z_vret dX6_time_18 rfl rfl rfl
  · refine z_iload_n (j := 2) dX6_time_4 rfl rfl ?_
    refine z_if_ge (tgt := 19) dX6_time_5 (by decide) (fun _ => ?_) (fun _ => ?_)
    · refine z_iload_n (j := 2) dX6_time_19 rfl rfl ?_
      refine z_iload_n (j := 1) dX6_time_20 rfl rfl ?_
      refine z_isub dX6_time_21 ?_
      refine z_istore_n (lv' := [(3, .int (a2 - a1)), (0, zrv G.2.1 (some R)), (1, .int a1), (2, .int a2)]) dX6_time_22 rfl (by decide) rfl ?_
      refine z_aload_n (j := 1) dX6_time_23 rfl rfl ?_
      refine z_aload_n (j := 1) dX6_time_24 rfl rfl ?_
      refine z_rgetI (k := 60) hF dX6_time_25 (by decide) rfl zw836 ?_
      refine z_join (pc2 := 47) (lv2 := fun (q : Int32) => [(0, zrv G.2.1 (some R)), (3, .int (a2 - a1))]) (st2 := fun (q : Int32) => [.int q, zrv G.2.1 (some R)]) (h2 := fun (q : Int32) => zput R h0 s) (fun q => ?_) (fun F3 kF3 => ?_)
      · obtain ⟨v2, e0⟩ : ∃ z, z = q := ⟨_, rfl⟩
        subst e0
        try dsimp only
        refine z_rputI (k := 61) hF dX6_time_47 (by decide) rfl zw837 rfl rfl (fun s4 => ?_)
        refine z_aload_n (j := 0) dX6_time_50 rfl rfl ?_
        refine z_dup dX6_time_51 (zcat1 _ _) ?_
        refine z_rgetI (k := 60) hF dX6_time_52 (by decide) rfl zw836 ?_
        refine z_iconst (v := 1) dX6_time_55 (by decide) ?_
        refine z_iadd dX6_time_56 ?_
        refine z_rputI (k := 60) hF dX6_time_57 (by decide) rfl zw836 rfl rfl (fun s5 => ?_)
        refine z_aload_n (j := 0) dX6_time_60 rfl rfl ?_
        refine z_dup dX6_time_61 (zcat1 _ _) ?_
        refine z_rgetI (k := 59) hF dX6_time_62 (by decide) rfl zw835 ?_
        refine z_iload_n (j := 1) dX6_time_65 rfl rfl ?_
        refine z_iadd dX6_time_66 ?_
        refine z_rputI (k := 59) hF dX6_time_67 (by decide) rfl zw835 rfl rfl (fun s6 => ?_)
        exact z_vret dX6_time_70 rfl rfl rfl
      · refine z_itb ?_
        refine z_if_eq (tgt := 39) dX6_time_28 (by decide) (fun _ => ?_) (fun _ => ?_)
        · refine z_iload_n (j := 0) dX6_time_39 rfl rfl ?_
          refine z_goto (tgt := 47) dX6_time_40 (by decide) ?_
          refine z_sb ?_
          refine z_at [1, 0] rfl ?_
          exact kF3 (a2 - a1)
        · refine z_iload_n (j := 0) dX6_time_31 rfl rfl ?_
          refine z_aload_n (j := 1) dX6_time_32 rfl rfl ?_
          refine z_rgetI (k := 61) hF dX6_time_33 (by decide) rfl zw837 ?_
          refine z_itb ?_
          refine z_icmp_le (tgt := 43) dX6_time_36 (by decide) (fun _ => ?_) (fun _ => ?_)
          · refine z_aload_n (j := 1) dX6_time_43 rfl rfl ?_
            refine z_rgetI (k := 61) hF dX6_time_44 (by decide) rfl zw837 ?_
            refine z_sb ?_
            refine z_at [1, 0] rfl ?_
            exact kF3 (s 0 61)
          · refine z_iload_n (j := 0) dX6_time_39 rfl rfl ?_
            refine z_goto (tgt := 47) dX6_time_40 (by decide) ?_
            refine z_sb ?_
            refine z_at [1, 0] rfl ?_
            exact kF3 (a2 - a1)
    · refine z_aload_n (j := 0) dX6_time_8 rfl rfl ?_
      refine z_dup dX6_time_9 (zcat1 _ _) ?_
      refine z_rgetI (k := 62) hF dX6_time_10 (by decide) rfl zw838 ?_
      refine z_iconst (v := 1) dX6_time_13 (by decide) ?_
      refine z_iadd dX6_time_14 ?_
      refine z_rputI (k := 62) hF dX6_time_15 (by decide) rfl zw838 rfl rfl (fun s7 => ?_)
      exact z_vret dX6_time_18 rfl rfl rfl
def fX6_timeTold (s : Zr) (a1 : Int32) : Option (Int32) :=
  (if a1 = 0 then
    some (s 0 59)
  else
    if a1 = (1 : Int32) then
      some (s 0 60)
    else
      if a1 = (2 : Int32) then
        some (s 0 61)
      else
        some (s 0 62)).bind fun (v1 : Int32) =>
  some v1
set_option maxRecDepth 100000 in
set_option maxHeartbeats 4000000 in
theorem kX6_timeTold (G : Zg) (R : Nat) (h0 : Zh) (hF : zRF R h0) (s : Zr) (a1 : Int32) {x : Int32} (hx : fX6_timeTold s a1 = some x) : zCt G yX6_timeTold cX6_timeTold 2 (Option.some Jvm.ClassFile.FieldType.int) 1 [zrv G.2.1 (some R), .int a1] (zput R h0 s) (some (.int x)) (zput R h0 s) := by
  refine z_met (a := x) (rvf := fun (x : Int32) => some (.int x)) (hff := fun (_ : Int32) => zput R h0 s) (lv := [(0, zrv G.2.1 (some R)), (1, .int a1)]) (by decide +kernel) (by simp [lg_sl, zcat1, zcI, zcJ]) (by simp [lv_args, zcat1, zcI, zcJ]) ?_ hx
  unfold fX6_timeTold
  refine z_iload_n (j := 1) dX6_timeTold_0 rfl rfl ?_
  refine z_join (pc2 := 39) (lv2 := fun (q : Int32) => []) (st2 := fun (q : Int32) => [.int q]) (h2 := fun (q : Int32) => zput R h0 s) (fun q => ?_) (fun F2 kF2 => ?_)
  · obtain ⟨v1, e0⟩ : ∃ z, z = q := ⟨_, rfl⟩
    subst e0
    try dsimp only
    exact z_iret dX6_timeTold_39 rfl rfl rfl rfl
  · refine z_itb ?_
    refine z_if_ne (tgt := 11) dX6_timeTold_1 (by decide) (fun _ => ?_) (fun _ => ?_)
    · refine z_aload_n (j := 0) dX6_timeTold_4 rfl rfl ?_
      refine z_rgetI (k := 59) hF dX6_timeTold_5 (by decide) rfl zw835 ?_
      refine z_goto (tgt := 39) dX6_timeTold_8 (by decide) ?_
      refine z_sb ?_
      refine z_at [] rfl ?_
      exact kF2 (s 0 59)
    · refine z_iload_n (j := 1) dX6_timeTold_11 rfl rfl ?_
      refine z_iconst (v := 1) dX6_timeTold_12 (by decide) ?_
      refine z_itb ?_
      refine z_icmp_ne (tgt := 23) dX6_timeTold_13 (by decide) (fun _ => ?_) (fun _ => ?_)
      · refine z_aload_n (j := 0) dX6_timeTold_16 rfl rfl ?_
        refine z_rgetI (k := 60) hF dX6_timeTold_17 (by decide) rfl zw836 ?_
        refine z_goto (tgt := 39) dX6_timeTold_20 (by decide) ?_
        refine z_sb ?_
        refine z_at [] rfl ?_
        exact kF2 (s 0 60)
      · refine z_iload_n (j := 1) dX6_timeTold_23 rfl rfl ?_
        refine z_iconst (v := 2) dX6_timeTold_24 (by decide) ?_
        refine z_itb ?_
        refine z_icmp_ne (tgt := 35) dX6_timeTold_25 (by decide) (fun _ => ?_) (fun _ => ?_)
        · refine z_aload_n (j := 0) dX6_timeTold_28 rfl rfl ?_
          refine z_rgetI (k := 61) hF dX6_timeTold_29 (by decide) rfl zw837 ?_
          refine z_goto (tgt := 39) dX6_timeTold_32 (by decide) ?_
          refine z_sb ?_
          refine z_at [] rfl ?_
          exact kF2 (s 0 61)
        · refine z_aload_n (j := 0) dX6_timeTold_35 rfl rfl ?_
          refine z_rgetI (k := 62) hF dX6_timeTold_36 (by decide) rfl zw838 ?_
          refine z_sb ?_
          refine z_at [] rfl ?_
          exact kF2 (s 0 62)
def fX6_work (s : Zr) (a1 : Int32) (a2 : Int32) : Option (Int32 × Zr) :=
  (fX6_isName a1).bind fun x1 =>
  if x1 = 0 then
    some ((-1 : Int32), s)
  else
    (fX6_in a2.toInt64 (0 : Int64) (3 : Int64)).bind fun x2 =>
    if x2 = 0 then
      some ((-1 : Int32), s)
    else
      (fX6_clearTimes s).bind fun s3 =>
      (zloop (fun ((v4, s5) : Int32 × Zr) =>
        (if (144 : Int32) ≤ v4 then
          some (.inr s5)
        else
          (fX6_isIn s5 v4 (0 : Int32)).bind fun x9 =>
          (if x9 = 0 then
            some s5
          else
            (rdI s5 3 v4).bind fun x12 =>
            if x12 = a1 then
              (rdI s5 5 v4).bind fun x13 =>
              (rdI s5 6 v4).bind fun x14 =>
              (fX6_time s5 x13 x14).bind fun s15 =>
              some s15
            else
              some s5).bind fun (s10 : Zr) =>
          some (.inl (v4 + (1 : Int32), s10)) : Option ((Int32 × Zr) ⊕ Zr))) zFU ((0 : Int32), s3)).bind fun (s6 : Zr) =>
      (fX6_timeTold s6 a2).bind fun x16 =>
      some (x16, s6)
set_option maxRecDepth 100000 in
set_option maxHeartbeats 4000000 in
theorem kX6_work (G : Zg) (R : Nat) (h0 : Zh) (hF : zRF R h0) (s : Zr) (a1 : Int32) (a2 : Int32) {x : Int32 × Zr} (hx : fX6_work s a1 a2 = some x) : zCt G yX6_work cX6_work 4 (Option.some Jvm.ClassFile.FieldType.int) 3 [zrv G.2.1 (some R), .int a1, .int a2] (zput R h0 s) (some (.int x.1)) (zput R h0 x.2) := by
  refine z_met (a := x) (rvf := fun (x : Int32 × Zr) => some (.int x.1)) (hff := fun (x : Int32 × Zr) => zput R h0 x.2) (lv := [(0, zrv G.2.1 (some R)), (1, .int a1), (2, .int a2)]) (by decide +kernel) (by simp [lg_sl, zcat1, zcI, zcJ]) (by simp [lv_args, zcat1, zcI, zcJ]) ?_ hx
  unfold fX6_work
  refine z_iload_n (j := 1) dX6_work_0 rfl rfl ?_
  refine z_callS (As := [.int a1]) (rest := []) (rv2 := fun (x : Int32) => some (.int x)) (h2 := fun (_ : Int32) => zput R h0 s) dX6_work_1 vX6_isName (.inl zw988) (by decide) rfl rfl (by decide) (fun x hx => kX6_isName G (zput R h0 s) a1 hx) (fun x1 => ?_)
  try dsimp only [Option.toList, List.cons_append, List.nil_append]
  refine z_if_eq (tgt := 19) dX6_work_4 (by decide) (fun _ => ?_) (fun _ => ?_)
  · refine z_iconst (v := -1) dX6_work_19 (by decide) ?_
    exact z_iret dX6_work_20 rfl rfl rfl rfl
  · refine z_iload_n (j := 2) dX6_work_7 rfl rfl ?_
    refine z_i2l dX6_work_8 ?_
    refine z_lconst (v := 0) dX6_work_9 (by decide) ?_
    refine z_ldc2 (v := 3) dX6_work_10 zw1010 ?_
    refine z_callS (As := [.long a2.toInt64, .long (0 : Int64), .long (3 : Int64)]) (rest := []) (rv2 := fun (x : Int32) => some (.int x)) (h2 := fun (_ : Int32) => zput R h0 s) dX6_work_13 vX6_in (.inl zw985) (by decide) rfl rfl (by decide) (fun x hx => kX6_in G (zput R h0 s) a2.toInt64 (0 : Int64) (3 : Int64) hx) (fun x2 => ?_)
    try dsimp only [Option.toList, List.cons_append, List.nil_append]
    refine z_if_ne (tgt := 21) dX6_work_16 (by decide) (fun _ => ?_) (fun _ => ?_)
    · refine z_iconst (v := -1) dX6_work_19 (by decide) ?_
      exact z_iret dX6_work_20 rfl rfl rfl rfl
    · refine z_aload_n (j := 0) dX6_work_21 rfl rfl ?_
      refine z_callV (As := []) (rest := []) (rv2 := fun (_ : Zr) => none) (h2 := fun (x : Zr) => zput R h0 x) dX6_work_22 vX6_clearTimes (.inl zw1251) (by decide) zkl7 (zRrecv hF).1 (zRrecv hF).2 rfl rfl (by decide) (fun x hx => kX6_clearTimes G R h0 hF s hx) (fun s3 => ?_)
      try dsimp only [Option.toList, List.cons_append, List.nil_append]
      refine z_iconst (v := 0) dX6_work_25 (by decide) ?_
      refine z_istore_n (lv' := [(3, .int (0 : Int32)), (0, zrv G.2.1 (some R)), (1, .int a1), (2, .int a2)]) dX6_work_26 rfl (by decide) rfl ?_
      refine z_at [1, 2, 3, 0] rfl ?_
      refine z_join (pc2 := 75) (lv2 := fun (q : Zr) => [(0, zrv G.2.1 (some R)), (2, .int a2)]) (st2 := fun _ => []) (h2 := fun (q : Zr) => zput R h0 q) (fun q => ?_) (fun F7 kF7 => ?_)
      · obtain ⟨s6, e0⟩ : ∃ z, z = q := ⟨_, rfl⟩
        subst e0
        try dsimp only
        refine z_aload_n (j := 0) dX6_work_75 rfl rfl ?_
        refine z_iload_n (j := 1) dX6_work_76 rfl rfl ?_
        refine z_callV (As := [.int a2]) (rest := []) (rv2 := fun (x : Int32) => some (.int x)) (h2 := fun (_ : Int32) => zput R h0 s6) dX6_work_77 vX6_timeTold (.inl zw1259) (by decide) zkl7 (zRrecv hF).1 (zRrecv hF).2 rfl rfl (by decide) (fun x hx => kX6_timeTold G R h0 hF s6 a2 hx) (fun x16 => ?_)
        try dsimp only [Option.toList, List.cons_append, List.nil_append]
        exact z_iret dX6_work_80 rfl rfl rfl rfl
      · refine z_loop (lvf := fun (q : Int32 × Zr) => [(0, zrv G.2.1 (some R)), (1, .int a1), (2, .int a2), (3, .int q.1)]) (hf2 := fun (q : Int32 × Zr) => zput R h0 q.2) (s0 := ((0 : Int32), s3)) (fun K8 bK8 rK8 q => ?_)
        obtain ⟨v4, s5⟩ := q
        try dsimp only
        refine z_iload_n (j := 3) dX6_work_27 rfl rfl ?_
        refine z_sipush (v := 144) dX6_work_28 (by decide) ?_
        refine z_itb ?_
        refine z_icmp_ge (tgt := 75) dX6_work_31 (by decide) (fun _ => ?_) (fun _ => ?_)
        · refine z_sb ?_
          refine z_eq (rK8 _) ?_
          refine z_at [0, 2] rfl ?_
          exact kF7 s5
        · refine z_aload_n (j := 0) dX6_work_34 rfl rfl ?_
          refine z_iload_n (j := 3) dX6_work_35 rfl rfl ?_
          refine z_iconst (v := 0) dX6_work_36 (by decide) ?_
          refine z_as ?_
          refine z_callV (As := [.int v4, .int (0 : Int32)]) (rest := []) (rv2 := fun (x : Int32) => some (.int x)) (h2 := fun (_ : Int32) => zput R h0 s5) dX6_work_37 vX6_isIn (.inl zw1015) (by decide) zkl7 (zRrecv hF).1 (zRrecv hF).2 rfl rfl (by decide) (fun x hx => kX6_isIn G R h0 hF s5 v4 (0 : Int32) hx) (fun x9 => ?_)
          try dsimp only [Option.toList, List.cons_append, List.nil_append]
          refine z_as ?_
          refine z_join (pc2 := 69) (lv2 := fun (q : Zr) => [(0, zrv G.2.1 (some R)), (1, .int a1), (2, .int a2), (3, .int v4)]) (st2 := fun (q : Zr) => []) (h2 := fun (q : Zr) => zput R h0 q) (fun q => ?_) (fun F11 kF11 => ?_)
          · obtain ⟨s10, e0⟩ : ∃ z, z = q := ⟨_, rfl⟩
            subst e0
            try dsimp only
            refine z_iinc (j := 3) (v := v4 + (1 : Int32)) (lv' := [(3, .int (v4 + (1 : Int32))), (0, zrv G.2.1 (some R)), (1, .int a1), (2, .int a2)]) dX6_work_69 rfl rfl (by decide) rfl ?_
            refine z_goto (tgt := 27) dX6_work_72 (by decide) ?_
            refine z_sb ?_
            refine z_at [1, 2, 3, 0] rfl ?_
            exact bK8 (v4 + (1 : Int32), s10)
          · refine z_itb ?_
            refine z_if_eq (tgt := 69) dX6_work_40 (by decide) (fun _ => ?_) (fun _ => ?_)
            · refine z_sb ?_
              refine z_at [0, 1, 2, 3] rfl ?_
              exact kF11 s5
            · refine z_aload_n (j := 0) dX6_work_43 rfl rfl ?_
              refine z_rgetA (k := 3) (a := 2) hF dX6_work_44 (by decide) rfl zw779 rfl ?_
              refine z_iload_n (j := 3) dX6_work_47 rfl rfl ?_
              refine z_as ?_
              refine z_riald hF dX6_work_48 (fun x12 => ?_)
              refine z_iload_n (j := 1) dX6_work_49 rfl rfl ?_
              refine z_itb ?_
              refine z_icmp_ne (tgt := 69) dX6_work_50 (by decide) (fun _ => ?_) (fun _ => ?_)
              · refine z_aload_n (j := 0) dX6_work_53 rfl rfl ?_
                refine z_aload_n (j := 0) dX6_work_54 rfl rfl ?_
                refine z_rgetA (k := 5) (a := 4) hF dX6_work_55 (by decide) rfl zw781 rfl ?_
                refine z_iload_n (j := 3) dX6_work_58 rfl rfl ?_
                refine z_as ?_
                refine z_riald hF dX6_work_59 (fun x13 => ?_)
                refine z_aload_n (j := 0) dX6_work_60 rfl rfl ?_
                refine z_rgetA (k := 6) (a := 5) hF dX6_work_61 (by decide) rfl zw782 rfl ?_
                refine z_iload_n (j := 3) dX6_work_64 rfl rfl ?_
                refine z_as ?_
                refine z_riald hF dX6_work_65 (fun x14 => ?_)
                refine z_as ?_
                refine z_callV (As := [.int x13, .int x14]) (rest := []) (rv2 := fun (_ : Zr) => none) (h2 := fun (x : Zr) => zput R h0 x) dX6_work_66 vX6_time (.inl zw1255) (by decide) zkl7 (zRrecv hF).1 (zRrecv hF).2 rfl rfl (by decide) (fun x hx => kX6_time G R h0 hF s5 x13 x14 hx) (fun s15 => ?_)
                try dsimp only [Option.toList, List.cons_append, List.nil_append]
                refine z_sb ?_
                refine z_at [0, 1, 2, 3] rfl ?_
                exact kF11 s15
              · refine z_sb ?_
                refine z_at [0, 1, 2, 3] rfl ?_
                exact kF11 s5
def fX6_layWaits (s : Zr) (a1 : Int32) (a2 : Int32) : Option (Zr) :=
  (fX6_clearTimes s).bind fun s1 =>
  (zloop (fun ((v2, s3) : Int32 × Zr) =>
    (if (144 : Int32) ≤ v2 then
      some (.inr s3)
    else
      (fX6_isIn s3 v2 (1 : Int32)).bind fun x7 =>
      (if x7 = 0 then
        some s3
      else
        (rdI s3 3 v2).bind fun x10 =>
        if x10 = a1 then
          (rdI s3 3 (v2 - (1 : Int32))).bind fun x11 =>
          if x11 = a2 then
            (rdI s3 6 (v2 - (1 : Int32))).bind fun x12 =>
            (rdI s3 5 v2).bind fun x13 =>
            (fX6_time s3 x12 x13).bind fun s14 =>
            some s14
          else
            some s3
        else
          some s3).bind fun (s8 : Zr) =>
      some (.inl (v2 + (1 : Int32), s8)) : Option ((Int32 × Zr) ⊕ Zr))) zFU ((0 : Int32), s1)).bind fun (s4 : Zr) =>
  some s4
set_option maxRecDepth 100000 in
set_option maxHeartbeats 4000000 in
theorem kX6_layWaits (G : Zg) (R : Nat) (h0 : Zh) (hF : zRF R h0) (s : Zr) (a1 : Int32) (a2 : Int32) {x : Zr} (hx : fX6_layWaits s a1 a2 = some x) : zCt G yX6_layWaits cX6_layWaits 4 (Option.none : Option Jvm.ClassFile.FieldType) 2 [zrv G.2.1 (some R), .int a1, .int a2] (zput R h0 s) none (zput R h0 x) := by
  refine z_met (a := x) (rvf := fun (_ : Zr) => none) (hff := fun (x : Zr) => zput R h0 x) (lv := [(0, zrv G.2.1 (some R)), (1, .int a1), (2, .int a2)]) (by decide +kernel) (by simp [lg_sl, zcat1, zcI, zcJ]) (by simp [lv_args, zcat1, zcI, zcJ]) ?_ hx
  unfold fX6_layWaits
  refine z_aload_n (j := 0) dX6_layWaits_0 rfl rfl ?_
  refine z_callV (As := []) (rest := []) (rv2 := fun (_ : Zr) => none) (h2 := fun (x : Zr) => zput R h0 x) dX6_layWaits_1 vX6_clearTimes (.inl zw1251) (by decide) zkl7 (zRrecv hF).1 (zRrecv hF).2 rfl rfl (by decide) (fun x hx => kX6_clearTimes G R h0 hF s hx) (fun s1 => ?_)
  try dsimp only [Option.toList, List.cons_append, List.nil_append]
  refine z_iconst (v := 0) dX6_layWaits_4 (by decide) ?_
  refine z_istore_n (lv' := [(3, .int (0 : Int32)), (0, zrv G.2.1 (some R)), (1, .int a1), (2, .int a2)]) dX6_layWaits_5 rfl (by decide) rfl ?_
  refine z_at [1, 2, 3, 0] rfl ?_
  refine z_join (pc2 := 68) (lv2 := fun (q : Zr) => []) (st2 := fun _ => []) (h2 := fun (q : Zr) => zput R h0 q) (fun q => ?_) (fun F5 kF5 => ?_)
  · obtain ⟨s4, e0⟩ : ∃ z, z = q := ⟨_, rfl⟩
    subst e0
    try dsimp only
    exact z_vret dX6_layWaits_68 rfl rfl rfl
  · refine z_loop (lvf := fun (q : Int32 × Zr) => [(0, zrv G.2.1 (some R)), (1, .int a1), (2, .int a2), (3, .int q.1)]) (hf2 := fun (q : Int32 × Zr) => zput R h0 q.2) (s0 := ((0 : Int32), s1)) (fun K6 bK6 rK6 q => ?_)
    obtain ⟨v2, s3⟩ := q
    try dsimp only
    refine z_iload_n (j := 3) dX6_layWaits_6 rfl rfl ?_
    refine z_sipush (v := 144) dX6_layWaits_7 (by decide) ?_
    refine z_itb ?_
    refine z_icmp_ge (tgt := 68) dX6_layWaits_10 (by decide) (fun _ => ?_) (fun _ => ?_)
    · refine z_sb ?_
      refine z_eq (rK6 _) ?_
      refine z_at [] rfl ?_
      exact kF5 s3
    · refine z_aload_n (j := 0) dX6_layWaits_13 rfl rfl ?_
      refine z_iload_n (j := 3) dX6_layWaits_14 rfl rfl ?_
      refine z_iconst (v := 1) dX6_layWaits_15 (by decide) ?_
      refine z_as ?_
      refine z_callV (As := [.int v2, .int (1 : Int32)]) (rest := []) (rv2 := fun (x : Int32) => some (.int x)) (h2 := fun (_ : Int32) => zput R h0 s3) dX6_layWaits_16 vX6_isIn (.inl zw1015) (by decide) zkl7 (zRrecv hF).1 (zRrecv hF).2 rfl rfl (by decide) (fun x hx => kX6_isIn G R h0 hF s3 v2 (1 : Int32) hx) (fun x7 => ?_)
      try dsimp only [Option.toList, List.cons_append, List.nil_append]
      refine z_as ?_
      refine z_join (pc2 := 62) (lv2 := fun (q : Zr) => [(0, zrv G.2.1 (some R)), (1, .int a1), (2, .int a2), (3, .int v2)]) (st2 := fun (q : Zr) => []) (h2 := fun (q : Zr) => zput R h0 q) (fun q => ?_) (fun F9 kF9 => ?_)
      · obtain ⟨s8, e0⟩ : ∃ z, z = q := ⟨_, rfl⟩
        subst e0
        try dsimp only
        refine z_iinc (j := 3) (v := v2 + (1 : Int32)) (lv' := [(3, .int (v2 + (1 : Int32))), (0, zrv G.2.1 (some R)), (1, .int a1), (2, .int a2)]) dX6_layWaits_62 rfl rfl (by decide) rfl ?_
        refine z_goto (tgt := 6) dX6_layWaits_65 (by decide) ?_
        refine z_sb ?_
        refine z_at [1, 2, 3, 0] rfl ?_
        exact bK6 (v2 + (1 : Int32), s8)
      · refine z_itb ?_
        refine z_if_eq (tgt := 62) dX6_layWaits_19 (by decide) (fun _ => ?_) (fun _ => ?_)
        · refine z_sb ?_
          refine z_at [0, 1, 2, 3] rfl ?_
          exact kF9 s3
        · refine z_aload_n (j := 0) dX6_layWaits_22 rfl rfl ?_
          refine z_rgetA (k := 3) (a := 2) hF dX6_layWaits_23 (by decide) rfl zw779 rfl ?_
          refine z_iload_n (j := 3) dX6_layWaits_26 rfl rfl ?_
          refine z_as ?_
          refine z_riald hF dX6_layWaits_27 (fun x10 => ?_)
          refine z_iload_n (j := 1) dX6_layWaits_28 rfl rfl ?_
          refine z_itb ?_
          refine z_icmp_ne (tgt := 62) dX6_layWaits_29 (by decide) (fun _ => ?_) (fun _ => ?_)
          · refine z_aload_n (j := 0) dX6_layWaits_32 rfl rfl ?_
            refine z_rgetA (k := 3) (a := 2) hF dX6_layWaits_33 (by decide) rfl zw779 rfl ?_
            refine z_iload_n (j := 3) dX6_layWaits_36 rfl rfl ?_
            refine z_iconst (v := 1) dX6_layWaits_37 (by decide) ?_
            refine z_isub dX6_layWaits_38 ?_
            refine z_as ?_
            refine z_riald hF dX6_layWaits_39 (fun x11 => ?_)
            refine z_iload_n (j := 2) dX6_layWaits_40 rfl rfl ?_
            refine z_itb ?_
            refine z_icmp_ne (tgt := 62) dX6_layWaits_41 (by decide) (fun _ => ?_) (fun _ => ?_)
            · refine z_aload_n (j := 0) dX6_layWaits_44 rfl rfl ?_
              refine z_aload_n (j := 0) dX6_layWaits_45 rfl rfl ?_
              refine z_rgetA (k := 6) (a := 5) hF dX6_layWaits_46 (by decide) rfl zw782 rfl ?_
              refine z_iload_n (j := 3) dX6_layWaits_49 rfl rfl ?_
              refine z_iconst (v := 1) dX6_layWaits_50 (by decide) ?_
              refine z_isub dX6_layWaits_51 ?_
              refine z_as ?_
              refine z_riald hF dX6_layWaits_52 (fun x12 => ?_)
              refine z_aload_n (j := 0) dX6_layWaits_53 rfl rfl ?_
              refine z_rgetA (k := 5) (a := 4) hF dX6_layWaits_54 (by decide) rfl zw781 rfl ?_
              refine z_iload_n (j := 3) dX6_layWaits_57 rfl rfl ?_
              refine z_as ?_
              refine z_riald hF dX6_layWaits_58 (fun x13 => ?_)
              refine z_as ?_
              refine z_callV (As := [.int x12, .int x13]) (rest := []) (rv2 := fun (_ : Zr) => none) (h2 := fun (x : Zr) => zput R h0 x) dX6_layWaits_59 vX6_time (.inl zw1255) (by decide) zkl7 (zRrecv hF).1 (zRrecv hF).2 rfl rfl (by decide) (fun x hx => kX6_time G R h0 hF s3 x12 x13 hx) (fun s14 => ?_)
              try dsimp only [Option.toList, List.cons_append, List.nil_append]
              refine z_sb ?_
              refine z_at [0, 1, 2, 3] rfl ?_
              exact kF9 s14
            · refine z_sb ?_
              refine z_at [0, 1, 2, 3] rfl ?_
              exact kF9 s3
          · refine z_sb ?_
            refine z_at [0, 1, 2, 3] rfl ?_
            exact kF9 s3
def fX6_lag (s : Zr) (a1 : Int32) (a2 : Int32) (a3 : Int32) : Option (Int32 × Zr) :=
  (fX6_isName a1).bind fun x1 =>
  if x1 = 0 then
    some ((-1 : Int32), s)
  else
    (fX6_isName a2).bind fun x2 =>
    if x2 = 0 then
      some ((-1 : Int32), s)
    else
      (fX6_in a3.toInt64 (0 : Int64) (3 : Int64)).bind fun x3 =>
      if x3 = 0 then
        some ((-1 : Int32), s)
      else
        (fX6_layWaits s a1 a2).bind fun s4 =>
        (fX6_timeTold s4 a3).bind fun x5 =>
        some (x5, s4)
set_option maxRecDepth 100000 in
set_option maxHeartbeats 4000000 in
theorem kX6_lag (G : Zg) (R : Nat) (h0 : Zh) (hF : zRF R h0) (s : Zr) (a1 : Int32) (a2 : Int32) (a3 : Int32) {x : Int32 × Zr} (hx : fX6_lag s a1 a2 a3 = some x) : zCt G yX6_lag cX6_lag 4 (Option.some Jvm.ClassFile.FieldType.int) 3 [zrv G.2.1 (some R), .int a1, .int a2, .int a3] (zput R h0 s) (some (.int x.1)) (zput R h0 x.2) := by
  refine z_met (a := x) (rvf := fun (x : Int32 × Zr) => some (.int x.1)) (hff := fun (x : Int32 × Zr) => zput R h0 x.2) (lv := [(0, zrv G.2.1 (some R)), (1, .int a1), (2, .int a2), (3, .int a3)]) (by decide +kernel) (by simp [lg_sl, zcat1, zcI, zcJ]) (by simp [lv_args, zcat1, zcI, zcJ]) ?_ hx
  unfold fX6_lag
  refine z_iload_n (j := 1) dX6_lag_0 rfl rfl ?_
  refine z_callS (As := [.int a1]) (rest := []) (rv2 := fun (x : Int32) => some (.int x)) (h2 := fun (_ : Int32) => zput R h0 s) dX6_lag_1 vX6_isName (.inl zw988) (by decide) rfl rfl (by decide) (fun x hx => kX6_isName G (zput R h0 s) a1 hx) (fun x1 => ?_)
  try dsimp only [Option.toList, List.cons_append, List.nil_append]
  refine z_if_eq (tgt := 26) dX6_lag_4 (by decide) (fun _ => ?_) (fun _ => ?_)
  · refine z_iconst (v := -1) dX6_lag_26 (by decide) ?_
    exact z_iret dX6_lag_27 rfl rfl rfl rfl
  · refine z_iload_n (j := 2) dX6_lag_7 rfl rfl ?_
    refine z_callS (As := [.int a2]) (rest := []) (rv2 := fun (x : Int32) => some (.int x)) (h2 := fun (_ : Int32) => zput R h0 s) dX6_lag_8 vX6_isName (.inl zw988) (by decide) rfl rfl (by decide) (fun x hx => kX6_isName G (zput R h0 s) a2 hx) (fun x2 => ?_)
    try dsimp only [Option.toList, List.cons_append, List.nil_append]
    refine z_if_eq (tgt := 26) dX6_lag_11 (by decide) (fun _ => ?_) (fun _ => ?_)
    · refine z_iconst (v := -1) dX6_lag_26 (by decide) ?_
      exact z_iret dX6_lag_27 rfl rfl rfl rfl
    · refine z_iload_n (j := 3) dX6_lag_14 rfl rfl ?_
      refine z_i2l dX6_lag_15 ?_
      refine z_lconst (v := 0) dX6_lag_16 (by decide) ?_
      refine z_ldc2 (v := 3) dX6_lag_17 zw1010 ?_
      refine z_callS (As := [.long a3.toInt64, .long (0 : Int64), .long (3 : Int64)]) (rest := []) (rv2 := fun (x : Int32) => some (.int x)) (h2 := fun (_ : Int32) => zput R h0 s) dX6_lag_20 vX6_in (.inl zw985) (by decide) rfl rfl (by decide) (fun x hx => kX6_in G (zput R h0 s) a3.toInt64 (0 : Int64) (3 : Int64) hx) (fun x3 => ?_)
      try dsimp only [Option.toList, List.cons_append, List.nil_append]
      refine z_if_ne (tgt := 28) dX6_lag_23 (by decide) (fun _ => ?_) (fun _ => ?_)
      · refine z_iconst (v := -1) dX6_lag_26 (by decide) ?_
        exact z_iret dX6_lag_27 rfl rfl rfl rfl
      · refine z_aload_n (j := 0) dX6_lag_28 rfl rfl ?_
        refine z_iload_n (j := 1) dX6_lag_29 rfl rfl ?_
        refine z_iload_n (j := 2) dX6_lag_30 rfl rfl ?_
        refine z_callV (As := [.int a1, .int a2]) (rest := []) (rv2 := fun (_ : Zr) => none) (h2 := fun (x : Zr) => zput R h0 x) dX6_lag_31 vX6_layWaits (.inl zw1267) (by decide) zkl7 (zRrecv hF).1 (zRrecv hF).2 rfl rfl (by decide) (fun x hx => kX6_layWaits G R h0 hF s a1 a2 hx) (fun s4 => ?_)
        try dsimp only [Option.toList, List.cons_append, List.nil_append]
        refine z_aload_n (j := 0) dX6_lag_34 rfl rfl ?_
        refine z_iload_n (j := 3) dX6_lag_35 rfl rfl ?_
        refine z_callV (As := [.int a3]) (rest := []) (rv2 := fun (x : Int32) => some (.int x)) (h2 := fun (_ : Int32) => zput R h0 s4) dX6_lag_36 vX6_timeTold (.inl zw1259) (by decide) zkl7 (zRrecv hF).1 (zRrecv hF).2 rfl rfl (by decide) (fun x hx => kX6_timeTold G R h0 hF s4 a3 hx) (fun x5 => ?_)
        try dsimp only [Option.toList, List.cons_append, List.nil_append]
        exact z_iret dX6_lag_39 rfl rfl rfl rfl
def fX6_slow (s : Zr) (a1 : Int32) : Option (Int32 × Zr) :=
  if 0 ≤ a1 then
    (zloop (fun ((v1, s2) : Int32 × Zr) =>
      (if (144 : Int32) ≤ v1 then
        some (.inr s2)
      else
        (zdiv v1 (12 : Int32)).bind fun x6 =>
        (zrem v1 (12 : Int32)).bind fun x7 =>
        (fX6_layWaits s2 x6 x7).bind fun s8 =>
        (if (s8 0 60) ≤ 0 then
          some (0 : Int32)
        else
          some (1 : Int32)).bind fun (v9 : Int32) =>
        (wrZ s8 48 v1 v9).bind fun s11 =>
        (wrI s11 47 v1 (s11 0 59)).bind fun s12 =>
        some (.inl (v1 + (1 : Int32), s12)) : Option ((Int32 × Zr) ⊕ Zr))) zFU ((0 : Int32), s)).bind fun (s3 : Zr) =>
    (zloop (fun ((v13, v14, s15) : Int32 × Int32 × Zr) =>
      (if a1 < v14 then
        some (.inr (.inl (v13, s15)))
      else
        if (144 : Int32) < v14 then
          some (.inr (.inl (v13, s15)))
        else
          (zloop (fun ((v20, v21) : Int32 × Int32) =>
            (if (144 : Int32) ≤ v21 then
              some (.inr v20)
            else
              (rdZ s15 48 v21).bind fun x25 =>
              (if x25 = 0 then
                some v20
              else
                if v20 = (-3 : Int32) then
                  some v21
                else
                  (rdI s15 47 v21).bind fun x28 =>
                  (rdI s15 47 v20).bind fun x29 =>
                  if x28 ≤ x29 then
                    some v20
                  else
                    some v21).bind fun (v26 : Int32) =>
              some (.inl (v26, v21 + (1 : Int32))) : Option ((Int32 × Int32) ⊕ Int32))) zFU ((-3 : Int32), (0 : Int32))).bind fun (w22 : Int32) =>
          if w22 = (-3 : Int32) then
            some (.inr (.inr ((-3 : Int32), s15)))
          else
            (wrZ s15 48 w22 (0 : Int32)).bind fun s30 =>
            some (.inl (w22, v14 + (1 : Int32), s30)) : Option ((Int32 × Int32 × Zr) ⊕ ((Int32 × Zr) ⊕ (Int32 × Zr))))) zFU ((-3 : Int32), (0 : Int32), s3)).bind fun (q : ((Int32 × Zr) ⊕ (Int32 × Zr))) => match q with
    | .inr t => some t
    | .inl (w16, s17) =>
      some (w16, s17)
  else
    some ((-1 : Int32), s)
set_option maxRecDepth 100000 in
set_option maxHeartbeats 4000000 in
theorem kX6_slow (G : Zg) (R : Nat) (h0 : Zh) (hF : zRF R h0) (s : Zr) (a1 : Int32) {x : Int32 × Zr} (hx : fX6_slow s a1 = some x) : zCt G yX6_slow cX6_slow 5 (Option.some Jvm.ClassFile.FieldType.int) 3 [zrv G.2.1 (some R), .int a1] (zput R h0 s) (some (.int x.1)) (zput R h0 x.2) := by
  refine z_met (a := x) (rvf := fun (x : Int32 × Zr) => some (.int x.1)) (hff := fun (x : Int32 × Zr) => zput R h0 x.2) (lv := [(0, zrv G.2.1 (some R)), (1, .int a1)]) (by decide +kernel) (by simp [lg_sl, zcat1, zcI, zcJ]) (by simp [lv_args, zcat1, zcI, zcJ]) ?_ hx
  unfold fX6_slow
  refine z_iload_n (j := 1) dX6_slow_0 rfl rfl ?_
  refine z_if_ge (tgt := 6) dX6_slow_1 (by decide) (fun _ => ?_) (fun _ => ?_)
  · refine z_iconst (v := 0) dX6_slow_6 (by decide) ?_
    refine z_istore_n (lv' := [(2, .int (0 : Int32)), (0, zrv G.2.1 (some R)), (1, .int a1)]) dX6_slow_7 rfl (by decide) rfl ?_
    refine z_at [1, 2, 0] rfl ?_
    refine z_join (pc2 := 61) (lv2 := fun (q : Zr) => [(0, zrv G.2.1 (some R)), (1, .int a1)]) (st2 := fun _ => []) (h2 := fun (q : Zr) => zput R h0 q) (fun q => ?_) (fun F4 kF4 => ?_)
    · obtain ⟨s3, e0⟩ : ∃ z, z = q := ⟨_, rfl⟩
      subst e0
      try dsimp only
      refine z_bipush (v := -3) dX6_slow_61 (by decide) ?_
      refine z_istore_n (lv' := [(2, .int (-3 : Int32)), (0, zrv G.2.1 (some R)), (1, .int a1)]) dX6_slow_63 rfl (by decide) rfl ?_
      refine z_iconst (v := 0) dX6_slow_64 (by decide) ?_
      refine z_istore_n (lv' := [(3, .int (0 : Int32)), (2, .int (-3 : Int32)), (0, zrv G.2.1 (some R)), (1, .int a1)]) dX6_slow_65 rfl (by decide) rfl ?_
      refine z_at [2, 3, 1, 0] rfl ?_
      refine z_joinS (pc2 := 155) (lv2 := fun (q : Int32 × Zr) => [(2, .int q.1)]) (st2 := fun _ => []) (h2 := fun (q : Int32 × Zr) => zput R h0 q.2) (fun q => ?_) (fun _ => rfl) (fun F18 kF18 tF18 => ?_)
      · obtain ⟨w16, s17⟩ := q
        try dsimp only
        refine z_iload_n (j := 0) dX6_slow_155 rfl rfl ?_
        exact z_iret dX6_slow_156 rfl rfl rfl rfl
      · refine z_loop (lvf := fun (q : Int32 × Int32 × Zr) => [(0, zrv G.2.1 (some R)), (1, .int a1), (2, .int q.1), (3, .int q.2.1)]) (hf2 := fun (q : Int32 × Int32 × Zr) => zput R h0 q.2.2) (s0 := ((-3 : Int32), (0 : Int32), s3)) (fun K19 bK19 rK19 q => ?_)
        obtain ⟨v13, v14, s15⟩ := q
        try dsimp only
        refine z_iload_n (j := 3) dX6_slow_66 rfl rfl ?_
        refine z_iload_n (j := 1) dX6_slow_67 rfl rfl ?_
        refine z_itb ?_
        refine z_icmp_gt (tgt := 155) dX6_slow_68 (by decide) (fun _ => ?_) (fun _ => ?_)
        · refine z_sb ?_
          refine z_eq (rK19 _) ?_
          refine z_at [2] rfl ?_
          exact kF18 (v13, s15)
        · refine z_iload_n (j := 3) dX6_slow_71 rfl rfl ?_
          refine z_sipush (v := 144) dX6_slow_72 (by decide) ?_
          refine z_itb ?_
          refine z_icmp_gt (tgt := 155) dX6_slow_75 (by decide) (fun _ => ?_) (fun _ => ?_)
          · refine z_sb ?_
            refine z_eq (rK19 _) ?_
            refine z_at [2] rfl ?_
            exact kF18 (v13, s15)
          · refine z_bipush (v := -3) dX6_slow_78 (by decide) ?_
            refine z_istore_n (lv' := [(2, .int (-3 : Int32)), (0, zrv G.2.1 (some R)), (1, .int a1), (3, .int v14)]) dX6_slow_80 rfl (by decide) rfl ?_
            refine z_iconst (v := 0) dX6_slow_81 (by decide) ?_
            refine z_istore (lv' := [(4, .int (0 : Int32)), (2, .int (-3 : Int32)), (0, zrv G.2.1 (some R)), (1, .int a1), (3, .int v14)]) dX6_slow_82 (by decide) rfl ?_
            refine z_as ?_
            refine z_at [2, 3, 1, 4, 0] rfl ?_
            refine z_join (pc2 := 133) (lv2 := fun (q : Int32) => [(0, zrv G.2.1 (some R)), (1, .int a1), (2, .int q), (3, .int v14)]) (st2 := fun _ => []) (h2 := fun (q : Int32) => zput R h0 s15) (fun q => ?_) (fun F23 kF23 => ?_)
            · obtain ⟨w22, e0⟩ : ∃ z, z = q := ⟨_, rfl⟩
              subst e0
              try dsimp only
              refine z_iload_n (j := 2) dX6_slow_133 rfl rfl ?_
              refine z_bipush (v := -3) dX6_slow_134 (by decide) ?_
              refine z_itb ?_
              refine z_icmp_ne (tgt := 142) dX6_slow_136 (by decide) (fun _ => ?_) (fun _ => ?_)
              · refine z_bipush (v := -3) dX6_slow_139 (by decide) ?_
                refine z_sb ?_
                refine z_eq (rK19 _) ?_
                refine z_eq (tF18 _) ?_
                exact z_iret dX6_slow_141 rfl rfl rfl rfl
              · refine z_aload_n (j := 0) dX6_slow_142 rfl rfl ?_
                refine z_rgetA (k := 64) (a := 47) hF dX6_slow_143 (by decide) rfl zw840 rfl ?_
                refine z_iload_n (j := 2) dX6_slow_146 rfl rfl ?_
                refine z_iconst (v := 0) dX6_slow_147 (by decide) ?_
                refine z_as ?_
                refine z_rzast hF dX6_slow_148 (fun s30 => ?_)
                refine z_iinc (j := 3) (v := v14 + (1 : Int32)) (lv' := [(3, .int (v14 + (1 : Int32))), (0, zrv G.2.1 (some R)), (1, .int a1), (2, .int w22)]) dX6_slow_149 rfl rfl (by decide) rfl ?_
                refine z_goto (tgt := 66) dX6_slow_152 (by decide) ?_
                refine z_sb ?_
                refine z_at [1, 2, 3, 0] rfl ?_
                exact bK19 (w22, v14 + (1 : Int32), s30)
            · refine z_loop (lvf := fun (q : Int32 × Int32) => [(0, zrv G.2.1 (some R)), (1, .int a1), (2, .int q.1), (3, .int v14), (4, .int q.2)]) (hf2 := fun (q : Int32 × Int32) => zput R h0 s15) (s0 := ((-3 : Int32), (0 : Int32))) (fun K24 bK24 rK24 q => ?_)
              obtain ⟨v20, v21⟩ := q
              try dsimp only
              refine z_iload (j := 4) dX6_slow_84 rfl ?_
              refine z_sipush (v := 144) dX6_slow_86 (by decide) ?_
              refine z_itb ?_
              refine z_icmp_ge (tgt := 133) dX6_slow_89 (by decide) (fun _ => ?_) (fun _ => ?_)
              · refine z_sb ?_
                refine z_eq (rK24 _) ?_
                refine z_at [0, 1, 2, 3] rfl ?_
                exact kF23 v20
              · refine z_aload_n (j := 0) dX6_slow_92 rfl rfl ?_
                refine z_rgetA (k := 64) (a := 47) hF dX6_slow_93 (by decide) rfl zw840 rfl ?_
                refine z_iload (j := 4) dX6_slow_96 rfl ?_
                refine z_as ?_
                refine z_rzald hF dX6_slow_98 (fun x25 => ?_)
                refine z_as ?_
                refine z_join (pc2 := 127) (lv2 := fun (q : Int32) => [(0, zrv G.2.1 (some R)), (1, .int a1), (2, .int q), (3, .int v14), (4, .int v21)]) (st2 := fun (q : Int32) => []) (h2 := fun (q : Int32) => zput R h0 s15) (fun q => ?_) (fun F27 kF27 => ?_)
                · obtain ⟨v26, e0⟩ : ∃ z, z = q := ⟨_, rfl⟩
                  subst e0
                  try dsimp only
                  refine z_iinc (j := 4) (v := v21 + (1 : Int32)) (lv' := [(4, .int (v21 + (1 : Int32))), (0, zrv G.2.1 (some R)), (1, .int a1), (2, .int v26), (3, .int v14)]) dX6_slow_127 rfl rfl (by decide) rfl ?_
                  refine z_goto (tgt := 84) dX6_slow_130 (by decide) ?_
                  refine z_sb ?_
                  refine z_at [1, 2, 3, 4, 0] rfl ?_
                  exact bK24 (v26, v21 + (1 : Int32))
                · refine z_itb ?_
                  refine z_if_eq (tgt := 127) dX6_slow_99 (by decide) (fun _ => ?_) (fun _ => ?_)
                  · refine z_sb ?_
                    refine z_at [0, 1, 2, 3, 4] rfl ?_
                    exact kF27 v20
                  · refine z_iload_n (j := 2) dX6_slow_102 rfl rfl ?_
                    refine z_bipush (v := -3) dX6_slow_103 (by decide) ?_
                    refine z_itb ?_
                    refine z_icmp_eq (tgt := 124) dX6_slow_105 (by decide) (fun _ => ?_) (fun _ => ?_)
                    · refine z_iload (j := 4) dX6_slow_124 rfl ?_
                      refine z_istore_n (lv' := [(2, .int v21), (0, zrv G.2.1 (some R)), (1, .int a1), (3, .int v14), (4, .int v21)]) dX6_slow_126 rfl (by decide) rfl ?_
                      refine z_sb ?_
                      refine z_at [1, 2, 0, 3, 4] rfl ?_
                      exact kF27 v21
                    · refine z_aload_n (j := 0) dX6_slow_108 rfl rfl ?_
                      refine z_rgetA (k := 63) (a := 46) hF dX6_slow_109 (by decide) rfl zw839 rfl ?_
                      refine z_iload (j := 4) dX6_slow_112 rfl ?_
                      refine z_as ?_
                      refine z_riald hF dX6_slow_114 (fun x28 => ?_)
                      refine z_aload_n (j := 0) dX6_slow_115 rfl rfl ?_
                      refine z_rgetA (k := 63) (a := 46) hF dX6_slow_116 (by decide) rfl zw839 rfl ?_
                      refine z_iload_n (j := 2) dX6_slow_119 rfl rfl ?_
                      refine z_as ?_
                      refine z_riald hF dX6_slow_120 (fun x29 => ?_)
                      refine z_itb ?_
                      refine z_icmp_le (tgt := 127) dX6_slow_121 (by decide) (fun _ => ?_) (fun _ => ?_)
                      · refine z_sb ?_
                        refine z_at [0, 1, 2, 3, 4] rfl ?_
                        exact kF27 v20
                      · refine z_iload (j := 4) dX6_slow_124 rfl ?_
                        refine z_istore_n (lv' := [(2, .int v21), (0, zrv G.2.1 (some R)), (1, .int a1), (3, .int v14), (4, .int v21)]) dX6_slow_126 rfl (by decide) rfl ?_
                        refine z_sb ?_
                        refine z_at [1, 2, 0, 3, 4] rfl ?_
                        exact kF27 v21
    · refine z_loop (lvf := fun (q : Int32 × Zr) => [(0, zrv G.2.1 (some R)), (1, .int a1), (2, .int q.1)]) (hf2 := fun (q : Int32 × Zr) => zput R h0 q.2) (s0 := ((0 : Int32), s)) (fun K5 bK5 rK5 q => ?_)
      obtain ⟨v1, s2⟩ := q
      try dsimp only
      refine z_iload_n (j := 2) dX6_slow_8 rfl rfl ?_
      refine z_sipush (v := 144) dX6_slow_9 (by decide) ?_
      refine z_itb ?_
      refine z_icmp_ge (tgt := 61) dX6_slow_12 (by decide) (fun _ => ?_) (fun _ => ?_)
      · refine z_sb ?_
        refine z_eq (rK5 _) ?_
        refine z_at [0, 1] rfl ?_
        exact kF4 s2
      · refine z_aload_n (j := 0) dX6_slow_15 rfl rfl ?_
        refine z_iload_n (j := 2) dX6_slow_16 rfl rfl ?_
        refine z_bipush (v := 12) dX6_slow_17 (by decide) ?_
        refine z_as ?_
        refine z_idiv dX6_slow_19 (fun x6 => ?_)
        refine z_iload_n (j := 2) dX6_slow_20 rfl rfl ?_
        refine z_bipush (v := 12) dX6_slow_21 (by decide) ?_
        refine z_as ?_
        refine z_irem dX6_slow_23 (fun x7 => ?_)
        refine z_as ?_
        refine z_callV (As := [.int x6, .int x7]) (rest := []) (rv2 := fun (_ : Zr) => none) (h2 := fun (x : Zr) => zput R h0 x) dX6_slow_24 vX6_layWaits (.inl zw1267) (by decide) zkl7 (zRrecv hF).1 (zRrecv hF).2 rfl rfl (by decide) (fun x hx => kX6_layWaits G R h0 hF s2 x6 x7 hx) (fun s8 => ?_)
        try dsimp only [Option.toList, List.cons_append, List.nil_append]
        refine z_aload_n (j := 0) dX6_slow_27 rfl rfl ?_
        refine z_rgetA (k := 64) (a := 47) hF dX6_slow_28 (by decide) rfl zw840 rfl ?_
        refine z_iload_n (j := 2) dX6_slow_31 rfl rfl ?_
        refine z_aload_n (j := 0) dX6_slow_32 rfl rfl ?_
        refine z_rgetI (k := 60) hF dX6_slow_33 (by decide) rfl zw836 ?_
        refine z_as ?_
        refine z_join (pc2 := 44) (lv2 := fun (q : Int32) => [(0, zrv G.2.1 (some R)), (1, .int a1), (2, .int v1)]) (st2 := fun (q : Int32) => [.int q, .int v1, zrv G.2.1 (some (R + 48))]) (h2 := fun (q : Int32) => zput R h0 s8) (fun q => ?_) (fun F10 kF10 => ?_)
        · obtain ⟨v9, e0⟩ : ∃ z, z = q := ⟨_, rfl⟩
          subst e0
          try dsimp only
          refine z_as ?_
          refine z_rzast hF dX6_slow_44 (fun s11 => ?_)
          refine z_aload_n (j := 0) dX6_slow_45 rfl rfl ?_
          refine z_rgetA (k := 63) (a := 46) hF dX6_slow_46 (by decide) rfl zw839 rfl ?_
          refine z_iload_n (j := 2) dX6_slow_49 rfl rfl ?_
          refine z_aload_n (j := 0) dX6_slow_50 rfl rfl ?_
          refine z_rgetI (k := 59) hF dX6_slow_51 (by decide) rfl zw835 ?_
          refine z_as ?_
          refine z_riast hF dX6_slow_54 (fun s12 => ?_)
          refine z_iinc (j := 2) (v := v1 + (1 : Int32)) (lv' := [(2, .int (v1 + (1 : Int32))), (0, zrv G.2.1 (some R)), (1, .int a1)]) dX6_slow_55 rfl rfl (by decide) rfl ?_
          refine z_goto (tgt := 8) dX6_slow_58 (by decide) ?_
          refine z_sb ?_
          refine z_at [1, 2, 0] rfl ?_
          exact bK5 (v1 + (1 : Int32), s12)
        · refine z_itb ?_
          refine z_if_le (tgt := 43) dX6_slow_36 (by decide) (fun _ => ?_) (fun _ => ?_)
          · refine z_iconst (v := 0) dX6_slow_43 (by decide) ?_
            refine z_sb ?_
            refine z_at [0, 1, 2] rfl ?_
            exact kF10 (0 : Int32)
          · refine z_iconst (v := 1) dX6_slow_39 (by decide) ?_
            refine z_goto (tgt := 44) dX6_slow_40 (by decide) ?_
            refine z_sb ?_
            refine z_at [0, 1, 2] rfl ?_
            exact kF10 (1 : Int32)
  · refine z_iconst (v := -1) dX6_slow_4 (by decide) ?_
    exact z_iret dX6_slow_5 rfl rfl rfl rfl
def fX6_passes (s : Zr) (a1 : Int32) (a2 : Int32) : Option (Int32) :=
  (fX6_in a1.toInt64 (0 : Int64) (7 : Int64)).bind fun x1 =>
  if x1 = 0 then
    some (-1 : Int32)
  else
    (fX6_in a2.toInt64 (0 : Int64) (7 : Int64)).bind fun x2 =>
    if x2 = 0 then
      some (-1 : Int32)
    else
      (zloop (fun ((v3, v4) : Int32 × Int32) =>
        (if (144 : Int32) ≤ v4 then
          some (.inr v3)
        else
          (fX6_isIn s v4 (1 : Int32)).bind fun x8 =>
          (if x8 = 0 then
            some (0 : Int32)
          else
            (rdI s 4 v4).bind fun x11 =>
            if x11 = a2 then
              (rdI s 4 (v4 - (1 : Int32))).bind fun x12 =>
              if x12 = a1 then
                some (1 : Int32)
              else
                some (0 : Int32)
            else
              some (0 : Int32)).bind fun (v9 : Int32) =>
          some (.inl (v3 + v9, v4 + (1 : Int32))) : Option ((Int32 × Int32) ⊕ Int32))) zFU ((0 : Int32), (0 : Int32))).bind fun (w5 : Int32) =>
      some w5
set_option maxRecDepth 100000 in
set_option maxHeartbeats 4000000 in
theorem kX6_passes (G : Zg) (R : Nat) (h0 : Zh) (hF : zRF R h0) (s : Zr) (a1 : Int32) (a2 : Int32) {x : Int32} (hx : fX6_passes s a1 a2 = some x) : zCt G yX6_passes cX6_passes 5 (Option.some Jvm.ClassFile.FieldType.int) 2 [zrv G.2.1 (some R), .int a1, .int a2] (zput R h0 s) (some (.int x)) (zput R h0 s) := by
  refine z_met (a := x) (rvf := fun (x : Int32) => some (.int x)) (hff := fun (_ : Int32) => zput R h0 s) (lv := [(0, zrv G.2.1 (some R)), (1, .int a1), (2, .int a2)]) (by decide +kernel) (by simp [lg_sl, zcat1, zcI, zcJ]) (by simp [lv_args, zcat1, zcI, zcJ]) ?_ hx
  unfold fX6_passes
  refine z_iload_n (j := 1) dX6_passes_0 rfl rfl ?_
  refine z_i2l dX6_passes_1 ?_
  refine z_lconst (v := 0) dX6_passes_2 (by decide) ?_
  refine z_ldc2 (v := 7) dX6_passes_3 zw992 ?_
  refine z_callS (As := [.long a1.toInt64, .long (0 : Int64), .long (7 : Int64)]) (rest := []) (rv2 := fun (x : Int32) => some (.int x)) (h2 := fun (_ : Int32) => zput R h0 s) dX6_passes_6 vX6_in (.inl zw985) (by decide) rfl rfl (by decide) (fun x hx => kX6_in G (zput R h0 s) a1.toInt64 (0 : Int64) (7 : Int64) hx) (fun x1 => ?_)
  try dsimp only [Option.toList, List.cons_append, List.nil_append]
  refine z_if_eq (tgt := 24) dX6_passes_9 (by decide) (fun _ => ?_) (fun _ => ?_)
  · refine z_iconst (v := -1) dX6_passes_24 (by decide) ?_
    exact z_iret dX6_passes_25 rfl rfl rfl rfl
  · refine z_iload_n (j := 2) dX6_passes_12 rfl rfl ?_
    refine z_i2l dX6_passes_13 ?_
    refine z_lconst (v := 0) dX6_passes_14 (by decide) ?_
    refine z_ldc2 (v := 7) dX6_passes_15 zw992 ?_
    refine z_callS (As := [.long a2.toInt64, .long (0 : Int64), .long (7 : Int64)]) (rest := []) (rv2 := fun (x : Int32) => some (.int x)) (h2 := fun (_ : Int32) => zput R h0 s) dX6_passes_18 vX6_in (.inl zw985) (by decide) rfl rfl (by decide) (fun x hx => kX6_in G (zput R h0 s) a2.toInt64 (0 : Int64) (7 : Int64) hx) (fun x2 => ?_)
    try dsimp only [Option.toList, List.cons_append, List.nil_append]
    refine z_if_ne (tgt := 26) dX6_passes_21 (by decide) (fun _ => ?_) (fun _ => ?_)
    · refine z_iconst (v := -1) dX6_passes_24 (by decide) ?_
      exact z_iret dX6_passes_25 rfl rfl rfl rfl
    · refine z_iconst (v := 0) dX6_passes_26 (by decide) ?_
      refine z_istore_n (lv' := [(3, .int (0 : Int32)), (0, zrv G.2.1 (some R)), (1, .int a1), (2, .int a2)]) dX6_passes_27 rfl (by decide) rfl ?_
      refine z_iconst (v := 0) dX6_passes_28 (by decide) ?_
      refine z_istore (lv' := [(4, .int (0 : Int32)), (3, .int (0 : Int32)), (0, zrv G.2.1 (some R)), (1, .int a1), (2, .int a2)]) dX6_passes_29 (by decide) rfl ?_
      refine z_at [2, 3, 4, 1, 0] rfl ?_
      refine z_join (pc2 := 87) (lv2 := fun (q : Int32) => [(3, .int q)]) (st2 := fun _ => []) (h2 := fun (q : Int32) => zput R h0 s) (fun q => ?_) (fun F6 kF6 => ?_)
      · obtain ⟨w5, e0⟩ : ∃ z, z = q := ⟨_, rfl⟩
        subst e0
        try dsimp only
        refine z_iload_n (j := 0) dX6_passes_87 rfl rfl ?_
        exact z_iret dX6_passes_88 rfl rfl rfl rfl
      · refine z_loop (lvf := fun (q : Int32 × Int32) => [(0, zrv G.2.1 (some R)), (1, .int a1), (2, .int a2), (3, .int q.1), (4, .int q.2)]) (hf2 := fun (q : Int32 × Int32) => zput R h0 s) (s0 := ((0 : Int32), (0 : Int32))) (fun K7 bK7 rK7 q => ?_)
        obtain ⟨v3, v4⟩ := q
        try dsimp only
        refine z_iload (j := 4) dX6_passes_31 rfl ?_
        refine z_sipush (v := 144) dX6_passes_33 (by decide) ?_
        refine z_itb ?_
        refine z_icmp_ge (tgt := 87) dX6_passes_36 (by decide) (fun _ => ?_) (fun _ => ?_)
        · refine z_sb ?_
          refine z_eq (rK7 _) ?_
          refine z_at [3] rfl ?_
          exact kF6 v3
        · refine z_iload_n (j := 3) dX6_passes_39 rfl rfl ?_
          refine z_aload_n (j := 0) dX6_passes_40 rfl rfl ?_
          refine z_iload (j := 4) dX6_passes_41 rfl ?_
          refine z_iconst (v := 1) dX6_passes_43 (by decide) ?_
          refine z_as ?_
          refine z_callV (As := [.int v4, .int (1 : Int32)]) (rest := [.int v3]) (rv2 := fun (x : Int32) => some (.int x)) (h2 := fun (_ : Int32) => zput R h0 s) dX6_passes_44 vX6_isIn (.inl zw1015) (by decide) zkl7 (zRrecv hF).1 (zRrecv hF).2 rfl rfl (by simp [zcat1, zcI, zcJ]) (fun x hx => kX6_isIn G R h0 hF s v4 (1 : Int32) hx) (fun x8 => ?_)
          try dsimp only [Option.toList, List.cons_append, List.nil_append]
          refine z_as ?_
          refine z_join (pc2 := 79) (lv2 := fun (q : Int32) => [(0, zrv G.2.1 (some R)), (1, .int a1), (2, .int a2), (4, .int v4)]) (st2 := fun (q : Int32) => [.int q, .int v3]) (h2 := fun (q : Int32) => zput R h0 s) (fun q => ?_) (fun F10 kF10 => ?_)
          · obtain ⟨v9, e0⟩ : ∃ z, z = q := ⟨_, rfl⟩
            subst e0
            try dsimp only
            refine z_iadd dX6_passes_79 ?_
            refine z_istore_n (lv' := [(3, .int (v3 + v9)), (0, zrv G.2.1 (some R)), (1, .int a1), (2, .int a2), (4, .int v4)]) dX6_passes_80 rfl (by decide) rfl ?_
            refine z_iinc (j := 4) (v := v4 + (1 : Int32)) (lv' := [(4, .int (v4 + (1 : Int32))), (3, .int (v3 + v9)), (0, zrv G.2.1 (some R)), (1, .int a1), (2, .int a2)]) dX6_passes_81 rfl rfl (by decide) rfl ?_
            refine z_goto (tgt := 31) dX6_passes_84 (by decide) ?_
            refine z_sb ?_
            refine z_at [2, 3, 4, 1, 0] rfl ?_
            exact bK7 (v3 + v9, v4 + (1 : Int32))
          · refine z_itb ?_
            refine z_if_eq (tgt := 78) dX6_passes_47 (by decide) (fun _ => ?_) (fun _ => ?_)
            · refine z_iconst (v := 0) dX6_passes_78 (by decide) ?_
              refine z_sb ?_
              refine z_at [0, 1, 2, 4] rfl ?_
              exact kF10 (0 : Int32)
            · refine z_aload_n (j := 0) dX6_passes_50 rfl rfl ?_
              refine z_rgetA (k := 4) (a := 3) hF dX6_passes_51 (by decide) rfl zw780 rfl ?_
              refine z_iload (j := 4) dX6_passes_54 rfl ?_
              refine z_as ?_
              refine z_riald hF dX6_passes_56 (fun x11 => ?_)
              refine z_iload_n (j := 2) dX6_passes_57 rfl rfl ?_
              refine z_itb ?_
              refine z_icmp_ne (tgt := 78) dX6_passes_58 (by decide) (fun _ => ?_) (fun _ => ?_)
              · refine z_aload_n (j := 0) dX6_passes_61 rfl rfl ?_
                refine z_rgetA (k := 4) (a := 3) hF dX6_passes_62 (by decide) rfl zw780 rfl ?_
                refine z_iload (j := 4) dX6_passes_65 rfl ?_
                refine z_iconst (v := 1) dX6_passes_67 (by decide) ?_
                refine z_isub dX6_passes_68 ?_
                refine z_as ?_
                refine z_riald hF dX6_passes_69 (fun x12 => ?_)
                refine z_iload_n (j := 1) dX6_passes_70 rfl rfl ?_
                refine z_itb ?_
                refine z_icmp_ne (tgt := 78) dX6_passes_71 (by decide) (fun _ => ?_) (fun _ => ?_)
                · refine z_iconst (v := 1) dX6_passes_74 (by decide) ?_
                  refine z_goto (tgt := 79) dX6_passes_75 (by decide) ?_
                  refine z_sb ?_
                  refine z_at [0, 1, 2, 4] rfl ?_
                  exact kF10 (1 : Int32)
                · refine z_iconst (v := 0) dX6_passes_78 (by decide) ?_
                  refine z_sb ?_
                  refine z_at [0, 1, 2, 4] rfl ?_
                  exact kF10 (0 : Int32)
              · refine z_iconst (v := 0) dX6_passes_78 (by decide) ?_
                refine z_sb ?_
                refine z_at [0, 1, 2, 4] rfl ?_
                exact kF10 (0 : Int32)
def fX6_areLike (s : Zr) (a1 : Int32) (a2 : Int32) : Option (Int32) :=
  (rdI s 1 a1).bind fun x1 =>
  (rdI s 1 a2).bind fun x2 =>
  (if x1 = x2 then
    some (1 : Int32)
  else
    some (0 : Int32)).bind fun (v3 : Int32) =>
  (zloop (fun ((v5, v6) : Int32 × Int32) =>
    ((rdI s 1 a1).bind fun x10 =>
    if x10 ≤ v6 then
      some (.inr v5)
    else
      if v5 = 0 then
        some (.inr v5)
      else
        (rdI s 3 (((6 : Int32) * a1) + v6)).bind fun x11 =>
        (rdI s 3 (((6 : Int32) * a2) + v6)).bind fun x12 =>
        (if x11 = x12 then
          some (1 : Int32)
        else
          some (0 : Int32)).bind fun (v13 : Int32) =>
        some (.inl (v13, v6 + (1 : Int32))) : Option ((Int32 × Int32) ⊕ Int32))) zFU (v3, (0 : Int32))).bind fun (w7 : Int32) =>
  (zbo w7).bind fun _ =>
  some w7
set_option maxRecDepth 100000 in
set_option maxHeartbeats 4000000 in
theorem kX6_areLike (G : Zg) (R : Nat) (h0 : Zh) (hF : zRF R h0) (s : Zr) (a1 : Int32) (a2 : Int32) {x : Int32} (hx : fX6_areLike s a1 a2 = some x) : zCt G yX6_areLike cX6_areLike 5 (Option.some Jvm.ClassFile.FieldType.boolean) 1 [zrv G.2.1 (some R), .int a1, .int a2] (zput R h0 s) (some (.int x)) (zput R h0 s) := by
  refine z_met (a := x) (rvf := fun (x : Int32) => some (.int x)) (hff := fun (_ : Int32) => zput R h0 s) (lv := [(0, zrv G.2.1 (some R)), (1, .int a1), (2, .int a2)]) (by decide +kernel) (by simp [lg_sl, zcat1, zcI, zcJ]) (by simp [lv_args, zcat1, zcI, zcJ]) ?_ hx
  unfold fX6_areLike
  refine z_aload_n (j := 0) dX6_areLike_0 rfl rfl ?_
  refine z_rgetA (k := 1) (a := 0) hF dX6_areLike_1 (by decide) rfl zw777 rfl ?_
  refine z_iload_n (j := 1) dX6_areLike_4 rfl rfl ?_
  refine z_riald hF dX6_areLike_5 (fun x1 => ?_)
  refine z_aload_n (j := 0) dX6_areLike_6 rfl rfl ?_
  refine z_rgetA (k := 1) (a := 0) hF dX6_areLike_7 (by decide) rfl zw777 rfl ?_
  refine z_iload_n (j := 2) dX6_areLike_10 rfl rfl ?_
  refine z_riald hF dX6_areLike_11 (fun x2 => ?_)
  refine z_join (pc2 := 20) (lv2 := fun (q : Int32) => [(0, zrv G.2.1 (some R)), (1, .int a1), (2, .int a2)]) (st2 := fun (q : Int32) => [.int q]) (h2 := fun (q : Int32) => zput R h0 s) (fun q => ?_) (fun F4 kF4 => ?_)
  · obtain ⟨v3, e0⟩ : ∃ z, z = q := ⟨_, rfl⟩
    subst e0
    try dsimp only
    refine z_istore_n (lv' := [(3, .int v3), (0, zrv G.2.1 (some R)), (1, .int a1), (2, .int a2)]) dX6_areLike_20 rfl (by decide) rfl ?_
    refine z_iconst (v := 0) dX6_areLike_21 (by decide) ?_
    refine z_istore (lv' := [(4, .int (0 : Int32)), (3, .int v3), (0, zrv G.2.1 (some R)), (1, .int a1), (2, .int a2)]) dX6_areLike_22 (by decide) rfl ?_
    refine z_at [2, 3, 4, 1, 0] rfl ?_
    refine z_join (pc2 := 78) (lv2 := fun (q : Int32) => [(3, .int q)]) (st2 := fun _ => []) (h2 := fun (q : Int32) => zput R h0 s) (fun q => ?_) (fun F8 kF8 => ?_)
    · obtain ⟨w7, e0⟩ : ∃ z, z = q := ⟨_, rfl⟩
      subst e0
      try dsimp only
      refine z_iload_n (j := 0) dX6_areLike_78 rfl rfl ?_
      refine z_bo (fun hbb15 => ?_)
      exact z_iret dX6_areLike_79 rfl (by rcases hbb15 with q | q <;> rw [q] <;> rfl) rfl rfl
    · refine z_loop (lvf := fun (q : Int32 × Int32) => [(0, zrv G.2.1 (some R)), (1, .int a1), (2, .int a2), (3, .int q.1), (4, .int q.2)]) (hf2 := fun (q : Int32 × Int32) => zput R h0 s) (s0 := (v3, (0 : Int32))) (fun K9 bK9 rK9 q => ?_)
      obtain ⟨v5, v6⟩ := q
      try dsimp only
      refine z_iload (j := 4) dX6_areLike_24 rfl ?_
      refine z_aload_n (j := 0) dX6_areLike_26 rfl rfl ?_
      refine z_rgetA (k := 1) (a := 0) hF dX6_areLike_27 (by decide) rfl zw777 rfl ?_
      refine z_iload_n (j := 1) dX6_areLike_30 rfl rfl ?_
      refine z_as ?_
      refine z_riald hF dX6_areLike_31 (fun x10 => ?_)
      refine z_itb ?_
      refine z_icmp_ge (tgt := 78) dX6_areLike_32 (by decide) (fun _ => ?_) (fun _ => ?_)
      · refine z_sb ?_
        refine z_eq (rK9 _) ?_
        refine z_at [3] rfl ?_
        exact kF8 v5
      · refine z_iload_n (j := 3) dX6_areLike_35 rfl rfl ?_
        refine z_itb ?_
        refine z_if_eq (tgt := 78) dX6_areLike_36 (by decide) (fun _ => ?_) (fun _ => ?_)
        · refine z_sb ?_
          refine z_eq (rK9 _) ?_
          refine z_at [3] rfl ?_
          exact kF8 v5
        · refine z_aload_n (j := 0) dX6_areLike_39 rfl rfl ?_
          refine z_rgetA (k := 3) (a := 2) hF dX6_areLike_40 (by decide) rfl zw779 rfl ?_
          refine z_bipush (v := 6) dX6_areLike_43 (by decide) ?_
          refine z_iload_n (j := 1) dX6_areLike_45 rfl rfl ?_
          refine z_imul dX6_areLike_46 ?_
          refine z_iload (j := 4) dX6_areLike_47 rfl ?_
          refine z_iadd dX6_areLike_49 ?_
          refine z_as ?_
          refine z_riald hF dX6_areLike_50 (fun x11 => ?_)
          refine z_aload_n (j := 0) dX6_areLike_51 rfl rfl ?_
          refine z_rgetA (k := 3) (a := 2) hF dX6_areLike_52 (by decide) rfl zw779 rfl ?_
          refine z_bipush (v := 6) dX6_areLike_55 (by decide) ?_
          refine z_iload_n (j := 2) dX6_areLike_57 rfl rfl ?_
          refine z_imul dX6_areLike_58 ?_
          refine z_iload (j := 4) dX6_areLike_59 rfl ?_
          refine z_iadd dX6_areLike_61 ?_
          refine z_as ?_
          refine z_riald hF dX6_areLike_62 (fun x12 => ?_)
          refine z_as ?_
          refine z_join (pc2 := 71) (lv2 := fun (q : Int32) => [(0, zrv G.2.1 (some R)), (1, .int a1), (2, .int a2), (4, .int v6)]) (st2 := fun (q : Int32) => [.int q]) (h2 := fun (q : Int32) => zput R h0 s) (fun q => ?_) (fun F14 kF14 => ?_)
          · obtain ⟨v13, e0⟩ : ∃ z, z = q := ⟨_, rfl⟩
            subst e0
            try dsimp only
            refine z_istore_n (lv' := [(3, .int v13), (0, zrv G.2.1 (some R)), (1, .int a1), (2, .int a2), (4, .int v6)]) dX6_areLike_71 rfl (by decide) rfl ?_
            refine z_iinc (j := 4) (v := v6 + (1 : Int32)) (lv' := [(4, .int (v6 + (1 : Int32))), (3, .int v13), (0, zrv G.2.1 (some R)), (1, .int a1), (2, .int a2)]) dX6_areLike_72 rfl rfl (by decide) rfl ?_
            refine z_goto (tgt := 24) dX6_areLike_75 (by decide) ?_
            refine z_sb ?_
            refine z_at [2, 3, 4, 1, 0] rfl ?_
            exact bK9 (v13, v6 + (1 : Int32))
          · refine z_itb ?_
            refine z_icmp_ne (tgt := 70) dX6_areLike_63 (by decide) (fun _ => ?_) (fun _ => ?_)
            · refine z_iconst (v := 1) dX6_areLike_66 (by decide) ?_
              refine z_goto (tgt := 71) dX6_areLike_67 (by decide) ?_
              refine z_sb ?_
              refine z_at [0, 1, 2, 4] rfl ?_
              exact kF14 (1 : Int32)
            · refine z_iconst (v := 0) dX6_areLike_70 (by decide) ?_
              refine z_sb ?_
              refine z_at [0, 1, 2, 4] rfl ?_
              exact kF14 (0 : Int32)
  · refine z_itb ?_
    refine z_icmp_ne (tgt := 19) dX6_areLike_12 (by decide) (fun _ => ?_) (fun _ => ?_)
    · refine z_iconst (v := 1) dX6_areLike_15 (by decide) ?_
      refine z_goto (tgt := 20) dX6_areLike_16 (by decide) ?_
      refine z_sb ?_
      refine z_at [0, 1, 2] rfl ?_
      exact kF4 (1 : Int32)
    · refine z_iconst (v := 0) dX6_areLike_19 (by decide) ?_
      refine z_sb ?_
      refine z_at [0, 1, 2] rfl ?_
      exact kF4 (0 : Int32)
def fX6_count (s : Zr) (a1 : Int32) : Option (Int32) :=
  if a1 = (0 : Int32) then
    some (s 0 0)
  else if a1 = (1 : Int32) then
    (zloop (fun ((v1, v2) : Int32 × Int32) =>
      (if (s 0 0) ≤ v2 then
        some (.inr v1)
      else
        (rdZ s 2 v2).bind fun x6 =>
        (if x6 = 0 then
          some (1 : Int32)
        else
          some (0 : Int32)).bind fun (v7 : Int32) =>
        (zloop (fun ((v9, v10) : Int32 × Int32) =>
          (if v2 ≤ v10 then
            some (.inr v9)
          else
            if a1 = (5 : Int32) then
              (if v9 = 0 then
                some (0 : Int32)
              else
                (rdZ s 2 v10).bind fun x16 =>
                if x16 = 0 then
                  (fX6_areLike s v2 v10).bind fun x17 =>
                  if x17 = 0 then
                    some (1 : Int32)
                  else
                    some (0 : Int32)
                else
                  some (1 : Int32)).bind fun (v14 : Int32) =>
              some (.inl (v14, v10 + (1 : Int32)))
            else
              some (.inr v9) : Option ((Int32 × Int32) ⊕ Int32))) zFU (v7, (0 : Int32))).bind fun (w11 : Int32) =>
        (if w11 = 0 then
          some (0 : Int32)
        else
          some (1 : Int32)).bind fun (v18 : Int32) =>
        some (.inl (v1 + v18, v2 + (1 : Int32))) : Option ((Int32 × Int32) ⊕ Int32))) zFU ((0 : Int32), (0 : Int32))).bind fun (w3 : Int32) =>
    some w3
  else if a1 = (2 : Int32) then
    (zloop (fun ((v20, v21) : Int32 × Int32) =>
      (if (144 : Int32) ≤ v21 then
        some (.inr v20)
      else
        (fX6_isIn s v21 (0 : Int32)).bind fun x25 =>
        (if x25 = 0 then
          some (0 : Int32)
        else
          some (1 : Int32)).bind fun (v26 : Int32) =>
        some (.inl (v20 + v26, v21 + (1 : Int32))) : Option ((Int32 × Int32) ⊕ Int32))) zFU ((0 : Int32), (0 : Int32))).bind fun (w22 : Int32) =>
    some w22
  else if a1 = (3 : Int32) then
    (zloop (fun ((v28, v29) : Int32 × Int32) =>
      (if (12 : Int32) ≤ v29 then
        some (.inr v28)
      else
        (fX6_stands s v29 (2 : Int32)).bind fun x33 =>
        (if x33 ≤ 0 then
          some (0 : Int32)
        else
          some (1 : Int32)).bind fun (v34 : Int32) =>
        some (.inl (v28 + v34, v29 + (1 : Int32))) : Option ((Int32 × Int32) ⊕ Int32))) zFU ((0 : Int32), (0 : Int32))).bind fun (w30 : Int32) =>
    some w30
  else if a1 = (4 : Int32) then
    some (s 0 7)
  else if a1 = (5 : Int32) then
    (zloop (fun ((v36, v37) : Int32 × Int32) =>
      (if (s 0 0) ≤ v37 then
        some (.inr v36)
      else
        (rdZ s 2 v37).bind fun x41 =>
        (if x41 = 0 then
          some (1 : Int32)
        else
          some (0 : Int32)).bind fun (v42 : Int32) =>
        (zloop (fun ((v44, v45) : Int32 × Int32) =>
          (if v37 ≤ v45 then
            some (.inr v44)
          else
            if a1 = (5 : Int32) then
              (if v44 = 0 then
                some (0 : Int32)
              else
                (rdZ s 2 v45).bind fun x51 =>
                if x51 = 0 then
                  (fX6_areLike s v37 v45).bind fun x52 =>
                  if x52 = 0 then
                    some (1 : Int32)
                  else
                    some (0 : Int32)
                else
                  some (1 : Int32)).bind fun (v49 : Int32) =>
              some (.inl (v49, v45 + (1 : Int32)))
            else
              some (.inr v44) : Option ((Int32 × Int32) ⊕ Int32))) zFU (v42, (0 : Int32))).bind fun (w46 : Int32) =>
        (if w46 = 0 then
          some (0 : Int32)
        else
          some (1 : Int32)).bind fun (v53 : Int32) =>
        some (.inl (v36 + v53, v37 + (1 : Int32))) : Option ((Int32 × Int32) ⊕ Int32))) zFU ((0 : Int32), (0 : Int32))).bind fun (w38 : Int32) =>
    some w38
  else some (-1 : Int32)
set_option maxRecDepth 100000 in
set_option maxHeartbeats 4000000 in
theorem kX6_count (G : Zg) (R : Nat) (h0 : Zh) (hF : zRF R h0) (s : Zr) (a1 : Int32) {x : Int32} (hx : fX6_count s a1 = some x) : zCt G yX6_count cX6_count 6 (Option.some Jvm.ClassFile.FieldType.int) 4 [zrv G.2.1 (some R), .int a1] (zput R h0 s) (some (.int x)) (zput R h0 s) := by
  refine z_met (a := x) (rvf := fun (x : Int32) => some (.int x)) (hff := fun (_ : Int32) => zput R h0 s) (lv := [(0, zrv G.2.1 (some R)), (1, .int a1)]) (by decide +kernel) (by simp [lg_sl, zcat1, zcI, zcJ]) (by simp [lv_args, zcat1, zcI, zcJ]) ?_ hx
  unfold fX6_count
  refine z_iconst (v := 0) dX6_count_0 (by decide) ?_
  refine z_istore_n (lv' := [(2, .int (0 : Int32)), (0, zrv G.2.1 (some R)), (1, .int a1)]) dX6_count_1 rfl (by decide) rfl ?_
  refine z_iload_n (j := 2) dX6_count_2 rfl rfl ?_
  refine z_cases (fun n0 => ?_) (fun n0 => ?_)
  · refine z_swIn (off := 37) (tgt := 40) dX6_count_3 (by rw [n0]; decide) (by rw [n0]; decide) (by rw [n0]; rfl) (by decide) ?_
    refine z_aload_n (j := 1) dX6_count_40 rfl rfl ?_
    refine z_rgetI (k := 0) hF dX6_count_41 (by decide) rfl zw776 ?_
    exact z_iret dX6_count_44 rfl rfl rfl rfl
  · refine z_cases (fun n1 => ?_) (fun n1 => ?_)
    · refine z_swIn (off := 42) (tgt := 45) dX6_count_3 (by rw [n1]; decide) (by rw [n1]; decide) (by rw [n1]; rfl) (by decide) ?_
      refine z_iconst (v := 0) dX6_count_45 (by decide) ?_
      refine z_istore_n (lv' := [(3, .int (0 : Int32)), (2, .int (0 : Int32)), (0, zrv G.2.1 (some R)), (1, .int a1)]) dX6_count_46 rfl (by decide) rfl ?_
      refine z_at [2, 3, 1, 0] rfl ?_
      refine z_join (pc2 := 142) (lv2 := fun (q : Int32) => [(2, .int q)]) (st2 := fun _ => []) (h2 := fun (q : Int32) => zput R h0 s) (fun q => ?_) (fun F4 kF4 => ?_)
      · obtain ⟨w3, e0⟩ : ∃ z, z = q := ⟨_, rfl⟩
        subst e0
        try dsimp only
        refine z_iload_n (j := 0) dX6_count_142 rfl rfl ?_
        exact z_iret dX6_count_143 rfl rfl rfl rfl
      · refine z_loop (lvf := fun (q : Int32 × Int32) => [(0, zrv G.2.1 (some R)), (1, .int a1), (2, .int q.1), (3, .int q.2)]) (hf2 := fun (q : Int32 × Int32) => zput R h0 s) (s0 := ((0 : Int32), (0 : Int32))) (fun K5 bK5 rK5 q => ?_)
        obtain ⟨v1, v2⟩ := q
        try dsimp only
        refine z_iload_n (j := 3) dX6_count_47 rfl rfl ?_
        refine z_aload_n (j := 0) dX6_count_48 rfl rfl ?_
        refine z_rgetI (k := 0) hF dX6_count_49 (by decide) rfl zw776 ?_
        refine z_itb ?_
        refine z_icmp_ge (tgt := 142) dX6_count_52 (by decide) (fun _ => ?_) (fun _ => ?_)
        · refine z_sb ?_
          refine z_eq (rK5 _) ?_
          refine z_at [2] rfl ?_
          exact kF4 v1
        · refine z_aload_n (j := 0) dX6_count_55 rfl rfl ?_
          refine z_rgetA (k := 2) (a := 1) hF dX6_count_56 (by decide) rfl zw778 rfl ?_
          refine z_iload_n (j := 3) dX6_count_59 rfl rfl ?_
          refine z_as ?_
          refine z_rzald hF dX6_count_60 (fun x6 => ?_)
          refine z_as ?_
          refine z_join (pc2 := 69) (lv2 := fun (q : Int32) => [(0, zrv G.2.1 (some R)), (1, .int a1), (2, .int v1), (3, .int v2)]) (st2 := fun (q : Int32) => [.int q]) (h2 := fun (q : Int32) => zput R h0 s) (fun q => ?_) (fun F8 kF8 => ?_)
          · obtain ⟨v7, e0⟩ : ∃ z, z = q := ⟨_, rfl⟩
            subst e0
            try dsimp only
            refine z_istore (lv' := [(4, .int v7), (0, zrv G.2.1 (some R)), (1, .int a1), (2, .int v1), (3, .int v2)]) dX6_count_69 (by decide) rfl ?_
            refine z_iconst (v := 0) dX6_count_71 (by decide) ?_
            refine z_istore (lv' := [(5, .int (0 : Int32)), (4, .int v7), (0, zrv G.2.1 (some R)), (1, .int a1), (2, .int v1), (3, .int v2)]) dX6_count_72 (by decide) rfl ?_
            refine z_as ?_
            refine z_at [2, 3, 4, 5, 1, 0] rfl ?_
            refine z_join (pc2 := 123) (lv2 := fun (q : Int32) => [(0, zrv G.2.1 (some R)), (1, .int a1), (2, .int v1), (3, .int v2), (4, .int q)]) (st2 := fun _ => []) (h2 := fun (q : Int32) => zput R h0 s) (fun q => ?_) (fun F12 kF12 => ?_)
            · obtain ⟨w11, e0⟩ : ∃ z, z = q := ⟨_, rfl⟩
              subst e0
              try dsimp only
              refine z_iload_n (j := 2) dX6_count_123 rfl rfl ?_
              refine z_iload (j := 4) dX6_count_124 rfl ?_
              refine z_as ?_
              refine z_join (pc2 := 134) (lv2 := fun (q : Int32) => [(0, zrv G.2.1 (some R)), (1, .int a1), (3, .int v2)]) (st2 := fun (q : Int32) => [.int q, .int v1]) (h2 := fun (q : Int32) => zput R h0 s) (fun q => ?_) (fun F19 kF19 => ?_)
              · obtain ⟨v18, e0⟩ : ∃ z, z = q := ⟨_, rfl⟩
                subst e0
                try dsimp only
                refine z_iadd dX6_count_134 ?_
                refine z_istore_n (lv' := [(2, .int (v1 + v18)), (0, zrv G.2.1 (some R)), (1, .int a1), (3, .int v2)]) dX6_count_135 rfl (by decide) rfl ?_
                refine z_iinc (j := 3) (v := v2 + (1 : Int32)) (lv' := [(3, .int (v2 + (1 : Int32))), (2, .int (v1 + v18)), (0, zrv G.2.1 (some R)), (1, .int a1)]) dX6_count_136 rfl rfl (by decide) rfl ?_
                refine z_goto (tgt := 47) dX6_count_139 (by decide) ?_
                refine z_sb ?_
                refine z_at [2, 3, 1, 0] rfl ?_
                exact bK5 (v1 + v18, v2 + (1 : Int32))
              · refine z_itb ?_
                refine z_if_eq (tgt := 133) dX6_count_126 (by decide) (fun _ => ?_) (fun _ => ?_)
                · refine z_iconst (v := 0) dX6_count_133 (by decide) ?_
                  refine z_sb ?_
                  refine z_at [0, 1, 3] rfl ?_
                  exact kF19 (0 : Int32)
                · refine z_iconst (v := 1) dX6_count_129 (by decide) ?_
                  refine z_goto (tgt := 134) dX6_count_130 (by decide) ?_
                  refine z_sb ?_
                  refine z_at [0, 1, 3] rfl ?_
                  exact kF19 (1 : Int32)
            · refine z_loop (lvf := fun (q : Int32 × Int32) => [(0, zrv G.2.1 (some R)), (1, .int a1), (2, .int v1), (3, .int v2), (4, .int q.1), (5, .int q.2)]) (hf2 := fun (q : Int32 × Int32) => zput R h0 s) (s0 := (v7, (0 : Int32))) (fun K13 bK13 rK13 q => ?_)
              obtain ⟨v9, v10⟩ := q
              try dsimp only
              refine z_iload (j := 5) dX6_count_74 rfl ?_
              refine z_iload_n (j := 3) dX6_count_76 rfl rfl ?_
              refine z_itb ?_
              refine z_icmp_ge (tgt := 123) dX6_count_77 (by decide) (fun _ => ?_) (fun _ => ?_)
              · refine z_sb ?_
                refine z_eq (rK13 _) ?_
                refine z_at [0, 1, 2, 3, 4] rfl ?_
                exact kF12 v9
              · refine z_iload_n (j := 1) dX6_count_80 rfl rfl ?_
                refine z_iconst (v := 5) dX6_count_81 (by decide) ?_
                refine z_itb ?_
                refine z_icmp_ne (tgt := 123) dX6_count_82 (by decide) (fun _ => ?_) (fun _ => ?_)
                · refine z_iload (j := 4) dX6_count_85 rfl ?_
                  refine z_as ?_
                  refine z_join (pc2 := 115) (lv2 := fun (q : Int32) => [(0, zrv G.2.1 (some R)), (1, .int a1), (2, .int v1), (3, .int v2), (5, .int v10)]) (st2 := fun (q : Int32) => [.int q]) (h2 := fun (q : Int32) => zput R h0 s) (fun q => ?_) (fun F15 kF15 => ?_)
                  · obtain ⟨v14, e0⟩ : ∃ z, z = q := ⟨_, rfl⟩
                    subst e0
                    try dsimp only
                    refine z_istore (lv' := [(4, .int v14), (0, zrv G.2.1 (some R)), (1, .int a1), (2, .int v1), (3, .int v2), (5, .int v10)]) dX6_count_115 (by decide) rfl ?_
                    refine z_iinc (j := 5) (v := v10 + (1 : Int32)) (lv' := [(5, .int (v10 + (1 : Int32))), (4, .int v14), (0, zrv G.2.1 (some R)), (1, .int a1), (2, .int v1), (3, .int v2)]) dX6_count_117 rfl rfl (by decide) rfl ?_
                    refine z_goto (tgt := 74) dX6_count_120 (by decide) ?_
                    refine z_sb ?_
                    refine z_at [2, 3, 4, 5, 1, 0] rfl ?_
                    exact bK13 (v14, v10 + (1 : Int32))
                  · refine z_itb ?_
                    refine z_if_eq (tgt := 114) dX6_count_87 (by decide) (fun _ => ?_) (fun _ => ?_)
                    · refine z_iconst (v := 0) dX6_count_114 (by decide) ?_
                      refine z_sb ?_
                      refine z_at [0, 1, 2, 3, 5] rfl ?_
                      exact kF15 (0 : Int32)
                    · refine z_aload_n (j := 0) dX6_count_90 rfl rfl ?_
                      refine z_rgetA (k := 2) (a := 1) hF dX6_count_91 (by decide) rfl zw778 rfl ?_
                      refine z_iload (j := 5) dX6_count_94 rfl ?_
                      refine z_as ?_
                      refine z_rzald hF dX6_count_96 (fun x16 => ?_)
                      refine z_itb ?_
                      refine z_if_ne (tgt := 110) dX6_count_97 (by decide) (fun _ => ?_) (fun _ => ?_)
                      · refine z_aload_n (j := 0) dX6_count_100 rfl rfl ?_
                        refine z_iload_n (j := 3) dX6_count_101 rfl rfl ?_
                        refine z_iload (j := 5) dX6_count_102 rfl ?_
                        refine z_as ?_
                        refine z_callV (As := [.int v2, .int v10]) (rest := []) (rv2 := fun (x : Int32) => some (.int x)) (h2 := fun (_ : Int32) => zput R h0 s) dX6_count_104 vX6_areLike (.inl zw1283) (by decide) zkl7 (zRrecv hF).1 (zRrecv hF).2 rfl rfl (by decide) (fun x hx => kX6_areLike G R h0 hF s v2 v10 hx) (fun x17 => ?_)
                        try dsimp only [Option.toList, List.cons_append, List.nil_append]
                        refine z_itb ?_
                        refine z_if_ne (tgt := 114) dX6_count_107 (by decide) (fun _ => ?_) (fun _ => ?_)
                        · refine z_iconst (v := 1) dX6_count_110 (by decide) ?_
                          refine z_goto (tgt := 115) dX6_count_111 (by decide) ?_
                          refine z_sb ?_
                          refine z_at [0, 1, 2, 3, 5] rfl ?_
                          exact kF15 (1 : Int32)
                        · refine z_iconst (v := 0) dX6_count_114 (by decide) ?_
                          refine z_sb ?_
                          refine z_at [0, 1, 2, 3, 5] rfl ?_
                          exact kF15 (0 : Int32)
                      · refine z_iconst (v := 1) dX6_count_110 (by decide) ?_
                        refine z_goto (tgt := 115) dX6_count_111 (by decide) ?_
                        refine z_sb ?_
                        refine z_at [0, 1, 2, 3, 5] rfl ?_
                        exact kF15 (1 : Int32)
                · refine z_sb ?_
                  refine z_eq (rK13 _) ?_
                  refine z_at [0, 1, 2, 3, 4] rfl ?_
                  exact kF12 v9
          · refine z_itb ?_
            refine z_if_ne (tgt := 68) dX6_count_61 (by decide) (fun _ => ?_) (fun _ => ?_)
            · refine z_iconst (v := 1) dX6_count_64 (by decide) ?_
              refine z_goto (tgt := 69) dX6_count_65 (by decide) ?_
              refine z_sb ?_
              refine z_at [0, 1, 2, 3] rfl ?_
              exact kF8 (1 : Int32)
            · refine z_iconst (v := 0) dX6_count_68 (by decide) ?_
              refine z_sb ?_
              refine z_at [0, 1, 2, 3] rfl ?_
              exact kF8 (0 : Int32)
    · refine z_cases (fun n2 => ?_) (fun n2 => ?_)
      · refine z_swIn (off := 141) (tgt := 144) dX6_count_3 (by rw [n2]; decide) (by rw [n2]; decide) (by rw [n2]; rfl) (by decide) ?_
        refine z_iconst (v := 0) dX6_count_144 (by decide) ?_
        refine z_istore_n (lv' := [(3, .int (0 : Int32)), (2, .int (0 : Int32)), (0, zrv G.2.1 (some R)), (1, .int a1)]) dX6_count_145 rfl (by decide) rfl ?_
        refine z_at [2, 1, 0] rfl ?_
        refine z_join (pc2 := 176) (lv2 := fun (q : Int32) => [(2, .int q)]) (st2 := fun _ => []) (h2 := fun (q : Int32) => zput R h0 s) (fun q => ?_) (fun F23 kF23 => ?_)
        · obtain ⟨w22, e0⟩ : ∃ z, z = q := ⟨_, rfl⟩
          subst e0
          try dsimp only
          refine z_iload_n (j := 0) dX6_count_176 rfl rfl ?_
          exact z_iret dX6_count_177 rfl rfl rfl rfl
        · refine z_loop (lvf := fun (q : Int32 × Int32) => [(0, zrv G.2.1 (some R)), (2, .int q.1), (3, .int q.2)]) (hf2 := fun (q : Int32 × Int32) => zput R h0 s) (s0 := ((0 : Int32), (0 : Int32))) (fun K24 bK24 rK24 q => ?_)
          obtain ⟨v20, v21⟩ := q
          try dsimp only
          refine z_iload_n (j := 2) dX6_count_146 rfl rfl ?_
          refine z_sipush (v := 144) dX6_count_147 (by decide) ?_
          refine z_itb ?_
          refine z_icmp_ge (tgt := 176) dX6_count_150 (by decide) (fun _ => ?_) (fun _ => ?_)
          · refine z_sb ?_
            refine z_eq (rK24 _) ?_
            refine z_at [1] rfl ?_
            exact kF23 v20
          · refine z_iload_n (j := 1) dX6_count_153 rfl rfl ?_
            refine z_aload_n (j := 0) dX6_count_154 rfl rfl ?_
            refine z_iload_n (j := 2) dX6_count_155 rfl rfl ?_
            refine z_iconst (v := 0) dX6_count_156 (by decide) ?_
            refine z_as ?_
            refine z_callV (As := [.int v21, .int (0 : Int32)]) (rest := [.int v20]) (rv2 := fun (x : Int32) => some (.int x)) (h2 := fun (_ : Int32) => zput R h0 s) dX6_count_157 vX6_isIn (.inl zw1015) (by decide) zkl7 (zRrecv hF).1 (zRrecv hF).2 rfl rfl (by simp [zcat1, zcI, zcJ]) (fun x hx => kX6_isIn G R h0 hF s v21 (0 : Int32) hx) (fun x25 => ?_)
            try dsimp only [Option.toList, List.cons_append, List.nil_append]
            refine z_as ?_
            refine z_join (pc2 := 168) (lv2 := fun (q : Int32) => [(0, zrv G.2.1 (some R)), (3, .int v21)]) (st2 := fun (q : Int32) => [.int q, .int v20]) (h2 := fun (q : Int32) => zput R h0 s) (fun q => ?_) (fun F27 kF27 => ?_)
            · obtain ⟨v26, e0⟩ : ∃ z, z = q := ⟨_, rfl⟩
              subst e0
              try dsimp only
              refine z_iadd dX6_count_168 ?_
              refine z_istore_n (lv' := [(2, .int (v20 + v26)), (0, zrv G.2.1 (some R)), (3, .int v21)]) dX6_count_169 rfl (by decide) rfl ?_
              refine z_iinc (j := 2) (v := v21 + (1 : Int32)) (lv' := [(3, .int (v21 + (1 : Int32))), (2, .int (v20 + v26)), (0, zrv G.2.1 (some R))]) dX6_count_170 rfl rfl (by decide) rfl ?_
              refine z_goto (tgt := 146) dX6_count_173 (by decide) ?_
              refine z_sb ?_
              refine z_at [2, 1, 0] rfl ?_
              exact bK24 (v20 + v26, v21 + (1 : Int32))
            · refine z_itb ?_
              refine z_if_eq (tgt := 167) dX6_count_160 (by decide) (fun _ => ?_) (fun _ => ?_)
              · refine z_iconst (v := 0) dX6_count_167 (by decide) ?_
                refine z_sb ?_
                refine z_at [0, 2] rfl ?_
                exact kF27 (0 : Int32)
              · refine z_iconst (v := 1) dX6_count_163 (by decide) ?_
                refine z_goto (tgt := 168) dX6_count_164 (by decide) ?_
                refine z_sb ?_
                refine z_at [0, 2] rfl ?_
                exact kF27 (1 : Int32)
      · refine z_cases (fun n3 => ?_) (fun n3 => ?_)
        · refine z_swIn (off := 175) (tgt := 178) dX6_count_3 (by rw [n3]; decide) (by rw [n3]; decide) (by rw [n3]; rfl) (by decide) ?_
          refine z_iconst (v := 0) dX6_count_178 (by decide) ?_
          refine z_istore_n (lv' := [(3, .int (0 : Int32)), (2, .int (0 : Int32)), (0, zrv G.2.1 (some R)), (1, .int a1)]) dX6_count_179 rfl (by decide) rfl ?_
          refine z_at [2, 1, 0] rfl ?_
          refine z_join (pc2 := 209) (lv2 := fun (q : Int32) => [(2, .int q)]) (st2 := fun _ => []) (h2 := fun (q : Int32) => zput R h0 s) (fun q => ?_) (fun F31 kF31 => ?_)
          · obtain ⟨w30, e0⟩ : ∃ z, z = q := ⟨_, rfl⟩
            subst e0
            try dsimp only
            refine z_iload_n (j := 0) dX6_count_209 rfl rfl ?_
            exact z_iret dX6_count_210 rfl rfl rfl rfl
          · refine z_loop (lvf := fun (q : Int32 × Int32) => [(0, zrv G.2.1 (some R)), (2, .int q.1), (3, .int q.2)]) (hf2 := fun (q : Int32 × Int32) => zput R h0 s) (s0 := ((0 : Int32), (0 : Int32))) (fun K32 bK32 rK32 q => ?_)
            obtain ⟨v28, v29⟩ := q
            try dsimp only
            refine z_iload_n (j := 2) dX6_count_180 rfl rfl ?_
            refine z_bipush (v := 12) dX6_count_181 (by decide) ?_
            refine z_itb ?_
            refine z_icmp_ge (tgt := 209) dX6_count_183 (by decide) (fun _ => ?_) (fun _ => ?_)
            · refine z_sb ?_
              refine z_eq (rK32 _) ?_
              refine z_at [1] rfl ?_
              exact kF31 v28
            · refine z_iload_n (j := 1) dX6_count_186 rfl rfl ?_
              refine z_aload_n (j := 0) dX6_count_187 rfl rfl ?_
              refine z_iload_n (j := 2) dX6_count_188 rfl rfl ?_
              refine z_iconst (v := 2) dX6_count_189 (by decide) ?_
              refine z_as ?_
              refine z_callV (As := [.int v29, .int (2 : Int32)]) (rest := [.int v28]) (rv2 := fun (x : Int32) => some (.int x)) (h2 := fun (_ : Int32) => zput R h0 s) dX6_count_190 vX6_stands (.inl zw1287) (by decide) zkl7 (zRrecv hF).1 (zRrecv hF).2 rfl rfl (by simp [zcat1, zcI, zcJ]) (fun x hx => kX6_stands G R h0 hF s v29 (2 : Int32) hx) (fun x33 => ?_)
              try dsimp only [Option.toList, List.cons_append, List.nil_append]
              refine z_as ?_
              refine z_join (pc2 := 201) (lv2 := fun (q : Int32) => [(0, zrv G.2.1 (some R)), (3, .int v29)]) (st2 := fun (q : Int32) => [.int q, .int v28]) (h2 := fun (q : Int32) => zput R h0 s) (fun q => ?_) (fun F35 kF35 => ?_)
              · obtain ⟨v34, e0⟩ : ∃ z, z = q := ⟨_, rfl⟩
                subst e0
                try dsimp only
                refine z_iadd dX6_count_201 ?_
                refine z_istore_n (lv' := [(2, .int (v28 + v34)), (0, zrv G.2.1 (some R)), (3, .int v29)]) dX6_count_202 rfl (by decide) rfl ?_
                refine z_iinc (j := 2) (v := v29 + (1 : Int32)) (lv' := [(3, .int (v29 + (1 : Int32))), (2, .int (v28 + v34)), (0, zrv G.2.1 (some R))]) dX6_count_203 rfl rfl (by decide) rfl ?_
                refine z_goto (tgt := 180) dX6_count_206 (by decide) ?_
                refine z_sb ?_
                refine z_at [2, 1, 0] rfl ?_
                exact bK32 (v28 + v34, v29 + (1 : Int32))
              · refine z_itb ?_
                refine z_if_le (tgt := 200) dX6_count_193 (by decide) (fun _ => ?_) (fun _ => ?_)
                · refine z_iconst (v := 0) dX6_count_200 (by decide) ?_
                  refine z_sb ?_
                  refine z_at [0, 2] rfl ?_
                  exact kF35 (0 : Int32)
                · refine z_iconst (v := 1) dX6_count_196 (by decide) ?_
                  refine z_goto (tgt := 201) dX6_count_197 (by decide) ?_
                  refine z_sb ?_
                  refine z_at [0, 2] rfl ?_
                  exact kF35 (1 : Int32)
        · refine z_cases (fun n4 => ?_) (fun n4 => ?_)
          · refine z_swIn (off := 208) (tgt := 211) dX6_count_3 (by rw [n4]; decide) (by rw [n4]; decide) (by rw [n4]; rfl) (by decide) ?_
            refine z_aload_n (j := 1) dX6_count_211 rfl rfl ?_
            refine z_rgetI (k := 7) hF dX6_count_212 (by decide) rfl zw783 ?_
            exact z_iret dX6_count_215 rfl rfl rfl rfl
          · refine z_cases (fun n5 => ?_) (fun n5 => ?_)
            · refine z_swIn (off := 42) (tgt := 45) dX6_count_3 (by rw [n5]; decide) (by rw [n5]; decide) (by rw [n5]; rfl) (by decide) ?_
              refine z_iconst (v := 0) dX6_count_45 (by decide) ?_
              refine z_istore_n (lv' := [(3, .int (0 : Int32)), (2, .int (0 : Int32)), (0, zrv G.2.1 (some R)), (1, .int a1)]) dX6_count_46 rfl (by decide) rfl ?_
              refine z_at [2, 3, 1, 0] rfl ?_
              refine z_join (pc2 := 142) (lv2 := fun (q : Int32) => [(2, .int q)]) (st2 := fun _ => []) (h2 := fun (q : Int32) => zput R h0 s) (fun q => ?_) (fun F39 kF39 => ?_)
              · obtain ⟨w38, e0⟩ : ∃ z, z = q := ⟨_, rfl⟩
                subst e0
                try dsimp only
                refine z_iload_n (j := 0) dX6_count_142 rfl rfl ?_
                exact z_iret dX6_count_143 rfl rfl rfl rfl
              · refine z_loop (lvf := fun (q : Int32 × Int32) => [(0, zrv G.2.1 (some R)), (1, .int a1), (2, .int q.1), (3, .int q.2)]) (hf2 := fun (q : Int32 × Int32) => zput R h0 s) (s0 := ((0 : Int32), (0 : Int32))) (fun K40 bK40 rK40 q => ?_)
                obtain ⟨v36, v37⟩ := q
                try dsimp only
                refine z_iload_n (j := 3) dX6_count_47 rfl rfl ?_
                refine z_aload_n (j := 0) dX6_count_48 rfl rfl ?_
                refine z_rgetI (k := 0) hF dX6_count_49 (by decide) rfl zw776 ?_
                refine z_itb ?_
                refine z_icmp_ge (tgt := 142) dX6_count_52 (by decide) (fun _ => ?_) (fun _ => ?_)
                · refine z_sb ?_
                  refine z_eq (rK40 _) ?_
                  refine z_at [2] rfl ?_
                  exact kF39 v36
                · refine z_aload_n (j := 0) dX6_count_55 rfl rfl ?_
                  refine z_rgetA (k := 2) (a := 1) hF dX6_count_56 (by decide) rfl zw778 rfl ?_
                  refine z_iload_n (j := 3) dX6_count_59 rfl rfl ?_
                  refine z_as ?_
                  refine z_rzald hF dX6_count_60 (fun x41 => ?_)
                  refine z_as ?_
                  refine z_join (pc2 := 69) (lv2 := fun (q : Int32) => [(0, zrv G.2.1 (some R)), (1, .int a1), (2, .int v36), (3, .int v37)]) (st2 := fun (q : Int32) => [.int q]) (h2 := fun (q : Int32) => zput R h0 s) (fun q => ?_) (fun F43 kF43 => ?_)
                  · obtain ⟨v42, e0⟩ : ∃ z, z = q := ⟨_, rfl⟩
                    subst e0
                    try dsimp only
                    refine z_istore (lv' := [(4, .int v42), (0, zrv G.2.1 (some R)), (1, .int a1), (2, .int v36), (3, .int v37)]) dX6_count_69 (by decide) rfl ?_
                    refine z_iconst (v := 0) dX6_count_71 (by decide) ?_
                    refine z_istore (lv' := [(5, .int (0 : Int32)), (4, .int v42), (0, zrv G.2.1 (some R)), (1, .int a1), (2, .int v36), (3, .int v37)]) dX6_count_72 (by decide) rfl ?_
                    refine z_as ?_
                    refine z_at [2, 3, 4, 5, 1, 0] rfl ?_
                    refine z_join (pc2 := 123) (lv2 := fun (q : Int32) => [(0, zrv G.2.1 (some R)), (1, .int a1), (2, .int v36), (3, .int v37), (4, .int q)]) (st2 := fun _ => []) (h2 := fun (q : Int32) => zput R h0 s) (fun q => ?_) (fun F47 kF47 => ?_)
                    · obtain ⟨w46, e0⟩ : ∃ z, z = q := ⟨_, rfl⟩
                      subst e0
                      try dsimp only
                      refine z_iload_n (j := 2) dX6_count_123 rfl rfl ?_
                      refine z_iload (j := 4) dX6_count_124 rfl ?_
                      refine z_as ?_
                      refine z_join (pc2 := 134) (lv2 := fun (q : Int32) => [(0, zrv G.2.1 (some R)), (1, .int a1), (3, .int v37)]) (st2 := fun (q : Int32) => [.int q, .int v36]) (h2 := fun (q : Int32) => zput R h0 s) (fun q => ?_) (fun F54 kF54 => ?_)
                      · obtain ⟨v53, e0⟩ : ∃ z, z = q := ⟨_, rfl⟩
                        subst e0
                        try dsimp only
                        refine z_iadd dX6_count_134 ?_
                        refine z_istore_n (lv' := [(2, .int (v36 + v53)), (0, zrv G.2.1 (some R)), (1, .int a1), (3, .int v37)]) dX6_count_135 rfl (by decide) rfl ?_
                        refine z_iinc (j := 3) (v := v37 + (1 : Int32)) (lv' := [(3, .int (v37 + (1 : Int32))), (2, .int (v36 + v53)), (0, zrv G.2.1 (some R)), (1, .int a1)]) dX6_count_136 rfl rfl (by decide) rfl ?_
                        refine z_goto (tgt := 47) dX6_count_139 (by decide) ?_
                        refine z_sb ?_
                        refine z_at [2, 3, 1, 0] rfl ?_
                        exact bK40 (v36 + v53, v37 + (1 : Int32))
                      · refine z_itb ?_
                        refine z_if_eq (tgt := 133) dX6_count_126 (by decide) (fun _ => ?_) (fun _ => ?_)
                        · refine z_iconst (v := 0) dX6_count_133 (by decide) ?_
                          refine z_sb ?_
                          refine z_at [0, 1, 3] rfl ?_
                          exact kF54 (0 : Int32)
                        · refine z_iconst (v := 1) dX6_count_129 (by decide) ?_
                          refine z_goto (tgt := 134) dX6_count_130 (by decide) ?_
                          refine z_sb ?_
                          refine z_at [0, 1, 3] rfl ?_
                          exact kF54 (1 : Int32)
                    · refine z_loop (lvf := fun (q : Int32 × Int32) => [(0, zrv G.2.1 (some R)), (1, .int a1), (2, .int v36), (3, .int v37), (4, .int q.1), (5, .int q.2)]) (hf2 := fun (q : Int32 × Int32) => zput R h0 s) (s0 := (v42, (0 : Int32))) (fun K48 bK48 rK48 q => ?_)
                      obtain ⟨v44, v45⟩ := q
                      try dsimp only
                      refine z_iload (j := 5) dX6_count_74 rfl ?_
                      refine z_iload_n (j := 3) dX6_count_76 rfl rfl ?_
                      refine z_itb ?_
                      refine z_icmp_ge (tgt := 123) dX6_count_77 (by decide) (fun _ => ?_) (fun _ => ?_)
                      · refine z_sb ?_
                        refine z_eq (rK48 _) ?_
                        refine z_at [0, 1, 2, 3, 4] rfl ?_
                        exact kF47 v44
                      · refine z_iload_n (j := 1) dX6_count_80 rfl rfl ?_
                        refine z_iconst (v := 5) dX6_count_81 (by decide) ?_
                        refine z_itb ?_
                        refine z_icmp_ne (tgt := 123) dX6_count_82 (by decide) (fun _ => ?_) (fun _ => ?_)
                        · refine z_iload (j := 4) dX6_count_85 rfl ?_
                          refine z_as ?_
                          refine z_join (pc2 := 115) (lv2 := fun (q : Int32) => [(0, zrv G.2.1 (some R)), (1, .int a1), (2, .int v36), (3, .int v37), (5, .int v45)]) (st2 := fun (q : Int32) => [.int q]) (h2 := fun (q : Int32) => zput R h0 s) (fun q => ?_) (fun F50 kF50 => ?_)
                          · obtain ⟨v49, e0⟩ : ∃ z, z = q := ⟨_, rfl⟩
                            subst e0
                            try dsimp only
                            refine z_istore (lv' := [(4, .int v49), (0, zrv G.2.1 (some R)), (1, .int a1), (2, .int v36), (3, .int v37), (5, .int v45)]) dX6_count_115 (by decide) rfl ?_
                            refine z_iinc (j := 5) (v := v45 + (1 : Int32)) (lv' := [(5, .int (v45 + (1 : Int32))), (4, .int v49), (0, zrv G.2.1 (some R)), (1, .int a1), (2, .int v36), (3, .int v37)]) dX6_count_117 rfl rfl (by decide) rfl ?_
                            refine z_goto (tgt := 74) dX6_count_120 (by decide) ?_
                            refine z_sb ?_
                            refine z_at [2, 3, 4, 5, 1, 0] rfl ?_
                            exact bK48 (v49, v45 + (1 : Int32))
                          · refine z_itb ?_
                            refine z_if_eq (tgt := 114) dX6_count_87 (by decide) (fun _ => ?_) (fun _ => ?_)
                            · refine z_iconst (v := 0) dX6_count_114 (by decide) ?_
                              refine z_sb ?_
                              refine z_at [0, 1, 2, 3, 5] rfl ?_
                              exact kF50 (0 : Int32)
                            · refine z_aload_n (j := 0) dX6_count_90 rfl rfl ?_
                              refine z_rgetA (k := 2) (a := 1) hF dX6_count_91 (by decide) rfl zw778 rfl ?_
                              refine z_iload (j := 5) dX6_count_94 rfl ?_
                              refine z_as ?_
                              refine z_rzald hF dX6_count_96 (fun x51 => ?_)
                              refine z_itb ?_
                              refine z_if_ne (tgt := 110) dX6_count_97 (by decide) (fun _ => ?_) (fun _ => ?_)
                              · refine z_aload_n (j := 0) dX6_count_100 rfl rfl ?_
                                refine z_iload_n (j := 3) dX6_count_101 rfl rfl ?_
                                refine z_iload (j := 5) dX6_count_102 rfl ?_
                                refine z_as ?_
                                refine z_callV (As := [.int v37, .int v45]) (rest := []) (rv2 := fun (x : Int32) => some (.int x)) (h2 := fun (_ : Int32) => zput R h0 s) dX6_count_104 vX6_areLike (.inl zw1283) (by decide) zkl7 (zRrecv hF).1 (zRrecv hF).2 rfl rfl (by decide) (fun x hx => kX6_areLike G R h0 hF s v37 v45 hx) (fun x52 => ?_)
                                try dsimp only [Option.toList, List.cons_append, List.nil_append]
                                refine z_itb ?_
                                refine z_if_ne (tgt := 114) dX6_count_107 (by decide) (fun _ => ?_) (fun _ => ?_)
                                · refine z_iconst (v := 1) dX6_count_110 (by decide) ?_
                                  refine z_goto (tgt := 115) dX6_count_111 (by decide) ?_
                                  refine z_sb ?_
                                  refine z_at [0, 1, 2, 3, 5] rfl ?_
                                  exact kF50 (1 : Int32)
                                · refine z_iconst (v := 0) dX6_count_114 (by decide) ?_
                                  refine z_sb ?_
                                  refine z_at [0, 1, 2, 3, 5] rfl ?_
                                  exact kF50 (0 : Int32)
                              · refine z_iconst (v := 1) dX6_count_110 (by decide) ?_
                                refine z_goto (tgt := 115) dX6_count_111 (by decide) ?_
                                refine z_sb ?_
                                refine z_at [0, 1, 2, 3, 5] rfl ?_
                                exact kF50 (1 : Int32)
                        · refine z_sb ?_
                          refine z_eq (rK48 _) ?_
                          refine z_at [0, 1, 2, 3, 4] rfl ?_
                          exact kF47 v44
                  · refine z_itb ?_
                    refine z_if_ne (tgt := 68) dX6_count_61 (by decide) (fun _ => ?_) (fun _ => ?_)
                    · refine z_iconst (v := 1) dX6_count_64 (by decide) ?_
                      refine z_goto (tgt := 69) dX6_count_65 (by decide) ?_
                      refine z_sb ?_
                      refine z_at [0, 1, 2, 3] rfl ?_
                      exact kF43 (1 : Int32)
                    · refine z_iconst (v := 0) dX6_count_68 (by decide) ?_
                      refine z_sb ?_
                      refine z_at [0, 1, 2, 3] rfl ?_
                      exact kF43 (0 : Int32)
            · refine z_swOut (tgt := 216) dX6_count_3 (zsw6 n0 n1 n2 n3 n4 n5) (by decide) ?_
              refine z_iconst (v := -1) dX6_count_216 (by decide) ?_
              exact z_iret dX6_count_217 rfl rfl rfl rfl
