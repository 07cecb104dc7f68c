/-! the reference: in, isCase, isName, isTime, open, add, cut, drop, told, isIn, follows, stands, isPiece, newPiece, addPart, deed, join, more, piece, clearTree, newNode, expand, compare, like, gathers0, gathers, sort, plainNode, layRow -/
def fX6_in (a1 : Int64) (a2 : Int64) (a3 : Int64) : Option (Int32) :=
  (if (lg_cmp a1 a2) < 0 then
    some (0 : Int32)
  else
    if 0 < (lg_cmp a1 a3) then
      some (0 : Int32)
    else
      some (1 : Int32)).bind fun (v1 : Int32) =>
  (zbo v1).bind fun _ =>
  some v1
set_option maxRecDepth 100000 in
set_option maxHeartbeats 4000000 in
theorem kX6_in (G : Zg) (h : Zh) (a1 : Int64) (a2 : Int64) (a3 : Int64) {x : Int32} (hx : fX6_in a1 a2 a3 = some x) : zCt G yX6_in cX6_in 6 (Option.some Jvm.ClassFile.FieldType.boolean) 1 [.long a1, .long a2, .long a3] h (some (.int x)) h := by
  refine z_met (a := x) (rvf := fun (x : Int32) => some (.int x)) (hff := fun (_ : Int32) => h) (lv := [(0, .long a1), (2, .long a2), (4, .long a3)]) (by decide +kernel) (by simp [lg_sl, zcat1, zcI, zcJ]) (by simp [lv_args, zcat1, zcI, zcJ]) ?_ hx
  unfold fX6_in
  refine z_lload_n (j := 0) dX6_in_0 rfl rfl ?_
  refine z_lload_n (j := 1) dX6_in_1 rfl rfl ?_
  refine z_lcmp dX6_in_2 ?_
  refine z_join (pc2 := 18) (lv2 := fun (q : Int32) => []) (st2 := fun (q : Int32) => [.int q]) (h2 := fun (q : Int32) => h) (fun q => ?_) (fun F2 kF2 => ?_)
  · obtain ⟨v1, e0⟩ : ∃ z, z = q := ⟨_, rfl⟩
    subst e0
    try dsimp only
    refine z_bo (fun hbb3 => ?_)
    exact z_iret dX6_in_18 rfl (by rcases hbb3 with q | q <;> rw [q] <;> rfl) rfl rfl
  · refine z_itb ?_
    refine z_if_lt (tgt := 17) dX6_in_3 (by decide) (fun _ => ?_) (fun _ => ?_)
    · refine z_iconst (v := 0) dX6_in_17 (by decide) ?_
      refine z_sb ?_
      refine z_at [] rfl ?_
      exact kF2 (0 : Int32)
    · refine z_lload_n (j := 0) dX6_in_6 rfl rfl ?_
      refine z_lload (j := 2) dX6_in_7 rfl ?_
      refine z_lcmp dX6_in_9 ?_
      refine z_itb ?_
      refine z_if_gt (tgt := 17) dX6_in_10 (by decide) (fun _ => ?_) (fun _ => ?_)
      · refine z_iconst (v := 0) dX6_in_17 (by decide) ?_
        refine z_sb ?_
        refine z_at [] rfl ?_
        exact kF2 (0 : Int32)
      · refine z_iconst (v := 1) dX6_in_13 (by decide) ?_
        refine z_goto (tgt := 18) dX6_in_14 (by decide) ?_
        refine z_sb ?_
        refine z_at [] rfl ?_
        exact kF2 (1 : Int32)
def fX6_isCase (s : Zr) (a1 : Int32) : Option (Int32) :=
  (fX6_in a1.toInt64 (0 : Int64) (((s 0 0) - (1 : Int32)).toInt64)).bind fun x1 =>
  (zbo x1).bind fun _ =>
  some x1
set_option maxRecDepth 100000 in
set_option maxHeartbeats 4000000 in
theorem kX6_isCase (G : Zg) (R : Nat) (h0 : Zh) (hF : zRF R h0) (s : Zr) (a1 : Int32) {x : Int32} (hx : fX6_isCase s a1 = some x) : zCt G yX6_isCase cX6_isCase 2 (Option.some Jvm.ClassFile.FieldType.boolean) 2 [zrv G.2.1 (some R), .int a1] (zput R h0 s) (some (.int x)) (zput R h0 s) := by
  refine z_met (a := x) (rvf := fun (x : Int32) => some (.int x)) (hff := fun (_ : Int32) => zput R h0 s) (lv := [(0, zrv G.2.1 (some R)), (1, .int a1)]) (by decide +kernel) (by simp [lg_sl, zcat1, zcI, zcJ]) (by simp [lv_args, zcat1, zcI, zcJ]) ?_ hx
  unfold fX6_isCase
  refine z_iload_n (j := 1) dX6_isCase_0 rfl rfl ?_
  refine z_i2l dX6_isCase_1 ?_
  refine z_lconst (v := 0) dX6_isCase_2 (by decide) ?_
  refine z_aload_n (j := 0) dX6_isCase_3 rfl rfl ?_
  refine z_rgetI (k := 0) hF dX6_isCase_4 (by decide) rfl zw776 ?_
  refine z_iconst (v := 1) dX6_isCase_7 (by decide) ?_
  refine z_isub dX6_isCase_8 ?_
  refine z_i2l dX6_isCase_9 ?_
  refine z_callS (As := [.long a1.toInt64, .long (0 : Int64), .long (((s 0 0) - (1 : Int32)).toInt64)]) (rest := []) (rv2 := fun (x : Int32) => some (.int x)) (h2 := fun (_ : Int32) => zput R h0 s) dX6_isCase_10 vX6_in (.inl zw985) (by decide) rfl rfl (by decide) (fun x hx => kX6_in G (zput R h0 s) a1.toInt64 (0 : Int64) (((s 0 0) - (1 : Int32)).toInt64) hx) (fun x1 => ?_)
  try dsimp only [Option.toList, List.cons_append, List.nil_append]
  refine z_bo (fun hbb2 => ?_)
  exact z_iret dX6_isCase_13 rfl (by rcases hbb2 with q | q <;> rw [q] <;> rfl) rfl rfl
def fX6_isName (a1 : Int32) : Option (Int32) :=
  (fX6_in a1.toInt64 (0 : Int64) (11 : Int64)).bind fun x1 =>
  (zbo x1).bind fun _ =>
  some x1
set_option maxRecDepth 100000 in
set_option maxHeartbeats 4000000 in
theorem kX6_isName (G : Zg) (h : Zh) (a1 : Int32) {x : Int32} (hx : fX6_isName a1 = some x) : zCt G yX6_isName cX6_isName 1 (Option.some Jvm.ClassFile.FieldType.boolean) 2 [.int a1] h (some (.int x)) h := by
  refine z_met (a := x) (rvf := fun (x : Int32) => some (.int x)) (hff := fun (_ : Int32) => h) (lv := [(0, .int a1)]) (by decide +kernel) (by simp [lg_sl, zcat1, zcI, zcJ]) (by simp [lv_args, zcat1, zcI, zcJ]) ?_ hx
  unfold fX6_isName
  refine z_iload_n (j := 0) dX6_isName_0 rfl rfl ?_
  refine z_i2l dX6_isName_1 ?_
  refine z_lconst (v := 0) dX6_isName_2 (by decide) ?_
  refine z_ldc2 (v := 11) dX6_isName_3 zw991 ?_
  refine z_callS (As := [.long a1.toInt64, .long (0 : Int64), .long (11 : Int64)]) (rest := []) (rv2 := fun (x : Int32) => some (.int x)) (h2 := fun (_ : Int32) => h) dX6_isName_6 vX6_in (.inl zw985) (by decide) rfl rfl (by decide) (fun x hx => kX6_in G (h) a1.toInt64 (0 : Int64) (11 : Int64) hx) (fun x1 => ?_)
  try dsimp only [Option.toList, List.cons_append, List.nil_append]
  refine z_bo (fun hbb2 => ?_)
  exact z_iret dX6_isName_9 rfl (by rcases hbb2 with q | q <;> rw [q] <;> rfl) rfl rfl
def fX6_isTime (a1 : Int32) : Option (Int32) :=
  (fX6_in a1.toInt64 (-1 : Int64) (1000000 : Int64)).bind fun x1 =>
  (zbo x1).bind fun _ =>
  some x1
set_option maxRecDepth 100000 in
set_option maxHeartbeats 4000000 in
theorem kX6_isTime (G : Zg) (h : Zh) (a1 : Int32) {x : Int32} (hx : fX6_isTime a1 = some x) : zCt G yX6_isTime cX6_isTime 1 (Option.some Jvm.ClassFile.FieldType.boolean) 2 [.int a1] h (some (.int x)) h := by
  refine z_met (a := x) (rvf := fun (x : Int32) => some (.int x)) (hff := fun (_ : Int32) => h) (lv := [(0, .int a1)]) (by decide +kernel) (by simp [lg_sl, zcat1, zcI, zcJ]) (by simp [lv_args, zcat1, zcI, zcJ]) ?_ hx
  unfold fX6_isTime
  refine z_iload_n (j := 0) dX6_isTime_0 rfl rfl ?_
  refine z_i2l dX6_isTime_1 ?_
  refine z_ldc2 (v := -1) dX6_isTime_2 zw996 ?_
  refine z_ldc2 (v := 1000000) dX6_isTime_5 zw997 ?_
  refine z_callS (As := [.long a1.toInt64, .long (-1 : Int64), .long (1000000 : Int64)]) (rest := []) (rv2 := fun (x : Int32) => some (.int x)) (h2 := fun (_ : Int32) => h) dX6_isTime_8 vX6_in (.inl zw985) (by decide) rfl rfl (by decide) (fun x hx => kX6_in G (h) a1.toInt64 (-1 : Int64) (1000000 : Int64) hx) (fun x1 => ?_)
  try dsimp only [Option.toList, List.cons_append, List.nil_append]
  refine z_bo (fun hbb2 => ?_)
  exact z_iret dX6_isTime_11 rfl (by rcases hbb2 with q | q <;> rw [q] <;> rfl) rfl rfl
def fX6_open (s : Zr) : Option (Int32 × Zr) :=
  if (s 0 0) = (24 : Int32) then
    some ((-2 : Int32), s)
  else
    (some (u2 s 0 0 ((s 0 0) + (1 : Int32)))).bind fun s1 =>
    some ((s1 0 0) - (1 : Int32), s1)
set_option maxRecDepth 100000 in
set_option maxHeartbeats 4000000 in
theorem kX6_open (G : Zg) (R : Nat) (h0 : Zh) (hF : zRF R h0) (s : Zr) {x : Int32 × Zr} (hx : fX6_open s = some x) : zCt G yX6_open cX6_open 1 (Option.some Jvm.ClassFile.FieldType.int) 1 [zrv G.2.1 (some R)] (zput R h0 s) (some (.int x.1)) (zput R h0 x.2) := by
  refine z_met (a := x) (rvf := fun (x : Int32 × Zr) => some (.int x.1)) (hff := fun (x : Int32 × Zr) => zput R h0 x.2) (lv := [(0, zrv G.2.1 (some R))]) (by decide +kernel) (by simp [lg_sl, zcat1, zcI, zcJ]) (by simp [lv_args, zcat1, zcI, zcJ]) ?_ hx
  unfold fX6_open
  refine z_aload_n (j := 0) dX6_open_0 rfl rfl ?_
  refine z_rgetI (k := 0) hF dX6_open_1 (by decide) rfl zw776 ?_
  refine z_bipush (v := 24) dX6_open_4 (by decide) ?_
  refine z_icmp_ne (tgt := 12) dX6_open_6 (by decide) (fun _ => ?_) (fun _ => ?_)
  · refine z_bipush (v := -2) dX6_open_9 (by decide) ?_
    exact z_iret dX6_open_11 rfl rfl rfl rfl
  · refine z_aload_n (j := 0) dX6_open_12 rfl rfl ?_
    refine z_dup dX6_open_13 (zcat1 _ _) ?_
    refine z_rgetI (k := 0) hF dX6_open_14 (by decide) rfl zw776 ?_
    refine z_iconst (v := 1) dX6_open_17 (by decide) ?_
    refine z_iadd dX6_open_18 ?_
    refine z_rputI (k := 0) hF dX6_open_19 (by decide) rfl zw776 rfl rfl (fun s1 => ?_)
    refine z_aload_n (j := 0) dX6_open_22 rfl rfl ?_
    refine z_rgetI (k := 0) hF dX6_open_23 (by decide) rfl zw776 ?_
    refine z_iconst (v := 1) dX6_open_26 (by decide) ?_
    refine z_isub dX6_open_27 ?_
    exact z_iret dX6_open_28 rfl rfl rfl rfl
def fX6_add (s : Zr) (a1 : Int32) (a2 : Int32) (a3 : Int32) (a4 : Int32) (a5 : Int32) : Option (Int32 × Zr) :=
  (fX6_isCase s a1).bind fun x1 =>
  if x1 = 0 then
    some ((-1 : Int32), s)
  else
    (rdZ s 2 a1).bind fun x2 =>
    if x2 = 0 then
      (fX6_isName a2).bind fun x3 =>
      if x3 = 0 then
        some ((-1 : Int32), s)
      else
        (fX6_in a3.toInt64 (0 : Int64) (7 : Int64)).bind fun x4 =>
        if x4 = 0 then
          some ((-1 : Int32), s)
        else
          (fX6_isTime a4).bind fun x5 =>
          if x5 = 0 then
            some ((-1 : Int32), s)
          else
            (fX6_isTime a5).bind fun x6 =>
            if x6 = 0 then
              some ((-1 : Int32), s)
            else
              (rdI s 1 a1).bind fun x7 =>
              if x7 = (6 : Int32) then
                some ((-2 : Int32), s)
              else
                (rdI s 1 a1).bind fun x8 =>
                (wrI s 3 (((6 : Int32) * a1) + x8) a2).bind fun s9 =>
                (wrI s9 4 (((6 : Int32) * a1) + x8) a3).bind fun s10 =>
                (wrI s10 5 (((6 : Int32) * a1) + x8) a4).bind fun s11 =>
                (wrI s11 6 (((6 : Int32) * a1) + x8) a5).bind fun s12 =>
                (rdI s12 1 a1).bind fun x13 =>
                (wrI s12 1 a1 (x13 + (1 : Int32))).bind fun s14 =>
                (rdI s14 1 a1).bind fun x15 =>
                some (x15, s14)
    else
      some ((-1 : Int32), s)
set_option maxRecDepth 100000 in
set_option maxHeartbeats 4000000 in
theorem kX6_add (G : Zg) (R : Nat) (h0 : Zh) (hF : zRF R h0) (s : Zr) (a1 : Int32) (a2 : Int32) (a3 : Int32) (a4 : Int32) (a5 : Int32) {x : Int32 × Zr} (hx : fX6_add s a1 a2 a3 a4 a5 = some x) : zCt G yX6_add cX6_add 7 (Option.some Jvm.ClassFile.FieldType.int) 3 [zrv G.2.1 (some R), .int a1, .int a2, .int a3, .int a4, .int a5] (zput R h0 s) (some (.int x.1)) (zput R h0 x.2) := by
  refine z_met (a := x) (rvf := fun (x : Int32 × Zr) => some (.int x.1)) (hff := fun (x : Int32 × Zr) => zput R h0 x.2) (lv := [(0, zrv G.2.1 (some R)), (1, .int a1), (2, .int a2), (3, .int a3), (4, .int a4), (5, .int a5)]) (by decide +kernel) (by simp [lg_sl, zcat1, zcI, zcJ]) (by simp [lv_args, zcat1, zcI, zcJ]) ?_ hx
  unfold fX6_add
  refine z_aload_n (j := 0) dX6_add_0 rfl rfl ?_
  refine z_iload_n (j := 1) dX6_add_1 rfl rfl ?_
  refine z_callV (As := [.int a1]) (rest := []) (rv2 := fun (x : Int32) => some (.int x)) (h2 := fun (_ : Int32) => zput R h0 s) dX6_add_2 vX6_isCase (.inl zw981) (by decide) zkl7 (zRrecv hF).1 (zRrecv hF).2 rfl rfl (by decide) (fun x hx => kX6_isCase G R h0 hF s a1 hx) (fun x1 => ?_)
  try dsimp only [Option.toList, List.cons_append, List.nil_append]
  refine z_if_eq (tgt := 52) dX6_add_5 (by decide) (fun _ => ?_) (fun _ => ?_)
  · refine z_iconst (v := -1) dX6_add_52 (by decide) ?_
    exact z_iret dX6_add_53 rfl rfl rfl rfl
  · refine z_aload_n (j := 0) dX6_add_8 rfl rfl ?_
    refine z_rgetA (k := 2) (a := 1) hF dX6_add_9 (by decide) rfl zw778 rfl ?_
    refine z_iload_n (j := 1) dX6_add_12 rfl rfl ?_
    refine z_rzald hF dX6_add_13 (fun x2 => ?_)
    refine z_if_ne (tgt := 52) dX6_add_14 (by decide) (fun _ => ?_) (fun _ => ?_)
    · refine z_iload_n (j := 2) dX6_add_17 rfl rfl ?_
      refine z_callS (As := [.int a2]) (rest := []) (rv2 := fun (x : Int32) => some (.int x)) (h2 := fun (_ : Int32) => zput R h0 s) dX6_add_18 vX6_isName (.inl zw988) (by decide) rfl rfl (by decide) (fun x hx => kX6_isName G (zput R h0 s) a2 hx) (fun x3 => ?_)
      try dsimp only [Option.toList, List.cons_append, List.nil_append]
      refine z_if_eq (tgt := 52) dX6_add_21 (by decide) (fun _ => ?_) (fun _ => ?_)
      · refine z_iconst (v := -1) dX6_add_52 (by decide) ?_
        exact z_iret dX6_add_53 rfl rfl rfl rfl
      · refine z_iload_n (j := 3) dX6_add_24 rfl rfl ?_
        refine z_i2l dX6_add_25 ?_
        refine z_lconst (v := 0) dX6_add_26 (by decide) ?_
        refine z_ldc2 (v := 7) dX6_add_27 zw992 ?_
        refine z_callS (As := [.long a3.toInt64, .long (0 : Int64), .long (7 : Int64)]) (rest := []) (rv2 := fun (x : Int32) => some (.int x)) (h2 := fun (_ : Int32) => zput R h0 s) dX6_add_30 vX6_in (.inl zw985) (by decide) rfl rfl (by decide) (fun x hx => kX6_in G (zput R h0 s) a3.toInt64 (0 : Int64) (7 : Int64) hx) (fun x4 => ?_)
        try dsimp only [Option.toList, List.cons_append, List.nil_append]
        refine z_if_eq (tgt := 52) dX6_add_33 (by decide) (fun _ => ?_) (fun _ => ?_)
        · refine z_iconst (v := -1) dX6_add_52 (by decide) ?_
          exact z_iret dX6_add_53 rfl rfl rfl rfl
        · refine z_iload (j := 4) dX6_add_36 rfl ?_
          refine z_callS (As := [.int a4]) (rest := []) (rv2 := fun (x : Int32) => some (.int x)) (h2 := fun (_ : Int32) => zput R h0 s) dX6_add_38 vX6_isTime (.inl zw993) (by decide) rfl rfl (by decide) (fun x hx => kX6_isTime G (zput R h0 s) a4 hx) (fun x5 => ?_)
          try dsimp only [Option.toList, List.cons_append, List.nil_append]
          refine z_if_eq (tgt := 52) dX6_add_41 (by decide) (fun _ => ?_) (fun _ => ?_)
          · refine z_iconst (v := -1) dX6_add_52 (by decide) ?_
            exact z_iret dX6_add_53 rfl rfl rfl rfl
          · refine z_iload (j := 5) dX6_add_44 rfl ?_
            refine z_callS (As := [.int a5]) (rest := []) (rv2 := fun (x : Int32) => some (.int x)) (h2 := fun (_ : Int32) => zput R h0 s) dX6_add_46 vX6_isTime (.inl zw993) (by decide) rfl rfl (by decide) (fun x hx => kX6_isTime G (zput R h0 s) a5 hx) (fun x6 => ?_)
            try dsimp only [Option.toList, List.cons_append, List.nil_append]
            refine z_if_ne (tgt := 54) dX6_add_49 (by decide) (fun _ => ?_) (fun _ => ?_)
            · refine z_iconst (v := -1) dX6_add_52 (by decide) ?_
              exact z_iret dX6_add_53 rfl rfl rfl rfl
            · refine z_aload_n (j := 0) dX6_add_54 rfl rfl ?_
              refine z_rgetA (k := 1) (a := 0) hF dX6_add_55 (by decide) rfl zw777 rfl ?_
              refine z_iload_n (j := 1) dX6_add_58 rfl rfl ?_
              refine z_riald hF dX6_add_59 (fun x7 => ?_)
              refine z_bipush (v := 6) dX6_add_60 (by decide) ?_
              refine z_icmp_ne (tgt := 68) dX6_add_62 (by decide) (fun _ => ?_) (fun _ => ?_)
              · refine z_bipush (v := -2) dX6_add_65 (by decide) ?_
                exact z_iret dX6_add_67 rfl rfl rfl rfl
              · refine z_bipush (v := 6) dX6_add_68 (by decide) ?_
                refine z_iload_n (j := 1) dX6_add_70 rfl rfl ?_
                refine z_imul dX6_add_71 ?_
                refine z_aload_n (j := 0) dX6_add_72 rfl rfl ?_
                refine z_rgetA (k := 1) (a := 0) hF dX6_add_73 (by decide) rfl zw777 rfl ?_
                refine z_iload_n (j := 1) dX6_add_76 rfl rfl ?_
                refine z_riald hF dX6_add_77 (fun x8 => ?_)
                refine z_iadd dX6_add_78 ?_
                refine z_istore (lv' := [(6, .int (((6 : Int32) * a1) + x8)), (0, zrv G.2.1 (some R)), (1, .int a1), (2, .int a2), (3, .int a3), (4, .int a4), (5, .int a5)]) dX6_add_79 (by decide) rfl ?_
                refine z_aload_n (j := 1) dX6_add_81 rfl rfl ?_
                refine z_rgetA (k := 3) (a := 2) hF dX6_add_82 (by decide) rfl zw779 rfl ?_
                refine z_iload (j := 0) dX6_add_85 rfl ?_
                refine z_iload_n (j := 3) dX6_add_87 rfl rfl ?_
                refine z_riast hF dX6_add_88 (fun s9 => ?_)
                refine z_aload_n (j := 1) dX6_add_89 rfl rfl ?_
                refine z_rgetA (k := 4) (a := 3) hF dX6_add_90 (by decide) rfl zw780 rfl ?_
                refine z_iload (j := 0) dX6_add_93 rfl ?_
                refine z_iload_n (j := 4) dX6_add_95 rfl rfl ?_
                refine z_riast hF dX6_add_96 (fun s10 => ?_)
                refine z_aload_n (j := 1) dX6_add_97 rfl rfl ?_
                refine z_rgetA (k := 5) (a := 4) hF dX6_add_98 (by decide) rfl zw781 rfl ?_
                refine z_iload (j := 0) dX6_add_101 rfl ?_
                refine z_iload (j := 5) dX6_add_103 rfl ?_
                refine z_riast hF dX6_add_105 (fun s11 => ?_)
                refine z_aload_n (j := 1) dX6_add_106 rfl rfl ?_
                refine z_rgetA (k := 6) (a := 5) hF dX6_add_107 (by decide) rfl zw782 rfl ?_
                refine z_iload (j := 0) dX6_add_110 rfl ?_
                refine z_iload (j := 6) dX6_add_112 rfl ?_
                refine z_riast hF dX6_add_114 (fun s12 => ?_)
                refine z_aload_n (j := 1) dX6_add_115 rfl rfl ?_
                refine z_rgetA (k := 1) (a := 0) hF dX6_add_116 (by decide) rfl zw777 rfl ?_
                refine z_iload_n (j := 2) dX6_add_119 rfl rfl ?_
                refine z_dup2 dX6_add_120 rfl (zcat1 _ _) ?_
                refine z_riald hF dX6_add_121 (fun x13 => ?_)
                refine z_iconst (v := 1) dX6_add_122 (by decide) ?_
                refine z_iadd dX6_add_123 ?_
                refine z_riast hF dX6_add_124 (fun s14 => ?_)
                refine z_aload_n (j := 1) dX6_add_125 rfl rfl ?_
                refine z_rgetA (k := 1) (a := 0) hF dX6_add_126 (by decide) rfl zw777 rfl ?_
                refine z_iload_n (j := 2) dX6_add_129 rfl rfl ?_
                refine z_riald hF dX6_add_130 (fun x15 => ?_)
                exact z_iret dX6_add_131 rfl rfl rfl rfl
    · refine z_iconst (v := -1) dX6_add_52 (by decide) ?_
      exact z_iret dX6_add_53 rfl rfl rfl rfl
def fX6_cut (s : Zr) (a1 : Int32) : Option (Int32 × Zr) :=
  (fX6_isCase s a1).bind fun x1 =>
  if x1 = 0 then
    some ((-1 : Int32), s)
  else
    (rdZ s 2 a1).bind fun x2 =>
    if x2 = 0 then
      (rdI s 1 a1).bind fun x3 =>
      if x3 = 0 then
        some ((-1 : Int32), s)
      else
        (rdI s 1 a1).bind fun x4 =>
        (wrI s 1 a1 (x4 - (1 : Int32))).bind fun s5 =>
        (rdI s5 1 a1).bind fun x6 =>
        some (x6, s5)
    else
      some ((-1 : Int32), s)
set_option maxRecDepth 100000 in
set_option maxHeartbeats 4000000 in
theorem kX6_cut (G : Zg) (R : Nat) (h0 : Zh) (hF : zRF R h0) (s : Zr) (a1 : Int32) {x : Int32 × Zr} (hx : fX6_cut s a1 = some x) : zCt G yX6_cut cX6_cut 2 (Option.some Jvm.ClassFile.FieldType.int) 3 [zrv G.2.1 (some R), .int a1] (zput R h0 s) (some (.int x.1)) (zput R h0 x.2) := by
  refine z_met (a := x) (rvf := fun (x : Int32 × Zr) => some (.int x.1)) (hff := fun (x : Int32 × Zr) => zput R h0 x.2) (lv := [(0, zrv G.2.1 (some R)), (1, .int a1)]) (by decide +kernel) (by simp [lg_sl, zcat1, zcI, zcJ]) (by simp [lv_args, zcat1, zcI, zcJ]) ?_ hx
  unfold fX6_cut
  refine z_aload_n (j := 0) dX6_cut_0 rfl rfl ?_
  refine z_iload_n (j := 1) dX6_cut_1 rfl rfl ?_
  refine z_callV (As := [.int a1]) (rest := []) (rv2 := fun (x : Int32) => some (.int x)) (h2 := fun (_ : Int32) => zput R h0 s) dX6_cut_2 vX6_isCase (.inl zw981) (by decide) zkl7 (zRrecv hF).1 (zRrecv hF).2 rfl rfl (by decide) (fun x hx => kX6_isCase G R h0 hF s a1 hx) (fun x1 => ?_)
  try dsimp only [Option.toList, List.cons_append, List.nil_append]
  refine z_if_eq (tgt := 26) dX6_cut_5 (by decide) (fun _ => ?_) (fun _ => ?_)
  · refine z_iconst (v := -1) dX6_cut_26 (by decide) ?_
    exact z_iret dX6_cut_27 rfl rfl rfl rfl
  · refine z_aload_n (j := 0) dX6_cut_8 rfl rfl ?_
    refine z_rgetA (k := 2) (a := 1) hF dX6_cut_9 (by decide) rfl zw778 rfl ?_
    refine z_iload_n (j := 1) dX6_cut_12 rfl rfl ?_
    refine z_rzald hF dX6_cut_13 (fun x2 => ?_)
    refine z_if_ne (tgt := 26) dX6_cut_14 (by decide) (fun _ => ?_) (fun _ => ?_)
    · refine z_aload_n (j := 0) dX6_cut_17 rfl rfl ?_
      refine z_rgetA (k := 1) (a := 0) hF dX6_cut_18 (by decide) rfl zw777 rfl ?_
      refine z_iload_n (j := 1) dX6_cut_21 rfl rfl ?_
      refine z_riald hF dX6_cut_22 (fun x3 => ?_)
      refine z_if_ne (tgt := 28) dX6_cut_23 (by decide) (fun _ => ?_) (fun _ => ?_)
      · refine z_iconst (v := -1) dX6_cut_26 (by decide) ?_
        exact z_iret dX6_cut_27 rfl rfl rfl rfl
      · refine z_aload_n (j := 0) dX6_cut_28 rfl rfl ?_
        refine z_rgetA (k := 1) (a := 0) hF dX6_cut_29 (by decide) rfl zw777 rfl ?_
        refine z_iload_n (j := 1) dX6_cut_32 rfl rfl ?_
        refine z_dup2 dX6_cut_33 rfl (zcat1 _ _) ?_
        refine z_riald hF dX6_cut_34 (fun x4 => ?_)
        refine z_iconst (v := 1) dX6_cut_35 (by decide) ?_
        refine z_isub dX6_cut_36 ?_
        refine z_riast hF dX6_cut_37 (fun s5 => ?_)
        refine z_aload_n (j := 0) dX6_cut_38 rfl rfl ?_
        refine z_rgetA (k := 1) (a := 0) hF dX6_cut_39 (by decide) rfl zw777 rfl ?_
        refine z_iload_n (j := 1) dX6_cut_42 rfl rfl ?_
        refine z_riald hF dX6_cut_43 (fun x6 => ?_)
        exact z_iret dX6_cut_44 rfl rfl rfl rfl
    · refine z_iconst (v := -1) dX6_cut_26 (by decide) ?_
      exact z_iret dX6_cut_27 rfl rfl rfl rfl
def fX6_drop (s : Zr) (a1 : Int32) (a2 : Int32) : Option (Int32 × Zr) :=
  (fX6_isCase s a1).bind fun x1 =>
  if x1 = 0 then
    some ((-1 : Int32), s)
  else
    (rdZ s 2 a1).bind fun x2 =>
    (if x2 = 0 then
      some (0 : Int32)
    else
      some (1 : Int32)).bind fun (v3 : Int32) =>
    (wrZ s 2 a1 a2).bind fun s5 =>
    some (v3, s5)
set_option maxRecDepth 100000 in
set_option maxHeartbeats 4000000 in
theorem kX6_drop (G : Zg) (R : Nat) (h0 : Zh) (hF : zRF R h0) (s : Zr) (a1 : Int32) (a2 : Int32) {x : Int32 × Zr} (hx : fX6_drop s a1 a2 = some x) : zCt G yX6_drop cX6_drop 4 (Option.some Jvm.ClassFile.FieldType.int) 3 [zrv G.2.1 (some R), .int a1, .int a2] (zput R h0 s) (some (.int x.1)) (zput R h0 x.2) := by
  refine z_met (a := x) (rvf := fun (x : Int32 × Zr) => some (.int x.1)) (hff := fun (x : Int32 × Zr) => zput R h0 x.2) (lv := [(0, zrv G.2.1 (some R)), (1, .int a1), (2, .int a2)]) (by decide +kernel) (by simp [lg_sl, zcat1, zcI, zcJ]) (by simp [lv_args, zcat1, zcI, zcJ]) ?_ hx
  unfold fX6_drop
  refine z_aload_n (j := 0) dX6_drop_0 rfl rfl ?_
  refine z_iload_n (j := 1) dX6_drop_1 rfl rfl ?_
  refine z_callV (As := [.int a1]) (rest := []) (rv2 := fun (x : Int32) => some (.int x)) (h2 := fun (_ : Int32) => zput R h0 s) dX6_drop_2 vX6_isCase (.inl zw981) (by decide) zkl7 (zRrecv hF).1 (zRrecv hF).2 rfl rfl (by decide) (fun x hx => kX6_isCase G R h0 hF s a1 hx) (fun x1 => ?_)
  try dsimp only [Option.toList, List.cons_append, List.nil_append]
  refine z_if_ne (tgt := 10) dX6_drop_5 (by decide) (fun _ => ?_) (fun _ => ?_)
  · refine z_iconst (v := -1) dX6_drop_8 (by decide) ?_
    exact z_iret dX6_drop_9 rfl rfl rfl rfl
  · refine z_aload_n (j := 0) dX6_drop_10 rfl rfl ?_
    refine z_rgetA (k := 2) (a := 1) hF dX6_drop_11 (by decide) rfl zw778 rfl ?_
    refine z_iload_n (j := 1) dX6_drop_14 rfl rfl ?_
    refine z_rzald hF dX6_drop_15 (fun x2 => ?_)
    refine z_join (pc2 := 24) (lv2 := fun (q : Int32) => [(0, zrv G.2.1 (some R)), (1, .int a1), (2, .int a2)]) (st2 := fun (q : Int32) => [.int q]) (h2 := fun (q : Int32) => zput R h0 s) (fun q => ?_) (fun F4 kF4 => ?_)
    · obtain ⟨v3, e0⟩ : ∃ z, z = q := ⟨_, rfl⟩
      subst e0
      try dsimp only
      refine z_istore_n (lv' := [(3, .int v3), (0, zrv G.2.1 (some R)), (1, .int a1), (2, .int a2)]) dX6_drop_24 rfl (by decide) rfl ?_
      refine z_aload_n (j := 1) dX6_drop_25 rfl rfl ?_
      refine z_rgetA (k := 2) (a := 1) hF dX6_drop_26 (by decide) rfl zw778 rfl ?_
      refine z_iload_n (j := 2) dX6_drop_29 rfl rfl ?_
      refine z_iload_n (j := 3) dX6_drop_30 rfl rfl ?_
      refine z_rzast hF dX6_drop_31 (fun s5 => ?_)
      refine z_iload_n (j := 0) dX6_drop_32 rfl rfl ?_
      exact z_iret dX6_drop_33 rfl rfl rfl rfl
    · refine z_itb ?_
      refine z_if_eq (tgt := 23) dX6_drop_16 (by decide) (fun _ => ?_) (fun _ => ?_)
      · refine z_iconst (v := 0) dX6_drop_23 (by decide) ?_
        refine z_sb ?_
        refine z_at [0, 1, 2] rfl ?_
        exact kF4 (0 : Int32)
      · refine z_iconst (v := 1) dX6_drop_19 (by decide) ?_
        refine z_goto (tgt := 24) dX6_drop_20 (by decide) ?_
        refine z_sb ?_
        refine z_at [0, 1, 2] rfl ?_
        exact kF4 (1 : Int32)
def fX6_told (s : Zr) (a1 : Int32) (a2 : Int32) (a3 : Int32) : Option (Int32) :=
  (fX6_isCase s a1).bind fun x1 =>
  if x1 = 0 then
    some (-9 : Int32)
  else
    (rdI s 1 a1).bind fun x2 =>
    (fX6_in a2.toInt64 (-1 : Int64) ((x2 - (1 : Int32)).toInt64)).bind fun x3 =>
    if x3 = 0 then
      some (-9 : Int32)
    else
      (if 0 ≤ a2 then
        some (3 : Int64)
      else
        some (1 : Int64)).bind fun (v4 : Int64) =>
      (fX6_in a3.toInt64 (0 : Int64) v4).bind fun x6 =>
      if x6 = 0 then
        some (-9 : Int32)
      else
        if 0 ≤ a2 then
          (if a3 = 0 then
            (rdI s 3 (((6 : Int32) * a1) + a2)).bind fun x9 =>
            some x9
          else
            if a3 = (1 : Int32) then
              (rdI s 4 (((6 : Int32) * a1) + a2)).bind fun x10 =>
              some x10
            else
              if a3 = (2 : Int32) then
                (rdI s 5 (((6 : Int32) * a1) + a2)).bind fun x11 =>
                some x11
              else
                (rdI s 6 (((6 : Int32) * a1) + a2)).bind fun x12 =>
                some x12).bind fun (v7 : Int32) =>
          some v7
        else
          (if a3 = 0 then
            (rdI s 1 a1).bind fun x15 =>
            some x15
          else
            (rdZ s 2 a1).bind fun x16 =>
            if x16 = 0 then
              some (0 : Int32)
            else
              some (1 : Int32)).bind fun (v13 : Int32) =>
          some v13
set_option maxRecDepth 100000 in
set_option maxHeartbeats 4000000 in
theorem kX6_told (G : Zg) (R : Nat) (h0 : Zh) (hF : zRF R h0) (s : Zr) (a1 : Int32) (a2 : Int32) (a3 : Int32) {x : Int32} (hx : fX6_told s a1 a2 a3 = some x) : zCt G yX6_told cX6_told 5 (Option.some Jvm.ClassFile.FieldType.int) 3 [zrv G.2.1 (some R), .int a1, .int a2, .int a3] (zput R h0 s) (some (.int x)) (zput R h0 s) := by
  refine z_met (a := x) (rvf := fun (x : Int32) => some (.int x)) (hff := fun (_ : Int32) => zput R h0 s) (lv := [(0, zrv G.2.1 (some R)), (1, .int a1), (2, .int a2), (3, .int a3)]) (by decide +kernel) (by simp [lg_sl, zcat1, zcI, zcJ]) (by simp [lv_args, zcat1, zcI, zcJ]) ?_ hx
  unfold fX6_told
  refine z_aload_n (j := 0) dX6_told_0 rfl rfl ?_
  refine z_iload_n (j := 1) dX6_told_1 rfl rfl ?_
  refine z_callV (As := [.int a1]) (rest := []) (rv2 := fun (x : Int32) => some (.int x)) (h2 := fun (_ : Int32) => zput R h0 s) dX6_told_2 vX6_isCase (.inl zw981) (by decide) zkl7 (zRrecv hF).1 (zRrecv hF).2 rfl rfl (by decide) (fun x hx => kX6_isCase G R h0 hF s a1 hx) (fun x1 => ?_)
  try dsimp only [Option.toList, List.cons_append, List.nil_append]
  refine z_if_eq (tgt := 48) dX6_told_5 (by decide) (fun _ => ?_) (fun _ => ?_)
  · refine z_bipush (v := -9) dX6_told_48 (by decide) ?_
    exact z_iret dX6_told_50 rfl rfl rfl rfl
  · refine z_iload_n (j := 2) dX6_told_8 rfl rfl ?_
    refine z_i2l dX6_told_9 ?_
    refine z_ldc2 (v := -1) dX6_told_10 zw996 ?_
    refine z_aload_n (j := 0) dX6_told_13 rfl rfl ?_
    refine z_rgetA (k := 1) (a := 0) hF dX6_told_14 (by decide) rfl zw777 rfl ?_
    refine z_iload_n (j := 1) dX6_told_17 rfl rfl ?_
    refine z_riald hF dX6_told_18 (fun x2 => ?_)
    refine z_iconst (v := 1) dX6_told_19 (by decide) ?_
    refine z_isub dX6_told_20 ?_
    refine z_i2l dX6_told_21 ?_
    refine z_callS (As := [.long a2.toInt64, .long (-1 : Int64), .long ((x2 - (1 : Int32)).toInt64)]) (rest := []) (rv2 := fun (x : Int32) => some (.int x)) (h2 := fun (_ : Int32) => zput R h0 s) dX6_told_22 vX6_in (.inl zw985) (by decide) rfl rfl (by decide) (fun x hx => kX6_in G (zput R h0 s) a2.toInt64 (-1 : Int64) ((x2 - (1 : Int32)).toInt64) hx) (fun x3 => ?_)
    try dsimp only [Option.toList, List.cons_append, List.nil_append]
    refine z_if_eq (tgt := 48) dX6_told_25 (by decide) (fun _ => ?_) (fun _ => ?_)
    · refine z_bipush (v := -9) dX6_told_48 (by decide) ?_
      exact z_iret dX6_told_50 rfl rfl rfl rfl
    · refine z_iload_n (j := 3) dX6_told_28 rfl rfl ?_
      refine z_i2l dX6_told_29 ?_
      refine z_lconst (v := 0) dX6_told_30 (by decide) ?_
      refine z_iload_n (j := 2) dX6_told_31 rfl rfl ?_
      refine z_join (pc2 := 42) (lv2 := fun (q : Int64) => [(0, zrv G.2.1 (some R)), (1, .int a1), (2, .int a2), (3, .int a3)]) (st2 := fun (q : Int64) => [.long q, .long (0 : Int64), .long a3.toInt64]) (h2 := fun (q : Int64) => zput R h0 s) (fun q => ?_) (fun F5 kF5 => ?_)
      · obtain ⟨v4, e0⟩ : ∃ z, z = q := ⟨_, rfl⟩
        subst e0
        try dsimp only
        refine z_callS (As := [.long a3.toInt64, .long (0 : Int64), .long v4]) (rest := []) (rv2 := fun (x : Int32) => some (.int x)) (h2 := fun (_ : Int32) => zput R h0 s) dX6_told_42 vX6_in (.inl zw985) (by decide) rfl rfl (by decide) (fun x hx => kX6_in G (zput R h0 s) a3.toInt64 (0 : Int64) v4 hx) (fun x6 => ?_)
        try dsimp only [Option.toList, List.cons_append, List.nil_append]
        refine z_if_ne (tgt := 51) dX6_told_45 (by decide) (fun _ => ?_) (fun _ => ?_)
        · refine z_bipush (v := -9) dX6_told_48 (by decide) ?_
          exact z_iret dX6_told_50 rfl rfl rfl rfl
        · refine z_iload_n (j := 2) dX6_told_51 rfl rfl ?_
          refine z_if_ge (tgt := 83) dX6_told_52 (by decide) (fun _ => ?_) (fun _ => ?_)
          · refine z_bipush (v := 6) dX6_told_83 (by decide) ?_
            refine z_iload_n (j := 1) dX6_told_85 rfl rfl ?_
            refine z_imul dX6_told_86 ?_
            refine z_iload_n (j := 2) dX6_told_87 rfl rfl ?_
            refine z_iadd dX6_told_88 ?_
            refine z_istore (lv' := [(4, .int (((6 : Int32) * a1) + a2)), (0, zrv G.2.1 (some R)), (1, .int a1), (2, .int a2), (3, .int a3)]) dX6_told_89 (by decide) rfl ?_
            refine z_iload_n (j := 4) dX6_told_91 rfl rfl ?_
            refine z_join (pc2 := 142) (lv2 := fun (q : Int32) => []) (st2 := fun (q : Int32) => [.int q]) (h2 := fun (q : Int32) => zput R h0 s) (fun q => ?_) (fun F8 kF8 => ?_)
            · obtain ⟨v7, e0⟩ : ∃ z, z = q := ⟨_, rfl⟩
              subst e0
              try dsimp only
              exact z_iret dX6_told_142 rfl rfl rfl rfl
            · refine z_itb ?_
              refine z_if_ne (tgt := 105) dX6_told_92 (by decide) (fun _ => ?_) (fun _ => ?_)
              · refine z_aload_n (j := 1) dX6_told_95 rfl rfl ?_
                refine z_rgetA (k := 3) (a := 2) hF dX6_told_96 (by decide) rfl zw779 rfl ?_
                refine z_iload (j := 0) dX6_told_99 rfl ?_
                refine z_as ?_
                refine z_riald hF dX6_told_101 (fun x9 => ?_)
                refine z_goto (tgt := 142) dX6_told_102 (by decide) ?_
                refine z_sb ?_
                refine z_at [] rfl ?_
                exact kF8 x9
              · refine z_iload_n (j := 4) dX6_told_105 rfl rfl ?_
                refine z_iconst (v := 1) dX6_told_106 (by decide) ?_
                refine z_itb ?_
                refine z_icmp_ne (tgt := 120) dX6_told_107 (by decide) (fun _ => ?_) (fun _ => ?_)
                · refine z_aload_n (j := 1) dX6_told_110 rfl rfl ?_
                  refine z_rgetA (k := 4) (a := 3) hF dX6_told_111 (by decide) rfl zw780 rfl ?_
                  refine z_iload (j := 0) dX6_told_114 rfl ?_
                  refine z_as ?_
                  refine z_riald hF dX6_told_116 (fun x10 => ?_)
                  refine z_goto (tgt := 142) dX6_told_117 (by decide) ?_
                  refine z_sb ?_
                  refine z_at [] rfl ?_
                  exact kF8 x10
                · refine z_iload_n (j := 4) dX6_told_120 rfl rfl ?_
                  refine z_iconst (v := 2) dX6_told_121 (by decide) ?_
                  refine z_itb ?_
                  refine z_icmp_ne (tgt := 135) dX6_told_122 (by decide) (fun _ => ?_) (fun _ => ?_)
                  · refine z_aload_n (j := 1) dX6_told_125 rfl rfl ?_
                    refine z_rgetA (k := 5) (a := 4) hF dX6_told_126 (by decide) rfl zw781 rfl ?_
                    refine z_iload (j := 0) dX6_told_129 rfl ?_
                    refine z_as ?_
                    refine z_riald hF dX6_told_131 (fun x11 => ?_)
                    refine z_goto (tgt := 142) dX6_told_132 (by decide) ?_
                    refine z_sb ?_
                    refine z_at [] rfl ?_
                    exact kF8 x11
                  · refine z_aload_n (j := 1) dX6_told_135 rfl rfl ?_
                    refine z_rgetA (k := 6) (a := 5) hF dX6_told_136 (by decide) rfl zw782 rfl ?_
                    refine z_iload (j := 0) dX6_told_139 rfl ?_
                    refine z_as ?_
                    refine z_riald hF dX6_told_141 (fun x12 => ?_)
                    refine z_sb ?_
                    refine z_at [] rfl ?_
                    exact kF8 x12
          · refine z_iload_n (j := 3) dX6_told_55 rfl rfl ?_
            refine z_join (pc2 := 82) (lv2 := fun (q : Int32) => []) (st2 := fun (q : Int32) => [.int q]) (h2 := fun (q : Int32) => zput R h0 s) (fun q => ?_) (fun F14 kF14 => ?_)
            · obtain ⟨v13, e0⟩ : ∃ z, z = q := ⟨_, rfl⟩
              subst e0
              try dsimp only
              exact z_iret dX6_told_82 rfl rfl rfl rfl
            · refine z_itb ?_
              refine z_if_ne (tgt := 68) dX6_told_56 (by decide) (fun _ => ?_) (fun _ => ?_)
              · refine z_aload_n (j := 0) dX6_told_59 rfl rfl ?_
                refine z_rgetA (k := 1) (a := 0) hF dX6_told_60 (by decide) rfl zw777 rfl ?_
                refine z_iload_n (j := 1) dX6_told_63 rfl rfl ?_
                refine z_as ?_
                refine z_riald hF dX6_told_64 (fun x15 => ?_)
                refine z_goto (tgt := 82) dX6_told_65 (by decide) ?_
                refine z_sb ?_
                refine z_at [] rfl ?_
                exact kF14 x15
              · refine z_aload_n (j := 0) dX6_told_68 rfl rfl ?_
                refine z_rgetA (k := 2) (a := 1) hF dX6_told_69 (by decide) rfl zw778 rfl ?_
                refine z_iload_n (j := 1) dX6_told_72 rfl rfl ?_
                refine z_as ?_
                refine z_rzald hF dX6_told_73 (fun x16 => ?_)
                refine z_itb ?_
                refine z_if_eq (tgt := 81) dX6_told_74 (by decide) (fun _ => ?_) (fun _ => ?_)
                · refine z_iconst (v := 0) dX6_told_81 (by decide) ?_
                  refine z_sb ?_
                  refine z_at [] rfl ?_
                  exact kF14 (0 : Int32)
                · refine z_iconst (v := 1) dX6_told_77 (by decide) ?_
                  refine z_goto (tgt := 82) dX6_told_78 (by decide) ?_
                  refine z_sb ?_
                  refine z_at [] rfl ?_
                  exact kF14 (1 : Int32)
      · refine z_itb ?_
        refine z_if_ge (tgt := 39) dX6_told_32 (by decide) (fun _ => ?_) (fun _ => ?_)
        · refine z_ldc2 (v := 3) dX6_told_39 zw1010 ?_
          refine z_sb ?_
          refine z_at [0, 1, 2, 3] rfl ?_
          exact kF5 (3 : Int64)
        · refine z_lconst (v := 1) dX6_told_35 (by decide) ?_
          refine z_goto (tgt := 42) dX6_told_36 (by decide) ?_
          refine z_sb ?_
          refine z_at [0, 1, 2, 3] rfl ?_
          exact kF5 (1 : Int64)
def fX6_isIn (s : Zr) (a1 : Int32) (a2 : Int32) : Option (Int32) :=
  (zdiv a1 (6 : Int32)).bind fun x1 =>
  (if (s 0 0) ≤ x1 then
    some (0 : Int32)
  else
    (rdZ s 2 x1).bind fun x4 =>
    if x4 = 0 then
      (zrem a1 (6 : Int32)).bind fun x5 =>
      (rdI s 1 x1).bind fun x6 =>
      if x6 ≤ x5 then
        some (0 : Int32)
      else
        if a2 = 0 then
          some (1 : Int32)
        else
          (zrem a1 (6 : Int32)).bind fun x7 =>
          if x7 ≤ 0 then
            some (0 : Int32)
          else
            some (1 : Int32)
    else
      some (0 : Int32)).bind fun (v2 : Int32) =>
  (zbo v2).bind fun _ =>
  some v2
set_option maxRecDepth 100000 in
set_option maxHeartbeats 4000000 in
theorem kX6_isIn (G : Zg) (R : Nat) (h0 : Zh) (hF : zRF R h0) (s : Zr) (a1 : Int32) (a2 : Int32) {x : Int32} (hx : fX6_isIn s a1 a2 = some x) : zCt G yX6_isIn cX6_isIn 4 (Option.some Jvm.ClassFile.FieldType.boolean) 1 [zrv G.2.1 (some R), .int a1, .int a2] (zput R h0 s) (some (.int x)) (zput R h0 s) := by
  refine z_met (a := x) (rvf := fun (x : Int32) => some (.int x)) (hff := fun (_ : Int32) => zput R h0 s) (lv := [(0, zrv G.2.1 (some R)), (1, .int a1), (2, .int a2)]) (by decide +kernel) (by simp [lg_sl, zcat1, zcI, zcJ]) (by simp [lv_args, zcat1, zcI, zcJ]) ?_ hx
  unfold fX6_isIn
  refine z_iload_n (j := 1) dX6_isIn_0 rfl rfl ?_
  refine z_bipush (v := 6) dX6_isIn_1 (by decide) ?_
  refine z_idiv dX6_isIn_3 (fun x1 => ?_)
  refine z_istore_n (lv' := [(3, .int x1), (0, zrv G.2.1 (some R)), (1, .int a1), (2, .int a2)]) dX6_isIn_4 rfl (by decide) rfl ?_
  refine z_iload_n (j := 0) dX6_isIn_5 rfl rfl ?_
  refine z_aload_n (j := 1) dX6_isIn_6 rfl rfl ?_
  refine z_rgetI (k := 0) hF dX6_isIn_7 (by decide) rfl zw776 ?_
  refine z_join (pc2 := 51) (lv2 := fun (q : Int32) => []) (st2 := fun (q : Int32) => [.int q]) (h2 := fun (q : Int32) => zput R h0 s) (fun q => ?_) (fun F3 kF3 => ?_)
  · obtain ⟨v2, e0⟩ : ∃ z, z = q := ⟨_, rfl⟩
    subst e0
    try dsimp only
    refine z_bo (fun hbb8 => ?_)
    exact z_iret dX6_isIn_51 rfl (by rcases hbb8 with q | q <;> rw [q] <;> rfl) rfl rfl
  · refine z_itb ?_
    refine z_icmp_ge (tgt := 50) dX6_isIn_10 (by decide) (fun _ => ?_) (fun _ => ?_)
    · refine z_iconst (v := 0) dX6_isIn_50 (by decide) ?_
      refine z_sb ?_
      refine z_at [] rfl ?_
      exact kF3 (0 : Int32)
    · refine z_aload_n (j := 1) dX6_isIn_13 rfl rfl ?_
      refine z_rgetA (k := 2) (a := 1) hF dX6_isIn_14 (by decide) rfl zw778 rfl ?_
      refine z_iload_n (j := 0) dX6_isIn_17 rfl rfl ?_
      refine z_as ?_
      refine z_rzald hF dX6_isIn_18 (fun x4 => ?_)
      refine z_itb ?_
      refine z_if_ne (tgt := 50) dX6_isIn_19 (by decide) (fun _ => ?_) (fun _ => ?_)
      · refine z_iload_n (j := 2) dX6_isIn_22 rfl rfl ?_
        refine z_bipush (v := 6) dX6_isIn_23 (by decide) ?_
        refine z_as ?_
        refine z_irem dX6_isIn_25 (fun x5 => ?_)
        refine z_aload_n (j := 1) dX6_isIn_26 rfl rfl ?_
        refine z_rgetA (k := 1) (a := 0) hF dX6_isIn_27 (by decide) rfl zw777 rfl ?_
        refine z_iload_n (j := 0) dX6_isIn_30 rfl rfl ?_
        refine z_as ?_
        refine z_riald hF dX6_isIn_31 (fun x6 => ?_)
        refine z_itb ?_
        refine z_icmp_ge (tgt := 50) dX6_isIn_32 (by decide) (fun _ => ?_) (fun _ => ?_)
        · refine z_iconst (v := 0) dX6_isIn_50 (by decide) ?_
          refine z_sb ?_
          refine z_at [] rfl ?_
          exact kF3 (0 : Int32)
        · refine z_iload_n (j := 3) dX6_isIn_35 rfl rfl ?_
          refine z_itb ?_
          refine z_if_eq (tgt := 46) dX6_isIn_36 (by decide) (fun _ => ?_) (fun _ => ?_)
          · refine z_iconst (v := 1) dX6_isIn_46 (by decide) ?_
            refine z_goto (tgt := 51) dX6_isIn_47 (by decide) ?_
            refine z_sb ?_
            refine z_at [] rfl ?_
            exact kF3 (1 : Int32)
          · refine z_iload_n (j := 2) dX6_isIn_39 rfl rfl ?_
            refine z_bipush (v := 6) dX6_isIn_40 (by decide) ?_
            refine z_as ?_
            refine z_irem dX6_isIn_42 (fun x7 => ?_)
            refine z_itb ?_
            refine z_if_le (tgt := 50) dX6_isIn_43 (by decide) (fun _ => ?_) (fun _ => ?_)
            · refine z_iconst (v := 0) dX6_isIn_50 (by decide) ?_
              refine z_sb ?_
              refine z_at [] rfl ?_
              exact kF3 (0 : Int32)
            · refine z_iconst (v := 1) dX6_isIn_46 (by decide) ?_
              refine z_goto (tgt := 51) dX6_isIn_47 (by decide) ?_
              refine z_sb ?_
              refine z_at [] rfl ?_
              exact kF3 (1 : Int32)
      · refine z_iconst (v := 0) dX6_isIn_50 (by decide) ?_
        refine z_sb ?_
        refine z_at [] rfl ?_
        exact kF3 (0 : Int32)
def fX6_follows (s : Zr) (a1 : Int32) (a2 : Int32) : Option (Int32) :=
  (fX6_isName a1).bind fun x1 =>
  if x1 = 0 then
    some (-1 : Int32)
  else
    (fX6_isName a2).bind fun x2 =>
    if x2 = 0 then
      some (-1 : Int32)
    else
      (zloop (fun ((v3, v4) : Int32 × Int32) =>
        (if (144 : Int32) ≤ v4 then
          some (.inr v3)
        else
          (fX6_isIn s v4 (1 : Int32)).bind fun x8 =>
          (if x8 = 0 then
            some (0 : Int32)
          else
            (rdI s 3 v4).bind fun x11 =>
            if x11 = a1 then
              (rdI s 3 (v4 - (1 : Int32))).bind fun x12 =>
              if x12 = a2 then
                some (1 : Int32)
              else
                some (0 : Int32)
            else
              some (0 : Int32)).bind fun (v9 : Int32) =>
          some (.inl (v3 + v9, v4 + (1 : Int32))) : Option ((Int32 × Int32) ⊕ Int32))) zFU ((0 : Int32), (0 : Int32))).bind fun (w5 : Int32) =>
      some w5
set_option maxRecDepth 100000 in
set_option maxHeartbeats 4000000 in
theorem kX6_follows (G : Zg) (R : Nat) (h0 : Zh) (hF : zRF R h0) (s : Zr) (a1 : Int32) (a2 : Int32) {x : Int32} (hx : fX6_follows s a1 a2 = some x) : zCt G yX6_follows cX6_follows 5 (Option.some Jvm.ClassFile.FieldType.int) 3 [zrv G.2.1 (some R), .int a1, .int a2] (zput R h0 s) (some (.int x)) (zput R h0 s) := by
  refine z_met (a := x) (rvf := fun (x : Int32) => some (.int x)) (hff := fun (_ : Int32) => zput R h0 s) (lv := [(0, zrv G.2.1 (some R)), (1, .int a1), (2, .int a2)]) (by decide +kernel) (by simp [lg_sl, zcat1, zcI, zcJ]) (by simp [lv_args, zcat1, zcI, zcJ]) ?_ hx
  unfold fX6_follows
  refine z_iload_n (j := 1) dX6_follows_0 rfl rfl ?_
  refine z_callS (As := [.int a1]) (rest := []) (rv2 := fun (x : Int32) => some (.int x)) (h2 := fun (_ : Int32) => zput R h0 s) dX6_follows_1 vX6_isName (.inl zw988) (by decide) rfl rfl (by decide) (fun x hx => kX6_isName G (zput R h0 s) a1 hx) (fun x1 => ?_)
  try dsimp only [Option.toList, List.cons_append, List.nil_append]
  refine z_if_eq (tgt := 14) dX6_follows_4 (by decide) (fun _ => ?_) (fun _ => ?_)
  · refine z_iconst (v := -1) dX6_follows_14 (by decide) ?_
    exact z_iret dX6_follows_15 rfl rfl rfl rfl
  · refine z_iload_n (j := 2) dX6_follows_7 rfl rfl ?_
    refine z_callS (As := [.int a2]) (rest := []) (rv2 := fun (x : Int32) => some (.int x)) (h2 := fun (_ : Int32) => zput R h0 s) dX6_follows_8 vX6_isName (.inl zw988) (by decide) rfl rfl (by decide) (fun x hx => kX6_isName G (zput R h0 s) a2 hx) (fun x2 => ?_)
    try dsimp only [Option.toList, List.cons_append, List.nil_append]
    refine z_if_ne (tgt := 16) dX6_follows_11 (by decide) (fun _ => ?_) (fun _ => ?_)
    · refine z_iconst (v := -1) dX6_follows_14 (by decide) ?_
      exact z_iret dX6_follows_15 rfl rfl rfl rfl
    · refine z_iconst (v := 0) dX6_follows_16 (by decide) ?_
      refine z_istore_n (lv' := [(3, .int (0 : Int32)), (0, zrv G.2.1 (some R)), (1, .int a1), (2, .int a2)]) dX6_follows_17 rfl (by decide) rfl ?_
      refine z_iconst (v := 0) dX6_follows_18 (by decide) ?_
      refine z_istore (lv' := [(4, .int (0 : Int32)), (3, .int (0 : Int32)), (0, zrv G.2.1 (some R)), (1, .int a1), (2, .int a2)]) dX6_follows_19 (by decide) rfl ?_
      refine z_at [2, 3, 4, 1, 0] rfl ?_
      refine z_join (pc2 := 77) (lv2 := fun (q : Int32) => [(3, .int q)]) (st2 := fun _ => []) (h2 := fun (q : Int32) => zput R h0 s) (fun q => ?_) (fun F6 kF6 => ?_)
      · obtain ⟨w5, e0⟩ : ∃ z, z = q := ⟨_, rfl⟩
        subst e0
        try dsimp only
        refine z_iload_n (j := 0) dX6_follows_77 rfl rfl ?_
        exact z_iret dX6_follows_78 rfl rfl rfl rfl
      · refine z_loop (lvf := fun (q : Int32 × Int32) => [(0, zrv G.2.1 (some R)), (1, .int a1), (2, .int a2), (3, .int q.1), (4, .int q.2)]) (hf2 := fun (q : Int32 × Int32) => zput R h0 s) (s0 := ((0 : Int32), (0 : Int32))) (fun K7 bK7 rK7 q => ?_)
        obtain ⟨v3, v4⟩ := q
        try dsimp only
        refine z_iload (j := 4) dX6_follows_21 rfl ?_
        refine z_sipush (v := 144) dX6_follows_23 (by decide) ?_
        refine z_itb ?_
        refine z_icmp_ge (tgt := 77) dX6_follows_26 (by decide) (fun _ => ?_) (fun _ => ?_)
        · refine z_sb ?_
          refine z_eq (rK7 _) ?_
          refine z_at [3] rfl ?_
          exact kF6 v3
        · refine z_iload_n (j := 3) dX6_follows_29 rfl rfl ?_
          refine z_aload_n (j := 0) dX6_follows_30 rfl rfl ?_
          refine z_iload (j := 4) dX6_follows_31 rfl ?_
          refine z_iconst (v := 1) dX6_follows_33 (by decide) ?_
          refine z_as ?_
          refine z_callV (As := [.int v4, .int (1 : Int32)]) (rest := [.int v3]) (rv2 := fun (x : Int32) => some (.int x)) (h2 := fun (_ : Int32) => zput R h0 s) dX6_follows_34 vX6_isIn (.inl zw1015) (by decide) zkl7 (zRrecv hF).1 (zRrecv hF).2 rfl rfl (by simp [zcat1, zcI, zcJ]) (fun x hx => kX6_isIn G R h0 hF s v4 (1 : Int32) hx) (fun x8 => ?_)
          try dsimp only [Option.toList, List.cons_append, List.nil_append]
          refine z_as ?_
          refine z_join (pc2 := 69) (lv2 := fun (q : Int32) => [(0, zrv G.2.1 (some R)), (1, .int a1), (2, .int a2), (4, .int v4)]) (st2 := fun (q : Int32) => [.int q, .int v3]) (h2 := fun (q : Int32) => zput R h0 s) (fun q => ?_) (fun F10 kF10 => ?_)
          · obtain ⟨v9, e0⟩ : ∃ z, z = q := ⟨_, rfl⟩
            subst e0
            try dsimp only
            refine z_iadd dX6_follows_69 ?_
            refine z_istore_n (lv' := [(3, .int (v3 + v9)), (0, zrv G.2.1 (some R)), (1, .int a1), (2, .int a2), (4, .int v4)]) dX6_follows_70 rfl (by decide) rfl ?_
            refine z_iinc (j := 4) (v := v4 + (1 : Int32)) (lv' := [(4, .int (v4 + (1 : Int32))), (3, .int (v3 + v9)), (0, zrv G.2.1 (some R)), (1, .int a1), (2, .int a2)]) dX6_follows_71 rfl rfl (by decide) rfl ?_
            refine z_goto (tgt := 21) dX6_follows_74 (by decide) ?_
            refine z_sb ?_
            refine z_at [2, 3, 4, 1, 0] rfl ?_
            exact bK7 (v3 + v9, v4 + (1 : Int32))
          · refine z_itb ?_
            refine z_if_eq (tgt := 68) dX6_follows_37 (by decide) (fun _ => ?_) (fun _ => ?_)
            · refine z_iconst (v := 0) dX6_follows_68 (by decide) ?_
              refine z_sb ?_
              refine z_at [0, 1, 2, 4] rfl ?_
              exact kF10 (0 : Int32)
            · refine z_aload_n (j := 0) dX6_follows_40 rfl rfl ?_
              refine z_rgetA (k := 3) (a := 2) hF dX6_follows_41 (by decide) rfl zw779 rfl ?_
              refine z_iload (j := 4) dX6_follows_44 rfl ?_
              refine z_as ?_
              refine z_riald hF dX6_follows_46 (fun x11 => ?_)
              refine z_iload_n (j := 1) dX6_follows_47 rfl rfl ?_
              refine z_itb ?_
              refine z_icmp_ne (tgt := 68) dX6_follows_48 (by decide) (fun _ => ?_) (fun _ => ?_)
              · refine z_aload_n (j := 0) dX6_follows_51 rfl rfl ?_
                refine z_rgetA (k := 3) (a := 2) hF dX6_follows_52 (by decide) rfl zw779 rfl ?_
                refine z_iload (j := 4) dX6_follows_55 rfl ?_
                refine z_iconst (v := 1) dX6_follows_57 (by decide) ?_
                refine z_isub dX6_follows_58 ?_
                refine z_as ?_
                refine z_riald hF dX6_follows_59 (fun x12 => ?_)
                refine z_iload_n (j := 2) dX6_follows_60 rfl rfl ?_
                refine z_itb ?_
                refine z_icmp_ne (tgt := 68) dX6_follows_61 (by decide) (fun _ => ?_) (fun _ => ?_)
                · refine z_iconst (v := 1) dX6_follows_64 (by decide) ?_
                  refine z_goto (tgt := 69) dX6_follows_65 (by decide) ?_
                  refine z_sb ?_
                  refine z_at [0, 1, 2, 4] rfl ?_
                  exact kF10 (1 : Int32)
                · refine z_iconst (v := 0) dX6_follows_68 (by decide) ?_
                  refine z_sb ?_
                  refine z_at [0, 1, 2, 4] rfl ?_
                  exact kF10 (0 : Int32)
              · refine z_iconst (v := 0) dX6_follows_68 (by decide) ?_
                refine z_sb ?_
                refine z_at [0, 1, 2, 4] rfl ?_
                exact kF10 (0 : Int32)
def fX6_stands (s : Zr) (a1 : Int32) (a2 : Int32) : Option (Int32) :=
  (fX6_isName a1).bind fun x1 =>
  if x1 = 0 then
    some (-1 : Int32)
  else
    (fX6_in a2.toInt64 (0 : Int64) (2 : Int64)).bind fun x2 =>
    if x2 = 0 then
      some (-1 : Int32)
    else
      (zloop (fun ((v3, v4) : Int32 × Int32) =>
        (if (144 : Int32) ≤ v4 then
          some (.inr v3)
        else
          (fX6_isIn s v4 (0 : Int32)).bind fun x8 =>
          (if x8 = 0 then
            some v3
          else
            (rdI s 3 v4).bind fun x11 =>
            if x11 = a1 then
              (if a2 = (2 : Int32) then
                some (1 : Int32)
              else
                if a2 = 0 then
                  (zrem v4 (6 : Int32)).bind fun x14 =>
                  if x14 = 0 then
                    some (1 : Int32)
                  else
                    if a2 = (1 : Int32) then
                      (zrem v4 (6 : Int32)).bind fun x15 =>
                      (zdiv v4 (6 : Int32)).bind fun x16 =>
                      (rdI s 1 x16).bind fun x17 =>
                      if x15 = (x17 - (1 : Int32)) then
                        some (1 : Int32)
                      else
                        some (0 : Int32)
                    else
                      some (0 : Int32)
                else
                  if a2 = (1 : Int32) then
                    (zrem v4 (6 : Int32)).bind fun x18 =>
                    (zdiv v4 (6 : Int32)).bind fun x19 =>
                    (rdI s 1 x19).bind fun x20 =>
                    if x18 = (x20 - (1 : Int32)) then
                      some (1 : Int32)
                    else
                      some (0 : Int32)
                  else
                    some (0 : Int32)).bind fun (v12 : Int32) =>
              some (v3 + v12)
            else
              some v3).bind fun (v9 : Int32) =>
          some (.inl (v9, v4 + (1 : Int32))) : Option ((Int32 × Int32) ⊕ Int32))) zFU ((0 : Int32), (0 : Int32))).bind fun (w5 : Int32) =>
      some w5
set_option maxRecDepth 100000 in
set_option maxHeartbeats 4000000 in
theorem kX6_stands (G : Zg) (R : Nat) (h0 : Zh) (hF : zRF R h0) (s : Zr) (a1 : Int32) (a2 : Int32) {x : Int32} (hx : fX6_stands s a1 a2 = some x) : zCt G yX6_stands cX6_stands 5 (Option.some Jvm.ClassFile.FieldType.int) 3 [zrv G.2.1 (some R), .int a1, .int a2] (zput R h0 s) (some (.int x)) (zput R h0 s) := by
  refine z_met (a := x) (rvf := fun (x : Int32) => some (.int x)) (hff := fun (_ : Int32) => zput R h0 s) (lv := [(0, zrv G.2.1 (some R)), (1, .int a1), (2, .int a2)]) (by decide +kernel) (by simp [lg_sl, zcat1, zcI, zcJ]) (by simp [lv_args, zcat1, zcI, zcJ]) ?_ hx
  unfold fX6_stands
  refine z_iload_n (j := 1) dX6_stands_0 rfl rfl ?_
  refine z_callS (As := [.int a1]) (rest := []) (rv2 := fun (x : Int32) => some (.int x)) (h2 := fun (_ : Int32) => zput R h0 s) dX6_stands_1 vX6_isName (.inl zw988) (by decide) rfl rfl (by decide) (fun x hx => kX6_isName G (zput R h0 s) a1 hx) (fun x1 => ?_)
  try dsimp only [Option.toList, List.cons_append, List.nil_append]
  refine z_if_eq (tgt := 19) dX6_stands_4 (by decide) (fun _ => ?_) (fun _ => ?_)
  · refine z_iconst (v := -1) dX6_stands_19 (by decide) ?_
    exact z_iret dX6_stands_20 rfl rfl rfl rfl
  · refine z_iload_n (j := 2) dX6_stands_7 rfl rfl ?_
    refine z_i2l dX6_stands_8 ?_
    refine z_lconst (v := 0) dX6_stands_9 (by decide) ?_
    refine z_ldc2 (v := 2) dX6_stands_10 zw1023 ?_
    refine z_callS (As := [.long a2.toInt64, .long (0 : Int64), .long (2 : Int64)]) (rest := []) (rv2 := fun (x : Int32) => some (.int x)) (h2 := fun (_ : Int32) => zput R h0 s) dX6_stands_13 vX6_in (.inl zw985) (by decide) rfl rfl (by decide) (fun x hx => kX6_in G (zput R h0 s) a2.toInt64 (0 : Int64) (2 : Int64) hx) (fun x2 => ?_)
    try dsimp only [Option.toList, List.cons_append, List.nil_append]
    refine z_if_ne (tgt := 21) dX6_stands_16 (by decide) (fun _ => ?_) (fun _ => ?_)
    · refine z_iconst (v := -1) dX6_stands_19 (by decide) ?_
      exact z_iret dX6_stands_20 rfl rfl rfl rfl
    · refine z_iconst (v := 0) dX6_stands_21 (by decide) ?_
      refine z_istore_n (lv' := [(3, .int (0 : Int32)), (0, zrv G.2.1 (some R)), (1, .int a1), (2, .int a2)]) dX6_stands_22 rfl (by decide) rfl ?_
      refine z_iconst (v := 0) dX6_stands_23 (by decide) ?_
      refine z_istore (lv' := [(4, .int (0 : Int32)), (3, .int (0 : Int32)), (0, zrv G.2.1 (some R)), (1, .int a1), (2, .int a2)]) dX6_stands_24 (by decide) rfl ?_
      refine z_at [2, 3, 4, 1, 0] rfl ?_
      refine z_join (pc2 := 111) (lv2 := fun (q : Int32) => [(3, .int q)]) (st2 := fun _ => []) (h2 := fun (q : Int32) => zput R h0 s) (fun q => ?_) (fun F6 kF6 => ?_)
      · obtain ⟨w5, e0⟩ : ∃ z, z = q := ⟨_, rfl⟩
        subst e0
        try dsimp only
        refine z_iload_n (j := 0) dX6_stands_111 rfl rfl ?_
        exact z_iret dX6_stands_112 rfl rfl rfl rfl
      · refine z_loop (lvf := fun (q : Int32 × Int32) => [(0, zrv G.2.1 (some R)), (1, .int a1), (2, .int a2), (3, .int q.1), (4, .int q.2)]) (hf2 := fun (q : Int32 × Int32) => zput R h0 s) (s0 := ((0 : Int32), (0 : Int32))) (fun K7 bK7 rK7 q => ?_)
        obtain ⟨v3, v4⟩ := q
        try dsimp only
        refine z_iload (j := 4) dX6_stands_26 rfl ?_
        refine z_sipush (v := 144) dX6_stands_28 (by decide) ?_
        refine z_itb ?_
        refine z_icmp_ge (tgt := 111) dX6_stands_31 (by decide) (fun _ => ?_) (fun _ => ?_)
        · refine z_sb ?_
          refine z_eq (rK7 _) ?_
          refine z_at [3] rfl ?_
          exact kF6 v3
        · refine z_aload_n (j := 0) dX6_stands_34 rfl rfl ?_
          refine z_iload (j := 4) dX6_stands_35 rfl ?_
          refine z_iconst (v := 0) dX6_stands_37 (by decide) ?_
          refine z_as ?_
          refine z_callV (As := [.int v4, .int (0 : Int32)]) (rest := []) (rv2 := fun (x : Int32) => some (.int x)) (h2 := fun (_ : Int32) => zput R h0 s) dX6_stands_38 vX6_isIn (.inl zw1015) (by decide) zkl7 (zRrecv hF).1 (zRrecv hF).2 rfl rfl (by decide) (fun x hx => kX6_isIn G R h0 hF s v4 (0 : Int32) hx) (fun x8 => ?_)
          try dsimp only [Option.toList, List.cons_append, List.nil_append]
          refine z_as ?_
          refine z_join (pc2 := 105) (lv2 := fun (q : Int32) => [(0, zrv G.2.1 (some R)), (1, .int a1), (2, .int a2), (3, .int q), (4, .int v4)]) (st2 := fun (q : Int32) => []) (h2 := fun (q : Int32) => zput R h0 s) (fun q => ?_) (fun F10 kF10 => ?_)
          · obtain ⟨v9, e0⟩ : ∃ z, z = q := ⟨_, rfl⟩
            subst e0
            try dsimp only
            refine z_iinc (j := 4) (v := v4 + (1 : Int32)) (lv' := [(4, .int (v4 + (1 : Int32))), (0, zrv G.2.1 (some R)), (1, .int a1), (2, .int a2), (3, .int v9)]) dX6_stands_105 rfl rfl (by decide) rfl ?_
            refine z_goto (tgt := 26) dX6_stands_108 (by decide) ?_
            refine z_sb ?_
            refine z_at [1, 2, 3, 4, 0] rfl ?_
            exact bK7 (v9, v4 + (1 : Int32))
          · refine z_itb ?_
            refine z_if_eq (tgt := 105) dX6_stands_41 (by decide) (fun _ => ?_) (fun _ => ?_)
            · refine z_sb ?_
              refine z_at [0, 1, 2, 3, 4] rfl ?_
              exact kF10 v3
            · refine z_aload_n (j := 0) dX6_stands_44 rfl rfl ?_
              refine z_rgetA (k := 3) (a := 2) hF dX6_stands_45 (by decide) rfl zw779 rfl ?_
              refine z_iload (j := 4) dX6_stands_48 rfl ?_
              refine z_as ?_
              refine z_riald hF dX6_stands_50 (fun x11 => ?_)
              refine z_iload_n (j := 1) dX6_stands_51 rfl rfl ?_
              refine z_itb ?_
              refine z_icmp_ne (tgt := 105) dX6_stands_52 (by decide) (fun _ => ?_) (fun _ => ?_)
              · refine z_iload_n (j := 3) dX6_stands_55 rfl rfl ?_
                refine z_iload_n (j := 2) dX6_stands_56 rfl rfl ?_
                refine z_iconst (v := 2) dX6_stands_57 (by decide) ?_
                refine z_as ?_
                refine z_join (pc2 := 103) (lv2 := fun (q : Int32) => [(0, zrv G.2.1 (some R)), (1, .int a1), (2, .int a2), (4, .int v4)]) (st2 := fun (q : Int32) => [.int q, .int v3]) (h2 := fun (q : Int32) => zput R h0 s) (fun q => ?_) (fun F13 kF13 => ?_)
                · obtain ⟨v12, e0⟩ : ∃ z, z = q := ⟨_, rfl⟩
                  subst e0
                  try dsimp only
                  refine z_iadd dX6_stands_103 ?_
                  refine z_istore_n (lv' := [(3, .int (v3 + v12)), (0, zrv G.2.1 (some R)), (1, .int a1), (2, .int a2), (4, .int v4)]) dX6_stands_104 rfl (by decide) rfl ?_
                  refine z_sb ?_
                  refine z_at [1, 2, 3, 0, 4] rfl ?_
                  exact kF10 (v3 + v12)
                · refine z_itb ?_
                  refine z_icmp_eq (tgt := 98) dX6_stands_58 (by decide) (fun _ => ?_) (fun _ => ?_)
                  · refine z_iconst (v := 1) dX6_stands_98 (by decide) ?_
                    refine z_goto (tgt := 103) dX6_stands_99 (by decide) ?_
                    refine z_sb ?_
                    refine z_at [0, 1, 2, 4] rfl ?_
                    exact kF13 (1 : Int32)
                  · refine z_iload_n (j := 2) dX6_stands_61 rfl rfl ?_
                    refine z_itb ?_
                    refine z_if_ne (tgt := 73) dX6_stands_62 (by decide) (fun _ => ?_) (fun _ => ?_)
                    · refine z_iload (j := 4) dX6_stands_65 rfl ?_
                      refine z_bipush (v := 6) dX6_stands_67 (by decide) ?_
                      refine z_as ?_
                      refine z_irem dX6_stands_69 (fun x14 => ?_)
                      refine z_itb ?_
                      refine z_if_eq (tgt := 98) dX6_stands_70 (by decide) (fun _ => ?_) (fun _ => ?_)
                      · refine z_iconst (v := 1) dX6_stands_98 (by decide) ?_
                        refine z_goto (tgt := 103) dX6_stands_99 (by decide) ?_
                        refine z_sb ?_
                        refine z_at [0, 1, 2, 4] rfl ?_
                        exact kF13 (1 : Int32)
                      · refine z_iload_n (j := 2) dX6_stands_73 rfl rfl ?_
                        refine z_iconst (v := 1) dX6_stands_74 (by decide) ?_
                        refine z_itb ?_
                        refine z_icmp_ne (tgt := 102) dX6_stands_75 (by decide) (fun _ => ?_) (fun _ => ?_)
                        · refine z_iload (j := 4) dX6_stands_78 rfl ?_
                          refine z_bipush (v := 6) dX6_stands_80 (by decide) ?_
                          refine z_as ?_
                          refine z_irem dX6_stands_82 (fun x15 => ?_)
                          refine z_aload_n (j := 0) dX6_stands_83 rfl rfl ?_
                          refine z_rgetA (k := 1) (a := 0) hF dX6_stands_84 (by decide) rfl zw777 rfl ?_
                          refine z_iload (j := 4) dX6_stands_87 rfl ?_
                          refine z_bipush (v := 6) dX6_stands_89 (by decide) ?_
                          refine z_as ?_
                          refine z_idiv dX6_stands_91 (fun x16 => ?_)
                          refine z_as ?_
                          refine z_riald hF dX6_stands_92 (fun x17 => ?_)
                          refine z_iconst (v := 1) dX6_stands_93 (by decide) ?_
                          refine z_isub dX6_stands_94 ?_
                          refine z_itb ?_
                          refine z_icmp_ne (tgt := 102) dX6_stands_95 (by decide) (fun _ => ?_) (fun _ => ?_)
                          · refine z_iconst (v := 1) dX6_stands_98 (by decide) ?_
                            refine z_goto (tgt := 103) dX6_stands_99 (by decide) ?_
                            refine z_sb ?_
                            refine z_at [0, 1, 2, 4] rfl ?_
                            exact kF13 (1 : Int32)
                          · refine z_iconst (v := 0) dX6_stands_102 (by decide) ?_
                            refine z_sb ?_
                            refine z_at [0, 1, 2, 4] rfl ?_
                            exact kF13 (0 : Int32)
                        · refine z_iconst (v := 0) dX6_stands_102 (by decide) ?_
                          refine z_sb ?_
                          refine z_at [0, 1, 2, 4] rfl ?_
                          exact kF13 (0 : Int32)
                    · refine z_iload_n (j := 2) dX6_stands_73 rfl rfl ?_
                      refine z_iconst (v := 1) dX6_stands_74 (by decide) ?_
                      refine z_itb ?_
                      refine z_icmp_ne (tgt := 102) dX6_stands_75 (by decide) (fun _ => ?_) (fun _ => ?_)
                      · refine z_iload (j := 4) dX6_stands_78 rfl ?_
                        refine z_bipush (v := 6) dX6_stands_80 (by decide) ?_
                        refine z_as ?_
                        refine z_irem dX6_stands_82 (fun x18 => ?_)
                        refine z_aload_n (j := 0) dX6_stands_83 rfl rfl ?_
                        refine z_rgetA (k := 1) (a := 0) hF dX6_stands_84 (by decide) rfl zw777 rfl ?_
                        refine z_iload (j := 4) dX6_stands_87 rfl ?_
                        refine z_bipush (v := 6) dX6_stands_89 (by decide) ?_
                        refine z_as ?_
                        refine z_idiv dX6_stands_91 (fun x19 => ?_)
                        refine z_as ?_
                        refine z_riald hF dX6_stands_92 (fun x20 => ?_)
                        refine z_iconst (v := 1) dX6_stands_93 (by decide) ?_
                        refine z_isub dX6_stands_94 ?_
                        refine z_itb ?_
                        refine z_icmp_ne (tgt := 102) dX6_stands_95 (by decide) (fun _ => ?_) (fun _ => ?_)
                        · refine z_iconst (v := 1) dX6_stands_98 (by decide) ?_
                          refine z_goto (tgt := 103) dX6_stands_99 (by decide) ?_
                          refine z_sb ?_
                          refine z_at [0, 1, 2, 4] rfl ?_
                          exact kF13 (1 : Int32)
                        · refine z_iconst (v := 0) dX6_stands_102 (by decide) ?_
                          refine z_sb ?_
                          refine z_at [0, 1, 2, 4] rfl ?_
                          exact kF13 (0 : Int32)
                      · refine z_iconst (v := 0) dX6_stands_102 (by decide) ?_
                        refine z_sb ?_
                        refine z_at [0, 1, 2, 4] rfl ?_
                        exact kF13 (0 : Int32)
              · refine z_sb ?_
                refine z_at [0, 1, 2, 3, 4] rfl ?_
                exact kF10 v3
def fX6_isPiece (s : Zr) (a1 : Int32) : Option (Int32) :=
  (fX6_in a1.toInt64 (0 : Int64) (((s 0 7) - (1 : Int32)).toInt64)).bind fun x1 =>
  (zbo x1).bind fun _ =>
  some x1
set_option maxRecDepth 100000 in
set_option maxHeartbeats 4000000 in
theorem kX6_isPiece (G : Zg) (R : Nat) (h0 : Zh) (hF : zRF R h0) (s : Zr) (a1 : Int32) {x : Int32} (hx : fX6_isPiece s a1 = some x) : zCt G yX6_isPiece cX6_isPiece 2 (Option.some Jvm.ClassFile.FieldType.boolean) 2 [zrv G.2.1 (some R), .int a1] (zput R h0 s) (some (.int x)) (zput R h0 s) := by
  refine z_met (a := x) (rvf := fun (x : Int32) => some (.int x)) (hff := fun (_ : Int32) => zput R h0 s) (lv := [(0, zrv G.2.1 (some R)), (1, .int a1)]) (by decide +kernel) (by simp [lg_sl, zcat1, zcI, zcJ]) (by simp [lv_args, zcat1, zcI, zcJ]) ?_ hx
  unfold fX6_isPiece
  refine z_iload_n (j := 1) dX6_isPiece_0 rfl rfl ?_
  refine z_i2l dX6_isPiece_1 ?_
  refine z_lconst (v := 0) dX6_isPiece_2 (by decide) ?_
  refine z_aload_n (j := 0) dX6_isPiece_3 rfl rfl ?_
  refine z_rgetI (k := 7) hF dX6_isPiece_4 (by decide) rfl zw783 ?_
  refine z_iconst (v := 1) dX6_isPiece_7 (by decide) ?_
  refine z_isub dX6_isPiece_8 ?_
  refine z_i2l dX6_isPiece_9 ?_
  refine z_callS (As := [.long a1.toInt64, .long (0 : Int64), .long (((s 0 7) - (1 : Int32)).toInt64)]) (rest := []) (rv2 := fun (x : Int32) => some (.int x)) (h2 := fun (_ : Int32) => zput R h0 s) dX6_isPiece_10 vX6_in (.inl zw985) (by decide) rfl rfl (by decide) (fun x hx => kX6_in G (zput R h0 s) a1.toInt64 (0 : Int64) (((s 0 7) - (1 : Int32)).toInt64) hx) (fun x1 => ?_)
  try dsimp only [Option.toList, List.cons_append, List.nil_append]
  refine z_bo (fun hbb2 => ?_)
  exact z_iret dX6_isPiece_13 rfl (by rcases hbb2 with q | q <;> rw [q] <;> rfl) rfl rfl
def fX6_newPiece (s : Zr) (a1 : Int32) (a2 : Int32) : Option (Int32 × Zr) :=
  (some (u2 s 0 7 ((s 0 7) + (1 : Int32)))).bind fun s1 =>
  (wrI s1 7 (s 0 7) a1).bind fun s2 =>
  (wrI s2 8 (s 0 7) a2).bind fun s3 =>
  (wrI s3 9 (s 0 7) (s3 0 13)).bind fun s4 =>
  (wrI s4 10 (s 0 7) (0 : Int32)).bind fun s5 =>
  (wrI s5 11 (s 0 7) (1 : Int32)).bind fun s6 =>
  some (s 0 7, s6)
set_option maxRecDepth 100000 in
set_option maxHeartbeats 4000000 in
theorem kX6_newPiece (G : Zg) (R : Nat) (h0 : Zh) (hF : zRF R h0) (s : Zr) (a1 : Int32) (a2 : Int32) {x : Int32 × Zr} (hx : fX6_newPiece s a1 a2 = some x) : zCt G yX6_newPiece cX6_newPiece 4 (Option.some Jvm.ClassFile.FieldType.int) 1 [zrv G.2.1 (some R), .int a1, .int a2] (zput R h0 s) (some (.int x.1)) (zput R h0 x.2) := by
  refine z_met (a := x) (rvf := fun (x : Int32 × Zr) => some (.int x.1)) (hff := fun (x : Int32 × Zr) => zput R h0 x.2) (lv := [(0, zrv G.2.1 (some R)), (1, .int a1), (2, .int a2)]) (by decide +kernel) (by simp [lg_sl, zcat1, zcI, zcJ]) (by simp [lv_args, zcat1, zcI, zcJ]) ?_ hx
  unfold fX6_newPiece
  refine z_aload_n (j := 0) dX6_newPiece_0 rfl rfl ?_
  refine z_rgetI (k := 7) hF dX6_newPiece_1 (by decide) rfl zw783 ?_
  refine z_istore_n (lv' := [(3, .int (s 0 7)), (0, zrv G.2.1 (some R)), (1, .int a1), (2, .int a2)]) dX6_newPiece_4 rfl (by decide) rfl ?_
  refine z_aload_n (j := 1) dX6_newPiece_5 rfl rfl ?_
  refine z_dup dX6_newPiece_6 (zcat1 _ _) ?_
  refine z_rgetI (k := 7) hF dX6_newPiece_7 (by decide) rfl zw783 ?_
  refine z_iconst (v := 1) dX6_newPiece_10 (by decide) ?_
  refine z_iadd dX6_newPiece_11 ?_
  refine z_rputI (k := 7) hF dX6_newPiece_12 (by decide) rfl zw783 rfl rfl (fun s1 => ?_)
  refine z_aload_n (j := 1) dX6_newPiece_15 rfl rfl ?_
  refine z_rgetA (k := 8) (a := 6) hF dX6_newPiece_16 (by decide) rfl zw784 rfl ?_
  refine z_iload_n (j := 0) dX6_newPiece_19 rfl rfl ?_
  refine z_iload_n (j := 2) dX6_newPiece_20 rfl rfl ?_
  refine z_riast hF dX6_newPiece_21 (fun s2 => ?_)
  refine z_aload_n (j := 1) dX6_newPiece_22 rfl rfl ?_
  refine z_rgetA (k := 9) (a := 7) hF dX6_newPiece_23 (by decide) rfl zw785 rfl ?_
  refine z_iload_n (j := 0) dX6_newPiece_26 rfl rfl ?_
  refine z_iload_n (j := 3) dX6_newPiece_27 rfl rfl ?_
  refine z_riast hF dX6_newPiece_28 (fun s3 => ?_)
  refine z_aload_n (j := 1) dX6_newPiece_29 rfl rfl ?_
  refine z_rgetA (k := 10) (a := 8) hF dX6_newPiece_30 (by decide) rfl zw786 rfl ?_
  refine z_iload_n (j := 0) dX6_newPiece_33 rfl rfl ?_
  refine z_aload_n (j := 1) dX6_newPiece_34 rfl rfl ?_
  refine z_rgetI (k := 13) hF dX6_newPiece_35 (by decide) rfl zw789 ?_
  refine z_riast hF dX6_newPiece_38 (fun s4 => ?_)
  refine z_aload_n (j := 1) dX6_newPiece_39 rfl rfl ?_
  refine z_rgetA (k := 11) (a := 9) hF dX6_newPiece_40 (by decide) rfl zw787 rfl ?_
  refine z_iload_n (j := 0) dX6_newPiece_43 rfl rfl ?_
  refine z_iconst (v := 0) dX6_newPiece_44 (by decide) ?_
  refine z_riast hF dX6_newPiece_45 (fun s5 => ?_)
  refine z_aload_n (j := 1) dX6_newPiece_46 rfl rfl ?_
  refine z_rgetA (k := 12) (a := 10) hF dX6_newPiece_47 (by decide) rfl zw788 rfl ?_
  refine z_iload_n (j := 0) dX6_newPiece_50 rfl rfl ?_
  refine z_iconst (v := 1) dX6_newPiece_51 (by decide) ?_
  refine z_riast hF dX6_newPiece_52 (fun s6 => ?_)
  refine z_iload_n (j := 0) dX6_newPiece_53 rfl rfl ?_
  exact z_iret dX6_newPiece_54 rfl rfl rfl rfl
def fX6_addPart (s : Zr) (a1 : Int32) (a2 : Int32) : Option (Zr) :=
  (wrI s 12 (s 0 13) a2).bind fun s1 =>
  (some (u2 s1 0 13 ((s1 0 13) + (1 : Int32)))).bind fun s2 =>
  (rdI s2 10 a1).bind fun x3 =>
  (wrI s2 10 a1 (x3 + (1 : Int32))).bind fun s4 =>
  (rdI s4 11 a1).bind fun x5 =>
  (rdI s4 11 a2).bind fun x6 =>
  (wrI s4 11 a1 (x5 + x6)).bind fun s7 =>
  some s7
set_option maxRecDepth 100000 in
set_option maxHeartbeats 4000000 in
theorem kX6_addPart (G : Zg) (R : Nat) (h0 : Zh) (hF : zRF R h0) (s : Zr) (a1 : Int32) (a2 : Int32) {x : Zr} (hx : fX6_addPart s a1 a2 = some x) : zCt G yX6_addPart cX6_addPart 3 (Option.none : Option Jvm.ClassFile.FieldType) 1 [zrv G.2.1 (some R), .int a1, .int a2] (zput R h0 s) none (zput R h0 x) := by
  refine z_met (a := x) (rvf := fun (_ : Zr) => none) (hff := fun (x : Zr) => zput R h0 x) (lv := [(0, zrv G.2.1 (some R)), (1, .int a1), (2, .int a2)]) (by decide +kernel) (by simp [lg_sl, zcat1, zcI, zcJ]) (by simp [lv_args, zcat1, zcI, zcJ]) ?_ hx
  unfold fX6_addPart
  refine z_aload_n (j := 0) dX6_addPart_0 rfl rfl ?_
  refine z_rgetA (k := 14) (a := 11) hF dX6_addPart_1 (by decide) rfl zw790 rfl ?_
  refine z_aload_n (j := 0) dX6_addPart_4 rfl rfl ?_
  refine z_rgetI (k := 13) hF dX6_addPart_5 (by decide) rfl zw789 ?_
  refine z_iload_n (j := 2) dX6_addPart_8 rfl rfl ?_
  refine z_riast hF dX6_addPart_9 (fun s1 => ?_)
  refine z_aload_n (j := 0) dX6_addPart_10 rfl rfl ?_
  refine z_dup dX6_addPart_11 (zcat1 _ _) ?_
  refine z_rgetI (k := 13) hF dX6_addPart_12 (by decide) rfl zw789 ?_
  refine z_iconst (v := 1) dX6_addPart_15 (by decide) ?_
  refine z_iadd dX6_addPart_16 ?_
  refine z_rputI (k := 13) hF dX6_addPart_17 (by decide) rfl zw789 rfl rfl (fun s2 => ?_)
  refine z_aload_n (j := 0) dX6_addPart_20 rfl rfl ?_
  refine z_rgetA (k := 11) (a := 9) hF dX6_addPart_21 (by decide) rfl zw787 rfl ?_
  refine z_iload_n (j := 1) dX6_addPart_24 rfl rfl ?_
  refine z_dup2 dX6_addPart_25 rfl (zcat1 _ _) ?_
  refine z_riald hF dX6_addPart_26 (fun x3 => ?_)
  refine z_iconst (v := 1) dX6_addPart_27 (by decide) ?_
  refine z_iadd dX6_addPart_28 ?_
  refine z_riast hF dX6_addPart_29 (fun s4 => ?_)
  refine z_aload_n (j := 0) dX6_addPart_30 rfl rfl ?_
  refine z_rgetA (k := 12) (a := 10) hF dX6_addPart_31 (by decide) rfl zw788 rfl ?_
  refine z_iload_n (j := 1) dX6_addPart_34 rfl rfl ?_
  refine z_dup2 dX6_addPart_35 rfl (zcat1 _ _) ?_
  refine z_riald hF dX6_addPart_36 (fun x5 => ?_)
  refine z_aload_n (j := 0) dX6_addPart_37 rfl rfl ?_
  refine z_rgetA (k := 12) (a := 10) hF dX6_addPart_38 (by decide) rfl zw788 rfl ?_
  refine z_iload_n (j := 2) dX6_addPart_41 rfl rfl ?_
  refine z_riald hF dX6_addPart_42 (fun x6 => ?_)
  refine z_iadd dX6_addPart_43 ?_
  refine z_riast hF dX6_addPart_44 (fun s7 => ?_)
  exact z_vret dX6_addPart_45 rfl rfl rfl
def fX6_deed (s : Zr) (a1 : Int32) : Option (Int32 × Zr) :=
  (fX6_in a1.toInt64 (-1 : Int64) (11 : Int64)).bind fun x1 =>
  if x1 = 0 then
    some ((-1 : Int32), s)
  else
    (if (s 0 7) = (200 : Int32) then
      some ((-2 : Int32), s)
    else
      (if 0 ≤ a1 then
        some (0 : Int32)
      else
        some (1 : Int32)).bind fun (v5 : Int32) =>
      (if 0 ≤ a1 then
        some a1
      else
        some (-3 : Int32)).bind fun (v7 : Int32) =>
      (fX6_newPiece s v5 v7).bind fun ((x9, s10) : Int32 × Zr) =>
      some (x9, s10)).bind fun ((v2, s3) : Int32 × Zr) =>
    some (v2, s3)
set_option maxRecDepth 100000 in
set_option maxHeartbeats 4000000 in
theorem kX6_deed (G : Zg) (R : Nat) (h0 : Zh) (hF : zRF R h0) (s : Zr) (a1 : Int32) {x : Int32 × Zr} (hx : fX6_deed s a1 = some x) : zCt G yX6_deed cX6_deed 2 (Option.some Jvm.ClassFile.FieldType.int) 2 [zrv G.2.1 (some R), .int a1] (zput R h0 s) (some (.int x.1)) (zput R h0 x.2) := by
  refine z_met (a := x) (rvf := fun (x : Int32 × Zr) => some (.int x.1)) (hff := fun (x : Int32 × Zr) => zput R h0 x.2) (lv := [(0, zrv G.2.1 (some R)), (1, .int a1)]) (by decide +kernel) (by simp [lg_sl, zcat1, zcI, zcJ]) (by simp [lv_args, zcat1, zcI, zcJ]) ?_ hx
  unfold fX6_deed
  refine z_iload_n (j := 1) dX6_deed_0 rfl rfl ?_
  refine z_i2l dX6_deed_1 ?_
  refine z_ldc2 (v := -1) dX6_deed_2 zw996 ?_
  refine z_ldc2 (v := 11) dX6_deed_5 zw991 ?_
  refine z_callS (As := [.long a1.toInt64, .long (-1 : Int64), .long (11 : Int64)]) (rest := []) (rv2 := fun (x : Int32) => some (.int x)) (h2 := fun (_ : Int32) => zput R h0 s) dX6_deed_8 vX6_in (.inl zw985) (by decide) rfl rfl (by decide) (fun x hx => kX6_in G (zput R h0 s) a1.toInt64 (-1 : Int64) (11 : Int64) hx) (fun x1 => ?_)
  try dsimp only [Option.toList, List.cons_append, List.nil_append]
  refine z_if_ne (tgt := 16) dX6_deed_11 (by decide) (fun _ => ?_) (fun _ => ?_)
  · refine z_iconst (v := -1) dX6_deed_14 (by decide) ?_
    exact z_iret dX6_deed_15 rfl rfl rfl rfl
  · refine z_aload_n (j := 0) dX6_deed_16 rfl rfl ?_
    refine z_rgetI (k := 7) hF dX6_deed_17 (by decide) rfl zw783 ?_
    refine z_sipush (v := 200) dX6_deed_20 (by decide) ?_
    refine z_join (pc2 := 54) (lv2 := fun (q : Int32 × Zr) => []) (st2 := fun (q : Int32 × Zr) => [.int q.1]) (h2 := fun (q : Int32 × Zr) => zput R h0 q.2) (fun q => ?_) (fun F4 kF4 => ?_)
    · obtain ⟨v2, s3⟩ := q
      try dsimp only
      exact z_iret dX6_deed_54 rfl rfl rfl rfl
    · refine z_itb ?_
      refine z_icmp_ne (tgt := 31) dX6_deed_23 (by decide) (fun _ => ?_) (fun _ => ?_)
      · refine z_bipush (v := -2) dX6_deed_26 (by decide) ?_
        refine z_goto (tgt := 54) dX6_deed_28 (by decide) ?_
        refine z_sb ?_
        refine z_at [] rfl ?_
        exact kF4 ((-2 : Int32), s)
      · refine z_aload_n (j := 0) dX6_deed_31 rfl rfl ?_
        refine z_iload_n (j := 1) dX6_deed_32 rfl rfl ?_
        refine z_as ?_
        refine z_join (pc2 := 41) (lv2 := fun (q : Int32) => [(1, .int a1)]) (st2 := fun (q : Int32) => [.int q, zrv G.2.1 (some R)]) (h2 := fun (q : Int32) => zput R h0 s) (fun q => ?_) (fun F6 kF6 => ?_)
        · obtain ⟨v5, e0⟩ : ∃ z, z = q := ⟨_, rfl⟩
          subst e0
          try dsimp only
          refine z_iload_n (j := 0) dX6_deed_41 rfl rfl ?_
          refine z_as ?_
          refine z_join (pc2 := 51) (lv2 := fun (q : Int32) => []) (st2 := fun (q : Int32) => [.int q, .int v5, zrv G.2.1 (some R)]) (h2 := fun (q : Int32) => zput R h0 s) (fun q => ?_) (fun F8 kF8 => ?_)
          · obtain ⟨v7, e0⟩ : ∃ z, z = q := ⟨_, rfl⟩
            subst e0
            try dsimp only
            refine z_as ?_
            refine z_callV (As := [.int v5, .int v7]) (rest := []) (rv2 := fun (x : Int32 × Zr) => some (.int x.1)) (h2 := fun (x : Int32 × Zr) => zput R h0 x.2) dX6_deed_51 vX6_newPiece (.inl zw1028) (by decide) zkl7 (zRrecv hF).1 (zRrecv hF).2 rfl rfl (by decide) (fun x hx => kX6_newPiece G R h0 hF s v5 v7 hx) (fun x => ?_)
            obtain ⟨x9, s10⟩ := x
            try dsimp only [Option.toList, List.cons_append, List.nil_append]
            refine z_sb ?_
            refine z_at [] rfl ?_
            exact kF4 (x9, s10)
          · refine z_itb ?_
            refine z_if_ge (tgt := 50) dX6_deed_42 (by decide) (fun _ => ?_) (fun _ => ?_)
            · refine z_iload_n (j := 0) dX6_deed_50 rfl rfl ?_
              refine z_sb ?_
              refine z_at [] rfl ?_
              exact kF8 a1
            · refine z_bipush (v := -3) dX6_deed_45 (by decide) ?_
              refine z_goto (tgt := 51) dX6_deed_47 (by decide) ?_
              refine z_sb ?_
              refine z_at [] rfl ?_
              exact kF8 (-3 : Int32)
        · refine z_itb ?_
          refine z_if_ge (tgt := 40) dX6_deed_33 (by decide) (fun _ => ?_) (fun _ => ?_)
          · refine z_iconst (v := 0) dX6_deed_40 (by decide) ?_
            refine z_sb ?_
            refine z_at [1] rfl ?_
            exact kF6 (0 : Int32)
          · refine z_iconst (v := 1) dX6_deed_36 (by decide) ?_
            refine z_goto (tgt := 41) dX6_deed_37 (by decide) ?_
            refine z_sb ?_
            refine z_at [1] rfl ?_
            exact kF6 (1 : Int32)
def fX6_join (s : Zr) (a1 : Int32) (a2 : Int32) (a3 : Int32) : Option (Int32 × Zr) :=
  (fX6_in a1.toInt64 (2 : Int64) (5 : Int64)).bind fun x1 =>
  if x1 = 0 then
    some ((-1 : Int32), s)
  else
    (fX6_isPiece s a2).bind fun x2 =>
    if x2 = 0 then
      some ((-1 : Int32), s)
    else
      (fX6_isPiece s a3).bind fun x3 =>
      if x3 = 0 then
        some ((-1 : Int32), s)
      else
        if (s 0 7) = (200 : Int32) then
          some ((-2 : Int32), s)
        else
          (rdI s 11 a2).bind fun x4 =>
          (rdI s 11 a3).bind fun x5 =>
          if ((x4 + x5) + (1 : Int32)) ≤ (60 : Int32) then
            (fX6_newPiece s a1 (-3 : Int32)).bind fun ((x6, s7) : Int32 × Zr) =>
            (fX6_addPart s7 x6 a2).bind fun s8 =>
            (fX6_addPart s8 x6 a3).bind fun s9 =>
            some (x6, s9)
          else
            some ((-2 : Int32), s)
set_option maxRecDepth 100000 in
set_option maxHeartbeats 4000000 in
theorem kX6_join (G : Zg) (R : Nat) (h0 : Zh) (hF : zRF R h0) (s : Zr) (a1 : Int32) (a2 : Int32) (a3 : Int32) {x : Int32 × Zr} (hx : fX6_join s a1 a2 a3 = some x) : zCt G yX6_join cX6_join 5 (Option.some Jvm.ClassFile.FieldType.int) 3 [zrv G.2.1 (some R), .int a1, .int a2, .int a3] (zput R h0 s) (some (.int x.1)) (zput R h0 x.2) := by
  refine z_met (a := x) (rvf := fun (x : Int32 × Zr) => some (.int x.1)) (hff := fun (x : Int32 × Zr) => zput R h0 x.2) (lv := [(0, zrv G.2.1 (some R)), (1, .int a1), (2, .int a2), (3, .int a3)]) (by decide +kernel) (by simp [lg_sl, zcat1, zcI, zcJ]) (by simp [lv_args, zcat1, zcI, zcJ]) ?_ hx
  unfold fX6_join
  refine z_iload_n (j := 1) dX6_join_0 rfl rfl ?_
  refine z_i2l dX6_join_1 ?_
  refine z_ldc2 (v := 2) dX6_join_2 zw1023 ?_
  refine z_ldc2 (v := 5) dX6_join_5 zw1036 ?_
  refine z_callS (As := [.long a1.toInt64, .long (2 : Int64), .long (5 : Int64)]) (rest := []) (rv2 := fun (x : Int32) => some (.int x)) (h2 := fun (_ : Int32) => zput R h0 s) dX6_join_8 vX6_in (.inl zw985) (by decide) rfl rfl (by decide) (fun x hx => kX6_in G (zput R h0 s) a1.toInt64 (2 : Int64) (5 : Int64) hx) (fun x1 => ?_)
  try dsimp only [Option.toList, List.cons_append, List.nil_append]
  refine z_if_eq (tgt := 30) dX6_join_11 (by decide) (fun _ => ?_) (fun _ => ?_)
  · refine z_iconst (v := -1) dX6_join_30 (by decide) ?_
    exact z_iret dX6_join_31 rfl rfl rfl rfl
  · refine z_aload_n (j := 0) dX6_join_14 rfl rfl ?_
    refine z_iload_n (j := 2) dX6_join_15 rfl rfl ?_
    refine z_callV (As := [.int a2]) (rest := []) (rv2 := fun (x : Int32) => some (.int x)) (h2 := fun (_ : Int32) => zput R h0 s) dX6_join_16 vX6_isPiece (.inl zw1037) (by decide) zkl7 (zRrecv hF).1 (zRrecv hF).2 rfl rfl (by decide) (fun x hx => kX6_isPiece G R h0 hF s a2 hx) (fun x2 => ?_)
    try dsimp only [Option.toList, List.cons_append, List.nil_append]
    refine z_if_eq (tgt := 30) dX6_join_19 (by decide) (fun _ => ?_) (fun _ => ?_)
    · refine z_iconst (v := -1) dX6_join_30 (by decide) ?_
      exact z_iret dX6_join_31 rfl rfl rfl rfl
    · refine z_aload_n (j := 0) dX6_join_22 rfl rfl ?_
      refine z_iload_n (j := 3) dX6_join_23 rfl rfl ?_
      refine z_callV (As := [.int a3]) (rest := []) (rv2 := fun (x : Int32) => some (.int x)) (h2 := fun (_ : Int32) => zput R h0 s) dX6_join_24 vX6_isPiece (.inl zw1037) (by decide) zkl7 (zRrecv hF).1 (zRrecv hF).2 rfl rfl (by decide) (fun x hx => kX6_isPiece G R h0 hF s a3 hx) (fun x3 => ?_)
      try dsimp only [Option.toList, List.cons_append, List.nil_append]
      refine z_if_ne (tgt := 32) dX6_join_27 (by decide) (fun _ => ?_) (fun _ => ?_)
      · refine z_iconst (v := -1) dX6_join_30 (by decide) ?_
        exact z_iret dX6_join_31 rfl rfl rfl rfl
      · refine z_aload_n (j := 0) dX6_join_32 rfl rfl ?_
        refine z_rgetI (k := 7) hF dX6_join_33 (by decide) rfl zw783 ?_
        refine z_sipush (v := 200) dX6_join_36 (by decide) ?_
        refine z_icmp_eq (tgt := 62) dX6_join_39 (by decide) (fun _ => ?_) (fun _ => ?_)
        · refine z_bipush (v := -2) dX6_join_62 (by decide) ?_
          exact z_iret dX6_join_64 rfl rfl rfl rfl
        · refine z_aload_n (j := 0) dX6_join_42 rfl rfl ?_
          refine z_rgetA (k := 12) (a := 10) hF dX6_join_43 (by decide) rfl zw788 rfl ?_
          refine z_iload_n (j := 2) dX6_join_46 rfl rfl ?_
          refine z_riald hF dX6_join_47 (fun x4 => ?_)
          refine z_aload_n (j := 0) dX6_join_48 rfl rfl ?_
          refine z_rgetA (k := 12) (a := 10) hF dX6_join_49 (by decide) rfl zw788 rfl ?_
          refine z_iload_n (j := 3) dX6_join_52 rfl rfl ?_
          refine z_riald hF dX6_join_53 (fun x5 => ?_)
          refine z_iadd dX6_join_54 ?_
          refine z_iconst (v := 1) dX6_join_55 (by decide) ?_
          refine z_iadd dX6_join_56 ?_
          refine z_bipush (v := 60) dX6_join_57 (by decide) ?_
          refine z_icmp_le (tgt := 65) dX6_join_59 (by decide) (fun _ => ?_) (fun _ => ?_)
          · refine z_aload_n (j := 0) dX6_join_65 rfl rfl ?_
            refine z_iload_n (j := 1) dX6_join_66 rfl rfl ?_
            refine z_bipush (v := -3) dX6_join_67 (by decide) ?_
            refine z_callV (As := [.int a1, .int (-3 : Int32)]) (rest := []) (rv2 := fun (x : Int32 × Zr) => some (.int x.1)) (h2 := fun (x : Int32 × Zr) => zput R h0 x.2) dX6_join_69 vX6_newPiece (.inl zw1028) (by decide) zkl7 (zRrecv hF).1 (zRrecv hF).2 rfl rfl (by decide) (fun x hx => kX6_newPiece G R h0 hF s a1 (-3 : Int32) hx) (fun x => ?_)
            obtain ⟨x6, s7⟩ := x
            try dsimp only [Option.toList, List.cons_append, List.nil_append]
            refine z_istore (lv' := [(4, .int x6), (0, zrv G.2.1 (some R)), (1, .int a1), (2, .int a2), (3, .int a3)]) dX6_join_72 (by decide) rfl ?_
            refine z_aload_n (j := 1) dX6_join_74 rfl rfl ?_
            refine z_iload (j := 0) dX6_join_75 rfl ?_
            refine z_iload_n (j := 3) dX6_join_77 rfl rfl ?_
            refine z_callV (As := [.int x6, .int a2]) (rest := []) (rv2 := fun (_ : Zr) => none) (h2 := fun (x : Zr) => zput R h0 x) dX6_join_78 vX6_addPart (.inl zw1041) (by decide) zkl7 (zRrecv hF).1 (zRrecv hF).2 rfl rfl (by decide) (fun x hx => kX6_addPart G R h0 hF s7 x6 a2 hx) (fun s8 => ?_)
            try dsimp only [Option.toList, List.cons_append, List.nil_append]
            refine z_aload_n (j := 1) dX6_join_81 rfl rfl ?_
            refine z_iload (j := 0) dX6_join_82 rfl ?_
            refine z_iload_n (j := 4) dX6_join_84 rfl rfl ?_
            refine z_callV (As := [.int x6, .int a3]) (rest := []) (rv2 := fun (_ : Zr) => none) (h2 := fun (x : Zr) => zput R h0 x) dX6_join_85 vX6_addPart (.inl zw1041) (by decide) zkl7 (zRrecv hF).1 (zRrecv hF).2 rfl rfl (by decide) (fun x hx => kX6_addPart G R h0 hF s8 x6 a3 hx) (fun s9 => ?_)
            try dsimp only [Option.toList, List.cons_append, List.nil_append]
            refine z_iload (j := 0) dX6_join_88 rfl ?_
            exact z_iret dX6_join_90 rfl rfl rfl rfl
          · refine z_bipush (v := -2) dX6_join_62 (by decide) ?_
            exact z_iret dX6_join_64 rfl rfl rfl rfl
def fX6_more (s : Zr) (a1 : Int32) (a2 : Int32) : Option (Int32 × Zr) :=
  (fX6_isPiece s a1).bind fun x1 =>
  if x1 = 0 then
    some ((-1 : Int32), s)
  else
    (fX6_isPiece s a2).bind fun x2 =>
    if x2 = 0 then
      some ((-1 : Int32), s)
    else
      (rdI s 7 a1).bind fun x3 =>
      if (2 : Int32) ≤ x3 then
        if (s 0 7) = (200 : Int32) then
          some ((-2 : Int32), s)
        else
          (rdI s 11 a1).bind fun x4 =>
          (rdI s 11 a2).bind fun x5 =>
          if (x4 + x5) ≤ (60 : Int32) then
            (rdI s 7 a1).bind fun x6 =>
            (fX6_newPiece s x6 (-3 : Int32)).bind fun ((x7, s8) : Int32 × Zr) =>
            (zloop (fun ((v9, s10) : Int32 × Zr) =>
              ((rdI s10 10 a1).bind fun x14 =>
              if x14 ≤ v9 then
                some (.inr s10)
              else
                (rdI s10 9 a1).bind fun x15 =>
                (rdI s10 12 (x15 + v9)).bind fun x16 =>
                (fX6_addPart s10 x7 x16).bind fun s17 =>
                some (.inl (v9 + (1 : Int32), s17)) : Option ((Int32 × Zr) ⊕ Zr))) zFU ((0 : Int32), s8)).bind fun (s11 : Zr) =>
            (fX6_addPart s11 x7 a2).bind fun s18 =>
            some (x7, s18)
          else
            some ((-2 : Int32), s)
      else
        some ((-1 : Int32), s)
set_option maxRecDepth 100000 in
set_option maxHeartbeats 4000000 in
theorem kX6_more (G : Zg) (R : Nat) (h0 : Zh) (hF : zRF R h0) (s : Zr) (a1 : Int32) (a2 : Int32) {x : Int32 × Zr} (hx : fX6_more s a1 a2 = some x) : zCt G yX6_more cX6_more 5 (Option.some Jvm.ClassFile.FieldType.int) 3 [zrv G.2.1 (some R), .int a1, .int a2] (zput R h0 s) (some (.int x.1)) (zput R h0 x.2) := by
  refine z_met (a := x) (rvf := fun (x : Int32 × Zr) => some (.int x.1)) (hff := fun (x : Int32 × Zr) => zput R h0 x.2) (lv := [(0, zrv G.2.1 (some R)), (1, .int a1), (2, .int a2)]) (by decide +kernel) (by simp [lg_sl, zcat1, zcI, zcJ]) (by simp [lv_args, zcat1, zcI, zcJ]) ?_ hx
  unfold fX6_more
  refine z_aload_n (j := 0) dX6_more_0 rfl rfl ?_
  refine z_iload_n (j := 1) dX6_more_1 rfl rfl ?_
  refine z_callV (As := [.int a1]) (rest := []) (rv2 := fun (x : Int32) => some (.int x)) (h2 := fun (_ : Int32) => zput R h0 s) dX6_more_2 vX6_isPiece (.inl zw1037) (by decide) zkl7 (zRrecv hF).1 (zRrecv hF).2 rfl rfl (by decide) (fun x hx => kX6_isPiece G R h0 hF s a1 hx) (fun x1 => ?_)
  try dsimp only [Option.toList, List.cons_append, List.nil_append]
  refine z_if_eq (tgt := 26) dX6_more_5 (by decide) (fun _ => ?_) (fun _ => ?_)
  · refine z_iconst (v := -1) dX6_more_26 (by decide) ?_
    exact z_iret dX6_more_27 rfl rfl rfl rfl
  · refine z_aload_n (j := 0) dX6_more_8 rfl rfl ?_
    refine z_iload_n (j := 2) dX6_more_9 rfl rfl ?_
    refine z_callV (As := [.int a2]) (rest := []) (rv2 := fun (x : Int32) => some (.int x)) (h2 := fun (_ : Int32) => zput R h0 s) dX6_more_10 vX6_isPiece (.inl zw1037) (by decide) zkl7 (zRrecv hF).1 (zRrecv hF).2 rfl rfl (by decide) (fun x hx => kX6_isPiece G R h0 hF s a2 hx) (fun x2 => ?_)
    try dsimp only [Option.toList, List.cons_append, List.nil_append]
    refine z_if_eq (tgt := 26) dX6_more_13 (by decide) (fun _ => ?_) (fun _ => ?_)
    · refine z_iconst (v := -1) dX6_more_26 (by decide) ?_
      exact z_iret dX6_more_27 rfl rfl rfl rfl
    · refine z_aload_n (j := 0) dX6_more_16 rfl rfl ?_
      refine z_rgetA (k := 8) (a := 6) hF dX6_more_17 (by decide) rfl zw784 rfl ?_
      refine z_iload_n (j := 1) dX6_more_20 rfl rfl ?_
      refine z_riald hF dX6_more_21 (fun x3 => ?_)
      refine z_iconst (v := 2) dX6_more_22 (by decide) ?_
      refine z_icmp_ge (tgt := 28) dX6_more_23 (by decide) (fun _ => ?_) (fun _ => ?_)
      · refine z_aload_n (j := 0) dX6_more_28 rfl rfl ?_
        refine z_rgetI (k := 7) hF dX6_more_29 (by decide) rfl zw783 ?_
        refine z_sipush (v := 200) dX6_more_32 (by decide) ?_
        refine z_icmp_eq (tgt := 56) dX6_more_35 (by decide) (fun _ => ?_) (fun _ => ?_)
        · refine z_bipush (v := -2) dX6_more_56 (by decide) ?_
          exact z_iret dX6_more_58 rfl rfl rfl rfl
        · refine z_aload_n (j := 0) dX6_more_38 rfl rfl ?_
          refine z_rgetA (k := 12) (a := 10) hF dX6_more_39 (by decide) rfl zw788 rfl ?_
          refine z_iload_n (j := 1) dX6_more_42 rfl rfl ?_
          refine z_riald hF dX6_more_43 (fun x4 => ?_)
          refine z_aload_n (j := 0) dX6_more_44 rfl rfl ?_
          refine z_rgetA (k := 12) (a := 10) hF dX6_more_45 (by decide) rfl zw788 rfl ?_
          refine z_iload_n (j := 2) dX6_more_48 rfl rfl ?_
          refine z_riald hF dX6_more_49 (fun x5 => ?_)
          refine z_iadd dX6_more_50 ?_
          refine z_bipush (v := 60) dX6_more_51 (by decide) ?_
          refine z_icmp_le (tgt := 59) dX6_more_53 (by decide) (fun _ => ?_) (fun _ => ?_)
          · refine z_aload_n (j := 0) dX6_more_59 rfl rfl ?_
            refine z_aload_n (j := 0) dX6_more_60 rfl rfl ?_
            refine z_rgetA (k := 8) (a := 6) hF dX6_more_61 (by decide) rfl zw784 rfl ?_
            refine z_iload_n (j := 1) dX6_more_64 rfl rfl ?_
            refine z_riald hF dX6_more_65 (fun x6 => ?_)
            refine z_bipush (v := -3) dX6_more_66 (by decide) ?_
            refine z_callV (As := [.int x6, .int (-3 : Int32)]) (rest := []) (rv2 := fun (x : Int32 × Zr) => some (.int x.1)) (h2 := fun (x : Int32 × Zr) => zput R h0 x.2) dX6_more_68 vX6_newPiece (.inl zw1028) (by decide) zkl7 (zRrecv hF).1 (zRrecv hF).2 rfl rfl (by decide) (fun x hx => kX6_newPiece G R h0 hF s x6 (-3 : Int32) hx) (fun x => ?_)
            obtain ⟨x7, s8⟩ := x
            try dsimp only [Option.toList, List.cons_append, List.nil_append]
            refine z_istore_n (lv' := [(3, .int x7), (0, zrv G.2.1 (some R)), (1, .int a1), (2, .int a2)]) dX6_more_71 rfl (by decide) rfl ?_
            refine z_iconst (v := 0) dX6_more_72 (by decide) ?_
            refine z_istore (lv' := [(4, .int (0 : Int32)), (3, .int x7), (0, zrv G.2.1 (some R)), (1, .int a1), (2, .int a2)]) dX6_more_73 (by decide) rfl ?_
            refine z_at [2, 3, 4, 1, 0] rfl ?_
            refine z_join (pc2 := 111) (lv2 := fun (q : Zr) => [(0, zrv G.2.1 (some R)), (2, .int a2), (3, .int x7)]) (st2 := fun _ => []) (h2 := fun (q : Zr) => zput R h0 q) (fun q => ?_) (fun F12 kF12 => ?_)
            · obtain ⟨s11, e0⟩ : ∃ z, z = q := ⟨_, rfl⟩
              subst e0
              try dsimp only
              refine z_aload_n (j := 0) dX6_more_111 rfl rfl ?_
              refine z_iload_n (j := 2) dX6_more_112 rfl rfl ?_
              refine z_iload_n (j := 1) dX6_more_113 rfl rfl ?_
              refine z_callV (As := [.int x7, .int a2]) (rest := []) (rv2 := fun (_ : Zr) => none) (h2 := fun (x : Zr) => zput R h0 x) dX6_more_114 vX6_addPart (.inl zw1041) (by decide) zkl7 (zRrecv hF).1 (zRrecv hF).2 rfl rfl (by decide) (fun x hx => kX6_addPart G R h0 hF s11 x7 a2 hx) (fun s18 => ?_)
              try dsimp only [Option.toList, List.cons_append, List.nil_append]
              refine z_iload_n (j := 2) dX6_more_117 rfl rfl ?_
              exact z_iret dX6_more_118 rfl rfl rfl rfl
            · refine z_loop (lvf := fun (q : Int32 × Zr) => [(0, zrv G.2.1 (some R)), (1, .int a1), (2, .int a2), (3, .int x7), (4, .int q.1)]) (hf2 := fun (q : Int32 × Zr) => zput R h0 q.2) (s0 := ((0 : Int32), s8)) (fun K13 bK13 rK13 q => ?_)
              obtain ⟨v9, s10⟩ := q
              try dsimp only
              refine z_iload (j := 4) dX6_more_75 rfl ?_
              refine z_aload_n (j := 0) dX6_more_77 rfl rfl ?_
              refine z_rgetA (k := 11) (a := 9) hF dX6_more_78 (by decide) rfl zw787 rfl ?_
              refine z_iload_n (j := 1) dX6_more_81 rfl rfl ?_
              refine z_as ?_
              refine z_riald hF dX6_more_82 (fun x14 => ?_)
              refine z_itb ?_
              refine z_icmp_ge (tgt := 111) dX6_more_83 (by decide) (fun _ => ?_) (fun _ => ?_)
              · refine z_sb ?_
                refine z_eq (rK13 _) ?_
                refine z_at [0, 2, 3] rfl ?_
                exact kF12 s10
              · refine z_aload_n (j := 0) dX6_more_86 rfl rfl ?_
                refine z_iload_n (j := 3) dX6_more_87 rfl rfl ?_
                refine z_aload_n (j := 0) dX6_more_88 rfl rfl ?_
                refine z_rgetA (k := 14) (a := 11) hF dX6_more_89 (by decide) rfl zw790 rfl ?_
                refine z_aload_n (j := 0) dX6_more_92 rfl rfl ?_
                refine z_rgetA (k := 10) (a := 8) hF dX6_more_93 (by decide) rfl zw786 rfl ?_
                refine z_iload_n (j := 1) dX6_more_96 rfl rfl ?_
                refine z_as ?_
                refine z_riald hF dX6_more_97 (fun x15 => ?_)
                refine z_iload (j := 4) dX6_more_98 rfl ?_
                refine z_iadd dX6_more_100 ?_
                refine z_as ?_
                refine z_riald hF dX6_more_101 (fun x16 => ?_)
                refine z_as ?_
                refine z_callV (As := [.int x7, .int x16]) (rest := []) (rv2 := fun (_ : Zr) => none) (h2 := fun (x : Zr) => zput R h0 x) dX6_more_102 vX6_addPart (.inl zw1041) (by decide) zkl7 (zRrecv hF).1 (zRrecv hF).2 rfl rfl (by decide) (fun x hx => kX6_addPart G R h0 hF s10 x7 x16 hx) (fun s17 => ?_)
                try dsimp only [Option.toList, List.cons_append, List.nil_append]
                refine z_iinc (j := 4) (v := v9 + (1 : Int32)) (lv' := [(4, .int (v9 + (1 : Int32))), (0, zrv G.2.1 (some R)), (1, .int a1), (2, .int a2), (3, .int x7)]) dX6_more_105 rfl rfl (by decide) rfl ?_
                refine z_goto (tgt := 75) dX6_more_108 (by decide) ?_
                refine z_sb ?_
                refine z_at [1, 2, 3, 4, 0] rfl ?_
                exact bK13 (v9 + (1 : Int32), s17)
          · refine z_bipush (v := -2) dX6_more_56 (by decide) ?_
            exact z_iret dX6_more_58 rfl rfl rfl rfl
      · refine z_iconst (v := -1) dX6_more_26 (by decide) ?_
        exact z_iret dX6_more_27 rfl rfl rfl rfl
def fX6_piece (s : Zr) (a1 : Int32) (a2 : Int32) : Option (Int32) :=
  (fX6_isPiece s a1).bind fun x1 =>
  if x1 = 0 then
    some (-1 : Int32)
  else
    (fX6_in a2.toInt64 (0 : Int64) (62 : Int64)).bind fun x2 =>
    if x2 = 0 then
      some (-1 : Int32)
    else
      if a2 = (0 : Int32) then
        (rdI s 7 a1).bind fun x3 =>
        some x3
      else if a2 = (1 : Int32) then
        (rdI s 8 a1).bind fun x4 =>
        some x4
      else if a2 = (2 : Int32) then
        (rdI s 10 a1).bind fun x5 =>
        some x5
      else if a2 = (3 : Int32) then
        (rdI s 11 a1).bind fun x6 =>
        some x6
      else (rdI s 10 a1).bind fun x7 =>
      (if x7 ≤ (a2 - (4 : Int32)) then
        some (-3 : Int32)
      else
        (rdI s 9 a1).bind fun x10 =>
        (rdI s 12 ((x10 + a2) - (4 : Int32))).bind fun x11 =>
        some x11).bind fun (v8 : Int32) =>
      some v8
set_option maxRecDepth 100000 in
set_option maxHeartbeats 4000000 in
theorem kX6_piece (G : Zg) (R : Nat) (h0 : Zh) (hF : zRF R h0) (s : Zr) (a1 : Int32) (a2 : Int32) {x : Int32} (hx : fX6_piece s a1 a2 = some x) : zCt G yX6_piece cX6_piece 3 (Option.some Jvm.ClassFile.FieldType.int) 3 [zrv G.2.1 (some R), .int a1, .int a2] (zput R h0 s) (some (.int x)) (zput R h0 s) := by
  refine z_met (a := x) (rvf := fun (x : Int32) => some (.int x)) (hff := fun (_ : Int32) => zput R h0 s) (lv := [(0, zrv G.2.1 (some R)), (1, .int a1), (2, .int a2)]) (by decide +kernel) (by simp [lg_sl, zcat1, zcI, zcJ]) (by simp [lv_args, zcat1, zcI, zcJ]) ?_ hx
  unfold fX6_piece
  refine z_aload_n (j := 0) dX6_piece_0 rfl rfl ?_
  refine z_iload_n (j := 1) dX6_piece_1 rfl rfl ?_
  refine z_callV (As := [.int a1]) (rest := []) (rv2 := fun (x : Int32) => some (.int x)) (h2 := fun (_ : Int32) => zput R h0 s) dX6_piece_2 vX6_isPiece (.inl zw1037) (by decide) zkl7 (zRrecv hF).1 (zRrecv hF).2 rfl rfl (by decide) (fun x hx => kX6_isPiece G R h0 hF s a1 hx) (fun x1 => ?_)
  try dsimp only [Option.toList, List.cons_append, List.nil_append]
  refine z_if_eq (tgt := 20) dX6_piece_5 (by decide) (fun _ => ?_) (fun _ => ?_)
  · refine z_iconst (v := -1) dX6_piece_20 (by decide) ?_
    exact z_iret dX6_piece_21 rfl rfl rfl rfl
  · refine z_iload_n (j := 2) dX6_piece_8 rfl rfl ?_
    refine z_i2l dX6_piece_9 ?_
    refine z_lconst (v := 0) dX6_piece_10 (by decide) ?_
    refine z_ldc2 (v := 62) dX6_piece_11 zw1053 ?_
    refine z_callS (As := [.long a2.toInt64, .long (0 : Int64), .long (62 : Int64)]) (rest := []) (rv2 := fun (x : Int32) => some (.int x)) (h2 := fun (_ : Int32) => zput R h0 s) dX6_piece_14 vX6_in (.inl zw985) (by decide) rfl rfl (by decide) (fun x hx => kX6_in G (zput R h0 s) a2.toInt64 (0 : Int64) (62 : Int64) hx) (fun x2 => ?_)
    try dsimp only [Option.toList, List.cons_append, List.nil_append]
    refine z_if_ne (tgt := 22) dX6_piece_17 (by decide) (fun _ => ?_) (fun _ => ?_)
    · refine z_iconst (v := -1) dX6_piece_20 (by decide) ?_
      exact z_iret dX6_piece_21 rfl rfl rfl rfl
    · refine z_iload_n (j := 2) dX6_piece_22 rfl rfl ?_
      refine z_cases (fun n0 => ?_) (fun n0 => ?_)
      · refine z_swIn (off := 29) (tgt := 52) dX6_piece_23 (by rw [n0]; decide) (by rw [n0]; decide) (by rw [n0]; rfl) (by decide) ?_
        refine z_aload_n (j := 0) dX6_piece_52 rfl rfl ?_
        refine z_rgetA (k := 8) (a := 6) hF dX6_piece_53 (by decide) rfl zw784 rfl ?_
        refine z_iload_n (j := 1) dX6_piece_56 rfl rfl ?_
        refine z_riald hF dX6_piece_57 (fun x3 => ?_)
        exact z_iret dX6_piece_58 rfl rfl rfl rfl
      · refine z_cases (fun n1 => ?_) (fun n1 => ?_)
        · refine z_swIn (off := 36) (tgt := 59) dX6_piece_23 (by rw [n1]; decide) (by rw [n1]; decide) (by rw [n1]; rfl) (by decide) ?_
          refine z_aload_n (j := 0) dX6_piece_59 rfl rfl ?_
          refine z_rgetA (k := 9) (a := 7) hF dX6_piece_60 (by decide) rfl zw785 rfl ?_
          refine z_iload_n (j := 1) dX6_piece_63 rfl rfl ?_
          refine z_riald hF dX6_piece_64 (fun x4 => ?_)
          exact z_iret dX6_piece_65 rfl rfl rfl rfl
        · refine z_cases (fun n2 => ?_) (fun n2 => ?_)
          · refine z_swIn (off := 43) (tgt := 66) dX6_piece_23 (by rw [n2]; decide) (by rw [n2]; decide) (by rw [n2]; rfl) (by decide) ?_
            refine z_aload_n (j := 0) dX6_piece_66 rfl rfl ?_
            refine z_rgetA (k := 11) (a := 9) hF dX6_piece_67 (by decide) rfl zw787 rfl ?_
            refine z_iload_n (j := 1) dX6_piece_70 rfl rfl ?_
            refine z_riald hF dX6_piece_71 (fun x5 => ?_)
            exact z_iret dX6_piece_72 rfl rfl rfl rfl
          · refine z_cases (fun n3 => ?_) (fun n3 => ?_)
            · refine z_swIn (off := 50) (tgt := 73) dX6_piece_23 (by rw [n3]; decide) (by rw [n3]; decide) (by rw [n3]; rfl) (by decide) ?_
              refine z_aload_n (j := 0) dX6_piece_73 rfl rfl ?_
              refine z_rgetA (k := 12) (a := 10) hF dX6_piece_74 (by decide) rfl zw788 rfl ?_
              refine z_iload_n (j := 1) dX6_piece_77 rfl rfl ?_
              refine z_riald hF dX6_piece_78 (fun x6 => ?_)
              exact z_iret dX6_piece_79 rfl rfl rfl rfl
            · refine z_swOut (tgt := 80) dX6_piece_23 (zsw4 n0 n1 n2 n3) (by decide) ?_
              refine z_iload_n (j := 2) dX6_piece_80 rfl rfl ?_
              refine z_iconst (v := 4) dX6_piece_81 (by decide) ?_
              refine z_isub dX6_piece_82 ?_
              refine z_aload_n (j := 0) dX6_piece_83 rfl rfl ?_
              refine z_rgetA (k := 11) (a := 9) hF dX6_piece_84 (by decide) rfl zw787 rfl ?_
              refine z_iload_n (j := 1) dX6_piece_87 rfl rfl ?_
              refine z_riald hF dX6_piece_88 (fun x7 => ?_)
              refine z_join (pc2 := 112) (lv2 := fun (q : Int32) => []) (st2 := fun (q : Int32) => [.int q]) (h2 := fun (q : Int32) => zput R h0 s) (fun q => ?_) (fun F9 kF9 => ?_)
              · obtain ⟨v8, e0⟩ : ∃ z, z = q := ⟨_, rfl⟩
                subst e0
                try dsimp only
                exact z_iret dX6_piece_112 rfl rfl rfl rfl
              · refine z_itb ?_
                refine z_icmp_ge (tgt := 110) dX6_piece_89 (by decide) (fun _ => ?_) (fun _ => ?_)
                · refine z_bipush (v := -3) dX6_piece_110 (by decide) ?_
                  refine z_sb ?_
                  refine z_at [] rfl ?_
                  exact kF9 (-3 : Int32)
                · refine z_aload_n (j := 0) dX6_piece_92 rfl rfl ?_
                  refine z_rgetA (k := 14) (a := 11) hF dX6_piece_93 (by decide) rfl zw790 rfl ?_
                  refine z_aload_n (j := 0) dX6_piece_96 rfl rfl ?_
                  refine z_rgetA (k := 10) (a := 8) hF dX6_piece_97 (by decide) rfl zw786 rfl ?_
                  refine z_iload_n (j := 1) dX6_piece_100 rfl rfl ?_
                  refine z_as ?_
                  refine z_riald hF dX6_piece_101 (fun x10 => ?_)
                  refine z_iload_n (j := 2) dX6_piece_102 rfl rfl ?_
                  refine z_iadd dX6_piece_103 ?_
                  refine z_iconst (v := 4) dX6_piece_104 (by decide) ?_
                  refine z_isub dX6_piece_105 ?_
                  refine z_as ?_
                  refine z_riald hF dX6_piece_106 (fun x11 => ?_)
                  refine z_goto (tgt := 112) dX6_piece_107 (by decide) ?_
                  refine z_sb ?_
                  refine z_at [] rfl ?_
                  exact kF9 x11
def fX6_clearTree (s : Zr) : Option (Zr) :=
  (some (u2 s 0 15 (0 : Int32))).bind fun s1 =>
  (some (u2 s1 0 20 (0 : Int32))).bind fun s2 =>
  some s2
set_option maxRecDepth 100000 in
set_option maxHeartbeats 4000000 in
theorem kX6_clearTree (G : Zg) (R : Nat) (h0 : Zh) (hF : zRF R h0) (s : Zr) {x : Zr} (hx : fX6_clearTree s = some x) : zCt G yX6_clearTree cX6_clearTree 1 (Option.none : Option Jvm.ClassFile.FieldType) 1 [zrv G.2.1 (some R)] (zput R h0 s) none (zput R h0 x) := by
  refine z_met (a := x) (rvf := fun (_ : Zr) => none) (hff := fun (x : Zr) => zput R h0 x) (lv := [(0, zrv G.2.1 (some R))]) (by decide +kernel) (by simp [lg_sl, zcat1, zcI, zcJ]) (by simp [lv_args, zcat1, zcI, zcJ]) ?_ hx
  unfold fX6_clearTree
  refine z_aload_n (j := 0) dX6_clearTree_0 rfl rfl ?_
  refine z_iconst (v := 0) dX6_clearTree_1 (by decide) ?_
  refine z_rputI (k := 15) hF dX6_clearTree_2 (by decide) rfl zw791 rfl rfl (fun s1 => ?_)
  refine z_aload_n (j := 0) dX6_clearTree_5 rfl rfl ?_
  refine z_iconst (v := 0) dX6_clearTree_6 (by decide) ?_
  refine z_rputI (k := 20) hF dX6_clearTree_7 (by decide) rfl zw796 rfl rfl (fun s2 => ?_)
  exact z_vret dX6_clearTree_10 rfl rfl rfl
def fX6_newNode (s : Zr) (a1 : Int32) (a2 : Int32) : Option (Int32 × Zr) :=
  (wrI s 13 (s 0 15) a1).bind fun s1 =>
  (wrI s1 14 (s1 0 15) a2).bind fun s2 =>
  (wrI s2 15 (s2 0 15) (s2 0 20)).bind fun s3 =>
  (wrI s3 16 (s3 0 15) (0 : Int32)).bind fun s4 =>
  (some (u2 s4 0 15 ((s4 0 15) + (1 : Int32)))).bind fun s5 =>
  some ((s5 0 15) - (1 : Int32), s5)
set_option maxRecDepth 100000 in
set_option maxHeartbeats 4000000 in
theorem kX6_newNode (G : Zg) (R : Nat) (h0 : Zh) (hF : zRF R h0) (s : Zr) (a1 : Int32) (a2 : Int32) {x : Int32 × Zr} (hx : fX6_newNode s a1 a2 = some x) : zCt G yX6_newNode cX6_newNode 3 (Option.some Jvm.ClassFile.FieldType.int) 1 [zrv G.2.1 (some R), .int a1, .int a2] (zput R h0 s) (some (.int x.1)) (zput R h0 x.2) := by
  refine z_met (a := x) (rvf := fun (x : Int32 × Zr) => some (.int x.1)) (hff := fun (x : Int32 × Zr) => zput R h0 x.2) (lv := [(0, zrv G.2.1 (some R)), (1, .int a1), (2, .int a2)]) (by decide +kernel) (by simp [lg_sl, zcat1, zcI, zcJ]) (by simp [lv_args, zcat1, zcI, zcJ]) ?_ hx
  unfold fX6_newNode
  refine z_aload_n (j := 0) dX6_newNode_0 rfl rfl ?_
  refine z_rgetA (k := 16) (a := 12) hF dX6_newNode_1 (by decide) rfl zw792 rfl ?_
  refine z_aload_n (j := 0) dX6_newNode_4 rfl rfl ?_
  refine z_rgetI (k := 15) hF dX6_newNode_5 (by decide) rfl zw791 ?_
  refine z_iload_n (j := 1) dX6_newNode_8 rfl rfl ?_
  refine z_riast hF dX6_newNode_9 (fun s1 => ?_)
  refine z_aload_n (j := 0) dX6_newNode_10 rfl rfl ?_
  refine z_rgetA (k := 17) (a := 13) hF dX6_newNode_11 (by decide) rfl zw793 rfl ?_
  refine z_aload_n (j := 0) dX6_newNode_14 rfl rfl ?_
  refine z_rgetI (k := 15) hF dX6_newNode_15 (by decide) rfl zw791 ?_
  refine z_iload_n (j := 2) dX6_newNode_18 rfl rfl ?_
  refine z_riast hF dX6_newNode_19 (fun s2 => ?_)
  refine z_aload_n (j := 0) dX6_newNode_20 rfl rfl ?_
  refine z_rgetA (k := 18) (a := 14) hF dX6_newNode_21 (by decide) rfl zw794 rfl ?_
  refine z_aload_n (j := 0) dX6_newNode_24 rfl rfl ?_
  refine z_rgetI (k := 15) hF dX6_newNode_25 (by decide) rfl zw791 ?_
  refine z_aload_n (j := 0) dX6_newNode_28 rfl rfl ?_
  refine z_rgetI (k := 20) hF dX6_newNode_29 (by decide) rfl zw796 ?_
  refine z_riast hF dX6_newNode_32 (fun s3 => ?_)
  refine z_aload_n (j := 0) dX6_newNode_33 rfl rfl ?_
  refine z_rgetA (k := 19) (a := 15) hF dX6_newNode_34 (by decide) rfl zw795 rfl ?_
  refine z_aload_n (j := 0) dX6_newNode_37 rfl rfl ?_
  refine z_rgetI (k := 15) hF dX6_newNode_38 (by decide) rfl zw791 ?_
  refine z_iconst (v := 0) dX6_newNode_41 (by decide) ?_
  refine z_riast hF dX6_newNode_42 (fun s4 => ?_)
  refine z_aload_n (j := 0) dX6_newNode_43 rfl rfl ?_
  refine z_dup dX6_newNode_44 (zcat1 _ _) ?_
  refine z_rgetI (k := 15) hF dX6_newNode_45 (by decide) rfl zw791 ?_
  refine z_iconst (v := 1) dX6_newNode_48 (by decide) ?_
  refine z_iadd dX6_newNode_49 ?_
  refine z_rputI (k := 15) hF dX6_newNode_50 (by decide) rfl zw791 rfl rfl (fun s5 => ?_)
  refine z_aload_n (j := 0) dX6_newNode_53 rfl rfl ?_
  refine z_rgetI (k := 15) hF dX6_newNode_54 (by decide) rfl zw791 ?_
  refine z_iconst (v := 1) dX6_newNode_57 (by decide) ?_
  refine z_isub dX6_newNode_58 ?_
  exact z_iret dX6_newNode_59 rfl rfl rfl rfl
def fX6_expand (s : Zr) (a1 : Int32) : Option (Int32 × Zr) :=
  (rdI s 7 a1).bind fun x1 =>
  (rdI s 8 a1).bind fun x2 =>
  (fX6_newNode s x1 x2).bind fun ((x3, s4) : Int32 × Zr) =>
  (wrI s4 18 x3 a1).bind fun s5 =>
  (zloop (fun ((v6, s7) : Int32 × Zr) =>
    (if (s7 0 15) ≤ v6 then
      some (.inr s7)
    else
      (rdI s7 18 v6).bind fun x11 =>
      (wrI s7 15 v6 (s7 0 20)).bind fun s12 =>
      (rdI s12 10 x11).bind fun x13 =>
      (wrI s12 16 v6 x13).bind fun s14 =>
      (zloop (fun ((v15, s16) : Int32 × Zr) =>
        ((rdI s16 10 x11).bind fun x20 =>
        if x20 ≤ v15 then
          some (.inr s16)
        else
          (rdI s16 9 x11).bind fun x21 =>
          (rdI s16 12 (x21 + v15)).bind fun x22 =>
          (wrI s16 17 ((s16 0 20) + v15) (s16 0 15)).bind fun s23 =>
          (wrI s23 18 (s23 0 15) x22).bind fun s24 =>
          (rdI s24 7 x22).bind fun x25 =>
          (wrI s24 13 (s24 0 15) x25).bind fun s26 =>
          (rdI s26 8 x22).bind fun x27 =>
          (wrI s26 14 (s26 0 15) x27).bind fun s28 =>
          (some (u2 s28 0 15 ((s28 0 15) + (1 : Int32)))).bind fun s29 =>
          some (.inl (v15 + (1 : Int32), s29)) : Option ((Int32 × Zr) ⊕ Zr))) zFU ((0 : Int32), s14)).bind fun (s17 : Zr) =>
      (rdI s17 10 x11).bind fun x30 =>
      (some (u2 s17 0 20 ((s17 0 20) + x30))).bind fun s31 =>
      some (.inl (v6 + (1 : Int32), s31)) : Option ((Int32 × Zr) ⊕ Zr))) zFU (x3, s5)).bind fun (s8 : Zr) =>
  some (x3, s8)
set_option maxRecDepth 100000 in
set_option maxHeartbeats 4000000 in
theorem kX6_expand (G : Zg) (R : Nat) (h0 : Zh) (hF : zRF R h0) (s : Zr) (a1 : Int32) {x : Int32 × Zr} (hx : fX6_expand s a1 = some x) : zCt G yX6_expand cX6_expand 7 (Option.some Jvm.ClassFile.FieldType.int) 2 [zrv G.2.1 (some R), .int a1] (zput R h0 s) (some (.int x.1)) (zput R h0 x.2) := by
  refine z_met (a := x) (rvf := fun (x : Int32 × Zr) => some (.int x.1)) (hff := fun (x : Int32 × Zr) => zput R h0 x.2) (lv := [(0, zrv G.2.1 (some R)), (1, .int a1)]) (by decide +kernel) (by simp [lg_sl, zcat1, zcI, zcJ]) (by simp [lv_args, zcat1, zcI, zcJ]) ?_ hx
  unfold fX6_expand
  refine z_aload_n (j := 0) dX6_expand_0 rfl rfl ?_
  refine z_aload_n (j := 0) dX6_expand_1 rfl rfl ?_
  refine z_rgetA (k := 8) (a := 6) hF dX6_expand_2 (by decide) rfl zw784 rfl ?_
  refine z_iload_n (j := 1) dX6_expand_5 rfl rfl ?_
  refine z_riald hF dX6_expand_6 (fun x1 => ?_)
  refine z_aload_n (j := 0) dX6_expand_7 rfl rfl ?_
  refine z_rgetA (k := 9) (a := 7) hF dX6_expand_8 (by decide) rfl zw785 rfl ?_
  refine z_iload_n (j := 1) dX6_expand_11 rfl rfl ?_
  refine z_riald hF dX6_expand_12 (fun x2 => ?_)
  refine z_callV (As := [.int x1, .int x2]) (rest := []) (rv2 := fun (x : Int32 × Zr) => some (.int x.1)) (h2 := fun (x : Int32 × Zr) => zput R h0 x.2) dX6_expand_13 vX6_newNode (.inl zw1066) (by decide) zkl7 (zRrecv hF).1 (zRrecv hF).2 rfl rfl (by decide) (fun x hx => kX6_newNode G R h0 hF s x1 x2 hx) (fun x => ?_)
  obtain ⟨x3, s4⟩ := x
  try dsimp only [Option.toList, List.cons_append, List.nil_append]
  refine z_istore_n (lv' := [(2, .int x3), (0, zrv G.2.1 (some R)), (1, .int a1)]) dX6_expand_16 rfl (by decide) rfl ?_
  refine z_aload_n (j := 1) dX6_expand_17 rfl rfl ?_
  refine z_rgetA (k := 22) (a := 17) hF dX6_expand_18 (by decide) rfl zw798 rfl ?_
  refine z_iload_n (j := 0) dX6_expand_21 rfl rfl ?_
  refine z_iload_n (j := 2) dX6_expand_22 rfl rfl ?_
  refine z_riast hF dX6_expand_23 (fun s5 => ?_)
  refine z_iload_n (j := 0) dX6_expand_24 rfl rfl ?_
  refine z_istore_n (lv' := [(3, .int x3), (2, .int x3), (0, zrv G.2.1 (some R)), (1, .int a1)]) dX6_expand_25 rfl (by decide) rfl ?_
  refine z_at [2, 1, 0] rfl ?_
  refine z_join (pc2 := 194) (lv2 := fun (q : Zr) => [(2, .int x3)]) (st2 := fun _ => []) (h2 := fun (q : Zr) => zput R h0 q) (fun q => ?_) (fun F9 kF9 => ?_)
  · obtain ⟨s8, e0⟩ : ∃ z, z = q := ⟨_, rfl⟩
    subst e0
    try dsimp only
    refine z_iload_n (j := 0) dX6_expand_194 rfl rfl ?_
    exact z_iret dX6_expand_195 rfl rfl rfl rfl
  · refine z_loop (lvf := fun (q : Int32 × Zr) => [(0, zrv G.2.1 (some R)), (2, .int x3), (3, .int q.1)]) (hf2 := fun (q : Int32 × Zr) => zput R h0 q.2) (s0 := (x3, s5)) (fun K10 bK10 rK10 q => ?_)
    obtain ⟨v6, s7⟩ := q
    try dsimp only
    refine z_iload_n (j := 2) dX6_expand_26 rfl rfl ?_
    refine z_aload_n (j := 0) dX6_expand_27 rfl rfl ?_
    refine z_rgetI (k := 15) hF dX6_expand_28 (by decide) rfl zw791 ?_
    refine z_itb ?_
    refine z_icmp_ge (tgt := 194) dX6_expand_31 (by decide) (fun _ => ?_) (fun _ => ?_)
    · refine z_sb ?_
      refine z_eq (rK10 _) ?_
      refine z_at [1] rfl ?_
      exact kF9 s7
    · refine z_aload_n (j := 0) dX6_expand_34 rfl rfl ?_
      refine z_rgetA (k := 22) (a := 17) hF dX6_expand_35 (by decide) rfl zw798 rfl ?_
      refine z_iload_n (j := 2) dX6_expand_38 rfl rfl ?_
      refine z_as ?_
      refine z_riald hF dX6_expand_39 (fun x11 => ?_)
      refine z_istore (lv' := [(4, .int x11), (0, zrv G.2.1 (some R)), (2, .int x3), (3, .int v6)]) dX6_expand_40 (by decide) rfl ?_
      refine z_aload_n (j := 1) dX6_expand_42 rfl rfl ?_
      refine z_rgetA (k := 18) (a := 14) hF dX6_expand_43 (by decide) rfl zw794 rfl ?_
      refine z_iload_n (j := 3) dX6_expand_46 rfl rfl ?_
      refine z_aload_n (j := 1) dX6_expand_47 rfl rfl ?_
      refine z_rgetI (k := 20) hF dX6_expand_48 (by decide) rfl zw796 ?_
      refine z_as ?_
      refine z_riast hF dX6_expand_51 (fun s12 => ?_)
      refine z_aload_n (j := 1) dX6_expand_52 rfl rfl ?_
      refine z_rgetA (k := 19) (a := 15) hF dX6_expand_53 (by decide) rfl zw795 rfl ?_
      refine z_iload_n (j := 3) dX6_expand_56 rfl rfl ?_
      refine z_aload_n (j := 1) dX6_expand_57 rfl rfl ?_
      refine z_rgetA (k := 11) (a := 9) hF dX6_expand_58 (by decide) rfl zw787 rfl ?_
      refine z_iload (j := 0) dX6_expand_61 rfl ?_
      refine z_as ?_
      refine z_riald hF dX6_expand_63 (fun x13 => ?_)
      refine z_as ?_
      refine z_riast hF dX6_expand_64 (fun s14 => ?_)
      refine z_iconst (v := 0) dX6_expand_65 (by decide) ?_
      refine z_istore (lv' := [(5, .int (0 : Int32)), (4, .int x11), (0, zrv G.2.1 (some R)), (2, .int x3), (3, .int v6)]) dX6_expand_66 (by decide) rfl ?_
      refine z_as ?_
      refine z_at [2, 3, 4, 1, 0] rfl ?_
      refine z_join (pc2 := 172) (lv2 := fun (q : Zr) => [(0, zrv G.2.1 (some R)), (2, .int x3), (3, .int v6), (4, .int x11)]) (st2 := fun _ => []) (h2 := fun (q : Zr) => zput R h0 q) (fun q => ?_) (fun F18 kF18 => ?_)
      · obtain ⟨s17, e0⟩ : ∃ z, z = q := ⟨_, rfl⟩
        subst e0
        try dsimp only
        refine z_aload_n (j := 0) dX6_expand_172 rfl rfl ?_
        refine z_dup dX6_expand_173 (zcat1 _ _) ?_
        refine z_rgetI (k := 20) hF dX6_expand_174 (by decide) rfl zw796 ?_
        refine z_aload_n (j := 0) dX6_expand_177 rfl rfl ?_
        refine z_rgetA (k := 11) (a := 9) hF dX6_expand_178 (by decide) rfl zw787 rfl ?_
        refine z_iload (j := 3) dX6_expand_181 rfl ?_
        refine z_as ?_
        refine z_riald hF dX6_expand_183 (fun x30 => ?_)
        refine z_iadd dX6_expand_184 ?_
        refine z_as ?_
        refine z_rputI (k := 20) hF dX6_expand_185 (by decide) rfl zw796 rfl rfl (fun s31 => ?_)
        refine z_iinc (j := 2) (v := v6 + (1 : Int32)) (lv' := [(3, .int (v6 + (1 : Int32))), (0, zrv G.2.1 (some R)), (2, .int x3), (4, .int x11)]) dX6_expand_188 rfl rfl (by decide) rfl ?_
        refine z_goto (tgt := 26) dX6_expand_191 (by decide) ?_
        refine z_sb ?_
        refine z_at [1, 2, 0] rfl ?_
        exact bK10 (v6 + (1 : Int32), s31)
      · refine z_loop (lvf := fun (q : Int32 × Zr) => [(0, zrv G.2.1 (some R)), (2, .int x3), (3, .int v6), (4, .int x11), (5, .int q.1)]) (hf2 := fun (q : Int32 × Zr) => zput R h0 q.2) (s0 := ((0 : Int32), s14)) (fun K19 bK19 rK19 q => ?_)
        obtain ⟨v15, s16⟩ := q
        try dsimp only
        refine z_iload (j := 4) dX6_expand_68 rfl ?_
        refine z_aload_n (j := 0) dX6_expand_70 rfl rfl ?_
        refine z_rgetA (k := 11) (a := 9) hF dX6_expand_71 (by decide) rfl zw787 rfl ?_
        refine z_iload (j := 3) dX6_expand_74 rfl ?_
        refine z_as ?_
        refine z_riald hF dX6_expand_76 (fun x20 => ?_)
        refine z_itb ?_
        refine z_icmp_ge (tgt := 172) dX6_expand_77 (by decide) (fun _ => ?_) (fun _ => ?_)
        · refine z_sb ?_
          refine z_eq (rK19 _) ?_
          refine z_at [0, 1, 2, 3] rfl ?_
          exact kF18 s16
        · refine z_aload_n (j := 0) dX6_expand_80 rfl rfl ?_
          refine z_rgetA (k := 14) (a := 11) hF dX6_expand_81 (by decide) rfl zw790 rfl ?_
          refine z_aload_n (j := 0) dX6_expand_84 rfl rfl ?_
          refine z_rgetA (k := 10) (a := 8) hF dX6_expand_85 (by decide) rfl zw786 rfl ?_
          refine z_iload (j := 3) dX6_expand_88 rfl ?_
          refine z_as ?_
          refine z_riald hF dX6_expand_90 (fun x21 => ?_)
          refine z_iload (j := 4) dX6_expand_91 rfl ?_
          refine z_iadd dX6_expand_93 ?_
          refine z_as ?_
          refine z_riald hF dX6_expand_94 (fun x22 => ?_)
          refine z_istore (lv' := [(6, .int x22), (0, zrv G.2.1 (some R)), (2, .int x3), (3, .int v6), (4, .int x11), (5, .int v15)]) dX6_expand_95 (by decide) rfl ?_
          refine z_aload_n (j := 1) dX6_expand_97 rfl rfl ?_
          refine z_rgetA (k := 21) (a := 16) hF dX6_expand_98 (by decide) rfl zw797 rfl ?_
          refine z_aload_n (j := 1) dX6_expand_101 rfl rfl ?_
          refine z_rgetI (k := 20) hF dX6_expand_102 (by decide) rfl zw796 ?_
          refine z_iload (j := 5) dX6_expand_105 rfl ?_
          refine z_iadd dX6_expand_107 ?_
          refine z_aload_n (j := 1) dX6_expand_108 rfl rfl ?_
          refine z_rgetI (k := 15) hF dX6_expand_109 (by decide) rfl zw791 ?_
          refine z_as ?_
          refine z_riast hF dX6_expand_112 (fun s23 => ?_)
          refine z_aload_n (j := 1) dX6_expand_113 rfl rfl ?_
          refine z_rgetA (k := 22) (a := 17) hF dX6_expand_114 (by decide) rfl zw798 rfl ?_
          refine z_aload_n (j := 1) dX6_expand_117 rfl rfl ?_
          refine z_rgetI (k := 15) hF dX6_expand_118 (by decide) rfl zw791 ?_
          refine z_iload (j := 0) dX6_expand_121 rfl ?_
          refine z_as ?_
          refine z_riast hF dX6_expand_123 (fun s24 => ?_)
          refine z_aload_n (j := 1) dX6_expand_124 rfl rfl ?_
          refine z_rgetA (k := 16) (a := 12) hF dX6_expand_125 (by decide) rfl zw792 rfl ?_
          refine z_aload_n (j := 1) dX6_expand_128 rfl rfl ?_
          refine z_rgetI (k := 15) hF dX6_expand_129 (by decide) rfl zw791 ?_
          refine z_aload_n (j := 1) dX6_expand_132 rfl rfl ?_
          refine z_rgetA (k := 8) (a := 6) hF dX6_expand_133 (by decide) rfl zw784 rfl ?_
          refine z_iload (j := 0) dX6_expand_136 rfl ?_
          refine z_as ?_
          refine z_riald hF dX6_expand_138 (fun x25 => ?_)
          refine z_as ?_
          refine z_riast hF dX6_expand_139 (fun s26 => ?_)
          refine z_aload_n (j := 1) dX6_expand_140 rfl rfl ?_
          refine z_rgetA (k := 17) (a := 13) hF dX6_expand_141 (by decide) rfl zw793 rfl ?_
          refine z_aload_n (j := 1) dX6_expand_144 rfl rfl ?_
          refine z_rgetI (k := 15) hF dX6_expand_145 (by decide) rfl zw791 ?_
          refine z_aload_n (j := 1) dX6_expand_148 rfl rfl ?_
          refine z_rgetA (k := 9) (a := 7) hF dX6_expand_149 (by decide) rfl zw785 rfl ?_
          refine z_iload (j := 0) dX6_expand_152 rfl ?_
          refine z_as ?_
          refine z_riald hF dX6_expand_154 (fun x27 => ?_)
          refine z_as ?_
          refine z_riast hF dX6_expand_155 (fun s28 => ?_)
          refine z_aload_n (j := 1) dX6_expand_156 rfl rfl ?_
          refine z_dup dX6_expand_157 (zcat1 _ _) ?_
          refine z_rgetI (k := 15) hF dX6_expand_158 (by decide) rfl zw791 ?_
          refine z_iconst (v := 1) dX6_expand_161 (by decide) ?_
          refine z_iadd dX6_expand_162 ?_
          refine z_as ?_
          refine z_rputI (k := 15) hF dX6_expand_163 (by decide) rfl zw791 rfl rfl (fun s29 => ?_)
          refine z_iinc (j := 5) (v := v15 + (1 : Int32)) (lv' := [(5, .int (v15 + (1 : Int32))), (6, .int x22), (0, zrv G.2.1 (some R)), (2, .int x3), (3, .int v6), (4, .int x11)]) dX6_expand_166 rfl rfl (by decide) rfl ?_
          refine z_goto (tgt := 68) dX6_expand_169 (by decide) ?_
          refine z_sb ?_
          refine z_at [2, 3, 4, 5, 0] rfl ?_
          exact bK19 (v15 + (1 : Int32), s29)
def fX6_compare (s : Zr) (a1 : Int32) (a2 : Int32) : Option (Int32 × Zr) :=
  (wrI s 19 (0 : Int32) a1).bind fun s1 =>
  (wrI s1 20 (0 : Int32) a2).bind fun s2 =>
  (zloop (fun ((v3, s4) : Int32 × Zr) =>
    (if v3 ≤ 0 then
      some (.inr (.inl s4))
    else
      (rdI s4 19 (v3 + (-1 : Int32))).bind fun x8 =>
      (rdI s4 20 (v3 + (-1 : Int32))).bind fun x9 =>
      (rdI s4 13 x8).bind fun x10 =>
      (rdI s4 13 x9).bind fun x11 =>
      if x10 = x11 then
        (rdI s4 14 x8).bind fun x12 =>
        (rdI s4 14 x9).bind fun x13 =>
        if x12 = x13 then
          (rdI s4 16 x8).bind fun x14 =>
          (rdI s4 16 x9).bind fun x15 =>
          if x14 = x15 then
            (rdI s4 16 x8).bind fun x16 =>
            (zloop (fun ((v17, v18, s19) : Int32 × Int32 × Zr) =>
              (if v18 < 0 then
                some (.inr (v17, s19))
              else
                (rdI s19 15 x8).bind fun x24 =>
                (rdI s19 17 (x24 + v18)).bind fun x25 =>
                (wrI s19 19 v17 x25).bind fun s26 =>
                (rdI s26 15 x9).bind fun x27 =>
                (rdI s26 17 (x27 + v18)).bind fun x28 =>
                (wrI s26 20 v17 x28).bind fun s29 =>
                some (.inl (v17 + (1 : Int32), v18 + (-1 : Int32), s29)) : Option ((Int32 × Int32 × Zr) ⊕ (Int32 × Zr)))) zFU (v3 + (-1 : Int32), x16 - (1 : Int32), s4)).bind fun ((w20, s21) : Int32 × Zr) =>
            some (.inl (w20, s21))
          else
            (rdI s4 16 x8).bind fun x30 =>
            (rdI s4 16 x9).bind fun x31 =>
            some (.inr (.inr (x30 - x31, s4)))
        else
          (rdI s4 14 x8).bind fun x32 =>
          (rdI s4 14 x9).bind fun x33 =>
          some (.inr (.inr (x32 - x33, s4)))
      else
        (rdI s4 13 x8).bind fun x34 =>
        (rdI s4 13 x9).bind fun x35 =>
        some (.inr (.inr (x34 - x35, s4))) : Option ((Int32 × Zr) ⊕ (Zr ⊕ (Int32 × Zr))))) zFU ((1 : Int32), s2)).bind fun (q : (Zr ⊕ (Int32 × Zr))) => match q with
  | .inr t => some t
  | .inl s5 =>
    some ((0 : Int32), s5)
set_option maxRecDepth 100000 in
set_option maxHeartbeats 4000000 in
theorem kX6_compare (G : Zg) (R : Nat) (h0 : Zh) (hF : zRF R h0) (s : Zr) (a1 : Int32) (a2 : Int32) {x : Int32 × Zr} (hx : fX6_compare s a1 a2 = some x) : zCt G yX6_compare cX6_compare 7 (Option.some Jvm.ClassFile.FieldType.int) 1 [zrv G.2.1 (some R), .int a1, .int a2] (zput R h0 s) (some (.int x.1)) (zput R h0 x.2) := by
  refine z_met (a := x) (rvf := fun (x : Int32 × Zr) => some (.int x.1)) (hff := fun (x : Int32 × Zr) => zput R h0 x.2) (lv := [(0, zrv G.2.1 (some R)), (1, .int a1), (2, .int a2)]) (by decide +kernel) (by simp [lg_sl, zcat1, zcI, zcJ]) (by simp [lv_args, zcat1, zcI, zcJ]) ?_ hx
  unfold fX6_compare
  refine z_aload_n (j := 0) dX6_compare_0 rfl rfl ?_
  refine z_rgetA (k := 23) (a := 18) hF dX6_compare_1 (by decide) rfl zw799 rfl ?_
  refine z_iconst (v := 0) dX6_compare_4 (by decide) ?_
  refine z_iload_n (j := 1) dX6_compare_5 rfl rfl ?_
  refine z_riast hF dX6_compare_6 (fun s1 => ?_)
  refine z_aload_n (j := 0) dX6_compare_7 rfl rfl ?_
  refine z_rgetA (k := 24) (a := 19) hF dX6_compare_8 (by decide) rfl zw800 rfl ?_
  refine z_iconst (v := 0) dX6_compare_11 (by decide) ?_
  refine z_iload_n (j := 2) dX6_compare_12 rfl rfl ?_
  refine z_riast hF dX6_compare_13 (fun s2 => ?_)
  refine z_iconst (v := 1) dX6_compare_14 (by decide) ?_
  refine z_istore_n (lv' := [(3, .int (1 : Int32)), (0, zrv G.2.1 (some R)), (1, .int a1), (2, .int a2)]) dX6_compare_15 rfl (by decide) rfl ?_
  refine z_at [1, 0] rfl ?_
  refine z_joinS (pc2 := 208) (lv2 := fun (q : Zr) => []) (st2 := fun _ => []) (h2 := fun (q : Zr) => zput R h0 q) (fun q => ?_) (fun _ => rfl) (fun F6 kF6 tF6 => ?_)
  · obtain ⟨s5, e0⟩ : ∃ z, z = q := ⟨_, rfl⟩
    subst e0
    try dsimp only
    refine z_iconst (v := 0) dX6_compare_208 (by decide) ?_
    exact z_iret dX6_compare_209 rfl rfl rfl rfl
  · refine z_loop (lvf := fun (q : Int32 × Zr) => [(0, zrv G.2.1 (some R)), (3, .int q.1)]) (hf2 := fun (q : Int32 × Zr) => zput R h0 q.2) (s0 := ((1 : Int32), s2)) (fun K7 bK7 rK7 q => ?_)
    obtain ⟨v3, s4⟩ := q
    try dsimp only
    refine z_iload_n (j := 1) dX6_compare_16 rfl rfl ?_
    refine z_itb ?_
    refine z_if_le (tgt := 208) dX6_compare_17 (by decide) (fun _ => ?_) (fun _ => ?_)
    · refine z_sb ?_
      refine z_eq (rK7 _) ?_
      refine z_at [] rfl ?_
      exact kF6 s4
    · refine z_iinc (j := 1) (v := v3 + (-1 : Int32)) (lv' := [(3, .int (v3 + (-1 : Int32))), (0, zrv G.2.1 (some R))]) dX6_compare_20 rfl rfl (by decide) rfl ?_
      refine z_aload_n (j := 1) dX6_compare_23 rfl rfl ?_
      refine z_rgetA (k := 23) (a := 18) hF dX6_compare_24 (by decide) rfl zw799 rfl ?_
      refine z_iload_n (j := 0) dX6_compare_27 rfl rfl ?_
      refine z_as ?_
      refine z_riald hF dX6_compare_28 (fun x8 => ?_)
      refine z_istore (lv' := [(4, .int x8), (3, .int (v3 + (-1 : Int32))), (0, zrv G.2.1 (some R))]) dX6_compare_29 (by decide) rfl ?_
      refine z_aload_n (j := 2) dX6_compare_31 rfl rfl ?_
      refine z_rgetA (k := 24) (a := 19) hF dX6_compare_32 (by decide) rfl zw800 rfl ?_
      refine z_iload_n (j := 1) dX6_compare_35 rfl rfl ?_
      refine z_as ?_
      refine z_riald hF dX6_compare_36 (fun x9 => ?_)
      refine z_istore (lv' := [(5, .int x9), (4, .int x8), (3, .int (v3 + (-1 : Int32))), (0, zrv G.2.1 (some R))]) dX6_compare_37 (by decide) rfl ?_
      refine z_aload_n (j := 3) dX6_compare_39 rfl rfl ?_
      refine z_rgetA (k := 16) (a := 12) hF dX6_compare_40 (by decide) rfl zw792 rfl ?_
      refine z_iload (j := 1) dX6_compare_43 rfl ?_
      refine z_as ?_
      refine z_riald hF dX6_compare_45 (fun x10 => ?_)
      refine z_aload_n (j := 3) dX6_compare_46 rfl rfl ?_
      refine z_rgetA (k := 16) (a := 12) hF dX6_compare_47 (by decide) rfl zw792 rfl ?_
      refine z_iload (j := 0) dX6_compare_50 rfl ?_
      refine z_as ?_
      refine z_riald hF dX6_compare_52 (fun x11 => ?_)
      refine z_itb ?_
      refine z_icmp_eq (tgt := 72) dX6_compare_53 (by decide) (fun _ => ?_) (fun _ => ?_)
      · refine z_aload_n (j := 3) dX6_compare_72 rfl rfl ?_
        refine z_rgetA (k := 17) (a := 13) hF dX6_compare_73 (by decide) rfl zw793 rfl ?_
        refine z_iload (j := 1) dX6_compare_76 rfl ?_
        refine z_as ?_
        refine z_riald hF dX6_compare_78 (fun x12 => ?_)
        refine z_aload_n (j := 3) dX6_compare_79 rfl rfl ?_
        refine z_rgetA (k := 17) (a := 13) hF dX6_compare_80 (by decide) rfl zw793 rfl ?_
        refine z_iload (j := 0) dX6_compare_83 rfl ?_
        refine z_as ?_
        refine z_riald hF dX6_compare_85 (fun x13 => ?_)
        refine z_itb ?_
        refine z_icmp_eq (tgt := 105) dX6_compare_86 (by decide) (fun _ => ?_) (fun _ => ?_)
        · refine z_aload_n (j := 3) dX6_compare_105 rfl rfl ?_
          refine z_rgetA (k := 19) (a := 15) hF dX6_compare_106 (by decide) rfl zw795 rfl ?_
          refine z_iload (j := 1) dX6_compare_109 rfl ?_
          refine z_as ?_
          refine z_riald hF dX6_compare_111 (fun x14 => ?_)
          refine z_aload_n (j := 3) dX6_compare_112 rfl rfl ?_
          refine z_rgetA (k := 19) (a := 15) hF dX6_compare_113 (by decide) rfl zw795 rfl ?_
          refine z_iload (j := 0) dX6_compare_116 rfl ?_
          refine z_as ?_
          refine z_riald hF dX6_compare_118 (fun x15 => ?_)
          refine z_itb ?_
          refine z_icmp_eq (tgt := 138) dX6_compare_119 (by decide) (fun _ => ?_) (fun _ => ?_)
          · refine z_aload_n (j := 3) dX6_compare_138 rfl rfl ?_
            refine z_rgetA (k := 19) (a := 15) hF dX6_compare_139 (by decide) rfl zw795 rfl ?_
            refine z_iload (j := 1) dX6_compare_142 rfl ?_
            refine z_as ?_
            refine z_riald hF dX6_compare_144 (fun x16 => ?_)
            refine z_iconst (v := 1) dX6_compare_145 (by decide) ?_
            refine z_isub dX6_compare_146 ?_
            refine z_istore (lv' := [(6, .int (x16 - (1 : Int32))), (5, .int x9), (4, .int x8), (3, .int (v3 + (-1 : Int32))), (0, zrv G.2.1 (some R))]) dX6_compare_147 (by decide) rfl ?_
            refine z_as ?_
            refine z_at [4, 3, 2, 1, 0] rfl ?_
            refine z_join (pc2 := 205) (lv2 := fun (q : Int32 × Zr) => [(0, zrv G.2.1 (some R)), (3, .int q.1)]) (st2 := fun _ => []) (h2 := fun (q : Int32 × Zr) => zput R h0 q.2) (fun q => ?_) (fun F22 kF22 => ?_)
            · obtain ⟨w20, s21⟩ := q
              try dsimp only
              refine z_goto (tgt := 16) dX6_compare_205 (by decide) ?_
              refine z_sb ?_
              refine z_at [0, 1] rfl ?_
              exact bK7 (w20, s21)
            · refine z_loop (lvf := fun (q : Int32 × Int32 × Zr) => [(0, zrv G.2.1 (some R)), (3, .int q.1), (4, .int x8), (5, .int x9), (6, .int q.2.1)]) (hf2 := fun (q : Int32 × Int32 × Zr) => zput R h0 q.2.2) (s0 := (v3 + (-1 : Int32), x16 - (1 : Int32), s4)) (fun K23 bK23 rK23 q => ?_)
              obtain ⟨v17, v18, s19⟩ := q
              try dsimp only
              refine z_iload (j := 4) dX6_compare_149 rfl ?_
              refine z_itb ?_
              refine z_if_lt (tgt := 205) dX6_compare_151 (by decide) (fun _ => ?_) (fun _ => ?_)
              · refine z_sb ?_
                refine z_eq (rK23 _) ?_
                refine z_at [0, 1] rfl ?_
                exact kF22 (v17, s19)
              · refine z_aload_n (j := 0) dX6_compare_154 rfl rfl ?_
                refine z_rgetA (k := 23) (a := 18) hF dX6_compare_155 (by decide) rfl zw799 rfl ?_
                refine z_iload_n (j := 1) dX6_compare_158 rfl rfl ?_
                refine z_aload_n (j := 0) dX6_compare_159 rfl rfl ?_
                refine z_rgetA (k := 21) (a := 16) hF dX6_compare_160 (by decide) rfl zw797 rfl ?_
                refine z_aload_n (j := 0) dX6_compare_163 rfl rfl ?_
                refine z_rgetA (k := 18) (a := 14) hF dX6_compare_164 (by decide) rfl zw794 rfl ?_
                refine z_iload (j := 2) dX6_compare_167 rfl ?_
                refine z_as ?_
                refine z_riald hF dX6_compare_169 (fun x24 => ?_)
                refine z_iload (j := 4) dX6_compare_170 rfl ?_
                refine z_iadd dX6_compare_172 ?_
                refine z_as ?_
                refine z_riald hF dX6_compare_173 (fun x25 => ?_)
                refine z_as ?_
                refine z_riast hF dX6_compare_174 (fun s26 => ?_)
                refine z_aload_n (j := 0) dX6_compare_175 rfl rfl ?_
                refine z_rgetA (k := 24) (a := 19) hF dX6_compare_176 (by decide) rfl zw800 rfl ?_
                refine z_iload_n (j := 1) dX6_compare_179 rfl rfl ?_
                refine z_aload_n (j := 0) dX6_compare_180 rfl rfl ?_
                refine z_rgetA (k := 21) (a := 16) hF dX6_compare_181 (by decide) rfl zw797 rfl ?_
                refine z_aload_n (j := 0) dX6_compare_184 rfl rfl ?_
                refine z_rgetA (k := 18) (a := 14) hF dX6_compare_185 (by decide) rfl zw794 rfl ?_
                refine z_iload (j := 3) dX6_compare_188 rfl ?_
                refine z_as ?_
                refine z_riald hF dX6_compare_190 (fun x27 => ?_)
                refine z_iload (j := 4) dX6_compare_191 rfl ?_
                refine z_iadd dX6_compare_193 ?_
                refine z_as ?_
                refine z_riald hF dX6_compare_194 (fun x28 => ?_)
                refine z_as ?_
                refine z_riast hF dX6_compare_195 (fun s29 => ?_)
                refine z_iinc (j := 1) (v := v17 + (1 : Int32)) (lv' := [(3, .int (v17 + (1 : Int32))), (0, zrv G.2.1 (some R)), (4, .int x8), (5, .int x9), (6, .int v18)]) dX6_compare_196 rfl rfl (by decide) rfl ?_
                refine z_iinc (j := 4) (v := v18 + (-1 : Int32)) (lv' := [(6, .int (v18 + (-1 : Int32))), (3, .int (v17 + (1 : Int32))), (0, zrv G.2.1 (some R)), (4, .int x8), (5, .int x9)]) dX6_compare_199 rfl rfl (by decide) rfl ?_
                refine z_goto (tgt := 149) dX6_compare_202 (by decide) ?_
                refine z_sb ?_
                refine z_at [2, 1, 3, 4, 0] rfl ?_
                exact bK23 (v17 + (1 : Int32), v18 + (-1 : Int32), s29)
          · refine z_aload_n (j := 3) dX6_compare_122 rfl rfl ?_
            refine z_rgetA (k := 19) (a := 15) hF dX6_compare_123 (by decide) rfl zw795 rfl ?_
            refine z_iload (j := 1) dX6_compare_126 rfl ?_
            refine z_as ?_
            refine z_riald hF dX6_compare_128 (fun x30 => ?_)
            refine z_aload_n (j := 3) dX6_compare_129 rfl rfl ?_
            refine z_rgetA (k := 19) (a := 15) hF dX6_compare_130 (by decide) rfl zw795 rfl ?_
            refine z_iload (j := 0) dX6_compare_133 rfl ?_
            refine z_as ?_
            refine z_riald hF dX6_compare_135 (fun x31 => ?_)
            refine z_isub dX6_compare_136 ?_
            refine z_sb ?_
            refine z_eq (rK7 _) ?_
            refine z_eq (tF6 _) ?_
            exact z_iret dX6_compare_137 rfl rfl rfl rfl
        · refine z_aload_n (j := 3) dX6_compare_89 rfl rfl ?_
          refine z_rgetA (k := 17) (a := 13) hF dX6_compare_90 (by decide) rfl zw793 rfl ?_
          refine z_iload (j := 1) dX6_compare_93 rfl ?_
          refine z_as ?_
          refine z_riald hF dX6_compare_95 (fun x32 => ?_)
          refine z_aload_n (j := 3) dX6_compare_96 rfl rfl ?_
          refine z_rgetA (k := 17) (a := 13) hF dX6_compare_97 (by decide) rfl zw793 rfl ?_
          refine z_iload (j := 0) dX6_compare_100 rfl ?_
          refine z_as ?_
          refine z_riald hF dX6_compare_102 (fun x33 => ?_)
          refine z_isub dX6_compare_103 ?_
          refine z_sb ?_
          refine z_eq (rK7 _) ?_
          refine z_eq (tF6 _) ?_
          exact z_iret dX6_compare_104 rfl rfl rfl rfl
      · refine z_aload_n (j := 3) dX6_compare_56 rfl rfl ?_
        refine z_rgetA (k := 16) (a := 12) hF dX6_compare_57 (by decide) rfl zw792 rfl ?_
        refine z_iload (j := 1) dX6_compare_60 rfl ?_
        refine z_as ?_
        refine z_riald hF dX6_compare_62 (fun x34 => ?_)
        refine z_aload_n (j := 3) dX6_compare_63 rfl rfl ?_
        refine z_rgetA (k := 16) (a := 12) hF dX6_compare_64 (by decide) rfl zw792 rfl ?_
        refine z_iload (j := 0) dX6_compare_67 rfl ?_
        refine z_as ?_
        refine z_riald hF dX6_compare_69 (fun x35 => ?_)
        refine z_isub dX6_compare_70 ?_
        refine z_sb ?_
        refine z_eq (rK7 _) ?_
        refine z_eq (tF6 _) ?_
        exact z_iret dX6_compare_71 rfl rfl rfl rfl
def fX6_like (s : Zr) (a1 : Int32) (a2 : Int32) : Option (Int32 × Zr) :=
  (fX6_isPiece s a1).bind fun x1 =>
  if x1 = 0 then
    some ((-1 : Int32), s)
  else
    (fX6_isPiece s a2).bind fun x2 =>
    if x2 = 0 then
      some ((-1 : Int32), s)
    else
      (fX6_clearTree s).bind fun s3 =>
      (fX6_expand s3 a1).bind fun ((x4, s5) : Int32 × Zr) =>
      (fX6_expand s5 a2).bind fun ((x6, s7) : Int32 × Zr) =>
      (fX6_compare s7 x4 x6).bind fun ((x8, s9) : Int32 × Zr) =>
      (if x8 = 0 then
        some (1 : Int32)
      else
        some (0 : Int32)).bind fun (v10 : Int32) =>
      some (v10, s9)
set_option maxRecDepth 100000 in
set_option maxHeartbeats 4000000 in
theorem kX6_like (G : Zg) (R : Nat) (h0 : Zh) (hF : zRF R h0) (s : Zr) (a1 : Int32) (a2 : Int32) {x : Int32 × Zr} (hx : fX6_like s a1 a2 = some x) : zCt G yX6_like cX6_like 5 (Option.some Jvm.ClassFile.FieldType.int) 3 [zrv G.2.1 (some R), .int a1, .int a2] (zput R h0 s) (some (.int x.1)) (zput R h0 x.2) := by
  refine z_met (a := x) (rvf := fun (x : Int32 × Zr) => some (.int x.1)) (hff := fun (x : Int32 × Zr) => zput R h0 x.2) (lv := [(0, zrv G.2.1 (some R)), (1, .int a1), (2, .int a2)]) (by decide +kernel) (by simp [lg_sl, zcat1, zcI, zcJ]) (by simp [lv_args, zcat1, zcI, zcJ]) ?_ hx
  unfold fX6_like
  refine z_aload_n (j := 0) dX6_like_0 rfl rfl ?_
  refine z_iload_n (j := 1) dX6_like_1 rfl rfl ?_
  refine z_callV (As := [.int a1]) (rest := []) (rv2 := fun (x : Int32) => some (.int x)) (h2 := fun (_ : Int32) => zput R h0 s) dX6_like_2 vX6_isPiece (.inl zw1037) (by decide) zkl7 (zRrecv hF).1 (zRrecv hF).2 rfl rfl (by decide) (fun x hx => kX6_isPiece G R h0 hF s a1 hx) (fun x1 => ?_)
  try dsimp only [Option.toList, List.cons_append, List.nil_append]
  refine z_if_eq (tgt := 16) dX6_like_5 (by decide) (fun _ => ?_) (fun _ => ?_)
  · refine z_iconst (v := -1) dX6_like_16 (by decide) ?_
    exact z_iret dX6_like_17 rfl rfl rfl rfl
  · refine z_aload_n (j := 0) dX6_like_8 rfl rfl ?_
    refine z_iload_n (j := 2) dX6_like_9 rfl rfl ?_
    refine z_callV (As := [.int a2]) (rest := []) (rv2 := fun (x : Int32) => some (.int x)) (h2 := fun (_ : Int32) => zput R h0 s) dX6_like_10 vX6_isPiece (.inl zw1037) (by decide) zkl7 (zRrecv hF).1 (zRrecv hF).2 rfl rfl (by decide) (fun x hx => kX6_isPiece G R h0 hF s a2 hx) (fun x2 => ?_)
    try dsimp only [Option.toList, List.cons_append, List.nil_append]
    refine z_if_ne (tgt := 18) dX6_like_13 (by decide) (fun _ => ?_) (fun _ => ?_)
    · refine z_iconst (v := -1) dX6_like_16 (by decide) ?_
      exact z_iret dX6_like_17 rfl rfl rfl rfl
    · refine z_aload_n (j := 0) dX6_like_18 rfl rfl ?_
      refine z_callV (As := []) (rest := []) (rv2 := fun (_ : Zr) => none) (h2 := fun (x : Zr) => zput R h0 x) dX6_like_19 vX6_clearTree (.inl zw1058) (by decide) zkl7 (zRrecv hF).1 (zRrecv hF).2 rfl rfl (by decide) (fun x hx => kX6_clearTree G R h0 hF s hx) (fun s3 => ?_)
      try dsimp only [Option.toList, List.cons_append, List.nil_append]
      refine z_aload_n (j := 0) dX6_like_22 rfl rfl ?_
      refine z_iload_n (j := 1) dX6_like_23 rfl rfl ?_
      refine z_callV (As := [.int a1]) (rest := []) (rv2 := fun (x : Int32 × Zr) => some (.int x.1)) (h2 := fun (x : Int32 × Zr) => zput R h0 x.2) dX6_like_24 vX6_expand (.inl zw1062) (by decide) zkl7 (zRrecv hF).1 (zRrecv hF).2 rfl rfl (by decide) (fun x hx => kX6_expand G R h0 hF s3 a1 hx) (fun x => ?_)
      obtain ⟨x4, s5⟩ := x
      try dsimp only [Option.toList, List.cons_append, List.nil_append]
      refine z_istore_n (lv' := [(3, .int x4), (0, zrv G.2.1 (some R)), (1, .int a1), (2, .int a2)]) dX6_like_27 rfl (by decide) rfl ?_
      refine z_aload_n (j := 1) dX6_like_28 rfl rfl ?_
      refine z_iload_n (j := 3) dX6_like_29 rfl rfl ?_
      refine z_callV (As := [.int a2]) (rest := []) (rv2 := fun (x : Int32 × Zr) => some (.int x.1)) (h2 := fun (x : Int32 × Zr) => zput R h0 x.2) dX6_like_30 vX6_expand (.inl zw1062) (by decide) zkl7 (zRrecv hF).1 (zRrecv hF).2 rfl rfl (by decide) (fun x hx => kX6_expand G R h0 hF s5 a2 hx) (fun x => ?_)
      obtain ⟨x6, s7⟩ := x
      try dsimp only [Option.toList, List.cons_append, List.nil_append]
      refine z_istore (lv' := [(4, .int x6), (3, .int x4), (0, zrv G.2.1 (some R)), (1, .int a1), (2, .int a2)]) dX6_like_33 (by decide) rfl ?_
      refine z_aload_n (j := 2) dX6_like_35 rfl rfl ?_
      refine z_iload_n (j := 1) dX6_like_36 rfl rfl ?_
      refine z_iload (j := 0) dX6_like_37 rfl ?_
      refine z_callV (As := [.int x4, .int x6]) (rest := []) (rv2 := fun (x : Int32 × Zr) => some (.int x.1)) (h2 := fun (x : Int32 × Zr) => zput R h0 x.2) dX6_like_39 vX6_compare (.inl zw1070) (by decide) zkl7 (zRrecv hF).1 (zRrecv hF).2 rfl rfl (by decide) (fun x hx => kX6_compare G R h0 hF s7 x4 x6 hx) (fun x => ?_)
      obtain ⟨x8, s9⟩ := x
      try dsimp only [Option.toList, List.cons_append, List.nil_append]
      refine z_join (pc2 := 50) (lv2 := fun (q : Int32) => []) (st2 := fun (q : Int32) => [.int q]) (h2 := fun (q : Int32) => zput R h0 s9) (fun q => ?_) (fun F11 kF11 => ?_)
      · obtain ⟨v10, e0⟩ : ∃ z, z = q := ⟨_, rfl⟩
        subst e0
        try dsimp only
        exact z_iret dX6_like_50 rfl rfl rfl rfl
      · refine z_itb ?_
        refine z_if_ne (tgt := 49) dX6_like_42 (by decide) (fun _ => ?_) (fun _ => ?_)
        · refine z_iconst (v := 1) dX6_like_45 (by decide) ?_
          refine z_goto (tgt := 50) dX6_like_46 (by decide) ?_
          refine z_sb ?_
          refine z_at [] rfl ?_
          exact kF11 (1 : Int32)
        · refine z_iconst (v := 0) dX6_like_49 (by decide) ?_
          refine z_sb ?_
          refine z_at [] rfl ?_
          exact kF11 (0 : Int32)
def fX6_gathers0 (s : Zr) (a1 : Int32) (a2 : Int32) : Option (Zr) :=
  (zloop (fun ((v1, v2, s3) : Int32 × Int32 × Zr) =>
    (if (s3 0 25) ≤ v2 then
      some (.inr (v1, s3))
    else
      (if v1 = 0 then
        if a1 = (3 : Int32) then
          (rdI s3 21 v2).bind fun x11 =>
          (fX6_compare s3 x11 a2).bind fun ((x12, s13) : Int32 × Zr) =>
          if x12 = 0 then
            some ((1 : Int32), s13)
          else
            some ((0 : Int32), s13)
        else
          some ((0 : Int32), s3)
      else
        some ((1 : Int32), s3)).bind fun ((v8, s9) : Int32 × Zr) =>
      some (.inl (v8, v2 + (1 : Int32), s9)) : Option ((Int32 × Int32 × Zr) ⊕ (Int32 × Zr)))) zFU ((0 : Int32), (0 : Int32), s)).bind fun ((w4, s5) : Int32 × Zr) =>
  (if w4 = 0 then
    (wrI s5 21 (s5 0 25) a2).bind fun s16 =>
    (some (u2 s16 0 25 ((s16 0 25) + (1 : Int32)))).bind fun s17 =>
    some s17
  else
    some s5).bind fun (s14 : Zr) =>
  some s14
set_option maxRecDepth 100000 in
set_option maxHeartbeats 4000000 in
theorem kX6_gathers0 (G : Zg) (R : Nat) (h0 : Zh) (hF : zRF R h0) (s : Zr) (a1 : Int32) (a2 : Int32) {x : Zr} (hx : fX6_gathers0 s a1 a2 = some x) : zCt G yX6_gathers0 cX6_gathers0 5 (Option.none : Option Jvm.ClassFile.FieldType) 2 [zrv G.2.1 (some R), .int a1, .int a2] (zput R h0 s) none (zput R h0 x) := by
  refine z_met (a := x) (rvf := fun (_ : Zr) => none) (hff := fun (x : Zr) => zput R h0 x) (lv := [(0, zrv G.2.1 (some R)), (1, .int a1), (2, .int a2)]) (by decide +kernel) (by simp [lg_sl, zcat1, zcI, zcJ]) (by simp [lv_args, zcat1, zcI, zcJ]) ?_ hx
  unfold fX6_gathers0
  refine z_iconst (v := 0) dX6_gathers0_0 (by decide) ?_
  refine z_istore_n (lv' := [(3, .int (0 : Int32)), (0, zrv G.2.1 (some R)), (1, .int a1), (2, .int a2)]) dX6_gathers0_1 rfl (by decide) rfl ?_
  refine z_iconst (v := 0) dX6_gathers0_2 (by decide) ?_
  refine z_istore (lv' := [(4, .int (0 : Int32)), (3, .int (0 : Int32)), (0, zrv G.2.1 (some R)), (1, .int a1), (2, .int a2)]) dX6_gathers0_3 (by decide) rfl ?_
  refine z_at [2, 3, 4, 1, 0] rfl ?_
  refine z_join (pc2 := 50) (lv2 := fun (q : Int32 × Zr) => [(0, zrv G.2.1 (some R)), (2, .int a2), (3, .int q.1)]) (st2 := fun _ => []) (h2 := fun (q : Int32 × Zr) => zput R h0 q.2) (fun q => ?_) (fun F6 kF6 => ?_)
  · obtain ⟨w4, s5⟩ := q
    try dsimp only
    refine z_iload_n (j := 2) dX6_gathers0_50 rfl rfl ?_
    refine z_join (pc2 := 74) (lv2 := fun (q : Zr) => []) (st2 := fun (q : Zr) => []) (h2 := fun (q : Zr) => zput R h0 q) (fun q => ?_) (fun F15 kF15 => ?_)
    · obtain ⟨s14, e0⟩ : ∃ z, z = q := ⟨_, rfl⟩
      subst e0
      try dsimp only
      exact z_vret dX6_gathers0_74 rfl rfl rfl
    · refine z_itb ?_
      refine z_if_ne (tgt := 74) dX6_gathers0_51 (by decide) (fun _ => ?_) (fun _ => ?_)
      · refine z_aload_n (j := 0) dX6_gathers0_54 rfl rfl ?_
        refine z_rgetA (k := 26) (a := 20) hF dX6_gathers0_55 (by decide) rfl zw802 rfl ?_
        refine z_aload_n (j := 0) dX6_gathers0_58 rfl rfl ?_
        refine z_rgetI (k := 25) hF dX6_gathers0_59 (by decide) rfl zw801 ?_
        refine z_iload_n (j := 1) dX6_gathers0_62 rfl rfl ?_
        refine z_as ?_
        refine z_riast hF dX6_gathers0_63 (fun s16 => ?_)
        refine z_aload_n (j := 0) dX6_gathers0_64 rfl rfl ?_
        refine z_dup dX6_gathers0_65 (zcat1 _ _) ?_
        refine z_rgetI (k := 25) hF dX6_gathers0_66 (by decide) rfl zw801 ?_
        refine z_iconst (v := 1) dX6_gathers0_69 (by decide) ?_
        refine z_iadd dX6_gathers0_70 ?_
        refine z_as ?_
        refine z_rputI (k := 25) hF dX6_gathers0_71 (by decide) rfl zw801 rfl rfl (fun s17 => ?_)
        refine z_sb ?_
        refine z_at [] rfl ?_
        exact kF15 s17
      · refine z_sb ?_
        refine z_at [] rfl ?_
        exact kF15 s5
  · refine z_loop (lvf := fun (q : Int32 × Int32 × Zr) => [(0, zrv G.2.1 (some R)), (1, .int a1), (2, .int a2), (3, .int q.1), (4, .int q.2.1)]) (hf2 := fun (q : Int32 × Int32 × Zr) => zput R h0 q.2.2) (s0 := ((0 : Int32), (0 : Int32), s)) (fun K7 bK7 rK7 q => ?_)
    obtain ⟨v1, v2, s3⟩ := q
    try dsimp only
    refine z_iload (j := 4) dX6_gathers0_5 rfl ?_
    refine z_aload_n (j := 0) dX6_gathers0_7 rfl rfl ?_
    refine z_rgetI (k := 25) hF dX6_gathers0_8 (by decide) rfl zw801 ?_
    refine z_itb ?_
    refine z_icmp_ge (tgt := 50) dX6_gathers0_11 (by decide) (fun _ => ?_) (fun _ => ?_)
    · refine z_sb ?_
      refine z_eq (rK7 _) ?_
      refine z_at [0, 2, 3] rfl ?_
      exact kF6 (v1, s3)
    · refine z_iload_n (j := 3) dX6_gathers0_14 rfl rfl ?_
      refine z_as ?_
      refine z_join (pc2 := 43) (lv2 := fun (q : Int32 × Zr) => [(0, zrv G.2.1 (some R)), (1, .int a1), (2, .int a2), (4, .int v2)]) (st2 := fun (q : Int32 × Zr) => [.int q.1]) (h2 := fun (q : Int32 × Zr) => zput R h0 q.2) (fun q => ?_) (fun F10 kF10 => ?_)
      · obtain ⟨v8, s9⟩ := q
        try dsimp only
        refine z_istore_n (lv' := [(3, .int v8), (0, zrv G.2.1 (some R)), (1, .int a1), (2, .int a2), (4, .int v2)]) dX6_gathers0_43 rfl (by decide) rfl ?_
        refine z_iinc (j := 4) (v := v2 + (1 : Int32)) (lv' := [(4, .int (v2 + (1 : Int32))), (3, .int v8), (0, zrv G.2.1 (some R)), (1, .int a1), (2, .int a2)]) dX6_gathers0_44 rfl rfl (by decide) rfl ?_
        refine z_goto (tgt := 5) dX6_gathers0_47 (by decide) ?_
        refine z_sb ?_
        refine z_at [2, 3, 4, 1, 0] rfl ?_
        exact bK7 (v8, v2 + (1 : Int32), s9)
      · refine z_itb ?_
        refine z_if_ne (tgt := 38) dX6_gathers0_15 (by decide) (fun _ => ?_) (fun _ => ?_)
        · refine z_iload_n (j := 1) dX6_gathers0_18 rfl rfl ?_
          refine z_iconst (v := 3) dX6_gathers0_19 (by decide) ?_
          refine z_itb ?_
          refine z_icmp_ne (tgt := 42) dX6_gathers0_20 (by decide) (fun _ => ?_) (fun _ => ?_)
          · refine z_aload_n (j := 0) dX6_gathers0_23 rfl rfl ?_
            refine z_aload_n (j := 0) dX6_gathers0_24 rfl rfl ?_
            refine z_rgetA (k := 26) (a := 20) hF dX6_gathers0_25 (by decide) rfl zw802 rfl ?_
            refine z_iload (j := 4) dX6_gathers0_28 rfl ?_
            refine z_as ?_
            refine z_riald hF dX6_gathers0_30 (fun x11 => ?_)
            refine z_iload_n (j := 2) dX6_gathers0_31 rfl rfl ?_
            refine z_as ?_
            refine z_callV (As := [.int x11, .int a2]) (rest := []) (rv2 := fun (x : Int32 × Zr) => some (.int x.1)) (h2 := fun (x : Int32 × Zr) => zput R h0 x.2) dX6_gathers0_32 vX6_compare (.inl zw1070) (by decide) zkl7 (zRrecv hF).1 (zRrecv hF).2 rfl rfl (by decide) (fun x hx => kX6_compare G R h0 hF s3 x11 a2 hx) (fun x => ?_)
            obtain ⟨x12, s13⟩ := x
            try dsimp only [Option.toList, List.cons_append, List.nil_append]
            refine z_itb ?_
            refine z_if_ne (tgt := 42) dX6_gathers0_35 (by decide) (fun _ => ?_) (fun _ => ?_)
            · refine z_iconst (v := 1) dX6_gathers0_38 (by decide) ?_
              refine z_goto (tgt := 43) dX6_gathers0_39 (by decide) ?_
              refine z_sb ?_
              refine z_at [0, 1, 2, 4] rfl ?_
              exact kF10 ((1 : Int32), s13)
            · refine z_iconst (v := 0) dX6_gathers0_42 (by decide) ?_
              refine z_sb ?_
              refine z_at [0, 1, 2, 4] rfl ?_
              exact kF10 ((0 : Int32), s13)
          · refine z_iconst (v := 0) dX6_gathers0_42 (by decide) ?_
            refine z_sb ?_
            refine z_at [0, 1, 2, 4] rfl ?_
            exact kF10 ((0 : Int32), s3)
        · refine z_iconst (v := 1) dX6_gathers0_38 (by decide) ?_
          refine z_goto (tgt := 43) dX6_gathers0_39 (by decide) ?_
          refine z_sb ?_
          refine z_at [0, 1, 2, 4] rfl ?_
          exact kF10 ((1 : Int32), s3)
def fX6_gathers (s : Zr) (a1 : Int32) (a2 : Int32) : Option (Zr) :=
  (if a1 = (5 : Int32) then
    some (0 : Int32)
  else
    if a1 = (3 : Int32) then
      some (0 : Int32)
    else
      (rdI s 13 a2).bind fun x3 =>
      if x3 = (1 : Int32) then
        some (1 : Int32)
      else
        some (0 : Int32)).bind fun (v1 : Int32) =>
  if v1 = 0 then
    (if a1 = (5 : Int32) then
      (fX6_gathers0 s a1 a2).bind fun s6 =>
      some s6
    else
      (rdI s 13 a2).bind fun x7 =>
      if x7 = a1 then
        (zloop (fun ((v8, s9) : Int32 × Zr) =>
          ((rdI s9 16 a2).bind fun x13 =>
          if x13 ≤ v8 then
            some (.inr s9)
          else
            (rdI s9 15 a2).bind fun x14 =>
            (rdI s9 17 (x14 + v8)).bind fun x15 =>
            (fX6_gathers0 s9 a1 x15).bind fun s16 =>
            some (.inl (v8 + (1 : Int32), s16)) : Option ((Int32 × Zr) ⊕ Zr))) zFU ((0 : Int32), s)).bind fun (s10 : Zr) =>
        some s10
      else
        (fX6_gathers0 s a1 a2).bind fun s17 =>
        some s17).bind fun (s4 : Zr) =>
    some s4
  else
    some s
set_option maxRecDepth 100000 in
set_option maxHeartbeats 4000000 in
theorem kX6_gathers (G : Zg) (R : Nat) (h0 : Zh) (hF : zRF R h0) (s : Zr) (a1 : Int32) (a2 : Int32) {x : Zr} (hx : fX6_gathers s a1 a2 = some x) : zCt G yX6_gathers cX6_gathers 5 (Option.none : Option Jvm.ClassFile.FieldType) 3 [zrv G.2.1 (some R), .int a1, .int a2] (zput R h0 s) none (zput R h0 x) := by
  refine z_met (a := x) (rvf := fun (_ : Zr) => none) (hff := fun (x : Zr) => zput R h0 x) (lv := [(0, zrv G.2.1 (some R)), (1, .int a1), (2, .int a2)]) (by decide +kernel) (by simp [lg_sl, zcat1, zcI, zcJ]) (by simp [lv_args, zcat1, zcI, zcJ]) ?_ hx
  unfold fX6_gathers
  refine z_iload_n (j := 1) dX6_gathers_0 rfl rfl ?_
  refine z_iconst (v := 5) dX6_gathers_1 (by decide) ?_
  refine z_join (pc2 := 25) (lv2 := fun (q : Int32) => [(0, zrv G.2.1 (some R)), (1, .int a1), (2, .int a2)]) (st2 := fun (q : Int32) => [.int q]) (h2 := fun (q : Int32) => zput R h0 s) (fun q => ?_) (fun F2 kF2 => ?_)
  · obtain ⟨v1, e0⟩ : ∃ z, z = q := ⟨_, rfl⟩
    subst e0
    try dsimp only
    refine z_istore_n (lv' := [(3, .int v1), (0, zrv G.2.1 (some R)), (1, .int a1), (2, .int a2)]) dX6_gathers_25 rfl (by decide) rfl ?_
    refine z_iload_n (j := 0) dX6_gathers_26 rfl rfl ?_
    refine z_if_eq (tgt := 31) dX6_gathers_27 (by decide) (fun _ => ?_) (fun _ => ?_)
    · refine z_iload_n (j := 2) dX6_gathers_31 rfl rfl ?_
      refine z_iconst (v := 5) dX6_gathers_32 (by decide) ?_
      refine z_join (pc2 := 94) (lv2 := fun (q : Zr) => []) (st2 := fun (q : Zr) => []) (h2 := fun (q : Zr) => zput R h0 q) (fun q => ?_) (fun F5 kF5 => ?_)
      · obtain ⟨s4, e0⟩ : ∃ z, z = q := ⟨_, rfl⟩
        subst e0
        try dsimp only
        exact z_vret dX6_gathers_94 rfl rfl rfl
      · refine z_itb ?_
        refine z_icmp_eq (tgt := 88) dX6_gathers_33 (by decide) (fun _ => ?_) (fun _ => ?_)
        · refine z_aload_n (j := 1) dX6_gathers_88 rfl rfl ?_
          refine z_iload_n (j := 2) dX6_gathers_89 rfl rfl ?_
          refine z_iload_n (j := 3) dX6_gathers_90 rfl rfl ?_
          refine z_as ?_
          refine z_callV (As := [.int a1, .int a2]) (rest := []) (rv2 := fun (_ : Zr) => none) (h2 := fun (x : Zr) => zput R h0 x) dX6_gathers_91 vX6_gathers0 (.inl zw1086) (by decide) zkl7 (zRrecv hF).1 (zRrecv hF).2 rfl rfl (by decide) (fun x hx => kX6_gathers0 G R h0 hF s a1 a2 hx) (fun s6 => ?_)
          try dsimp only [Option.toList, List.cons_append, List.nil_append]
          refine z_sb ?_
          refine z_at [] rfl ?_
          exact kF5 s6
        · refine z_aload_n (j := 1) dX6_gathers_36 rfl rfl ?_
          refine z_rgetA (k := 16) (a := 12) hF dX6_gathers_37 (by decide) rfl zw792 rfl ?_
          refine z_iload_n (j := 3) dX6_gathers_40 rfl rfl ?_
          refine z_as ?_
          refine z_riald hF dX6_gathers_41 (fun x7 => ?_)
          refine z_iload_n (j := 2) dX6_gathers_42 rfl rfl ?_
          refine z_itb ?_
          refine z_icmp_ne (tgt := 88) dX6_gathers_43 (by decide) (fun _ => ?_) (fun _ => ?_)
          · refine z_iconst (v := 0) dX6_gathers_46 (by decide) ?_
            refine z_istore (lv' := [(4, .int (0 : Int32)), (3, .int v1), (0, zrv G.2.1 (some R)), (1, .int a1), (2, .int a2)]) dX6_gathers_47 (by decide) rfl ?_
            refine z_as ?_
            refine z_at [2, 3, 4, 0] rfl ?_
            refine z_join (pc2 := 85) (lv2 := fun (q : Zr) => []) (st2 := fun _ => []) (h2 := fun (q : Zr) => zput R h0 q) (fun q => ?_) (fun F11 kF11 => ?_)
            · obtain ⟨s10, e0⟩ : ∃ z, z = q := ⟨_, rfl⟩
              subst e0
              try dsimp only
              refine z_goto (tgt := 94) dX6_gathers_85 (by decide) ?_
              refine z_sb ?_
              refine z_at [] rfl ?_
              exact kF5 s10
            · refine z_loop (lvf := fun (q : Int32 × Zr) => [(0, zrv G.2.1 (some R)), (1, .int a1), (2, .int a2), (4, .int q.1)]) (hf2 := fun (q : Int32 × Zr) => zput R h0 q.2) (s0 := ((0 : Int32), s)) (fun K12 bK12 rK12 q => ?_)
              obtain ⟨v8, s9⟩ := q
              try dsimp only
              refine z_iload (j := 3) dX6_gathers_49 rfl ?_
              refine z_aload_n (j := 0) dX6_gathers_51 rfl rfl ?_
              refine z_rgetA (k := 19) (a := 15) hF dX6_gathers_52 (by decide) rfl zw795 rfl ?_
              refine z_iload_n (j := 2) dX6_gathers_55 rfl rfl ?_
              refine z_as ?_
              refine z_riald hF dX6_gathers_56 (fun x13 => ?_)
              refine z_itb ?_
              refine z_icmp_ge (tgt := 85) dX6_gathers_57 (by decide) (fun _ => ?_) (fun _ => ?_)
              · refine z_sb ?_
                refine z_eq (rK12 _) ?_
                refine z_at [] rfl ?_
                exact kF11 s9
              · refine z_aload_n (j := 0) dX6_gathers_60 rfl rfl ?_
                refine z_iload_n (j := 1) dX6_gathers_61 rfl rfl ?_
                refine z_aload_n (j := 0) dX6_gathers_62 rfl rfl ?_
                refine z_rgetA (k := 21) (a := 16) hF dX6_gathers_63 (by decide) rfl zw797 rfl ?_
                refine z_aload_n (j := 0) dX6_gathers_66 rfl rfl ?_
                refine z_rgetA (k := 18) (a := 14) hF dX6_gathers_67 (by decide) rfl zw794 rfl ?_
                refine z_iload_n (j := 2) dX6_gathers_70 rfl rfl ?_
                refine z_as ?_
                refine z_riald hF dX6_gathers_71 (fun x14 => ?_)
                refine z_iload (j := 3) dX6_gathers_72 rfl ?_
                refine z_iadd dX6_gathers_74 ?_
                refine z_as ?_
                refine z_riald hF dX6_gathers_75 (fun x15 => ?_)
                refine z_as ?_
                refine z_callV (As := [.int a1, .int x15]) (rest := []) (rv2 := fun (_ : Zr) => none) (h2 := fun (x : Zr) => zput R h0 x) dX6_gathers_76 vX6_gathers0 (.inl zw1086) (by decide) zkl7 (zRrecv hF).1 (zRrecv hF).2 rfl rfl (by decide) (fun x hx => kX6_gathers0 G R h0 hF s9 a1 x15 hx) (fun s16 => ?_)
                try dsimp only [Option.toList, List.cons_append, List.nil_append]
                refine z_iinc (j := 3) (v := v8 + (1 : Int32)) (lv' := [(4, .int (v8 + (1 : Int32))), (0, zrv G.2.1 (some R)), (1, .int a1), (2, .int a2)]) dX6_gathers_79 rfl rfl (by decide) rfl ?_
                refine z_goto (tgt := 49) dX6_gathers_82 (by decide) ?_
                refine z_sb ?_
                refine z_at [1, 2, 3, 0] rfl ?_
                exact bK12 (v8 + (1 : Int32), s16)
          · refine z_aload_n (j := 1) dX6_gathers_88 rfl rfl ?_
            refine z_iload_n (j := 2) dX6_gathers_89 rfl rfl ?_
            refine z_iload_n (j := 3) dX6_gathers_90 rfl rfl ?_
            refine z_as ?_
            refine z_callV (As := [.int a1, .int a2]) (rest := []) (rv2 := fun (_ : Zr) => none) (h2 := fun (x : Zr) => zput R h0 x) dX6_gathers_91 vX6_gathers0 (.inl zw1086) (by decide) zkl7 (zRrecv hF).1 (zRrecv hF).2 rfl rfl (by decide) (fun x hx => kX6_gathers0 G R h0 hF s a1 a2 hx) (fun s17 => ?_)
            try dsimp only [Option.toList, List.cons_append, List.nil_append]
            refine z_sb ?_
            refine z_at [] rfl ?_
            exact kF5 s17
    · exact z_vret dX6_gathers_30 rfl rfl rfl
  · refine z_itb ?_
    refine z_icmp_eq (tgt := 24) dX6_gathers_2 (by decide) (fun _ => ?_) (fun _ => ?_)
    · refine z_iconst (v := 0) dX6_gathers_24 (by decide) ?_
      refine z_sb ?_
      refine z_at [0, 1, 2] rfl ?_
      exact kF2 (0 : Int32)
    · refine z_iload_n (j := 1) dX6_gathers_5 rfl rfl ?_
      refine z_iconst (v := 3) dX6_gathers_6 (by decide) ?_
      refine z_itb ?_
      refine z_icmp_eq (tgt := 24) dX6_gathers_7 (by decide) (fun _ => ?_) (fun _ => ?_)
      · refine z_iconst (v := 0) dX6_gathers_24 (by decide) ?_
        refine z_sb ?_
        refine z_at [0, 1, 2] rfl ?_
        exact kF2 (0 : Int32)
      · refine z_aload_n (j := 0) dX6_gathers_10 rfl rfl ?_
        refine z_rgetA (k := 16) (a := 12) hF dX6_gathers_11 (by decide) rfl zw792 rfl ?_
        refine z_iload_n (j := 2) dX6_gathers_14 rfl rfl ?_
        refine z_as ?_
        refine z_riald hF dX6_gathers_15 (fun x3 => ?_)
        refine z_iconst (v := 1) dX6_gathers_16 (by decide) ?_
        refine z_itb ?_
        refine z_icmp_ne (tgt := 24) dX6_gathers_17 (by decide) (fun _ => ?_) (fun _ => ?_)
        · refine z_iconst (v := 1) dX6_gathers_20 (by decide) ?_
          refine z_goto (tgt := 25) dX6_gathers_21 (by decide) ?_
          refine z_sb ?_
          refine z_at [0, 1, 2] rfl ?_
          exact kF2 (1 : Int32)
        · refine z_iconst (v := 0) dX6_gathers_24 (by decide) ?_
          refine z_sb ?_
          refine z_at [0, 1, 2] rfl ?_
          exact kF2 (0 : Int32)
def fX6_sort (s : Zr) (a1 : Int32) : Option (Zr) :=
  (zloop (fun ((v1, s2) : Int32 × Zr) =>
    (if (s2 0 25) ≤ v1 then
      some (.inr s2)
    else
      (rdI s2 21 v1).bind fun x6 =>
      (zloop (fun ((v7, s8) : Int32 × Zr) =>
        (if v7 ≤ a1 then
          some (.inr (v7, s8))
        else
          (rdI s8 21 (v7 - (1 : Int32))).bind fun x13 =>
          (fX6_compare s8 x13 x6).bind fun ((x14, s15) : Int32 × Zr) =>
          if x14 ≤ 0 then
            some (.inr (v7, s15))
          else
            (rdI s15 21 (v7 - (1 : Int32))).bind fun x16 =>
            (wrI s15 21 v7 x16).bind fun s17 =>
            some (.inl (v7 + (-1 : Int32), s17)) : Option ((Int32 × Zr) ⊕ (Int32 × Zr)))) zFU (v1, s2)).bind fun ((w9, s10) : Int32 × Zr) =>
      (wrI s10 21 w9 x6).bind fun s18 =>
      some (.inl (v1 + (1 : Int32), s18)) : Option ((Int32 × Zr) ⊕ Zr))) zFU (a1 + (1 : Int32), s)).bind fun (s3 : Zr) =>
  some s3
set_option maxRecDepth 100000 in
set_option maxHeartbeats 4000000 in
theorem kX6_sort (G : Zg) (R : Nat) (h0 : Zh) (hF : zRF R h0) (s : Zr) (a1 : Int32) {x : Zr} (hx : fX6_sort s a1 = some x) : zCt G yX6_sort cX6_sort 5 (Option.none : Option Jvm.ClassFile.FieldType) 2 [zrv G.2.1 (some R), .int a1] (zput R h0 s) none (zput R h0 x) := by
  refine z_met (a := x) (rvf := fun (_ : Zr) => none) (hff := fun (x : Zr) => zput R h0 x) (lv := [(0, zrv G.2.1 (some R)), (1, .int a1)]) (by decide +kernel) (by simp [lg_sl, zcat1, zcI, zcJ]) (by simp [lv_args, zcat1, zcI, zcJ]) ?_ hx
  unfold fX6_sort
  refine z_iload_n (j := 1) dX6_sort_0 rfl rfl ?_
  refine z_iconst (v := 1) dX6_sort_1 (by decide) ?_
  refine z_iadd dX6_sort_2 ?_
  refine z_istore_n (lv' := [(2, .int (a1 + (1 : Int32))), (0, zrv G.2.1 (some R)), (1, .int a1)]) dX6_sort_3 rfl (by decide) rfl ?_
  refine z_at [1, 2, 0] rfl ?_
  refine z_join (pc2 := 81) (lv2 := fun (q : Zr) => []) (st2 := fun _ => []) (h2 := fun (q : Zr) => zput R h0 q) (fun q => ?_) (fun F4 kF4 => ?_)
  · obtain ⟨s3, e0⟩ : ∃ z, z = q := ⟨_, rfl⟩
    subst e0
    try dsimp only
    exact z_vret dX6_sort_81 rfl rfl rfl
  · refine z_loop (lvf := fun (q : Int32 × Zr) => [(0, zrv G.2.1 (some R)), (1, .int a1), (2, .int q.1)]) (hf2 := fun (q : Int32 × Zr) => zput R h0 q.2) (s0 := (a1 + (1 : Int32), s)) (fun K5 bK5 rK5 q => ?_)
    obtain ⟨v1, s2⟩ := q
    try dsimp only
    refine z_iload_n (j := 2) dX6_sort_4 rfl rfl ?_
    refine z_aload_n (j := 0) dX6_sort_5 rfl rfl ?_
    refine z_rgetI (k := 25) hF dX6_sort_6 (by decide) rfl zw801 ?_
    refine z_itb ?_
    refine z_icmp_ge (tgt := 81) dX6_sort_9 (by decide) (fun _ => ?_) (fun _ => ?_)
    · refine z_sb ?_
      refine z_eq (rK5 _) ?_
      refine z_at [] rfl ?_
      exact kF4 s2
    · refine z_aload_n (j := 0) dX6_sort_12 rfl rfl ?_
      refine z_rgetA (k := 26) (a := 20) hF dX6_sort_13 (by decide) rfl zw802 rfl ?_
      refine z_iload_n (j := 2) dX6_sort_16 rfl rfl ?_
      refine z_as ?_
      refine z_riald hF dX6_sort_17 (fun x6 => ?_)
      refine z_istore_n (lv' := [(3, .int x6), (0, zrv G.2.1 (some R)), (1, .int a1), (2, .int v1)]) dX6_sort_18 rfl (by decide) rfl ?_
      refine z_iload_n (j := 3) dX6_sort_19 rfl rfl ?_
      refine z_istore (lv' := [(4, .int v1), (3, .int x6), (0, zrv G.2.1 (some R)), (1, .int a1), (2, .int v1)]) dX6_sort_20 (by decide) rfl ?_
      refine z_as ?_
      refine z_at [2, 3, 4, 1, 0] rfl ?_
      refine z_join (pc2 := 67) (lv2 := fun (q : Int32 × Zr) => [(0, zrv G.2.1 (some R)), (1, .int a1), (2, .int v1), (3, .int x6), (4, .int q.1)]) (st2 := fun _ => []) (h2 := fun (q : Int32 × Zr) => zput R h0 q.2) (fun q => ?_) (fun F11 kF11 => ?_)
      · obtain ⟨w9, s10⟩ := q
        try dsimp only
        refine z_aload_n (j := 0) dX6_sort_67 rfl rfl ?_
        refine z_rgetA (k := 26) (a := 20) hF dX6_sort_68 (by decide) rfl zw802 rfl ?_
        refine z_iload (j := 4) dX6_sort_71 rfl ?_
        refine z_iload_n (j := 3) dX6_sort_73 rfl rfl ?_
        refine z_as ?_
        refine z_riast hF dX6_sort_74 (fun s18 => ?_)
        refine z_iinc (j := 2) (v := v1 + (1 : Int32)) (lv' := [(2, .int (v1 + (1 : Int32))), (0, zrv G.2.1 (some R)), (1, .int a1), (3, .int x6), (4, .int w9)]) dX6_sort_75 rfl rfl (by decide) rfl ?_
        refine z_goto (tgt := 4) dX6_sort_78 (by decide) ?_
        refine z_sb ?_
        refine z_at [1, 2, 0] rfl ?_
        exact bK5 (v1 + (1 : Int32), s18)
      · refine z_loop (lvf := fun (q : Int32 × Zr) => [(0, zrv G.2.1 (some R)), (1, .int a1), (2, .int v1), (3, .int x6), (4, .int q.1)]) (hf2 := fun (q : Int32 × Zr) => zput R h0 q.2) (s0 := (v1, s2)) (fun K12 bK12 rK12 q => ?_)
        obtain ⟨v7, s8⟩ := q
        try dsimp only
        refine z_iload (j := 4) dX6_sort_22 rfl ?_
        refine z_iload_n (j := 1) dX6_sort_24 rfl rfl ?_
        refine z_itb ?_
        refine z_icmp_le (tgt := 67) dX6_sort_25 (by decide) (fun _ => ?_) (fun _ => ?_)
        · refine z_sb ?_
          refine z_eq (rK12 _) ?_
          refine z_at [0, 1, 2, 3, 4] rfl ?_
          exact kF11 (v7, s8)
        · refine z_aload_n (j := 0) dX6_sort_28 rfl rfl ?_
          refine z_aload_n (j := 0) dX6_sort_29 rfl rfl ?_
          refine z_rgetA (k := 26) (a := 20) hF dX6_sort_30 (by decide) rfl zw802 rfl ?_
          refine z_iload (j := 4) dX6_sort_33 rfl ?_
          refine z_iconst (v := 1) dX6_sort_35 (by decide) ?_
          refine z_isub dX6_sort_36 ?_
          refine z_as ?_
          refine z_riald hF dX6_sort_37 (fun x13 => ?_)
          refine z_iload_n (j := 3) dX6_sort_38 rfl rfl ?_
          refine z_as ?_
          refine z_callV (As := [.int x13, .int x6]) (rest := []) (rv2 := fun (x : Int32 × Zr) => some (.int x.1)) (h2 := fun (x : Int32 × Zr) => zput R h0 x.2) dX6_sort_39 vX6_compare (.inl zw1070) (by decide) zkl7 (zRrecv hF).1 (zRrecv hF).2 rfl rfl (by decide) (fun x hx => kX6_compare G R h0 hF s8 x13 x6 hx) (fun x => ?_)
          obtain ⟨x14, s15⟩ := x
          try dsimp only [Option.toList, List.cons_append, List.nil_append]
          refine z_itb ?_
          refine z_if_le (tgt := 67) dX6_sort_42 (by decide) (fun _ => ?_) (fun _ => ?_)
          · refine z_sb ?_
            refine z_eq (rK12 _) ?_
            refine z_at [0, 1, 2, 3, 4] rfl ?_
            exact kF11 (v7, s15)
          · refine z_aload_n (j := 0) dX6_sort_45 rfl rfl ?_
            refine z_rgetA (k := 26) (a := 20) hF dX6_sort_46 (by decide) rfl zw802 rfl ?_
            refine z_iload (j := 4) dX6_sort_49 rfl ?_
            refine z_aload_n (j := 0) dX6_sort_51 rfl rfl ?_
            refine z_rgetA (k := 26) (a := 20) hF dX6_sort_52 (by decide) rfl zw802 rfl ?_
            refine z_iload (j := 4) dX6_sort_55 rfl ?_
            refine z_iconst (v := 1) dX6_sort_57 (by decide) ?_
            refine z_isub dX6_sort_58 ?_
            refine z_as ?_
            refine z_riald hF dX6_sort_59 (fun x16 => ?_)
            refine z_as ?_
            refine z_riast hF dX6_sort_60 (fun s17 => ?_)
            refine z_iinc (j := 4) (v := v7 + (-1 : Int32)) (lv' := [(4, .int (v7 + (-1 : Int32))), (0, zrv G.2.1 (some R)), (1, .int a1), (2, .int v1), (3, .int x6)]) dX6_sort_61 rfl rfl (by decide) rfl ?_
            refine z_goto (tgt := 22) dX6_sort_64 (by decide) ?_
            refine z_sb ?_
            refine z_at [1, 2, 3, 4, 0] rfl ?_
            exact bK12 (v7 + (-1 : Int32), s17)
def fX6_plainNode (s : Zr) (a1 : Int32) : Option (Zr) :=
  (wrI s 22 a1 a1).bind fun s1 =>
  (rdI s1 16 a1).bind fun x2 =>
  if x2 = 0 then
    some s1
  else
    (some (u2 s1 0 25 (0 : Int32))).bind fun s3 =>
    (zloop (fun ((v4, s5) : Int32 × Zr) =>
      ((rdI s5 16 a1).bind fun x9 =>
      if x9 ≤ v4 then
        some (.inr s5)
      else
        (rdI s5 13 a1).bind fun x10 =>
        (rdI s5 15 a1).bind fun x11 =>
        (rdI s5 17 (x11 + v4)).bind fun x12 =>
        (rdI s5 22 x12).bind fun x13 =>
        (fX6_gathers s5 x10 x13).bind fun s14 =>
        some (.inl (v4 + (1 : Int32), s14)) : Option ((Int32 × Zr) ⊕ Zr))) zFU ((0 : Int32), s3)).bind fun (s6 : Zr) =>
    (rdI s6 13 a1).bind fun x15 =>
    (if x15 = (2 : Int32) then
      some s6
    else
      (rdI s6 13 a1).bind fun x18 =>
      (if x18 = (5 : Int32) then
        some (1 : Int32)
      else
        some (0 : Int32)).bind fun (v19 : Int32) =>
      (fX6_sort s6 v19).bind fun s21 =>
      some s21).bind fun (s16 : Zr) =>
    if (s16 0 25) = (1 : Int32) then
      (rdI s16 21 (0 : Int32)).bind fun x22 =>
      (wrI s16 22 a1 x22).bind fun s23 =>
      some s23
    else
      (wrI s16 15 a1 (s16 0 20)).bind fun s24 =>
      (wrI s24 16 a1 (s24 0 25)).bind fun s25 =>
      (zloop (fun ((v26, s27) : Int32 × Zr) =>
        (if (s27 0 25) ≤ v26 then
          some (.inr s27)
        else
          (rdI s27 21 v26).bind fun x31 =>
          (wrI s27 17 (s27 0 20) x31).bind fun s32 =>
          (some (u2 s32 0 20 ((s32 0 20) + (1 : Int32)))).bind fun s33 =>
          some (.inl (v26 + (1 : Int32), s33)) : Option ((Int32 × Zr) ⊕ Zr))) zFU ((0 : Int32), s25)).bind fun (s28 : Zr) =>
      (if (s28 0 25) = 0 then
        (wrI s28 13 a1 (1 : Int32)).bind fun s36 =>
        some s36
      else
        some s28).bind fun (s34 : Zr) =>
      some s34
set_option maxRecDepth 100000 in
set_option maxHeartbeats 4000000 in
theorem kX6_plainNode (G : Zg) (R : Nat) (h0 : Zh) (hF : zRF R h0) (s : Zr) (a1 : Int32) {x : Zr} (hx : fX6_plainNode s a1 = some x) : zCt G yX6_plainNode cX6_plainNode 3 (Option.none : Option Jvm.ClassFile.FieldType) 4 [zrv G.2.1 (some R), .int a1] (zput R h0 s) none (zput R h0 x) := by
  refine z_met (a := x) (rvf := fun (_ : Zr) => none) (hff := fun (x : Zr) => zput R h0 x) (lv := [(0, zrv G.2.1 (some R)), (1, .int a1)]) (by decide +kernel) (by simp [lg_sl, zcat1, zcI, zcJ]) (by simp [lv_args, zcat1, zcI, zcJ]) ?_ hx
  unfold fX6_plainNode
  refine z_aload_n (j := 0) dX6_plainNode_0 rfl rfl ?_
  refine z_rgetA (k := 27) (a := 21) hF dX6_plainNode_1 (by decide) rfl zw803 rfl ?_
  refine z_iload_n (j := 1) dX6_plainNode_4 rfl rfl ?_
  refine z_iload_n (j := 1) dX6_plainNode_5 rfl rfl ?_
  refine z_riast hF dX6_plainNode_6 (fun s1 => ?_)
  refine z_aload_n (j := 0) dX6_plainNode_7 rfl rfl ?_
  refine z_rgetA (k := 19) (a := 15) hF dX6_plainNode_8 (by decide) rfl zw795 rfl ?_
  refine z_iload_n (j := 1) dX6_plainNode_11 rfl rfl ?_
  refine z_riald hF dX6_plainNode_12 (fun x2 => ?_)
  refine z_if_ne (tgt := 17) dX6_plainNode_13 (by decide) (fun _ => ?_) (fun _ => ?_)
  · exact z_vret dX6_plainNode_16 rfl rfl rfl
  · refine z_aload_n (j := 0) dX6_plainNode_17 rfl rfl ?_
    refine z_iconst (v := 0) dX6_plainNode_18 (by decide) ?_
    refine z_rputI (k := 25) hF dX6_plainNode_19 (by decide) rfl zw801 rfl rfl (fun s3 => ?_)
    refine z_iconst (v := 0) dX6_plainNode_22 (by decide) ?_
    refine z_istore_n (lv' := [(2, .int (0 : Int32)), (0, zrv G.2.1 (some R)), (1, .int a1)]) dX6_plainNode_23 rfl (by decide) rfl ?_
    refine z_at [1, 2, 0] rfl ?_
    refine z_join (pc2 := 68) (lv2 := fun (q : Zr) => [(0, zrv G.2.1 (some R)), (1, .int a1)]) (st2 := fun _ => []) (h2 := fun (q : Zr) => zput R h0 q) (fun q => ?_) (fun F7 kF7 => ?_)
    · obtain ⟨s6, e0⟩ : ∃ z, z = q := ⟨_, rfl⟩
      subst e0
      try dsimp only
      refine z_aload_n (j := 0) dX6_plainNode_68 rfl rfl ?_
      refine z_rgetA (k := 16) (a := 12) hF dX6_plainNode_69 (by decide) rfl zw792 rfl ?_
      refine z_iload_n (j := 1) dX6_plainNode_72 rfl rfl ?_
      refine z_riald hF dX6_plainNode_73 (fun x15 => ?_)
      refine z_iconst (v := 2) dX6_plainNode_74 (by decide) ?_
      refine z_join (pc2 := 97) (lv2 := fun (q : Zr) => [(0, zrv G.2.1 (some R)), (1, .int a1)]) (st2 := fun (q : Zr) => []) (h2 := fun (q : Zr) => zput R h0 q) (fun q => ?_) (fun F17 kF17 => ?_)
      · obtain ⟨s16, e0⟩ : ∃ z, z = q := ⟨_, rfl⟩
        subst e0
        try dsimp only
        refine z_aload_n (j := 0) dX6_plainNode_97 rfl rfl ?_
        refine z_rgetI (k := 25) hF dX6_plainNode_98 (by decide) rfl zw801 ?_
        refine z_iconst (v := 1) dX6_plainNode_101 (by decide) ?_
        refine z_icmp_ne (tgt := 118) dX6_plainNode_102 (by decide) (fun _ => ?_) (fun _ => ?_)
        · refine z_aload_n (j := 0) dX6_plainNode_105 rfl rfl ?_
          refine z_rgetA (k := 27) (a := 21) hF dX6_plainNode_106 (by decide) rfl zw803 rfl ?_
          refine z_iload_n (j := 1) dX6_plainNode_109 rfl rfl ?_
          refine z_aload_n (j := 0) dX6_plainNode_110 rfl rfl ?_
          refine z_rgetA (k := 26) (a := 20) hF dX6_plainNode_111 (by decide) rfl zw802 rfl ?_
          refine z_iconst (v := 0) dX6_plainNode_114 (by decide) ?_
          refine z_riald hF dX6_plainNode_115 (fun x22 => ?_)
          refine z_riast hF dX6_plainNode_116 (fun s23 => ?_)
          exact z_vret dX6_plainNode_117 rfl rfl rfl
        · refine z_aload_n (j := 0) dX6_plainNode_118 rfl rfl ?_
          refine z_rgetA (k := 18) (a := 14) hF dX6_plainNode_119 (by decide) rfl zw794 rfl ?_
          refine z_iload_n (j := 1) dX6_plainNode_122 rfl rfl ?_
          refine z_aload_n (j := 0) dX6_plainNode_123 rfl rfl ?_
          refine z_rgetI (k := 20) hF dX6_plainNode_124 (by decide) rfl zw796 ?_
          refine z_riast hF dX6_plainNode_127 (fun s24 => ?_)
          refine z_aload_n (j := 0) dX6_plainNode_128 rfl rfl ?_
          refine z_rgetA (k := 19) (a := 15) hF dX6_plainNode_129 (by decide) rfl zw795 rfl ?_
          refine z_iload_n (j := 1) dX6_plainNode_132 rfl rfl ?_
          refine z_aload_n (j := 0) dX6_plainNode_133 rfl rfl ?_
          refine z_rgetI (k := 25) hF dX6_plainNode_134 (by decide) rfl zw801 ?_
          refine z_riast hF dX6_plainNode_137 (fun s25 => ?_)
          refine z_iconst (v := 0) dX6_plainNode_138 (by decide) ?_
          refine z_istore_n (lv' := [(2, .int (0 : Int32)), (0, zrv G.2.1 (some R)), (1, .int a1)]) dX6_plainNode_139 rfl (by decide) rfl ?_
          refine z_at [1, 2, 0] rfl ?_
          refine z_join (pc2 := 179) (lv2 := fun (q : Zr) => [(0, zrv G.2.1 (some R)), (1, .int a1)]) (st2 := fun _ => []) (h2 := fun (q : Zr) => zput R h0 q) (fun q => ?_) (fun F29 kF29 => ?_)
          · obtain ⟨s28, e0⟩ : ∃ z, z = q := ⟨_, rfl⟩
            subst e0
            try dsimp only
            refine z_aload_n (j := 0) dX6_plainNode_179 rfl rfl ?_
            refine z_rgetI (k := 25) hF dX6_plainNode_180 (by decide) rfl zw801 ?_
            refine z_join (pc2 := 193) (lv2 := fun (q : Zr) => []) (st2 := fun (q : Zr) => []) (h2 := fun (q : Zr) => zput R h0 q) (fun q => ?_) (fun F35 kF35 => ?_)
            · obtain ⟨s34, e0⟩ : ∃ z, z = q := ⟨_, rfl⟩
              subst e0
              try dsimp only
              exact z_vret dX6_plainNode_193 rfl rfl rfl
            · refine z_itb ?_
              refine z_if_ne (tgt := 193) dX6_plainNode_183 (by decide) (fun _ => ?_) (fun _ => ?_)
              · refine z_aload_n (j := 0) dX6_plainNode_186 rfl rfl ?_
                refine z_rgetA (k := 16) (a := 12) hF dX6_plainNode_187 (by decide) rfl zw792 rfl ?_
                refine z_iload_n (j := 1) dX6_plainNode_190 rfl rfl ?_
                refine z_iconst (v := 1) dX6_plainNode_191 (by decide) ?_
                refine z_as ?_
                refine z_riast hF dX6_plainNode_192 (fun s36 => ?_)
                refine z_sb ?_
                refine z_at [] rfl ?_
                exact kF35 s36
              · refine z_sb ?_
                refine z_at [] rfl ?_
                exact kF35 s28
          · refine z_loop (lvf := fun (q : Int32 × Zr) => [(0, zrv G.2.1 (some R)), (1, .int a1), (2, .int q.1)]) (hf2 := fun (q : Int32 × Zr) => zput R h0 q.2) (s0 := ((0 : Int32), s25)) (fun K30 bK30 rK30 q => ?_)
            obtain ⟨v26, s27⟩ := q
            try dsimp only
            refine z_iload_n (j := 2) dX6_plainNode_140 rfl rfl ?_
            refine z_aload_n (j := 0) dX6_plainNode_141 rfl rfl ?_
            refine z_rgetI (k := 25) hF dX6_plainNode_142 (by decide) rfl zw801 ?_
            refine z_itb ?_
            refine z_icmp_ge (tgt := 179) dX6_plainNode_145 (by decide) (fun _ => ?_) (fun _ => ?_)
            · refine z_sb ?_
              refine z_eq (rK30 _) ?_
              refine z_at [0, 1] rfl ?_
              exact kF29 s27
            · refine z_aload_n (j := 0) dX6_plainNode_148 rfl rfl ?_
              refine z_rgetA (k := 21) (a := 16) hF dX6_plainNode_149 (by decide) rfl zw797 rfl ?_
              refine z_aload_n (j := 0) dX6_plainNode_152 rfl rfl ?_
              refine z_rgetI (k := 20) hF dX6_plainNode_153 (by decide) rfl zw796 ?_
              refine z_aload_n (j := 0) dX6_plainNode_156 rfl rfl ?_
              refine z_rgetA (k := 26) (a := 20) hF dX6_plainNode_157 (by decide) rfl zw802 rfl ?_
              refine z_iload_n (j := 2) dX6_plainNode_160 rfl rfl ?_
              refine z_as ?_
              refine z_riald hF dX6_plainNode_161 (fun x31 => ?_)
              refine z_as ?_
              refine z_riast hF dX6_plainNode_162 (fun s32 => ?_)
              refine z_aload_n (j := 0) dX6_plainNode_163 rfl rfl ?_
              refine z_dup dX6_plainNode_164 (zcat1 _ _) ?_
              refine z_rgetI (k := 20) hF dX6_plainNode_165 (by decide) rfl zw796 ?_
              refine z_iconst (v := 1) dX6_plainNode_168 (by decide) ?_
              refine z_iadd dX6_plainNode_169 ?_
              refine z_as ?_
              refine z_rputI (k := 20) hF dX6_plainNode_170 (by decide) rfl zw796 rfl rfl (fun s33 => ?_)
              refine z_iinc (j := 2) (v := v26 + (1 : Int32)) (lv' := [(2, .int (v26 + (1 : Int32))), (0, zrv G.2.1 (some R)), (1, .int a1)]) dX6_plainNode_173 rfl rfl (by decide) rfl ?_
              refine z_goto (tgt := 140) dX6_plainNode_176 (by decide) ?_
              refine z_sb ?_
              refine z_at [1, 2, 0] rfl ?_
              exact bK30 (v26 + (1 : Int32), s33)
      · refine z_itb ?_
        refine z_icmp_eq (tgt := 97) dX6_plainNode_75 (by decide) (fun _ => ?_) (fun _ => ?_)
        · refine z_sb ?_
          refine z_at [0, 1] rfl ?_
          exact kF17 s6
        · refine z_aload_n (j := 0) dX6_plainNode_78 rfl rfl ?_
          refine z_aload_n (j := 0) dX6_plainNode_79 rfl rfl ?_
          refine z_rgetA (k := 16) (a := 12) hF dX6_plainNode_80 (by decide) rfl zw792 rfl ?_
          refine z_iload_n (j := 1) dX6_plainNode_83 rfl rfl ?_
          refine z_as ?_
          refine z_riald hF dX6_plainNode_84 (fun x18 => ?_)
          refine z_iconst (v := 5) dX6_plainNode_85 (by decide) ?_
          refine z_as ?_
          refine z_join (pc2 := 94) (lv2 := fun (q : Int32) => [(0, zrv G.2.1 (some R)), (1, .int a1)]) (st2 := fun (q : Int32) => [.int q, zrv G.2.1 (some R)]) (h2 := fun (q : Int32) => zput R h0 s6) (fun q => ?_) (fun F20 kF20 => ?_)
          · obtain ⟨v19, e0⟩ : ∃ z, z = q := ⟨_, rfl⟩
            subst e0
            try dsimp only
            refine z_as ?_
            refine z_callV (As := [.int v19]) (rest := []) (rv2 := fun (_ : Zr) => none) (h2 := fun (x : Zr) => zput R h0 x) dX6_plainNode_94 vX6_sort (.inl zw1090) (by decide) zkl7 (zRrecv hF).1 (zRrecv hF).2 rfl rfl (by decide) (fun x hx => kX6_sort G R h0 hF s6 v19 hx) (fun s21 => ?_)
            try dsimp only [Option.toList, List.cons_append, List.nil_append]
            refine z_sb ?_
            refine z_at [0, 1] rfl ?_
            exact kF17 s21
          · refine z_itb ?_
            refine z_icmp_ne (tgt := 93) dX6_plainNode_86 (by decide) (fun _ => ?_) (fun _ => ?_)
            · refine z_iconst (v := 1) dX6_plainNode_89 (by decide) ?_
              refine z_goto (tgt := 94) dX6_plainNode_90 (by decide) ?_
              refine z_sb ?_
              refine z_at [0, 1] rfl ?_
              exact kF20 (1 : Int32)
            · refine z_iconst (v := 0) dX6_plainNode_93 (by decide) ?_
              refine z_sb ?_
              refine z_at [0, 1] rfl ?_
              exact kF20 (0 : Int32)
    · refine z_loop (lvf := fun (q : Int32 × Zr) => [(0, zrv G.2.1 (some R)), (1, .int a1), (2, .int q.1)]) (hf2 := fun (q : Int32 × Zr) => zput R h0 q.2) (s0 := ((0 : Int32), s3)) (fun K8 bK8 rK8 q => ?_)
      obtain ⟨v4, s5⟩ := q
      try dsimp only
      refine z_iload_n (j := 2) dX6_plainNode_24 rfl rfl ?_
      refine z_aload_n (j := 0) dX6_plainNode_25 rfl rfl ?_
      refine z_rgetA (k := 19) (a := 15) hF dX6_plainNode_26 (by decide) rfl zw795 rfl ?_
      refine z_iload_n (j := 1) dX6_plainNode_29 rfl rfl ?_
      refine z_as ?_
      refine z_riald hF dX6_plainNode_30 (fun x9 => ?_)
      refine z_itb ?_
      refine z_icmp_ge (tgt := 68) dX6_plainNode_31 (by decide) (fun _ => ?_) (fun _ => ?_)
      · refine z_sb ?_
        refine z_eq (rK8 _) ?_
        refine z_at [0, 1] rfl ?_
        exact kF7 s5
      · refine z_aload_n (j := 0) dX6_plainNode_34 rfl rfl ?_
        refine z_aload_n (j := 0) dX6_plainNode_35 rfl rfl ?_
        refine z_rgetA (k := 16) (a := 12) hF dX6_plainNode_36 (by decide) rfl zw792 rfl ?_
        refine z_iload_n (j := 1) dX6_plainNode_39 rfl rfl ?_
        refine z_as ?_
        refine z_riald hF dX6_plainNode_40 (fun x10 => ?_)
        refine z_aload_n (j := 0) dX6_plainNode_41 rfl rfl ?_
        refine z_rgetA (k := 27) (a := 21) hF dX6_plainNode_42 (by decide) rfl zw803 rfl ?_
        refine z_aload_n (j := 0) dX6_plainNode_45 rfl rfl ?_
        refine z_rgetA (k := 21) (a := 16) hF dX6_plainNode_46 (by decide) rfl zw797 rfl ?_
        refine z_aload_n (j := 0) dX6_plainNode_49 rfl rfl ?_
        refine z_rgetA (k := 18) (a := 14) hF dX6_plainNode_50 (by decide) rfl zw794 rfl ?_
        refine z_iload_n (j := 1) dX6_plainNode_53 rfl rfl ?_
        refine z_as ?_
        refine z_riald hF dX6_plainNode_54 (fun x11 => ?_)
        refine z_iload_n (j := 2) dX6_plainNode_55 rfl rfl ?_
        refine z_iadd dX6_plainNode_56 ?_
        refine z_as ?_
        refine z_riald hF dX6_plainNode_57 (fun x12 => ?_)
        refine z_as ?_
        refine z_riald hF dX6_plainNode_58 (fun x13 => ?_)
        refine z_as ?_
        refine z_callV (As := [.int x10, .int x13]) (rest := []) (rv2 := fun (_ : Zr) => none) (h2 := fun (x : Zr) => zput R h0 x) dX6_plainNode_59 vX6_gathers (.inl zw1082) (by decide) zkl7 (zRrecv hF).1 (zRrecv hF).2 rfl rfl (by decide) (fun x hx => kX6_gathers G R h0 hF s5 x10 x13 hx) (fun s14 => ?_)
        try dsimp only [Option.toList, List.cons_append, List.nil_append]
        refine z_iinc (j := 2) (v := v4 + (1 : Int32)) (lv' := [(2, .int (v4 + (1 : Int32))), (0, zrv G.2.1 (some R)), (1, .int a1)]) dX6_plainNode_62 rfl rfl (by decide) rfl ?_
        refine z_goto (tgt := 24) dX6_plainNode_65 (by decide) ?_
        refine z_sb ?_
        refine z_at [1, 2, 0] rfl ?_
        exact bK8 (v4 + (1 : Int32), s14)
def fX6_layRow (s : Zr) (a1 : Int32) : Option (Zr) :=
  (some (u2 s 0 28 (0 : Int32))).bind fun s1 =>
  (wrI s1 19 (0 : Int32) a1).bind fun s2 =>
  (zloop (fun ((v3, s4) : Int32 × Zr) =>
    (if v3 ≤ 0 then
      some (.inr s4)
    else
      (rdI s4 19 (v3 + (-1 : Int32))).bind fun x8 =>
      (wrI s4 23 (s4 0 28) x8).bind fun s9 =>
      (some (u2 s9 0 28 ((s9 0 28) + (1 : Int32)))).bind fun s10 =>
      (zloop (fun ((v11, v12, s13) : Int32 × Int32 × Zr) =>
        ((rdI s13 16 x8).bind fun x18 =>
        if x18 ≤ v12 then
          some (.inr (v11, s13))
        else
          (rdI s13 15 x8).bind fun x19 =>
          (rdI s13 17 (x19 + v12)).bind fun x20 =>
          (wrI s13 19 v11 x20).bind fun s21 =>
          some (.inl (v11 + (1 : Int32), v12 + (1 : Int32), s21)) : Option ((Int32 × Int32 × Zr) ⊕ (Int32 × Zr)))) zFU (v3 + (-1 : Int32), (0 : Int32), s10)).bind fun ((w14, s15) : Int32 × Zr) =>
      some (.inl (w14, s15)) : Option ((Int32 × Zr) ⊕ Zr))) zFU ((1 : Int32), s2)).bind fun (s5 : Zr) =>
  some s5
set_option maxRecDepth 100000 in
set_option maxHeartbeats 4000000 in
theorem kX6_layRow (G : Zg) (R : Nat) (h0 : Zh) (hF : zRF R h0) (s : Zr) (a1 : Int32) {x : Zr} (hx : fX6_layRow s a1 = some x) : zCt G yX6_layRow cX6_layRow 5 (Option.none : Option Jvm.ClassFile.FieldType) 1 [zrv G.2.1 (some R), .int a1] (zput R h0 s) none (zput R h0 x) := by
  refine z_met (a := x) (rvf := fun (_ : Zr) => none) (hff := fun (x : Zr) => zput R h0 x) (lv := [(0, zrv G.2.1 (some R)), (1, .int a1)]) (by decide +kernel) (by simp [lg_sl, zcat1, zcI, zcJ]) (by simp [lv_args, zcat1, zcI, zcJ]) ?_ hx
  unfold fX6_layRow
  refine z_iconst (v := 1) dX6_layRow_0 (by decide) ?_
  refine z_istore_n (lv' := [(2, .int (1 : Int32)), (0, zrv G.2.1 (some R)), (1, .int a1)]) dX6_layRow_1 rfl (by decide) rfl ?_
  refine z_aload_n (j := 1) dX6_layRow_2 rfl rfl ?_
  refine z_iconst (v := 0) dX6_layRow_3 (by decide) ?_
  refine z_rputI (k := 28) hF dX6_layRow_4 (by decide) rfl zw804 rfl rfl (fun s1 => ?_)
  refine z_aload_n (j := 1) dX6_layRow_7 rfl rfl ?_
  refine z_rgetA (k := 23) (a := 18) hF dX6_layRow_8 (by decide) rfl zw799 rfl ?_
  refine z_iconst (v := 0) dX6_layRow_11 (by decide) ?_
  refine z_iload_n (j := 2) dX6_layRow_12 rfl rfl ?_
  refine z_riast hF dX6_layRow_13 (fun s2 => ?_)
  refine z_at [1, 0] rfl ?_
  refine z_join (pc2 := 94) (lv2 := fun (q : Zr) => []) (st2 := fun _ => []) (h2 := fun (q : Zr) => zput R h0 q) (fun q => ?_) (fun F6 kF6 => ?_)
  · obtain ⟨s5, e0⟩ : ∃ z, z = q := ⟨_, rfl⟩
    subst e0
    try dsimp only
    exact z_vret dX6_layRow_94 rfl rfl rfl
  · refine z_loop (lvf := fun (q : Int32 × Zr) => [(0, zrv G.2.1 (some R)), (2, .int q.1)]) (hf2 := fun (q : Int32 × Zr) => zput R h0 q.2) (s0 := ((1 : Int32), s2)) (fun K7 bK7 rK7 q => ?_)
    obtain ⟨v3, s4⟩ := q
    try dsimp only
    refine z_iload_n (j := 1) dX6_layRow_14 rfl rfl ?_
    refine z_itb ?_
    refine z_if_le (tgt := 94) dX6_layRow_15 (by decide) (fun _ => ?_) (fun _ => ?_)
    · refine z_sb ?_
      refine z_eq (rK7 _) ?_
      refine z_at [] rfl ?_
      exact kF6 s4
    · refine z_iinc (j := 1) (v := v3 + (-1 : Int32)) (lv' := [(2, .int (v3 + (-1 : Int32))), (0, zrv G.2.1 (some R))]) dX6_layRow_18 rfl rfl (by decide) rfl ?_
      refine z_aload_n (j := 1) dX6_layRow_21 rfl rfl ?_
      refine z_rgetA (k := 23) (a := 18) hF dX6_layRow_22 (by decide) rfl zw799 rfl ?_
      refine z_iload_n (j := 0) dX6_layRow_25 rfl rfl ?_
      refine z_as ?_
      refine z_riald hF dX6_layRow_26 (fun x8 => ?_)
      refine z_istore_n (lv' := [(3, .int x8), (2, .int (v3 + (-1 : Int32))), (0, zrv G.2.1 (some R))]) dX6_layRow_27 rfl (by decide) rfl ?_
      refine z_aload_n (j := 2) dX6_layRow_28 rfl rfl ?_
      refine z_rgetA (k := 29) (a := 22) hF dX6_layRow_29 (by decide) rfl zw805 rfl ?_
      refine z_aload_n (j := 2) dX6_layRow_32 rfl rfl ?_
      refine z_rgetI (k := 28) hF dX6_layRow_33 (by decide) rfl zw804 ?_
      refine z_iload_n (j := 0) dX6_layRow_36 rfl rfl ?_
      refine z_as ?_
      refine z_riast hF dX6_layRow_37 (fun s9 => ?_)
      refine z_aload_n (j := 2) dX6_layRow_38 rfl rfl ?_
      refine z_dup dX6_layRow_39 (zcat1 _ _) ?_
      refine z_rgetI (k := 28) hF dX6_layRow_40 (by decide) rfl zw804 ?_
      refine z_iconst (v := 1) dX6_layRow_43 (by decide) ?_
      refine z_iadd dX6_layRow_44 ?_
      refine z_as ?_
      refine z_rputI (k := 28) hF dX6_layRow_45 (by decide) rfl zw804 rfl rfl (fun s10 => ?_)
      refine z_iconst (v := 0) dX6_layRow_48 (by decide) ?_
      refine z_istore (lv' := [(4, .int (0 : Int32)), (3, .int x8), (2, .int (v3 + (-1 : Int32))), (0, zrv G.2.1 (some R))]) dX6_layRow_49 (by decide) rfl ?_
      refine z_as ?_
      refine z_at [3, 2, 1, 0] rfl ?_
      refine z_join (pc2 := 91) (lv2 := fun (q : Int32 × Zr) => [(0, zrv G.2.1 (some R)), (2, .int q.1)]) (st2 := fun _ => []) (h2 := fun (q : Int32 × Zr) => zput R h0 q.2) (fun q => ?_) (fun F16 kF16 => ?_)
      · obtain ⟨w14, s15⟩ := q
        try dsimp only
        refine z_goto (tgt := 14) dX6_layRow_91 (by decide) ?_
        refine z_sb ?_
        refine z_at [0, 1] rfl ?_
        exact bK7 (w14, s15)
      · refine z_loop (lvf := fun (q : Int32 × Int32 × Zr) => [(0, zrv G.2.1 (some R)), (2, .int q.1), (3, .int x8), (4, .int q.2.1)]) (hf2 := fun (q : Int32 × Int32 × Zr) => zput R h0 q.2.2) (s0 := (v3 + (-1 : Int32), (0 : Int32), s10)) (fun K17 bK17 rK17 q => ?_)
        obtain ⟨v11, v12, s13⟩ := q
        try dsimp only
        refine z_iload (j := 3) dX6_layRow_51 rfl ?_
        refine z_aload_n (j := 0) dX6_layRow_53 rfl rfl ?_
        refine z_rgetA (k := 19) (a := 15) hF dX6_layRow_54 (by decide) rfl zw795 rfl ?_
        refine z_iload_n (j := 2) dX6_layRow_57 rfl rfl ?_
        refine z_as ?_
        refine z_riald hF dX6_layRow_58 (fun x18 => ?_)
        refine z_itb ?_
        refine z_icmp_ge (tgt := 91) dX6_layRow_59 (by decide) (fun _ => ?_) (fun _ => ?_)
        · refine z_sb ?_
          refine z_eq (rK17 _) ?_
          refine z_at [0, 1] rfl ?_
          exact kF16 (v11, s13)
        · refine z_aload_n (j := 0) dX6_layRow_62 rfl rfl ?_
          refine z_rgetA (k := 23) (a := 18) hF dX6_layRow_63 (by decide) rfl zw799 rfl ?_
          refine z_iload_n (j := 1) dX6_layRow_66 rfl rfl ?_
          refine z_aload_n (j := 0) dX6_layRow_67 rfl rfl ?_
          refine z_rgetA (k := 21) (a := 16) hF dX6_layRow_68 (by decide) rfl zw797 rfl ?_
          refine z_aload_n (j := 0) dX6_layRow_71 rfl rfl ?_
          refine z_rgetA (k := 18) (a := 14) hF dX6_layRow_72 (by decide) rfl zw794 rfl ?_
          refine z_iload_n (j := 2) dX6_layRow_75 rfl rfl ?_
          refine z_as ?_
          refine z_riald hF dX6_layRow_76 (fun x19 => ?_)
          refine z_iload (j := 3) dX6_layRow_77 rfl ?_
          refine z_iadd dX6_layRow_79 ?_
          refine z_as ?_
          refine z_riald hF dX6_layRow_80 (fun x20 => ?_)
          refine z_as ?_
          refine z_riast hF dX6_layRow_81 (fun s21 => ?_)
          refine z_iinc (j := 1) (v := v11 + (1 : Int32)) (lv' := [(2, .int (v11 + (1 : Int32))), (0, zrv G.2.1 (some R)), (3, .int x8), (4, .int v12)]) dX6_layRow_82 rfl rfl (by decide) rfl ?_
          refine z_iinc (j := 3) (v := v12 + (1 : Int32)) (lv' := [(4, .int (v12 + (1 : Int32))), (2, .int (v11 + (1 : Int32))), (0, zrv G.2.1 (some R)), (3, .int x8)]) dX6_layRow_85 rfl rfl (by decide) rfl ?_
          refine z_goto (tgt := 51) dX6_layRow_88 (by decide) ?_
          refine z_sb ?_
          refine z_at [2, 1, 3, 0] rfl ?_
          exact bK17 (v11 + (1 : Int32), v12 + (1 : Int32), s21)
