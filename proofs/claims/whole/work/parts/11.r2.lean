/-! the reference: make, plain, copySet, behind, beside, either, layLoop, layNode, lay, layCase, price, both, shortest, fit, beginLog, beginRow, addName, look, listParts, gatherParts -/
def fX6_make (s : Zr) (a1 : Int32) : Option (Int32 × Zr) :=
  (fX6_layRow s a1).bind fun s1 =>
  if (60 : Int32) < (s1 0 28) then
    some ((-2 : Int32), s1)
  else
    if ((s1 0 7) + (s1 0 28)) ≤ (200 : Int32) then
      (zloop (fun ((v2, s3) : Int32 × Zr) =>
        (if v2 < 0 then
          some (.inr s3)
        else
          (rdI s3 23 v2).bind fun x7 =>
          (rdI s3 13 x7).bind fun x8 =>
          (rdI s3 13 x7).bind fun x9 =>
          (if x9 = 0 then
            (rdI s3 14 x7).bind fun x12 =>
            some x12
          else
            some (-3 : Int32)).bind fun (v10 : Int32) =>
          (fX6_newPiece s3 x8 v10).bind fun ((x13, s14) : Int32 × Zr) =>
          (zloop (fun ((v15, s16) : Int32 × Zr) =>
            ((rdI s16 16 x7).bind fun x20 =>
            if x20 ≤ v15 then
              some (.inr s16)
            else
              (rdI s16 15 x7).bind fun x21 =>
              (rdI s16 17 (x21 + v15)).bind fun x22 =>
              (rdI s16 24 x22).bind fun x23 =>
              (fX6_addPart s16 x13 x23).bind fun s24 =>
              some (.inl (v15 + (1 : Int32), s24)) : Option ((Int32 × Zr) ⊕ Zr))) zFU ((0 : Int32), s14)).bind fun (s17 : Zr) =>
          (wrI s17 24 x7 x13).bind fun s25 =>
          some (.inl (v2 + (-1 : Int32), s25)) : Option ((Int32 × Zr) ⊕ Zr))) zFU ((s1 0 28) - (1 : Int32), s1)).bind fun (s4 : Zr) =>
      some ((s4 0 7) - (1 : Int32), s4)
    else
      some ((-2 : Int32), s1)
set_option maxRecDepth 100000 in
set_option maxHeartbeats 4000000 in
theorem kX6_make (G : Zg) (R : Nat) (h0 : Zh) (hF : zRF R h0) (s : Zr) (a1 : Int32) {x : Int32 × Zr} (hx : fX6_make s a1 = some x) : zCt G yX6_make cX6_make 6 (Option.some Jvm.ClassFile.FieldType.int) 2 [zrv G.2.1 (some R), .int a1] (zput R h0 s) (some (.int x.1)) (zput R h0 x.2) := by
  refine z_met (a := x) (rvf := fun (x : Int32 × Zr) => some (.int x.1)) (hff := fun (x : Int32 × Zr) => zput R h0 x.2) (lv := [(0, zrv G.2.1 (some R)), (1, .int a1)]) (by decide +kernel) (by simp [lg_sl, zcat1, zcI, zcJ]) (by simp [lv_args, zcat1, zcI, zcJ]) ?_ hx
  unfold fX6_make
  refine z_aload_n (j := 0) dX6_make_0 rfl rfl ?_
  refine z_iload_n (j := 1) dX6_make_1 rfl rfl ?_
  refine z_callV (As := [.int a1]) (rest := []) (rv2 := fun (_ : Zr) => none) (h2 := fun (x : Zr) => zput R h0 x) dX6_make_2 vX6_layRow (.inl zw1098) (by decide) zkl7 (zRrecv hF).1 (zRrecv hF).2 rfl rfl (by decide) (fun x hx => kX6_layRow G R h0 hF s a1 hx) (fun s1 => ?_)
  try dsimp only [Option.toList, List.cons_append, List.nil_append]
  refine z_aload_n (j := 0) dX6_make_5 rfl rfl ?_
  refine z_rgetI (k := 28) hF dX6_make_6 (by decide) rfl zw804 ?_
  refine z_bipush (v := 60) dX6_make_9 (by decide) ?_
  refine z_icmp_gt (tgt := 29) dX6_make_11 (by decide) (fun _ => ?_) (fun _ => ?_)
  · refine z_bipush (v := -2) dX6_make_29 (by decide) ?_
    exact z_iret dX6_make_31 rfl rfl rfl rfl
  · refine z_aload_n (j := 0) dX6_make_14 rfl rfl ?_
    refine z_rgetI (k := 7) hF dX6_make_15 (by decide) rfl zw783 ?_
    refine z_aload_n (j := 0) dX6_make_18 rfl rfl ?_
    refine z_rgetI (k := 28) hF dX6_make_19 (by decide) rfl zw804 ?_
    refine z_iadd dX6_make_22 ?_
    refine z_sipush (v := 200) dX6_make_23 (by decide) ?_
    refine z_icmp_le (tgt := 32) dX6_make_26 (by decide) (fun _ => ?_) (fun _ => ?_)
    · refine z_aload_n (j := 0) dX6_make_32 rfl rfl ?_
      refine z_rgetI (k := 28) hF dX6_make_33 (by decide) rfl zw804 ?_
      refine z_iconst (v := 1) dX6_make_36 (by decide) ?_
      refine z_isub dX6_make_37 ?_
      refine z_istore_n (lv' := [(2, .int ((s1 0 28) - (1 : Int32))), (0, zrv G.2.1 (some R)), (1, .int a1)]) dX6_make_38 rfl (by decide) rfl ?_
      refine z_at [1, 0] rfl ?_
      refine z_join (pc2 := 141) (lv2 := fun (q : Zr) => [(0, zrv G.2.1 (some R))]) (st2 := fun _ => []) (h2 := fun (q : Zr) => zput R h0 q) (fun q => ?_) (fun F5 kF5 => ?_)
      · obtain ⟨s4, e0⟩ : ∃ z, z = q := ⟨_, rfl⟩
        subst e0
        try dsimp only
        refine z_aload_n (j := 0) dX6_make_141 rfl rfl ?_
        refine z_rgetI (k := 7) hF dX6_make_142 (by decide) rfl zw783 ?_
        refine z_iconst (v := 1) dX6_make_145 (by decide) ?_
        refine z_isub dX6_make_146 ?_
        exact z_iret dX6_make_147 rfl rfl rfl rfl
      · refine z_loop (lvf := fun (q : Int32 × Zr) => [(0, zrv G.2.1 (some R)), (2, .int q.1)]) (hf2 := fun (q : Int32 × Zr) => zput R h0 q.2) (s0 := ((s1 0 28) - (1 : Int32), s1)) (fun K6 bK6 rK6 q => ?_)
        obtain ⟨v2, s3⟩ := q
        try dsimp only
        refine z_iload_n (j := 1) dX6_make_39 rfl rfl ?_
        refine z_itb ?_
        refine z_if_lt (tgt := 141) dX6_make_40 (by decide) (fun _ => ?_) (fun _ => ?_)
        · refine z_sb ?_
          refine z_eq (rK6 _) ?_
          refine z_at [0] rfl ?_
          exact kF5 s3
        · refine z_aload_n (j := 0) dX6_make_43 rfl rfl ?_
          refine z_rgetA (k := 29) (a := 22) hF dX6_make_44 (by decide) rfl zw805 rfl ?_
          refine z_iload_n (j := 1) dX6_make_47 rfl rfl ?_
          refine z_as ?_
          refine z_riald hF dX6_make_48 (fun x7 => ?_)
          refine z_istore_n (lv' := [(3, .int x7), (0, zrv G.2.1 (some R)), (2, .int v2)]) dX6_make_49 rfl (by decide) rfl ?_
          refine z_aload_n (j := 1) dX6_make_50 rfl rfl ?_
          refine z_aload_n (j := 1) dX6_make_51 rfl rfl ?_
          refine z_rgetA (k := 16) (a := 12) hF dX6_make_52 (by decide) rfl zw792 rfl ?_
          refine z_iload_n (j := 0) dX6_make_55 rfl rfl ?_
          refine z_as ?_
          refine z_riald hF dX6_make_56 (fun x8 => ?_)
          refine z_aload_n (j := 1) dX6_make_57 rfl rfl ?_
          refine z_rgetA (k := 16) (a := 12) hF dX6_make_58 (by decide) rfl zw792 rfl ?_
          refine z_iload_n (j := 0) dX6_make_61 rfl rfl ?_
          refine z_as ?_
          refine z_riald hF dX6_make_62 (fun x9 => ?_)
          refine z_as ?_
          refine z_join (pc2 := 77) (lv2 := fun (q : Int32) => [(0, zrv G.2.1 (some R)), (2, .int v2), (3, .int x7)]) (st2 := fun (q : Int32) => [.int q, .int x8, zrv G.2.1 (some R)]) (h2 := fun (q : Int32) => zput R h0 s3) (fun q => ?_) (fun F11 kF11 => ?_)
          · obtain ⟨v10, e0⟩ : ∃ z, z = q := ⟨_, rfl⟩
            subst e0
            try dsimp only
            refine z_as ?_
            refine z_callV (As := [.int x8, .int v10]) (rest := []) (rv2 := fun (x : Int32 × Zr) => some (.int x.1)) (h2 := fun (x : Int32 × Zr) => zput R h0 x.2) dX6_make_77 vX6_newPiece (.inl zw1028) (by decide) zkl7 (zRrecv hF).1 (zRrecv hF).2 rfl rfl (by decide) (fun x hx => kX6_newPiece G R h0 hF s3 x8 v10 hx) (fun x => ?_)
            obtain ⟨x13, s14⟩ := x
            try dsimp only [Option.toList, List.cons_append, List.nil_append]
            refine z_istore (lv' := [(4, .int x13), (0, zrv G.2.1 (some R)), (2, .int v2), (3, .int x7)]) dX6_make_80 (by decide) rfl ?_
            refine z_iconst (v := 0) dX6_make_82 (by decide) ?_
            refine z_istore (lv' := [(5, .int (0 : Int32)), (4, .int x13), (0, zrv G.2.1 (some R)), (2, .int v2), (3, .int x7)]) dX6_make_83 (by decide) rfl ?_
            refine z_as ?_
            refine z_at [2, 3, 4, 1, 0] rfl ?_
            refine z_join (pc2 := 127) (lv2 := fun (q : Zr) => [(0, zrv G.2.1 (some R)), (2, .int v2), (3, .int x7), (4, .int x13)]) (st2 := fun _ => []) (h2 := fun (q : Zr) => zput R h0 q) (fun q => ?_) (fun F18 kF18 => ?_)
            · obtain ⟨s17, e0⟩ : ∃ z, z = q := ⟨_, rfl⟩
              subst e0
              try dsimp only
              refine z_aload_n (j := 0) dX6_make_127 rfl rfl ?_
              refine z_rgetA (k := 30) (a := 23) hF dX6_make_128 (by decide) rfl zw806 rfl ?_
              refine z_iload_n (j := 2) dX6_make_131 rfl rfl ?_
              refine z_iload (j := 3) dX6_make_132 rfl ?_
              refine z_as ?_
              refine z_riast hF dX6_make_134 (fun s25 => ?_)
              refine z_iinc (j := 1) (v := v2 + (-1 : Int32)) (lv' := [(2, .int (v2 + (-1 : Int32))), (0, zrv G.2.1 (some R)), (3, .int x7), (4, .int x13)]) dX6_make_135 rfl rfl (by decide) rfl ?_
              refine z_goto (tgt := 39) dX6_make_138 (by decide) ?_
              refine z_sb ?_
              refine z_at [1, 0] rfl ?_
              exact bK6 (v2 + (-1 : Int32), s25)
            · refine z_loop (lvf := fun (q : Int32 × Zr) => [(0, zrv G.2.1 (some R)), (2, .int v2), (3, .int x7), (4, .int x13), (5, .int q.1)]) (hf2 := fun (q : Int32 × Zr) => zput R h0 q.2) (s0 := ((0 : Int32), s14)) (fun K19 bK19 rK19 q => ?_)
              obtain ⟨v15, s16⟩ := q
              try dsimp only
              refine z_iload (j := 4) dX6_make_85 rfl ?_
              refine z_aload_n (j := 0) dX6_make_87 rfl rfl ?_
              refine z_rgetA (k := 19) (a := 15) hF dX6_make_88 (by decide) rfl zw795 rfl ?_
              refine z_iload_n (j := 2) dX6_make_91 rfl rfl ?_
              refine z_as ?_
              refine z_riald hF dX6_make_92 (fun x20 => ?_)
              refine z_itb ?_
              refine z_icmp_ge (tgt := 127) dX6_make_93 (by decide) (fun _ => ?_) (fun _ => ?_)
              · refine z_sb ?_
                refine z_eq (rK19 _) ?_
                refine z_at [0, 1, 2, 3] rfl ?_
                exact kF18 s16
              · refine z_aload_n (j := 0) dX6_make_96 rfl rfl ?_
                refine z_iload (j := 3) dX6_make_97 rfl ?_
                refine z_aload_n (j := 0) dX6_make_99 rfl rfl ?_
                refine z_rgetA (k := 30) (a := 23) hF dX6_make_100 (by decide) rfl zw806 rfl ?_
                refine z_aload_n (j := 0) dX6_make_103 rfl rfl ?_
                refine z_rgetA (k := 21) (a := 16) hF dX6_make_104 (by decide) rfl zw797 rfl ?_
                refine z_aload_n (j := 0) dX6_make_107 rfl rfl ?_
                refine z_rgetA (k := 18) (a := 14) hF dX6_make_108 (by decide) rfl zw794 rfl ?_
                refine z_iload_n (j := 2) dX6_make_111 rfl rfl ?_
                refine z_as ?_
                refine z_riald hF dX6_make_112 (fun x21 => ?_)
                refine z_iload (j := 4) dX6_make_113 rfl ?_
                refine z_iadd dX6_make_115 ?_
                refine z_as ?_
                refine z_riald hF dX6_make_116 (fun x22 => ?_)
                refine z_as ?_
                refine z_riald hF dX6_make_117 (fun x23 => ?_)
                refine z_as ?_
                refine z_callV (As := [.int x13, .int x23]) (rest := []) (rv2 := fun (_ : Zr) => none) (h2 := fun (x : Zr) => zput R h0 x) dX6_make_118 vX6_addPart (.inl zw1041) (by decide) zkl7 (zRrecv hF).1 (zRrecv hF).2 rfl rfl (by decide) (fun x hx => kX6_addPart G R h0 hF s16 x13 x23 hx) (fun s24 => ?_)
                try dsimp only [Option.toList, List.cons_append, List.nil_append]
                refine z_iinc (j := 4) (v := v15 + (1 : Int32)) (lv' := [(5, .int (v15 + (1 : Int32))), (0, zrv G.2.1 (some R)), (2, .int v2), (3, .int x7), (4, .int x13)]) dX6_make_121 rfl rfl (by decide) rfl ?_
                refine z_goto (tgt := 85) dX6_make_124 (by decide) ?_
                refine z_sb ?_
                refine z_at [1, 2, 3, 4, 0] rfl ?_
                exact bK19 (v15 + (1 : Int32), s24)
          · refine z_itb ?_
            refine z_if_ne (tgt := 75) dX6_make_63 (by decide) (fun _ => ?_) (fun _ => ?_)
            · refine z_aload_n (j := 1) dX6_make_66 rfl rfl ?_
              refine z_rgetA (k := 17) (a := 13) hF dX6_make_67 (by decide) rfl zw793 rfl ?_
              refine z_iload_n (j := 0) dX6_make_70 rfl rfl ?_
              refine z_as ?_
              refine z_riald hF dX6_make_71 (fun x12 => ?_)
              refine z_goto (tgt := 77) dX6_make_72 (by decide) ?_
              refine z_sb ?_
              refine z_at [1, 2, 0] rfl ?_
              exact kF11 x12
            · refine z_bipush (v := -3) dX6_make_75 (by decide) ?_
              refine z_sb ?_
              refine z_at [1, 2, 0] rfl ?_
              exact kF11 (-3 : Int32)
    · refine z_bipush (v := -2) dX6_make_29 (by decide) ?_
      exact z_iret dX6_make_31 rfl rfl rfl rfl
def fX6_plain (s : Zr) (a1 : Int32) : Option (Int32 × Zr) :=
  (fX6_isPiece s a1).bind fun x1 =>
  if x1 = 0 then
    some ((-1 : Int32), s)
  else
    (fX6_clearTree s).bind fun s2 =>
    (fX6_expand s2 a1).bind fun ((x3, s4) : Int32 × Zr) =>
    (zloop (fun ((v5, s6) : Int32 × Zr) =>
      (if v5 < 0 then
        some (.inr s6)
      else
        (fX6_plainNode s6 v5).bind fun s10 =>
        some (.inl (v5 + (-1 : Int32), s10)) : Option ((Int32 × Zr) ⊕ Zr))) zFU ((s4 0 15) - (1 : Int32), s4)).bind fun (s7 : Zr) =>
    (rdI s7 22 x3).bind fun x11 =>
    (fX6_make s7 x11).bind fun ((x12, s13) : Int32 × Zr) =>
    some (x12, s13)
set_option maxRecDepth 100000 in
set_option maxHeartbeats 4000000 in
theorem kX6_plain (G : Zg) (R : Nat) (h0 : Zh) (hF : zRF R h0) (s : Zr) (a1 : Int32) {x : Int32 × Zr} (hx : fX6_plain s a1 = some x) : zCt G yX6_plain cX6_plain 4 (Option.some Jvm.ClassFile.FieldType.int) 5 [zrv G.2.1 (some R), .int a1] (zput R h0 s) (some (.int x.1)) (zput R h0 x.2) := by
  refine z_met (a := x) (rvf := fun (x : Int32 × Zr) => some (.int x.1)) (hff := fun (x : Int32 × Zr) => zput R h0 x.2) (lv := [(0, zrv G.2.1 (some R)), (1, .int a1)]) (by decide +kernel) (by simp [lg_sl, zcat1, zcI, zcJ]) (by simp [lv_args, zcat1, zcI, zcJ]) ?_ hx
  unfold fX6_plain
  refine z_aload_n (j := 0) dX6_plain_0 rfl rfl ?_
  refine z_iload_n (j := 1) dX6_plain_1 rfl rfl ?_
  refine z_callV (As := [.int a1]) (rest := []) (rv2 := fun (x : Int32) => some (.int x)) (h2 := fun (_ : Int32) => zput R h0 s) dX6_plain_2 vX6_isPiece (.inl zw1037) (by decide) zkl7 (zRrecv hF).1 (zRrecv hF).2 rfl rfl (by decide) (fun x hx => kX6_isPiece G R h0 hF s a1 hx) (fun x1 => ?_)
  try dsimp only [Option.toList, List.cons_append, List.nil_append]
  refine z_if_ne (tgt := 10) dX6_plain_5 (by decide) (fun _ => ?_) (fun _ => ?_)
  · refine z_iconst (v := -1) dX6_plain_8 (by decide) ?_
    exact z_iret dX6_plain_9 rfl rfl rfl rfl
  · refine z_aload_n (j := 0) dX6_plain_10 rfl rfl ?_
    refine z_callV (As := []) (rest := []) (rv2 := fun (_ : Zr) => none) (h2 := fun (x : Zr) => zput R h0 x) dX6_plain_11 vX6_clearTree (.inl zw1058) (by decide) zkl7 (zRrecv hF).1 (zRrecv hF).2 rfl rfl (by decide) (fun x hx => kX6_clearTree G R h0 hF s hx) (fun s2 => ?_)
    try dsimp only [Option.toList, List.cons_append, List.nil_append]
    refine z_aload_n (j := 0) dX6_plain_14 rfl rfl ?_
    refine z_iload_n (j := 1) dX6_plain_15 rfl rfl ?_
    refine z_callV (As := [.int a1]) (rest := []) (rv2 := fun (x : Int32 × Zr) => some (.int x.1)) (h2 := fun (x : Int32 × Zr) => zput R h0 x.2) dX6_plain_16 vX6_expand (.inl zw1062) (by decide) zkl7 (zRrecv hF).1 (zRrecv hF).2 rfl rfl (by decide) (fun x hx => kX6_expand G R h0 hF s2 a1 hx) (fun x => ?_)
    obtain ⟨x3, s4⟩ := x
    try dsimp only [Option.toList, List.cons_append, List.nil_append]
    refine z_istore_n (lv' := [(2, .int x3), (0, zrv G.2.1 (some R)), (1, .int a1)]) dX6_plain_19 rfl (by decide) rfl ?_
    refine z_aload_n (j := 1) dX6_plain_20 rfl rfl ?_
    refine z_rgetI (k := 15) hF dX6_plain_21 (by decide) rfl zw791 ?_
    refine z_iconst (v := 1) dX6_plain_24 (by decide) ?_
    refine z_isub dX6_plain_25 ?_
    refine z_istore_n (lv' := [(3, .int ((s4 0 15) - (1 : Int32))), (2, .int x3), (0, zrv G.2.1 (some R)), (1, .int a1)]) dX6_plain_26 rfl (by decide) rfl ?_
    refine z_at [2, 1, 0] rfl ?_
    refine z_join (pc2 := 42) (lv2 := fun (q : Zr) => [(0, zrv G.2.1 (some R)), (2, .int x3)]) (st2 := fun _ => []) (h2 := fun (q : Zr) => zput R h0 q) (fun q => ?_) (fun F8 kF8 => ?_)
    · obtain ⟨s7, e0⟩ : ∃ z, z = q := ⟨_, rfl⟩
      subst e0
      try dsimp only
      refine z_aload_n (j := 0) dX6_plain_42 rfl rfl ?_
      refine z_aload_n (j := 0) dX6_plain_43 rfl rfl ?_
      refine z_rgetA (k := 27) (a := 21) hF dX6_plain_44 (by decide) rfl zw803 rfl ?_
      refine z_iload_n (j := 1) dX6_plain_47 rfl rfl ?_
      refine z_riald hF dX6_plain_48 (fun x11 => ?_)
      refine z_callV (As := [.int x11]) (rest := []) (rv2 := fun (x : Int32 × Zr) => some (.int x.1)) (h2 := fun (x : Int32 × Zr) => zput R h0 x.2) dX6_plain_49 vX6_make (.inl zw1094) (by decide) zkl7 (zRrecv hF).1 (zRrecv hF).2 rfl rfl (by decide) (fun x hx => kX6_make G R h0 hF s7 x11 hx) (fun x => ?_)
      obtain ⟨x12, s13⟩ := x
      try dsimp only [Option.toList, List.cons_append, List.nil_append]
      exact z_iret dX6_plain_52 rfl rfl rfl rfl
    · refine z_loop (lvf := fun (q : Int32 × Zr) => [(0, zrv G.2.1 (some R)), (2, .int x3), (3, .int q.1)]) (hf2 := fun (q : Int32 × Zr) => zput R h0 q.2) (s0 := ((s4 0 15) - (1 : Int32), s4)) (fun K9 bK9 rK9 q => ?_)
      obtain ⟨v5, s6⟩ := q
      try dsimp only
      refine z_iload_n (j := 2) dX6_plain_27 rfl rfl ?_
      refine z_itb ?_
      refine z_if_lt (tgt := 42) dX6_plain_28 (by decide) (fun _ => ?_) (fun _ => ?_)
      · refine z_sb ?_
        refine z_eq (rK9 _) ?_
        refine z_at [0, 1] rfl ?_
        exact kF8 s6
      · refine z_aload_n (j := 0) dX6_plain_31 rfl rfl ?_
        refine z_iload_n (j := 2) dX6_plain_32 rfl rfl ?_
        refine z_as ?_
        refine z_callV (As := [.int v5]) (rest := []) (rv2 := fun (_ : Zr) => none) (h2 := fun (x : Zr) => zput R h0 x) dX6_plain_33 vX6_plainNode (.inl zw1078) (by decide) zkl7 (zRrecv hF).1 (zRrecv hF).2 rfl rfl (by decide) (fun x hx => kX6_plainNode G R h0 hF s6 v5 hx) (fun s10 => ?_)
        try dsimp only [Option.toList, List.cons_append, List.nil_append]
        refine z_iinc (j := 2) (v := v5 + (-1 : Int32)) (lv' := [(3, .int (v5 + (-1 : Int32))), (0, zrv G.2.1 (some R)), (2, .int x3)]) dX6_plain_36 rfl rfl (by decide) rfl ?_
        refine z_goto (tgt := 27) dX6_plain_39 (by decide) ?_
        refine z_sb ?_
        refine z_at [1, 2, 0] rfl ?_
        exact bK9 (v5 + (-1 : Int32), s10)
def fX6_copySet (s : Zr) (a1 : Nat) (a2 : Int32) : Option (Zr) :=
  (zloop (fun ((v1, s2) : Int32 × Zr) =>
    (if (64 : Int32) ≤ v1 then
      some (.inr s2)
    else
      (rdI s2 26 (((64 : Int32) * a2) + v1)).bind fun x6 =>
      (wrI s2 a1 v1 x6).bind fun s7 =>
      some (.inl (v1 + (1 : Int32), s7)) : Option ((Int32 × Zr) ⊕ Zr))) zFU ((0 : Int32), s)).bind fun (s3 : Zr) =>
  some s3
set_option maxRecDepth 100000 in
set_option maxHeartbeats 4000000 in
theorem kX6_copySet (G : Zg) (R : Nat) (h0 : Zh) (hF : zRF R h0) (s : Zr) (a1 : Nat) (a2 : Int32) {x : Zr} (hx : fX6_copySet s a1 a2 = some x) : zCt G yX6_copySet cX6_copySet 4 (Option.none : Option Jvm.ClassFile.FieldType) 1 [zrv G.2.1 (some R), zrv G.2.1 (some (R + a1)), .int a2] (zput R h0 s) none (zput R h0 x) := by
  refine z_met (a := x) (rvf := fun (_ : Zr) => none) (hff := fun (x : Zr) => zput R h0 x) (lv := [(0, zrv G.2.1 (some R)), (1, zrv G.2.1 (some (R + a1))), (2, .int a2)]) (by decide +kernel) (by simp [lg_sl, zcat1, zcI, zcJ]) (by simp [lv_args, zcat1, zcI, zcJ]) ?_ hx
  unfold fX6_copySet
  refine z_iconst (v := 0) dX6_copySet_0 (by decide) ?_
  refine z_istore_n (lv' := [(3, .int (0 : Int32)), (0, zrv G.2.1 (some R)), (1, zrv G.2.1 (some (R + a1))), (2, .int a2)]) dX6_copySet_1 rfl (by decide) rfl ?_
  refine z_at [1, 2, 3, 0] rfl ?_
  refine z_join (pc2 := 28) (lv2 := fun (q : Zr) => []) (st2 := fun _ => []) (h2 := fun (q : Zr) => zput R h0 q) (fun q => ?_) (fun F4 kF4 => ?_)
  · obtain ⟨s3, e0⟩ : ∃ z, z = q := ⟨_, rfl⟩
    subst e0
    try dsimp only
    exact z_vret dX6_copySet_28 rfl rfl rfl
  · refine z_loop (lvf := fun (q : Int32 × Zr) => [(0, zrv G.2.1 (some R)), (1, zrv G.2.1 (some (R + a1))), (2, .int a2), (3, .int q.1)]) (hf2 := fun (q : Int32 × Zr) => zput R h0 q.2) (s0 := ((0 : Int32), s)) (fun K5 bK5 rK5 q => ?_)
    obtain ⟨v1, s2⟩ := q
    try dsimp only
    refine z_iload_n (j := 3) dX6_copySet_2 rfl rfl ?_
    refine z_bipush (v := 64) dX6_copySet_3 (by decide) ?_
    refine z_itb ?_
    refine z_icmp_ge (tgt := 28) dX6_copySet_5 (by decide) (fun _ => ?_) (fun _ => ?_)
    · refine z_sb ?_
      refine z_eq (rK5 _) ?_
      refine z_at [] rfl ?_
      exact kF4 s2
    · refine z_aload_n (j := 1) dX6_copySet_8 rfl rfl ?_
      refine z_iload_n (j := 3) dX6_copySet_9 rfl rfl ?_
      refine z_aload_n (j := 0) dX6_copySet_10 rfl rfl ?_
      refine z_rgetA (k := 33) (a := 25) hF dX6_copySet_11 (by decide) rfl zw809 rfl ?_
      refine z_bipush (v := 64) dX6_copySet_14 (by decide) ?_
      refine z_iload_n (j := 2) dX6_copySet_16 rfl rfl ?_
      refine z_imul dX6_copySet_17 ?_
      refine z_iload_n (j := 3) dX6_copySet_18 rfl rfl ?_
      refine z_iadd dX6_copySet_19 ?_
      refine z_as ?_
      refine z_riald hF dX6_copySet_20 (fun x6 => ?_)
      refine z_as ?_
      refine z_riast hF dX6_copySet_21 (fun s7 => ?_)
      refine z_iinc (j := 3) (v := v1 + (1 : Int32)) (lv' := [(3, .int (v1 + (1 : Int32))), (0, zrv G.2.1 (some R)), (1, zrv G.2.1 (some (R + a1))), (2, .int a2)]) dX6_copySet_22 rfl rfl (by decide) rfl ?_
      refine z_goto (tgt := 2) dX6_copySet_25 (by decide) ?_
      refine z_sb ?_
      refine z_at [1, 2, 3, 0] rfl ?_
      exact bK5 (v1 + (1 : Int32), s7)
def fX6_behind (s : Zr) : Option (Zr) :=
  (zloop (fun ((v1, s2) : Int32 × Zr) =>
    (if ((1 : Int32) <<< ((s 0 31) &&& 31)) ≤ v1 then
      some (.inr s2)
    else
      (wrI s2 29 v1 (100000 : Int32)).bind fun s6 =>
      (zloop (fun ((v7, s8) : Int32 × Zr) =>
        (if (s8 0 31) < v7 then
          some (.inr s8)
        else
          (rdI s8 27 (v1 &&& (((1 : Int32) <<< (v7 &&& 31)) - (1 : Int32)))).bind fun x12 =>
          (rdI s8 28 (v1 - (v1 &&& (((1 : Int32) <<< (v7 &&& 31)) - (1 : Int32))))).bind fun x13 =>
          (rdI s8 29 v1).bind fun x14 =>
          (if x14 ≤ (x12 + x13) then
            (rdI s8 29 v1).bind fun x17 =>
            some x17
          else
            some (x12 + x13)).bind fun (v15 : Int32) =>
          (wrI s8 29 v1 v15).bind fun s18 =>
          some (.inl (v7 + (1 : Int32), s18)) : Option ((Int32 × Zr) ⊕ Zr))) zFU ((0 : Int32), s6)).bind fun (s9 : Zr) =>
      some (.inl (v1 + (1 : Int32), s9)) : Option ((Int32 × Zr) ⊕ Zr))) zFU ((0 : Int32), s)).bind fun (s3 : Zr) =>
  some s3
set_option maxRecDepth 100000 in
set_option maxHeartbeats 4000000 in
theorem kX6_behind (G : Zg) (R : Nat) (h0 : Zh) (hF : zRF R h0) (s : Zr) {x : Zr} (hx : fX6_behind s = some x) : zCt G yX6_behind cX6_behind 6 (Option.none : Option Jvm.ClassFile.FieldType) 1 [zrv G.2.1 (some R)] (zput R h0 s) none (zput R h0 x) := by
  refine z_met (a := x) (rvf := fun (_ : Zr) => none) (hff := fun (x : Zr) => zput R h0 x) (lv := [(0, zrv G.2.1 (some R))]) (by decide +kernel) (by simp [lg_sl, zcat1, zcI, zcJ]) (by simp [lv_args, zcat1, zcI, zcJ]) ?_ hx
  unfold fX6_behind
  refine z_iconst (v := 1) dX6_behind_0 (by decide) ?_
  refine z_aload_n (j := 0) dX6_behind_1 rfl rfl ?_
  refine z_rgetI (k := 31) hF dX6_behind_2 (by decide) rfl zw807 ?_
  refine z_ishl dX6_behind_5 ?_
  refine z_istore_n (lv' := [(1, .int ((1 : Int32) <<< ((s 0 31) &&& 31))), (0, zrv G.2.1 (some R))]) dX6_behind_6 rfl (by decide) rfl ?_
  refine z_iconst (v := 0) dX6_behind_7 (by decide) ?_
  refine z_istore_n (lv' := [(2, .int (0 : Int32)), (1, .int ((1 : Int32) <<< ((s 0 31) &&& 31))), (0, zrv G.2.1 (some R))]) dX6_behind_8 rfl (by decide) rfl ?_
  refine z_at [2, 1, 0] rfl ?_
  refine z_join (pc2 := 101) (lv2 := fun (q : Zr) => []) (st2 := fun _ => []) (h2 := fun (q : Zr) => zput R h0 q) (fun q => ?_) (fun F4 kF4 => ?_)
  · obtain ⟨s3, e0⟩ : ∃ z, z = q := ⟨_, rfl⟩
    subst e0
    try dsimp only
    exact z_vret dX6_behind_101 rfl rfl rfl
  · refine z_loop (lvf := fun (q : Int32 × Zr) => [(0, zrv G.2.1 (some R)), (1, .int ((1 : Int32) <<< ((s 0 31) &&& 31))), (2, .int q.1)]) (hf2 := fun (q : Int32 × Zr) => zput R h0 q.2) (s0 := ((0 : Int32), s)) (fun K5 bK5 rK5 q => ?_)
    obtain ⟨v1, s2⟩ := q
    try dsimp only
    refine z_iload_n (j := 2) dX6_behind_9 rfl rfl ?_
    refine z_iload_n (j := 1) dX6_behind_10 rfl rfl ?_
    refine z_itb ?_
    refine z_icmp_ge (tgt := 101) dX6_behind_11 (by decide) (fun _ => ?_) (fun _ => ?_)
    · refine z_sb ?_
      refine z_eq (rK5 _) ?_
      refine z_at [] rfl ?_
      exact kF4 s2
    · refine z_aload_n (j := 0) dX6_behind_14 rfl rfl ?_
      refine z_rgetA (k := 36) (a := 28) hF dX6_behind_15 (by decide) rfl zw812 rfl ?_
      refine z_iload_n (j := 2) dX6_behind_18 rfl rfl ?_
      refine z_ldcw (v := 100000) dX6_behind_19 zw1118 ?_
      refine z_as ?_
      refine z_riast hF dX6_behind_22 (fun s6 => ?_)
      refine z_iconst (v := 0) dX6_behind_23 (by decide) ?_
      refine z_istore_n (lv' := [(3, .int (0 : Int32)), (0, zrv G.2.1 (some R)), (1, .int ((1 : Int32) <<< ((s 0 31) &&& 31))), (2, .int v1)]) dX6_behind_24 rfl (by decide) rfl ?_
      refine z_as ?_
      refine z_at [1, 2, 3, 0] rfl ?_
      refine z_join (pc2 := 95) (lv2 := fun (q : Zr) => [(0, zrv G.2.1 (some R)), (1, .int ((1 : Int32) <<< ((s 0 31) &&& 31))), (2, .int v1)]) (st2 := fun _ => []) (h2 := fun (q : Zr) => zput R h0 q) (fun q => ?_) (fun F10 kF10 => ?_)
      · obtain ⟨s9, e0⟩ : ∃ z, z = q := ⟨_, rfl⟩
        subst e0
        try dsimp only
        refine z_iinc (j := 2) (v := v1 + (1 : Int32)) (lv' := [(2, .int (v1 + (1 : Int32))), (0, zrv G.2.1 (some R)), (1, .int ((1 : Int32) <<< ((s 0 31) &&& 31)))]) dX6_behind_95 rfl rfl (by decide) rfl ?_
        refine z_goto (tgt := 9) dX6_behind_98 (by decide) ?_
        refine z_sb ?_
        refine z_at [1, 2, 0] rfl ?_
        exact bK5 (v1 + (1 : Int32), s9)
      · refine z_loop (lvf := fun (q : Int32 × Zr) => [(0, zrv G.2.1 (some R)), (1, .int ((1 : Int32) <<< ((s 0 31) &&& 31))), (2, .int v1), (3, .int q.1)]) (hf2 := fun (q : Int32 × Zr) => zput R h0 q.2) (s0 := ((0 : Int32), s6)) (fun K11 bK11 rK11 q => ?_)
        obtain ⟨v7, s8⟩ := q
        try dsimp only
        refine z_iload_n (j := 3) dX6_behind_25 rfl rfl ?_
        refine z_aload_n (j := 0) dX6_behind_26 rfl rfl ?_
        refine z_rgetI (k := 31) hF dX6_behind_27 (by decide) rfl zw807 ?_
        refine z_itb ?_
        refine z_icmp_gt (tgt := 95) dX6_behind_30 (by decide) (fun _ => ?_) (fun _ => ?_)
        · refine z_sb ?_
          refine z_eq (rK11 _) ?_
          refine z_at [0, 1, 2] rfl ?_
          exact kF10 s8
        · refine z_iload_n (j := 2) dX6_behind_33 rfl rfl ?_
          refine z_iconst (v := 1) dX6_behind_34 (by decide) ?_
          refine z_iload_n (j := 3) dX6_behind_35 rfl rfl ?_
          refine z_ishl dX6_behind_36 ?_
          refine z_iconst (v := 1) dX6_behind_37 (by decide) ?_
          refine z_isub dX6_behind_38 ?_
          refine z_iand dX6_behind_39 ?_
          refine z_istore (lv' := [(4, .int (v1 &&& (((1 : Int32) <<< (v7 &&& 31)) - (1 : Int32)))), (0, zrv G.2.1 (some R)), (1, .int ((1 : Int32) <<< ((s 0 31) &&& 31))), (2, .int v1), (3, .int v7)]) dX6_behind_40 (by decide) rfl ?_
          refine z_aload_n (j := 1) dX6_behind_42 rfl rfl ?_
          refine z_rgetA (k := 34) (a := 26) hF dX6_behind_43 (by decide) rfl zw810 rfl ?_
          refine z_iload (j := 0) dX6_behind_46 rfl ?_
          refine z_as ?_
          refine z_riald hF dX6_behind_48 (fun x12 => ?_)
          refine z_aload_n (j := 1) dX6_behind_49 rfl rfl ?_
          refine z_rgetA (k := 35) (a := 27) hF dX6_behind_50 (by decide) rfl zw811 rfl ?_
          refine z_iload_n (j := 3) dX6_behind_53 rfl rfl ?_
          refine z_iload (j := 0) dX6_behind_54 rfl ?_
          refine z_isub dX6_behind_56 ?_
          refine z_as ?_
          refine z_riald hF dX6_behind_57 (fun x13 => ?_)
          refine z_iadd dX6_behind_58 ?_
          refine z_istore (lv' := [(5, .int (x12 + x13)), (4, .int (v1 &&& (((1 : Int32) <<< (v7 &&& 31)) - (1 : Int32)))), (0, zrv G.2.1 (some R)), (1, .int ((1 : Int32) <<< ((s 0 31) &&& 31))), (2, .int v1), (3, .int v7)]) dX6_behind_59 (by decide) rfl ?_
          refine z_aload_n (j := 2) dX6_behind_61 rfl rfl ?_
          refine z_rgetA (k := 36) (a := 28) hF dX6_behind_62 (by decide) rfl zw812 rfl ?_
          refine z_iload_n (j := 4) dX6_behind_65 rfl rfl ?_
          refine z_iload (j := 0) dX6_behind_66 rfl ?_
          refine z_aload_n (j := 2) dX6_behind_68 rfl rfl ?_
          refine z_rgetA (k := 36) (a := 28) hF dX6_behind_69 (by decide) rfl zw812 rfl ?_
          refine z_iload_n (j := 4) dX6_behind_72 rfl rfl ?_
          refine z_as ?_
          refine z_riald hF dX6_behind_73 (fun x14 => ?_)
          refine z_as ?_
          refine z_join (pc2 := 88) (lv2 := fun (q : Int32) => [(0, zrv G.2.1 (some R)), (1, .int ((1 : Int32) <<< ((s 0 31) &&& 31))), (2, .int v1), (3, .int v7)]) (st2 := fun (q : Int32) => [.int q, .int v1, zrv G.2.1 (some (R + 29))]) (h2 := fun (q : Int32) => zput R h0 s8) (fun q => ?_) (fun F16 kF16 => ?_)
          · obtain ⟨v15, e0⟩ : ∃ z, z = q := ⟨_, rfl⟩
            subst e0
            try dsimp only
            refine z_as ?_
            refine z_riast hF dX6_behind_88 (fun s18 => ?_)
            refine z_iinc (j := 3) (v := v7 + (1 : Int32)) (lv' := [(3, .int (v7 + (1 : Int32))), (0, zrv G.2.1 (some R)), (1, .int ((1 : Int32) <<< ((s 0 31) &&& 31))), (2, .int v1)]) dX6_behind_89 rfl rfl (by decide) rfl ?_
            refine z_goto (tgt := 25) dX6_behind_92 (by decide) ?_
            refine z_sb ?_
            refine z_at [1, 2, 3, 0] rfl ?_
            exact bK11 (v7 + (1 : Int32), s18)
          · refine z_itb ?_
            refine z_icmp_ge (tgt := 82) dX6_behind_74 (by decide) (fun _ => ?_) (fun _ => ?_)
            · refine z_aload_n (j := 2) dX6_behind_82 rfl rfl ?_
              refine z_rgetA (k := 36) (a := 28) hF dX6_behind_83 (by decide) rfl zw812 rfl ?_
              refine z_iload_n (j := 4) dX6_behind_86 rfl rfl ?_
              refine z_as ?_
              refine z_riald hF dX6_behind_87 (fun x17 => ?_)
              refine z_sb ?_
              refine z_at [2, 3, 4, 5] rfl ?_
              exact kF16 x17
            · refine z_iload (j := 0) dX6_behind_77 rfl ?_
              refine z_goto (tgt := 88) dX6_behind_79 (by decide) ?_
              refine z_sb ?_
              refine z_at [2, 3, 4, 5] rfl ?_
              exact kF16 (x12 + x13)
def fX6_beside (s : Zr) : Option (Zr) :=
  (zloop (fun ((v1, s2) : Int32 × Zr) =>
    (if ((1 : Int32) <<< ((s 0 31) &&& 31)) ≤ v1 then
      some (.inr s2)
    else
      (wrI s2 29 v1 (100000 : Int32)).bind fun s6 =>
      (zloop (fun ((v7, s8) : Int32 × Zr) =>
        (if ((1 : Int32) <<< ((s 0 31) &&& 31)) ≤ v7 then
          some (.inr s8)
        else
          (if (v7 &&& v1) = v7 then
            (rdI s8 27 v7).bind fun x14 =>
            (rdI s8 28 (v1 - v7)).bind fun x15 =>
            some (x14 + x15)
          else
            some (100000 : Int32)).bind fun (v12 : Int32) =>
          (rdI s8 29 v1).bind fun x16 =>
          (if x16 ≤ v12 then
            (rdI s8 29 v1).bind fun x19 =>
            some x19
          else
            some v12).bind fun (v17 : Int32) =>
          (wrI s8 29 v1 v17).bind fun s20 =>
          some (.inl (v7 + (1 : Int32), s20)) : Option ((Int32 × Zr) ⊕ Zr))) zFU ((0 : Int32), s6)).bind fun (s9 : Zr) =>
      some (.inl (v1 + (1 : Int32), s9)) : Option ((Int32 × Zr) ⊕ Zr))) zFU ((0 : Int32), s)).bind fun (s3 : Zr) =>
  some s3
set_option maxRecDepth 100000 in
set_option maxHeartbeats 4000000 in
theorem kX6_beside (G : Zg) (R : Nat) (h0 : Zh) (hF : zRF R h0) (s : Zr) {x : Zr} (hx : fX6_beside s = some x) : zCt G yX6_beside cX6_beside 5 (Option.none : Option Jvm.ClassFile.FieldType) 1 [zrv G.2.1 (some R)] (zput R h0 s) none (zput R h0 x) := by
  refine z_met (a := x) (rvf := fun (_ : Zr) => none) (hff := fun (x : Zr) => zput R h0 x) (lv := [(0, zrv G.2.1 (some R))]) (by decide +kernel) (by simp [lg_sl, zcat1, zcI, zcJ]) (by simp [lv_args, zcat1, zcI, zcJ]) ?_ hx
  unfold fX6_beside
  refine z_iconst (v := 1) dX6_beside_0 (by decide) ?_
  refine z_aload_n (j := 0) dX6_beside_1 rfl rfl ?_
  refine z_rgetI (k := 31) hF dX6_beside_2 (by decide) rfl zw807 ?_
  refine z_ishl dX6_beside_5 ?_
  refine z_istore_n (lv' := [(1, .int ((1 : Int32) <<< ((s 0 31) &&& 31))), (0, zrv G.2.1 (some R))]) dX6_beside_6 rfl (by decide) rfl ?_
  refine z_iconst (v := 0) dX6_beside_7 (by decide) ?_
  refine z_istore_n (lv' := [(2, .int (0 : Int32)), (1, .int ((1 : Int32) <<< ((s 0 31) &&& 31))), (0, zrv G.2.1 (some R))]) dX6_beside_8 rfl (by decide) rfl ?_
  refine z_at [2, 1, 0] rfl ?_
  refine z_join (pc2 := 100) (lv2 := fun (q : Zr) => []) (st2 := fun _ => []) (h2 := fun (q : Zr) => zput R h0 q) (fun q => ?_) (fun F4 kF4 => ?_)
  · obtain ⟨s3, e0⟩ : ∃ z, z = q := ⟨_, rfl⟩
    subst e0
    try dsimp only
    exact z_vret dX6_beside_100 rfl rfl rfl
  · refine z_loop (lvf := fun (q : Int32 × Zr) => [(0, zrv G.2.1 (some R)), (1, .int ((1 : Int32) <<< ((s 0 31) &&& 31))), (2, .int q.1)]) (hf2 := fun (q : Int32 × Zr) => zput R h0 q.2) (s0 := ((0 : Int32), s)) (fun K5 bK5 rK5 q => ?_)
    obtain ⟨v1, s2⟩ := q
    try dsimp only
    refine z_iload_n (j := 2) dX6_beside_9 rfl rfl ?_
    refine z_iload_n (j := 1) dX6_beside_10 rfl rfl ?_
    refine z_itb ?_
    refine z_icmp_ge (tgt := 100) dX6_beside_11 (by decide) (fun _ => ?_) (fun _ => ?_)
    · refine z_sb ?_
      refine z_eq (rK5 _) ?_
      refine z_at [] rfl ?_
      exact kF4 s2
    · refine z_aload_n (j := 0) dX6_beside_14 rfl rfl ?_
      refine z_rgetA (k := 36) (a := 28) hF dX6_beside_15 (by decide) rfl zw812 rfl ?_
      refine z_iload_n (j := 2) dX6_beside_18 rfl rfl ?_
      refine z_ldcw (v := 100000) dX6_beside_19 zw1118 ?_
      refine z_as ?_
      refine z_riast hF dX6_beside_22 (fun s6 => ?_)
      refine z_iconst (v := 0) dX6_beside_23 (by decide) ?_
      refine z_istore_n (lv' := [(3, .int (0 : Int32)), (0, zrv G.2.1 (some R)), (1, .int ((1 : Int32) <<< ((s 0 31) &&& 31))), (2, .int v1)]) dX6_beside_24 rfl (by decide) rfl ?_
      refine z_as ?_
      refine z_at [1, 2, 3, 0] rfl ?_
      refine z_join (pc2 := 94) (lv2 := fun (q : Zr) => [(0, zrv G.2.1 (some R)), (1, .int ((1 : Int32) <<< ((s 0 31) &&& 31))), (2, .int v1)]) (st2 := fun _ => []) (h2 := fun (q : Zr) => zput R h0 q) (fun q => ?_) (fun F10 kF10 => ?_)
      · obtain ⟨s9, e0⟩ : ∃ z, z = q := ⟨_, rfl⟩
        subst e0
        try dsimp only
        refine z_iinc (j := 2) (v := v1 + (1 : Int32)) (lv' := [(2, .int (v1 + (1 : Int32))), (0, zrv G.2.1 (some R)), (1, .int ((1 : Int32) <<< ((s 0 31) &&& 31)))]) dX6_beside_94 rfl rfl (by decide) rfl ?_
        refine z_goto (tgt := 9) dX6_beside_97 (by decide) ?_
        refine z_sb ?_
        refine z_at [1, 2, 0] rfl ?_
        exact bK5 (v1 + (1 : Int32), s9)
      · refine z_loop (lvf := fun (q : Int32 × Zr) => [(0, zrv G.2.1 (some R)), (1, .int ((1 : Int32) <<< ((s 0 31) &&& 31))), (2, .int v1), (3, .int q.1)]) (hf2 := fun (q : Int32 × Zr) => zput R h0 q.2) (s0 := ((0 : Int32), s6)) (fun K11 bK11 rK11 q => ?_)
        obtain ⟨v7, s8⟩ := q
        try dsimp only
        refine z_iload_n (j := 3) dX6_beside_25 rfl rfl ?_
        refine z_iload_n (j := 1) dX6_beside_26 rfl rfl ?_
        refine z_itb ?_
        refine z_icmp_ge (tgt := 94) dX6_beside_27 (by decide) (fun _ => ?_) (fun _ => ?_)
        · refine z_sb ?_
          refine z_eq (rK11 _) ?_
          refine z_at [0, 1, 2] rfl ?_
          exact kF10 s8
        · refine z_iload_n (j := 3) dX6_beside_30 rfl rfl ?_
          refine z_iload_n (j := 2) dX6_beside_31 rfl rfl ?_
          refine z_iand dX6_beside_32 ?_
          refine z_iload_n (j := 3) dX6_beside_33 rfl rfl ?_
          refine z_as ?_
          refine z_join (pc2 := 58) (lv2 := fun (q : Int32) => [(0, zrv G.2.1 (some R)), (1, .int ((1 : Int32) <<< ((s 0 31) &&& 31))), (2, .int v1), (3, .int v7)]) (st2 := fun (q : Int32) => [.int q]) (h2 := fun (q : Int32) => zput R h0 s8) (fun q => ?_) (fun F13 kF13 => ?_)
          · obtain ⟨v12, e0⟩ : ∃ z, z = q := ⟨_, rfl⟩
            subst e0
            try dsimp only
            refine z_istore (lv' := [(4, .int v12), (0, zrv G.2.1 (some R)), (1, .int ((1 : Int32) <<< ((s 0 31) &&& 31))), (2, .int v1), (3, .int v7)]) dX6_beside_58 (by decide) rfl ?_
            refine z_aload_n (j := 1) dX6_beside_60 rfl rfl ?_
            refine z_rgetA (k := 36) (a := 28) hF dX6_beside_61 (by decide) rfl zw812 rfl ?_
            refine z_iload_n (j := 3) dX6_beside_64 rfl rfl ?_
            refine z_iload (j := 0) dX6_beside_65 rfl ?_
            refine z_aload_n (j := 1) dX6_beside_67 rfl rfl ?_
            refine z_rgetA (k := 36) (a := 28) hF dX6_beside_68 (by decide) rfl zw812 rfl ?_
            refine z_iload_n (j := 3) dX6_beside_71 rfl rfl ?_
            refine z_as ?_
            refine z_riald hF dX6_beside_72 (fun x16 => ?_)
            refine z_as ?_
            refine z_join (pc2 := 87) (lv2 := fun (q : Int32) => [(0, zrv G.2.1 (some R)), (1, .int ((1 : Int32) <<< ((s 0 31) &&& 31))), (2, .int v1), (3, .int v7)]) (st2 := fun (q : Int32) => [.int q, .int v1, zrv G.2.1 (some (R + 29))]) (h2 := fun (q : Int32) => zput R h0 s8) (fun q => ?_) (fun F18 kF18 => ?_)
            · obtain ⟨v17, e0⟩ : ∃ z, z = q := ⟨_, rfl⟩
              subst e0
              try dsimp only
              refine z_as ?_
              refine z_riast hF dX6_beside_87 (fun s20 => ?_)
              refine z_iinc (j := 3) (v := v7 + (1 : Int32)) (lv' := [(3, .int (v7 + (1 : Int32))), (0, zrv G.2.1 (some R)), (1, .int ((1 : Int32) <<< ((s 0 31) &&& 31))), (2, .int v1)]) dX6_beside_88 rfl rfl (by decide) rfl ?_
              refine z_goto (tgt := 25) dX6_beside_91 (by decide) ?_
              refine z_sb ?_
              refine z_at [1, 2, 3, 0] rfl ?_
              exact bK11 (v7 + (1 : Int32), s20)
            · refine z_itb ?_
              refine z_icmp_ge (tgt := 81) dX6_beside_73 (by decide) (fun _ => ?_) (fun _ => ?_)
              · refine z_aload_n (j := 1) dX6_beside_81 rfl rfl ?_
                refine z_rgetA (k := 36) (a := 28) hF dX6_beside_82 (by decide) rfl zw812 rfl ?_
                refine z_iload_n (j := 3) dX6_beside_85 rfl rfl ?_
                refine z_as ?_
                refine z_riald hF dX6_beside_86 (fun x19 => ?_)
                refine z_sb ?_
                refine z_at [1, 2, 3, 4] rfl ?_
                exact kF18 x19
              · refine z_iload (j := 0) dX6_beside_76 rfl ?_
                refine z_goto (tgt := 87) dX6_beside_78 (by decide) ?_
                refine z_sb ?_
                refine z_at [1, 2, 3, 4] rfl ?_
                exact kF18 v12
          · refine z_itb ?_
            refine z_icmp_ne (tgt := 55) dX6_beside_34 (by decide) (fun _ => ?_) (fun _ => ?_)
            · refine z_aload_n (j := 0) dX6_beside_37 rfl rfl ?_
              refine z_rgetA (k := 34) (a := 26) hF dX6_beside_38 (by decide) rfl zw810 rfl ?_
              refine z_iload_n (j := 3) dX6_beside_41 rfl rfl ?_
              refine z_as ?_
              refine z_riald hF dX6_beside_42 (fun x14 => ?_)
              refine z_aload_n (j := 0) dX6_beside_43 rfl rfl ?_
              refine z_rgetA (k := 35) (a := 27) hF dX6_beside_44 (by decide) rfl zw811 rfl ?_
              refine z_iload_n (j := 2) dX6_beside_47 rfl rfl ?_
              refine z_iload_n (j := 3) dX6_beside_48 rfl rfl ?_
              refine z_isub dX6_beside_49 ?_
              refine z_as ?_
              refine z_riald hF dX6_beside_50 (fun x15 => ?_)
              refine z_iadd dX6_beside_51 ?_
              refine z_goto (tgt := 58) dX6_beside_52 (by decide) ?_
              refine z_sb ?_
              refine z_at [0, 1, 2, 3] rfl ?_
              exact kF13 (x14 + x15)
            · refine z_ldcw (v := 100000) dX6_beside_55 zw1118 ?_
              refine z_sb ?_
              refine z_at [0, 1, 2, 3] rfl ?_
              exact kF13 (100000 : Int32)
def fX6_either (s : Zr) : Option (Zr) :=
  (zloop (fun ((v1, s2) : Int32 × Zr) =>
    (if (64 : Int32) ≤ v1 then
      some (.inr s2)
    else
      (rdI s2 27 v1).bind fun x6 =>
      (rdI s2 28 v1).bind fun x7 =>
      (if x7 ≤ x6 then
        (rdI s2 28 v1).bind fun x10 =>
        some x10
      else
        (rdI s2 27 v1).bind fun x11 =>
        some x11).bind fun (v8 : Int32) =>
      (wrI s2 29 v1 v8).bind fun s12 =>
      some (.inl (v1 + (1 : Int32), s12)) : Option ((Int32 × Zr) ⊕ Zr))) zFU ((0 : Int32), s)).bind fun (s3 : Zr) =>
  some s3
set_option maxRecDepth 100000 in
set_option maxHeartbeats 4000000 in
theorem kX6_either (G : Zg) (R : Nat) (h0 : Zh) (hF : zRF R h0) (s : Zr) {x : Zr} (hx : fX6_either s = some x) : zCt G yX6_either cX6_either 2 (Option.none : Option Jvm.ClassFile.FieldType) 1 [zrv G.2.1 (some R)] (zput R h0 s) none (zput R h0 x) := by
  refine z_met (a := x) (rvf := fun (_ : Zr) => none) (hff := fun (x : Zr) => zput R h0 x) (lv := [(0, zrv G.2.1 (some R))]) (by decide +kernel) (by simp [lg_sl, zcat1, zcI, zcJ]) (by simp [lv_args, zcat1, zcI, zcJ]) ?_ hx
  unfold fX6_either
  refine z_iconst (v := 0) dX6_either_0 (by decide) ?_
  refine z_istore_n (lv' := [(1, .int (0 : Int32)), (0, zrv G.2.1 (some R))]) dX6_either_1 rfl (by decide) rfl ?_
  refine z_at [1, 0] rfl ?_
  refine z_join (pc2 := 50) (lv2 := fun (q : Zr) => []) (st2 := fun _ => []) (h2 := fun (q : Zr) => zput R h0 q) (fun q => ?_) (fun F4 kF4 => ?_)
  · obtain ⟨s3, e0⟩ : ∃ z, z = q := ⟨_, rfl⟩
    subst e0
    try dsimp only
    exact z_vret dX6_either_50 rfl rfl rfl
  · refine z_loop (lvf := fun (q : Int32 × Zr) => [(0, zrv G.2.1 (some R)), (1, .int q.1)]) (hf2 := fun (q : Int32 × Zr) => zput R h0 q.2) (s0 := ((0 : Int32), s)) (fun K5 bK5 rK5 q => ?_)
    obtain ⟨v1, s2⟩ := q
    try dsimp only
    refine z_iload_n (j := 1) dX6_either_2 rfl rfl ?_
    refine z_bipush (v := 64) dX6_either_3 (by decide) ?_
    refine z_itb ?_
    refine z_icmp_ge (tgt := 50) dX6_either_5 (by decide) (fun _ => ?_) (fun _ => ?_)
    · refine z_sb ?_
      refine z_eq (rK5 _) ?_
      refine z_at [] rfl ?_
      exact kF4 s2
    · refine z_aload_n (j := 0) dX6_either_8 rfl rfl ?_
      refine z_rgetA (k := 36) (a := 28) hF dX6_either_9 (by decide) rfl zw812 rfl ?_
      refine z_iload_n (j := 1) dX6_either_12 rfl rfl ?_
      refine z_aload_n (j := 0) dX6_either_13 rfl rfl ?_
      refine z_rgetA (k := 34) (a := 26) hF dX6_either_14 (by decide) rfl zw810 rfl ?_
      refine z_iload_n (j := 1) dX6_either_17 rfl rfl ?_
      refine z_as ?_
      refine z_riald hF dX6_either_18 (fun x6 => ?_)
      refine z_aload_n (j := 0) dX6_either_19 rfl rfl ?_
      refine z_rgetA (k := 35) (a := 27) hF dX6_either_20 (by decide) rfl zw811 rfl ?_
      refine z_iload_n (j := 1) dX6_either_23 rfl rfl ?_
      refine z_as ?_
      refine z_riald hF dX6_either_24 (fun x7 => ?_)
      refine z_as ?_
      refine z_join (pc2 := 43) (lv2 := fun (q : Int32) => [(0, zrv G.2.1 (some R)), (1, .int v1)]) (st2 := fun (q : Int32) => [.int q, .int v1, zrv G.2.1 (some (R + 29))]) (h2 := fun (q : Int32) => zput R h0 s2) (fun q => ?_) (fun F9 kF9 => ?_)
      · obtain ⟨v8, e0⟩ : ∃ z, z = q := ⟨_, rfl⟩
        subst e0
        try dsimp only
        refine z_as ?_
        refine z_riast hF dX6_either_43 (fun s12 => ?_)
        refine z_iinc (j := 1) (v := v1 + (1 : Int32)) (lv' := [(1, .int (v1 + (1 : Int32))), (0, zrv G.2.1 (some R))]) dX6_either_44 rfl rfl (by decide) rfl ?_
        refine z_goto (tgt := 2) dX6_either_47 (by decide) ?_
        refine z_sb ?_
        refine z_at [1, 0] rfl ?_
        exact bK5 (v1 + (1 : Int32), s12)
      · refine z_itb ?_
        refine z_icmp_ge (tgt := 37) dX6_either_25 (by decide) (fun _ => ?_) (fun _ => ?_)
        · refine z_aload_n (j := 0) dX6_either_37 rfl rfl ?_
          refine z_rgetA (k := 35) (a := 27) hF dX6_either_38 (by decide) rfl zw811 rfl ?_
          refine z_iload_n (j := 1) dX6_either_41 rfl rfl ?_
          refine z_as ?_
          refine z_riald hF dX6_either_42 (fun x10 => ?_)
          refine z_sb ?_
          refine z_at [0, 1] rfl ?_
          exact kF9 x10
        · refine z_aload_n (j := 0) dX6_either_28 rfl rfl ?_
          refine z_rgetA (k := 34) (a := 26) hF dX6_either_29 (by decide) rfl zw810 rfl ?_
          refine z_iload_n (j := 1) dX6_either_32 rfl rfl ?_
          refine z_as ?_
          refine z_riald hF dX6_either_33 (fun x11 => ?_)
          refine z_goto (tgt := 43) dX6_either_34 (by decide) ?_
          refine z_sb ?_
          refine z_at [0, 1] rfl ?_
          exact kF9 x11
def fX6_layLoop (s : Zr) (a1 : Int32) : Option (Zr) :=
  (rdI s 15 a1).bind fun x1 =>
  (rdI s 17 x1).bind fun x2 =>
  (zloop (fun ((v3, s4) : Int32 × Zr) =>
    (if (64 : Int32) ≤ v3 then
      some (.inr s4)
    else
      (wrI s4 30 v3 (100000 : Int32)).bind fun s8 =>
      some (.inl (v3 + (1 : Int32), s8)) : Option ((Int32 × Zr) ⊕ Zr))) zFU ((0 : Int32), s)).bind fun (s5 : Zr) =>
  (zloop (fun ((v9, s10) : Int32 × Zr) =>
    ((rdI s10 16 a1).bind fun x14 =>
    if x14 ≤ v9 then
      some (.inr s10)
    else
      (rdI s10 15 a1).bind fun x15 =>
      (rdI s10 17 (x15 + v9)).bind fun x16 =>
      (fX6_copySet s10 27 x16).bind fun s17 =>
      (fX6_copySet s17 28 x2).bind fun s18 =>
      (fX6_behind s18).bind fun s19 =>
      (zloop (fun ((v20, s21) : Int32 × Zr) =>
        (if ((1 : Int32) <<< ((s 0 31) &&& 31)) ≤ v20 then
          some (.inr s21)
        else
          (rdI s21 29 v20).bind fun x25 =>
          (rdI s21 30 v20).bind fun x26 =>
          (if x26 ≤ x25 then
            (rdI s21 30 v20).bind fun x29 =>
            some x29
          else
            (rdI s21 29 v20).bind fun x30 =>
            some x30).bind fun (v27 : Int32) =>
          (wrI s21 30 v20 v27).bind fun s31 =>
          some (.inl (v20 + (1 : Int32), s31)) : Option ((Int32 × Zr) ⊕ Zr))) zFU ((0 : Int32), s19)).bind fun (s22 : Zr) =>
      some (.inl (v9 + (1 : Int32), s22)) : Option ((Int32 × Zr) ⊕ Zr))) zFU ((1 : Int32), s5)).bind fun (s11 : Zr) =>
  (fX6_copySet s11 29 x2).bind fun s32 =>
  (zloop (fun ((v33, s34) : Int32 × Zr) =>
    (if ((1 : Int32) <<< ((s 0 31) &&& 31)) ≤ v33 then
      some (.inr s34)
    else
      (zloop (fun ((v38, s39) : Int32 × Zr) =>
        (if (s39 0 31) ≤ v38 then
          some (.inr s39)
        else
          (if (v33 &&& (((1 : Int32) <<< (v38 &&& 31)) - (1 : Int32))) = v33 then
            some (100000 : Int32)
          else
            (rdI s39 29 (v33 &&& (((1 : Int32) <<< (v38 &&& 31)) - (1 : Int32)))).bind fun x45 =>
            (rdI s39 30 (v33 - (v33 &&& (((1 : Int32) <<< (v38 &&& 31)) - (1 : Int32))))).bind fun x46 =>
            some (x45 + x46)).bind fun (v43 : Int32) =>
          (rdI s39 29 v33).bind fun x47 =>
          (if x47 ≤ v43 then
            (rdI s39 29 v33).bind fun x50 =>
            some x50
          else
            some v43).bind fun (v48 : Int32) =>
          (wrI s39 29 v33 v48).bind fun s51 =>
          some (.inl (v38 + (1 : Int32), s51)) : Option ((Int32 × Zr) ⊕ Zr))) zFU ((0 : Int32), s34)).bind fun (s40 : Zr) =>
      some (.inl (v33 + (1 : Int32), s40)) : Option ((Int32 × Zr) ⊕ Zr))) zFU ((0 : Int32), s32)).bind fun (s35 : Zr) =>
  some s35
set_option maxRecDepth 100000 in
set_option maxHeartbeats 4000000 in
theorem kX6_layLoop (G : Zg) (R : Nat) (h0 : Zh) (hF : zRF R h0) (s : Zr) (a1 : Int32) {x : Zr} (hx : fX6_layLoop s a1 = some x) : zCt G yX6_layLoop cX6_layLoop 8 (Option.none : Option Jvm.ClassFile.FieldType) 2 [zrv G.2.1 (some R), .int a1] (zput R h0 s) none (zput R h0 x) := by
  refine z_met (a := x) (rvf := fun (_ : Zr) => none) (hff := fun (x : Zr) => zput R h0 x) (lv := [(0, zrv G.2.1 (some R)), (1, .int a1)]) (by decide +kernel) (by simp [lg_sl, zcat1, zcI, zcJ]) (by simp [lv_args, zcat1, zcI, zcJ]) ?_ hx
  unfold fX6_layLoop
  refine z_iconst (v := 1) dX6_layLoop_0 (by decide) ?_
  refine z_aload_n (j := 0) dX6_layLoop_1 rfl rfl ?_
  refine z_rgetI (k := 31) hF dX6_layLoop_2 (by decide) rfl zw807 ?_
  refine z_ishl dX6_layLoop_5 ?_
  refine z_istore_n (lv' := [(2, .int ((1 : Int32) <<< ((s 0 31) &&& 31))), (0, zrv G.2.1 (some R)), (1, .int a1)]) dX6_layLoop_6 rfl (by decide) rfl ?_
  refine z_aload_n (j := 1) dX6_layLoop_7 rfl rfl ?_
  refine z_rgetA (k := 21) (a := 16) hF dX6_layLoop_8 (by decide) rfl zw797 rfl ?_
  refine z_aload_n (j := 1) dX6_layLoop_11 rfl rfl ?_
  refine z_rgetA (k := 18) (a := 14) hF dX6_layLoop_12 (by decide) rfl zw794 rfl ?_
  refine z_iload_n (j := 2) dX6_layLoop_15 rfl rfl ?_
  refine z_riald hF dX6_layLoop_16 (fun x1 => ?_)
  refine z_riald hF dX6_layLoop_17 (fun x2 => ?_)
  refine z_istore_n (lv' := [(3, .int x2), (2, .int ((1 : Int32) <<< ((s 0 31) &&& 31))), (0, zrv G.2.1 (some R)), (1, .int a1)]) dX6_layLoop_18 rfl (by decide) rfl ?_
  refine z_iconst (v := 0) dX6_layLoop_19 (by decide) ?_
  refine z_istore (lv' := [(4, .int (0 : Int32)), (3, .int x2), (2, .int ((1 : Int32) <<< ((s 0 31) &&& 31))), (0, zrv G.2.1 (some R)), (1, .int a1)]) dX6_layLoop_20 (by decide) rfl ?_
  refine z_at [3, 4, 2, 1, 0] rfl ?_
  refine z_join (pc2 := 45) (lv2 := fun (q : Zr) => [(0, zrv G.2.1 (some R)), (1, .int a1), (2, .int ((1 : Int32) <<< ((s 0 31) &&& 31))), (3, .int x2)]) (st2 := fun _ => []) (h2 := fun (q : Zr) => zput R h0 q) (fun q => ?_) (fun F6 kF6 => ?_)
  · obtain ⟨s5, e0⟩ : ∃ z, z = q := ⟨_, rfl⟩
    subst e0
    try dsimp only
    refine z_iconst (v := 1) dX6_layLoop_45 (by decide) ?_
    refine z_istore (lv' := [(4, .int (1 : Int32)), (0, zrv G.2.1 (some R)), (1, .int a1), (2, .int ((1 : Int32) <<< ((s 0 31) &&& 31))), (3, .int x2)]) dX6_layLoop_46 (by decide) rfl ?_
    refine z_at [1, 2, 3, 4, 0] rfl ?_
    refine z_join (pc2 := 156) (lv2 := fun (q : Zr) => [(0, zrv G.2.1 (some R)), (2, .int ((1 : Int32) <<< ((s 0 31) &&& 31))), (3, .int x2)]) (st2 := fun _ => []) (h2 := fun (q : Zr) => zput R h0 q) (fun q => ?_) (fun F12 kF12 => ?_)
    · obtain ⟨s11, e0⟩ : ∃ z, z = q := ⟨_, rfl⟩
      subst e0
      try dsimp only
      refine z_aload_n (j := 0) dX6_layLoop_156 rfl rfl ?_
      refine z_aload_n (j := 0) dX6_layLoop_157 rfl rfl ?_
      refine z_rgetA (k := 36) (a := 28) hF dX6_layLoop_158 (by decide) rfl zw812 rfl ?_
      refine z_iload_n (j := 2) dX6_layLoop_161 rfl rfl ?_
      refine z_callV (As := [zrv G.2.1 (some (R + 29)), .int x2]) (rest := []) (rv2 := fun (_ : Zr) => none) (h2 := fun (x : Zr) => zput R h0 x) dX6_layLoop_162 vX6_copySet (.inl zw1123) (by decide) zkl7 (zRrecv hF).1 (zRrecv hF).2 rfl rfl (by decide) (fun x hx => kX6_copySet G R h0 hF s11 29 x2 hx) (fun s32 => ?_)
      try dsimp only [Option.toList, List.cons_append, List.nil_append]
      refine z_iconst (v := 0) dX6_layLoop_165 (by decide) ?_
      refine z_istore (lv' := [(4, .int (0 : Int32)), (0, zrv G.2.1 (some R)), (2, .int ((1 : Int32) <<< ((s 0 31) &&& 31))), (3, .int x2)]) dX6_layLoop_166 (by decide) rfl ?_
      refine z_at [1, 2, 0] rfl ?_
      refine z_join (pc2 := 273) (lv2 := fun (q : Zr) => []) (st2 := fun _ => []) (h2 := fun (q : Zr) => zput R h0 q) (fun q => ?_) (fun F36 kF36 => ?_)
      · obtain ⟨s35, e0⟩ : ∃ z, z = q := ⟨_, rfl⟩
        subst e0
        try dsimp only
        exact z_vret dX6_layLoop_273 rfl rfl rfl
      · refine z_loop (lvf := fun (q : Int32 × Zr) => [(0, zrv G.2.1 (some R)), (2, .int ((1 : Int32) <<< ((s 0 31) &&& 31))), (4, .int q.1)]) (hf2 := fun (q : Int32 × Zr) => zput R h0 q.2) (s0 := ((0 : Int32), s32)) (fun K37 bK37 rK37 q => ?_)
        obtain ⟨v33, s34⟩ := q
        try dsimp only
        refine z_iload (j := 2) dX6_layLoop_168 rfl ?_
        refine z_iload_n (j := 1) dX6_layLoop_170 rfl rfl ?_
        refine z_itb ?_
        refine z_icmp_ge (tgt := 273) dX6_layLoop_171 (by decide) (fun _ => ?_) (fun _ => ?_)
        · refine z_sb ?_
          refine z_eq (rK37 _) ?_
          refine z_at [] rfl ?_
          exact kF36 s34
        · refine z_iconst (v := 0) dX6_layLoop_174 (by decide) ?_
          refine z_istore (lv' := [(5, .int (0 : Int32)), (0, zrv G.2.1 (some R)), (2, .int ((1 : Int32) <<< ((s 0 31) &&& 31))), (4, .int v33)]) dX6_layLoop_175 (by decide) rfl ?_
          refine z_as ?_
          refine z_at [1, 2, 3, 0] rfl ?_
          refine z_join (pc2 := 267) (lv2 := fun (q : Zr) => [(0, zrv G.2.1 (some R)), (2, .int ((1 : Int32) <<< ((s 0 31) &&& 31))), (4, .int v33)]) (st2 := fun _ => []) (h2 := fun (q : Zr) => zput R h0 q) (fun q => ?_) (fun F41 kF41 => ?_)
          · obtain ⟨s40, e0⟩ : ∃ z, z = q := ⟨_, rfl⟩
            subst e0
            try dsimp only
            refine z_iinc (j := 2) (v := v33 + (1 : Int32)) (lv' := [(4, .int (v33 + (1 : Int32))), (0, zrv G.2.1 (some R)), (2, .int ((1 : Int32) <<< ((s 0 31) &&& 31)))]) dX6_layLoop_267 rfl rfl (by decide) rfl ?_
            refine z_goto (tgt := 168) dX6_layLoop_270 (by decide) ?_
            refine z_sb ?_
            refine z_at [1, 2, 0] rfl ?_
            exact bK37 (v33 + (1 : Int32), s40)
          · refine z_loop (lvf := fun (q : Int32 × Zr) => [(0, zrv G.2.1 (some R)), (2, .int ((1 : Int32) <<< ((s 0 31) &&& 31))), (4, .int v33), (5, .int q.1)]) (hf2 := fun (q : Int32 × Zr) => zput R h0 q.2) (s0 := ((0 : Int32), s34)) (fun K42 bK42 rK42 q => ?_)
            obtain ⟨v38, s39⟩ := q
            try dsimp only
            refine z_iload (j := 3) dX6_layLoop_177 rfl ?_
            refine z_aload_n (j := 0) dX6_layLoop_179 rfl rfl ?_
            refine z_rgetI (k := 31) hF dX6_layLoop_180 (by decide) rfl zw807 ?_
            refine z_itb ?_
            refine z_icmp_ge (tgt := 267) dX6_layLoop_183 (by decide) (fun _ => ?_) (fun _ => ?_)
            · refine z_sb ?_
              refine z_eq (rK42 _) ?_
              refine z_at [0, 1, 2] rfl ?_
              exact kF41 s39
            · refine z_iload (j := 2) dX6_layLoop_186 rfl ?_
              refine z_iconst (v := 1) dX6_layLoop_188 (by decide) ?_
              refine z_iload (j := 3) dX6_layLoop_189 rfl ?_
              refine z_ishl dX6_layLoop_191 ?_
              refine z_iconst (v := 1) dX6_layLoop_192 (by decide) ?_
              refine z_isub dX6_layLoop_193 ?_
              refine z_iand dX6_layLoop_194 ?_
              refine z_istore (lv' := [(6, .int (v33 &&& (((1 : Int32) <<< (v38 &&& 31)) - (1 : Int32)))), (0, zrv G.2.1 (some R)), (2, .int ((1 : Int32) <<< ((s 0 31) &&& 31))), (4, .int v33), (5, .int v38)]) dX6_layLoop_195 (by decide) rfl ?_
              refine z_iload (j := 0) dX6_layLoop_197 rfl ?_
              refine z_iload (j := 3) dX6_layLoop_199 rfl ?_
              refine z_as ?_
              refine z_join (pc2 := 228) (lv2 := fun (q : Int32) => [(0, zrv G.2.1 (some R)), (2, .int ((1 : Int32) <<< ((s 0 31) &&& 31))), (4, .int v33), (5, .int v38)]) (st2 := fun (q : Int32) => [.int q]) (h2 := fun (q : Int32) => zput R h0 s39) (fun q => ?_) (fun F44 kF44 => ?_)
              · obtain ⟨v43, e0⟩ : ∃ z, z = q := ⟨_, rfl⟩
                subst e0
                try dsimp only
                refine z_istore (lv' := [(7, .int v43), (0, zrv G.2.1 (some R)), (2, .int ((1 : Int32) <<< ((s 0 31) &&& 31))), (4, .int v33), (5, .int v38)]) dX6_layLoop_228 (by decide) rfl ?_
                refine z_aload_n (j := 1) dX6_layLoop_230 rfl rfl ?_
                refine z_rgetA (k := 36) (a := 28) hF dX6_layLoop_231 (by decide) rfl zw812 rfl ?_
                refine z_iload (j := 3) dX6_layLoop_234 rfl ?_
                refine z_iload (j := 0) dX6_layLoop_236 rfl ?_
                refine z_aload_n (j := 1) dX6_layLoop_238 rfl rfl ?_
                refine z_rgetA (k := 36) (a := 28) hF dX6_layLoop_239 (by decide) rfl zw812 rfl ?_
                refine z_iload (j := 3) dX6_layLoop_242 rfl ?_
                refine z_as ?_
                refine z_riald hF dX6_layLoop_244 (fun x47 => ?_)
                refine z_as ?_
                refine z_join (pc2 := 260) (lv2 := fun (q : Int32) => [(0, zrv G.2.1 (some R)), (2, .int ((1 : Int32) <<< ((s 0 31) &&& 31))), (4, .int v33), (5, .int v38)]) (st2 := fun (q : Int32) => [.int q, .int v33, zrv G.2.1 (some (R + 29))]) (h2 := fun (q : Int32) => zput R h0 s39) (fun q => ?_) (fun F49 kF49 => ?_)
                · obtain ⟨v48, e0⟩ : ∃ z, z = q := ⟨_, rfl⟩
                  subst e0
                  try dsimp only
                  refine z_as ?_
                  refine z_riast hF dX6_layLoop_260 (fun s51 => ?_)
                  refine z_iinc (j := 3) (v := v38 + (1 : Int32)) (lv' := [(5, .int (v38 + (1 : Int32))), (0, zrv G.2.1 (some R)), (2, .int ((1 : Int32) <<< ((s 0 31) &&& 31))), (4, .int v33)]) dX6_layLoop_261 rfl rfl (by decide) rfl ?_
                  refine z_goto (tgt := 177) dX6_layLoop_264 (by decide) ?_
                  refine z_sb ?_
                  refine z_at [1, 2, 3, 0] rfl ?_
                  exact bK42 (v38 + (1 : Int32), s51)
                · refine z_itb ?_
                  refine z_icmp_ge (tgt := 253) dX6_layLoop_245 (by decide) (fun _ => ?_) (fun _ => ?_)
                  · refine z_aload_n (j := 1) dX6_layLoop_253 rfl rfl ?_
                    refine z_rgetA (k := 36) (a := 28) hF dX6_layLoop_254 (by decide) rfl zw812 rfl ?_
                    refine z_iload (j := 3) dX6_layLoop_257 rfl ?_
                    refine z_as ?_
                    refine z_riald hF dX6_layLoop_259 (fun x50 => ?_)
                    refine z_sb ?_
                    refine z_at [1, 2, 3, 4] rfl ?_
                    exact kF49 x50
                  · refine z_iload (j := 0) dX6_layLoop_248 rfl ?_
                    refine z_goto (tgt := 260) dX6_layLoop_250 (by decide) ?_
                    refine z_sb ?_
                    refine z_at [1, 2, 3, 4] rfl ?_
                    exact kF49 v43
              · refine z_itb ?_
                refine z_icmp_ne (tgt := 210) dX6_layLoop_201 (by decide) (fun _ => ?_) (fun _ => ?_)
                · refine z_ldcw (v := 100000) dX6_layLoop_204 zw1118 ?_
                  refine z_goto (tgt := 228) dX6_layLoop_207 (by decide) ?_
                  refine z_sb ?_
                  refine z_at [1, 2, 3, 4] rfl ?_
                  exact kF44 (100000 : Int32)
                · refine z_aload_n (j := 1) dX6_layLoop_210 rfl rfl ?_
                  refine z_rgetA (k := 36) (a := 28) hF dX6_layLoop_211 (by decide) rfl zw812 rfl ?_
                  refine z_iload (j := 0) dX6_layLoop_214 rfl ?_
                  refine z_as ?_
                  refine z_riald hF dX6_layLoop_216 (fun x45 => ?_)
                  refine z_aload_n (j := 1) dX6_layLoop_217 rfl rfl ?_
                  refine z_rgetA (k := 37) (a := 29) hF dX6_layLoop_218 (by decide) rfl zw813 rfl ?_
                  refine z_iload (j := 3) dX6_layLoop_221 rfl ?_
                  refine z_iload (j := 0) dX6_layLoop_223 rfl ?_
                  refine z_isub dX6_layLoop_225 ?_
                  refine z_as ?_
                  refine z_riald hF dX6_layLoop_226 (fun x46 => ?_)
                  refine z_iadd dX6_layLoop_227 ?_
                  refine z_sb ?_
                  refine z_at [1, 2, 3, 4] rfl ?_
                  exact kF44 (x45 + x46)
    · refine z_loop (lvf := fun (q : Int32 × Zr) => [(0, zrv G.2.1 (some R)), (1, .int a1), (2, .int ((1 : Int32) <<< ((s 0 31) &&& 31))), (3, .int x2), (4, .int q.1)]) (hf2 := fun (q : Int32 × Zr) => zput R h0 q.2) (s0 := ((1 : Int32), s5)) (fun K13 bK13 rK13 q => ?_)
      obtain ⟨v9, s10⟩ := q
      try dsimp only
      refine z_iload (j := 4) dX6_layLoop_48 rfl ?_
      refine z_aload_n (j := 0) dX6_layLoop_50 rfl rfl ?_
      refine z_rgetA (k := 19) (a := 15) hF dX6_layLoop_51 (by decide) rfl zw795 rfl ?_
      refine z_iload_n (j := 1) dX6_layLoop_54 rfl rfl ?_
      refine z_as ?_
      refine z_riald hF dX6_layLoop_55 (fun x14 => ?_)
      refine z_itb ?_
      refine z_icmp_ge (tgt := 156) dX6_layLoop_56 (by decide) (fun _ => ?_) (fun _ => ?_)
      · refine z_sb ?_
        refine z_eq (rK13 _) ?_
        refine z_at [0, 2, 3] rfl ?_
        exact kF12 s10
      · refine z_aload_n (j := 0) dX6_layLoop_59 rfl rfl ?_
        refine z_aload_n (j := 0) dX6_layLoop_60 rfl rfl ?_
        refine z_rgetA (k := 34) (a := 26) hF dX6_layLoop_61 (by decide) rfl zw810 rfl ?_
        refine z_aload_n (j := 0) dX6_layLoop_64 rfl rfl ?_
        refine z_rgetA (k := 21) (a := 16) hF dX6_layLoop_65 (by decide) rfl zw797 rfl ?_
        refine z_aload_n (j := 0) dX6_layLoop_68 rfl rfl ?_
        refine z_rgetA (k := 18) (a := 14) hF dX6_layLoop_69 (by decide) rfl zw794 rfl ?_
        refine z_iload_n (j := 1) dX6_layLoop_72 rfl rfl ?_
        refine z_as ?_
        refine z_riald hF dX6_layLoop_73 (fun x15 => ?_)
        refine z_iload (j := 4) dX6_layLoop_74 rfl ?_
        refine z_iadd dX6_layLoop_76 ?_
        refine z_as ?_
        refine z_riald hF dX6_layLoop_77 (fun x16 => ?_)
        refine z_as ?_
        refine z_callV (As := [zrv G.2.1 (some (R + 27)), .int x16]) (rest := []) (rv2 := fun (_ : Zr) => none) (h2 := fun (x : Zr) => zput R h0 x) dX6_layLoop_78 vX6_copySet (.inl zw1123) (by decide) zkl7 (zRrecv hF).1 (zRrecv hF).2 rfl rfl (by decide) (fun x hx => kX6_copySet G R h0 hF s10 27 x16 hx) (fun s17 => ?_)
        try dsimp only [Option.toList, List.cons_append, List.nil_append]
        refine z_aload_n (j := 0) dX6_layLoop_81 rfl rfl ?_
        refine z_aload_n (j := 0) dX6_layLoop_82 rfl rfl ?_
        refine z_rgetA (k := 35) (a := 27) hF dX6_layLoop_83 (by decide) rfl zw811 rfl ?_
        refine z_iload_n (j := 3) dX6_layLoop_86 rfl rfl ?_
        refine z_as ?_
        refine z_callV (As := [zrv G.2.1 (some (R + 28)), .int x2]) (rest := []) (rv2 := fun (_ : Zr) => none) (h2 := fun (x : Zr) => zput R h0 x) dX6_layLoop_87 vX6_copySet (.inl zw1123) (by decide) zkl7 (zRrecv hF).1 (zRrecv hF).2 rfl rfl (by decide) (fun x hx => kX6_copySet G R h0 hF s17 28 x2 hx) (fun s18 => ?_)
        try dsimp only [Option.toList, List.cons_append, List.nil_append]
        refine z_aload_n (j := 0) dX6_layLoop_90 rfl rfl ?_
        refine z_as ?_
        refine z_callV (As := []) (rest := []) (rv2 := fun (_ : Zr) => none) (h2 := fun (x : Zr) => zput R h0 x) dX6_layLoop_91 vX6_behind (.inl zw1127) (by decide) zkl7 (zRrecv hF).1 (zRrecv hF).2 rfl rfl (by decide) (fun x hx => kX6_behind G R h0 hF s18 hx) (fun s19 => ?_)
        try dsimp only [Option.toList, List.cons_append, List.nil_append]
        refine z_iconst (v := 0) dX6_layLoop_94 (by decide) ?_
        refine z_istore (lv' := [(5, .int (0 : Int32)), (0, zrv G.2.1 (some R)), (1, .int a1), (2, .int ((1 : Int32) <<< ((s 0 31) &&& 31))), (3, .int x2), (4, .int v9)]) dX6_layLoop_95 (by decide) rfl ?_
        refine z_as ?_
        refine z_at [1, 2, 3, 4, 5, 0] rfl ?_
        refine z_join (pc2 := 150) (lv2 := fun (q : Zr) => [(0, zrv G.2.1 (some R)), (1, .int a1), (2, .int ((1 : Int32) <<< ((s 0 31) &&& 31))), (3, .int x2), (4, .int v9)]) (st2 := fun _ => []) (h2 := fun (q : Zr) => zput R h0 q) (fun q => ?_) (fun F23 kF23 => ?_)
        · obtain ⟨s22, e0⟩ : ∃ z, z = q := ⟨_, rfl⟩
          subst e0
          try dsimp only
          refine z_iinc (j := 4) (v := v9 + (1 : Int32)) (lv' := [(4, .int (v9 + (1 : Int32))), (0, zrv G.2.1 (some R)), (1, .int a1), (2, .int ((1 : Int32) <<< ((s 0 31) &&& 31))), (3, .int x2)]) dX6_layLoop_150 rfl rfl (by decide) rfl ?_
          refine z_goto (tgt := 48) dX6_layLoop_153 (by decide) ?_
          refine z_sb ?_
          refine z_at [1, 2, 3, 4, 0] rfl ?_
          exact bK13 (v9 + (1 : Int32), s22)
        · refine z_loop (lvf := fun (q : Int32 × Zr) => [(0, zrv G.2.1 (some R)), (1, .int a1), (2, .int ((1 : Int32) <<< ((s 0 31) &&& 31))), (3, .int x2), (4, .int v9), (5, .int q.1)]) (hf2 := fun (q : Int32 × Zr) => zput R h0 q.2) (s0 := ((0 : Int32), s19)) (fun K24 bK24 rK24 q => ?_)
          obtain ⟨v20, s21⟩ := q
          try dsimp only
          refine z_iload (j := 5) dX6_layLoop_97 rfl ?_
          refine z_iload_n (j := 2) dX6_layLoop_99 rfl rfl ?_
          refine z_itb ?_
          refine z_icmp_ge (tgt := 150) dX6_layLoop_100 (by decide) (fun _ => ?_) (fun _ => ?_)
          · refine z_sb ?_
            refine z_eq (rK24 _) ?_
            refine z_at [0, 1, 2, 3, 4] rfl ?_
            exact kF23 s21
          · refine z_aload_n (j := 0) dX6_layLoop_103 rfl rfl ?_
            refine z_rgetA (k := 37) (a := 29) hF dX6_layLoop_104 (by decide) rfl zw813 rfl ?_
            refine z_iload (j := 5) dX6_layLoop_107 rfl ?_
            refine z_aload_n (j := 0) dX6_layLoop_109 rfl rfl ?_
            refine z_rgetA (k := 36) (a := 28) hF dX6_layLoop_110 (by decide) rfl zw812 rfl ?_
            refine z_iload (j := 5) dX6_layLoop_113 rfl ?_
            refine z_as ?_
            refine z_riald hF dX6_layLoop_115 (fun x25 => ?_)
            refine z_aload_n (j := 0) dX6_layLoop_116 rfl rfl ?_
            refine z_rgetA (k := 37) (a := 29) hF dX6_layLoop_117 (by decide) rfl zw813 rfl ?_
            refine z_iload (j := 5) dX6_layLoop_120 rfl ?_
            refine z_as ?_
            refine z_riald hF dX6_layLoop_122 (fun x26 => ?_)
            refine z_as ?_
            refine z_join (pc2 := 143) (lv2 := fun (q : Int32) => [(0, zrv G.2.1 (some R)), (1, .int a1), (2, .int ((1 : Int32) <<< ((s 0 31) &&& 31))), (3, .int x2), (4, .int v9), (5, .int v20)]) (st2 := fun (q : Int32) => [.int q, .int v20, zrv G.2.1 (some (R + 30))]) (h2 := fun (q : Int32) => zput R h0 s21) (fun q => ?_) (fun F28 kF28 => ?_)
            · obtain ⟨v27, e0⟩ : ∃ z, z = q := ⟨_, rfl⟩
              subst e0
              try dsimp only
              refine z_as ?_
              refine z_riast hF dX6_layLoop_143 (fun s31 => ?_)
              refine z_iinc (j := 5) (v := v20 + (1 : Int32)) (lv' := [(5, .int (v20 + (1 : Int32))), (0, zrv G.2.1 (some R)), (1, .int a1), (2, .int ((1 : Int32) <<< ((s 0 31) &&& 31))), (3, .int x2), (4, .int v9)]) dX6_layLoop_144 rfl rfl (by decide) rfl ?_
              refine z_goto (tgt := 97) dX6_layLoop_147 (by decide) ?_
              refine z_sb ?_
              refine z_at [1, 2, 3, 4, 5, 0] rfl ?_
              exact bK24 (v20 + (1 : Int32), s31)
            · refine z_itb ?_
              refine z_icmp_ge (tgt := 136) dX6_layLoop_123 (by decide) (fun _ => ?_) (fun _ => ?_)
              · refine z_aload_n (j := 0) dX6_layLoop_136 rfl rfl ?_
                refine z_rgetA (k := 37) (a := 29) hF dX6_layLoop_137 (by decide) rfl zw813 rfl ?_
                refine z_iload (j := 5) dX6_layLoop_140 rfl ?_
                refine z_as ?_
                refine z_riald hF dX6_layLoop_142 (fun x29 => ?_)
                refine z_sb ?_
                refine z_at [0, 1, 2, 3, 4, 5] rfl ?_
                exact kF28 x29
              · refine z_aload_n (j := 0) dX6_layLoop_126 rfl rfl ?_
                refine z_rgetA (k := 36) (a := 28) hF dX6_layLoop_127 (by decide) rfl zw812 rfl ?_
                refine z_iload (j := 5) dX6_layLoop_130 rfl ?_
                refine z_as ?_
                refine z_riald hF dX6_layLoop_132 (fun x30 => ?_)
                refine z_goto (tgt := 143) dX6_layLoop_133 (by decide) ?_
                refine z_sb ?_
                refine z_at [0, 1, 2, 3, 4, 5] rfl ?_
                exact kF28 x30
  · refine z_loop (lvf := fun (q : Int32 × Zr) => [(0, zrv G.2.1 (some R)), (1, .int a1), (2, .int ((1 : Int32) <<< ((s 0 31) &&& 31))), (3, .int x2), (4, .int q.1)]) (hf2 := fun (q : Int32 × Zr) => zput R h0 q.2) (s0 := ((0 : Int32), s)) (fun K7 bK7 rK7 q => ?_)
    obtain ⟨v3, s4⟩ := q
    try dsimp only
    refine z_iload (j := 4) dX6_layLoop_22 rfl ?_
    refine z_bipush (v := 64) dX6_layLoop_24 (by decide) ?_
    refine z_itb ?_
    refine z_icmp_ge (tgt := 45) dX6_layLoop_26 (by decide) (fun _ => ?_) (fun _ => ?_)
    · refine z_sb ?_
      refine z_eq (rK7 _) ?_
      refine z_at [0, 1, 2, 3] rfl ?_
      exact kF6 s4
    · refine z_aload_n (j := 0) dX6_layLoop_29 rfl rfl ?_
      refine z_rgetA (k := 37) (a := 29) hF dX6_layLoop_30 (by decide) rfl zw813 rfl ?_
      refine z_iload (j := 4) dX6_layLoop_33 rfl ?_
      refine z_ldcw (v := 100000) dX6_layLoop_35 zw1118 ?_
      refine z_as ?_
      refine z_riast hF dX6_layLoop_38 (fun s8 => ?_)
      refine z_iinc (j := 4) (v := v3 + (1 : Int32)) (lv' := [(4, .int (v3 + (1 : Int32))), (0, zrv G.2.1 (some R)), (1, .int a1), (2, .int ((1 : Int32) <<< ((s 0 31) &&& 31))), (3, .int x2)]) dX6_layLoop_39 rfl rfl (by decide) rfl ?_
      refine z_goto (tgt := 22) dX6_layLoop_42 (by decide) ?_
      refine z_sb ?_
      refine z_at [1, 2, 3, 4, 0] rfl ?_
      exact bK7 (v3 + (1 : Int32), s8)
def fX6_layNode (s : Zr) (a1 : Int32) : Option (Zr) :=
  (zloop (fun ((v1, s2) : Int32 × Zr) =>
    (if (64 : Int32) ≤ v1 then
      some (.inr s2)
    else
      (wrI s2 29 v1 (100000 : Int32)).bind fun s6 =>
      some (.inl (v1 + (1 : Int32), s6)) : Option ((Int32 × Zr) ⊕ Zr))) zFU ((0 : Int32), s)).bind fun (s3 : Zr) =>
  (rdI s3 13 a1).bind fun x7 =>
  (if x7 = 0 then
    (wrI s3 29 (0 : Int32) (1 : Int32)).bind fun s10 =>
    (zloop (fun ((v11, s12) : Int32 × Zr) =>
      (if (s12 0 31) ≤ v11 then
        some (.inr s12)
      else
        (rdI s12 25 v11).bind fun x16 =>
        (rdI s12 14 a1).bind fun x17 =>
        (if x16 = x17 then
          some (0 : Int32)
        else
          some (100000 : Int32)).bind fun (v18 : Int32) =>
        (wrI s12 29 ((1 : Int32) <<< (v11 &&& 31)) v18).bind fun s20 =>
        some (.inl (v11 + (1 : Int32), s20)) : Option ((Int32 × Zr) ⊕ Zr))) zFU ((0 : Int32), s10)).bind fun (s13 : Zr) =>
    some s13
  else
    (rdI s3 13 a1).bind fun x21 =>
    if x21 = (1 : Int32) then
      (wrI s3 29 (0 : Int32) (0 : Int32)).bind fun s22 =>
      some s22
    else
      (rdI s3 13 a1).bind fun x23 =>
      if x23 = (5 : Int32) then
        (fX6_layLoop s3 a1).bind fun s24 =>
        some s24
      else
        (rdI s3 15 a1).bind fun x25 =>
        (rdI s3 17 x25).bind fun x26 =>
        (fX6_copySet s3 29 x26).bind fun s27 =>
        (zloop (fun ((v28, s29) : Int32 × Zr) =>
          ((rdI s29 16 a1).bind fun x33 =>
          if x33 ≤ v28 then
            some (.inr s29)
          else
            (zloop (fun ((v34, s35) : Int32 × Zr) =>
              (if (64 : Int32) ≤ v34 then
                some (.inr s35)
              else
                (rdI s35 29 v34).bind fun x39 =>
                (wrI s35 27 v34 x39).bind fun s40 =>
                some (.inl (v34 + (1 : Int32), s40)) : Option ((Int32 × Zr) ⊕ Zr))) zFU ((0 : Int32), s29)).bind fun (s36 : Zr) =>
            (rdI s36 15 a1).bind fun x41 =>
            (rdI s36 17 (x41 + v28)).bind fun x42 =>
            (fX6_copySet s36 28 x42).bind fun s43 =>
            (rdI s43 13 a1).bind fun x44 =>
            (if x44 = (2 : Int32) then
              (fX6_behind s43).bind fun s47 =>
              some s47
            else
              (rdI s43 13 a1).bind fun x48 =>
              if x48 = (4 : Int32) then
                (fX6_beside s43).bind fun s49 =>
                some s49
              else
                (fX6_either s43).bind fun s50 =>
                some s50).bind fun (s45 : Zr) =>
            some (.inl (v28 + (1 : Int32), s45)) : Option ((Int32 × Zr) ⊕ Zr))) zFU ((1 : Int32), s27)).bind fun (s30 : Zr) =>
        some s30).bind fun (s8 : Zr) =>
  (zloop (fun ((v51, s52) : Int32 × Zr) =>
    (if (64 : Int32) ≤ v51 then
      some (.inr s52)
    else
      (rdI s52 29 v51).bind fun x56 =>
      (if x56 ≤ (100000 : Int32) then
        (rdI s52 29 v51).bind fun x59 =>
        some x59
      else
        some (100000 : Int32)).bind fun (v57 : Int32) =>
      (wrI s52 26 (((64 : Int32) * a1) + v51) v57).bind fun s60 =>
      some (.inl (v51 + (1 : Int32), s60)) : Option ((Int32 × Zr) ⊕ Zr))) zFU ((0 : Int32), s8)).bind fun (s53 : Zr) =>
  some s53
set_option maxRecDepth 100000 in
set_option maxHeartbeats 4000000 in
theorem kX6_layNode (G : Zg) (R : Nat) (h0 : Zh) (hF : zRF R h0) (s : Zr) (a1 : Int32) {x : Zr} (hx : fX6_layNode s a1 = some x) : zCt G yX6_layNode cX6_layNode 4 (Option.none : Option Jvm.ClassFile.FieldType) 3 [zrv G.2.1 (some R), .int a1] (zput R h0 s) none (zput R h0 x) := by
  refine z_met (a := x) (rvf := fun (_ : Zr) => none) (hff := fun (x : Zr) => zput R h0 x) (lv := [(0, zrv G.2.1 (some R)), (1, .int a1)]) (by decide +kernel) (by simp [lg_sl, zcat1, zcI, zcJ]) (by simp [lv_args, zcat1, zcI, zcJ]) ?_ hx
  unfold fX6_layNode
  refine z_iconst (v := 0) dX6_layNode_0 (by decide) ?_
  refine z_istore_n (lv' := [(2, .int (0 : Int32)), (0, zrv G.2.1 (some R)), (1, .int a1)]) dX6_layNode_1 rfl (by decide) rfl ?_
  refine z_at [1, 2, 0] rfl ?_
  refine z_join (pc2 := 23) (lv2 := fun (q : Zr) => [(0, zrv G.2.1 (some R)), (1, .int a1)]) (st2 := fun _ => []) (h2 := fun (q : Zr) => zput R h0 q) (fun q => ?_) (fun F4 kF4 => ?_)
  · obtain ⟨s3, e0⟩ : ∃ z, z = q := ⟨_, rfl⟩
    subst e0
    try dsimp only
    refine z_aload_n (j := 0) dX6_layNode_23 rfl rfl ?_
    refine z_rgetA (k := 16) (a := 12) hF dX6_layNode_24 (by decide) rfl zw792 rfl ?_
    refine z_iload_n (j := 1) dX6_layNode_27 rfl rfl ?_
    refine z_riald hF dX6_layNode_28 (fun x7 => ?_)
    refine z_join (pc2 := 248) (lv2 := fun (q : Zr) => [(0, zrv G.2.1 (some R)), (1, .int a1)]) (st2 := fun (q : Zr) => []) (h2 := fun (q : Zr) => zput R h0 q) (fun q => ?_) (fun F9 kF9 => ?_)
    · obtain ⟨s8, e0⟩ : ∃ z, z = q := ⟨_, rfl⟩
      subst e0
      try dsimp only
      refine z_iconst (v := 0) dX6_layNode_248 (by decide) ?_
      refine z_istore_n (lv' := [(2, .int (0 : Int32)), (0, zrv G.2.1 (some R)), (1, .int a1)]) dX6_layNode_249 rfl (by decide) rfl ?_
      refine z_at [1, 2, 0] rfl ?_
      refine z_join (pc2 := 297) (lv2 := fun (q : Zr) => []) (st2 := fun _ => []) (h2 := fun (q : Zr) => zput R h0 q) (fun q => ?_) (fun F54 kF54 => ?_)
      · obtain ⟨s53, e0⟩ : ∃ z, z = q := ⟨_, rfl⟩
        subst e0
        try dsimp only
        exact z_vret dX6_layNode_297 rfl rfl rfl
      · refine z_loop (lvf := fun (q : Int32 × Zr) => [(0, zrv G.2.1 (some R)), (1, .int a1), (2, .int q.1)]) (hf2 := fun (q : Int32 × Zr) => zput R h0 q.2) (s0 := ((0 : Int32), s8)) (fun K55 bK55 rK55 q => ?_)
        obtain ⟨v51, s52⟩ := q
        try dsimp only
        refine z_iload_n (j := 2) dX6_layNode_250 rfl rfl ?_
        refine z_bipush (v := 64) dX6_layNode_251 (by decide) ?_
        refine z_itb ?_
        refine z_icmp_ge (tgt := 297) dX6_layNode_253 (by decide) (fun _ => ?_) (fun _ => ?_)
        · refine z_sb ?_
          refine z_eq (rK55 _) ?_
          refine z_at [] rfl ?_
          exact kF54 s52
        · refine z_aload_n (j := 0) dX6_layNode_256 rfl rfl ?_
          refine z_rgetA (k := 33) (a := 25) hF dX6_layNode_257 (by decide) rfl zw809 rfl ?_
          refine z_bipush (v := 64) dX6_layNode_260 (by decide) ?_
          refine z_iload_n (j := 1) dX6_layNode_262 rfl rfl ?_
          refine z_imul dX6_layNode_263 ?_
          refine z_iload_n (j := 2) dX6_layNode_264 rfl rfl ?_
          refine z_iadd dX6_layNode_265 ?_
          refine z_aload_n (j := 0) dX6_layNode_266 rfl rfl ?_
          refine z_rgetA (k := 36) (a := 28) hF dX6_layNode_267 (by decide) rfl zw812 rfl ?_
          refine z_iload_n (j := 2) dX6_layNode_270 rfl rfl ?_
          refine z_as ?_
          refine z_riald hF dX6_layNode_271 (fun x56 => ?_)
          refine z_ldcw (v := 100000) dX6_layNode_272 zw1118 ?_
          refine z_as ?_
          refine z_join (pc2 := 290) (lv2 := fun (q : Int32) => [(0, zrv G.2.1 (some R)), (1, .int a1), (2, .int v51)]) (st2 := fun (q : Int32) => [.int q, .int (((64 : Int32) * a1) + v51), zrv G.2.1 (some (R + 26))]) (h2 := fun (q : Int32) => zput R h0 s52) (fun q => ?_) (fun F58 kF58 => ?_)
          · obtain ⟨v57, e0⟩ : ∃ z, z = q := ⟨_, rfl⟩
            subst e0
            try dsimp only
            refine z_as ?_
            refine z_riast hF dX6_layNode_290 (fun s60 => ?_)
            refine z_iinc (j := 2) (v := v51 + (1 : Int32)) (lv' := [(2, .int (v51 + (1 : Int32))), (0, zrv G.2.1 (some R)), (1, .int a1)]) dX6_layNode_291 rfl rfl (by decide) rfl ?_
            refine z_goto (tgt := 250) dX6_layNode_294 (by decide) ?_
            refine z_sb ?_
            refine z_at [1, 2, 0] rfl ?_
            exact bK55 (v51 + (1 : Int32), s60)
          · refine z_itb ?_
            refine z_icmp_le (tgt := 284) dX6_layNode_275 (by decide) (fun _ => ?_) (fun _ => ?_)
            · refine z_aload_n (j := 0) dX6_layNode_284 rfl rfl ?_
              refine z_rgetA (k := 36) (a := 28) hF dX6_layNode_285 (by decide) rfl zw812 rfl ?_
              refine z_iload_n (j := 2) dX6_layNode_288 rfl rfl ?_
              refine z_as ?_
              refine z_riald hF dX6_layNode_289 (fun x59 => ?_)
              refine z_sb ?_
              refine z_at [0, 1, 2] rfl ?_
              exact kF58 x59
            · refine z_ldcw (v := 100000) dX6_layNode_278 zw1118 ?_
              refine z_goto (tgt := 290) dX6_layNode_281 (by decide) ?_
              refine z_sb ?_
              refine z_at [0, 1, 2] rfl ?_
              exact kF58 (100000 : Int32)
    · refine z_itb ?_
      refine z_if_ne (tgt := 88) dX6_layNode_29 (by decide) (fun _ => ?_) (fun _ => ?_)
      · refine z_aload_n (j := 0) dX6_layNode_32 rfl rfl ?_
        refine z_rgetA (k := 36) (a := 28) hF dX6_layNode_33 (by decide) rfl zw812 rfl ?_
        refine z_iconst (v := 0) dX6_layNode_36 (by decide) ?_
        refine z_iconst (v := 1) dX6_layNode_37 (by decide) ?_
        refine z_as ?_
        refine z_riast hF dX6_layNode_38 (fun s10 => ?_)
        refine z_iconst (v := 0) dX6_layNode_39 (by decide) ?_
        refine z_istore_n (lv' := [(2, .int (0 : Int32)), (0, zrv G.2.1 (some R)), (1, .int a1)]) dX6_layNode_40 rfl (by decide) rfl ?_
        refine z_as ?_
        refine z_at [1, 2, 0] rfl ?_
        refine z_join (pc2 := 85) (lv2 := fun (q : Zr) => [(0, zrv G.2.1 (some R)), (1, .int a1)]) (st2 := fun _ => []) (h2 := fun (q : Zr) => zput R h0 q) (fun q => ?_) (fun F14 kF14 => ?_)
        · obtain ⟨s13, e0⟩ : ∃ z, z = q := ⟨_, rfl⟩
          subst e0
          try dsimp only
          refine z_goto (tgt := 248) dX6_layNode_85 (by decide) ?_
          refine z_sb ?_
          refine z_at [0, 1] rfl ?_
          exact kF9 s13
        · refine z_loop (lvf := fun (q : Int32 × Zr) => [(0, zrv G.2.1 (some R)), (1, .int a1), (2, .int q.1)]) (hf2 := fun (q : Int32 × Zr) => zput R h0 q.2) (s0 := ((0 : Int32), s10)) (fun K15 bK15 rK15 q => ?_)
          obtain ⟨v11, s12⟩ := q
          try dsimp only
          refine z_iload_n (j := 2) dX6_layNode_41 rfl rfl ?_
          refine z_aload_n (j := 0) dX6_layNode_42 rfl rfl ?_
          refine z_rgetI (k := 31) hF dX6_layNode_43 (by decide) rfl zw807 ?_
          refine z_itb ?_
          refine z_icmp_ge (tgt := 85) dX6_layNode_46 (by decide) (fun _ => ?_) (fun _ => ?_)
          · refine z_sb ?_
            refine z_eq (rK15 _) ?_
            refine z_at [0, 1] rfl ?_
            exact kF14 s12
          · refine z_aload_n (j := 0) dX6_layNode_49 rfl rfl ?_
            refine z_rgetA (k := 36) (a := 28) hF dX6_layNode_50 (by decide) rfl zw812 rfl ?_
            refine z_iconst (v := 1) dX6_layNode_53 (by decide) ?_
            refine z_iload_n (j := 2) dX6_layNode_54 rfl rfl ?_
            refine z_ishl dX6_layNode_55 ?_
            refine z_aload_n (j := 0) dX6_layNode_56 rfl rfl ?_
            refine z_rgetA (k := 32) (a := 24) hF dX6_layNode_57 (by decide) rfl zw808 rfl ?_
            refine z_iload_n (j := 2) dX6_layNode_60 rfl rfl ?_
            refine z_as ?_
            refine z_riald hF dX6_layNode_61 (fun x16 => ?_)
            refine z_aload_n (j := 0) dX6_layNode_62 rfl rfl ?_
            refine z_rgetA (k := 17) (a := 13) hF dX6_layNode_63 (by decide) rfl zw793 rfl ?_
            refine z_iload_n (j := 1) dX6_layNode_66 rfl rfl ?_
            refine z_as ?_
            refine z_riald hF dX6_layNode_67 (fun x17 => ?_)
            refine z_as ?_
            refine z_join (pc2 := 78) (lv2 := fun (q : Int32) => [(0, zrv G.2.1 (some R)), (1, .int a1), (2, .int v11)]) (st2 := fun (q : Int32) => [.int q, .int ((1 : Int32) <<< (v11 &&& 31)), zrv G.2.1 (some (R + 29))]) (h2 := fun (q : Int32) => zput R h0 s12) (fun q => ?_) (fun F19 kF19 => ?_)
            · obtain ⟨v18, e0⟩ : ∃ z, z = q := ⟨_, rfl⟩
              subst e0
              try dsimp only
              refine z_as ?_
              refine z_riast hF dX6_layNode_78 (fun s20 => ?_)
              refine z_iinc (j := 2) (v := v11 + (1 : Int32)) (lv' := [(2, .int (v11 + (1 : Int32))), (0, zrv G.2.1 (some R)), (1, .int a1)]) dX6_layNode_79 rfl rfl (by decide) rfl ?_
              refine z_goto (tgt := 41) dX6_layNode_82 (by decide) ?_
              refine z_sb ?_
              refine z_at [1, 2, 0] rfl ?_
              exact bK15 (v11 + (1 : Int32), s20)
            · refine z_itb ?_
              refine z_icmp_ne (tgt := 75) dX6_layNode_68 (by decide) (fun _ => ?_) (fun _ => ?_)
              · refine z_iconst (v := 0) dX6_layNode_71 (by decide) ?_
                refine z_goto (tgt := 78) dX6_layNode_72 (by decide) ?_
                refine z_sb ?_
                refine z_at [0, 1, 2] rfl ?_
                exact kF19 (0 : Int32)
              · refine z_ldcw (v := 100000) dX6_layNode_75 zw1118 ?_
                refine z_sb ?_
                refine z_at [0, 1, 2] rfl ?_
                exact kF19 (100000 : Int32)
      · refine z_aload_n (j := 0) dX6_layNode_88 rfl rfl ?_
        refine z_rgetA (k := 16) (a := 12) hF dX6_layNode_89 (by decide) rfl zw792 rfl ?_
        refine z_iload_n (j := 1) dX6_layNode_92 rfl rfl ?_
        refine z_as ?_
        refine z_riald hF dX6_layNode_93 (fun x21 => ?_)
        refine z_iconst (v := 1) dX6_layNode_94 (by decide) ?_
        refine z_itb ?_
        refine z_icmp_ne (tgt := 108) dX6_layNode_95 (by decide) (fun _ => ?_) (fun _ => ?_)
        · refine z_aload_n (j := 0) dX6_layNode_98 rfl rfl ?_
          refine z_rgetA (k := 36) (a := 28) hF dX6_layNode_99 (by decide) rfl zw812 rfl ?_
          refine z_iconst (v := 0) dX6_layNode_102 (by decide) ?_
          refine z_iconst (v := 0) dX6_layNode_103 (by decide) ?_
          refine z_as ?_
          refine z_riast hF dX6_layNode_104 (fun s22 => ?_)
          refine z_goto (tgt := 248) dX6_layNode_105 (by decide) ?_
          refine z_sb ?_
          refine z_at [0, 1] rfl ?_
          exact kF9 s22
        · refine z_aload_n (j := 0) dX6_layNode_108 rfl rfl ?_
          refine z_rgetA (k := 16) (a := 12) hF dX6_layNode_109 (by decide) rfl zw792 rfl ?_
          refine z_iload_n (j := 1) dX6_layNode_112 rfl rfl ?_
          refine z_as ?_
          refine z_riald hF dX6_layNode_113 (fun x23 => ?_)
          refine z_iconst (v := 5) dX6_layNode_114 (by decide) ?_
          refine z_itb ?_
          refine z_icmp_ne (tgt := 126) dX6_layNode_115 (by decide) (fun _ => ?_) (fun _ => ?_)
          · refine z_aload_n (j := 0) dX6_layNode_118 rfl rfl ?_
            refine z_iload_n (j := 1) dX6_layNode_119 rfl rfl ?_
            refine z_as ?_
            refine z_callV (As := [.int a1]) (rest := []) (rv2 := fun (_ : Zr) => none) (h2 := fun (x : Zr) => zput R h0 x) dX6_layNode_120 vX6_layLoop (.inl zw1119) (by decide) zkl7 (zRrecv hF).1 (zRrecv hF).2 rfl rfl (by decide) (fun x hx => kX6_layLoop G R h0 hF s3 a1 hx) (fun s24 => ?_)
            try dsimp only [Option.toList, List.cons_append, List.nil_append]
            refine z_goto (tgt := 248) dX6_layNode_123 (by decide) ?_
            refine z_sb ?_
            refine z_at [0, 1] rfl ?_
            exact kF9 s24
          · refine z_aload_n (j := 0) dX6_layNode_126 rfl rfl ?_
            refine z_aload_n (j := 0) dX6_layNode_127 rfl rfl ?_
            refine z_rgetA (k := 36) (a := 28) hF dX6_layNode_128 (by decide) rfl zw812 rfl ?_
            refine z_aload_n (j := 0) dX6_layNode_131 rfl rfl ?_
            refine z_rgetA (k := 21) (a := 16) hF dX6_layNode_132 (by decide) rfl zw797 rfl ?_
            refine z_aload_n (j := 0) dX6_layNode_135 rfl rfl ?_
            refine z_rgetA (k := 18) (a := 14) hF dX6_layNode_136 (by decide) rfl zw794 rfl ?_
            refine z_iload_n (j := 1) dX6_layNode_139 rfl rfl ?_
            refine z_as ?_
            refine z_riald hF dX6_layNode_140 (fun x25 => ?_)
            refine z_as ?_
            refine z_riald hF dX6_layNode_141 (fun x26 => ?_)
            refine z_as ?_
            refine z_callV (As := [zrv G.2.1 (some (R + 29)), .int x26]) (rest := []) (rv2 := fun (_ : Zr) => none) (h2 := fun (x : Zr) => zput R h0 x) dX6_layNode_142 vX6_copySet (.inl zw1123) (by decide) zkl7 (zRrecv hF).1 (zRrecv hF).2 rfl rfl (by decide) (fun x hx => kX6_copySet G R h0 hF s3 29 x26 hx) (fun s27 => ?_)
            try dsimp only [Option.toList, List.cons_append, List.nil_append]
            refine z_iconst (v := 1) dX6_layNode_145 (by decide) ?_
            refine z_istore_n (lv' := [(2, .int (1 : Int32)), (0, zrv G.2.1 (some R)), (1, .int a1)]) dX6_layNode_146 rfl (by decide) rfl ?_
            refine z_as ?_
            refine z_at [1, 2, 0] rfl ?_
            refine z_join (pc2 := 248) (lv2 := fun (q : Zr) => [(0, zrv G.2.1 (some R)), (1, .int a1)]) (st2 := fun _ => []) (h2 := fun (q : Zr) => zput R h0 q) (fun q => ?_) (fun F31 kF31 => ?_)
            · obtain ⟨s30, e0⟩ : ∃ z, z = q := ⟨_, rfl⟩
              subst e0
              try dsimp only
              refine z_sb ?_
              refine z_at [0, 1] rfl ?_
              exact kF9 s30
            · refine z_loop (lvf := fun (q : Int32 × Zr) => [(0, zrv G.2.1 (some R)), (1, .int a1), (2, .int q.1)]) (hf2 := fun (q : Int32 × Zr) => zput R h0 q.2) (s0 := ((1 : Int32), s27)) (fun K32 bK32 rK32 q => ?_)
              obtain ⟨v28, s29⟩ := q
              try dsimp only
              refine z_iload_n (j := 2) dX6_layNode_147 rfl rfl ?_
              refine z_aload_n (j := 0) dX6_layNode_148 rfl rfl ?_
              refine z_rgetA (k := 19) (a := 15) hF dX6_layNode_149 (by decide) rfl zw795 rfl ?_
              refine z_iload_n (j := 1) dX6_layNode_152 rfl rfl ?_
              refine z_as ?_
              refine z_riald hF dX6_layNode_153 (fun x33 => ?_)
              refine z_itb ?_
              refine z_icmp_ge (tgt := 248) dX6_layNode_154 (by decide) (fun _ => ?_) (fun _ => ?_)
              · refine z_sb ?_
                refine z_eq (rK32 _) ?_
                refine z_at [0, 1] rfl ?_
                exact kF31 s29
              · refine z_iconst (v := 0) dX6_layNode_157 (by decide) ?_
                refine z_istore_n (lv' := [(3, .int (0 : Int32)), (0, zrv G.2.1 (some R)), (1, .int a1), (2, .int v28)]) dX6_layNode_158 rfl (by decide) rfl ?_
                refine z_as ?_
                refine z_at [1, 2, 3, 0] rfl ?_
                refine z_join (pc2 := 183) (lv2 := fun (q : Zr) => [(0, zrv G.2.1 (some R)), (1, .int a1), (2, .int v28)]) (st2 := fun _ => []) (h2 := fun (q : Zr) => zput R h0 q) (fun q => ?_) (fun F37 kF37 => ?_)
                · obtain ⟨s36, e0⟩ : ∃ z, z = q := ⟨_, rfl⟩
                  subst e0
                  try dsimp only
                  refine z_aload_n (j := 0) dX6_layNode_183 rfl rfl ?_
                  refine z_aload_n (j := 0) dX6_layNode_184 rfl rfl ?_
                  refine z_rgetA (k := 35) (a := 27) hF dX6_layNode_185 (by decide) rfl zw811 rfl ?_
                  refine z_aload_n (j := 0) dX6_layNode_188 rfl rfl ?_
                  refine z_rgetA (k := 21) (a := 16) hF dX6_layNode_189 (by decide) rfl zw797 rfl ?_
                  refine z_aload_n (j := 0) dX6_layNode_192 rfl rfl ?_
                  refine z_rgetA (k := 18) (a := 14) hF dX6_layNode_193 (by decide) rfl zw794 rfl ?_
                  refine z_iload_n (j := 1) dX6_layNode_196 rfl rfl ?_
                  refine z_as ?_
                  refine z_riald hF dX6_layNode_197 (fun x41 => ?_)
                  refine z_iload_n (j := 2) dX6_layNode_198 rfl rfl ?_
                  refine z_iadd dX6_layNode_199 ?_
                  refine z_as ?_
                  refine z_riald hF dX6_layNode_200 (fun x42 => ?_)
                  refine z_as ?_
                  refine z_callV (As := [zrv G.2.1 (some (R + 28)), .int x42]) (rest := []) (rv2 := fun (_ : Zr) => none) (h2 := fun (x : Zr) => zput R h0 x) dX6_layNode_201 vX6_copySet (.inl zw1123) (by decide) zkl7 (zRrecv hF).1 (zRrecv hF).2 rfl rfl (by decide) (fun x hx => kX6_copySet G R h0 hF s36 28 x42 hx) (fun s43 => ?_)
                  try dsimp only [Option.toList, List.cons_append, List.nil_append]
                  refine z_aload_n (j := 0) dX6_layNode_204 rfl rfl ?_
                  refine z_rgetA (k := 16) (a := 12) hF dX6_layNode_205 (by decide) rfl zw792 rfl ?_
                  refine z_iload_n (j := 1) dX6_layNode_208 rfl rfl ?_
                  refine z_as ?_
                  refine z_riald hF dX6_layNode_209 (fun x44 => ?_)
                  refine z_iconst (v := 2) dX6_layNode_210 (by decide) ?_
                  refine z_as ?_
                  refine z_join (pc2 := 242) (lv2 := fun (q : Zr) => [(0, zrv G.2.1 (some R)), (1, .int a1), (2, .int v28)]) (st2 := fun (q : Zr) => []) (h2 := fun (q : Zr) => zput R h0 q) (fun q => ?_) (fun F46 kF46 => ?_)
                  · obtain ⟨s45, e0⟩ : ∃ z, z = q := ⟨_, rfl⟩
                    subst e0
                    try dsimp only
                    refine z_iinc (j := 2) (v := v28 + (1 : Int32)) (lv' := [(2, .int (v28 + (1 : Int32))), (0, zrv G.2.1 (some R)), (1, .int a1)]) dX6_layNode_242 rfl rfl (by decide) rfl ?_
                    refine z_goto (tgt := 147) dX6_layNode_245 (by decide) ?_
                    refine z_sb ?_
                    refine z_at [1, 2, 0] rfl ?_
                    exact bK32 (v28 + (1 : Int32), s45)
                  · refine z_itb ?_
                    refine z_icmp_ne (tgt := 221) dX6_layNode_211 (by decide) (fun _ => ?_) (fun _ => ?_)
                    · refine z_aload_n (j := 0) dX6_layNode_214 rfl rfl ?_
                      refine z_as ?_
                      refine z_callV (As := []) (rest := []) (rv2 := fun (_ : Zr) => none) (h2 := fun (x : Zr) => zput R h0 x) dX6_layNode_215 vX6_behind (.inl zw1127) (by decide) zkl7 (zRrecv hF).1 (zRrecv hF).2 rfl rfl (by decide) (fun x hx => kX6_behind G R h0 hF s43 hx) (fun s47 => ?_)
                      try dsimp only [Option.toList, List.cons_append, List.nil_append]
                      refine z_goto (tgt := 242) dX6_layNode_218 (by decide) ?_
                      refine z_sb ?_
                      refine z_at [0, 1, 2] rfl ?_
                      exact kF46 s47
                    · refine z_aload_n (j := 0) dX6_layNode_221 rfl rfl ?_
                      refine z_rgetA (k := 16) (a := 12) hF dX6_layNode_222 (by decide) rfl zw792 rfl ?_
                      refine z_iload_n (j := 1) dX6_layNode_225 rfl rfl ?_
                      refine z_as ?_
                      refine z_riald hF dX6_layNode_226 (fun x48 => ?_)
                      refine z_iconst (v := 4) dX6_layNode_227 (by decide) ?_
                      refine z_itb ?_
                      refine z_icmp_ne (tgt := 238) dX6_layNode_228 (by decide) (fun _ => ?_) (fun _ => ?_)
                      · refine z_aload_n (j := 0) dX6_layNode_231 rfl rfl ?_
                        refine z_as ?_
                        refine z_callV (As := []) (rest := []) (rv2 := fun (_ : Zr) => none) (h2 := fun (x : Zr) => zput R h0 x) dX6_layNode_232 vX6_beside (.inl zw1131) (by decide) zkl7 (zRrecv hF).1 (zRrecv hF).2 rfl rfl (by decide) (fun x hx => kX6_beside G R h0 hF s43 hx) (fun s49 => ?_)
                        try dsimp only [Option.toList, List.cons_append, List.nil_append]
                        refine z_goto (tgt := 242) dX6_layNode_235 (by decide) ?_
                        refine z_sb ?_
                        refine z_at [0, 1, 2] rfl ?_
                        exact kF46 s49
                      · refine z_aload_n (j := 0) dX6_layNode_238 rfl rfl ?_
                        refine z_as ?_
                        refine z_callV (As := []) (rest := []) (rv2 := fun (_ : Zr) => none) (h2 := fun (x : Zr) => zput R h0 x) dX6_layNode_239 vX6_either (.inl zw1135) (by decide) zkl7 (zRrecv hF).1 (zRrecv hF).2 rfl rfl (by decide) (fun x hx => kX6_either G R h0 hF s43 hx) (fun s50 => ?_)
                        try dsimp only [Option.toList, List.cons_append, List.nil_append]
                        refine z_sb ?_
                        refine z_at [0, 1, 2] rfl ?_
                        exact kF46 s50
                · refine z_loop (lvf := fun (q : Int32 × Zr) => [(0, zrv G.2.1 (some R)), (1, .int a1), (2, .int v28), (3, .int q.1)]) (hf2 := fun (q : Int32 × Zr) => zput R h0 q.2) (s0 := ((0 : Int32), s29)) (fun K38 bK38 rK38 q => ?_)
                  obtain ⟨v34, s35⟩ := q
                  try dsimp only
                  refine z_iload_n (j := 3) dX6_layNode_159 rfl rfl ?_
                  refine z_bipush (v := 64) dX6_layNode_160 (by decide) ?_
                  refine z_itb ?_
                  refine z_icmp_ge (tgt := 183) dX6_layNode_162 (by decide) (fun _ => ?_) (fun _ => ?_)
                  · refine z_sb ?_
                    refine z_eq (rK38 _) ?_
                    refine z_at [0, 1, 2] rfl ?_
                    exact kF37 s35
                  · refine z_aload_n (j := 0) dX6_layNode_165 rfl rfl ?_
                    refine z_rgetA (k := 34) (a := 26) hF dX6_layNode_166 (by decide) rfl zw810 rfl ?_
                    refine z_iload_n (j := 3) dX6_layNode_169 rfl rfl ?_
                    refine z_aload_n (j := 0) dX6_layNode_170 rfl rfl ?_
                    refine z_rgetA (k := 36) (a := 28) hF dX6_layNode_171 (by decide) rfl zw812 rfl ?_
                    refine z_iload_n (j := 3) dX6_layNode_174 rfl rfl ?_
                    refine z_as ?_
                    refine z_riald hF dX6_layNode_175 (fun x39 => ?_)
                    refine z_as ?_
                    refine z_riast hF dX6_layNode_176 (fun s40 => ?_)
                    refine z_iinc (j := 3) (v := v34 + (1 : Int32)) (lv' := [(3, .int (v34 + (1 : Int32))), (0, zrv G.2.1 (some R)), (1, .int a1), (2, .int v28)]) dX6_layNode_177 rfl rfl (by decide) rfl ?_
                    refine z_goto (tgt := 159) dX6_layNode_180 (by decide) ?_
                    refine z_sb ?_
                    refine z_at [1, 2, 3, 0] rfl ?_
                    exact bK38 (v34 + (1 : Int32), s40)
  · refine z_loop (lvf := fun (q : Int32 × Zr) => [(0, zrv G.2.1 (some R)), (1, .int a1), (2, .int q.1)]) (hf2 := fun (q : Int32 × Zr) => zput R h0 q.2) (s0 := ((0 : Int32), s)) (fun K5 bK5 rK5 q => ?_)
    obtain ⟨v1, s2⟩ := q
    try dsimp only
    refine z_iload_n (j := 2) dX6_layNode_2 rfl rfl ?_
    refine z_bipush (v := 64) dX6_layNode_3 (by decide) ?_
    refine z_itb ?_
    refine z_icmp_ge (tgt := 23) dX6_layNode_5 (by decide) (fun _ => ?_) (fun _ => ?_)
    · refine z_sb ?_
      refine z_eq (rK5 _) ?_
      refine z_at [0, 1] rfl ?_
      exact kF4 s2
    · refine z_aload_n (j := 0) dX6_layNode_8 rfl rfl ?_
      refine z_rgetA (k := 36) (a := 28) hF dX6_layNode_9 (by decide) rfl zw812 rfl ?_
      refine z_iload_n (j := 2) dX6_layNode_12 rfl rfl ?_
      refine z_ldcw (v := 100000) dX6_layNode_13 zw1118 ?_
      refine z_as ?_
      refine z_riast hF dX6_layNode_16 (fun s6 => ?_)
      refine z_iinc (j := 2) (v := v1 + (1 : Int32)) (lv' := [(2, .int (v1 + (1 : Int32))), (0, zrv G.2.1 (some R)), (1, .int a1)]) dX6_layNode_17 rfl rfl (by decide) rfl ?_
      refine z_goto (tgt := 2) dX6_layNode_20 (by decide) ?_
      refine z_sb ?_
      refine z_at [1, 2, 0] rfl ?_
      exact bK5 (v1 + (1 : Int32), s6)
def fX6_lay (s : Zr) (a1 : Int32) (a2 : Int32) : Option (Zr) :=
  (some (u2 s 0 31 a1)).bind fun s1 =>
  (fX6_clearTree s1).bind fun s2 =>
  (fX6_expand s2 a2).bind fun ((x3, s4) : Int32 × Zr) =>
  (zloop (fun ((v5, s6) : Int32 × Zr) =>
    (if v5 < 0 then
      some (.inr s6)
    else
      (fX6_layNode s6 v5).bind fun s10 =>
      some (.inl (v5 + (-1 : Int32), s10)) : Option ((Int32 × Zr) ⊕ Zr))) zFU ((s4 0 15) - (1 : Int32), s4)).bind fun (s7 : Zr) =>
  (some (u2 s7 0 38 (100000 : Int32))).bind fun s11 =>
  (some (u2 s11 0 39 (0 : Int32))).bind fun s12 =>
  (zloop (fun ((v13, s14) : Int32 × Zr) =>
    (if ((1 : Int32) <<< (a1 &&& 31)) ≤ v13 then
      some (.inr s14)
    else
      (zloop (fun ((v18, v19, v20) : Int32 × Int32 × Int32) =>
        (if a1 ≤ v20 then
          some (.inr (v18, v19))
        else
          (some (v19 + (((v13 >>> (v20 &&& 31)) &&& (1 : Int32)) * ((32 : Int32) >>> (v20 &&& 31))))).bind fun v25 =>
          some (.inl (v18 + ((v13 >>> (v20 &&& 31)) &&& (1 : Int32)), v25, v20 + (1 : Int32))) : Option ((Int32 × Int32 × Int32) ⊕ (Int32 × Int32)))) zFU ((0 : Int32), (0 : Int32), (0 : Int32))).bind fun ((w21, w22) : Int32 × Int32) =>
      (rdI s14 26 (((64 : Int32) * x3) + v13)).bind fun x26 =>
      (if ((x26 + a1) - w21) < (s14 0 38) then
        (some (u2 s14 0 38 ((x26 + a1) - w21))).bind fun s29 =>
        (some (u2 s29 0 39 w22)).bind fun s30 =>
        some s30
      else
        if ((x26 + a1) - w21) = (s14 0 38) then
          if w22 ≤ (s14 0 39) then
            some s14
          else
            (some (u2 s14 0 38 ((x26 + a1) - w21))).bind fun s31 =>
            (some (u2 s31 0 39 w22)).bind fun s32 =>
            some s32
        else
          some s14).bind fun (s27 : Zr) =>
      some (.inl (v13 + (1 : Int32), s27)) : Option ((Int32 × Zr) ⊕ Zr))) zFU ((0 : Int32), s12)).bind fun (s15 : Zr) =>
  some s15
set_option maxRecDepth 100000 in
set_option maxHeartbeats 4000000 in
theorem kX6_lay (G : Zg) (R : Nat) (h0 : Zh) (hF : zRF R h0) (s : Zr) (a1 : Int32) (a2 : Int32) {x : Zr} (hx : fX6_lay s a1 a2 = some x) : zCt G yX6_lay cX6_lay 8 (Option.none : Option Jvm.ClassFile.FieldType) 4 [zrv G.2.1 (some R), .int a1, .int a2] (zput R h0 s) none (zput R h0 x) := by
  refine z_met (a := x) (rvf := fun (_ : Zr) => none) (hff := fun (x : Zr) => zput R h0 x) (lv := [(0, zrv G.2.1 (some R)), (1, .int a1), (2, .int a2)]) (by decide +kernel) (by simp [lg_sl, zcat1, zcI, zcJ]) (by simp [lv_args, zcat1, zcI, zcJ]) ?_ hx
  unfold fX6_lay
  refine z_aload_n (j := 0) dX6_lay_0 rfl rfl ?_
  refine z_iload_n (j := 1) dX6_lay_1 rfl rfl ?_
  refine z_rputI (k := 31) hF dX6_lay_2 (by decide) rfl zw807 rfl rfl (fun s1 => ?_)
  refine z_aload_n (j := 0) dX6_lay_5 rfl rfl ?_
  refine z_callV (As := []) (rest := []) (rv2 := fun (_ : Zr) => none) (h2 := fun (x : Zr) => zput R h0 x) dX6_lay_6 vX6_clearTree (.inl zw1058) (by decide) zkl7 (zRrecv hF).1 (zRrecv hF).2 rfl rfl (by decide) (fun x hx => kX6_clearTree G R h0 hF s1 hx) (fun s2 => ?_)
  try dsimp only [Option.toList, List.cons_append, List.nil_append]
  refine z_aload_n (j := 0) dX6_lay_9 rfl rfl ?_
  refine z_iload_n (j := 2) dX6_lay_10 rfl rfl ?_
  refine z_callV (As := [.int a2]) (rest := []) (rv2 := fun (x : Int32 × Zr) => some (.int x.1)) (h2 := fun (x : Int32 × Zr) => zput R h0 x.2) dX6_lay_11 vX6_expand (.inl zw1062) (by decide) zkl7 (zRrecv hF).1 (zRrecv hF).2 rfl rfl (by decide) (fun x hx => kX6_expand G R h0 hF s2 a2 hx) (fun x => ?_)
  obtain ⟨x3, s4⟩ := x
  try dsimp only [Option.toList, List.cons_append, List.nil_append]
  refine z_istore_n (lv' := [(3, .int x3), (0, zrv G.2.1 (some R)), (1, .int a1), (2, .int a2)]) dX6_lay_14 rfl (by decide) rfl ?_
  refine z_aload_n (j := 1) dX6_lay_15 rfl rfl ?_
  refine z_rgetI (k := 15) hF dX6_lay_16 (by decide) rfl zw791 ?_
  refine z_iconst (v := 1) dX6_lay_19 (by decide) ?_
  refine z_isub dX6_lay_20 ?_
  refine z_istore (lv' := [(4, .int ((s4 0 15) - (1 : Int32))), (3, .int x3), (0, zrv G.2.1 (some R)), (1, .int a1), (2, .int a2)]) dX6_lay_21 (by decide) rfl ?_
  refine z_at [2, 3, 1, 0] rfl ?_
  refine z_join (pc2 := 40) (lv2 := fun (q : Zr) => [(0, zrv G.2.1 (some R)), (1, .int a1), (3, .int x3)]) (st2 := fun _ => []) (h2 := fun (q : Zr) => zput R h0 q) (fun q => ?_) (fun F8 kF8 => ?_)
  · obtain ⟨s7, e0⟩ : ∃ z, z = q := ⟨_, rfl⟩
    subst e0
    try dsimp only
    refine z_aload_n (j := 0) dX6_lay_40 rfl rfl ?_
    refine z_ldcw (v := 100000) dX6_lay_41 zw1118 ?_
    refine z_rputI (k := 38) hF dX6_lay_44 (by decide) rfl zw814 rfl rfl (fun s11 => ?_)
    refine z_aload_n (j := 0) dX6_lay_47 rfl rfl ?_
    refine z_iconst (v := 0) dX6_lay_48 (by decide) ?_
    refine z_rputI (k := 39) hF dX6_lay_49 (by decide) rfl zw815 rfl rfl (fun s12 => ?_)
    refine z_iconst (v := 0) dX6_lay_52 (by decide) ?_
    refine z_istore (lv' := [(4, .int (0 : Int32)), (0, zrv G.2.1 (some R)), (1, .int a1), (3, .int x3)]) dX6_lay_53 (by decide) rfl ?_
    refine z_at [1, 2, 3, 0] rfl ?_
    refine z_join (pc2 := 178) (lv2 := fun (q : Zr) => []) (st2 := fun _ => []) (h2 := fun (q : Zr) => zput R h0 q) (fun q => ?_) (fun F16 kF16 => ?_)
    · obtain ⟨s15, e0⟩ : ∃ z, z = q := ⟨_, rfl⟩
      subst e0
      try dsimp only
      exact z_vret dX6_lay_178 rfl rfl rfl
    · refine z_loop (lvf := fun (q : Int32 × Zr) => [(0, zrv G.2.1 (some R)), (1, .int a1), (3, .int x3), (4, .int q.1)]) (hf2 := fun (q : Int32 × Zr) => zput R h0 q.2) (s0 := ((0 : Int32), s12)) (fun K17 bK17 rK17 q => ?_)
      obtain ⟨v13, s14⟩ := q
      try dsimp only
      refine z_iload (j := 3) dX6_lay_55 rfl ?_
      refine z_iconst (v := 1) dX6_lay_57 (by decide) ?_
      refine z_iload_n (j := 1) dX6_lay_58 rfl rfl ?_
      refine z_ishl dX6_lay_59 ?_
      refine z_itb ?_
      refine z_icmp_ge (tgt := 178) dX6_lay_60 (by decide) (fun _ => ?_) (fun _ => ?_)
      · refine z_sb ?_
        refine z_eq (rK17 _) ?_
        refine z_at [] rfl ?_
        exact kF16 s14
      · refine z_iconst (v := 0) dX6_lay_63 (by decide) ?_
        refine z_istore (lv' := [(5, .int (0 : Int32)), (0, zrv G.2.1 (some R)), (1, .int a1), (3, .int x3), (4, .int v13)]) dX6_lay_64 (by decide) rfl ?_
        refine z_iconst (v := 0) dX6_lay_66 (by decide) ?_
        refine z_istore (lv' := [(6, .int (0 : Int32)), (5, .int (0 : Int32)), (0, zrv G.2.1 (some R)), (1, .int a1), (3, .int x3), (4, .int v13)]) dX6_lay_67 (by decide) rfl ?_
        refine z_iconst (v := 0) dX6_lay_69 (by decide) ?_
        refine z_istore (lv' := [(7, .int (0 : Int32)), (6, .int (0 : Int32)), (5, .int (0 : Int32)), (0, zrv G.2.1 (some R)), (1, .int a1), (3, .int x3), (4, .int v13)]) dX6_lay_70 (by decide) rfl ?_
        refine z_as ?_
        refine z_at [3, 4, 5, 6, 2, 1, 0] rfl ?_
        refine z_join (pc2 := 114) (lv2 := fun (q : Int32 × Int32) => [(0, zrv G.2.1 (some R)), (1, .int a1), (3, .int x3), (4, .int v13), (5, .int q.1), (6, .int q.2)]) (st2 := fun _ => []) (h2 := fun (q : Int32 × Int32) => zput R h0 s14) (fun q => ?_) (fun F23 kF23 => ?_)
        · obtain ⟨w21, w22⟩ := q
          try dsimp only
          refine z_aload_n (j := 0) dX6_lay_114 rfl rfl ?_
          refine z_rgetA (k := 33) (a := 25) hF dX6_lay_115 (by decide) rfl zw809 rfl ?_
          refine z_bipush (v := 64) dX6_lay_118 (by decide) ?_
          refine z_iload_n (j := 2) dX6_lay_120 rfl rfl ?_
          refine z_imul dX6_lay_121 ?_
          refine z_iload (j := 3) dX6_lay_122 rfl ?_
          refine z_iadd dX6_lay_124 ?_
          refine z_as ?_
          refine z_riald hF dX6_lay_125 (fun x26 => ?_)
          refine z_iload_n (j := 1) dX6_lay_126 rfl rfl ?_
          refine z_iadd dX6_lay_127 ?_
          refine z_iload (j := 4) dX6_lay_128 rfl ?_
          refine z_isub dX6_lay_130 ?_
          refine z_istore (lv' := [(7, .int ((x26 + a1) - w21)), (0, zrv G.2.1 (some R)), (1, .int a1), (3, .int x3), (4, .int v13), (5, .int w21), (6, .int w22)]) dX6_lay_131 (by decide) rfl ?_
          refine z_iload (j := 0) dX6_lay_133 rfl ?_
          refine z_aload_n (j := 1) dX6_lay_135 rfl rfl ?_
          refine z_rgetI (k := 38) hF dX6_lay_136 (by decide) rfl zw814 ?_
          refine z_as ?_
          refine z_join (pc2 := 172) (lv2 := fun (q : Zr) => [(0, zrv G.2.1 (some R)), (1, .int a1), (3, .int x3), (4, .int v13)]) (st2 := fun (q : Zr) => []) (h2 := fun (q : Zr) => zput R h0 q) (fun q => ?_) (fun F28 kF28 => ?_)
          · obtain ⟨s27, e0⟩ : ∃ z, z = q := ⟨_, rfl⟩
            subst e0
            try dsimp only
            refine z_iinc (j := 3) (v := v13 + (1 : Int32)) (lv' := [(4, .int (v13 + (1 : Int32))), (0, zrv G.2.1 (some R)), (1, .int a1), (3, .int x3)]) dX6_lay_172 rfl rfl (by decide) rfl ?_
            refine z_goto (tgt := 55) dX6_lay_175 (by decide) ?_
            refine z_sb ?_
            refine z_at [1, 2, 3, 0] rfl ?_
            exact bK17 (v13 + (1 : Int32), s27)
          · refine z_itb ?_
            refine z_icmp_lt (tgt := 160) dX6_lay_139 (by decide) (fun _ => ?_) (fun _ => ?_)
            · refine z_aload_n (j := 1) dX6_lay_160 rfl rfl ?_
              refine z_iload (j := 0) dX6_lay_161 rfl ?_
              refine z_as ?_
              refine z_rputI (k := 38) hF dX6_lay_163 (by decide) rfl zw814 rfl rfl (fun s29 => ?_)
              refine z_aload_n (j := 1) dX6_lay_166 rfl rfl ?_
              refine z_iload (j := 6) dX6_lay_167 rfl ?_
              refine z_as ?_
              refine z_rputI (k := 39) hF dX6_lay_169 (by decide) rfl zw815 rfl rfl (fun s30 => ?_)
              refine z_sb ?_
              refine z_at [1, 2, 3, 4] rfl ?_
              exact kF28 s30
            · refine z_iload (j := 0) dX6_lay_142 rfl ?_
              refine z_aload_n (j := 1) dX6_lay_144 rfl rfl ?_
              refine z_rgetI (k := 38) hF dX6_lay_145 (by decide) rfl zw814 ?_
              refine z_itb ?_
              refine z_icmp_ne (tgt := 172) dX6_lay_148 (by decide) (fun _ => ?_) (fun _ => ?_)
              · refine z_iload (j := 6) dX6_lay_151 rfl ?_
                refine z_aload_n (j := 1) dX6_lay_153 rfl rfl ?_
                refine z_rgetI (k := 39) hF dX6_lay_154 (by decide) rfl zw815 ?_
                refine z_itb ?_
                refine z_icmp_le (tgt := 172) dX6_lay_157 (by decide) (fun _ => ?_) (fun _ => ?_)
                · refine z_sb ?_
                  refine z_at [1, 2, 3, 4] rfl ?_
                  exact kF28 s14
                · refine z_aload_n (j := 1) dX6_lay_160 rfl rfl ?_
                  refine z_iload (j := 0) dX6_lay_161 rfl ?_
                  refine z_as ?_
                  refine z_rputI (k := 38) hF dX6_lay_163 (by decide) rfl zw814 rfl rfl (fun s31 => ?_)
                  refine z_aload_n (j := 1) dX6_lay_166 rfl rfl ?_
                  refine z_iload (j := 6) dX6_lay_167 rfl ?_
                  refine z_as ?_
                  refine z_rputI (k := 39) hF dX6_lay_169 (by decide) rfl zw815 rfl rfl (fun s32 => ?_)
                  refine z_sb ?_
                  refine z_at [1, 2, 3, 4] rfl ?_
                  exact kF28 s32
              · refine z_sb ?_
                refine z_at [1, 2, 3, 4] rfl ?_
                exact kF28 s14
        · refine z_loop (lvf := fun (q : Int32 × Int32 × Int32) => [(0, zrv G.2.1 (some R)), (1, .int a1), (3, .int x3), (4, .int v13), (5, .int q.1), (6, .int q.2.1), (7, .int q.2.2)]) (hf2 := fun (q : Int32 × Int32 × Int32) => zput R h0 s14) (s0 := ((0 : Int32), (0 : Int32), (0 : Int32))) (fun K24 bK24 rK24 q => ?_)
          obtain ⟨v18, v19, v20⟩ := q
          try dsimp only
          refine z_iload (j := 6) dX6_lay_72 rfl ?_
          refine z_iload_n (j := 1) dX6_lay_74 rfl rfl ?_
          refine z_itb ?_
          refine z_icmp_ge (tgt := 114) dX6_lay_75 (by decide) (fun _ => ?_) (fun _ => ?_)
          · refine z_sb ?_
            refine z_eq (rK24 _) ?_
            refine z_at [0, 1, 2, 3, 4, 5] rfl ?_
            exact kF23 (v18, v19)
          · refine z_iload (j := 4) dX6_lay_78 rfl ?_
            refine z_iload (j := 3) dX6_lay_80 rfl ?_
            refine z_iload (j := 6) dX6_lay_82 rfl ?_
            refine z_ishr dX6_lay_84 ?_
            refine z_iconst (v := 1) dX6_lay_85 (by decide) ?_
            refine z_iand dX6_lay_86 ?_
            refine z_iadd dX6_lay_87 ?_
            refine z_istore (lv' := [(5, .int (v18 + ((v13 >>> (v20 &&& 31)) &&& (1 : Int32)))), (0, zrv G.2.1 (some R)), (1, .int a1), (3, .int x3), (4, .int v13), (6, .int v19), (7, .int v20)]) dX6_lay_88 (by decide) rfl ?_
            refine z_iload (j := 5) dX6_lay_90 rfl ?_
            refine z_iload (j := 4) dX6_lay_92 rfl ?_
            refine z_iload (j := 6) dX6_lay_94 rfl ?_
            refine z_ishr dX6_lay_96 ?_
            refine z_iconst (v := 1) dX6_lay_97 (by decide) ?_
            refine z_iand dX6_lay_98 ?_
            refine z_bipush (v := 32) dX6_lay_99 (by decide) ?_
            refine z_iload (j := 6) dX6_lay_101 rfl ?_
            refine z_ishr dX6_lay_103 ?_
            refine z_imul dX6_lay_104 ?_
            refine z_iadd dX6_lay_105 ?_
            refine z_as ?_
            refine z_let (fun v25 ev25 => ?_)
            rw [← ev25]
            refine z_istore (lv' := [(6, .int v25), (5, .int (v18 + ((v13 >>> (v20 &&& 31)) &&& (1 : Int32)))), (0, zrv G.2.1 (some R)), (1, .int a1), (3, .int x3), (4, .int v13), (7, .int v20)]) dX6_lay_106 (by decide) rfl ?_
            refine z_iinc (j := 6) (v := v20 + (1 : Int32)) (lv' := [(7, .int (v20 + (1 : Int32))), (6, .int v25), (5, .int (v18 + ((v13 >>> (v20 &&& 31)) &&& (1 : Int32)))), (0, zrv G.2.1 (some R)), (1, .int a1), (3, .int x3), (4, .int v13)]) dX6_lay_108 rfl rfl (by decide) rfl ?_
            refine z_goto (tgt := 72) dX6_lay_111 (by decide) ?_
            refine z_sb ?_
            refine z_at [3, 4, 5, 6, 2, 1, 0] rfl ?_
            exact bK24 (v18 + ((v13 >>> (v20 &&& 31)) &&& (1 : Int32)), v25, v20 + (1 : Int32))
  · refine z_loop (lvf := fun (q : Int32 × Zr) => [(0, zrv G.2.1 (some R)), (1, .int a1), (3, .int x3), (4, .int q.1)]) (hf2 := fun (q : Int32 × Zr) => zput R h0 q.2) (s0 := ((s4 0 15) - (1 : Int32), s4)) (fun K9 bK9 rK9 q => ?_)
    obtain ⟨v5, s6⟩ := q
    try dsimp only
    refine z_iload (j := 3) dX6_lay_23 rfl ?_
    refine z_itb ?_
    refine z_if_lt (tgt := 40) dX6_lay_25 (by decide) (fun _ => ?_) (fun _ => ?_)
    · refine z_sb ?_
      refine z_eq (rK9 _) ?_
      refine z_at [0, 1, 2] rfl ?_
      exact kF8 s6
    · refine z_aload_n (j := 0) dX6_lay_28 rfl rfl ?_
      refine z_iload (j := 3) dX6_lay_29 rfl ?_
      refine z_as ?_
      refine z_callV (As := [.int v5]) (rest := []) (rv2 := fun (_ : Zr) => none) (h2 := fun (x : Zr) => zput R h0 x) dX6_lay_31 vX6_layNode (.inl zw1114) (by decide) zkl7 (zRrecv hF).1 (zRrecv hF).2 rfl rfl (by decide) (fun x hx => kX6_layNode G R h0 hF s6 v5 hx) (fun s10 => ?_)
      try dsimp only [Option.toList, List.cons_append, List.nil_append]
      refine z_iinc (j := 3) (v := v5 + (-1 : Int32)) (lv' := [(4, .int (v5 + (-1 : Int32))), (0, zrv G.2.1 (some R)), (1, .int a1), (3, .int x3)]) dX6_lay_34 rfl rfl (by decide) rfl ?_
      refine z_goto (tgt := 23) dX6_lay_37 (by decide) ?_
      refine z_sb ?_
      refine z_at [1, 2, 3, 0] rfl ?_
      exact bK9 (v5 + (-1 : Int32), s10)
def fX6_layCase (s : Zr) (a1 : Int32) (a2 : Int32) : Option (Zr) :=
  (zloop (fun ((v1, s2) : Int32 × Zr) =>
    ((rdI s2 1 a1).bind fun x6 =>
    if x6 ≤ v1 then
      some (.inr s2)
    else
      (rdI s2 3 (((6 : Int32) * a1) + v1)).bind fun x7 =>
      (wrI s2 25 v1 x7).bind fun s8 =>
      some (.inl (v1 + (1 : Int32), s8)) : Option ((Int32 × Zr) ⊕ Zr))) zFU ((0 : Int32), s)).bind fun (s3 : Zr) =>
  (rdI s3 1 a1).bind fun x9 =>
  (fX6_lay s3 x9 a2).bind fun s10 =>
  some s10
set_option maxRecDepth 100000 in
set_option maxHeartbeats 4000000 in
theorem kX6_layCase (G : Zg) (R : Nat) (h0 : Zh) (hF : zRF R h0) (s : Zr) (a1 : Int32) (a2 : Int32) {x : Zr} (hx : fX6_layCase s a1 a2 = some x) : zCt G yX6_layCase cX6_layCase 4 (Option.none : Option Jvm.ClassFile.FieldType) 5 [zrv G.2.1 (some R), .int a1, .int a2] (zput R h0 s) none (zput R h0 x) := by
  refine z_met (a := x) (rvf := fun (_ : Zr) => none) (hff := fun (x : Zr) => zput R h0 x) (lv := [(0, zrv G.2.1 (some R)), (1, .int a1), (2, .int a2)]) (by decide +kernel) (by simp [lg_sl, zcat1, zcI, zcJ]) (by simp [lv_args, zcat1, zcI, zcJ]) ?_ hx
  unfold fX6_layCase
  refine z_iconst (v := 0) dX6_layCase_0 (by decide) ?_
  refine z_istore_n (lv' := [(3, .int (0 : Int32)), (0, zrv G.2.1 (some R)), (1, .int a1), (2, .int a2)]) dX6_layCase_1 rfl (by decide) rfl ?_
  refine z_at [1, 2, 3, 0] rfl ?_
  refine z_join (pc2 := 35) (lv2 := fun (q : Zr) => [(0, zrv G.2.1 (some R)), (1, .int a1), (2, .int a2)]) (st2 := fun _ => []) (h2 := fun (q : Zr) => zput R h0 q) (fun q => ?_) (fun F4 kF4 => ?_)
  · obtain ⟨s3, e0⟩ : ∃ z, z = q := ⟨_, rfl⟩
    subst e0
    try dsimp only
    refine z_aload_n (j := 0) dX6_layCase_35 rfl rfl ?_
    refine z_aload_n (j := 0) dX6_layCase_36 rfl rfl ?_
    refine z_rgetA (k := 1) (a := 0) hF dX6_layCase_37 (by decide) rfl zw777 rfl ?_
    refine z_iload_n (j := 1) dX6_layCase_40 rfl rfl ?_
    refine z_riald hF dX6_layCase_41 (fun x9 => ?_)
    refine z_iload_n (j := 2) dX6_layCase_42 rfl rfl ?_
    refine z_callV (As := [.int x9, .int a2]) (rest := []) (rv2 := fun (_ : Zr) => none) (h2 := fun (x : Zr) => zput R h0 x) dX6_layCase_43 vX6_lay (.inl zw1110) (by decide) zkl7 (zRrecv hF).1 (zRrecv hF).2 rfl rfl (by decide) (fun x hx => kX6_lay G R h0 hF s3 x9 a2 hx) (fun s10 => ?_)
    try dsimp only [Option.toList, List.cons_append, List.nil_append]
    exact z_vret dX6_layCase_46 rfl rfl rfl
  · refine z_loop (lvf := fun (q : Int32 × Zr) => [(0, zrv G.2.1 (some R)), (1, .int a1), (2, .int a2), (3, .int q.1)]) (hf2 := fun (q : Int32 × Zr) => zput R h0 q.2) (s0 := ((0 : Int32), s)) (fun K5 bK5 rK5 q => ?_)
    obtain ⟨v1, s2⟩ := q
    try dsimp only
    refine z_iload_n (j := 3) dX6_layCase_2 rfl rfl ?_
    refine z_aload_n (j := 0) dX6_layCase_3 rfl rfl ?_
    refine z_rgetA (k := 1) (a := 0) hF dX6_layCase_4 (by decide) rfl zw777 rfl ?_
    refine z_iload_n (j := 1) dX6_layCase_7 rfl rfl ?_
    refine z_as ?_
    refine z_riald hF dX6_layCase_8 (fun x6 => ?_)
    refine z_itb ?_
    refine z_icmp_ge (tgt := 35) dX6_layCase_9 (by decide) (fun _ => ?_) (fun _ => ?_)
    · refine z_sb ?_
      refine z_eq (rK5 _) ?_
      refine z_at [0, 1, 2] rfl ?_
      exact kF4 s2
    · refine z_aload_n (j := 0) dX6_layCase_12 rfl rfl ?_
      refine z_rgetA (k := 32) (a := 24) hF dX6_layCase_13 (by decide) rfl zw808 rfl ?_
      refine z_iload_n (j := 3) dX6_layCase_16 rfl rfl ?_
      refine z_aload_n (j := 0) dX6_layCase_17 rfl rfl ?_
      refine z_rgetA (k := 3) (a := 2) hF dX6_layCase_18 (by decide) rfl zw779 rfl ?_
      refine z_bipush (v := 6) dX6_layCase_21 (by decide) ?_
      refine z_iload_n (j := 1) dX6_layCase_23 rfl rfl ?_
      refine z_imul dX6_layCase_24 ?_
      refine z_iload_n (j := 3) dX6_layCase_25 rfl rfl ?_
      refine z_iadd dX6_layCase_26 ?_
      refine z_as ?_
      refine z_riald hF dX6_layCase_27 (fun x7 => ?_)
      refine z_as ?_
      refine z_riast hF dX6_layCase_28 (fun s8 => ?_)
      refine z_iinc (j := 3) (v := v1 + (1 : Int32)) (lv' := [(3, .int (v1 + (1 : Int32))), (0, zrv G.2.1 (some R)), (1, .int a1), (2, .int a2)]) dX6_layCase_29 rfl rfl (by decide) rfl ?_
      refine z_goto (tgt := 2) dX6_layCase_32 (by decide) ?_
      refine z_sb ?_
      refine z_at [1, 2, 3, 0] rfl ?_
      exact bK5 (v1 + (1 : Int32), s8)
def fX6_price (s : Zr) (a1 : Int32) (a2 : Int32) : Option (Int32 × Zr) :=
  (fX6_isCase s a1).bind fun x1 =>
  if x1 = 0 then
    some ((-1 : Int32), s)
  else
    (rdZ s 2 a1).bind fun x2 =>
    if x2 = 0 then
      (fX6_isPiece s a2).bind fun x3 =>
      if x3 = 0 then
        some ((-1 : Int32), s)
      else
        (fX6_layCase s a1 a2).bind fun s4 =>
        some (s4 0 38, s4)
    else
      some ((-1 : Int32), s)
set_option maxRecDepth 100000 in
set_option maxHeartbeats 4000000 in
theorem kX6_price (G : Zg) (R : Nat) (h0 : Zh) (hF : zRF R h0) (s : Zr) (a1 : Int32) (a2 : Int32) {x : Int32 × Zr} (hx : fX6_price s a1 a2 = some x) : zCt G yX6_price cX6_price 3 (Option.some Jvm.ClassFile.FieldType.int) 6 [zrv G.2.1 (some R), .int a1, .int a2] (zput R h0 s) (some (.int x.1)) (zput R h0 x.2) := by
  refine z_met (a := x) (rvf := fun (x : Int32 × Zr) => some (.int x.1)) (hff := fun (x : Int32 × Zr) => zput R h0 x.2) (lv := [(0, zrv G.2.1 (some R)), (1, .int a1), (2, .int a2)]) (by decide +kernel) (by simp [lg_sl, zcat1, zcI, zcJ]) (by simp [lv_args, zcat1, zcI, zcJ]) ?_ hx
  unfold fX6_price
  refine z_aload_n (j := 0) dX6_price_0 rfl rfl ?_
  refine z_iload_n (j := 1) dX6_price_1 rfl rfl ?_
  refine z_callV (As := [.int a1]) (rest := []) (rv2 := fun (x : Int32) => some (.int x)) (h2 := fun (_ : Int32) => zput R h0 s) dX6_price_2 vX6_isCase (.inl zw981) (by decide) zkl7 (zRrecv hF).1 (zRrecv hF).2 rfl rfl (by decide) (fun x hx => kX6_isCase G R h0 hF s a1 hx) (fun x1 => ?_)
  try dsimp only [Option.toList, List.cons_append, List.nil_append]
  refine z_if_eq (tgt := 25) dX6_price_5 (by decide) (fun _ => ?_) (fun _ => ?_)
  · refine z_iconst (v := -1) dX6_price_25 (by decide) ?_
    exact z_iret dX6_price_26 rfl rfl rfl rfl
  · refine z_aload_n (j := 0) dX6_price_8 rfl rfl ?_
    refine z_rgetA (k := 2) (a := 1) hF dX6_price_9 (by decide) rfl zw778 rfl ?_
    refine z_iload_n (j := 1) dX6_price_12 rfl rfl ?_
    refine z_rzald hF dX6_price_13 (fun x2 => ?_)
    refine z_if_ne (tgt := 25) dX6_price_14 (by decide) (fun _ => ?_) (fun _ => ?_)
    · refine z_aload_n (j := 0) dX6_price_17 rfl rfl ?_
      refine z_iload_n (j := 2) dX6_price_18 rfl rfl ?_
      refine z_callV (As := [.int a2]) (rest := []) (rv2 := fun (x : Int32) => some (.int x)) (h2 := fun (_ : Int32) => zput R h0 s) dX6_price_19 vX6_isPiece (.inl zw1037) (by decide) zkl7 (zRrecv hF).1 (zRrecv hF).2 rfl rfl (by decide) (fun x hx => kX6_isPiece G R h0 hF s a2 hx) (fun x3 => ?_)
      try dsimp only [Option.toList, List.cons_append, List.nil_append]
      refine z_if_ne (tgt := 27) dX6_price_22 (by decide) (fun _ => ?_) (fun _ => ?_)
      · refine z_iconst (v := -1) dX6_price_25 (by decide) ?_
        exact z_iret dX6_price_26 rfl rfl rfl rfl
      · refine z_aload_n (j := 0) dX6_price_27 rfl rfl ?_
        refine z_iload_n (j := 1) dX6_price_28 rfl rfl ?_
        refine z_iload_n (j := 2) dX6_price_29 rfl rfl ?_
        refine z_callV (As := [.int a1, .int a2]) (rest := []) (rv2 := fun (_ : Zr) => none) (h2 := fun (x : Zr) => zput R h0 x) dX6_price_30 vX6_layCase (.inl zw1106) (by decide) zkl7 (zRrecv hF).1 (zRrecv hF).2 rfl rfl (by decide) (fun x hx => kX6_layCase G R h0 hF s a1 a2 hx) (fun s4 => ?_)
        try dsimp only [Option.toList, List.cons_append, List.nil_append]
        refine z_aload_n (j := 0) dX6_price_33 rfl rfl ?_
        refine z_rgetI (k := 38) hF dX6_price_34 (by decide) rfl zw814 ?_
        exact z_iret dX6_price_37 rfl rfl rfl rfl
    · refine z_iconst (v := -1) dX6_price_25 (by decide) ?_
      exact z_iret dX6_price_26 rfl rfl rfl rfl
def fX6_both (s : Zr) (a1 : Int32) (a2 : Int32) : Option (Int32 × Zr) :=
  (fX6_isCase s a1).bind fun x1 =>
  if x1 = 0 then
    some ((-1 : Int32), s)
  else
    (rdZ s 2 a1).bind fun x2 =>
    if x2 = 0 then
      (fX6_isPiece s a2).bind fun x3 =>
      if x3 = 0 then
        some ((-1 : Int32), s)
      else
        (fX6_layCase s a1 a2).bind fun s4 =>
        some (s4 0 39, s4)
    else
      some ((-1 : Int32), s)
set_option maxRecDepth 100000 in
set_option maxHeartbeats 4000000 in
theorem kX6_both (G : Zg) (R : Nat) (h0 : Zh) (hF : zRF R h0) (s : Zr) (a1 : Int32) (a2 : Int32) {x : Int32 × Zr} (hx : fX6_both s a1 a2 = some x) : zCt G yX6_both cX6_both 3 (Option.some Jvm.ClassFile.FieldType.int) 6 [zrv G.2.1 (some R), .int a1, .int a2] (zput R h0 s) (some (.int x.1)) (zput R h0 x.2) := by
  refine z_met (a := x) (rvf := fun (x : Int32 × Zr) => some (.int x.1)) (hff := fun (x : Int32 × Zr) => zput R h0 x.2) (lv := [(0, zrv G.2.1 (some R)), (1, .int a1), (2, .int a2)]) (by decide +kernel) (by simp [lg_sl, zcat1, zcI, zcJ]) (by simp [lv_args, zcat1, zcI, zcJ]) ?_ hx
  unfold fX6_both
  refine z_aload_n (j := 0) dX6_both_0 rfl rfl ?_
  refine z_iload_n (j := 1) dX6_both_1 rfl rfl ?_
  refine z_callV (As := [.int a1]) (rest := []) (rv2 := fun (x : Int32) => some (.int x)) (h2 := fun (_ : Int32) => zput R h0 s) dX6_both_2 vX6_isCase (.inl zw981) (by decide) zkl7 (zRrecv hF).1 (zRrecv hF).2 rfl rfl (by decide) (fun x hx => kX6_isCase G R h0 hF s a1 hx) (fun x1 => ?_)
  try dsimp only [Option.toList, List.cons_append, List.nil_append]
  refine z_if_eq (tgt := 25) dX6_both_5 (by decide) (fun _ => ?_) (fun _ => ?_)
  · refine z_iconst (v := -1) dX6_both_25 (by decide) ?_
    exact z_iret dX6_both_26 rfl rfl rfl rfl
  · refine z_aload_n (j := 0) dX6_both_8 rfl rfl ?_
    refine z_rgetA (k := 2) (a := 1) hF dX6_both_9 (by decide) rfl zw778 rfl ?_
    refine z_iload_n (j := 1) dX6_both_12 rfl rfl ?_
    refine z_rzald hF dX6_both_13 (fun x2 => ?_)
    refine z_if_ne (tgt := 25) dX6_both_14 (by decide) (fun _ => ?_) (fun _ => ?_)
    · refine z_aload_n (j := 0) dX6_both_17 rfl rfl ?_
      refine z_iload_n (j := 2) dX6_both_18 rfl rfl ?_
      refine z_callV (As := [.int a2]) (rest := []) (rv2 := fun (x : Int32) => some (.int x)) (h2 := fun (_ : Int32) => zput R h0 s) dX6_both_19 vX6_isPiece (.inl zw1037) (by decide) zkl7 (zRrecv hF).1 (zRrecv hF).2 rfl rfl (by decide) (fun x hx => kX6_isPiece G R h0 hF s a2 hx) (fun x3 => ?_)
      try dsimp only [Option.toList, List.cons_append, List.nil_append]
      refine z_if_ne (tgt := 27) dX6_both_22 (by decide) (fun _ => ?_) (fun _ => ?_)
      · refine z_iconst (v := -1) dX6_both_25 (by decide) ?_
        exact z_iret dX6_both_26 rfl rfl rfl rfl
      · refine z_aload_n (j := 0) dX6_both_27 rfl rfl ?_
        refine z_iload_n (j := 1) dX6_both_28 rfl rfl ?_
        refine z_iload_n (j := 2) dX6_both_29 rfl rfl ?_
        refine z_callV (As := [.int a1, .int a2]) (rest := []) (rv2 := fun (_ : Zr) => none) (h2 := fun (x : Zr) => zput R h0 x) dX6_both_30 vX6_layCase (.inl zw1106) (by decide) zkl7 (zRrecv hF).1 (zRrecv hF).2 rfl rfl (by decide) (fun x hx => kX6_layCase G R h0 hF s a1 a2 hx) (fun s4 => ?_)
        try dsimp only [Option.toList, List.cons_append, List.nil_append]
        refine z_aload_n (j := 0) dX6_both_33 rfl rfl ?_
        refine z_rgetI (k := 39) hF dX6_both_34 (by decide) rfl zw815 ?_
        exact z_iret dX6_both_37 rfl rfl rfl rfl
    · refine z_iconst (v := -1) dX6_both_25 (by decide) ?_
      exact z_iret dX6_both_26 rfl rfl rfl rfl
def fX6_shortest (s : Zr) (a1 : Int32) : Option (Int32 × Zr) :=
  (fX6_isPiece s a1).bind fun x1 =>
  if x1 = 0 then
    some ((-1 : Int32), s)
  else
    (fX6_lay s (0 : Int32) a1).bind fun s2 =>
    some (s2 0 38, s2)
set_option maxRecDepth 100000 in
set_option maxHeartbeats 4000000 in
theorem kX6_shortest (G : Zg) (R : Nat) (h0 : Zh) (hF : zRF R h0) (s : Zr) (a1 : Int32) {x : Int32 × Zr} (hx : fX6_shortest s a1 = some x) : zCt G yX6_shortest cX6_shortest 2 (Option.some Jvm.ClassFile.FieldType.int) 5 [zrv G.2.1 (some R), .int a1] (zput R h0 s) (some (.int x.1)) (zput R h0 x.2) := by
  refine z_met (a := x) (rvf := fun (x : Int32 × Zr) => some (.int x.1)) (hff := fun (x : Int32 × Zr) => zput R h0 x.2) (lv := [(0, zrv G.2.1 (some R)), (1, .int a1)]) (by decide +kernel) (by simp [lg_sl, zcat1, zcI, zcJ]) (by simp [lv_args, zcat1, zcI, zcJ]) ?_ hx
  unfold fX6_shortest
  refine z_aload_n (j := 0) dX6_shortest_0 rfl rfl ?_
  refine z_iload_n (j := 1) dX6_shortest_1 rfl rfl ?_
  refine z_callV (As := [.int a1]) (rest := []) (rv2 := fun (x : Int32) => some (.int x)) (h2 := fun (_ : Int32) => zput R h0 s) dX6_shortest_2 vX6_isPiece (.inl zw1037) (by decide) zkl7 (zRrecv hF).1 (zRrecv hF).2 rfl rfl (by decide) (fun x hx => kX6_isPiece G R h0 hF s a1 hx) (fun x1 => ?_)
  try dsimp only [Option.toList, List.cons_append, List.nil_append]
  refine z_if_ne (tgt := 10) dX6_shortest_5 (by decide) (fun _ => ?_) (fun _ => ?_)
  · refine z_iconst (v := -1) dX6_shortest_8 (by decide) ?_
    exact z_iret dX6_shortest_9 rfl rfl rfl rfl
  · refine z_aload_n (j := 0) dX6_shortest_10 rfl rfl ?_
    refine z_iconst (v := 0) dX6_shortest_11 (by decide) ?_
    refine z_iload_n (j := 1) dX6_shortest_12 rfl rfl ?_
    refine z_callV (As := [.int (0 : Int32), .int a1]) (rest := []) (rv2 := fun (_ : Zr) => none) (h2 := fun (x : Zr) => zput R h0 x) dX6_shortest_13 vX6_lay (.inl zw1110) (by decide) zkl7 (zRrecv hF).1 (zRrecv hF).2 rfl rfl (by decide) (fun x hx => kX6_lay G R h0 hF s (0 : Int32) a1 hx) (fun s2 => ?_)
    try dsimp only [Option.toList, List.cons_append, List.nil_append]
    refine z_aload_n (j := 0) dX6_shortest_16 rfl rfl ?_
    refine z_rgetI (k := 38) hF dX6_shortest_17 (by decide) rfl zw814 ?_
    exact z_iret dX6_shortest_20 rfl rfl rfl rfl
def fX6_fit (s : Zr) (a1 : Int32) (a2 : Int32) : Option (Int32 × Zr) :=
  (fX6_isPiece s a1).bind fun x1 =>
  if x1 = 0 then
    some ((-1 : Int32), s)
  else
    (fX6_in a2.toInt64 (0 : Int64) (3 : Int64)).bind fun x2 =>
    if x2 = 0 then
      some ((-1 : Int32), s)
    else
      (fX6_lay s (0 : Int32) a1).bind fun s3 =>
      (zloop (fun ((v4, v5, v6, v7, v8, v9, s10) : Int32 × Int32 × Int32 × Int32 × Int32 × Int32 × Zr) =>
        (if (s10 0 0) ≤ v9 then
          some (.inr (v4, v5, v6, v7, s10))
        else
          (rdZ s10 2 v9).bind fun x18 =>
          (if x18 = 0 then
            (fX6_layCase s10 v9 a1).bind fun s26 =>
            (if (s26 0 38) = 0 then
              some (1 : Int32)
            else
              some (0 : Int32)).bind fun (v27 : Int32) =>
            (rdI s26 1 v9).bind fun x29 =>
            (if (s26 0 38) ≤ v8 then
              some v7
            else
              some v9).bind fun (v30 : Int32) =>
            (if (s26 0 38) ≤ v8 then
              some v8
            else
              some (s26 0 38)).bind fun (v32 : Int32) =>
            some (v4 + v27, v5 + (s26 0 38), v6 + (x29 + (s3 0 38)), v30, v32, s26)
          else
            some (v4, v5, v6, v7, v8, s10)).bind fun ((v19, v20, v21, v22, v23, s24) : Int32 × Int32 × Int32 × Int32 × Int32 × Zr) =>
          some (.inl (v19, v20, v21, v22, v23, v9 + (1 : Int32), s24)) : Option ((Int32 × Int32 × Int32 × Int32 × Int32 × Int32 × Zr) ⊕ (Int32 × Int32 × Int32 × Int32 × Zr)))) zFU ((0 : Int32), (0 : Int32), (0 : Int32), (-3 : Int32), (-1 : Int32), (0 : Int32), s3)).bind fun ((w11, w12, w13, w14, s15) : Int32 × Int32 × Int32 × Int32 × Zr) =>
      (if a2 = 0 then
        some w11
      else
        if a2 = (1 : Int32) then
          some w12
        else
          if a2 = (2 : Int32) then
            some w13
          else
            some w14).bind fun (v34 : Int32) =>
      some (v34, s15)
set_option maxRecDepth 100000 in
set_option maxHeartbeats 4000000 in
theorem kX6_fit (G : Zg) (R : Nat) (h0 : Zh) (hF : zRF R h0) (s : Zr) (a1 : Int32) (a2 : Int32) {x : Int32 × Zr} (hx : fX6_fit s a1 a2 = some x) : zCt G yX6_fit cX6_fit 10 (Option.some Jvm.ClassFile.FieldType.int) 6 [zrv G.2.1 (some R), .int a1, .int a2] (zput R h0 s) (some (.int x.1)) (zput R h0 x.2) := by
  refine z_met (a := x) (rvf := fun (x : Int32 × Zr) => some (.int x.1)) (hff := fun (x : Int32 × Zr) => zput R h0 x.2) (lv := [(0, zrv G.2.1 (some R)), (1, .int a1), (2, .int a2)]) (by decide +kernel) (by simp [lg_sl, zcat1, zcI, zcJ]) (by simp [lv_args, zcat1, zcI, zcJ]) ?_ hx
  unfold fX6_fit
  refine z_aload_n (j := 0) dX6_fit_0 rfl rfl ?_
  refine z_iload_n (j := 1) dX6_fit_1 rfl rfl ?_
  refine z_callV (As := [.int a1]) (rest := []) (rv2 := fun (x : Int32) => some (.int x)) (h2 := fun (_ : Int32) => zput R h0 s) dX6_fit_2 vX6_isPiece (.inl zw1037) (by decide) zkl7 (zRrecv hF).1 (zRrecv hF).2 rfl rfl (by decide) (fun x hx => kX6_isPiece G R h0 hF s a1 hx) (fun x1 => ?_)
  try dsimp only [Option.toList, List.cons_append, List.nil_append]
  refine z_if_eq (tgt := 20) dX6_fit_5 (by decide) (fun _ => ?_) (fun _ => ?_)
  · refine z_iconst (v := -1) dX6_fit_20 (by decide) ?_
    exact z_iret dX6_fit_21 rfl rfl rfl rfl
  · refine z_iload_n (j := 2) dX6_fit_8 rfl rfl ?_
    refine z_i2l dX6_fit_9 ?_
    refine z_lconst (v := 0) dX6_fit_10 (by decide) ?_
    refine z_ldc2 (v := 3) dX6_fit_11 zw1010 ?_
    refine z_callS (As := [.long a2.toInt64, .long (0 : Int64), .long (3 : Int64)]) (rest := []) (rv2 := fun (x : Int32) => some (.int x)) (h2 := fun (_ : Int32) => zput R h0 s) dX6_fit_14 vX6_in (.inl zw985) (by decide) rfl rfl (by decide) (fun x hx => kX6_in G (zput R h0 s) a2.toInt64 (0 : Int64) (3 : Int64) hx) (fun x2 => ?_)
    try dsimp only [Option.toList, List.cons_append, List.nil_append]
    refine z_if_ne (tgt := 22) dX6_fit_17 (by decide) (fun _ => ?_) (fun _ => ?_)
    · refine z_iconst (v := -1) dX6_fit_20 (by decide) ?_
      exact z_iret dX6_fit_21 rfl rfl rfl rfl
    · refine z_aload_n (j := 0) dX6_fit_22 rfl rfl ?_
      refine z_iconst (v := 0) dX6_fit_23 (by decide) ?_
      refine z_iload_n (j := 1) dX6_fit_24 rfl rfl ?_
      refine z_callV (As := [.int (0 : Int32), .int a1]) (rest := []) (rv2 := fun (_ : Zr) => none) (h2 := fun (x : Zr) => zput R h0 x) dX6_fit_25 vX6_lay (.inl zw1110) (by decide) zkl7 (zRrecv hF).1 (zRrecv hF).2 rfl rfl (by decide) (fun x hx => kX6_lay G R h0 hF s (0 : Int32) a1 hx) (fun s3 => ?_)
      try dsimp only [Option.toList, List.cons_append, List.nil_append]
      refine z_aload_n (j := 0) dX6_fit_28 rfl rfl ?_
      refine z_rgetI (k := 38) hF dX6_fit_29 (by decide) rfl zw814 ?_
      refine z_istore_n (lv' := [(3, .int (s3 0 38)), (0, zrv G.2.1 (some R)), (1, .int a1), (2, .int a2)]) dX6_fit_32 rfl (by decide) rfl ?_
      refine z_iconst (v := 0) dX6_fit_33 (by decide) ?_
      refine z_istore (lv' := [(4, .int (0 : Int32)), (3, .int (s3 0 38)), (0, zrv G.2.1 (some R)), (1, .int a1), (2, .int a2)]) dX6_fit_34 (by decide) rfl ?_
      refine z_iconst (v := 0) dX6_fit_36 (by decide) ?_
      refine z_istore (lv' := [(5, .int (0 : Int32)), (4, .int (0 : Int32)), (3, .int (s3 0 38)), (0, zrv G.2.1 (some R)), (1, .int a1), (2, .int a2)]) dX6_fit_37 (by decide) rfl ?_
      refine z_iconst (v := 0) dX6_fit_39 (by decide) ?_
      refine z_istore (lv' := [(6, .int (0 : Int32)), (5, .int (0 : Int32)), (4, .int (0 : Int32)), (3, .int (s3 0 38)), (0, zrv G.2.1 (some R)), (1, .int a1), (2, .int a2)]) dX6_fit_40 (by decide) rfl ?_
      refine z_bipush (v := -3) dX6_fit_42 (by decide) ?_
      refine z_istore (lv' := [(7, .int (-3 : Int32)), (6, .int (0 : Int32)), (5, .int (0 : Int32)), (4, .int (0 : Int32)), (3, .int (s3 0 38)), (0, zrv G.2.1 (some R)), (1, .int a1), (2, .int a2)]) dX6_fit_44 (by decide) rfl ?_
      refine z_iconst (v := -1) dX6_fit_46 (by decide) ?_
      refine z_istore (lv' := [(8, .int (-1 : Int32)), (7, .int (-3 : Int32)), (6, .int (0 : Int32)), (5, .int (0 : Int32)), (4, .int (0 : Int32)), (3, .int (s3 0 38)), (0, zrv G.2.1 (some R)), (1, .int a1), (2, .int a2)]) dX6_fit_47 (by decide) rfl ?_
      refine z_iconst (v := 0) dX6_fit_49 (by decide) ?_
      refine z_istore (lv' := [(9, .int (0 : Int32)), (8, .int (-1 : Int32)), (7, .int (-3 : Int32)), (6, .int (0 : Int32)), (5, .int (0 : Int32)), (4, .int (0 : Int32)), (3, .int (s3 0 38)), (0, zrv G.2.1 (some R)), (1, .int a1), (2, .int a2)]) dX6_fit_50 (by decide) rfl ?_
      refine z_at [7, 8, 9, 6, 5, 4, 3, 2, 1, 0] rfl ?_
      refine z_join (pc2 := 162) (lv2 := fun (q : Int32 × Int32 × Int32 × Int32 × Zr) => [(2, .int a2), (4, .int q.1), (5, .int q.2.1), (6, .int q.2.2.1), (7, .int q.2.2.2.1)]) (st2 := fun _ => []) (h2 := fun (q : Int32 × Int32 × Int32 × Int32 × Zr) => zput R h0 q.2.2.2.2) (fun q => ?_) (fun F16 kF16 => ?_)
      · obtain ⟨w11, w12, w13, w14, s15⟩ := q
        try dsimp only
        refine z_iload_n (j := 0) dX6_fit_162 rfl rfl ?_
        refine z_join (pc2 := 193) (lv2 := fun (q : Int32) => []) (st2 := fun (q : Int32) => [.int q]) (h2 := fun (q : Int32) => zput R h0 s15) (fun q => ?_) (fun F35 kF35 => ?_)
        · obtain ⟨v34, e0⟩ : ∃ z, z = q := ⟨_, rfl⟩
          subst e0
          try dsimp only
          exact z_iret dX6_fit_193 rfl rfl rfl rfl
        · refine z_itb ?_
          refine z_if_ne (tgt := 171) dX6_fit_163 (by decide) (fun _ => ?_) (fun _ => ?_)
          · refine z_iload (j := 1) dX6_fit_166 rfl ?_
            refine z_goto (tgt := 193) dX6_fit_168 (by decide) ?_
            refine z_sb ?_
            refine z_at [] rfl ?_
            exact kF35 w11
          · refine z_iload_n (j := 0) dX6_fit_171 rfl rfl ?_
            refine z_iconst (v := 1) dX6_fit_172 (by decide) ?_
            refine z_itb ?_
            refine z_icmp_ne (tgt := 181) dX6_fit_173 (by decide) (fun _ => ?_) (fun _ => ?_)
            · refine z_iload (j := 2) dX6_fit_176 rfl ?_
              refine z_goto (tgt := 193) dX6_fit_178 (by decide) ?_
              refine z_sb ?_
              refine z_at [] rfl ?_
              exact kF35 w12
            · refine z_iload_n (j := 0) dX6_fit_181 rfl rfl ?_
              refine z_iconst (v := 2) dX6_fit_182 (by decide) ?_
              refine z_itb ?_
              refine z_icmp_ne (tgt := 191) dX6_fit_183 (by decide) (fun _ => ?_) (fun _ => ?_)
              · refine z_iload (j := 3) dX6_fit_186 rfl ?_
                refine z_goto (tgt := 193) dX6_fit_188 (by decide) ?_
                refine z_sb ?_
                refine z_at [] rfl ?_
                exact kF35 w13
              · refine z_iload (j := 4) dX6_fit_191 rfl ?_
                refine z_sb ?_
                refine z_at [] rfl ?_
                exact kF35 w14
      · refine z_loop (lvf := fun (q : Int32 × Int32 × Int32 × Int32 × Int32 × Int32 × Zr) => [(0, zrv G.2.1 (some R)), (1, .int a1), (2, .int a2), (3, .int (s3 0 38)), (4, .int q.1), (5, .int q.2.1), (6, .int q.2.2.1), (7, .int q.2.2.2.1), (8, .int q.2.2.2.2.1), (9, .int q.2.2.2.2.2.1)]) (hf2 := fun (q : Int32 × Int32 × Int32 × Int32 × Int32 × Int32 × Zr) => zput R h0 q.2.2.2.2.2.2) (s0 := ((0 : Int32), (0 : Int32), (0 : Int32), (-3 : Int32), (-1 : Int32), (0 : Int32), s3)) (fun K17 bK17 rK17 q => ?_)
        obtain ⟨v4, v5, v6, v7, v8, v9, s10⟩ := q
        try dsimp only
        refine z_iload (j := 9) dX6_fit_52 rfl ?_
        refine z_aload_n (j := 0) dX6_fit_54 rfl rfl ?_
        refine z_rgetI (k := 0) hF dX6_fit_55 (by decide) rfl zw776 ?_
        refine z_itb ?_
        refine z_icmp_ge (tgt := 162) dX6_fit_58 (by decide) (fun _ => ?_) (fun _ => ?_)
        · refine z_sb ?_
          refine z_eq (rK17 _) ?_
          refine z_at [2, 4, 5, 6, 7] rfl ?_
          exact kF16 (v4, v5, v6, v7, s10)
        · refine z_aload_n (j := 0) dX6_fit_61 rfl rfl ?_
          refine z_rgetA (k := 2) (a := 1) hF dX6_fit_62 (by decide) rfl zw778 rfl ?_
          refine z_iload (j := 9) dX6_fit_65 rfl ?_
          refine z_as ?_
          refine z_rzald hF dX6_fit_67 (fun x18 => ?_)
          refine z_as ?_
          refine z_join (pc2 := 156) (lv2 := fun (q : Int32 × Int32 × Int32 × Int32 × Int32 × Zr) => [(0, zrv G.2.1 (some R)), (1, .int a1), (2, .int a2), (3, .int (s3 0 38)), (4, .int q.1), (5, .int q.2.1), (6, .int q.2.2.1), (7, .int q.2.2.2.1), (8, .int q.2.2.2.2.1), (9, .int v9)]) (st2 := fun (q : Int32 × Int32 × Int32 × Int32 × Int32 × Zr) => []) (h2 := fun (q : Int32 × Int32 × Int32 × Int32 × Int32 × Zr) => zput R h0 q.2.2.2.2.2) (fun q => ?_) (fun F25 kF25 => ?_)
          · obtain ⟨v19, v20, v21, v22, v23, s24⟩ := q
            try dsimp only
            refine z_iinc (j := 9) (v := v9 + (1 : Int32)) (lv' := [(9, .int (v9 + (1 : Int32))), (0, zrv G.2.1 (some R)), (1, .int a1), (2, .int a2), (3, .int (s3 0 38)), (4, .int v19), (5, .int v20), (6, .int v21), (7, .int v22), (8, .int v23)]) dX6_fit_156 rfl rfl (by decide) rfl ?_
            refine z_goto (tgt := 52) dX6_fit_159 (by decide) ?_
            refine z_sb ?_
            refine z_at [1, 2, 3, 4, 5, 6, 7, 8, 9, 0] rfl ?_
            exact bK17 (v19, v20, v21, v22, v23, v9 + (1 : Int32), s24)
          · refine z_itb ?_
            refine z_if_ne (tgt := 156) dX6_fit_68 (by decide) (fun _ => ?_) (fun _ => ?_)
            · refine z_aload_n (j := 0) dX6_fit_71 rfl rfl ?_
              refine z_iload (j := 9) dX6_fit_72 rfl ?_
              refine z_iload_n (j := 1) dX6_fit_74 rfl rfl ?_
              refine z_as ?_
              refine z_callV (As := [.int v9, .int a1]) (rest := []) (rv2 := fun (_ : Zr) => none) (h2 := fun (x : Zr) => zput R h0 x) dX6_fit_75 vX6_layCase (.inl zw1106) (by decide) zkl7 (zRrecv hF).1 (zRrecv hF).2 rfl rfl (by decide) (fun x hx => kX6_layCase G R h0 hF s10 v9 a1 hx) (fun s26 => ?_)
              try dsimp only [Option.toList, List.cons_append, List.nil_append]
              refine z_iload (j := 4) dX6_fit_78 rfl ?_
              refine z_aload_n (j := 0) dX6_fit_80 rfl rfl ?_
              refine z_rgetI (k := 38) hF dX6_fit_81 (by decide) rfl zw814 ?_
              refine z_as ?_
              refine z_join (pc2 := 92) (lv2 := fun (q : Int32) => [(0, zrv G.2.1 (some R)), (1, .int a1), (2, .int a2), (3, .int (s3 0 38)), (5, .int v5), (6, .int v6), (7, .int v7), (8, .int v8), (9, .int v9)]) (st2 := fun (q : Int32) => [.int q, .int v4]) (h2 := fun (q : Int32) => zput R h0 s26) (fun q => ?_) (fun F28 kF28 => ?_)
              · obtain ⟨v27, e0⟩ : ∃ z, z = q := ⟨_, rfl⟩
                subst e0
                try dsimp only
                refine z_iadd dX6_fit_92 ?_
                refine z_istore (lv' := [(4, .int (v4 + v27)), (0, zrv G.2.1 (some R)), (1, .int a1), (2, .int a2), (3, .int (s3 0 38)), (5, .int v5), (6, .int v6), (7, .int v7), (8, .int v8), (9, .int v9)]) dX6_fit_93 (by decide) rfl ?_
                refine z_iload (j := 5) dX6_fit_95 rfl ?_
                refine z_aload_n (j := 1) dX6_fit_97 rfl rfl ?_
                refine z_rgetI (k := 38) hF dX6_fit_98 (by decide) rfl zw814 ?_
                refine z_iadd dX6_fit_101 ?_
                refine z_istore (lv' := [(5, .int (v5 + (s26 0 38))), (4, .int (v4 + v27)), (0, zrv G.2.1 (some R)), (1, .int a1), (2, .int a2), (3, .int (s3 0 38)), (6, .int v6), (7, .int v7), (8, .int v8), (9, .int v9)]) dX6_fit_102 (by decide) rfl ?_
                refine z_iload (j := 6) dX6_fit_104 rfl ?_
                refine z_aload_n (j := 2) dX6_fit_106 rfl rfl ?_
                refine z_rgetA (k := 1) (a := 0) hF dX6_fit_107 (by decide) rfl zw777 rfl ?_
                refine z_iload (j := 9) dX6_fit_110 rfl ?_
                refine z_as ?_
                refine z_riald hF dX6_fit_112 (fun x29 => ?_)
                refine z_iload_n (j := 5) dX6_fit_113 rfl rfl ?_
                refine z_iadd dX6_fit_114 ?_
                refine z_iadd dX6_fit_115 ?_
                refine z_istore (lv' := [(6, .int (v6 + (x29 + (s3 0 38)))), (5, .int (v5 + (s26 0 38))), (4, .int (v4 + v27)), (0, zrv G.2.1 (some R)), (1, .int a1), (2, .int a2), (3, .int (s3 0 38)), (7, .int v7), (8, .int v8), (9, .int v9)]) dX6_fit_116 (by decide) rfl ?_
                refine z_aload_n (j := 3) dX6_fit_118 rfl rfl ?_
                refine z_rgetI (k := 38) hF dX6_fit_119 (by decide) rfl zw814 ?_
                refine z_iload (j := 8) dX6_fit_122 rfl ?_
                refine z_as ?_
                refine z_join (pc2 := 134) (lv2 := fun (q : Int32) => [(0, zrv G.2.1 (some R)), (1, .int a1), (2, .int a2), (3, .int (s3 0 38)), (4, .int (v4 + v27)), (5, .int (v5 + (s26 0 38))), (6, .int (v6 + (x29 + (s3 0 38)))), (8, .int v8), (9, .int v9)]) (st2 := fun (q : Int32) => [.int q]) (h2 := fun (q : Int32) => zput R h0 s26) (fun q => ?_) (fun F31 kF31 => ?_)
                · obtain ⟨v30, e0⟩ : ∃ z, z = q := ⟨_, rfl⟩
                  subst e0
                  try dsimp only
                  refine z_istore (lv' := [(7, .int v30), (0, zrv G.2.1 (some R)), (1, .int a1), (2, .int a2), (3, .int (s3 0 38)), (4, .int (v4 + v27)), (5, .int (v5 + (s26 0 38))), (6, .int (v6 + (x29 + (s3 0 38)))), (8, .int v8), (9, .int v9)]) dX6_fit_134 (by decide) rfl ?_
                  refine z_aload_n (j := 1) dX6_fit_136 rfl rfl ?_
                  refine z_rgetI (k := 38) hF dX6_fit_137 (by decide) rfl zw814 ?_
                  refine z_iload (j := 8) dX6_fit_140 rfl ?_
                  refine z_as ?_
                  refine z_join (pc2 := 154) (lv2 := fun (q : Int32) => [(0, zrv G.2.1 (some R)), (1, .int a1), (2, .int a2), (3, .int (s3 0 38)), (4, .int (v4 + v27)), (5, .int (v5 + (s26 0 38))), (6, .int (v6 + (x29 + (s3 0 38)))), (7, .int v30), (9, .int v9)]) (st2 := fun (q : Int32) => [.int q]) (h2 := fun (q : Int32) => zput R h0 s26) (fun q => ?_) (fun F33 kF33 => ?_)
                  · obtain ⟨v32, e0⟩ : ∃ z, z = q := ⟨_, rfl⟩
                    subst e0
                    try dsimp only
                    refine z_istore (lv' := [(8, .int v32), (0, zrv G.2.1 (some R)), (1, .int a1), (2, .int a2), (3, .int (s3 0 38)), (4, .int (v4 + v27)), (5, .int (v5 + (s26 0 38))), (6, .int (v6 + (x29 + (s3 0 38)))), (7, .int v30), (9, .int v9)]) dX6_fit_154 (by decide) rfl ?_
                    refine z_sb ?_
                    refine z_at [1, 2, 3, 4, 5, 6, 7, 8, 0, 9] rfl ?_
                    exact kF25 (v4 + v27, v5 + (s26 0 38), v6 + (x29 + (s3 0 38)), v30, v32, s26)
                  · refine z_itb ?_
                    refine z_icmp_le (tgt := 152) dX6_fit_142 (by decide) (fun _ => ?_) (fun _ => ?_)
                    · refine z_iload (j := 8) dX6_fit_152 rfl ?_
                      refine z_sb ?_
                      refine z_at [1, 2, 3, 4, 5, 6, 7, 0, 9] rfl ?_
                      exact kF33 v8
                    · refine z_aload_n (j := 1) dX6_fit_145 rfl rfl ?_
                      refine z_rgetI (k := 38) hF dX6_fit_146 (by decide) rfl zw814 ?_
                      refine z_goto (tgt := 154) dX6_fit_149 (by decide) ?_
                      refine z_sb ?_
                      refine z_at [1, 2, 3, 4, 5, 6, 7, 0, 9] rfl ?_
                      exact kF33 (s26 0 38)
                · refine z_itb ?_
                  refine z_icmp_le (tgt := 132) dX6_fit_124 (by decide) (fun _ => ?_) (fun _ => ?_)
                  · refine z_iload (j := 7) dX6_fit_132 rfl ?_
                    refine z_sb ?_
                    refine z_at [3, 4, 5, 6, 2, 1, 0, 8, 9] rfl ?_
                    exact kF31 v7
                  · refine z_iload (j := 9) dX6_fit_127 rfl ?_
                    refine z_goto (tgt := 134) dX6_fit_129 (by decide) ?_
                    refine z_sb ?_
                    refine z_at [3, 4, 5, 6, 2, 1, 0, 8, 9] rfl ?_
                    exact kF31 v9
              · refine z_itb ?_
                refine z_if_ne (tgt := 91) dX6_fit_84 (by decide) (fun _ => ?_) (fun _ => ?_)
                · refine z_iconst (v := 1) dX6_fit_87 (by decide) ?_
                  refine z_goto (tgt := 92) dX6_fit_88 (by decide) ?_
                  refine z_sb ?_
                  refine z_at [0, 1, 2, 3, 5, 6, 7, 8, 9] rfl ?_
                  exact kF28 (1 : Int32)
                · refine z_iconst (v := 0) dX6_fit_91 (by decide) ?_
                  refine z_sb ?_
                  refine z_at [0, 1, 2, 3, 5, 6, 7, 8, 9] rfl ?_
                  exact kF28 (0 : Int32)
            · refine z_sb ?_
              refine z_at [0, 1, 2, 3, 4, 5, 6, 7, 8, 9] rfl ?_
              exact kF25 (v4, v5, v6, v7, v8, s10)
def fX6_beginLog (s : Zr) (a1 : Int32) : Option (Zr) :=
  (wrI s 31 a1 (s 0 42)).bind fun s1 =>
  (wrI s1 32 a1 (0 : Int32)).bind fun s2 =>
  some s2
set_option maxRecDepth 100000 in
set_option maxHeartbeats 4000000 in
theorem kX6_beginLog (G : Zg) (R : Nat) (h0 : Zh) (hF : zRF R h0) (s : Zr) (a1 : Int32) {x : Zr} (hx : fX6_beginLog s a1 = some x) : zCt G yX6_beginLog cX6_beginLog 2 (Option.none : Option Jvm.ClassFile.FieldType) 1 [zrv G.2.1 (some R), .int a1] (zput R h0 s) none (zput R h0 x) := by
  refine z_met (a := x) (rvf := fun (_ : Zr) => none) (hff := fun (x : Zr) => zput R h0 x) (lv := [(0, zrv G.2.1 (some R)), (1, .int a1)]) (by decide +kernel) (by simp [lg_sl, zcat1, zcI, zcJ]) (by simp [lv_args, zcat1, zcI, zcJ]) ?_ hx
  unfold fX6_beginLog
  refine z_aload_n (j := 0) dX6_beginLog_0 rfl rfl ?_
  refine z_rgetA (k := 40) (a := 30) hF dX6_beginLog_1 (by decide) rfl zw816 rfl ?_
  refine z_iload_n (j := 1) dX6_beginLog_4 rfl rfl ?_
  refine z_aload_n (j := 0) dX6_beginLog_5 rfl rfl ?_
  refine z_rgetI (k := 42) hF dX6_beginLog_6 (by decide) rfl zw818 ?_
  refine z_riast hF dX6_beginLog_9 (fun s1 => ?_)
  refine z_aload_n (j := 0) dX6_beginLog_10 rfl rfl ?_
  refine z_rgetA (k := 41) (a := 31) hF dX6_beginLog_11 (by decide) rfl zw817 rfl ?_
  refine z_iload_n (j := 1) dX6_beginLog_14 rfl rfl ?_
  refine z_iconst (v := 0) dX6_beginLog_15 (by decide) ?_
  refine z_riast hF dX6_beginLog_16 (fun s2 => ?_)
  exact z_vret dX6_beginLog_17 rfl rfl rfl
def fX6_beginRow (s : Zr) (a1 : Int32) : Option (Zr) :=
  (wrI s 33 (s 0 42) (s 0 45)).bind fun s1 =>
  (wrI s1 34 (s1 0 42) (0 : Int32)).bind fun s2 =>
  (some (u2 s2 0 42 ((s2 0 42) + (1 : Int32)))).bind fun s3 =>
  (rdI s3 32 a1).bind fun x4 =>
  (wrI s3 32 a1 (x4 + (1 : Int32))).bind fun s5 =>
  some s5
set_option maxRecDepth 100000 in
set_option maxHeartbeats 4000000 in
theorem kX6_beginRow (G : Zg) (R : Nat) (h0 : Zh) (hF : zRF R h0) (s : Zr) (a1 : Int32) {x : Zr} (hx : fX6_beginRow s a1 = some x) : zCt G yX6_beginRow cX6_beginRow 2 (Option.none : Option Jvm.ClassFile.FieldType) 1 [zrv G.2.1 (some R), .int a1] (zput R h0 s) none (zput R h0 x) := by
  refine z_met (a := x) (rvf := fun (_ : Zr) => none) (hff := fun (x : Zr) => zput R h0 x) (lv := [(0, zrv G.2.1 (some R)), (1, .int a1)]) (by decide +kernel) (by simp [lg_sl, zcat1, zcI, zcJ]) (by simp [lv_args, zcat1, zcI, zcJ]) ?_ hx
  unfold fX6_beginRow
  refine z_aload_n (j := 0) dX6_beginRow_0 rfl rfl ?_
  refine z_rgetA (k := 43) (a := 32) hF dX6_beginRow_1 (by decide) rfl zw819 rfl ?_
  refine z_aload_n (j := 0) dX6_beginRow_4 rfl rfl ?_
  refine z_rgetI (k := 42) hF dX6_beginRow_5 (by decide) rfl zw818 ?_
  refine z_aload_n (j := 0) dX6_beginRow_8 rfl rfl ?_
  refine z_rgetI (k := 45) hF dX6_beginRow_9 (by decide) rfl zw821 ?_
  refine z_riast hF dX6_beginRow_12 (fun s1 => ?_)
  refine z_aload_n (j := 0) dX6_beginRow_13 rfl rfl ?_
  refine z_rgetA (k := 44) (a := 33) hF dX6_beginRow_14 (by decide) rfl zw820 rfl ?_
  refine z_aload_n (j := 0) dX6_beginRow_17 rfl rfl ?_
  refine z_rgetI (k := 42) hF dX6_beginRow_18 (by decide) rfl zw818 ?_
  refine z_iconst (v := 0) dX6_beginRow_21 (by decide) ?_
  refine z_riast hF dX6_beginRow_22 (fun s2 => ?_)
  refine z_aload_n (j := 0) dX6_beginRow_23 rfl rfl ?_
  refine z_dup dX6_beginRow_24 (zcat1 _ _) ?_
  refine z_rgetI (k := 42) hF dX6_beginRow_25 (by decide) rfl zw818 ?_
  refine z_iconst (v := 1) dX6_beginRow_28 (by decide) ?_
  refine z_iadd dX6_beginRow_29 ?_
  refine z_rputI (k := 42) hF dX6_beginRow_30 (by decide) rfl zw818 rfl rfl (fun s3 => ?_)
  refine z_aload_n (j := 0) dX6_beginRow_33 rfl rfl ?_
  refine z_rgetA (k := 41) (a := 31) hF dX6_beginRow_34 (by decide) rfl zw817 rfl ?_
  refine z_iload_n (j := 1) dX6_beginRow_37 rfl rfl ?_
  refine z_dup2 dX6_beginRow_38 rfl (zcat1 _ _) ?_
  refine z_riald hF dX6_beginRow_39 (fun x4 => ?_)
  refine z_iconst (v := 1) dX6_beginRow_40 (by decide) ?_
  refine z_iadd dX6_beginRow_41 ?_
  refine z_riast hF dX6_beginRow_42 (fun s5 => ?_)
  exact z_vret dX6_beginRow_43 rfl rfl rfl
def fX6_addName (s : Zr) (a1 : Int32) : Option (Zr) :=
  (wrI s 35 (s 0 45) a1).bind fun s1 =>
  (some (u2 s1 0 45 ((s1 0 45) + (1 : Int32)))).bind fun s2 =>
  (rdI s2 34 ((s2 0 42) - (1 : Int32))).bind fun x3 =>
  (wrI s2 34 ((s2 0 42) - (1 : Int32)) (x3 + (1 : Int32))).bind fun s4 =>
  some s4
set_option maxRecDepth 100000 in
set_option maxHeartbeats 4000000 in
theorem kX6_addName (G : Zg) (R : Nat) (h0 : Zh) (hF : zRF R h0) (s : Zr) (a1 : Int32) {x : Zr} (hx : fX6_addName s a1 = some x) : zCt G yX6_addName cX6_addName 2 (Option.none : Option Jvm.ClassFile.FieldType) 1 [zrv G.2.1 (some R), .int a1] (zput R h0 s) none (zput R h0 x) := by
  refine z_met (a := x) (rvf := fun (_ : Zr) => none) (hff := fun (x : Zr) => zput R h0 x) (lv := [(0, zrv G.2.1 (some R)), (1, .int a1)]) (by decide +kernel) (by simp [lg_sl, zcat1, zcI, zcJ]) (by simp [lv_args, zcat1, zcI, zcJ]) ?_ hx
  unfold fX6_addName
  refine z_aload_n (j := 0) dX6_addName_0 rfl rfl ?_
  refine z_rgetA (k := 46) (a := 34) hF dX6_addName_1 (by decide) rfl zw822 rfl ?_
  refine z_aload_n (j := 0) dX6_addName_4 rfl rfl ?_
  refine z_rgetI (k := 45) hF dX6_addName_5 (by decide) rfl zw821 ?_
  refine z_iload_n (j := 1) dX6_addName_8 rfl rfl ?_
  refine z_riast hF dX6_addName_9 (fun s1 => ?_)
  refine z_aload_n (j := 0) dX6_addName_10 rfl rfl ?_
  refine z_dup dX6_addName_11 (zcat1 _ _) ?_
  refine z_rgetI (k := 45) hF dX6_addName_12 (by decide) rfl zw821 ?_
  refine z_iconst (v := 1) dX6_addName_15 (by decide) ?_
  refine z_iadd dX6_addName_16 ?_
  refine z_rputI (k := 45) hF dX6_addName_17 (by decide) rfl zw821 rfl rfl (fun s2 => ?_)
  refine z_aload_n (j := 0) dX6_addName_20 rfl rfl ?_
  refine z_rgetA (k := 44) (a := 33) hF dX6_addName_21 (by decide) rfl zw820 rfl ?_
  refine z_aload_n (j := 0) dX6_addName_24 rfl rfl ?_
  refine z_rgetI (k := 42) hF dX6_addName_25 (by decide) rfl zw818 ?_
  refine z_iconst (v := 1) dX6_addName_28 (by decide) ?_
  refine z_isub dX6_addName_29 ?_
  refine z_dup2 dX6_addName_30 rfl (zcat1 _ _) ?_
  refine z_riald hF dX6_addName_31 (fun x3 => ?_)
  refine z_iconst (v := 1) dX6_addName_32 (by decide) ?_
  refine z_iadd dX6_addName_33 ?_
  refine z_riast hF dX6_addName_34 (fun s4 => ?_)
  exact z_vret dX6_addName_35 rfl rfl rfl
def fX6_look (s : Zr) (a1 : Int32) : Option (Zr) :=
  (zloop (fun ((v1, s2) : Int32 × Zr) =>
    (if (144 : Int32) ≤ v1 then
      some (.inr s2)
    else
      (wrZ s2 36 v1 (0 : Int32)).bind fun s6 =>
      some (.inl (v1 + (1 : Int32), s6)) : Option ((Int32 × Zr) ⊕ Zr))) zFU ((0 : Int32), s)).bind fun (s3 : Zr) =>
  (zloop (fun ((v7, s8) : Int32 × Zr) =>
    (if (12 : Int32) ≤ v7 then
      some (.inr s8)
    else
      (wrZ s8 37 v7 (0 : Int32)).bind fun s12 =>
      (wrZ s12 38 v7 (0 : Int32)).bind fun s13 =>
      (wrZ s13 39 v7 (0 : Int32)).bind fun s14 =>
      some (.inl (v7 + (1 : Int32), s14)) : Option ((Int32 × Zr) ⊕ Zr))) zFU ((0 : Int32), s3)).bind fun (s9 : Zr) =>
  (rdI s9 31 a1).bind fun x15 =>
  (zloop (fun ((v16, s17) : Int32 × Zr) =>
    ((rdI s17 31 a1).bind fun x21 =>
    (rdI s17 32 a1).bind fun x22 =>
    if (x21 + x22) ≤ v16 then
      some (.inr s17)
    else
      (zloop (fun ((v23, s24) : Int32 × Zr) =>
        ((rdI s24 34 v16).bind fun x28 =>
        if x28 ≤ v23 then
          some (.inr s24)
        else
          (rdI s24 33 v16).bind fun x29 =>
          (rdI s24 35 (x29 + v23)).bind fun x30 =>
          (wrZ s24 37 x30 (1 : Int32)).bind fun s31 =>
          (rdZ s31 38 x30).bind fun x32 =>
          (if x32 = 0 then
            if v23 = 0 then
              some (1 : Int32)
            else
              some (0 : Int32)
          else
            some (1 : Int32)).bind fun (v33 : Int32) =>
          (wrZ s31 38 x30 v33).bind fun s35 =>
          (rdZ s35 39 x30).bind fun x36 =>
          (if x36 = 0 then
            (rdI s35 34 v16).bind fun x39 =>
            if v23 = (x39 - (1 : Int32)) then
              some (1 : Int32)
            else
              some (0 : Int32)
          else
            some (1 : Int32)).bind fun (v37 : Int32) =>
          (wrZ s35 39 x30 v37).bind fun s40 =>
          (if v23 ≤ 0 then
            some s40
          else
            (rdI s40 33 v16).bind fun x43 =>
            (rdI s40 35 ((x43 + v23) - (1 : Int32))).bind fun x44 =>
            (wrZ s40 36 (((12 : Int32) * x30) + x44) (1 : Int32)).bind fun s45 =>
            some s45).bind fun (s41 : Zr) =>
          some (.inl (v23 + (1 : Int32), s41)) : Option ((Int32 × Zr) ⊕ Zr))) zFU ((0 : Int32), s17)).bind fun (s25 : Zr) =>
      some (.inl (v16 + (1 : Int32), s25)) : Option ((Int32 × Zr) ⊕ Zr))) zFU (x15, s9)).bind fun (s18 : Zr) =>
  some s18
set_option maxRecDepth 100000 in
set_option maxHeartbeats 4000000 in
theorem kX6_look (G : Zg) (R : Nat) (h0 : Zh) (hF : zRF R h0) (s : Zr) (a1 : Int32) {x : Zr} (hx : fX6_look s a1 = some x) : zCt G yX6_look cX6_look 5 (Option.none : Option Jvm.ClassFile.FieldType) 1 [zrv G.2.1 (some R), .int a1] (zput R h0 s) none (zput R h0 x) := by
  refine z_met (a := x) (rvf := fun (_ : Zr) => none) (hff := fun (x : Zr) => zput R h0 x) (lv := [(0, zrv G.2.1 (some R)), (1, .int a1)]) (by decide +kernel) (by simp [lg_sl, zcat1, zcI, zcJ]) (by simp [lv_args, zcat1, zcI, zcJ]) ?_ hx
  unfold fX6_look
  refine z_iconst (v := 0) dX6_look_0 (by decide) ?_
  refine z_istore_n (lv' := [(2, .int (0 : Int32)), (0, zrv G.2.1 (some R)), (1, .int a1)]) dX6_look_1 rfl (by decide) rfl ?_
  refine z_at [1, 2, 0] rfl ?_
  refine z_join (pc2 := 22) (lv2 := fun (q : Zr) => [(0, zrv G.2.1 (some R)), (1, .int a1)]) (st2 := fun _ => []) (h2 := fun (q : Zr) => zput R h0 q) (fun q => ?_) (fun F4 kF4 => ?_)
  · obtain ⟨s3, e0⟩ : ∃ z, z = q := ⟨_, rfl⟩
    subst e0
    try dsimp only
    refine z_iconst (v := 0) dX6_look_22 (by decide) ?_
    refine z_istore_n (lv' := [(2, .int (0 : Int32)), (0, zrv G.2.1 (some R)), (1, .int a1)]) dX6_look_23 rfl (by decide) rfl ?_
    refine z_at [1, 2, 0] rfl ?_
    refine z_join (pc2 := 57) (lv2 := fun (q : Zr) => [(0, zrv G.2.1 (some R)), (1, .int a1)]) (st2 := fun _ => []) (h2 := fun (q : Zr) => zput R h0 q) (fun q => ?_) (fun F10 kF10 => ?_)
    · obtain ⟨s9, e0⟩ : ∃ z, z = q := ⟨_, rfl⟩
      subst e0
      try dsimp only
      refine z_aload_n (j := 0) dX6_look_57 rfl rfl ?_
      refine z_rgetA (k := 40) (a := 30) hF dX6_look_58 (by decide) rfl zw816 rfl ?_
      refine z_iload_n (j := 1) dX6_look_61 rfl rfl ?_
      refine z_riald hF dX6_look_62 (fun x15 => ?_)
      refine z_istore_n (lv' := [(2, .int x15), (0, zrv G.2.1 (some R)), (1, .int a1)]) dX6_look_63 rfl (by decide) rfl ?_
      refine z_at [1, 2, 0] rfl ?_
      refine z_join (pc2 := 219) (lv2 := fun (q : Zr) => []) (st2 := fun _ => []) (h2 := fun (q : Zr) => zput R h0 q) (fun q => ?_) (fun F19 kF19 => ?_)
      · obtain ⟨s18, e0⟩ : ∃ z, z = q := ⟨_, rfl⟩
        subst e0
        try dsimp only
        exact z_vret dX6_look_219 rfl rfl rfl
      · refine z_loop (lvf := fun (q : Int32 × Zr) => [(0, zrv G.2.1 (some R)), (1, .int a1), (2, .int q.1)]) (hf2 := fun (q : Int32 × Zr) => zput R h0 q.2) (s0 := (x15, s9)) (fun K20 bK20 rK20 q => ?_)
        obtain ⟨v16, s17⟩ := q
        try dsimp only
        refine z_iload_n (j := 2) dX6_look_64 rfl rfl ?_
        refine z_aload_n (j := 0) dX6_look_65 rfl rfl ?_
        refine z_rgetA (k := 40) (a := 30) hF dX6_look_66 (by decide) rfl zw816 rfl ?_
        refine z_iload_n (j := 1) dX6_look_69 rfl rfl ?_
        refine z_as ?_
        refine z_riald hF dX6_look_70 (fun x21 => ?_)
        refine z_aload_n (j := 0) dX6_look_71 rfl rfl ?_
        refine z_rgetA (k := 41) (a := 31) hF dX6_look_72 (by decide) rfl zw817 rfl ?_
        refine z_iload_n (j := 1) dX6_look_75 rfl rfl ?_
        refine z_as ?_
        refine z_riald hF dX6_look_76 (fun x22 => ?_)
        refine z_iadd dX6_look_77 ?_
        refine z_itb ?_
        refine z_icmp_ge (tgt := 219) dX6_look_78 (by decide) (fun _ => ?_) (fun _ => ?_)
        · refine z_sb ?_
          refine z_eq (rK20 _) ?_
          refine z_at [] rfl ?_
          exact kF19 s17
        · refine z_iconst (v := 0) dX6_look_81 (by decide) ?_
          refine z_istore_n (lv' := [(3, .int (0 : Int32)), (0, zrv G.2.1 (some R)), (1, .int a1), (2, .int v16)]) dX6_look_82 rfl (by decide) rfl ?_
          refine z_as ?_
          refine z_at [1, 2, 3, 0] rfl ?_
          refine z_join (pc2 := 213) (lv2 := fun (q : Zr) => [(0, zrv G.2.1 (some R)), (1, .int a1), (2, .int v16)]) (st2 := fun _ => []) (h2 := fun (q : Zr) => zput R h0 q) (fun q => ?_) (fun F26 kF26 => ?_)
          · obtain ⟨s25, e0⟩ : ∃ z, z = q := ⟨_, rfl⟩
            subst e0
            try dsimp only
            refine z_iinc (j := 2) (v := v16 + (1 : Int32)) (lv' := [(2, .int (v16 + (1 : Int32))), (0, zrv G.2.1 (some R)), (1, .int a1)]) dX6_look_213 rfl rfl (by decide) rfl ?_
            refine z_goto (tgt := 64) dX6_look_216 (by decide) ?_
            refine z_sb ?_
            refine z_at [1, 2, 0] rfl ?_
            exact bK20 (v16 + (1 : Int32), s25)
          · refine z_loop (lvf := fun (q : Int32 × Zr) => [(0, zrv G.2.1 (some R)), (1, .int a1), (2, .int v16), (3, .int q.1)]) (hf2 := fun (q : Int32 × Zr) => zput R h0 q.2) (s0 := ((0 : Int32), s17)) (fun K27 bK27 rK27 q => ?_)
            obtain ⟨v23, s24⟩ := q
            try dsimp only
            refine z_iload_n (j := 3) dX6_look_83 rfl rfl ?_
            refine z_aload_n (j := 0) dX6_look_84 rfl rfl ?_
            refine z_rgetA (k := 44) (a := 33) hF dX6_look_85 (by decide) rfl zw820 rfl ?_
            refine z_iload_n (j := 2) dX6_look_88 rfl rfl ?_
            refine z_as ?_
            refine z_riald hF dX6_look_89 (fun x28 => ?_)
            refine z_itb ?_
            refine z_icmp_ge (tgt := 213) dX6_look_90 (by decide) (fun _ => ?_) (fun _ => ?_)
            · refine z_sb ?_
              refine z_eq (rK27 _) ?_
              refine z_at [0, 1, 2] rfl ?_
              exact kF26 s24
            · refine z_aload_n (j := 0) dX6_look_93 rfl rfl ?_
              refine z_rgetA (k := 46) (a := 34) hF dX6_look_94 (by decide) rfl zw822 rfl ?_
              refine z_aload_n (j := 0) dX6_look_97 rfl rfl ?_
              refine z_rgetA (k := 43) (a := 32) hF dX6_look_98 (by decide) rfl zw819 rfl ?_
              refine z_iload_n (j := 2) dX6_look_101 rfl rfl ?_
              refine z_as ?_
              refine z_riald hF dX6_look_102 (fun x29 => ?_)
              refine z_iload_n (j := 3) dX6_look_103 rfl rfl ?_
              refine z_iadd dX6_look_104 ?_
              refine z_as ?_
              refine z_riald hF dX6_look_105 (fun x30 => ?_)
              refine z_istore (lv' := [(4, .int x30), (0, zrv G.2.1 (some R)), (1, .int a1), (2, .int v16), (3, .int v23)]) dX6_look_106 (by decide) rfl ?_
              refine z_aload_n (j := 1) dX6_look_108 rfl rfl ?_
              refine z_rgetA (k := 48) (a := 36) hF dX6_look_109 (by decide) rfl zw824 rfl ?_
              refine z_iload (j := 0) dX6_look_112 rfl ?_
              refine z_iconst (v := 1) dX6_look_114 (by decide) ?_
              refine z_as ?_
              refine z_rzast hF dX6_look_115 (fun s31 => ?_)
              refine z_aload_n (j := 1) dX6_look_116 rfl rfl ?_
              refine z_rgetA (k := 49) (a := 37) hF dX6_look_117 (by decide) rfl zw825 rfl ?_
              refine z_iload (j := 0) dX6_look_120 rfl ?_
              refine z_aload_n (j := 1) dX6_look_122 rfl rfl ?_
              refine z_rgetA (k := 49) (a := 37) hF dX6_look_123 (by decide) rfl zw825 rfl ?_
              refine z_iload (j := 0) dX6_look_126 rfl ?_
              refine z_as ?_
              refine z_rzald hF dX6_look_128 (fun x32 => ?_)
              refine z_as ?_
              refine z_join (pc2 := 141) (lv2 := fun (q : Int32) => [(0, zrv G.2.1 (some R)), (1, .int a1), (2, .int v16), (3, .int v23), (4, .int x30)]) (st2 := fun (q : Int32) => [.int q, .int x30, zrv G.2.1 (some (R + 38))]) (h2 := fun (q : Int32) => zput R h0 s31) (fun q => ?_) (fun F34 kF34 => ?_)
              · obtain ⟨v33, e0⟩ : ∃ z, z = q := ⟨_, rfl⟩
                subst e0
                try dsimp only
                refine z_as ?_
                refine z_rzast hF dX6_look_141 (fun s35 => ?_)
                refine z_aload_n (j := 0) dX6_look_142 rfl rfl ?_
                refine z_rgetA (k := 50) (a := 38) hF dX6_look_143 (by decide) rfl zw826 rfl ?_
                refine z_iload (j := 4) dX6_look_146 rfl ?_
                refine z_aload_n (j := 0) dX6_look_148 rfl rfl ?_
                refine z_rgetA (k := 50) (a := 38) hF dX6_look_149 (by decide) rfl zw826 rfl ?_
                refine z_iload (j := 4) dX6_look_152 rfl ?_
                refine z_as ?_
                refine z_rzald hF dX6_look_154 (fun x36 => ?_)
                refine z_as ?_
                refine z_join (pc2 := 175) (lv2 := fun (q : Int32) => [(0, zrv G.2.1 (some R)), (1, .int a1), (2, .int v16), (3, .int v23), (4, .int x30)]) (st2 := fun (q : Int32) => [.int q, .int x30, zrv G.2.1 (some (R + 39))]) (h2 := fun (q : Int32) => zput R h0 s35) (fun q => ?_) (fun F38 kF38 => ?_)
                · obtain ⟨v37, e0⟩ : ∃ z, z = q := ⟨_, rfl⟩
                  subst e0
                  try dsimp only
                  refine z_as ?_
                  refine z_rzast hF dX6_look_175 (fun s40 => ?_)
                  refine z_iload_n (j := 3) dX6_look_176 rfl rfl ?_
                  refine z_as ?_
                  refine z_join (pc2 := 207) (lv2 := fun (q : Zr) => [(0, zrv G.2.1 (some R)), (1, .int a1), (2, .int v16), (3, .int v23)]) (st2 := fun (q : Zr) => []) (h2 := fun (q : Zr) => zput R h0 q) (fun q => ?_) (fun F42 kF42 => ?_)
                  · obtain ⟨s41, e0⟩ : ∃ z, z = q := ⟨_, rfl⟩
                    subst e0
                    try dsimp only
                    refine z_iinc (j := 3) (v := v23 + (1 : Int32)) (lv' := [(3, .int (v23 + (1 : Int32))), (0, zrv G.2.1 (some R)), (1, .int a1), (2, .int v16)]) dX6_look_207 rfl rfl (by decide) rfl ?_
                    refine z_goto (tgt := 83) dX6_look_210 (by decide) ?_
                    refine z_sb ?_
                    refine z_at [1, 2, 3, 0] rfl ?_
                    exact bK27 (v23 + (1 : Int32), s41)
                  · refine z_itb ?_
                    refine z_if_le (tgt := 207) dX6_look_177 (by decide) (fun _ => ?_) (fun _ => ?_)
                    · refine z_sb ?_
                      refine z_at [0, 1, 2, 3] rfl ?_
                      exact kF42 s40
                    · refine z_aload_n (j := 0) dX6_look_180 rfl rfl ?_
                      refine z_rgetA (k := 47) (a := 35) hF dX6_look_181 (by decide) rfl zw823 rfl ?_
                      refine z_bipush (v := 12) dX6_look_184 (by decide) ?_
                      refine z_iload (j := 4) dX6_look_186 rfl ?_
                      refine z_imul dX6_look_188 ?_
                      refine z_aload_n (j := 0) dX6_look_189 rfl rfl ?_
                      refine z_rgetA (k := 46) (a := 34) hF dX6_look_190 (by decide) rfl zw822 rfl ?_
                      refine z_aload_n (j := 0) dX6_look_193 rfl rfl ?_
                      refine z_rgetA (k := 43) (a := 32) hF dX6_look_194 (by decide) rfl zw819 rfl ?_
                      refine z_iload_n (j := 2) dX6_look_197 rfl rfl ?_
                      refine z_as ?_
                      refine z_riald hF dX6_look_198 (fun x43 => ?_)
                      refine z_iload_n (j := 3) dX6_look_199 rfl rfl ?_
                      refine z_iadd dX6_look_200 ?_
                      refine z_iconst (v := 1) dX6_look_201 (by decide) ?_
                      refine z_isub dX6_look_202 ?_
                      refine z_as ?_
                      refine z_riald hF dX6_look_203 (fun x44 => ?_)
                      refine z_iadd dX6_look_204 ?_
                      refine z_iconst (v := 1) dX6_look_205 (by decide) ?_
                      refine z_as ?_
                      refine z_rzast hF dX6_look_206 (fun s45 => ?_)
                      refine z_sb ?_
                      refine z_at [0, 1, 2, 3] rfl ?_
                      exact kF42 s45
                · refine z_itb ?_
                  refine z_if_ne (tgt := 170) dX6_look_155 (by decide) (fun _ => ?_) (fun _ => ?_)
                  · refine z_iload_n (j := 3) dX6_look_158 rfl rfl ?_
                    refine z_aload_n (j := 0) dX6_look_159 rfl rfl ?_
                    refine z_rgetA (k := 44) (a := 33) hF dX6_look_160 (by decide) rfl zw820 rfl ?_
                    refine z_iload_n (j := 2) dX6_look_163 rfl rfl ?_
                    refine z_as ?_
                    refine z_riald hF dX6_look_164 (fun x39 => ?_)
                    refine z_iconst (v := 1) dX6_look_165 (by decide) ?_
                    refine z_isub dX6_look_166 ?_
                    refine z_itb ?_
                    refine z_icmp_ne (tgt := 174) dX6_look_167 (by decide) (fun _ => ?_) (fun _ => ?_)
                    · refine z_iconst (v := 1) dX6_look_170 (by decide) ?_
                      refine z_goto (tgt := 175) dX6_look_171 (by decide) ?_
                      refine z_sb ?_
                      refine z_at [0, 1, 2, 3, 4] rfl ?_
                      exact kF38 (1 : Int32)
                    · refine z_iconst (v := 0) dX6_look_174 (by decide) ?_
                      refine z_sb ?_
                      refine z_at [0, 1, 2, 3, 4] rfl ?_
                      exact kF38 (0 : Int32)
                  · refine z_iconst (v := 1) dX6_look_170 (by decide) ?_
                    refine z_goto (tgt := 175) dX6_look_171 (by decide) ?_
                    refine z_sb ?_
                    refine z_at [0, 1, 2, 3, 4] rfl ?_
                    exact kF38 (1 : Int32)
              · refine z_itb ?_
                refine z_if_ne (tgt := 136) dX6_look_129 (by decide) (fun _ => ?_) (fun _ => ?_)
                · refine z_iload_n (j := 4) dX6_look_132 rfl rfl ?_
                  refine z_itb ?_
                  refine z_if_ne (tgt := 140) dX6_look_133 (by decide) (fun _ => ?_) (fun _ => ?_)
                  · refine z_iconst (v := 1) dX6_look_136 (by decide) ?_
                    refine z_goto (tgt := 141) dX6_look_137 (by decide) ?_
                    refine z_sb ?_
                    refine z_at [1, 2, 3, 4, 0] rfl ?_
                    exact kF34 (1 : Int32)
                  · refine z_iconst (v := 0) dX6_look_140 (by decide) ?_
                    refine z_sb ?_
                    refine z_at [1, 2, 3, 4, 0] rfl ?_
                    exact kF34 (0 : Int32)
                · refine z_iconst (v := 1) dX6_look_136 (by decide) ?_
                  refine z_goto (tgt := 141) dX6_look_137 (by decide) ?_
                  refine z_sb ?_
                  refine z_at [1, 2, 3, 4, 0] rfl ?_
                  exact kF34 (1 : Int32)
    · refine z_loop (lvf := fun (q : Int32 × Zr) => [(0, zrv G.2.1 (some R)), (1, .int a1), (2, .int q.1)]) (hf2 := fun (q : Int32 × Zr) => zput R h0 q.2) (s0 := ((0 : Int32), s3)) (fun K11 bK11 rK11 q => ?_)
      obtain ⟨v7, s8⟩ := q
      try dsimp only
      refine z_iload_n (j := 2) dX6_look_24 rfl rfl ?_
      refine z_bipush (v := 12) dX6_look_25 (by decide) ?_
      refine z_itb ?_
      refine z_icmp_ge (tgt := 57) dX6_look_27 (by decide) (fun _ => ?_) (fun _ => ?_)
      · refine z_sb ?_
        refine z_eq (rK11 _) ?_
        refine z_at [0, 1] rfl ?_
        exact kF10 s8
      · refine z_aload_n (j := 0) dX6_look_30 rfl rfl ?_
        refine z_rgetA (k := 48) (a := 36) hF dX6_look_31 (by decide) rfl zw824 rfl ?_
        refine z_iload_n (j := 2) dX6_look_34 rfl rfl ?_
        refine z_iconst (v := 0) dX6_look_35 (by decide) ?_
        refine z_as ?_
        refine z_rzast hF dX6_look_36 (fun s12 => ?_)
        refine z_aload_n (j := 0) dX6_look_37 rfl rfl ?_
        refine z_rgetA (k := 49) (a := 37) hF dX6_look_38 (by decide) rfl zw825 rfl ?_
        refine z_iload_n (j := 2) dX6_look_41 rfl rfl ?_
        refine z_iconst (v := 0) dX6_look_42 (by decide) ?_
        refine z_as ?_
        refine z_rzast hF dX6_look_43 (fun s13 => ?_)
        refine z_aload_n (j := 0) dX6_look_44 rfl rfl ?_
        refine z_rgetA (k := 50) (a := 38) hF dX6_look_45 (by decide) rfl zw826 rfl ?_
        refine z_iload_n (j := 2) dX6_look_48 rfl rfl ?_
        refine z_iconst (v := 0) dX6_look_49 (by decide) ?_
        refine z_as ?_
        refine z_rzast hF dX6_look_50 (fun s14 => ?_)
        refine z_iinc (j := 2) (v := v7 + (1 : Int32)) (lv' := [(2, .int (v7 + (1 : Int32))), (0, zrv G.2.1 (some R)), (1, .int a1)]) dX6_look_51 rfl rfl (by decide) rfl ?_
        refine z_goto (tgt := 24) dX6_look_54 (by decide) ?_
        refine z_sb ?_
        refine z_at [1, 2, 0] rfl ?_
        exact bK11 (v7 + (1 : Int32), s14)
  · refine z_loop (lvf := fun (q : Int32 × Zr) => [(0, zrv G.2.1 (some R)), (1, .int a1), (2, .int q.1)]) (hf2 := fun (q : Int32 × Zr) => zput R h0 q.2) (s0 := ((0 : Int32), s)) (fun K5 bK5 rK5 q => ?_)
    obtain ⟨v1, s2⟩ := q
    try dsimp only
    refine z_iload_n (j := 2) dX6_look_2 rfl rfl ?_
    refine z_sipush (v := 144) dX6_look_3 (by decide) ?_
    refine z_itb ?_
    refine z_icmp_ge (tgt := 22) dX6_look_6 (by decide) (fun _ => ?_) (fun _ => ?_)
    · refine z_sb ?_
      refine z_eq (rK5 _) ?_
      refine z_at [0, 1] rfl ?_
      exact kF4 s2
    · refine z_aload_n (j := 0) dX6_look_9 rfl rfl ?_
      refine z_rgetA (k := 47) (a := 35) hF dX6_look_10 (by decide) rfl zw823 rfl ?_
      refine z_iload_n (j := 2) dX6_look_13 rfl rfl ?_
      refine z_iconst (v := 0) dX6_look_14 (by decide) ?_
      refine z_as ?_
      refine z_rzast hF dX6_look_15 (fun s6 => ?_)
      refine z_iinc (j := 2) (v := v1 + (1 : Int32)) (lv' := [(2, .int (v1 + (1 : Int32))), (0, zrv G.2.1 (some R)), (1, .int a1)]) dX6_look_16 rfl rfl (by decide) rfl ?_
      refine z_goto (tgt := 2) dX6_look_19 (by decide) ?_
      refine z_sb ?_
      refine z_at [1, 2, 0] rfl ?_
      exact bK5 (v1 + (1 : Int32), s6)
def fX6_listParts (s : Zr) : Option (Zr) :=
  (some (u2 s 0 52 (0 : Int32))).bind fun s1 =>
  (zloop (fun ((v2, s3) : Int32 × Zr) =>
    (if (12 : Int32) ≤ v2 then
      some (.inr s3)
    else
      (rdI s3 40 v2).bind fun x7 =>
      (if x7 = v2 then
        (wrI s3 41 (s3 0 52) v2).bind fun s10 =>
        (some (u2 s10 0 52 ((s10 0 52) + (1 : Int32)))).bind fun s11 =>
        some s11
      else
        some s3).bind fun (s8 : Zr) =>
      some (.inl (v2 + (1 : Int32), s8)) : Option ((Int32 × Zr) ⊕ Zr))) zFU ((0 : Int32), s1)).bind fun (s4 : Zr) =>
  some s4
set_option maxRecDepth 100000 in
set_option maxHeartbeats 4000000 in
theorem kX6_listParts (G : Zg) (R : Nat) (h0 : Zh) (hF : zRF R h0) (s : Zr) {x : Zr} (hx : fX6_listParts s = some x) : zCt G yX6_listParts cX6_listParts 2 (Option.none : Option Jvm.ClassFile.FieldType) 1 [zrv G.2.1 (some R)] (zput R h0 s) none (zput R h0 x) := by
  refine z_met (a := x) (rvf := fun (_ : Zr) => none) (hff := fun (x : Zr) => zput R h0 x) (lv := [(0, zrv G.2.1 (some R))]) (by decide +kernel) (by simp [lg_sl, zcat1, zcI, zcJ]) (by simp [lv_args, zcat1, zcI, zcJ]) ?_ hx
  unfold fX6_listParts
  refine z_aload_n (j := 0) dX6_listParts_0 rfl rfl ?_
  refine z_iconst (v := 0) dX6_listParts_1 (by decide) ?_
  refine z_rputI (k := 52) hF dX6_listParts_2 (by decide) rfl zw828 rfl rfl (fun s1 => ?_)
  refine z_iconst (v := 0) dX6_listParts_5 (by decide) ?_
  refine z_istore_n (lv' := [(1, .int (0 : Int32)), (0, zrv G.2.1 (some R))]) dX6_listParts_6 rfl (by decide) rfl ?_
  refine z_at [1, 0] rfl ?_
  refine z_join (pc2 := 49) (lv2 := fun (q : Zr) => []) (st2 := fun _ => []) (h2 := fun (q : Zr) => zput R h0 q) (fun q => ?_) (fun F5 kF5 => ?_)
  · obtain ⟨s4, e0⟩ : ∃ z, z = q := ⟨_, rfl⟩
    subst e0
    try dsimp only
    exact z_vret dX6_listParts_49 rfl rfl rfl
  · refine z_loop (lvf := fun (q : Int32 × Zr) => [(0, zrv G.2.1 (some R)), (1, .int q.1)]) (hf2 := fun (q : Int32 × Zr) => zput R h0 q.2) (s0 := ((0 : Int32), s1)) (fun K6 bK6 rK6 q => ?_)
    obtain ⟨v2, s3⟩ := q
    try dsimp only
    refine z_iload_n (j := 1) dX6_listParts_7 rfl rfl ?_
    refine z_bipush (v := 12) dX6_listParts_8 (by decide) ?_
    refine z_itb ?_
    refine z_icmp_ge (tgt := 49) dX6_listParts_10 (by decide) (fun _ => ?_) (fun _ => ?_)
    · refine z_sb ?_
      refine z_eq (rK6 _) ?_
      refine z_at [] rfl ?_
      exact kF5 s3
    · refine z_aload_n (j := 0) dX6_listParts_13 rfl rfl ?_
      refine z_rgetA (k := 51) (a := 39) hF dX6_listParts_14 (by decide) rfl zw827 rfl ?_
      refine z_iload_n (j := 1) dX6_listParts_17 rfl rfl ?_
      refine z_as ?_
      refine z_riald hF dX6_listParts_18 (fun x7 => ?_)
      refine z_iload_n (j := 1) dX6_listParts_19 rfl rfl ?_
      refine z_as ?_
      refine z_join (pc2 := 43) (lv2 := fun (q : Zr) => [(0, zrv G.2.1 (some R)), (1, .int v2)]) (st2 := fun (q : Zr) => []) (h2 := fun (q : Zr) => zput R h0 q) (fun q => ?_) (fun F9 kF9 => ?_)
      · obtain ⟨s8, e0⟩ : ∃ z, z = q := ⟨_, rfl⟩
        subst e0
        try dsimp only
        refine z_iinc (j := 1) (v := v2 + (1 : Int32)) (lv' := [(1, .int (v2 + (1 : Int32))), (0, zrv G.2.1 (some R))]) dX6_listParts_43 rfl rfl (by decide) rfl ?_
        refine z_goto (tgt := 7) dX6_listParts_46 (by decide) ?_
        refine z_sb ?_
        refine z_at [1, 0] rfl ?_
        exact bK6 (v2 + (1 : Int32), s8)
      · refine z_itb ?_
        refine z_icmp_ne (tgt := 43) dX6_listParts_20 (by decide) (fun _ => ?_) (fun _ => ?_)
        · refine z_aload_n (j := 0) dX6_listParts_23 rfl rfl ?_
          refine z_rgetA (k := 53) (a := 40) hF dX6_listParts_24 (by decide) rfl zw829 rfl ?_
          refine z_aload_n (j := 0) dX6_listParts_27 rfl rfl ?_
          refine z_rgetI (k := 52) hF dX6_listParts_28 (by decide) rfl zw828 ?_
          refine z_iload_n (j := 1) dX6_listParts_31 rfl rfl ?_
          refine z_as ?_
          refine z_riast hF dX6_listParts_32 (fun s10 => ?_)
          refine z_aload_n (j := 0) dX6_listParts_33 rfl rfl ?_
          refine z_dup dX6_listParts_34 (zcat1 _ _) ?_
          refine z_rgetI (k := 52) hF dX6_listParts_35 (by decide) rfl zw828 ?_
          refine z_iconst (v := 1) dX6_listParts_38 (by decide) ?_
          refine z_iadd dX6_listParts_39 ?_
          refine z_as ?_
          refine z_rputI (k := 52) hF dX6_listParts_40 (by decide) rfl zw828 rfl rfl (fun s11 => ?_)
          refine z_sb ?_
          refine z_at [0, 1] rfl ?_
          exact kF9 s11
        · refine z_sb ?_
          refine z_at [0, 1] rfl ?_
          exact kF9 s3
def fX6_gatherParts (s : Zr) (a1 : Nat) : Option (Zr) :=
  (some (u2 s 0 52 (0 : Int32))).bind fun s1 =>
  (zloop (fun ((v2, s3) : Int32 × Zr) =>
    (if (12 : Int32) ≤ v2 then
      some (.inr s3)
    else
      (wrI s3 40 v2 (-3 : Int32)).bind fun s7 =>
      some (.inl (v2 + (1 : Int32), s7)) : Option ((Int32 × Zr) ⊕ Zr))) zFU ((0 : Int32), s1)).bind fun (s4 : Zr) =>
  (zloop (fun ((v8, s9) : Int32 × Zr) =>
    (if (12 : Int32) ≤ v8 then
      some (.inr s9)
    else
      (rdZ s9 a1 v8).bind fun x13 =>
      (if x13 = 0 then
        some s9
      else
        (rdI s9 40 v8).bind fun x16 =>
        if x16 = (-3 : Int32) then
          (wrI s9 40 v8 v8).bind fun s17 =>
          (zloop (fun ((v18, s19) : Int32 × Zr) =>
            (if v18 = 0 then
              some (.inr s19)
            else
              (zloop (fun ((v23, v24, s25) : Int32 × Int32 × Zr) =>
                (if (12 : Int32) ≤ v24 then
                  some (.inr (v23, s25))
                else
                  (zloop (fun ((v30, v31, s32) : Int32 × Int32 × Zr) =>
                    (if (12 : Int32) ≤ v31 then
                      some (.inr (v30, s32))
                    else
                      (rdI s32 40 v24).bind fun x37 =>
                      (if x37 = v8 then
                        (rdZ s32 a1 v31).bind fun x41 =>
                        if x41 = 0 then
                          some (v30, s32)
                        else
                          (rdI s32 40 v31).bind fun x42 =>
                          if x42 = (-3 : Int32) then
                            (rdZ s32 42 (((12 : Int32) * v24) + v31)).bind fun x43 =>
                            if x43 = 0 then
                              (rdZ s32 42 (((12 : Int32) * v31) + v24)).bind fun x44 =>
                              if x44 = 0 then
                                some (v30, s32)
                              else
                                (wrI s32 40 v31 v8).bind fun s45 =>
                                some ((1 : Int32), s45)
                            else
                              (wrI s32 40 v31 v8).bind fun s46 =>
                              some ((1 : Int32), s46)
                          else
                            some (v30, s32)
                      else
                        some (v30, s32)).bind fun ((v38, s39) : Int32 × Zr) =>
                      some (.inl (v38, v31 + (1 : Int32), s39)) : Option ((Int32 × Int32 × Zr) ⊕ (Int32 × Zr)))) zFU (v23, (0 : Int32), s25)).bind fun ((w33, s34) : Int32 × Zr) =>
                  some (.inl (w33, v24 + (1 : Int32), s34)) : Option ((Int32 × Int32 × Zr) ⊕ (Int32 × Zr)))) zFU ((0 : Int32), (0 : Int32), s19)).bind fun ((w26, s27) : Int32 × Zr) =>
              some (.inl (w26, s27)) : Option ((Int32 × Zr) ⊕ Zr))) zFU ((1 : Int32), s17)).bind fun (s20 : Zr) =>
          some s20
        else
          some s9).bind fun (s14 : Zr) =>
      some (.inl (v8 + (1 : Int32), s14)) : Option ((Int32 × Zr) ⊕ Zr))) zFU ((0 : Int32), s4)).bind fun (s10 : Zr) =>
  (fX6_listParts s10).bind fun s47 =>
  some s47
set_option maxRecDepth 100000 in
set_option maxHeartbeats 4000000 in
theorem kX6_gatherParts (G : Zg) (R : Nat) (h0 : Zh) (hF : zRF R h0) (s : Zr) (a1 : Nat) {x : Zr} (hx : fX6_gatherParts s a1 = some x) : zCt G yX6_gatherParts cX6_gatherParts 6 (Option.none : Option Jvm.ClassFile.FieldType) 2 [zrv G.2.1 (some R), zrv G.2.1 (some (R + a1))] (zput R h0 s) none (zput R h0 x) := by
  refine z_met (a := x) (rvf := fun (_ : Zr) => none) (hff := fun (x : Zr) => zput R h0 x) (lv := [(0, zrv G.2.1 (some R)), (1, zrv G.2.1 (some (R + a1)))]) (by decide +kernel) (by simp [lg_sl, zcat1, zcI, zcJ]) (by simp [lv_args, zcat1, zcI, zcJ]) ?_ hx
  unfold fX6_gatherParts
  refine z_aload_n (j := 0) dX6_gatherParts_0 rfl rfl ?_
  refine z_iconst (v := 0) dX6_gatherParts_1 (by decide) ?_
  refine z_rputI (k := 52) hF dX6_gatherParts_2 (by decide) rfl zw828 rfl rfl (fun s1 => ?_)
  refine z_iconst (v := 0) dX6_gatherParts_5 (by decide) ?_
  refine z_istore_n (lv' := [(2, .int (0 : Int32)), (0, zrv G.2.1 (some R)), (1, zrv G.2.1 (some (R + a1)))]) dX6_gatherParts_6 rfl (by decide) rfl ?_
  refine z_at [1, 2, 0] rfl ?_
  refine z_join (pc2 := 27) (lv2 := fun (q : Zr) => [(0, zrv G.2.1 (some R)), (1, zrv G.2.1 (some (R + a1)))]) (st2 := fun _ => []) (h2 := fun (q : Zr) => zput R h0 q) (fun q => ?_) (fun F5 kF5 => ?_)
  · obtain ⟨s4, e0⟩ : ∃ z, z = q := ⟨_, rfl⟩
    subst e0
    try dsimp only
    refine z_iconst (v := 0) dX6_gatherParts_27 (by decide) ?_
    refine z_istore_n (lv' := [(2, .int (0 : Int32)), (0, zrv G.2.1 (some R)), (1, zrv G.2.1 (some (R + a1)))]) dX6_gatherParts_28 rfl (by decide) rfl ?_
    refine z_at [1, 2, 0] rfl ?_
    refine z_join (pc2 := 180) (lv2 := fun (q : Zr) => [(0, zrv G.2.1 (some R))]) (st2 := fun _ => []) (h2 := fun (q : Zr) => zput R h0 q) (fun q => ?_) (fun F11 kF11 => ?_)
    · obtain ⟨s10, e0⟩ : ∃ z, z = q := ⟨_, rfl⟩
      subst e0
      try dsimp only
      refine z_aload_n (j := 0) dX6_gatherParts_180 rfl rfl ?_
      refine z_callV (As := []) (rest := []) (rv2 := fun (_ : Zr) => none) (h2 := fun (x : Zr) => zput R h0 x) dX6_gatherParts_181 vX6_listParts (.inl zw1199) (by decide) zkl7 (zRrecv hF).1 (zRrecv hF).2 rfl rfl (by decide) (fun x hx => kX6_listParts G R h0 hF s10 hx) (fun s47 => ?_)
      try dsimp only [Option.toList, List.cons_append, List.nil_append]
      exact z_vret dX6_gatherParts_184 rfl rfl rfl
    · refine z_loop (lvf := fun (q : Int32 × Zr) => [(0, zrv G.2.1 (some R)), (1, zrv G.2.1 (some (R + a1))), (2, .int q.1)]) (hf2 := fun (q : Int32 × Zr) => zput R h0 q.2) (s0 := ((0 : Int32), s4)) (fun K12 bK12 rK12 q => ?_)
      obtain ⟨v8, s9⟩ := q
      try dsimp only
      refine z_iload_n (j := 2) dX6_gatherParts_29 rfl rfl ?_
      refine z_bipush (v := 12) dX6_gatherParts_30 (by decide) ?_
      refine z_itb ?_
      refine z_icmp_ge (tgt := 180) dX6_gatherParts_32 (by decide) (fun _ => ?_) (fun _ => ?_)
      · refine z_sb ?_
        refine z_eq (rK12 _) ?_
        refine z_at [0] rfl ?_
        exact kF11 s9
      · refine z_aload_n (j := 1) dX6_gatherParts_35 rfl rfl ?_
        refine z_iload_n (j := 2) dX6_gatherParts_36 rfl rfl ?_
        refine z_as ?_
        refine z_rzald hF dX6_gatherParts_37 (fun x13 => ?_)
        refine z_as ?_
        refine z_join (pc2 := 174) (lv2 := fun (q : Zr) => [(0, zrv G.2.1 (some R)), (1, zrv G.2.1 (some (R + a1))), (2, .int v8)]) (st2 := fun (q : Zr) => []) (h2 := fun (q : Zr) => zput R h0 q) (fun q => ?_) (fun F15 kF15 => ?_)
        · obtain ⟨s14, e0⟩ : ∃ z, z = q := ⟨_, rfl⟩
          subst e0
          try dsimp only
          refine z_iinc (j := 2) (v := v8 + (1 : Int32)) (lv' := [(2, .int (v8 + (1 : Int32))), (0, zrv G.2.1 (some R)), (1, zrv G.2.1 (some (R + a1)))]) dX6_gatherParts_174 rfl rfl (by decide) rfl ?_
          refine z_goto (tgt := 29) dX6_gatherParts_177 (by decide) ?_
          refine z_sb ?_
          refine z_at [1, 2, 0] rfl ?_
          exact bK12 (v8 + (1 : Int32), s14)
        · refine z_itb ?_
          refine z_if_eq (tgt := 174) dX6_gatherParts_38 (by decide) (fun _ => ?_) (fun _ => ?_)
          · refine z_sb ?_
            refine z_at [0, 1, 2] rfl ?_
            exact kF15 s9
          · refine z_aload_n (j := 0) dX6_gatherParts_41 rfl rfl ?_
            refine z_rgetA (k := 51) (a := 39) hF dX6_gatherParts_42 (by decide) rfl zw827 rfl ?_
            refine z_iload_n (j := 2) dX6_gatherParts_45 rfl rfl ?_
            refine z_as ?_
            refine z_riald hF dX6_gatherParts_46 (fun x16 => ?_)
            refine z_bipush (v := -3) dX6_gatherParts_47 (by decide) ?_
            refine z_itb ?_
            refine z_icmp_ne (tgt := 174) dX6_gatherParts_49 (by decide) (fun _ => ?_) (fun _ => ?_)
            · refine z_aload_n (j := 0) dX6_gatherParts_52 rfl rfl ?_
              refine z_rgetA (k := 51) (a := 39) hF dX6_gatherParts_53 (by decide) rfl zw827 rfl ?_
              refine z_iload_n (j := 2) dX6_gatherParts_56 rfl rfl ?_
              refine z_iload_n (j := 2) dX6_gatherParts_57 rfl rfl ?_
              refine z_as ?_
              refine z_riast hF dX6_gatherParts_58 (fun s17 => ?_)
              refine z_iconst (v := 1) dX6_gatherParts_59 (by decide) ?_
              refine z_istore_n (lv' := [(3, .int (1 : Int32)), (0, zrv G.2.1 (some R)), (1, zrv G.2.1 (some (R + a1))), (2, .int v8)]) dX6_gatherParts_60 rfl (by decide) rfl ?_
              refine z_as ?_
              refine z_at [1, 2, 3, 0] rfl ?_
              refine z_join (pc2 := 174) (lv2 := fun (q : Zr) => [(0, zrv G.2.1 (some R)), (1, zrv G.2.1 (some (R + a1))), (2, .int v8)]) (st2 := fun _ => []) (h2 := fun (q : Zr) => zput R h0 q) (fun q => ?_) (fun F21 kF21 => ?_)
              · obtain ⟨s20, e0⟩ : ∃ z, z = q := ⟨_, rfl⟩
                subst e0
                try dsimp only
                refine z_sb ?_
                refine z_at [0, 1, 2] rfl ?_
                exact kF15 s20
              · refine z_loop (lvf := fun (q : Int32 × Zr) => [(0, zrv G.2.1 (some R)), (1, zrv G.2.1 (some (R + a1))), (2, .int v8), (3, .int q.1)]) (hf2 := fun (q : Int32 × Zr) => zput R h0 q.2) (s0 := ((1 : Int32), s17)) (fun K22 bK22 rK22 q => ?_)
                obtain ⟨v18, s19⟩ := q
                try dsimp only
                refine z_iload_n (j := 3) dX6_gatherParts_61 rfl rfl ?_
                refine z_itb ?_
                refine z_if_eq (tgt := 174) dX6_gatherParts_62 (by decide) (fun _ => ?_) (fun _ => ?_)
                · refine z_sb ?_
                  refine z_eq (rK22 _) ?_
                  refine z_at [0, 1, 2] rfl ?_
                  exact kF21 s19
                · refine z_iconst (v := 0) dX6_gatherParts_65 (by decide) ?_
                  refine z_istore_n (lv' := [(3, .int (0 : Int32)), (0, zrv G.2.1 (some R)), (1, zrv G.2.1 (some (R + a1))), (2, .int v8)]) dX6_gatherParts_66 rfl (by decide) rfl ?_
                  refine z_iconst (v := 0) dX6_gatherParts_67 (by decide) ?_
                  refine z_istore (lv' := [(4, .int (0 : Int32)), (3, .int (0 : Int32)), (0, zrv G.2.1 (some R)), (1, zrv G.2.1 (some (R + a1))), (2, .int v8)]) dX6_gatherParts_68 (by decide) rfl ?_
                  refine z_as ?_
                  refine z_at [2, 3, 4, 1, 0] rfl ?_
                  refine z_join (pc2 := 171) (lv2 := fun (q : Int32 × Zr) => [(0, zrv G.2.1 (some R)), (1, zrv G.2.1 (some (R + a1))), (2, .int v8), (3, .int q.1)]) (st2 := fun _ => []) (h2 := fun (q : Int32 × Zr) => zput R h0 q.2) (fun q => ?_) (fun F28 kF28 => ?_)
                  · obtain ⟨w26, s27⟩ := q
                    try dsimp only
                    refine z_goto (tgt := 61) dX6_gatherParts_171 (by decide) ?_
                    refine z_sb ?_
                    refine z_at [0, 1, 2, 3] rfl ?_
                    exact bK22 (w26, s27)
                  · refine z_loop (lvf := fun (q : Int32 × Int32 × Zr) => [(0, zrv G.2.1 (some R)), (1, zrv G.2.1 (some (R + a1))), (2, .int v8), (3, .int q.1), (4, .int q.2.1)]) (hf2 := fun (q : Int32 × Int32 × Zr) => zput R h0 q.2.2) (s0 := ((0 : Int32), (0 : Int32), s19)) (fun K29 bK29 rK29 q => ?_)
                    obtain ⟨v23, v24, s25⟩ := q
                    try dsimp only
                    refine z_iload (j := 4) dX6_gatherParts_70 rfl ?_
                    refine z_bipush (v := 12) dX6_gatherParts_72 (by decide) ?_
                    refine z_itb ?_
                    refine z_icmp_ge (tgt := 171) dX6_gatherParts_74 (by decide) (fun _ => ?_) (fun _ => ?_)
                    · refine z_sb ?_
                      refine z_eq (rK29 _) ?_
                      refine z_at [0, 1, 2, 3] rfl ?_
                      exact kF28 (v23, s25)
                    · refine z_iconst (v := 0) dX6_gatherParts_77 (by decide) ?_
                      refine z_istore (lv' := [(5, .int (0 : Int32)), (0, zrv G.2.1 (some R)), (1, zrv G.2.1 (some (R + a1))), (2, .int v8), (3, .int v23), (4, .int v24)]) dX6_gatherParts_78 (by decide) rfl ?_
                      refine z_as ?_
                      refine z_at [1, 2, 3, 4, 5, 0] rfl ?_
                      refine z_join (pc2 := 165) (lv2 := fun (q : Int32 × Zr) => [(0, zrv G.2.1 (some R)), (1, zrv G.2.1 (some (R + a1))), (2, .int v8), (3, .int q.1), (4, .int v24)]) (st2 := fun _ => []) (h2 := fun (q : Int32 × Zr) => zput R h0 q.2) (fun q => ?_) (fun F35 kF35 => ?_)
                      · obtain ⟨w33, s34⟩ := q
                        try dsimp only
                        refine z_iinc (j := 4) (v := v24 + (1 : Int32)) (lv' := [(4, .int (v24 + (1 : Int32))), (0, zrv G.2.1 (some R)), (1, zrv G.2.1 (some (R + a1))), (2, .int v8), (3, .int w33)]) dX6_gatherParts_165 rfl rfl (by decide) rfl ?_
                        refine z_goto (tgt := 70) dX6_gatherParts_168 (by decide) ?_
                        refine z_sb ?_
                        refine z_at [1, 2, 3, 4, 0] rfl ?_
                        exact bK29 (w33, v24 + (1 : Int32), s34)
                      · refine z_loop (lvf := fun (q : Int32 × Int32 × Zr) => [(0, zrv G.2.1 (some R)), (1, zrv G.2.1 (some (R + a1))), (2, .int v8), (3, .int q.1), (4, .int v24), (5, .int q.2.1)]) (hf2 := fun (q : Int32 × Int32 × Zr) => zput R h0 q.2.2) (s0 := (v23, (0 : Int32), s25)) (fun K36 bK36 rK36 q => ?_)
                        obtain ⟨v30, v31, s32⟩ := q
                        try dsimp only
                        refine z_iload (j := 5) dX6_gatherParts_80 rfl ?_
                        refine z_bipush (v := 12) dX6_gatherParts_82 (by decide) ?_
                        refine z_itb ?_
                        refine z_icmp_ge (tgt := 165) dX6_gatherParts_84 (by decide) (fun _ => ?_) (fun _ => ?_)
                        · refine z_sb ?_
                          refine z_eq (rK36 _) ?_
                          refine z_at [0, 1, 2, 3, 4] rfl ?_
                          exact kF35 (v30, s32)
                        · refine z_aload_n (j := 0) dX6_gatherParts_87 rfl rfl ?_
                          refine z_rgetA (k := 51) (a := 39) hF dX6_gatherParts_88 (by decide) rfl zw827 rfl ?_
                          refine z_iload (j := 4) dX6_gatherParts_91 rfl ?_
                          refine z_as ?_
                          refine z_riald hF dX6_gatherParts_93 (fun x37 => ?_)
                          refine z_iload_n (j := 2) dX6_gatherParts_94 rfl rfl ?_
                          refine z_as ?_
                          refine z_join (pc2 := 159) (lv2 := fun (q : Int32 × Zr) => [(0, zrv G.2.1 (some R)), (1, zrv G.2.1 (some (R + a1))), (2, .int v8), (3, .int q.1), (4, .int v24), (5, .int v31)]) (st2 := fun (q : Int32 × Zr) => []) (h2 := fun (q : Int32 × Zr) => zput R h0 q.2) (fun q => ?_) (fun F40 kF40 => ?_)
                          · obtain ⟨v38, s39⟩ := q
                            try dsimp only
                            refine z_iinc (j := 5) (v := v31 + (1 : Int32)) (lv' := [(5, .int (v31 + (1 : Int32))), (0, zrv G.2.1 (some R)), (1, zrv G.2.1 (some (R + a1))), (2, .int v8), (3, .int v38), (4, .int v24)]) dX6_gatherParts_159 rfl rfl (by decide) rfl ?_
                            refine z_goto (tgt := 80) dX6_gatherParts_162 (by decide) ?_
                            refine z_sb ?_
                            refine z_at [1, 2, 3, 4, 5, 0] rfl ?_
                            exact bK36 (v38, v31 + (1 : Int32), s39)
                          · refine z_itb ?_
                            refine z_icmp_ne (tgt := 159) dX6_gatherParts_95 (by decide) (fun _ => ?_) (fun _ => ?_)
                            · refine z_aload_n (j := 1) dX6_gatherParts_98 rfl rfl ?_
                              refine z_iload (j := 5) dX6_gatherParts_99 rfl ?_
                              refine z_as ?_
                              refine z_rzald hF dX6_gatherParts_101 (fun x41 => ?_)
                              refine z_itb ?_
                              refine z_if_eq (tgt := 159) dX6_gatherParts_102 (by decide) (fun _ => ?_) (fun _ => ?_)
                              · refine z_sb ?_
                                refine z_at [0, 1, 2, 3, 4, 5] rfl ?_
                                exact kF40 (v30, s32)
                              · refine z_aload_n (j := 0) dX6_gatherParts_105 rfl rfl ?_
                                refine z_rgetA (k := 51) (a := 39) hF dX6_gatherParts_106 (by decide) rfl zw827 rfl ?_
                                refine z_iload (j := 5) dX6_gatherParts_109 rfl ?_
                                refine z_as ?_
                                refine z_riald hF dX6_gatherParts_111 (fun x42 => ?_)
                                refine z_bipush (v := -3) dX6_gatherParts_112 (by decide) ?_
                                refine z_itb ?_
                                refine z_icmp_ne (tgt := 159) dX6_gatherParts_114 (by decide) (fun _ => ?_) (fun _ => ?_)
                                · refine z_aload_n (j := 0) dX6_gatherParts_117 rfl rfl ?_
                                  refine z_rgetA (k := 54) (a := 41) hF dX6_gatherParts_118 (by decide) rfl zw830 rfl ?_
                                  refine z_bipush (v := 12) dX6_gatherParts_121 (by decide) ?_
                                  refine z_iload (j := 4) dX6_gatherParts_123 rfl ?_
                                  refine z_imul dX6_gatherParts_125 ?_
                                  refine z_iload (j := 5) dX6_gatherParts_126 rfl ?_
                                  refine z_iadd dX6_gatherParts_128 ?_
                                  refine z_as ?_
                                  refine z_rzald hF dX6_gatherParts_129 (fun x43 => ?_)
                                  refine z_itb ?_
                                  refine z_if_ne (tgt := 149) dX6_gatherParts_130 (by decide) (fun _ => ?_) (fun _ => ?_)
                                  · refine z_aload_n (j := 0) dX6_gatherParts_133 rfl rfl ?_
                                    refine z_rgetA (k := 54) (a := 41) hF dX6_gatherParts_134 (by decide) rfl zw830 rfl ?_
                                    refine z_bipush (v := 12) dX6_gatherParts_137 (by decide) ?_
                                    refine z_iload (j := 5) dX6_gatherParts_139 rfl ?_
                                    refine z_imul dX6_gatherParts_141 ?_
                                    refine z_iload (j := 4) dX6_gatherParts_142 rfl ?_
                                    refine z_iadd dX6_gatherParts_144 ?_
                                    refine z_as ?_
                                    refine z_rzald hF dX6_gatherParts_145 (fun x44 => ?_)
                                    refine z_itb ?_
                                    refine z_if_eq (tgt := 159) dX6_gatherParts_146 (by decide) (fun _ => ?_) (fun _ => ?_)
                                    · refine z_sb ?_
                                      refine z_at [0, 1, 2, 3, 4, 5] rfl ?_
                                      exact kF40 (v30, s32)
                                    · refine z_aload_n (j := 0) dX6_gatherParts_149 rfl rfl ?_
                                      refine z_rgetA (k := 51) (a := 39) hF dX6_gatherParts_150 (by decide) rfl zw827 rfl ?_
                                      refine z_iload (j := 5) dX6_gatherParts_153 rfl ?_
                                      refine z_iload_n (j := 2) dX6_gatherParts_155 rfl rfl ?_
                                      refine z_as ?_
                                      refine z_riast hF dX6_gatherParts_156 (fun s45 => ?_)
                                      refine z_iconst (v := 1) dX6_gatherParts_157 (by decide) ?_
                                      refine z_istore_n (lv' := [(3, .int (1 : Int32)), (0, zrv G.2.1 (some R)), (1, zrv G.2.1 (some (R + a1))), (2, .int v8), (4, .int v24), (5, .int v31)]) dX6_gatherParts_158 rfl (by decide) rfl ?_
                                      refine z_sb ?_
                                      refine z_at [1, 2, 3, 0, 4, 5] rfl ?_
                                      exact kF40 ((1 : Int32), s45)
                                  · refine z_aload_n (j := 0) dX6_gatherParts_149 rfl rfl ?_
                                    refine z_rgetA (k := 51) (a := 39) hF dX6_gatherParts_150 (by decide) rfl zw827 rfl ?_
                                    refine z_iload (j := 5) dX6_gatherParts_153 rfl ?_
                                    refine z_iload_n (j := 2) dX6_gatherParts_155 rfl rfl ?_
                                    refine z_as ?_
                                    refine z_riast hF dX6_gatherParts_156 (fun s46 => ?_)
                                    refine z_iconst (v := 1) dX6_gatherParts_157 (by decide) ?_
                                    refine z_istore_n (lv' := [(3, .int (1 : Int32)), (0, zrv G.2.1 (some R)), (1, zrv G.2.1 (some (R + a1))), (2, .int v8), (4, .int v24), (5, .int v31)]) dX6_gatherParts_158 rfl (by decide) rfl ?_
                                    refine z_sb ?_
                                    refine z_at [1, 2, 3, 0, 4, 5] rfl ?_
                                    exact kF40 ((1 : Int32), s46)
                                · refine z_sb ?_
                                  refine z_at [0, 1, 2, 3, 4, 5] rfl ?_
                                  exact kF40 (v30, s32)
                            · refine z_sb ?_
                              refine z_at [0, 1, 2, 3, 4, 5] rfl ?_
                              exact kF40 (v30, s32)
            · refine z_sb ?_
              refine z_at [0, 1, 2] rfl ?_
              exact kF15 s9
  · refine z_loop (lvf := fun (q : Int32 × Zr) => [(0, zrv G.2.1 (some R)), (1, zrv G.2.1 (some (R + a1))), (2, .int q.1)]) (hf2 := fun (q : Int32 × Zr) => zput R h0 q.2) (s0 := ((0 : Int32), s1)) (fun K6 bK6 rK6 q => ?_)
    obtain ⟨v2, s3⟩ := q
    try dsimp only
    refine z_iload_n (j := 2) dX6_gatherParts_7 rfl rfl ?_
    refine z_bipush (v := 12) dX6_gatherParts_8 (by decide) ?_
    refine z_itb ?_
    refine z_icmp_ge (tgt := 27) dX6_gatherParts_10 (by decide) (fun _ => ?_) (fun _ => ?_)
    · refine z_sb ?_
      refine z_eq (rK6 _) ?_
      refine z_at [0, 1] rfl ?_
      exact kF5 s3
    · refine z_aload_n (j := 0) dX6_gatherParts_13 rfl rfl ?_
      refine z_rgetA (k := 51) (a := 39) hF dX6_gatherParts_14 (by decide) rfl zw827 rfl ?_
      refine z_iload_n (j := 2) dX6_gatherParts_17 rfl rfl ?_
      refine z_bipush (v := -3) dX6_gatherParts_18 (by decide) ?_
      refine z_as ?_
      refine z_riast hF dX6_gatherParts_20 (fun s7 => ?_)
      refine z_iinc (j := 2) (v := v2 + (1 : Int32)) (lv' := [(2, .int (v2 + (1 : Int32))), (0, zrv G.2.1 (some R)), (1, zrv G.2.1 (some (R + a1)))]) dX6_gatherParts_21 rfl rfl (by decide) rfl ?_
      refine z_goto (tgt := 7) dX6_gatherParts_24 (by decide) ?_
      refine z_sb ?_
      refine z_at [1, 2, 0] rfl ?_
      exact bK6 (v2 + (1 : Int32), s7)
