/-! the law's own methods -/
theorem zsw14 {x : Int32} (n0 : ¬ x = (0 : Int32)) (n1 : ¬ x = (1 : Int32)) (n2 : ¬ x = (2 : Int32)) (n3 : ¬ x = (3 : Int32)) (n4 : ¬ x = (4 : Int32)) (n5 : ¬ x = (5 : Int32)) (n6 : ¬ x = (6 : Int32)) (n7 : ¬ x = (7 : Int32)) (n8 : ¬ x = (8 : Int32)) (n9 : ¬ x = (9 : Int32)) (n10 : ¬ x = (10 : Int32)) (n11 : ¬ x = (11 : Int32)) (n12 : ¬ x = (12 : Int32)) (n13 : ¬ x = (13 : Int32)) : x.toInt < 0 ∨ 13 < x.toInt := by
  have h0 := zne (x := x) (n := 0) (by decide) n0
  have h1 := zne (x := x) (n := 1) (by decide) n1
  have h2 := zne (x := x) (n := 2) (by decide) n2
  have h3 := zne (x := x) (n := 3) (by decide) n3
  have h4 := zne (x := x) (n := 4) (by decide) n4
  have h5 := zne (x := x) (n := 5) (by decide) n5
  have h6 := zne (x := x) (n := 6) (by decide) n6
  have h7 := zne (x := x) (n := 7) (by decide) n7
  have h8 := zne (x := x) (n := 8) (by decide) n8
  have h9 := zne (x := x) (n := 9) (by decide) n9
  have h10 := zne (x := x) (n := 10) (by decide) n10
  have h11 := zne (x := x) (n := 11) (by decide) n11
  have h12 := zne (x := x) (n := 12) (by decide) n12
  have h13 := zne (x := x) (n := 13) (by decide) n13
  omega
def fL_some (a1 : Int32) (a2 : Int32) : Option (Int32) :=
  (zrem (a1 &&& (2147483647 : Int32)) a2).bind fun x1 =>
  some x1
set_option maxRecDepth 100000 in
set_option maxHeartbeats 4000000 in
theorem kL_some (G : Zg) (h : Zh) (a1 : Int32) (a2 : Int32) {x : Int32} (hx : fL_some a1 a2 = some x) : zCt G yL_some cL_some 2 (Option.some Jvm.ClassFile.FieldType.int) 1 [.int a1, .int a2] h (some (.int x)) h := by
  refine z_met (a := x) (rvf := fun (x : Int32) => some (.int x)) (hff := fun (_ : Int32) => h) (lv := [(0, .int a1), (1, .int a2)]) (by decide +kernel) (by simp [lg_sl, zcat1, zcI, zcJ]) (by simp [lv_args, zcat1, zcI, zcJ]) ?_ hx
  unfold fL_some
  refine z_iload_n (j := 0) dL_some_0 rfl rfl ?_
  refine z_ldc (v := 2147483647) dL_some_1 zw312 ?_
  refine z_iand dL_some_3 ?_
  refine z_iload_n (j := 1) dL_some_4 rfl rfl ?_
  refine z_irem dL_some_5 (fun x1 => ?_)
  exact z_iret dL_some_6 rfl rfl rfl rfl
def fL_cell (sc : Nat × (Nat → Int32)) (a2 : Int32) : Option (Int32) :=
  (if (Int32.ofNat sc.1) ≤ a2 then
    some ((747796405 : Int32) * (a2 + (1 : Int32)))
  else
    ((zix sc.1 a2).bind fun q => some (sc.2 q)).bind fun x3 =>
    some x3).bind fun (v1 : Int32) =>
  some v1
set_option maxRecDepth 100000 in
set_option maxHeartbeats 4000000 in
theorem kL_cell (G : Zg) (h : Zh) (sc : Nat × (Nat → Int32)) (hsc : sc = G.1.2.2) (a2 : Int32) {x : Int32} (hx : fL_cell sc a2 = some x) : zCt G yL_cell cL_cell 2 (Option.some Jvm.ClassFile.FieldType.int) 1 [zrv G.2.1 (some G.1.2.1), .int a2] h (some (.int x)) h := by
  refine z_met (a := x) (rvf := fun (x : Int32) => some (.int x)) (hff := fun (_ : Int32) => h) (lv := [(0, zrv G.2.1 (some G.1.2.1)), (1, .int a2)]) (by decide +kernel) (by simp [lg_sl, zcat1, zcI, zcJ]) (by simp [lv_args, zcat1, zcI, zcJ]) ?_ hx
  unfold fL_cell
  refine z_iload_n (j := 1) dL_cell_0 rfl rfl ?_
  refine z_aload_n (j := 0) dL_cell_1 rfl rfl ?_
  refine z_slen hsc dL_cell_2 ?_
  refine z_join (pc2 := 18) (lv2 := fun (q : Int32) => []) (st2 := fun (q : Int32) => [.int q]) (h2 := fun (q : Int32) => h) (fun q => ?_) (fun F2 kF2 => ?_)
  · obtain ⟨v1, e0⟩ : ∃ z, z = q := ⟨_, rfl⟩
    subst e0
    try dsimp only
    exact z_iret dL_cell_18 rfl rfl rfl rfl
  · refine z_itb ?_
    refine z_icmp_ge (tgt := 12) dL_cell_3 (by decide) (fun _ => ?_) (fun _ => ?_)
    · refine z_ldc (v := 747796405) dL_cell_12 zw308 ?_
      refine z_iload_n (j := 1) dL_cell_14 rfl rfl ?_
      refine z_iconst (v := 1) dL_cell_15 (by decide) ?_
      refine z_iadd dL_cell_16 ?_
      refine z_imul dL_cell_17 ?_
      refine z_sb ?_
      refine z_at [] rfl ?_
      exact kF2 ((747796405 : Int32) * (a2 + (1 : Int32)))
    · refine z_aload_n (j := 0) dL_cell_6 rfl rfl ?_
      refine z_iload_n (j := 1) dL_cell_7 rfl rfl ?_
      refine z_as ?_
      refine z_sld hsc dL_cell_8 (fun x3 => ?_)
      refine z_goto (tgt := 18) dL_cell_9 (by decide) ?_
      refine z_sb ?_
      refine z_at [] rfl ?_
      exact kF2 x3
def fL_act (c : Nat × Nat) (h : Zh) (a1 : Option Nat) (a2 : Int32) : Option (Int32 × Zh) :=
  (fL_some (a2 >>> ((4 : Int32) &&& 31)) (6 : Int32)).bind fun x1 =>
  (fL_some (a2 >>> ((7 : Int32) &&& 31)) (40 : Int32)).bind fun x2 =>
  (fL_some (a2 >>> ((13 : Int32) &&& 31)) (40 : Int32)).bind fun x3 =>
  if (a2 &&& (15 : Int32)) = (0 : Int32) then
    (zob h a1 7).bind fun p4 =>
    (fX5_open h (some p4)).bind fun ((x5, h6) : Int32 × Zh) =>
    some (x5, h6)
  else if (a2 &&& (15 : Int32)) = (1 : Int32) then
    (fL_some (a2 >>> ((8 : Int32) &&& 31)) (5 : Int32)).bind fun x7 =>
    (fL_some (a2 >>> ((14 : Int32) &&& 31)) (90 : Int32)).bind fun x8 =>
    (fL_some (a2 >>> ((16 : Int32) &&& 31)) (90 : Int32)).bind fun x9 =>
    (zob h a1 7).bind fun p10 =>
    (fX5_add h (some p10) x1 x7 ((a2 >>> ((11 : Int32) &&& 31)) &&& (7 : Int32)) (x8 - (1 : Int32)) (x9 - (1 : Int32))).bind fun ((x11, h12) : Int32 × Zh) =>
    some (x11, h12)
  else if (a2 &&& (15 : Int32)) = (2 : Int32) then
    (fL_some (a2 >>> ((8 : Int32) &&& 31)) (5 : Int32)).bind fun x13 =>
    (fL_some (a2 >>> ((14 : Int32) &&& 31)) (90 : Int32)).bind fun x14 =>
    (fL_some (a2 >>> ((16 : Int32) &&& 31)) (90 : Int32)).bind fun x15 =>
    (zob h a1 7).bind fun p16 =>
    (fX5_add h (some p16) x1 x13 ((a2 >>> ((11 : Int32) &&& 31)) &&& (7 : Int32)) (x14 - (1 : Int32)) (x15 - (1 : Int32))).bind fun ((x17, h18) : Int32 × Zh) =>
    some (x17, h18)
  else if (a2 &&& (15 : Int32)) = (3 : Int32) then
    (fL_some (a2 >>> ((8 : Int32) &&& 31)) (5 : Int32)).bind fun x19 =>
    (fL_some (a2 >>> ((14 : Int32) &&& 31)) (90 : Int32)).bind fun x20 =>
    (fL_some (a2 >>> ((16 : Int32) &&& 31)) (90 : Int32)).bind fun x21 =>
    (zob h a1 7).bind fun p22 =>
    (fX5_add h (some p22) x1 x19 ((a2 >>> ((11 : Int32) &&& 31)) &&& (7 : Int32)) (x20 - (1 : Int32)) (x21 - (1 : Int32))).bind fun ((x23, h24) : Int32 × Zh) =>
    some (x23, h24)
  else if (a2 &&& (15 : Int32)) = (4 : Int32) then
    (fL_some (a2 >>> ((8 : Int32) &&& 31)) (5 : Int32)).bind fun x25 =>
    (fL_some (a2 >>> ((14 : Int32) &&& 31)) (90 : Int32)).bind fun x26 =>
    (fL_some (a2 >>> ((16 : Int32) &&& 31)) (90 : Int32)).bind fun x27 =>
    (zob h a1 7).bind fun p28 =>
    (fX5_add h (some p28) x1 x25 ((a2 >>> ((11 : Int32) &&& 31)) &&& (7 : Int32)) (x26 - (1 : Int32)) (x27 - (1 : Int32))).bind fun ((x29, h30) : Int32 × Zh) =>
    some (x29, h30)
  else if (a2 &&& (15 : Int32)) = (5 : Int32) then
    (fL_some (a2 >>> ((8 : Int32) &&& 31)) (5 : Int32)).bind fun x31 =>
    (fL_some (a2 >>> ((14 : Int32) &&& 31)) (90 : Int32)).bind fun x32 =>
    (fL_some (a2 >>> ((16 : Int32) &&& 31)) (90 : Int32)).bind fun x33 =>
    (zob h a1 7).bind fun p34 =>
    (fX5_add h (some p34) x1 x31 ((a2 >>> ((11 : Int32) &&& 31)) &&& (7 : Int32)) (x32 - (1 : Int32)) (x33 - (1 : Int32))).bind fun ((x35, h36) : Int32 × Zh) =>
    some (x35, h36)
  else if (a2 &&& (15 : Int32)) = (6 : Int32) then
    (zob h a1 7).bind fun p37 =>
    (fX5_cut h (some p37) x1).bind fun ((x38, h39) : Int32 × Zh) =>
    some (x38, h39)
  else if (a2 &&& (15 : Int32)) = (7 : Int32) then
    (if (a2 &&& (256 : Int32)) = 0 then
      some (0 : Int32)
    else
      some (1 : Int32)).bind fun (v40 : Int32) =>
    (zob h a1 7).bind fun p42 =>
    (fX5_drop h (some p42) x1 v40).bind fun ((x43, h44) : Int32 × Zh) =>
    some (x43, h44)
  else if (a2 &&& (15 : Int32)) = (8 : Int32) then
    (fL_some (a2 >>> ((8 : Int32) &&& 31)) (8 : Int32)).bind fun x45 =>
    (zob h a1 7).bind fun p46 =>
    (fX5_deed h (some p46) (x45 - (1 : Int32))).bind fun ((x47, h48) : Int32 × Zh) =>
    some (x47, h48)
  else if (a2 &&& (15 : Int32)) = (9 : Int32) then
    (zob h a1 7).bind fun p49 =>
    (fX5_join h (some p49) ((2 : Int32) + ((a2 >>> ((19 : Int32) &&& 31)) &&& (3 : Int32))) x2 x3).bind fun ((x50, h51) : Int32 × Zh) =>
    some (x50, h51)
  else if (a2 &&& (15 : Int32)) = (10 : Int32) then
    (zob h a1 7).bind fun p52 =>
    (fX5_join h (some p52) ((2 : Int32) + ((a2 >>> ((19 : Int32) &&& 31)) &&& (3 : Int32))) x2 x3).bind fun ((x53, h54) : Int32 × Zh) =>
    some (x53, h54)
  else if (a2 &&& (15 : Int32)) = (11 : Int32) then
    (zob h a1 7).bind fun p55 =>
    (fX5_more h (some p55) x2 x3).bind fun ((x56, h57) : Int32 × Zh) =>
    some (x56, h57)
  else if (a2 &&& (15 : Int32)) = (12 : Int32) then
    (zob h a1 7).bind fun p58 =>
    (fX5_plain c h (some p58) x2).bind fun ((x59, h60) : Int32 × Zh) =>
    some (x59, h60)
  else if (a2 &&& (15 : Int32)) = (13 : Int32) then
    (zob h a1 7).bind fun p61 =>
    (fX5_find h (some p61)).bind fun ((x62, h63) : Int32 × Zh) =>
    some (x62, h63)
  else (zob h a1 7).bind fun p64 =>
  (fX5_price h (some p64) x1 x2).bind fun ((x65, h66) : Int32 × Zh) =>
  (zob h66 a1 7).bind fun p67 =>
  (fX5_both h66 (some p67) x1 x2).bind fun ((x68, h69) : Int32 × Zh) =>
  some (x65 + ((1000 : Int32) * x68), h69)
set_option maxRecDepth 100000 in
set_option maxHeartbeats 4000000 in
theorem kL_act (G : Zg) (c : Nat × Nat) (hc : c = G.2.2.2.2.2) (h : Zh) (a1 : Option Nat) (a2 : Int32) {x : Int32 × Zh} (hx : fL_act c h a1 a2 = some x) : zCt G yL_act cL_act 5 (Option.some Jvm.ClassFile.FieldType.int) 134 [zrv G.2.1 a1, .int a2] h (some (.int x.1)) x.2 := by
  refine z_met (a := x) (rvf := fun (x : Int32 × Zh) => some (.int x.1)) (hff := fun (x : Int32 × Zh) => x.2) (lv := [(0, zrv G.2.1 a1), (1, .int a2)]) (by decide +kernel) (by simp [lg_sl, zcat1, zcI, zcJ]) (by simp [lv_args, zcat1, zcI, zcJ]) ?_ hx
  unfold fL_act
  refine z_iload_n (j := 1) dL_act_0 rfl rfl ?_
  refine z_iconst (v := 4) dL_act_1 (by decide) ?_
  refine z_ishr dL_act_2 ?_
  refine z_bipush (v := 6) dL_act_3 (by decide) ?_
  refine z_callS (As := [.int (a2 >>> ((4 : Int32) &&& 31)), .int (6 : Int32)]) (rest := []) (rv2 := fun (x : Int32) => some (.int x)) (h2 := fun (_ : Int32) => h) dL_act_5 vL_some (.inl zw309) (by decide) rfl rfl (by decide) (fun x hx => kL_some G (h) (a2 >>> ((4 : Int32) &&& 31)) (6 : Int32) hx) (fun x1 => ?_)
  try dsimp only [Option.toList, List.cons_append, List.nil_append]
  refine z_istore_n (i := 2) (lv' := [(2, .int x1), (0, zrv G.2.1 a1), (1, .int a2)]) dL_act_8 rfl (by decide) rfl ?_
  refine z_iload_n (j := 2) dL_act_9 rfl rfl ?_
  refine z_bipush (v := 7) dL_act_10 (by decide) ?_
  refine z_ishr dL_act_12 ?_
  refine z_bipush (v := 40) dL_act_13 (by decide) ?_
  refine z_callS (As := [.int (a2 >>> ((7 : Int32) &&& 31)), .int (40 : Int32)]) (rest := []) (rv2 := fun (x : Int32) => some (.int x)) (h2 := fun (_ : Int32) => h) dL_act_15 vL_some (.inl zw309) (by decide) rfl rfl (by decide) (fun x hx => kL_some G (h) (a2 >>> ((7 : Int32) &&& 31)) (40 : Int32) hx) (fun x2 => ?_)
  try dsimp only [Option.toList, List.cons_append, List.nil_append]
  refine z_istore_n (i := 3) (lv' := [(3, .int x2), (2, .int x1), (0, zrv G.2.1 a1), (1, .int a2)]) dL_act_18 rfl (by decide) rfl ?_
  refine z_iload_n (j := 3) dL_act_19 rfl rfl ?_
  refine z_bipush (v := 13) dL_act_20 (by decide) ?_
  refine z_ishr dL_act_22 ?_
  refine z_bipush (v := 40) dL_act_23 (by decide) ?_
  refine z_callS (As := [.int (a2 >>> ((13 : Int32) &&& 31)), .int (40 : Int32)]) (rest := []) (rv2 := fun (x : Int32) => some (.int x)) (h2 := fun (_ : Int32) => h) dL_act_25 vL_some (.inl zw309) (by decide) rfl rfl (by decide) (fun x hx => kL_some G (h) (a2 >>> ((13 : Int32) &&& 31)) (40 : Int32) hx) (fun x3 => ?_)
  try dsimp only [Option.toList, List.cons_append, List.nil_append]
  refine z_istore (i := 4) (lv' := [(4, .int x3), (3, .int x2), (2, .int x1), (0, zrv G.2.1 a1), (1, .int a2)]) dL_act_28 (by decide) rfl ?_
  refine z_iload_n (j := 4) dL_act_30 rfl rfl ?_
  refine z_bipush (v := 15) dL_act_31 (by decide) ?_
  refine z_iand dL_act_33 ?_
  refine z_cases (fun n0 => ?_) (fun n0 => ?_)
  · refine z_swIn (off := 70) (tgt := 104) dL_act_34 (by rw [n0]; decide) (by rw [n0]; decide) (by rw [n0]; rfl) (by decide) ?_
    refine z_aload_n (j := 3) dL_act_104 rfl rfl ?_
    refine z_ob (fun p4 ep4 lp4 kp4 => ?_)
    refine z_callV (As := []) (rest := []) (rv2 := fun (x : Int32 × Zh) => some (.int x.1)) (h2 := fun (x : Int32 × Zh) => x.2) dL_act_105 vX5_open (.inl zw316) (by decide) zkl6 lp4 kp4 rfl (by rw [ep4]; rfl) (by decide) (fun x hx => kX5_open G h (some p4) hx) (fun x => ?_)
    obtain ⟨x5, h6⟩ := x
    try dsimp only [Option.toList, List.cons_append, List.nil_append]
    exact z_iret dL_act_108 rfl rfl rfl rfl
  · refine z_cases (fun n1 => ?_) (fun n1 => ?_)
    · refine z_swIn (off := 75) (tgt := 109) dL_act_34 (by rw [n1]; decide) (by rw [n1]; decide) (by rw [n1]; rfl) (by decide) ?_
      refine z_aload_n (j := 3) dL_act_109 rfl rfl ?_
      refine z_iload_n (j := 2) dL_act_110 rfl rfl ?_
      refine z_iload_n (j := 4) dL_act_111 rfl rfl ?_
      refine z_bipush (v := 8) dL_act_112 (by decide) ?_
      refine z_ishr dL_act_114 ?_
      refine z_iconst (v := 5) dL_act_115 (by decide) ?_
      refine z_callS (As := [.int (a2 >>> ((8 : Int32) &&& 31)), .int (5 : Int32)]) (rest := [.int x1, zrv G.2.1 a1]) (rv2 := fun (x : Int32) => some (.int x)) (h2 := fun (_ : Int32) => h) dL_act_116 vL_some (.inl zw309) (by decide) rfl rfl (by simp [zcat1, zcI, zcJ]) (fun x hx => kL_some G (h) (a2 >>> ((8 : Int32) &&& 31)) (5 : Int32) hx) (fun x7 => ?_)
      try dsimp only [Option.toList, List.cons_append, List.nil_append]
      refine z_iload_n (j := 4) dL_act_119 rfl rfl ?_
      refine z_bipush (v := 11) dL_act_120 (by decide) ?_
      refine z_ishr dL_act_122 ?_
      refine z_bipush (v := 7) dL_act_123 (by decide) ?_
      refine z_iand dL_act_125 ?_
      refine z_iload_n (j := 4) dL_act_126 rfl rfl ?_
      refine z_bipush (v := 14) dL_act_127 (by decide) ?_
      refine z_ishr dL_act_129 ?_
      refine z_bipush (v := 90) dL_act_130 (by decide) ?_
      refine z_callS (As := [.int (a2 >>> ((14 : Int32) &&& 31)), .int (90 : Int32)]) (rest := [.int ((a2 >>> ((11 : Int32) &&& 31)) &&& (7 : Int32)), .int x7, .int x1, zrv G.2.1 a1]) (rv2 := fun (x : Int32) => some (.int x)) (h2 := fun (_ : Int32) => h) dL_act_132 vL_some (.inl zw309) (by decide) rfl rfl (by simp [zcat1, zcI, zcJ]) (fun x hx => kL_some G (h) (a2 >>> ((14 : Int32) &&& 31)) (90 : Int32) hx) (fun x8 => ?_)
      try dsimp only [Option.toList, List.cons_append, List.nil_append]
      refine z_iconst (v := 1) dL_act_135 (by decide) ?_
      refine z_isub dL_act_136 ?_
      refine z_iload_n (j := 4) dL_act_137 rfl rfl ?_
      refine z_bipush (v := 16) dL_act_138 (by decide) ?_
      refine z_ishr dL_act_140 ?_
      refine z_bipush (v := 90) dL_act_141 (by decide) ?_
      refine z_callS (As := [.int (a2 >>> ((16 : Int32) &&& 31)), .int (90 : Int32)]) (rest := [.int (x8 - (1 : Int32)), .int ((a2 >>> ((11 : Int32) &&& 31)) &&& (7 : Int32)), .int x7, .int x1, zrv G.2.1 a1]) (rv2 := fun (x : Int32) => some (.int x)) (h2 := fun (_ : Int32) => h) dL_act_143 vL_some (.inl zw309) (by decide) rfl rfl (by simp [zcat1, zcI, zcJ]) (fun x hx => kL_some G (h) (a2 >>> ((16 : Int32) &&& 31)) (90 : Int32) hx) (fun x9 => ?_)
      try dsimp only [Option.toList, List.cons_append, List.nil_append]
      refine z_iconst (v := 1) dL_act_146 (by decide) ?_
      refine z_isub dL_act_147 ?_
      refine z_ob (fun p10 ep10 lp10 kp10 => ?_)
      refine z_callV (As := [.int x1, .int x7, .int ((a2 >>> ((11 : Int32) &&& 31)) &&& (7 : Int32)), .int (x8 - (1 : Int32)), .int (x9 - (1 : Int32))]) (rest := []) (rv2 := fun (x : Int32 × Zh) => some (.int x.1)) (h2 := fun (x : Int32 × Zh) => x.2) dL_act_148 vX5_add (.inl zw336) (by decide) zkl6 lp10 kp10 rfl (by rw [ep10]; rfl) (by decide) (fun x hx => kX5_add G h (some p10) x1 x7 ((a2 >>> ((11 : Int32) &&& 31)) &&& (7 : Int32)) (x8 - (1 : Int32)) (x9 - (1 : Int32)) hx) (fun x => ?_)
      obtain ⟨x11, h12⟩ := x
      try dsimp only [Option.toList, List.cons_append, List.nil_append]
      exact z_iret dL_act_151 rfl rfl rfl rfl
    · refine z_cases (fun n2 => ?_) (fun n2 => ?_)
      · refine z_swIn (off := 75) (tgt := 109) dL_act_34 (by rw [n2]; decide) (by rw [n2]; decide) (by rw [n2]; rfl) (by decide) ?_
        refine z_aload_n (j := 3) dL_act_109 rfl rfl ?_
        refine z_iload_n (j := 2) dL_act_110 rfl rfl ?_
        refine z_iload_n (j := 4) dL_act_111 rfl rfl ?_
        refine z_bipush (v := 8) dL_act_112 (by decide) ?_
        refine z_ishr dL_act_114 ?_
        refine z_iconst (v := 5) dL_act_115 (by decide) ?_
        refine z_callS (As := [.int (a2 >>> ((8 : Int32) &&& 31)), .int (5 : Int32)]) (rest := [.int x1, zrv G.2.1 a1]) (rv2 := fun (x : Int32) => some (.int x)) (h2 := fun (_ : Int32) => h) dL_act_116 vL_some (.inl zw309) (by decide) rfl rfl (by simp [zcat1, zcI, zcJ]) (fun x hx => kL_some G (h) (a2 >>> ((8 : Int32) &&& 31)) (5 : Int32) hx) (fun x13 => ?_)
        try dsimp only [Option.toList, List.cons_append, List.nil_append]
        refine z_iload_n (j := 4) dL_act_119 rfl rfl ?_
        refine z_bipush (v := 11) dL_act_120 (by decide) ?_
        refine z_ishr dL_act_122 ?_
        refine z_bipush (v := 7) dL_act_123 (by decide) ?_
        refine z_iand dL_act_125 ?_
        refine z_iload_n (j := 4) dL_act_126 rfl rfl ?_
        refine z_bipush (v := 14) dL_act_127 (by decide) ?_
        refine z_ishr dL_act_129 ?_
        refine z_bipush (v := 90) dL_act_130 (by decide) ?_
        refine z_callS (As := [.int (a2 >>> ((14 : Int32) &&& 31)), .int (90 : Int32)]) (rest := [.int ((a2 >>> ((11 : Int32) &&& 31)) &&& (7 : Int32)), .int x13, .int x1, zrv G.2.1 a1]) (rv2 := fun (x : Int32) => some (.int x)) (h2 := fun (_ : Int32) => h) dL_act_132 vL_some (.inl zw309) (by decide) rfl rfl (by simp [zcat1, zcI, zcJ]) (fun x hx => kL_some G (h) (a2 >>> ((14 : Int32) &&& 31)) (90 : Int32) hx) (fun x14 => ?_)
        try dsimp only [Option.toList, List.cons_append, List.nil_append]
        refine z_iconst (v := 1) dL_act_135 (by decide) ?_
        refine z_isub dL_act_136 ?_
        refine z_iload_n (j := 4) dL_act_137 rfl rfl ?_
        refine z_bipush (v := 16) dL_act_138 (by decide) ?_
        refine z_ishr dL_act_140 ?_
        refine z_bipush (v := 90) dL_act_141 (by decide) ?_
        refine z_callS (As := [.int (a2 >>> ((16 : Int32) &&& 31)), .int (90 : Int32)]) (rest := [.int (x14 - (1 : Int32)), .int ((a2 >>> ((11 : Int32) &&& 31)) &&& (7 : Int32)), .int x13, .int x1, zrv G.2.1 a1]) (rv2 := fun (x : Int32) => some (.int x)) (h2 := fun (_ : Int32) => h) dL_act_143 vL_some (.inl zw309) (by decide) rfl rfl (by simp [zcat1, zcI, zcJ]) (fun x hx => kL_some G (h) (a2 >>> ((16 : Int32) &&& 31)) (90 : Int32) hx) (fun x15 => ?_)
        try dsimp only [Option.toList, List.cons_append, List.nil_append]
        refine z_iconst (v := 1) dL_act_146 (by decide) ?_
        refine z_isub dL_act_147 ?_
        refine z_ob (fun p16 ep16 lp16 kp16 => ?_)
        refine z_callV (As := [.int x1, .int x13, .int ((a2 >>> ((11 : Int32) &&& 31)) &&& (7 : Int32)), .int (x14 - (1 : Int32)), .int (x15 - (1 : Int32))]) (rest := []) (rv2 := fun (x : Int32 × Zh) => some (.int x.1)) (h2 := fun (x : Int32 × Zh) => x.2) dL_act_148 vX5_add (.inl zw336) (by decide) zkl6 lp16 kp16 rfl (by rw [ep16]; rfl) (by decide) (fun x hx => kX5_add G h (some p16) x1 x13 ((a2 >>> ((11 : Int32) &&& 31)) &&& (7 : Int32)) (x14 - (1 : Int32)) (x15 - (1 : Int32)) hx) (fun x => ?_)
        obtain ⟨x17, h18⟩ := x
        try dsimp only [Option.toList, List.cons_append, List.nil_append]
        exact z_iret dL_act_151 rfl rfl rfl rfl
      · refine z_cases (fun n3 => ?_) (fun n3 => ?_)
        · refine z_swIn (off := 75) (tgt := 109) dL_act_34 (by rw [n3]; decide) (by rw [n3]; decide) (by rw [n3]; rfl) (by decide) ?_
          refine z_aload_n (j := 3) dL_act_109 rfl rfl ?_
          refine z_iload_n (j := 2) dL_act_110 rfl rfl ?_
          refine z_iload_n (j := 4) dL_act_111 rfl rfl ?_
          refine z_bipush (v := 8) dL_act_112 (by decide) ?_
          refine z_ishr dL_act_114 ?_
          refine z_iconst (v := 5) dL_act_115 (by decide) ?_
          refine z_callS (As := [.int (a2 >>> ((8 : Int32) &&& 31)), .int (5 : Int32)]) (rest := [.int x1, zrv G.2.1 a1]) (rv2 := fun (x : Int32) => some (.int x)) (h2 := fun (_ : Int32) => h) dL_act_116 vL_some (.inl zw309) (by decide) rfl rfl (by simp [zcat1, zcI, zcJ]) (fun x hx => kL_some G (h) (a2 >>> ((8 : Int32) &&& 31)) (5 : Int32) hx) (fun x19 => ?_)
          try dsimp only [Option.toList, List.cons_append, List.nil_append]
          refine z_iload_n (j := 4) dL_act_119 rfl rfl ?_
          refine z_bipush (v := 11) dL_act_120 (by decide) ?_
          refine z_ishr dL_act_122 ?_
          refine z_bipush (v := 7) dL_act_123 (by decide) ?_
          refine z_iand dL_act_125 ?_
          refine z_iload_n (j := 4) dL_act_126 rfl rfl ?_
          refine z_bipush (v := 14) dL_act_127 (by decide) ?_
          refine z_ishr dL_act_129 ?_
          refine z_bipush (v := 90) dL_act_130 (by decide) ?_
          refine z_callS (As := [.int (a2 >>> ((14 : Int32) &&& 31)), .int (90 : Int32)]) (rest := [.int ((a2 >>> ((11 : Int32) &&& 31)) &&& (7 : Int32)), .int x19, .int x1, zrv G.2.1 a1]) (rv2 := fun (x : Int32) => some (.int x)) (h2 := fun (_ : Int32) => h) dL_act_132 vL_some (.inl zw309) (by decide) rfl rfl (by simp [zcat1, zcI, zcJ]) (fun x hx => kL_some G (h) (a2 >>> ((14 : Int32) &&& 31)) (90 : Int32) hx) (fun x20 => ?_)
          try dsimp only [Option.toList, List.cons_append, List.nil_append]
          refine z_iconst (v := 1) dL_act_135 (by decide) ?_
          refine z_isub dL_act_136 ?_
          refine z_iload_n (j := 4) dL_act_137 rfl rfl ?_
          refine z_bipush (v := 16) dL_act_138 (by decide) ?_
          refine z_ishr dL_act_140 ?_
          refine z_bipush (v := 90) dL_act_141 (by decide) ?_
          refine z_callS (As := [.int (a2 >>> ((16 : Int32) &&& 31)), .int (90 : Int32)]) (rest := [.int (x20 - (1 : Int32)), .int ((a2 >>> ((11 : Int32) &&& 31)) &&& (7 : Int32)), .int x19, .int x1, zrv G.2.1 a1]) (rv2 := fun (x : Int32) => some (.int x)) (h2 := fun (_ : Int32) => h) dL_act_143 vL_some (.inl zw309) (by decide) rfl rfl (by simp [zcat1, zcI, zcJ]) (fun x hx => kL_some G (h) (a2 >>> ((16 : Int32) &&& 31)) (90 : Int32) hx) (fun x21 => ?_)
          try dsimp only [Option.toList, List.cons_append, List.nil_append]
          refine z_iconst (v := 1) dL_act_146 (by decide) ?_
          refine z_isub dL_act_147 ?_
          refine z_ob (fun p22 ep22 lp22 kp22 => ?_)
          refine z_callV (As := [.int x1, .int x19, .int ((a2 >>> ((11 : Int32) &&& 31)) &&& (7 : Int32)), .int (x20 - (1 : Int32)), .int (x21 - (1 : Int32))]) (rest := []) (rv2 := fun (x : Int32 × Zh) => some (.int x.1)) (h2 := fun (x : Int32 × Zh) => x.2) dL_act_148 vX5_add (.inl zw336) (by decide) zkl6 lp22 kp22 rfl (by rw [ep22]; rfl) (by decide) (fun x hx => kX5_add G h (some p22) x1 x19 ((a2 >>> ((11 : Int32) &&& 31)) &&& (7 : Int32)) (x20 - (1 : Int32)) (x21 - (1 : Int32)) hx) (fun x => ?_)
          obtain ⟨x23, h24⟩ := x
          try dsimp only [Option.toList, List.cons_append, List.nil_append]
          exact z_iret dL_act_151 rfl rfl rfl rfl
        · refine z_cases (fun n4 => ?_) (fun n4 => ?_)
          · refine z_swIn (off := 75) (tgt := 109) dL_act_34 (by rw [n4]; decide) (by rw [n4]; decide) (by rw [n4]; rfl) (by decide) ?_
            refine z_aload_n (j := 3) dL_act_109 rfl rfl ?_
            refine z_iload_n (j := 2) dL_act_110 rfl rfl ?_
            refine z_iload_n (j := 4) dL_act_111 rfl rfl ?_
            refine z_bipush (v := 8) dL_act_112 (by decide) ?_
            refine z_ishr dL_act_114 ?_
            refine z_iconst (v := 5) dL_act_115 (by decide) ?_
            refine z_callS (As := [.int (a2 >>> ((8 : Int32) &&& 31)), .int (5 : Int32)]) (rest := [.int x1, zrv G.2.1 a1]) (rv2 := fun (x : Int32) => some (.int x)) (h2 := fun (_ : Int32) => h) dL_act_116 vL_some (.inl zw309) (by decide) rfl rfl (by simp [zcat1, zcI, zcJ]) (fun x hx => kL_some G (h) (a2 >>> ((8 : Int32) &&& 31)) (5 : Int32) hx) (fun x25 => ?_)
            try dsimp only [Option.toList, List.cons_append, List.nil_append]
            refine z_iload_n (j := 4) dL_act_119 rfl rfl ?_
            refine z_bipush (v := 11) dL_act_120 (by decide) ?_
            refine z_ishr dL_act_122 ?_
            refine z_bipush (v := 7) dL_act_123 (by decide) ?_
            refine z_iand dL_act_125 ?_
            refine z_iload_n (j := 4) dL_act_126 rfl rfl ?_
            refine z_bipush (v := 14) dL_act_127 (by decide) ?_
            refine z_ishr dL_act_129 ?_
            refine z_bipush (v := 90) dL_act_130 (by decide) ?_
            refine z_callS (As := [.int (a2 >>> ((14 : Int32) &&& 31)), .int (90 : Int32)]) (rest := [.int ((a2 >>> ((11 : Int32) &&& 31)) &&& (7 : Int32)), .int x25, .int x1, zrv G.2.1 a1]) (rv2 := fun (x : Int32) => some (.int x)) (h2 := fun (_ : Int32) => h) dL_act_132 vL_some (.inl zw309) (by decide) rfl rfl (by simp [zcat1, zcI, zcJ]) (fun x hx => kL_some G (h) (a2 >>> ((14 : Int32) &&& 31)) (90 : Int32) hx) (fun x26 => ?_)
            try dsimp only [Option.toList, List.cons_append, List.nil_append]
            refine z_iconst (v := 1) dL_act_135 (by decide) ?_
            refine z_isub dL_act_136 ?_
            refine z_iload_n (j := 4) dL_act_137 rfl rfl ?_
            refine z_bipush (v := 16) dL_act_138 (by decide) ?_
            refine z_ishr dL_act_140 ?_
            refine z_bipush (v := 90) dL_act_141 (by decide) ?_
            refine z_callS (As := [.int (a2 >>> ((16 : Int32) &&& 31)), .int (90 : Int32)]) (rest := [.int (x26 - (1 : Int32)), .int ((a2 >>> ((11 : Int32) &&& 31)) &&& (7 : Int32)), .int x25, .int x1, zrv G.2.1 a1]) (rv2 := fun (x : Int32) => some (.int x)) (h2 := fun (_ : Int32) => h) dL_act_143 vL_some (.inl zw309) (by decide) rfl rfl (by simp [zcat1, zcI, zcJ]) (fun x hx => kL_some G (h) (a2 >>> ((16 : Int32) &&& 31)) (90 : Int32) hx) (fun x27 => ?_)
            try dsimp only [Option.toList, List.cons_append, List.nil_append]
            refine z_iconst (v := 1) dL_act_146 (by decide) ?_
            refine z_isub dL_act_147 ?_
            refine z_ob (fun p28 ep28 lp28 kp28 => ?_)
            refine z_callV (As := [.int x1, .int x25, .int ((a2 >>> ((11 : Int32) &&& 31)) &&& (7 : Int32)), .int (x26 - (1 : Int32)), .int (x27 - (1 : Int32))]) (rest := []) (rv2 := fun (x : Int32 × Zh) => some (.int x.1)) (h2 := fun (x : Int32 × Zh) => x.2) dL_act_148 vX5_add (.inl zw336) (by decide) zkl6 lp28 kp28 rfl (by rw [ep28]; rfl) (by decide) (fun x hx => kX5_add G h (some p28) x1 x25 ((a2 >>> ((11 : Int32) &&& 31)) &&& (7 : Int32)) (x26 - (1 : Int32)) (x27 - (1 : Int32)) hx) (fun x => ?_)
            obtain ⟨x29, h30⟩ := x
            try dsimp only [Option.toList, List.cons_append, List.nil_append]
            exact z_iret dL_act_151 rfl rfl rfl rfl
          · refine z_cases (fun n5 => ?_) (fun n5 => ?_)
            · refine z_swIn (off := 75) (tgt := 109) dL_act_34 (by rw [n5]; decide) (by rw [n5]; decide) (by rw [n5]; rfl) (by decide) ?_
              refine z_aload_n (j := 3) dL_act_109 rfl rfl ?_
              refine z_iload_n (j := 2) dL_act_110 rfl rfl ?_
              refine z_iload_n (j := 4) dL_act_111 rfl rfl ?_
              refine z_bipush (v := 8) dL_act_112 (by decide) ?_
              refine z_ishr dL_act_114 ?_
              refine z_iconst (v := 5) dL_act_115 (by decide) ?_
              refine z_callS (As := [.int (a2 >>> ((8 : Int32) &&& 31)), .int (5 : Int32)]) (rest := [.int x1, zrv G.2.1 a1]) (rv2 := fun (x : Int32) => some (.int x)) (h2 := fun (_ : Int32) => h) dL_act_116 vL_some (.inl zw309) (by decide) rfl rfl (by simp [zcat1, zcI, zcJ]) (fun x hx => kL_some G (h) (a2 >>> ((8 : Int32) &&& 31)) (5 : Int32) hx) (fun x31 => ?_)
              try dsimp only [Option.toList, List.cons_append, List.nil_append]
              refine z_iload_n (j := 4) dL_act_119 rfl rfl ?_
              refine z_bipush (v := 11) dL_act_120 (by decide) ?_
              refine z_ishr dL_act_122 ?_
              refine z_bipush (v := 7) dL_act_123 (by decide) ?_
              refine z_iand dL_act_125 ?_
              refine z_iload_n (j := 4) dL_act_126 rfl rfl ?_
              refine z_bipush (v := 14) dL_act_127 (by decide) ?_
              refine z_ishr dL_act_129 ?_
              refine z_bipush (v := 90) dL_act_130 (by decide) ?_
              refine z_callS (As := [.int (a2 >>> ((14 : Int32) &&& 31)), .int (90 : Int32)]) (rest := [.int ((a2 >>> ((11 : Int32) &&& 31)) &&& (7 : Int32)), .int x31, .int x1, zrv G.2.1 a1]) (rv2 := fun (x : Int32) => some (.int x)) (h2 := fun (_ : Int32) => h) dL_act_132 vL_some (.inl zw309) (by decide) rfl rfl (by simp [zcat1, zcI, zcJ]) (fun x hx => kL_some G (h) (a2 >>> ((14 : Int32) &&& 31)) (90 : Int32) hx) (fun x32 => ?_)
              try dsimp only [Option.toList, List.cons_append, List.nil_append]
              refine z_iconst (v := 1) dL_act_135 (by decide) ?_
              refine z_isub dL_act_136 ?_
              refine z_iload_n (j := 4) dL_act_137 rfl rfl ?_
              refine z_bipush (v := 16) dL_act_138 (by decide) ?_
              refine z_ishr dL_act_140 ?_
              refine z_bipush (v := 90) dL_act_141 (by decide) ?_
              refine z_callS (As := [.int (a2 >>> ((16 : Int32) &&& 31)), .int (90 : Int32)]) (rest := [.int (x32 - (1 : Int32)), .int ((a2 >>> ((11 : Int32) &&& 31)) &&& (7 : Int32)), .int x31, .int x1, zrv G.2.1 a1]) (rv2 := fun (x : Int32) => some (.int x)) (h2 := fun (_ : Int32) => h) dL_act_143 vL_some (.inl zw309) (by decide) rfl rfl (by simp [zcat1, zcI, zcJ]) (fun x hx => kL_some G (h) (a2 >>> ((16 : Int32) &&& 31)) (90 : Int32) hx) (fun x33 => ?_)
              try dsimp only [Option.toList, List.cons_append, List.nil_append]
              refine z_iconst (v := 1) dL_act_146 (by decide) ?_
              refine z_isub dL_act_147 ?_
              refine z_ob (fun p34 ep34 lp34 kp34 => ?_)
              refine z_callV (As := [.int x1, .int x31, .int ((a2 >>> ((11 : Int32) &&& 31)) &&& (7 : Int32)), .int (x32 - (1 : Int32)), .int (x33 - (1 : Int32))]) (rest := []) (rv2 := fun (x : Int32 × Zh) => some (.int x.1)) (h2 := fun (x : Int32 × Zh) => x.2) dL_act_148 vX5_add (.inl zw336) (by decide) zkl6 lp34 kp34 rfl (by rw [ep34]; rfl) (by decide) (fun x hx => kX5_add G h (some p34) x1 x31 ((a2 >>> ((11 : Int32) &&& 31)) &&& (7 : Int32)) (x32 - (1 : Int32)) (x33 - (1 : Int32)) hx) (fun x => ?_)
              obtain ⟨x35, h36⟩ := x
              try dsimp only [Option.toList, List.cons_append, List.nil_append]
              exact z_iret dL_act_151 rfl rfl rfl rfl
            · refine z_cases (fun n6 => ?_) (fun n6 => ?_)
              · refine z_swIn (off := 118) (tgt := 152) dL_act_34 (by rw [n6]; decide) (by rw [n6]; decide) (by rw [n6]; rfl) (by decide) ?_
                refine z_aload_n (j := 3) dL_act_152 rfl rfl ?_
                refine z_iload_n (j := 2) dL_act_153 rfl rfl ?_
                refine z_ob (fun p37 ep37 lp37 kp37 => ?_)
                refine z_callV (As := [.int x1]) (rest := []) (rv2 := fun (x : Int32 × Zh) => some (.int x.1)) (h2 := fun (x : Int32 × Zh) => x.2) dL_act_154 vX5_cut (.inl zw351) (by decide) zkl6 lp37 kp37 rfl (by rw [ep37]; rfl) (by decide) (fun x hx => kX5_cut G h (some p37) x1 hx) (fun x => ?_)
                obtain ⟨x38, h39⟩ := x
                try dsimp only [Option.toList, List.cons_append, List.nil_append]
                exact z_iret dL_act_157 rfl rfl rfl rfl
              · refine z_cases (fun n7 => ?_) (fun n7 => ?_)
                · refine z_swIn (off := 124) (tgt := 158) dL_act_34 (by rw [n7]; decide) (by rw [n7]; decide) (by rw [n7]; rfl) (by decide) ?_
                  refine z_aload_n (j := 3) dL_act_158 rfl rfl ?_
                  refine z_iload_n (j := 2) dL_act_159 rfl rfl ?_
                  refine z_iload_n (j := 4) dL_act_160 rfl rfl ?_
                  refine z_sipush (v := 256) dL_act_161 (by decide) ?_
                  refine z_iand dL_act_164 ?_
                  refine z_join (pc2 := 173) (lv2 := fun (q : Int32) => []) (st2 := fun (q : Int32) => [.int q, .int x1, zrv G.2.1 a1]) (h2 := fun (q : Int32) => h) (fun q => ?_) (fun F41 kF41 => ?_)
                  · obtain ⟨v40, e0⟩ : ∃ z, z = q := ⟨_, rfl⟩
                    subst e0
                    try dsimp only
                    refine z_ob (fun p42 ep42 lp42 kp42 => ?_)
                    refine z_callV (As := [.int x1, .int v40]) (rest := []) (rv2 := fun (x : Int32 × Zh) => some (.int x.1)) (h2 := fun (x : Int32 × Zh) => x.2) dL_act_173 vX5_drop (.inl zw355) (by decide) zkl6 lp42 kp42 rfl (by rw [ep42]; rfl) (by decide) (fun x hx => kX5_drop G h (some p42) x1 v40 hx) (fun x => ?_)
                    obtain ⟨x43, h44⟩ := x
                    try dsimp only [Option.toList, List.cons_append, List.nil_append]
                    exact z_iret dL_act_176 rfl rfl rfl rfl
                  · refine z_itb ?_
                    refine z_if_eq (tgt := 172) dL_act_165 (by decide) (fun _ => ?_) (fun _ => ?_)
                    · refine z_iconst (v := 0) dL_act_172 (by decide) ?_
                      refine z_sb ?_
                      refine z_at [] rfl ?_
                      exact kF41 (0 : Int32)
                    · refine z_iconst (v := 1) dL_act_168 (by decide) ?_
                      refine z_goto (tgt := 173) dL_act_169 (by decide) ?_
                      refine z_sb ?_
                      refine z_at [] rfl ?_
                      exact kF41 (1 : Int32)
                · refine z_cases (fun n8 => ?_) (fun n8 => ?_)
                  · refine z_swIn (off := 143) (tgt := 177) dL_act_34 (by rw [n8]; decide) (by rw [n8]; decide) (by rw [n8]; rfl) (by decide) ?_
                    refine z_aload_n (j := 3) dL_act_177 rfl rfl ?_
                    refine z_iload_n (j := 4) dL_act_178 rfl rfl ?_
                    refine z_bipush (v := 8) dL_act_179 (by decide) ?_
                    refine z_ishr dL_act_181 ?_
                    refine z_bipush (v := 8) dL_act_182 (by decide) ?_
                    refine z_callS (As := [.int (a2 >>> ((8 : Int32) &&& 31)), .int (8 : Int32)]) (rest := [zrv G.2.1 a1]) (rv2 := fun (x : Int32) => some (.int x)) (h2 := fun (_ : Int32) => h) dL_act_184 vL_some (.inl zw309) (by decide) rfl rfl (by simp [zcat1, zcI, zcJ]) (fun x hx => kL_some G (h) (a2 >>> ((8 : Int32) &&& 31)) (8 : Int32) hx) (fun x45 => ?_)
                    try dsimp only [Option.toList, List.cons_append, List.nil_append]
                    refine z_iconst (v := 1) dL_act_187 (by decide) ?_
                    refine z_isub dL_act_188 ?_
                    refine z_ob (fun p46 ep46 lp46 kp46 => ?_)
                    refine z_callV (As := [.int (x45 - (1 : Int32))]) (rest := []) (rv2 := fun (x : Int32 × Zh) => some (.int x.1)) (h2 := fun (x : Int32 × Zh) => x.2) dL_act_189 vX5_deed (.inl zw359) (by decide) zkl6 lp46 kp46 rfl (by rw [ep46]; rfl) (by decide) (fun x hx => kX5_deed G h (some p46) (x45 - (1 : Int32)) hx) (fun x => ?_)
                    obtain ⟨x47, h48⟩ := x
                    try dsimp only [Option.toList, List.cons_append, List.nil_append]
                    exact z_iret dL_act_192 rfl rfl rfl rfl
                  · refine z_cases (fun n9 => ?_) (fun n9 => ?_)
                    · refine z_swIn (off := 159) (tgt := 193) dL_act_34 (by rw [n9]; decide) (by rw [n9]; decide) (by rw [n9]; rfl) (by decide) ?_
                      refine z_aload_n (j := 3) dL_act_193 rfl rfl ?_
                      refine z_iconst (v := 2) dL_act_194 (by decide) ?_
                      refine z_iload_n (j := 4) dL_act_195 rfl rfl ?_
                      refine z_bipush (v := 19) dL_act_196 (by decide) ?_
                      refine z_ishr dL_act_198 ?_
                      refine z_iconst (v := 3) dL_act_199 (by decide) ?_
                      refine z_iand dL_act_200 ?_
                      refine z_iadd dL_act_201 ?_
                      refine z_iload_n (j := 1) dL_act_202 rfl rfl ?_
                      refine z_iload (j := 0) dL_act_203 rfl ?_
                      refine z_ob (fun p49 ep49 lp49 kp49 => ?_)
                      refine z_callV (As := [.int ((2 : Int32) + ((a2 >>> ((19 : Int32) &&& 31)) &&& (3 : Int32))), .int x2, .int x3]) (rest := []) (rv2 := fun (x : Int32 × Zh) => some (.int x.1)) (h2 := fun (x : Int32 × Zh) => x.2) dL_act_205 vX5_join (.inl zw417) (by decide) zkl6 lp49 kp49 rfl (by rw [ep49]; rfl) (by decide) (fun x hx => kX5_join G h (some p49) ((2 : Int32) + ((a2 >>> ((19 : Int32) &&& 31)) &&& (3 : Int32))) x2 x3 hx) (fun x => ?_)
                      obtain ⟨x50, h51⟩ := x
                      try dsimp only [Option.toList, List.cons_append, List.nil_append]
                      exact z_iret dL_act_208 rfl rfl rfl rfl
                    · refine z_cases (fun n10 => ?_) (fun n10 => ?_)
                      · refine z_swIn (off := 159) (tgt := 193) dL_act_34 (by rw [n10]; decide) (by rw [n10]; decide) (by rw [n10]; rfl) (by decide) ?_
                        refine z_aload_n (j := 3) dL_act_193 rfl rfl ?_
                        refine z_iconst (v := 2) dL_act_194 (by decide) ?_
                        refine z_iload_n (j := 4) dL_act_195 rfl rfl ?_
                        refine z_bipush (v := 19) dL_act_196 (by decide) ?_
                        refine z_ishr dL_act_198 ?_
                        refine z_iconst (v := 3) dL_act_199 (by decide) ?_
                        refine z_iand dL_act_200 ?_
                        refine z_iadd dL_act_201 ?_
                        refine z_iload_n (j := 1) dL_act_202 rfl rfl ?_
                        refine z_iload (j := 0) dL_act_203 rfl ?_
                        refine z_ob (fun p52 ep52 lp52 kp52 => ?_)
                        refine z_callV (As := [.int ((2 : Int32) + ((a2 >>> ((19 : Int32) &&& 31)) &&& (3 : Int32))), .int x2, .int x3]) (rest := []) (rv2 := fun (x : Int32 × Zh) => some (.int x.1)) (h2 := fun (x : Int32 × Zh) => x.2) dL_act_205 vX5_join (.inl zw417) (by decide) zkl6 lp52 kp52 rfl (by rw [ep52]; rfl) (by decide) (fun x hx => kX5_join G h (some p52) ((2 : Int32) + ((a2 >>> ((19 : Int32) &&& 31)) &&& (3 : Int32))) x2 x3 hx) (fun x => ?_)
                        obtain ⟨x53, h54⟩ := x
                        try dsimp only [Option.toList, List.cons_append, List.nil_append]
                        exact z_iret dL_act_208 rfl rfl rfl rfl
                      · refine z_cases (fun n11 => ?_) (fun n11 => ?_)
                        · refine z_swIn (off := 175) (tgt := 209) dL_act_34 (by rw [n11]; decide) (by rw [n11]; decide) (by rw [n11]; rfl) (by decide) ?_
                          refine z_aload_n (j := 3) dL_act_209 rfl rfl ?_
                          refine z_iload_n (j := 1) dL_act_210 rfl rfl ?_
                          refine z_iload (j := 0) dL_act_211 rfl ?_
                          refine z_ob (fun p55 ep55 lp55 kp55 => ?_)
                          refine z_callV (As := [.int x2, .int x3]) (rest := []) (rv2 := fun (x : Int32 × Zh) => some (.int x.1)) (h2 := fun (x : Int32 × Zh) => x.2) dL_act_213 vX5_more (.inl zw424) (by decide) zkl6 lp55 kp55 rfl (by rw [ep55]; rfl) (by decide) (fun x hx => kX5_more G h (some p55) x2 x3 hx) (fun x => ?_)
                          obtain ⟨x56, h57⟩ := x
                          try dsimp only [Option.toList, List.cons_append, List.nil_append]
                          exact z_iret dL_act_216 rfl rfl rfl rfl
                        · refine z_cases (fun n12 => ?_) (fun n12 => ?_)
                          · refine z_swIn (off := 183) (tgt := 217) dL_act_34 (by rw [n12]; decide) (by rw [n12]; decide) (by rw [n12]; rfl) (by decide) ?_
                            refine z_aload_n (j := 3) dL_act_217 rfl rfl ?_
                            refine z_iload_n (j := 1) dL_act_218 rfl rfl ?_
                            refine z_ob (fun p58 ep58 lp58 kp58 => ?_)
                            refine z_callV (As := [.int x2]) (rest := []) (rv2 := fun (x : Int32 × Zh) => some (.int x.1)) (h2 := fun (x : Int32 × Zh) => x.2) dL_act_219 vX5_plain (.inl zw428) (by decide) zkl6 lp58 kp58 rfl (by rw [ep58]; rfl) (by decide) (fun x hx => kX5_plain G c hc h (some p58) x2 hx) (fun x => ?_)
                            obtain ⟨x59, h60⟩ := x
                            try dsimp only [Option.toList, List.cons_append, List.nil_append]
                            exact z_iret dL_act_222 rfl rfl rfl rfl
                          · refine z_cases (fun n13 => ?_) (fun n13 => ?_)
                            · refine z_swIn (off := 189) (tgt := 223) dL_act_34 (by rw [n13]; decide) (by rw [n13]; decide) (by rw [n13]; rfl) (by decide) ?_
                              refine z_aload_n (j := 3) dL_act_223 rfl rfl ?_
                              refine z_ob (fun p61 ep61 lp61 kp61 => ?_)
                              refine z_callV (As := []) (rest := []) (rv2 := fun (x : Int32 × Zh) => some (.int x.1)) (h2 := fun (x : Int32 × Zh) => x.2) dL_act_224 vX5_find (.inl zw544) (by decide) zkl6 lp61 kp61 rfl (by rw [ep61]; rfl) (by decide) (fun x hx => kX5_find G h (some p61) hx) (fun x => ?_)
                              obtain ⟨x62, h63⟩ := x
                              try dsimp only [Option.toList, List.cons_append, List.nil_append]
                              exact z_iret dL_act_227 rfl rfl rfl rfl
                            · refine z_swOut (tgt := 228) dL_act_34 (zsw14 n0 n1 n2 n3 n4 n5 n6 n7 n8 n9 n10 n11 n12 n13) (by decide) ?_
                              refine z_aload_n (j := 3) dL_act_228 rfl rfl ?_
                              refine z_iload_n (j := 2) dL_act_229 rfl rfl ?_
                              refine z_iload_n (j := 1) dL_act_230 rfl rfl ?_
                              refine z_ob (fun p64 ep64 lp64 kp64 => ?_)
                              refine z_callV (As := [.int x1, .int x2]) (rest := []) (rv2 := fun (x : Int32 × Zh) => some (.int x.1)) (h2 := fun (x : Int32 × Zh) => x.2) dL_act_231 vX5_price (.inl zw186) (by decide) zkl6 lp64 kp64 rfl (by rw [ep64]; rfl) (by decide) (fun x hx => kX5_price G h (some p64) x1 x2 hx) (fun x => ?_)
                              obtain ⟨x65, h66⟩ := x
                              try dsimp only [Option.toList, List.cons_append, List.nil_append]
                              refine z_sipush (v := 1000) dL_act_234 (by decide) ?_
                              refine z_aload_n (j := 3) dL_act_237 rfl rfl ?_
                              refine z_iload_n (j := 2) dL_act_238 rfl rfl ?_
                              refine z_iload_n (j := 1) dL_act_239 rfl rfl ?_
                              refine z_ob (fun p67 ep67 lp67 kp67 => ?_)
                              refine z_callV (As := [.int x1, .int x2]) (rest := [.int (1000 : Int32), .int x65]) (rv2 := fun (x : Int32 × Zh) => some (.int x.1)) (h2 := fun (x : Int32 × Zh) => x.2) dL_act_240 vX5_both (.inl zw257) (by decide) zkl6 lp67 kp67 rfl (by rw [ep67]; rfl) (by simp [zcat1, zcI, zcJ]) (fun x hx => kX5_both G h66 (some p67) x1 x2 hx) (fun x => ?_)
                              obtain ⟨x68, h69⟩ := x
                              try dsimp only [Option.toList, List.cons_append, List.nil_append]
                              refine z_imul dL_act_243 ?_
                              refine z_iadd dL_act_244 ?_
                              exact z_iret dL_act_245 rfl rfl rfl rfl
def fL_asked (h : Zh) (a1 : Option Nat) (a2 : Int32) : Option (Int32 × Zh) :=
  (fL_some a2 (40 : Int32)).bind fun x1 =>
  (zob h a1 7).bind fun p2 =>
  (fX5_shortest h (some p2) x1).bind fun x3 =>
  (zob h a1 7).bind fun p4 =>
  (fX5_count h (some p4) (4 : Int32)).bind fun x5 =>
  (if x5 ≤ x1 then
    some (0 : Int32)
  else
    some (1 : Int32)).bind fun (v6 : Int32) =>
  (if x3 < 0 then
    some (0 : Int32)
  else
    some (1 : Int32)).bind fun (v8 : Int32) =>
  (if v6 = v8 then
    if v6 = 0 then
      some ((1 : Int32), h)
    else
      (zob h a1 7).bind fun p13 =>
      (fX5_fit h (some p13) x1 (1 : Int32)).bind fun ((x14, h15) : Int32 × Zh) =>
      (zob h15 a1 7).bind fun p16 =>
      (fX5_fit h15 (some p16) x1 (2 : Int32)).bind fun ((x17, h18) : Int32 × Zh) =>
      if x17 < x14 then
        some ((0 : Int32), h18)
      else
        (zob h18 a1 7).bind fun p19 =>
        (fX5_fit h18 (some p19) x1 (1 : Int32)).bind fun ((x20, h21) : Int32 × Zh) =>
        if x20 < 0 then
          some ((0 : Int32), h21)
        else
          (zob h21 a1 7).bind fun p22 =>
          (fX5_like h21 (some p22) x1 x1).bind fun x23 =>
          if x23 = (1 : Int32) then
            (zob h21 a1 7).bind fun p24 =>
            (fX5_piece h21 (some p24) x1 (3 : Int32)).bind fun x25 =>
            if x25 < (1 : Int32) then
              some ((0 : Int32), h21)
            else
              (zob h21 a1 7).bind fun p26 =>
              (fX5_piece h21 (some p26) x1 (3 : Int32)).bind fun x27 =>
              if (60 : Int32) < x27 then
                some ((0 : Int32), h21)
              else
                some ((1 : Int32), h21)
          else
            some ((0 : Int32), h21)
  else
    some ((0 : Int32), h)).bind fun ((v10, h11) : Int32 × Zh) =>
  (if v10 = 0 then
    some ((0 : Int32), h11)
  else
    (zob h11 a1 7).bind fun p31 =>
    (fX5_join h11 (some p31) (1 : Int32) (0 : Int32) (0 : Int32)).bind fun ((x32, h33) : Int32 × Zh) =>
    if x32 = (-1 : Int32) then
      (zob h33 a1 7).bind fun p34 =>
      (fX5_more h33 (some p34) (-1 : Int32) (0 : Int32)).bind fun ((x35, h36) : Int32 × Zh) =>
      if x35 = (-1 : Int32) then
        (zob h36 a1 7).bind fun p37 =>
        (fX5_deed h36 (some p37) (12 : Int32)).bind fun ((x38, h39) : Int32 × Zh) =>
        if x38 = (-1 : Int32) then
          (zob h39 a1 7).bind fun p40 =>
          (fX5_add h39 (some p40) (-1 : Int32) (0 : Int32) (0 : Int32) (0 : Int32) (0 : Int32)).bind fun ((x41, h42) : Int32 × Zh) =>
          if x41 = (-1 : Int32) then
            (zob h42 a1 7).bind fun p43 =>
            (fX5_drop h42 (some p43) (24 : Int32) (1 : Int32)).bind fun ((x44, h45) : Int32 × Zh) =>
            if x44 = (-1 : Int32) then
              (zob h45 a1 7).bind fun p46 =>
              (fX5_follows h45 (some p46) (0 : Int32) (12 : Int32)).bind fun x47 =>
              if x47 = (-1 : Int32) then
                (zob h45 a1 7).bind fun p48 =>
                (fX5_told h45 (some p48) (24 : Int32) (0 : Int32) (0 : Int32)).bind fun x49 =>
                if x49 = (-9 : Int32) then
                  some ((1 : Int32), h45)
                else
                  some ((0 : Int32), h45)
              else
                some ((0 : Int32), h45)
            else
              some ((0 : Int32), h45)
          else
            some ((0 : Int32), h42)
        else
          some ((0 : Int32), h39)
      else
        some ((0 : Int32), h36)
    else
      some ((0 : Int32), h33)).bind fun ((v28, h29) : Int32 × Zh) =>
  (zbo v28).bind fun _ =>
  some (v28, h29)
set_option maxRecDepth 100000 in
set_option maxHeartbeats 4000000 in
theorem kL_asked (G : Zg) (h : Zh) (a1 : Option Nat) (a2 : Int32) {x : Int32 × Zh} (hx : fL_asked h a1 a2 = some x) : zCt G yL_asked cL_asked 6 (Option.some Jvm.ClassFile.FieldType.boolean) 70 [zrv G.2.1 a1, .int a2] h (some (.int x.1)) x.2 := by
  refine z_met (a := x) (rvf := fun (x : Int32 × Zh) => some (.int x.1)) (hff := fun (x : Int32 × Zh) => x.2) (lv := [(0, zrv G.2.1 a1), (1, .int a2)]) (by decide +kernel) (by simp [lg_sl, zcat1, zcI, zcJ]) (by simp [lv_args, zcat1, zcI, zcJ]) ?_ hx
  unfold fL_asked
  refine z_iload_n (j := 1) dL_asked_0 rfl rfl ?_
  refine z_bipush (v := 40) dL_asked_1 (by decide) ?_
  refine z_callS (As := [.int a2, .int (40 : Int32)]) (rest := []) (rv2 := fun (x : Int32) => some (.int x)) (h2 := fun (_ : Int32) => h) dL_asked_3 vL_some (.inl zw309) (by decide) rfl rfl (by decide) (fun x hx => kL_some G (h) a2 (40 : Int32) hx) (fun x1 => ?_)
  try dsimp only [Option.toList, List.cons_append, List.nil_append]
  refine z_istore_n (i := 2) (lv' := [(2, .int x1), (0, zrv G.2.1 a1), (1, .int a2)]) dL_asked_6 rfl (by decide) rfl ?_
  refine z_aload_n (j := 1) dL_asked_7 rfl rfl ?_
  refine z_iload_n (j := 0) dL_asked_8 rfl rfl ?_
  refine z_ob (fun p2 ep2 lp2 kp2 => ?_)
  refine z_callV (As := [.int x1]) (rest := []) (rv2 := fun (x : Int32) => some (.int x)) (h2 := fun (_ : Int32) => h) dL_asked_9 vX5_shortest (.inl zw261) (by decide) zkl6 lp2 kp2 rfl (by rw [ep2]; rfl) (by decide) (fun x hx => kX5_shortest G h (some p2) x1 hx) (fun x3 => ?_)
  try dsimp only [Option.toList, List.cons_append, List.nil_append]
  refine z_istore_n (i := 3) (lv' := [(3, .int x3), (2, .int x1), (0, zrv G.2.1 a1), (1, .int a2)]) dL_asked_12 rfl (by decide) rfl ?_
  refine z_iload_n (j := 1) dL_asked_13 rfl rfl ?_
  refine z_aload_n (j := 2) dL_asked_14 rfl rfl ?_
  refine z_iconst (v := 4) dL_asked_15 (by decide) ?_
  refine z_ob (fun p4 ep4 lp4 kp4 => ?_)
  refine z_callV (As := [.int (4 : Int32)]) (rest := [.int x1]) (rv2 := fun (x : Int32) => some (.int x)) (h2 := fun (_ : Int32) => h) dL_asked_16 vX5_count (.inl zw265) (by decide) zkl6 lp4 kp4 rfl (by rw [ep4]; rfl) (by simp [zcat1, zcI, zcJ]) (fun x hx => kX5_count G h (some p4) (4 : Int32) hx) (fun x5 => ?_)
  try dsimp only [Option.toList, List.cons_append, List.nil_append]
  refine z_join (pc2 := 27) (lv2 := fun (q : Int32) => [(0, zrv G.2.1 a1), (2, .int x1), (3, .int x3)]) (st2 := fun (q : Int32) => [.int q]) (h2 := fun (q : Int32) => h) (fun q => ?_) (fun F7 kF7 => ?_)
  · obtain ⟨v6, e0⟩ : ∃ z, z = q := ⟨_, rfl⟩
    subst e0
    try dsimp only
    refine z_istore (i := 4) (lv' := [(4, .int v6), (0, zrv G.2.1 a1), (2, .int x1), (3, .int x3)]) dL_asked_27 (by decide) rfl ?_
    refine z_iload (j := 0) dL_asked_29 rfl ?_
    refine z_iload_n (j := 3) dL_asked_31 rfl rfl ?_
    refine z_join (pc2 := 40) (lv2 := fun (q : Int32) => [(0, zrv G.2.1 a1), (2, .int x1), (4, .int v6)]) (st2 := fun (q : Int32) => [.int q, .int v6]) (h2 := fun (q : Int32) => h) (fun q => ?_) (fun F9 kF9 => ?_)
    · obtain ⟨v8, e0⟩ : ∃ z, z = q := ⟨_, rfl⟩
      subst e0
      try dsimp only
      refine z_join (pc2 := 108) (lv2 := fun (q : Int32 × Zh) => [(0, zrv G.2.1 a1)]) (st2 := fun (q : Int32 × Zh) => [.int q.1]) (h2 := fun (q : Int32 × Zh) => q.2) (fun q => ?_) (fun F12 kF12 => ?_)
      · obtain ⟨v10, h11⟩ := q
        try dsimp only
        refine z_istore (i := 5) (lv' := [(5, .int v10), (0, zrv G.2.1 a1)]) dL_asked_108 (by decide) rfl ?_
        refine z_iload (j := 0) dL_asked_110 rfl ?_
        refine z_join (pc2 := 199) (lv2 := fun (q : Int32 × Zh) => []) (st2 := fun (q : Int32 × Zh) => [.int q.1]) (h2 := fun (q : Int32 × Zh) => q.2) (fun q => ?_) (fun F30 kF30 => ?_)
        · obtain ⟨v28, h29⟩ := q
          try dsimp only
          refine z_bo (fun hbb50 => ?_)
          exact z_iret dL_asked_199 rfl (by rcases hbb50 with q | q <;> rw [q] <;> rfl) rfl rfl
        · refine z_itb ?_
          refine z_if_eq (tgt := 198) dL_asked_112 (by decide) (fun _ => ?_) (fun _ => ?_)
          · refine z_iconst (v := 0) dL_asked_198 (by decide) ?_
            refine z_sb ?_
            refine z_at [] rfl ?_
            exact kF30 ((0 : Int32), h11)
          · refine z_aload_n (j := 1) dL_asked_115 rfl rfl ?_
            refine z_iconst (v := 1) dL_asked_116 (by decide) ?_
            refine z_iconst (v := 0) dL_asked_117 (by decide) ?_
            refine z_iconst (v := 0) dL_asked_118 (by decide) ?_
            refine z_as ?_
            refine z_ob (fun p31 ep31 lp31 kp31 => ?_)
            refine z_as ?_
            refine z_callV (As := [.int (1 : Int32), .int (0 : Int32), .int (0 : Int32)]) (rest := []) (rv2 := fun (x : Int32 × Zh) => some (.int x.1)) (h2 := fun (x : Int32 × Zh) => x.2) dL_asked_119 vX5_join (.inl zw417) (by decide) zkl6 lp31 kp31 rfl (by rw [ep31]; rfl) (by decide) (fun x hx => kX5_join G h11 (some p31) (1 : Int32) (0 : Int32) (0 : Int32) hx) (fun x => ?_)
            obtain ⟨x32, h33⟩ := x
            try dsimp only [Option.toList, List.cons_append, List.nil_append]
            refine z_iconst (v := -1) dL_asked_122 (by decide) ?_
            refine z_itb ?_
            refine z_icmp_ne (tgt := 198) dL_asked_123 (by decide) (fun _ => ?_) (fun _ => ?_)
            · refine z_aload_n (j := 1) dL_asked_126 rfl rfl ?_
              refine z_iconst (v := -1) dL_asked_127 (by decide) ?_
              refine z_iconst (v := 0) dL_asked_128 (by decide) ?_
              refine z_as ?_
              refine z_ob (fun p34 ep34 lp34 kp34 => ?_)
              refine z_as ?_
              refine z_callV (As := [.int (-1 : Int32), .int (0 : Int32)]) (rest := []) (rv2 := fun (x : Int32 × Zh) => some (.int x.1)) (h2 := fun (x : Int32 × Zh) => x.2) dL_asked_129 vX5_more (.inl zw424) (by decide) zkl6 lp34 kp34 rfl (by rw [ep34]; rfl) (by decide) (fun x hx => kX5_more G h33 (some p34) (-1 : Int32) (0 : Int32) hx) (fun x => ?_)
              obtain ⟨x35, h36⟩ := x
              try dsimp only [Option.toList, List.cons_append, List.nil_append]
              refine z_iconst (v := -1) dL_asked_132 (by decide) ?_
              refine z_itb ?_
              refine z_icmp_ne (tgt := 198) dL_asked_133 (by decide) (fun _ => ?_) (fun _ => ?_)
              · refine z_aload_n (j := 1) dL_asked_136 rfl rfl ?_
                refine z_bipush (v := 12) dL_asked_137 (by decide) ?_
                refine z_as ?_
                refine z_ob (fun p37 ep37 lp37 kp37 => ?_)
                refine z_as ?_
                refine z_callV (As := [.int (12 : Int32)]) (rest := []) (rv2 := fun (x : Int32 × Zh) => some (.int x.1)) (h2 := fun (x : Int32 × Zh) => x.2) dL_asked_139 vX5_deed (.inl zw359) (by decide) zkl6 lp37 kp37 rfl (by rw [ep37]; rfl) (by decide) (fun x hx => kX5_deed G h36 (some p37) (12 : Int32) hx) (fun x => ?_)
                obtain ⟨x38, h39⟩ := x
                try dsimp only [Option.toList, List.cons_append, List.nil_append]
                refine z_iconst (v := -1) dL_asked_142 (by decide) ?_
                refine z_itb ?_
                refine z_icmp_ne (tgt := 198) dL_asked_143 (by decide) (fun _ => ?_) (fun _ => ?_)
                · refine z_aload_n (j := 1) dL_asked_146 rfl rfl ?_
                  refine z_iconst (v := -1) dL_asked_147 (by decide) ?_
                  refine z_iconst (v := 0) dL_asked_148 (by decide) ?_
                  refine z_iconst (v := 0) dL_asked_149 (by decide) ?_
                  refine z_iconst (v := 0) dL_asked_150 (by decide) ?_
                  refine z_iconst (v := 0) dL_asked_151 (by decide) ?_
                  refine z_as ?_
                  refine z_ob (fun p40 ep40 lp40 kp40 => ?_)
                  refine z_as ?_
                  refine z_callV (As := [.int (-1 : Int32), .int (0 : Int32), .int (0 : Int32), .int (0 : Int32), .int (0 : Int32)]) (rest := []) (rv2 := fun (x : Int32 × Zh) => some (.int x.1)) (h2 := fun (x : Int32 × Zh) => x.2) dL_asked_152 vX5_add (.inl zw336) (by decide) zkl6 lp40 kp40 rfl (by rw [ep40]; rfl) (by decide) (fun x hx => kX5_add G h39 (some p40) (-1 : Int32) (0 : Int32) (0 : Int32) (0 : Int32) (0 : Int32) hx) (fun x => ?_)
                  obtain ⟨x41, h42⟩ := x
                  try dsimp only [Option.toList, List.cons_append, List.nil_append]
                  refine z_iconst (v := -1) dL_asked_155 (by decide) ?_
                  refine z_itb ?_
                  refine z_icmp_ne (tgt := 198) dL_asked_156 (by decide) (fun _ => ?_) (fun _ => ?_)
                  · refine z_aload_n (j := 1) dL_asked_159 rfl rfl ?_
                    refine z_bipush (v := 24) dL_asked_160 (by decide) ?_
                    refine z_iconst (v := 1) dL_asked_162 (by decide) ?_
                    refine z_as ?_
                    refine z_ob (fun p43 ep43 lp43 kp43 => ?_)
                    refine z_as ?_
                    refine z_callV (As := [.int (24 : Int32), .int (1 : Int32)]) (rest := []) (rv2 := fun (x : Int32 × Zh) => some (.int x.1)) (h2 := fun (x : Int32 × Zh) => x.2) dL_asked_163 vX5_drop (.inl zw355) (by decide) zkl6 lp43 kp43 rfl (by rw [ep43]; rfl) (by decide) (fun x hx => kX5_drop G h42 (some p43) (24 : Int32) (1 : Int32) hx) (fun x => ?_)
                    obtain ⟨x44, h45⟩ := x
                    try dsimp only [Option.toList, List.cons_append, List.nil_append]
                    refine z_iconst (v := -1) dL_asked_166 (by decide) ?_
                    refine z_itb ?_
                    refine z_icmp_ne (tgt := 198) dL_asked_167 (by decide) (fun _ => ?_) (fun _ => ?_)
                    · refine z_aload_n (j := 1) dL_asked_170 rfl rfl ?_
                      refine z_iconst (v := 0) dL_asked_171 (by decide) ?_
                      refine z_bipush (v := 12) dL_asked_172 (by decide) ?_
                      refine z_as ?_
                      refine z_ob (fun p46 ep46 lp46 kp46 => ?_)
                      refine z_as ?_
                      refine z_callV (As := [.int (0 : Int32), .int (12 : Int32)]) (rest := []) (rv2 := fun (x : Int32) => some (.int x)) (h2 := fun (_ : Int32) => h45) dL_asked_174 vX5_follows (.inl zw659) (by decide) zkl6 lp46 kp46 rfl (by rw [ep46]; rfl) (by decide) (fun x hx => kX5_follows G h45 (some p46) (0 : Int32) (12 : Int32) hx) (fun x47 => ?_)
                      try dsimp only [Option.toList, List.cons_append, List.nil_append]
                      refine z_iconst (v := -1) dL_asked_177 (by decide) ?_
                      refine z_itb ?_
                      refine z_icmp_ne (tgt := 198) dL_asked_178 (by decide) (fun _ => ?_) (fun _ => ?_)
                      · refine z_aload_n (j := 1) dL_asked_181 rfl rfl ?_
                        refine z_bipush (v := 24) dL_asked_182 (by decide) ?_
                        refine z_iconst (v := 0) dL_asked_184 (by decide) ?_
                        refine z_iconst (v := 0) dL_asked_185 (by decide) ?_
                        refine z_as ?_
                        refine z_ob (fun p48 ep48 lp48 kp48 => ?_)
                        refine z_as ?_
                        refine z_callV (As := [.int (24 : Int32), .int (0 : Int32), .int (0 : Int32)]) (rest := []) (rv2 := fun (x : Int32) => some (.int x)) (h2 := fun (_ : Int32) => h45) dL_asked_186 vX5_told (.inl zw173) (by decide) zkl6 lp48 kp48 rfl (by rw [ep48]; rfl) (by decide) (fun x hx => kX5_told G h45 (some p48) (24 : Int32) (0 : Int32) (0 : Int32) hx) (fun x49 => ?_)
                        try dsimp only [Option.toList, List.cons_append, List.nil_append]
                        refine z_bipush (v := -9) dL_asked_189 (by decide) ?_
                        refine z_itb ?_
                        refine z_icmp_ne (tgt := 198) dL_asked_191 (by decide) (fun _ => ?_) (fun _ => ?_)
                        · refine z_iconst (v := 1) dL_asked_194 (by decide) ?_
                          refine z_goto (tgt := 199) dL_asked_195 (by decide) ?_
                          refine z_sb ?_
                          refine z_at [] rfl ?_
                          exact kF30 ((1 : Int32), h45)
                        · refine z_iconst (v := 0) dL_asked_198 (by decide) ?_
                          refine z_sb ?_
                          refine z_at [] rfl ?_
                          exact kF30 ((0 : Int32), h45)
                      · refine z_iconst (v := 0) dL_asked_198 (by decide) ?_
                        refine z_sb ?_
                        refine z_at [] rfl ?_
                        exact kF30 ((0 : Int32), h45)
                    · refine z_iconst (v := 0) dL_asked_198 (by decide) ?_
                      refine z_sb ?_
                      refine z_at [] rfl ?_
                      exact kF30 ((0 : Int32), h45)
                  · refine z_iconst (v := 0) dL_asked_198 (by decide) ?_
                    refine z_sb ?_
                    refine z_at [] rfl ?_
                    exact kF30 ((0 : Int32), h42)
                · refine z_iconst (v := 0) dL_asked_198 (by decide) ?_
                  refine z_sb ?_
                  refine z_at [] rfl ?_
                  exact kF30 ((0 : Int32), h39)
              · refine z_iconst (v := 0) dL_asked_198 (by decide) ?_
                refine z_sb ?_
                refine z_at [] rfl ?_
                exact kF30 ((0 : Int32), h36)
            · refine z_iconst (v := 0) dL_asked_198 (by decide) ?_
              refine z_sb ?_
              refine z_at [] rfl ?_
              exact kF30 ((0 : Int32), h33)
      · refine z_itb ?_
        refine z_icmp_ne (tgt := 107) dL_asked_40 (by decide) (fun _ => ?_) (fun _ => ?_)
        · refine z_iload (j := 2) dL_asked_43 rfl ?_
          refine z_itb ?_
          refine z_if_eq (tgt := 103) dL_asked_45 (by decide) (fun _ => ?_) (fun _ => ?_)
          · refine z_iconst (v := 1) dL_asked_103 (by decide) ?_
            refine z_goto (tgt := 108) dL_asked_104 (by decide) ?_
            refine z_sb ?_
            refine z_at [0] rfl ?_
            exact kF12 ((1 : Int32), h)
          · refine z_aload_n (j := 0) dL_asked_48 rfl rfl ?_
            refine z_iload_n (j := 1) dL_asked_49 rfl rfl ?_
            refine z_iconst (v := 1) dL_asked_50 (by decide) ?_
            refine z_as ?_
            refine z_ob (fun p13 ep13 lp13 kp13 => ?_)
            refine z_as ?_
            refine z_callV (As := [.int x1, .int (1 : Int32)]) (rest := []) (rv2 := fun (x : Int32 × Zh) => some (.int x.1)) (h2 := fun (x : Int32 × Zh) => x.2) dL_asked_51 vX5_fit (.inl zw647) (by decide) zkl6 lp13 kp13 rfl (by rw [ep13]; rfl) (by decide) (fun x hx => kX5_fit G h (some p13) x1 (1 : Int32) hx) (fun x => ?_)
            obtain ⟨x14, h15⟩ := x
            try dsimp only [Option.toList, List.cons_append, List.nil_append]
            refine z_aload_n (j := 0) dL_asked_54 rfl rfl ?_
            refine z_iload_n (j := 1) dL_asked_55 rfl rfl ?_
            refine z_iconst (v := 2) dL_asked_56 (by decide) ?_
            refine z_as ?_
            refine z_ob (fun p16 ep16 lp16 kp16 => ?_)
            refine z_as ?_
            refine z_callV (As := [.int x1, .int (2 : Int32)]) (rest := [.int x14]) (rv2 := fun (x : Int32 × Zh) => some (.int x.1)) (h2 := fun (x : Int32 × Zh) => x.2) dL_asked_57 vX5_fit (.inl zw647) (by decide) zkl6 lp16 kp16 rfl (by rw [ep16]; rfl) (by simp [zcat1, zcI, zcJ]) (fun x hx => kX5_fit G h15 (some p16) x1 (2 : Int32) hx) (fun x => ?_)
            obtain ⟨x17, h18⟩ := x
            try dsimp only [Option.toList, List.cons_append, List.nil_append]
            refine z_itb ?_
            refine z_icmp_gt (tgt := 107) dL_asked_60 (by decide) (fun _ => ?_) (fun _ => ?_)
            · refine z_iconst (v := 0) dL_asked_107 (by decide) ?_
              refine z_sb ?_
              refine z_at [0] rfl ?_
              exact kF12 ((0 : Int32), h18)
            · refine z_aload_n (j := 0) dL_asked_63 rfl rfl ?_
              refine z_iload_n (j := 1) dL_asked_64 rfl rfl ?_
              refine z_iconst (v := 1) dL_asked_65 (by decide) ?_
              refine z_as ?_
              refine z_ob (fun p19 ep19 lp19 kp19 => ?_)
              refine z_as ?_
              refine z_callV (As := [.int x1, .int (1 : Int32)]) (rest := []) (rv2 := fun (x : Int32 × Zh) => some (.int x.1)) (h2 := fun (x : Int32 × Zh) => x.2) dL_asked_66 vX5_fit (.inl zw647) (by decide) zkl6 lp19 kp19 rfl (by rw [ep19]; rfl) (by decide) (fun x hx => kX5_fit G h18 (some p19) x1 (1 : Int32) hx) (fun x => ?_)
              obtain ⟨x20, h21⟩ := x
              try dsimp only [Option.toList, List.cons_append, List.nil_append]
              refine z_itb ?_
              refine z_if_lt (tgt := 107) dL_asked_69 (by decide) (fun _ => ?_) (fun _ => ?_)
              · refine z_iconst (v := 0) dL_asked_107 (by decide) ?_
                refine z_sb ?_
                refine z_at [0] rfl ?_
                exact kF12 ((0 : Int32), h21)
              · refine z_aload_n (j := 0) dL_asked_72 rfl rfl ?_
                refine z_iload_n (j := 1) dL_asked_73 rfl rfl ?_
                refine z_iload_n (j := 1) dL_asked_74 rfl rfl ?_
                refine z_as ?_
                refine z_ob (fun p22 ep22 lp22 kp22 => ?_)
                refine z_as ?_
                refine z_callV (As := [.int x1, .int x1]) (rest := []) (rv2 := fun (x : Int32) => some (.int x)) (h2 := fun (_ : Int32) => h21) dL_asked_75 vX5_like (.inl zw651) (by decide) zkl6 lp22 kp22 rfl (by rw [ep22]; rfl) (by decide) (fun x hx => kX5_like G h21 (some p22) x1 x1 hx) (fun x23 => ?_)
                try dsimp only [Option.toList, List.cons_append, List.nil_append]
                refine z_iconst (v := 1) dL_asked_78 (by decide) ?_
                refine z_itb ?_
                refine z_icmp_ne (tgt := 107) dL_asked_79 (by decide) (fun _ => ?_) (fun _ => ?_)
                · refine z_aload_n (j := 0) dL_asked_82 rfl rfl ?_
                  refine z_iload_n (j := 1) dL_asked_83 rfl rfl ?_
                  refine z_iconst (v := 3) dL_asked_84 (by decide) ?_
                  refine z_as ?_
                  refine z_ob (fun p24 ep24 lp24 kp24 => ?_)
                  refine z_as ?_
                  refine z_callV (As := [.int x1, .int (3 : Int32)]) (rest := []) (rv2 := fun (x : Int32) => some (.int x)) (h2 := fun (_ : Int32) => h21) dL_asked_85 vX5_piece (.inl zw655) (by decide) zkl6 lp24 kp24 rfl (by rw [ep24]; rfl) (by decide) (fun x hx => kX5_piece G h21 (some p24) x1 (3 : Int32) hx) (fun x25 => ?_)
                  try dsimp only [Option.toList, List.cons_append, List.nil_append]
                  refine z_iconst (v := 1) dL_asked_88 (by decide) ?_
                  refine z_itb ?_
                  refine z_icmp_lt (tgt := 107) dL_asked_89 (by decide) (fun _ => ?_) (fun _ => ?_)
                  · refine z_iconst (v := 0) dL_asked_107 (by decide) ?_
                    refine z_sb ?_
                    refine z_at [0] rfl ?_
                    exact kF12 ((0 : Int32), h21)
                  · refine z_aload_n (j := 0) dL_asked_92 rfl rfl ?_
                    refine z_iload_n (j := 1) dL_asked_93 rfl rfl ?_
                    refine z_iconst (v := 3) dL_asked_94 (by decide) ?_
                    refine z_as ?_
                    refine z_ob (fun p26 ep26 lp26 kp26 => ?_)
                    refine z_as ?_
                    refine z_callV (As := [.int x1, .int (3 : Int32)]) (rest := []) (rv2 := fun (x : Int32) => some (.int x)) (h2 := fun (_ : Int32) => h21) dL_asked_95 vX5_piece (.inl zw655) (by decide) zkl6 lp26 kp26 rfl (by rw [ep26]; rfl) (by decide) (fun x hx => kX5_piece G h21 (some p26) x1 (3 : Int32) hx) (fun x27 => ?_)
                    try dsimp only [Option.toList, List.cons_append, List.nil_append]
                    refine z_bipush (v := 60) dL_asked_98 (by decide) ?_
                    refine z_itb ?_
                    refine z_icmp_gt (tgt := 107) dL_asked_100 (by decide) (fun _ => ?_) (fun _ => ?_)
                    · refine z_iconst (v := 0) dL_asked_107 (by decide) ?_
                      refine z_sb ?_
                      refine z_at [0] rfl ?_
                      exact kF12 ((0 : Int32), h21)
                    · refine z_iconst (v := 1) dL_asked_103 (by decide) ?_
                      refine z_goto (tgt := 108) dL_asked_104 (by decide) ?_
                      refine z_sb ?_
                      refine z_at [0] rfl ?_
                      exact kF12 ((1 : Int32), h21)
                · refine z_iconst (v := 0) dL_asked_107 (by decide) ?_
                  refine z_sb ?_
                  refine z_at [0] rfl ?_
                  exact kF12 ((0 : Int32), h21)
        · refine z_iconst (v := 0) dL_asked_107 (by decide) ?_
          refine z_sb ?_
          refine z_at [0] rfl ?_
          exact kF12 ((0 : Int32), h)
    · refine z_itb ?_
      refine z_if_lt (tgt := 39) dL_asked_32 (by decide) (fun _ => ?_) (fun _ => ?_)
      · refine z_iconst (v := 0) dL_asked_39 (by decide) ?_
        refine z_sb ?_
        refine z_at [1, 2, 0] rfl ?_
        exact kF9 (0 : Int32)
      · refine z_iconst (v := 1) dL_asked_35 (by decide) ?_
        refine z_goto (tgt := 40) dL_asked_36 (by decide) ?_
        refine z_sb ?_
        refine z_at [1, 2, 0] rfl ?_
        exact kF9 (1 : Int32)
  · refine z_itb ?_
    refine z_icmp_ge (tgt := 26) dL_asked_19 (by decide) (fun _ => ?_) (fun _ => ?_)
    · refine z_iconst (v := 0) dL_asked_26 (by decide) ?_
      refine z_sb ?_
      refine z_at [2, 1, 0] rfl ?_
      exact kF7 (0 : Int32)
    · refine z_iconst (v := 1) dL_asked_22 (by decide) ?_
      refine z_goto (tgt := 27) dL_asked_23 (by decide) ?_
      refine z_sb ?_
      refine z_at [2, 1, 0] rfl ?_
      exact kF7 (1 : Int32)
