/-! the reference: layReach, reaches, joinParts, orderParts, cutsChoice, cutsRow, cutsBeside, goesIn, cutsLoop, partNode -/
def fX6_layReach (s : Zr) : Option (Zr) :=
  (zloop (fun ((v1, s2) : Int32 × Zr) =>
    (if (12 : Int32) ≤ v1 then
      some (.inr s2)
    else
      (zloop (fun ((v6, s7) : Int32 × Zr) =>
        (if (12 : Int32) ≤ v6 then
          some (.inr s7)
        else
          (rdZ s7 36 (((12 : Int32) * v6) + v1)).bind fun x11 =>
          (wrZ s7 43 (((12 : Int32) * v1) + v6) x11).bind fun s12 =>
          some (.inl (v6 + (1 : Int32), s12)) : Option ((Int32 × Zr) ⊕ Zr))) zFU ((0 : Int32), s2)).bind fun (s8 : Zr) =>
      some (.inl (v1 + (1 : Int32), s8)) : Option ((Int32 × Zr) ⊕ Zr))) zFU ((0 : Int32), s)).bind fun (s3 : Zr) =>
  (zloop (fun ((v13, s14) : Int32 × Zr) =>
    (if (12 : Int32) ≤ v13 then
      some (.inr s14)
    else
      (zloop (fun ((v18, s19) : Int32 × Zr) =>
        (if (12 : Int32) ≤ v18 then
          some (.inr s19)
        else
          (zloop (fun ((v23, s24) : Int32 × Zr) =>
            (if (12 : Int32) ≤ v23 then
              some (.inr s24)
            else
              (rdZ s24 43 (((12 : Int32) * v18) + v23)).bind fun x28 =>
              (if x28 = 0 then
                (rdZ s24 43 (((12 : Int32) * v18) + v13)).bind fun x31 =>
                if x31 = 0 then
                  some (0 : Int32)
                else
                  (rdZ s24 43 (((12 : Int32) * v13) + v23)).bind fun x32 =>
                  if x32 = 0 then
                    some (0 : Int32)
                  else
                    some (1 : Int32)
              else
                some (1 : Int32)).bind fun (v29 : Int32) =>
              (wrZ s24 43 (((12 : Int32) * v18) + v23) v29).bind fun s33 =>
              some (.inl (v23 + (1 : Int32), s33)) : Option ((Int32 × Zr) ⊕ Zr))) zFU ((0 : Int32), s19)).bind fun (s25 : Zr) =>
          some (.inl (v18 + (1 : Int32), s25)) : Option ((Int32 × Zr) ⊕ Zr))) zFU ((0 : Int32), s14)).bind fun (s20 : Zr) =>
      some (.inl (v13 + (1 : Int32), s20)) : Option ((Int32 × Zr) ⊕ Zr))) zFU ((0 : Int32), s3)).bind fun (s15 : Zr) =>
  some s15
set_option maxRecDepth 100000 in
set_option maxHeartbeats 4000000 in
theorem kX6_layReach (G : Zg) (R : Nat) (h0 : Zh) (hF : zRF R h0) (s : Zr) {x : Zr} (hx : fX6_layReach s = some x) : zCt G yX6_layReach cX6_layReach 4 (Option.none : Option Jvm.ClassFile.FieldType) 1 [zrv G.2.1 (some R)] (zput R h0 s) none (zput R h0 x) := by
  refine z_met (a := x) (rvf := fun (_ : Zr) => none) (hff := fun (x : Zr) => zput R h0 x) (lv := [(0, zrv G.2.1 (some R))]) (by decide +kernel) (by simp [lg_sl, zcat1, zcI, zcJ]) (by simp [lv_args, zcat1, zcI, zcJ]) ?_ hx
  unfold fX6_layReach
  refine z_iconst (v := 0) dX6_layReach_0 (by decide) ?_
  refine z_istore_n (lv' := [(1, .int (0 : Int32)), (0, zrv G.2.1 (some R))]) dX6_layReach_1 rfl (by decide) rfl ?_
  refine z_at [1, 0] rfl ?_
  refine z_join (pc2 := 50) (lv2 := fun (q : Zr) => [(0, zrv G.2.1 (some R))]) (st2 := fun _ => []) (h2 := fun (q : Zr) => zput R h0 q) (fun q => ?_) (fun F4 kF4 => ?_)
  · obtain ⟨s3, e0⟩ : ∃ z, z = q := ⟨_, rfl⟩
    subst e0
    try dsimp only
    refine z_iconst (v := 0) dX6_layReach_50 (by decide) ?_
    refine z_istore_n (lv' := [(1, .int (0 : Int32)), (0, zrv G.2.1 (some R))]) dX6_layReach_51 rfl (by decide) rfl ?_
    refine z_at [1, 0] rfl ?_
    refine z_join (pc2 := 150) (lv2 := fun (q : Zr) => []) (st2 := fun _ => []) (h2 := fun (q : Zr) => zput R h0 q) (fun q => ?_) (fun F16 kF16 => ?_)
    · obtain ⟨s15, e0⟩ : ∃ z, z = q := ⟨_, rfl⟩
      subst e0
      try dsimp only
      exact z_vret dX6_layReach_150 rfl rfl rfl
    · refine z_loop (lvf := fun (q : Int32 × Zr) => [(0, zrv G.2.1 (some R)), (1, .int q.1)]) (hf2 := fun (q : Int32 × Zr) => zput R h0 q.2) (s0 := ((0 : Int32), s3)) (fun K17 bK17 rK17 q => ?_)
      obtain ⟨v13, s14⟩ := q
      try dsimp only
      refine z_iload_n (j := 1) dX6_layReach_52 rfl rfl ?_
      refine z_bipush (v := 12) dX6_layReach_53 (by decide) ?_
      refine z_itb ?_
      refine z_icmp_ge (tgt := 150) dX6_layReach_55 (by decide) (fun _ => ?_) (fun _ => ?_)
      · refine z_sb ?_
        refine z_eq (rK17 _) ?_
        refine z_at [] rfl ?_
        exact kF16 s14
      · refine z_iconst (v := 0) dX6_layReach_58 (by decide) ?_
        refine z_istore_n (lv' := [(2, .int (0 : Int32)), (0, zrv G.2.1 (some R)), (1, .int v13)]) dX6_layReach_59 rfl (by decide) rfl ?_
        refine z_as ?_
        refine z_at [1, 2, 0] rfl ?_
        refine z_join (pc2 := 144) (lv2 := fun (q : Zr) => [(0, zrv G.2.1 (some R)), (1, .int v13)]) (st2 := fun _ => []) (h2 := fun (q : Zr) => zput R h0 q) (fun q => ?_) (fun F21 kF21 => ?_)
        · obtain ⟨s20, e0⟩ : ∃ z, z = q := ⟨_, rfl⟩
          subst e0
          try dsimp only
          refine z_iinc (j := 1) (v := v13 + (1 : Int32)) (lv' := [(1, .int (v13 + (1 : Int32))), (0, zrv G.2.1 (some R))]) dX6_layReach_144 rfl rfl (by decide) rfl ?_
          refine z_goto (tgt := 52) dX6_layReach_147 (by decide) ?_
          refine z_sb ?_
          refine z_at [1, 0] rfl ?_
          exact bK17 (v13 + (1 : Int32), s20)
        · refine z_loop (lvf := fun (q : Int32 × Zr) => [(0, zrv G.2.1 (some R)), (1, .int v13), (2, .int q.1)]) (hf2 := fun (q : Int32 × Zr) => zput R h0 q.2) (s0 := ((0 : Int32), s14)) (fun K22 bK22 rK22 q => ?_)
          obtain ⟨v18, s19⟩ := q
          try dsimp only
          refine z_iload_n (j := 2) dX6_layReach_60 rfl rfl ?_
          refine z_bipush (v := 12) dX6_layReach_61 (by decide) ?_
          refine z_itb ?_
          refine z_icmp_ge (tgt := 144) dX6_layReach_63 (by decide) (fun _ => ?_) (fun _ => ?_)
          · refine z_sb ?_
            refine z_eq (rK22 _) ?_
            refine z_at [0, 1] rfl ?_
            exact kF21 s19
          · refine z_iconst (v := 0) dX6_layReach_66 (by decide) ?_
            refine z_istore_n (lv' := [(3, .int (0 : Int32)), (0, zrv G.2.1 (some R)), (1, .int v13), (2, .int v18)]) dX6_layReach_67 rfl (by decide) rfl ?_
            refine z_as ?_
            refine z_at [1, 2, 3, 0] rfl ?_
            refine z_join (pc2 := 138) (lv2 := fun (q : Zr) => [(0, zrv G.2.1 (some R)), (1, .int v13), (2, .int v18)]) (st2 := fun _ => []) (h2 := fun (q : Zr) => zput R h0 q) (fun q => ?_) (fun F26 kF26 => ?_)
            · obtain ⟨s25, e0⟩ : ∃ z, z = q := ⟨_, rfl⟩
              subst e0
              try dsimp only
              refine z_iinc (j := 2) (v := v18 + (1 : Int32)) (lv' := [(2, .int (v18 + (1 : Int32))), (0, zrv G.2.1 (some R)), (1, .int v13)]) dX6_layReach_138 rfl rfl (by decide) rfl ?_
              refine z_goto (tgt := 60) dX6_layReach_141 (by decide) ?_
              refine z_sb ?_
              refine z_at [1, 2, 0] rfl ?_
              exact bK22 (v18 + (1 : Int32), s25)
            · refine z_loop (lvf := fun (q : Int32 × Zr) => [(0, zrv G.2.1 (some R)), (1, .int v13), (2, .int v18), (3, .int q.1)]) (hf2 := fun (q : Int32 × Zr) => zput R h0 q.2) (s0 := ((0 : Int32), s19)) (fun K27 bK27 rK27 q => ?_)
              obtain ⟨v23, s24⟩ := q
              try dsimp only
              refine z_iload_n (j := 3) dX6_layReach_68 rfl rfl ?_
              refine z_bipush (v := 12) dX6_layReach_69 (by decide) ?_
              refine z_itb ?_
              refine z_icmp_ge (tgt := 138) dX6_layReach_71 (by decide) (fun _ => ?_) (fun _ => ?_)
              · refine z_sb ?_
                refine z_eq (rK27 _) ?_
                refine z_at [0, 1, 2] rfl ?_
                exact kF26 s24
              · refine z_aload_n (j := 0) dX6_layReach_74 rfl rfl ?_
                refine z_rgetA (k := 55) (a := 42) hF dX6_layReach_75 (by decide) rfl zw831 rfl ?_
                refine z_bipush (v := 12) dX6_layReach_78 (by decide) ?_
                refine z_iload_n (j := 2) dX6_layReach_80 rfl rfl ?_
                refine z_imul dX6_layReach_81 ?_
                refine z_iload_n (j := 3) dX6_layReach_82 rfl rfl ?_
                refine z_iadd dX6_layReach_83 ?_
                refine z_aload_n (j := 0) dX6_layReach_84 rfl rfl ?_
                refine z_rgetA (k := 55) (a := 42) hF dX6_layReach_85 (by decide) rfl zw831 rfl ?_
                refine z_bipush (v := 12) dX6_layReach_88 (by decide) ?_
                refine z_iload_n (j := 2) dX6_layReach_90 rfl rfl ?_
                refine z_imul dX6_layReach_91 ?_
                refine z_iload_n (j := 3) dX6_layReach_92 rfl rfl ?_
                refine z_iadd dX6_layReach_93 ?_
                refine z_as ?_
                refine z_rzald hF dX6_layReach_94 (fun x28 => ?_)
                refine z_as ?_
                refine z_join (pc2 := 131) (lv2 := fun (q : Int32) => [(0, zrv G.2.1 (some R)), (1, .int v13), (2, .int v18), (3, .int v23)]) (st2 := fun (q : Int32) => [.int q, .int (((12 : Int32) * v18) + v23), zrv G.2.1 (some (R + 43))]) (h2 := fun (q : Int32) => zput R h0 s24) (fun q => ?_) (fun F30 kF30 => ?_)
                · obtain ⟨v29, e0⟩ : ∃ z, z = q := ⟨_, rfl⟩
                  subst e0
                  try dsimp only
                  refine z_as ?_
                  refine z_rzast hF dX6_layReach_131 (fun s33 => ?_)
                  refine z_iinc (j := 3) (v := v23 + (1 : Int32)) (lv' := [(3, .int (v23 + (1 : Int32))), (0, zrv G.2.1 (some R)), (1, .int v13), (2, .int v18)]) dX6_layReach_132 rfl rfl (by decide) rfl ?_
                  refine z_goto (tgt := 68) dX6_layReach_135 (by decide) ?_
                  refine z_sb ?_
                  refine z_at [1, 2, 3, 0] rfl ?_
                  exact bK27 (v23 + (1 : Int32), s33)
                · refine z_itb ?_
                  refine z_if_ne (tgt := 126) dX6_layReach_95 (by decide) (fun _ => ?_) (fun _ => ?_)
                  · refine z_aload_n (j := 0) dX6_layReach_98 rfl rfl ?_
                    refine z_rgetA (k := 55) (a := 42) hF dX6_layReach_99 (by decide) rfl zw831 rfl ?_
                    refine z_bipush (v := 12) dX6_layReach_102 (by decide) ?_
                    refine z_iload_n (j := 2) dX6_layReach_104 rfl rfl ?_
                    refine z_imul dX6_layReach_105 ?_
                    refine z_iload_n (j := 1) dX6_layReach_106 rfl rfl ?_
                    refine z_iadd dX6_layReach_107 ?_
                    refine z_as ?_
                    refine z_rzald hF dX6_layReach_108 (fun x31 => ?_)
                    refine z_itb ?_
                    refine z_if_eq (tgt := 130) dX6_layReach_109 (by decide) (fun _ => ?_) (fun _ => ?_)
                    · refine z_iconst (v := 0) dX6_layReach_130 (by decide) ?_
                      refine z_sb ?_
                      refine z_at [0, 1, 2, 3] rfl ?_
                      exact kF30 (0 : Int32)
                    · refine z_aload_n (j := 0) dX6_layReach_112 rfl rfl ?_
                      refine z_rgetA (k := 55) (a := 42) hF dX6_layReach_113 (by decide) rfl zw831 rfl ?_
                      refine z_bipush (v := 12) dX6_layReach_116 (by decide) ?_
                      refine z_iload_n (j := 1) dX6_layReach_118 rfl rfl ?_
                      refine z_imul dX6_layReach_119 ?_
                      refine z_iload_n (j := 3) dX6_layReach_120 rfl rfl ?_
                      refine z_iadd dX6_layReach_121 ?_
                      refine z_as ?_
                      refine z_rzald hF dX6_layReach_122 (fun x32 => ?_)
                      refine z_itb ?_
                      refine z_if_eq (tgt := 130) dX6_layReach_123 (by decide) (fun _ => ?_) (fun _ => ?_)
                      · refine z_iconst (v := 0) dX6_layReach_130 (by decide) ?_
                        refine z_sb ?_
                        refine z_at [0, 1, 2, 3] rfl ?_
                        exact kF30 (0 : Int32)
                      · refine z_iconst (v := 1) dX6_layReach_126 (by decide) ?_
                        refine z_goto (tgt := 131) dX6_layReach_127 (by decide) ?_
                        refine z_sb ?_
                        refine z_at [0, 1, 2, 3] rfl ?_
                        exact kF30 (1 : Int32)
                  · refine z_iconst (v := 1) dX6_layReach_126 (by decide) ?_
                    refine z_goto (tgt := 131) dX6_layReach_127 (by decide) ?_
                    refine z_sb ?_
                    refine z_at [0, 1, 2, 3] rfl ?_
                    exact kF30 (1 : Int32)
  · refine z_loop (lvf := fun (q : Int32 × Zr) => [(0, zrv G.2.1 (some R)), (1, .int q.1)]) (hf2 := fun (q : Int32 × Zr) => zput R h0 q.2) (s0 := ((0 : Int32), s)) (fun K5 bK5 rK5 q => ?_)
    obtain ⟨v1, s2⟩ := q
    try dsimp only
    refine z_iload_n (j := 1) dX6_layReach_2 rfl rfl ?_
    refine z_bipush (v := 12) dX6_layReach_3 (by decide) ?_
    refine z_itb ?_
    refine z_icmp_ge (tgt := 50) dX6_layReach_5 (by decide) (fun _ => ?_) (fun _ => ?_)
    · refine z_sb ?_
      refine z_eq (rK5 _) ?_
      refine z_at [0] rfl ?_
      exact kF4 s2
    · refine z_iconst (v := 0) dX6_layReach_8 (by decide) ?_
      refine z_istore_n (lv' := [(2, .int (0 : Int32)), (0, zrv G.2.1 (some R)), (1, .int v1)]) dX6_layReach_9 rfl (by decide) rfl ?_
      refine z_as ?_
      refine z_at [1, 2, 0] rfl ?_
      refine z_join (pc2 := 44) (lv2 := fun (q : Zr) => [(0, zrv G.2.1 (some R)), (1, .int v1)]) (st2 := fun _ => []) (h2 := fun (q : Zr) => zput R h0 q) (fun q => ?_) (fun F9 kF9 => ?_)
      · obtain ⟨s8, e0⟩ : ∃ z, z = q := ⟨_, rfl⟩
        subst e0
        try dsimp only
        refine z_iinc (j := 1) (v := v1 + (1 : Int32)) (lv' := [(1, .int (v1 + (1 : Int32))), (0, zrv G.2.1 (some R))]) dX6_layReach_44 rfl rfl (by decide) rfl ?_
        refine z_goto (tgt := 2) dX6_layReach_47 (by decide) ?_
        refine z_sb ?_
        refine z_at [1, 0] rfl ?_
        exact bK5 (v1 + (1 : Int32), s8)
      · refine z_loop (lvf := fun (q : Int32 × Zr) => [(0, zrv G.2.1 (some R)), (1, .int v1), (2, .int q.1)]) (hf2 := fun (q : Int32 × Zr) => zput R h0 q.2) (s0 := ((0 : Int32), s2)) (fun K10 bK10 rK10 q => ?_)
        obtain ⟨v6, s7⟩ := q
        try dsimp only
        refine z_iload_n (j := 2) dX6_layReach_10 rfl rfl ?_
        refine z_bipush (v := 12) dX6_layReach_11 (by decide) ?_
        refine z_itb ?_
        refine z_icmp_ge (tgt := 44) dX6_layReach_13 (by decide) (fun _ => ?_) (fun _ => ?_)
        · refine z_sb ?_
          refine z_eq (rK10 _) ?_
          refine z_at [0, 1] rfl ?_
          exact kF9 s7
        · refine z_aload_n (j := 0) dX6_layReach_16 rfl rfl ?_
          refine z_rgetA (k := 55) (a := 42) hF dX6_layReach_17 (by decide) rfl zw831 rfl ?_
          refine z_bipush (v := 12) dX6_layReach_20 (by decide) ?_
          refine z_iload_n (j := 1) dX6_layReach_22 rfl rfl ?_
          refine z_imul dX6_layReach_23 ?_
          refine z_iload_n (j := 2) dX6_layReach_24 rfl rfl ?_
          refine z_iadd dX6_layReach_25 ?_
          refine z_aload_n (j := 0) dX6_layReach_26 rfl rfl ?_
          refine z_rgetA (k := 47) (a := 35) hF dX6_layReach_27 (by decide) rfl zw823 rfl ?_
          refine z_bipush (v := 12) dX6_layReach_30 (by decide) ?_
          refine z_iload_n (j := 2) dX6_layReach_32 rfl rfl ?_
          refine z_imul dX6_layReach_33 ?_
          refine z_iload_n (j := 1) dX6_layReach_34 rfl rfl ?_
          refine z_iadd dX6_layReach_35 ?_
          refine z_as ?_
          refine z_rzald hF dX6_layReach_36 (fun x11 => ?_)
          refine z_as ?_
          refine z_rzast hF dX6_layReach_37 (fun s12 => ?_)
          refine z_iinc (j := 2) (v := v6 + (1 : Int32)) (lv' := [(2, .int (v6 + (1 : Int32))), (0, zrv G.2.1 (some R)), (1, .int v1)]) dX6_layReach_38 rfl rfl (by decide) rfl ?_
          refine z_goto (tgt := 10) dX6_layReach_41 (by decide) ?_
          refine z_sb ?_
          refine z_at [1, 2, 0] rfl ?_
          exact bK10 (v6 + (1 : Int32), s12)
def fX6_reaches (s : Zr) (a1 : Int32) (a2 : Int32) : Option (Int32) :=
  (zloop (fun ((v1, v2) : Int32 × Int32) =>
    (if (12 : Int32) ≤ v2 then
      some (.inr v1)
    else
      (zloop (fun ((v6, v7) : Int32 × Int32) =>
        (if (12 : Int32) ≤ v7 then
          some (.inr v6)
        else
          (if v6 = 0 then
            (rdI s 40 v2).bind fun x13 =>
            if x13 = a1 then
              (rdI s 40 v7).bind fun x14 =>
              if x14 = a2 then
                (rdZ s 43 (((12 : Int32) * v2) + v7)).bind fun x15 =>
                if x15 = 0 then
                  some (0 : Int32)
                else
                  some (1 : Int32)
              else
                some (0 : Int32)
            else
              some (0 : Int32)
          else
            some (1 : Int32)).bind fun (v11 : Int32) =>
          some (.inl (v11, v7 + (1 : Int32))) : Option ((Int32 × Int32) ⊕ Int32))) zFU (v1, (0 : Int32))).bind fun (w8 : Int32) =>
      some (.inl (w8, v2 + (1 : Int32))) : Option ((Int32 × Int32) ⊕ Int32))) zFU ((0 : Int32), (0 : Int32))).bind fun (w3 : Int32) =>
  (zbo w3).bind fun _ =>
  some w3
set_option maxRecDepth 100000 in
set_option maxHeartbeats 4000000 in
theorem kX6_reaches (G : Zg) (R : Nat) (h0 : Zh) (hF : zRF R h0) (s : Zr) (a1 : Int32) (a2 : Int32) {x : Int32} (hx : fX6_reaches s a1 a2 = some x) : zCt G yX6_reaches cX6_reaches 6 (Option.some Jvm.ClassFile.FieldType.boolean) 1 [zrv G.2.1 (some R), .int a1, .int a2] (zput R h0 s) (some (.int x)) (zput R h0 s) := by
  refine z_met (a := x) (rvf := fun (x : Int32) => some (.int x)) (hff := fun (_ : Int32) => zput R h0 s) (lv := [(0, zrv G.2.1 (some R)), (1, .int a1), (2, .int a2)]) (by decide +kernel) (by simp [lg_sl, zcat1, zcI, zcJ]) (by simp [lv_args, zcat1, zcI, zcJ]) ?_ hx
  unfold fX6_reaches
  refine z_iconst (v := 0) dX6_reaches_0 (by decide) ?_
  refine z_istore_n (lv' := [(3, .int (0 : Int32)), (0, zrv G.2.1 (some R)), (1, .int a1), (2, .int a2)]) dX6_reaches_1 rfl (by decide) rfl ?_
  refine z_iconst (v := 0) dX6_reaches_2 (by decide) ?_
  refine z_istore (lv' := [(4, .int (0 : Int32)), (3, .int (0 : Int32)), (0, zrv G.2.1 (some R)), (1, .int a1), (2, .int a2)]) dX6_reaches_3 (by decide) rfl ?_
  refine z_at [2, 3, 4, 1, 0] rfl ?_
  refine z_join (pc2 := 82) (lv2 := fun (q : Int32) => [(3, .int q)]) (st2 := fun _ => []) (h2 := fun (q : Int32) => zput R h0 s) (fun q => ?_) (fun F4 kF4 => ?_)
  · obtain ⟨w3, e0⟩ : ∃ z, z = q := ⟨_, rfl⟩
    subst e0
    try dsimp only
    refine z_iload_n (j := 0) dX6_reaches_82 rfl rfl ?_
    refine z_bo (fun hbb16 => ?_)
    exact z_iret dX6_reaches_83 rfl (by rcases hbb16 with q | q <;> rw [q] <;> rfl) rfl rfl
  · refine z_loop (lvf := fun (q : Int32 × Int32) => [(0, zrv G.2.1 (some R)), (1, .int a1), (2, .int a2), (3, .int q.1), (4, .int q.2)]) (hf2 := fun (q : Int32 × Int32) => zput R h0 s) (s0 := ((0 : Int32), (0 : Int32))) (fun K5 bK5 rK5 q => ?_)
    obtain ⟨v1, v2⟩ := q
    try dsimp only
    refine z_iload (j := 4) dX6_reaches_5 rfl ?_
    refine z_bipush (v := 12) dX6_reaches_7 (by decide) ?_
    refine z_itb ?_
    refine z_icmp_ge (tgt := 82) dX6_reaches_9 (by decide) (fun _ => ?_) (fun _ => ?_)
    · refine z_sb ?_
      refine z_eq (rK5 _) ?_
      refine z_at [3] rfl ?_
      exact kF4 v1
    · refine z_iconst (v := 0) dX6_reaches_12 (by decide) ?_
      refine z_istore (lv' := [(5, .int (0 : Int32)), (0, zrv G.2.1 (some R)), (1, .int a1), (2, .int a2), (3, .int v1), (4, .int v2)]) dX6_reaches_13 (by decide) rfl ?_
      refine z_as ?_
      refine z_at [1, 2, 3, 4, 5, 0] rfl ?_
      refine z_join (pc2 := 76) (lv2 := fun (q : Int32) => [(0, zrv G.2.1 (some R)), (1, .int a1), (2, .int a2), (3, .int q), (4, .int v2)]) (st2 := fun _ => []) (h2 := fun (q : Int32) => zput R h0 s) (fun q => ?_) (fun F9 kF9 => ?_)
      · obtain ⟨w8, e0⟩ : ∃ z, z = q := ⟨_, rfl⟩
        subst e0
        try dsimp only
        refine z_iinc (j := 4) (v := v2 + (1 : Int32)) (lv' := [(4, .int (v2 + (1 : Int32))), (0, zrv G.2.1 (some R)), (1, .int a1), (2, .int a2), (3, .int w8)]) dX6_reaches_76 rfl rfl (by decide) rfl ?_
        refine z_goto (tgt := 5) dX6_reaches_79 (by decide) ?_
        refine z_sb ?_
        refine z_at [1, 2, 3, 4, 0] rfl ?_
        exact bK5 (w8, v2 + (1 : Int32))
      · refine z_loop (lvf := fun (q : Int32 × Int32) => [(0, zrv G.2.1 (some R)), (1, .int a1), (2, .int a2), (3, .int q.1), (4, .int v2), (5, .int q.2)]) (hf2 := fun (q : Int32 × Int32) => zput R h0 s) (s0 := (v1, (0 : Int32))) (fun K10 bK10 rK10 q => ?_)
        obtain ⟨v6, v7⟩ := q
        try dsimp only
        refine z_iload (j := 5) dX6_reaches_15 rfl ?_
        refine z_bipush (v := 12) dX6_reaches_17 (by decide) ?_
        refine z_itb ?_
        refine z_icmp_ge (tgt := 76) dX6_reaches_19 (by decide) (fun _ => ?_) (fun _ => ?_)
        · refine z_sb ?_
          refine z_eq (rK10 _) ?_
          refine z_at [0, 1, 2, 3, 4] rfl ?_
          exact kF9 v6
        · refine z_iload_n (j := 3) dX6_reaches_22 rfl rfl ?_
          refine z_as ?_
          refine z_join (pc2 := 69) (lv2 := fun (q : Int32) => [(0, zrv G.2.1 (some R)), (1, .int a1), (2, .int a2), (4, .int v2), (5, .int v7)]) (st2 := fun (q : Int32) => [.int q]) (h2 := fun (q : Int32) => zput R h0 s) (fun q => ?_) (fun F12 kF12 => ?_)
          · obtain ⟨v11, e0⟩ : ∃ z, z = q := ⟨_, rfl⟩
            subst e0
            try dsimp only
            refine z_istore_n (lv' := [(3, .int v11), (0, zrv G.2.1 (some R)), (1, .int a1), (2, .int a2), (4, .int v2), (5, .int v7)]) dX6_reaches_69 rfl (by decide) rfl ?_
            refine z_iinc (j := 5) (v := v7 + (1 : Int32)) (lv' := [(5, .int (v7 + (1 : Int32))), (3, .int v11), (0, zrv G.2.1 (some R)), (1, .int a1), (2, .int a2), (4, .int v2)]) dX6_reaches_70 rfl rfl (by decide) rfl ?_
            refine z_goto (tgt := 15) dX6_reaches_73 (by decide) ?_
            refine z_sb ?_
            refine z_at [2, 3, 4, 1, 5, 0] rfl ?_
            exact bK10 (v11, v7 + (1 : Int32))
          · refine z_itb ?_
            refine z_if_ne (tgt := 64) dX6_reaches_23 (by decide) (fun _ => ?_) (fun _ => ?_)
            · refine z_aload_n (j := 0) dX6_reaches_26 rfl rfl ?_
              refine z_rgetA (k := 51) (a := 39) hF dX6_reaches_27 (by decide) rfl zw827 rfl ?_
              refine z_iload (j := 4) dX6_reaches_30 rfl ?_
              refine z_as ?_
              refine z_riald hF dX6_reaches_32 (fun x13 => ?_)
              refine z_iload_n (j := 1) dX6_reaches_33 rfl rfl ?_
              refine z_itb ?_
              refine z_icmp_ne (tgt := 68) dX6_reaches_34 (by decide) (fun _ => ?_) (fun _ => ?_)
              · refine z_aload_n (j := 0) dX6_reaches_37 rfl rfl ?_
                refine z_rgetA (k := 51) (a := 39) hF dX6_reaches_38 (by decide) rfl zw827 rfl ?_
                refine z_iload (j := 5) dX6_reaches_41 rfl ?_
                refine z_as ?_
                refine z_riald hF dX6_reaches_43 (fun x14 => ?_)
                refine z_iload_n (j := 2) dX6_reaches_44 rfl rfl ?_
                refine z_itb ?_
                refine z_icmp_ne (tgt := 68) dX6_reaches_45 (by decide) (fun _ => ?_) (fun _ => ?_)
                · refine z_aload_n (j := 0) dX6_reaches_48 rfl rfl ?_
                  refine z_rgetA (k := 55) (a := 42) hF dX6_reaches_49 (by decide) rfl zw831 rfl ?_
                  refine z_bipush (v := 12) dX6_reaches_52 (by decide) ?_
                  refine z_iload (j := 4) dX6_reaches_54 rfl ?_
                  refine z_imul dX6_reaches_56 ?_
                  refine z_iload (j := 5) dX6_reaches_57 rfl ?_
                  refine z_iadd dX6_reaches_59 ?_
                  refine z_as ?_
                  refine z_rzald hF dX6_reaches_60 (fun x15 => ?_)
                  refine z_itb ?_
                  refine z_if_eq (tgt := 68) dX6_reaches_61 (by decide) (fun _ => ?_) (fun _ => ?_)
                  · refine z_iconst (v := 0) dX6_reaches_68 (by decide) ?_
                    refine z_sb ?_
                    refine z_at [0, 1, 2, 4, 5] rfl ?_
                    exact kF12 (0 : Int32)
                  · refine z_iconst (v := 1) dX6_reaches_64 (by decide) ?_
                    refine z_goto (tgt := 69) dX6_reaches_65 (by decide) ?_
                    refine z_sb ?_
                    refine z_at [0, 1, 2, 4, 5] rfl ?_
                    exact kF12 (1 : Int32)
                · refine z_iconst (v := 0) dX6_reaches_68 (by decide) ?_
                  refine z_sb ?_
                  refine z_at [0, 1, 2, 4, 5] rfl ?_
                  exact kF12 (0 : Int32)
              · refine z_iconst (v := 0) dX6_reaches_68 (by decide) ?_
                refine z_sb ?_
                refine z_at [0, 1, 2, 4, 5] rfl ?_
                exact kF12 (0 : Int32)
            · refine z_iconst (v := 1) dX6_reaches_64 (by decide) ?_
              refine z_goto (tgt := 69) dX6_reaches_65 (by decide) ?_
              refine z_sb ?_
              refine z_at [0, 1, 2, 4, 5] rfl ?_
              exact kF12 (1 : Int32)
def fX6_joinParts (s : Zr) : Option (Zr) :=
  (zloop (fun ((v1, s2) : Int32 × Zr) =>
    (if v1 = 0 then
      some (.inr s2)
    else
      (zloop (fun ((v6, v7, s8) : Int32 × Int32 × Zr) =>
        (if (s8 0 52) ≤ v7 then
          some (.inr (v6, s8))
        else
          if v6 = 0 then
            (zloop (fun ((v13, v14, s15) : Int32 × Int32 × Zr) =>
              (if (s15 0 52) ≤ v14 then
                some (.inr (v13, s15))
              else
                if v13 = 0 then
                  (rdI s15 41 v7).bind fun x20 =>
                  (rdI s15 41 v14).bind fun x21 =>
                  (fX6_reaches s15 x20 x21).bind fun x22 =>
                  (if x22 = 0 then
                    some (v13, s15)
                  else
                    (fX6_reaches s15 x21 x20).bind fun x26 =>
                    if x26 = 0 then
                      some (v13, s15)
                    else
                      (zloop (fun ((v27, s28) : Int32 × Zr) =>
                        (if (12 : Int32) ≤ v27 then
                          some (.inr s28)
                        else
                          (rdI s28 40 v27).bind fun x32 =>
                          (if x32 = x21 then
                            some x20
                          else
                            (rdI s28 40 v27).bind fun x35 =>
                            some x35).bind fun (v33 : Int32) =>
                          (wrI s28 40 v27 v33).bind fun s36 =>
                          some (.inl (v27 + (1 : Int32), s36)) : Option ((Int32 × Zr) ⊕ Zr))) zFU ((0 : Int32), s15)).bind fun (s29 : Zr) =>
                      some ((1 : Int32), s29)).bind fun ((v23, s24) : Int32 × Zr) =>
                  some (.inl (v23, v14 + (1 : Int32), s24))
                else
                  some (.inr (v13, s15)) : Option ((Int32 × Int32 × Zr) ⊕ (Int32 × Zr)))) zFU (v6, v7 + (1 : Int32), s8)).bind fun ((w16, s17) : Int32 × Zr) =>
            some (.inl (w16, v7 + (1 : Int32), s17))
          else
            some (.inr (v6, s8)) : Option ((Int32 × Int32 × Zr) ⊕ (Int32 × Zr)))) zFU ((0 : Int32), (0 : Int32), s2)).bind fun ((w9, s10) : Int32 × Zr) =>
      (fX6_listParts s10).bind fun s37 =>
      some (.inl (w9, s37)) : Option ((Int32 × Zr) ⊕ Zr))) zFU ((1 : Int32), s)).bind fun (s3 : Zr) =>
  some s3
set_option maxRecDepth 100000 in
set_option maxHeartbeats 4000000 in
theorem kX6_joinParts (G : Zg) (R : Nat) (h0 : Zh) (hF : zRF R h0) (s : Zr) {x : Zr} (hx : fX6_joinParts s = some x) : zCt G yX6_joinParts cX6_joinParts 7 (Option.none : Option Jvm.ClassFile.FieldType) 2 [zrv G.2.1 (some R)] (zput R h0 s) none (zput R h0 x) := by
  refine z_met (a := x) (rvf := fun (_ : Zr) => none) (hff := fun (x : Zr) => zput R h0 x) (lv := [(0, zrv G.2.1 (some R))]) (by decide +kernel) (by simp [lg_sl, zcat1, zcI, zcJ]) (by simp [lv_args, zcat1, zcI, zcJ]) ?_ hx
  unfold fX6_joinParts
  refine z_iconst (v := 1) dX6_joinParts_0 (by decide) ?_
  refine z_istore_n (lv' := [(1, .int (1 : Int32)), (0, zrv G.2.1 (some R))]) dX6_joinParts_1 rfl (by decide) rfl ?_
  refine z_at [1, 0] rfl ?_
  refine z_join (pc2 := 144) (lv2 := fun (q : Zr) => []) (st2 := fun _ => []) (h2 := fun (q : Zr) => zput R h0 q) (fun q => ?_) (fun F4 kF4 => ?_)
  · obtain ⟨s3, e0⟩ : ∃ z, z = q := ⟨_, rfl⟩
    subst e0
    try dsimp only
    exact z_vret dX6_joinParts_144 rfl rfl rfl
  · refine z_loop (lvf := fun (q : Int32 × Zr) => [(0, zrv G.2.1 (some R)), (1, .int q.1)]) (hf2 := fun (q : Int32 × Zr) => zput R h0 q.2) (s0 := ((1 : Int32), s)) (fun K5 bK5 rK5 q => ?_)
    obtain ⟨v1, s2⟩ := q
    try dsimp only
    refine z_iload_n (j := 1) dX6_joinParts_2 rfl rfl ?_
    refine z_itb ?_
    refine z_if_eq (tgt := 144) dX6_joinParts_3 (by decide) (fun _ => ?_) (fun _ => ?_)
    · refine z_sb ?_
      refine z_eq (rK5 _) ?_
      refine z_at [] rfl ?_
      exact kF4 s2
    · refine z_iconst (v := 0) dX6_joinParts_6 (by decide) ?_
      refine z_istore_n (lv' := [(1, .int (0 : Int32)), (0, zrv G.2.1 (some R))]) dX6_joinParts_7 rfl (by decide) rfl ?_
      refine z_iconst (v := 0) dX6_joinParts_8 (by decide) ?_
      refine z_istore_n (lv' := [(2, .int (0 : Int32)), (1, .int (0 : Int32)), (0, zrv G.2.1 (some R))]) dX6_joinParts_9 rfl (by decide) rfl ?_
      refine z_as ?_
      refine z_at [2, 1, 0] rfl ?_
      refine z_join (pc2 := 137) (lv2 := fun (q : Int32 × Zr) => [(0, zrv G.2.1 (some R)), (1, .int q.1)]) (st2 := fun _ => []) (h2 := fun (q : Int32 × Zr) => zput R h0 q.2) (fun q => ?_) (fun F11 kF11 => ?_)
      · obtain ⟨w9, s10⟩ := q
        try dsimp only
        refine z_aload_n (j := 0) dX6_joinParts_137 rfl rfl ?_
        refine z_as ?_
        refine z_callV (As := []) (rest := []) (rv2 := fun (_ : Zr) => none) (h2 := fun (x : Zr) => zput R h0 x) dX6_joinParts_138 vX6_listParts (.inl zw1199) (by decide) zkl7 (zRrecv hF).1 (zRrecv hF).2 rfl rfl (by decide) (fun x hx => kX6_listParts G R h0 hF s10 hx) (fun s37 => ?_)
        try dsimp only [Option.toList, List.cons_append, List.nil_append]
        refine z_goto (tgt := 2) dX6_joinParts_141 (by decide) ?_
        refine z_sb ?_
        refine z_at [0, 1] rfl ?_
        exact bK5 (w9, s37)
      · refine z_loop (lvf := fun (q : Int32 × Int32 × Zr) => [(0, zrv G.2.1 (some R)), (1, .int q.1), (2, .int q.2.1)]) (hf2 := fun (q : Int32 × Int32 × Zr) => zput R h0 q.2.2) (s0 := ((0 : Int32), (0 : Int32), s2)) (fun K12 bK12 rK12 q => ?_)
        obtain ⟨v6, v7, s8⟩ := q
        try dsimp only
        refine z_iload_n (j := 2) dX6_joinParts_10 rfl rfl ?_
        refine z_aload_n (j := 0) dX6_joinParts_11 rfl rfl ?_
        refine z_rgetI (k := 52) hF dX6_joinParts_12 (by decide) rfl zw828 ?_
        refine z_itb ?_
        refine z_icmp_ge (tgt := 137) dX6_joinParts_15 (by decide) (fun _ => ?_) (fun _ => ?_)
        · refine z_sb ?_
          refine z_eq (rK12 _) ?_
          refine z_at [0, 1] rfl ?_
          exact kF11 (v6, s8)
        · refine z_iload_n (j := 1) dX6_joinParts_18 rfl rfl ?_
          refine z_itb ?_
          refine z_if_ne (tgt := 137) dX6_joinParts_19 (by decide) (fun _ => ?_) (fun _ => ?_)
          · refine z_iload_n (j := 2) dX6_joinParts_22 rfl rfl ?_
            refine z_iconst (v := 1) dX6_joinParts_23 (by decide) ?_
            refine z_iadd dX6_joinParts_24 ?_
            refine z_istore_n (lv' := [(3, .int (v7 + (1 : Int32))), (0, zrv G.2.1 (some R)), (1, .int v6), (2, .int v7)]) dX6_joinParts_25 rfl (by decide) rfl ?_
            refine z_as ?_
            refine z_at [1, 2, 3, 0] rfl ?_
            refine z_join (pc2 := 131) (lv2 := fun (q : Int32 × Zr) => [(0, zrv G.2.1 (some R)), (1, .int q.1), (2, .int v7)]) (st2 := fun _ => []) (h2 := fun (q : Int32 × Zr) => zput R h0 q.2) (fun q => ?_) (fun F18 kF18 => ?_)
            · obtain ⟨w16, s17⟩ := q
              try dsimp only
              refine z_iinc (j := 2) (v := v7 + (1 : Int32)) (lv' := [(2, .int (v7 + (1 : Int32))), (0, zrv G.2.1 (some R)), (1, .int w16)]) dX6_joinParts_131 rfl rfl (by decide) rfl ?_
              refine z_goto (tgt := 10) dX6_joinParts_134 (by decide) ?_
              refine z_sb ?_
              refine z_at [1, 2, 0] rfl ?_
              exact bK12 (w16, v7 + (1 : Int32), s17)
            · refine z_loop (lvf := fun (q : Int32 × Int32 × Zr) => [(0, zrv G.2.1 (some R)), (1, .int q.1), (2, .int v7), (3, .int q.2.1)]) (hf2 := fun (q : Int32 × Int32 × Zr) => zput R h0 q.2.2) (s0 := (v6, v7 + (1 : Int32), s8)) (fun K19 bK19 rK19 q => ?_)
              obtain ⟨v13, v14, s15⟩ := q
              try dsimp only
              refine z_iload_n (j := 3) dX6_joinParts_26 rfl rfl ?_
              refine z_aload_n (j := 0) dX6_joinParts_27 rfl rfl ?_
              refine z_rgetI (k := 52) hF dX6_joinParts_28 (by decide) rfl zw828 ?_
              refine z_itb ?_
              refine z_icmp_ge (tgt := 131) dX6_joinParts_31 (by decide) (fun _ => ?_) (fun _ => ?_)
              · refine z_sb ?_
                refine z_eq (rK19 _) ?_
                refine z_at [0, 1, 2] rfl ?_
                exact kF18 (v13, s15)
              · refine z_iload_n (j := 1) dX6_joinParts_34 rfl rfl ?_
                refine z_itb ?_
                refine z_if_ne (tgt := 131) dX6_joinParts_35 (by decide) (fun _ => ?_) (fun _ => ?_)
                · refine z_aload_n (j := 0) dX6_joinParts_38 rfl rfl ?_
                  refine z_rgetA (k := 53) (a := 40) hF dX6_joinParts_39 (by decide) rfl zw829 rfl ?_
                  refine z_iload_n (j := 2) dX6_joinParts_42 rfl rfl ?_
                  refine z_as ?_
                  refine z_riald hF dX6_joinParts_43 (fun x20 => ?_)
                  refine z_istore (lv' := [(4, .int x20), (0, zrv G.2.1 (some R)), (1, .int v13), (2, .int v7), (3, .int v14)]) dX6_joinParts_44 (by decide) rfl ?_
                  refine z_aload_n (j := 1) dX6_joinParts_46 rfl rfl ?_
                  refine z_rgetA (k := 53) (a := 40) hF dX6_joinParts_47 (by decide) rfl zw829 rfl ?_
                  refine z_iload_n (j := 4) dX6_joinParts_50 rfl rfl ?_
                  refine z_as ?_
                  refine z_riald hF dX6_joinParts_51 (fun x21 => ?_)
                  refine z_istore (lv' := [(5, .int x21), (4, .int x20), (0, zrv G.2.1 (some R)), (1, .int v13), (2, .int v7), (3, .int v14)]) dX6_joinParts_52 (by decide) rfl ?_
                  refine z_aload_n (j := 2) dX6_joinParts_54 rfl rfl ?_
                  refine z_iload (j := 1) dX6_joinParts_55 rfl ?_
                  refine z_iload (j := 0) dX6_joinParts_57 rfl ?_
                  refine z_as ?_
                  refine z_callV (As := [.int x20, .int x21]) (rest := []) (rv2 := fun (x : Int32) => some (.int x)) (h2 := fun (_ : Int32) => zput R h0 s15) dX6_joinParts_59 vX6_reaches (.inl zw1223) (by decide) zkl7 (zRrecv hF).1 (zRrecv hF).2 rfl rfl (by decide) (fun x hx => kX6_reaches G R h0 hF s15 x20 x21 hx) (fun x22 => ?_)
                  try dsimp only [Option.toList, List.cons_append, List.nil_append]
                  refine z_as ?_
                  refine z_join (pc2 := 125) (lv2 := fun (q : Int32 × Zr) => [(0, zrv G.2.1 (some R)), (1, .int q.1), (2, .int v7), (3, .int v14)]) (st2 := fun (q : Int32 × Zr) => []) (h2 := fun (q : Int32 × Zr) => zput R h0 q.2) (fun q => ?_) (fun F25 kF25 => ?_)
                  · obtain ⟨v23, s24⟩ := q
                    try dsimp only
                    refine z_iinc (j := 3) (v := v14 + (1 : Int32)) (lv' := [(3, .int (v14 + (1 : Int32))), (0, zrv G.2.1 (some R)), (1, .int v23), (2, .int v7)]) dX6_joinParts_125 rfl rfl (by decide) rfl ?_
                    refine z_goto (tgt := 26) dX6_joinParts_128 (by decide) ?_
                    refine z_sb ?_
                    refine z_at [1, 2, 3, 0] rfl ?_
                    exact bK19 (v23, v14 + (1 : Int32), s24)
                  · refine z_itb ?_
                    refine z_if_eq (tgt := 125) dX6_joinParts_62 (by decide) (fun _ => ?_) (fun _ => ?_)
                    · refine z_sb ?_
                      refine z_at [2, 3, 4, 5] rfl ?_
                      exact kF25 (v13, s15)
                    · refine z_aload_n (j := 2) dX6_joinParts_65 rfl rfl ?_
                      refine z_iload (j := 0) dX6_joinParts_66 rfl ?_
                      refine z_iload (j := 1) dX6_joinParts_68 rfl ?_
                      refine z_as ?_
                      refine z_callV (As := [.int x21, .int x20]) (rest := []) (rv2 := fun (x : Int32) => some (.int x)) (h2 := fun (_ : Int32) => zput R h0 s15) dX6_joinParts_70 vX6_reaches (.inl zw1223) (by decide) zkl7 (zRrecv hF).1 (zRrecv hF).2 rfl rfl (by decide) (fun x hx => kX6_reaches G R h0 hF s15 x21 x20 hx) (fun x26 => ?_)
                      try dsimp only [Option.toList, List.cons_append, List.nil_append]
                      refine z_itb ?_
                      refine z_if_eq (tgt := 125) dX6_joinParts_73 (by decide) (fun _ => ?_) (fun _ => ?_)
                      · refine z_sb ?_
                        refine z_at [2, 3, 4, 5] rfl ?_
                        exact kF25 (v13, s15)
                      · refine z_iconst (v := 0) dX6_joinParts_76 (by decide) ?_
                        refine z_istore (lv' := [(6, .int (0 : Int32)), (5, .int x21), (4, .int x20), (0, zrv G.2.1 (some R)), (1, .int v13), (2, .int v7), (3, .int v14)]) dX6_joinParts_77 (by decide) rfl ?_
                        refine z_as ?_
                        refine z_at [3, 5, 6, 2, 1, 0] rfl ?_
                        refine z_join (pc2 := 123) (lv2 := fun (q : Zr) => [(0, zrv G.2.1 (some R)), (2, .int v7), (3, .int v14)]) (st2 := fun _ => []) (h2 := fun (q : Zr) => zput R h0 q) (fun q => ?_) (fun F30 kF30 => ?_)
                        · obtain ⟨s29, e0⟩ : ∃ z, z = q := ⟨_, rfl⟩
                          subst e0
                          try dsimp only
                          refine z_iconst (v := 1) dX6_joinParts_123 (by decide) ?_
                          refine z_istore_n (lv' := [(1, .int (1 : Int32)), (0, zrv G.2.1 (some R)), (2, .int v7), (3, .int v14)]) dX6_joinParts_124 rfl (by decide) rfl ?_
                          refine z_sb ?_
                          refine z_at [1, 0, 2, 3] rfl ?_
                          exact kF25 ((1 : Int32), s29)
                        · refine z_loop (lvf := fun (q : Int32 × Zr) => [(0, zrv G.2.1 (some R)), (2, .int v7), (3, .int v14), (4, .int x20), (5, .int x21), (6, .int q.1)]) (hf2 := fun (q : Int32 × Zr) => zput R h0 q.2) (s0 := ((0 : Int32), s15)) (fun K31 bK31 rK31 q => ?_)
                          obtain ⟨v27, s28⟩ := q
                          try dsimp only
                          refine z_iload (j := 5) dX6_joinParts_79 rfl ?_
                          refine z_bipush (v := 12) dX6_joinParts_81 (by decide) ?_
                          refine z_itb ?_
                          refine z_icmp_ge (tgt := 123) dX6_joinParts_83 (by decide) (fun _ => ?_) (fun _ => ?_)
                          · refine z_sb ?_
                            refine z_eq (rK31 _) ?_
                            refine z_at [0, 1, 2] rfl ?_
                            exact kF30 s28
                          · refine z_aload_n (j := 0) dX6_joinParts_86 rfl rfl ?_
                            refine z_rgetA (k := 51) (a := 39) hF dX6_joinParts_87 (by decide) rfl zw827 rfl ?_
                            refine z_iload (j := 5) dX6_joinParts_90 rfl ?_
                            refine z_aload_n (j := 0) dX6_joinParts_92 rfl rfl ?_
                            refine z_rgetA (k := 51) (a := 39) hF dX6_joinParts_93 (by decide) rfl zw827 rfl ?_
                            refine z_iload (j := 5) dX6_joinParts_96 rfl ?_
                            refine z_as ?_
                            refine z_riald hF dX6_joinParts_98 (fun x32 => ?_)
                            refine z_iload (j := 4) dX6_joinParts_99 rfl ?_
                            refine z_as ?_
                            refine z_join (pc2 := 116) (lv2 := fun (q : Int32) => [(0, zrv G.2.1 (some R)), (2, .int v7), (3, .int v14), (4, .int x20), (5, .int x21), (6, .int v27)]) (st2 := fun (q : Int32) => [.int q, .int v27, zrv G.2.1 (some (R + 40))]) (h2 := fun (q : Int32) => zput R h0 s28) (fun q => ?_) (fun F34 kF34 => ?_)
                            · obtain ⟨v33, e0⟩ : ∃ z, z = q := ⟨_, rfl⟩
                              subst e0
                              try dsimp only
                              refine z_as ?_
                              refine z_riast hF dX6_joinParts_116 (fun s36 => ?_)
                              refine z_iinc (j := 5) (v := v27 + (1 : Int32)) (lv' := [(6, .int (v27 + (1 : Int32))), (0, zrv G.2.1 (some R)), (2, .int v7), (3, .int v14), (4, .int x20), (5, .int x21)]) dX6_joinParts_117 rfl rfl (by decide) rfl ?_
                              refine z_goto (tgt := 79) dX6_joinParts_120 (by decide) ?_
                              refine z_sb ?_
                              refine z_at [1, 2, 3, 4, 5, 0] rfl ?_
                              exact bK31 (v27 + (1 : Int32), s36)
                            · refine z_itb ?_
                              refine z_icmp_ne (tgt := 109) dX6_joinParts_101 (by decide) (fun _ => ?_) (fun _ => ?_)
                              · refine z_iload (j := 3) dX6_joinParts_104 rfl ?_
                                refine z_goto (tgt := 116) dX6_joinParts_106 (by decide) ?_
                                refine z_sb ?_
                                refine z_at [0, 1, 2, 3, 4, 5] rfl ?_
                                exact kF34 x20
                              · refine z_aload_n (j := 0) dX6_joinParts_109 rfl rfl ?_
                                refine z_rgetA (k := 51) (a := 39) hF dX6_joinParts_110 (by decide) rfl zw827 rfl ?_
                                refine z_iload (j := 5) dX6_joinParts_113 rfl ?_
                                refine z_as ?_
                                refine z_riald hF dX6_joinParts_115 (fun x35 => ?_)
                                refine z_sb ?_
                                refine z_at [0, 1, 2, 3, 4, 5] rfl ?_
                                exact kF34 x35
                · refine z_sb ?_
                  refine z_eq (rK19 _) ?_
                  refine z_at [0, 1, 2] rfl ?_
                  exact kF18 (v13, s15)
          · refine z_sb ?_
            refine z_eq (rK12 _) ?_
            refine z_at [0, 1] rfl ?_
            exact kF11 (v6, s8)
def fX6_orderParts (s : Zr) : Option (Zr) :=
  (zloop (fun ((v1, s2) : Int32 × Zr) =>
    (if (s2 0 52) ≤ v1 then
      some (.inr s2)
    else
      (rdI s2 41 v1).bind fun x6 =>
      (zloop (fun ((v7, s8) : Int32 × Zr) =>
        (if v7 ≤ 0 then
          some (.inr (v7, s8))
        else
          (rdI s8 41 (v7 - (1 : Int32))).bind fun x13 =>
          (fX6_reaches s8 x6 x13).bind fun x14 =>
          if x14 = 0 then
            some (.inr (v7, s8))
          else
            (rdI s8 41 (v7 - (1 : Int32))).bind fun x15 =>
            (wrI s8 41 v7 x15).bind fun s16 =>
            some (.inl (v7 + (-1 : Int32), s16)) : Option ((Int32 × Zr) ⊕ (Int32 × Zr)))) zFU (v1, s2)).bind fun ((w9, s10) : Int32 × Zr) =>
      (wrI s10 41 w9 x6).bind fun s17 =>
      some (.inl (v1 + (1 : Int32), s17)) : Option ((Int32 × Zr) ⊕ Zr))) zFU ((1 : Int32), s)).bind fun (s3 : Zr) =>
  some s3
set_option maxRecDepth 100000 in
set_option maxHeartbeats 4000000 in
theorem kX6_orderParts (G : Zg) (R : Nat) (h0 : Zh) (hF : zRF R h0) (s : Zr) {x : Zr} (hx : fX6_orderParts s = some x) : zCt G yX6_orderParts cX6_orderParts 4 (Option.none : Option Jvm.ClassFile.FieldType) 2 [zrv G.2.1 (some R)] (zput R h0 s) none (zput R h0 x) := by
  refine z_met (a := x) (rvf := fun (_ : Zr) => none) (hff := fun (x : Zr) => zput R h0 x) (lv := [(0, zrv G.2.1 (some R))]) (by decide +kernel) (by simp [lg_sl, zcat1, zcI, zcJ]) (by simp [lv_args, zcat1, zcI, zcJ]) ?_ hx
  unfold fX6_orderParts
  refine z_iconst (v := 1) dX6_orderParts_0 (by decide) ?_
  refine z_istore_n (lv' := [(1, .int (1 : Int32)), (0, zrv G.2.1 (some R))]) dX6_orderParts_1 rfl (by decide) rfl ?_
  refine z_at [1, 0] rfl ?_
  refine z_join (pc2 := 72) (lv2 := fun (q : Zr) => []) (st2 := fun _ => []) (h2 := fun (q : Zr) => zput R h0 q) (fun q => ?_) (fun F4 kF4 => ?_)
  · obtain ⟨s3, e0⟩ : ∃ z, z = q := ⟨_, rfl⟩
    subst e0
    try dsimp only
    exact z_vret dX6_orderParts_72 rfl rfl rfl
  · refine z_loop (lvf := fun (q : Int32 × Zr) => [(0, zrv G.2.1 (some R)), (1, .int q.1)]) (hf2 := fun (q : Int32 × Zr) => zput R h0 q.2) (s0 := ((1 : Int32), s)) (fun K5 bK5 rK5 q => ?_)
    obtain ⟨v1, s2⟩ := q
    try dsimp only
    refine z_iload_n (j := 1) dX6_orderParts_2 rfl rfl ?_
    refine z_aload_n (j := 0) dX6_orderParts_3 rfl rfl ?_
    refine z_rgetI (k := 52) hF dX6_orderParts_4 (by decide) rfl zw828 ?_
    refine z_itb ?_
    refine z_icmp_ge (tgt := 72) dX6_orderParts_7 (by decide) (fun _ => ?_) (fun _ => ?_)
    · refine z_sb ?_
      refine z_eq (rK5 _) ?_
      refine z_at [] rfl ?_
      exact kF4 s2
    · refine z_aload_n (j := 0) dX6_orderParts_10 rfl rfl ?_
      refine z_rgetA (k := 53) (a := 40) hF dX6_orderParts_11 (by decide) rfl zw829 rfl ?_
      refine z_iload_n (j := 1) dX6_orderParts_14 rfl rfl ?_
      refine z_as ?_
      refine z_riald hF dX6_orderParts_15 (fun x6 => ?_)
      refine z_istore_n (lv' := [(2, .int x6), (0, zrv G.2.1 (some R)), (1, .int v1)]) dX6_orderParts_16 rfl (by decide) rfl ?_
      refine z_iload_n (j := 2) dX6_orderParts_17 rfl rfl ?_
      refine z_istore_n (lv' := [(3, .int v1), (2, .int x6), (0, zrv G.2.1 (some R)), (1, .int v1)]) dX6_orderParts_18 rfl (by decide) rfl ?_
      refine z_as ?_
      refine z_at [2, 3, 1, 0] rfl ?_
      refine z_join (pc2 := 59) (lv2 := fun (q : Int32 × Zr) => [(0, zrv G.2.1 (some R)), (1, .int v1), (2, .int x6), (3, .int q.1)]) (st2 := fun _ => []) (h2 := fun (q : Int32 × Zr) => zput R h0 q.2) (fun q => ?_) (fun F11 kF11 => ?_)
      · obtain ⟨w9, s10⟩ := q
        try dsimp only
        refine z_aload_n (j := 0) dX6_orderParts_59 rfl rfl ?_
        refine z_rgetA (k := 53) (a := 40) hF dX6_orderParts_60 (by decide) rfl zw829 rfl ?_
        refine z_iload_n (j := 3) dX6_orderParts_63 rfl rfl ?_
        refine z_iload_n (j := 2) dX6_orderParts_64 rfl rfl ?_
        refine z_as ?_
        refine z_riast hF dX6_orderParts_65 (fun s17 => ?_)
        refine z_iinc (j := 1) (v := v1 + (1 : Int32)) (lv' := [(1, .int (v1 + (1 : Int32))), (0, zrv G.2.1 (some R)), (2, .int x6), (3, .int w9)]) dX6_orderParts_66 rfl rfl (by decide) rfl ?_
        refine z_goto (tgt := 2) dX6_orderParts_69 (by decide) ?_
        refine z_sb ?_
        refine z_at [1, 0] rfl ?_
        exact bK5 (v1 + (1 : Int32), s17)
      · refine z_loop (lvf := fun (q : Int32 × Zr) => [(0, zrv G.2.1 (some R)), (1, .int v1), (2, .int x6), (3, .int q.1)]) (hf2 := fun (q : Int32 × Zr) => zput R h0 q.2) (s0 := (v1, s2)) (fun K12 bK12 rK12 q => ?_)
        obtain ⟨v7, s8⟩ := q
        try dsimp only
        refine z_iload_n (j := 3) dX6_orderParts_19 rfl rfl ?_
        refine z_itb ?_
        refine z_if_le (tgt := 59) dX6_orderParts_20 (by decide) (fun _ => ?_) (fun _ => ?_)
        · refine z_sb ?_
          refine z_eq (rK12 _) ?_
          refine z_at [0, 1, 2, 3] rfl ?_
          exact kF11 (v7, s8)
        · refine z_aload_n (j := 0) dX6_orderParts_23 rfl rfl ?_
          refine z_iload_n (j := 2) dX6_orderParts_24 rfl rfl ?_
          refine z_aload_n (j := 0) dX6_orderParts_25 rfl rfl ?_
          refine z_rgetA (k := 53) (a := 40) hF dX6_orderParts_26 (by decide) rfl zw829 rfl ?_
          refine z_iload_n (j := 3) dX6_orderParts_29 rfl rfl ?_
          refine z_iconst (v := 1) dX6_orderParts_30 (by decide) ?_
          refine z_isub dX6_orderParts_31 ?_
          refine z_as ?_
          refine z_riald hF dX6_orderParts_32 (fun x13 => ?_)
          refine z_as ?_
          refine z_callV (As := [.int x6, .int x13]) (rest := []) (rv2 := fun (x : Int32) => some (.int x)) (h2 := fun (_ : Int32) => zput R h0 s8) dX6_orderParts_33 vX6_reaches (.inl zw1223) (by decide) zkl7 (zRrecv hF).1 (zRrecv hF).2 rfl rfl (by decide) (fun x hx => kX6_reaches G R h0 hF s8 x6 x13 hx) (fun x14 => ?_)
          try dsimp only [Option.toList, List.cons_append, List.nil_append]
          refine z_itb ?_
          refine z_if_eq (tgt := 59) dX6_orderParts_36 (by decide) (fun _ => ?_) (fun _ => ?_)
          · refine z_sb ?_
            refine z_eq (rK12 _) ?_
            refine z_at [0, 1, 2, 3] rfl ?_
            exact kF11 (v7, s8)
          · refine z_aload_n (j := 0) dX6_orderParts_39 rfl rfl ?_
            refine z_rgetA (k := 53) (a := 40) hF dX6_orderParts_40 (by decide) rfl zw829 rfl ?_
            refine z_iload_n (j := 3) dX6_orderParts_43 rfl rfl ?_
            refine z_aload_n (j := 0) dX6_orderParts_44 rfl rfl ?_
            refine z_rgetA (k := 53) (a := 40) hF dX6_orderParts_45 (by decide) rfl zw829 rfl ?_
            refine z_iload_n (j := 3) dX6_orderParts_48 rfl rfl ?_
            refine z_iconst (v := 1) dX6_orderParts_49 (by decide) ?_
            refine z_isub dX6_orderParts_50 ?_
            refine z_as ?_
            refine z_riald hF dX6_orderParts_51 (fun x15 => ?_)
            refine z_as ?_
            refine z_riast hF dX6_orderParts_52 (fun s16 => ?_)
            refine z_iinc (j := 3) (v := v7 + (-1 : Int32)) (lv' := [(3, .int (v7 + (-1 : Int32))), (0, zrv G.2.1 (some R)), (1, .int v1), (2, .int x6)]) dX6_orderParts_53 rfl rfl (by decide) rfl ?_
            refine z_goto (tgt := 19) dX6_orderParts_56 (by decide) ?_
            refine z_sb ?_
            refine z_at [1, 2, 3, 0] rfl ?_
            exact bK12 (v7 + (-1 : Int32), s16)
def fX6_cutsChoice (s : Zr) : Option (Int32 × Zr) :=
  (zloop (fun ((v1, s2) : Int32 × Zr) =>
    (if (144 : Int32) ≤ v1 then
      some (.inr s2)
    else
      (rdZ s2 36 v1).bind fun x6 =>
      (wrZ s2 42 v1 x6).bind fun s7 =>
      some (.inl (v1 + (1 : Int32), s7)) : Option ((Int32 × Zr) ⊕ Zr))) zFU ((0 : Int32), s)).bind fun (s3 : Zr) =>
  (fX6_gatherParts s3 37).bind fun s8 =>
  (if (s8 0 52) ≤ (1 : Int32) then
    some (0 : Int32)
  else
    some (1 : Int32)).bind fun (v9 : Int32) =>
  (zbo v9).bind fun _ =>
  some (v9, s8)
set_option maxRecDepth 100000 in
set_option maxHeartbeats 4000000 in
theorem kX6_cutsChoice (G : Zg) (R : Nat) (h0 : Zh) (hF : zRF R h0) (s : Zr) {x : Int32 × Zr} (hx : fX6_cutsChoice s = some x) : zCt G yX6_cutsChoice cX6_cutsChoice 2 (Option.some Jvm.ClassFile.FieldType.boolean) 3 [zrv G.2.1 (some R)] (zput R h0 s) (some (.int x.1)) (zput R h0 x.2) := by
  refine z_met (a := x) (rvf := fun (x : Int32 × Zr) => some (.int x.1)) (hff := fun (x : Int32 × Zr) => zput R h0 x.2) (lv := [(0, zrv G.2.1 (some R))]) (by decide +kernel) (by simp [lg_sl, zcat1, zcI, zcJ]) (by simp [lv_args, zcat1, zcI, zcJ]) ?_ hx
  unfold fX6_cutsChoice
  refine z_iconst (v := 0) dX6_cutsChoice_0 (by decide) ?_
  refine z_istore_n (lv' := [(1, .int (0 : Int32)), (0, zrv G.2.1 (some R))]) dX6_cutsChoice_1 rfl (by decide) rfl ?_
  refine z_at [1, 0] rfl ?_
  refine z_join (pc2 := 27) (lv2 := fun (q : Zr) => [(0, zrv G.2.1 (some R))]) (st2 := fun _ => []) (h2 := fun (q : Zr) => zput R h0 q) (fun q => ?_) (fun F4 kF4 => ?_)
  · obtain ⟨s3, e0⟩ : ∃ z, z = q := ⟨_, rfl⟩
    subst e0
    try dsimp only
    refine z_aload_n (j := 0) dX6_cutsChoice_27 rfl rfl ?_
    refine z_aload_n (j := 0) dX6_cutsChoice_28 rfl rfl ?_
    refine z_rgetA (k := 48) (a := 36) hF dX6_cutsChoice_29 (by decide) rfl zw824 rfl ?_
    refine z_callV (As := [zrv G.2.1 (some (R + 37))]) (rest := []) (rv2 := fun (_ : Zr) => none) (h2 := fun (x : Zr) => zput R h0 x) dX6_cutsChoice_32 vX6_gatherParts (.inl zw1195) (by decide) zkl7 (zRrecv hF).1 (zRrecv hF).2 rfl rfl (by decide) (fun x hx => kX6_gatherParts G R h0 hF s3 37 hx) (fun s8 => ?_)
    try dsimp only [Option.toList, List.cons_append, List.nil_append]
    refine z_aload_n (j := 0) dX6_cutsChoice_35 rfl rfl ?_
    refine z_rgetI (k := 52) hF dX6_cutsChoice_36 (by decide) rfl zw828 ?_
    refine z_iconst (v := 1) dX6_cutsChoice_39 (by decide) ?_
    refine z_join (pc2 := 48) (lv2 := fun (q : Int32) => []) (st2 := fun (q : Int32) => [.int q]) (h2 := fun (q : Int32) => zput R h0 s8) (fun q => ?_) (fun F10 kF10 => ?_)
    · obtain ⟨v9, e0⟩ : ∃ z, z = q := ⟨_, rfl⟩
      subst e0
      try dsimp only
      refine z_bo (fun hbb11 => ?_)
      exact z_iret dX6_cutsChoice_48 rfl (by rcases hbb11 with q | q <;> rw [q] <;> rfl) rfl rfl
    · refine z_itb ?_
      refine z_icmp_le (tgt := 47) dX6_cutsChoice_40 (by decide) (fun _ => ?_) (fun _ => ?_)
      · refine z_iconst (v := 0) dX6_cutsChoice_47 (by decide) ?_
        refine z_sb ?_
        refine z_at [] rfl ?_
        exact kF10 (0 : Int32)
      · refine z_iconst (v := 1) dX6_cutsChoice_43 (by decide) ?_
        refine z_goto (tgt := 48) dX6_cutsChoice_44 (by decide) ?_
        refine z_sb ?_
        refine z_at [] rfl ?_
        exact kF10 (1 : Int32)
  · refine z_loop (lvf := fun (q : Int32 × Zr) => [(0, zrv G.2.1 (some R)), (1, .int q.1)]) (hf2 := fun (q : Int32 × Zr) => zput R h0 q.2) (s0 := ((0 : Int32), s)) (fun K5 bK5 rK5 q => ?_)
    obtain ⟨v1, s2⟩ := q
    try dsimp only
    refine z_iload_n (j := 1) dX6_cutsChoice_2 rfl rfl ?_
    refine z_sipush (v := 144) dX6_cutsChoice_3 (by decide) ?_
    refine z_itb ?_
    refine z_icmp_ge (tgt := 27) dX6_cutsChoice_6 (by decide) (fun _ => ?_) (fun _ => ?_)
    · refine z_sb ?_
      refine z_eq (rK5 _) ?_
      refine z_at [0] rfl ?_
      exact kF4 s2
    · refine z_aload_n (j := 0) dX6_cutsChoice_9 rfl rfl ?_
      refine z_rgetA (k := 54) (a := 41) hF dX6_cutsChoice_10 (by decide) rfl zw830 rfl ?_
      refine z_iload_n (j := 1) dX6_cutsChoice_13 rfl rfl ?_
      refine z_aload_n (j := 0) dX6_cutsChoice_14 rfl rfl ?_
      refine z_rgetA (k := 47) (a := 35) hF dX6_cutsChoice_15 (by decide) rfl zw823 rfl ?_
      refine z_iload_n (j := 1) dX6_cutsChoice_18 rfl rfl ?_
      refine z_as ?_
      refine z_rzald hF dX6_cutsChoice_19 (fun x6 => ?_)
      refine z_as ?_
      refine z_rzast hF dX6_cutsChoice_20 (fun s7 => ?_)
      refine z_iinc (j := 1) (v := v1 + (1 : Int32)) (lv' := [(1, .int (v1 + (1 : Int32))), (0, zrv G.2.1 (some R))]) dX6_cutsChoice_21 rfl rfl (by decide) rfl ?_
      refine z_goto (tgt := 2) dX6_cutsChoice_24 (by decide) ?_
      refine z_sb ?_
      refine z_at [1, 0] rfl ?_
      exact bK5 (v1 + (1 : Int32), s7)
def fX6_cutsRow (s : Zr) : Option (Int32 × Zr) :=
  (fX6_layReach s).bind fun s1 =>
  (zloop (fun ((v2, s3) : Int32 × Zr) =>
    (if (12 : Int32) ≤ v2 then
      some (.inr s3)
    else
      (zloop (fun ((v7, s8) : Int32 × Zr) =>
        (if (12 : Int32) ≤ v7 then
          some (.inr s8)
        else
          (rdZ s8 43 (((12 : Int32) * v2) + v7)).bind fun x12 =>
          (rdZ s8 43 (((12 : Int32) * v7) + v2)).bind fun x13 =>
          (if x12 = x13 then
            some (1 : Int32)
          else
            some (0 : Int32)).bind fun (v14 : Int32) =>
          (wrZ s8 42 (((12 : Int32) * v2) + v7) v14).bind fun s16 =>
          some (.inl (v7 + (1 : Int32), s16)) : Option ((Int32 × Zr) ⊕ Zr))) zFU ((0 : Int32), s3)).bind fun (s9 : Zr) =>
      some (.inl (v2 + (1 : Int32), s9)) : Option ((Int32 × Zr) ⊕ Zr))) zFU ((0 : Int32), s1)).bind fun (s4 : Zr) =>
  (fX6_gatherParts s4 37).bind fun s17 =>
  (fX6_joinParts s17).bind fun s18 =>
  (fX6_orderParts s18).bind fun s19 =>
  (if (s19 0 52) ≤ (1 : Int32) then
    some (0 : Int32)
  else
    some (1 : Int32)).bind fun (v20 : Int32) =>
  (zbo v20).bind fun _ =>
  some (v20, s19)
set_option maxRecDepth 100000 in
set_option maxHeartbeats 4000000 in
theorem kX6_cutsRow (G : Zg) (R : Nat) (h0 : Zh) (hF : zRF R h0) (s : Zr) {x : Int32 × Zr} (hx : fX6_cutsRow s = some x) : zCt G yX6_cutsRow cX6_cutsRow 3 (Option.some Jvm.ClassFile.FieldType.boolean) 3 [zrv G.2.1 (some R)] (zput R h0 s) (some (.int x.1)) (zput R h0 x.2) := by
  refine z_met (a := x) (rvf := fun (x : Int32 × Zr) => some (.int x.1)) (hff := fun (x : Int32 × Zr) => zput R h0 x.2) (lv := [(0, zrv G.2.1 (some R))]) (by decide +kernel) (by simp [lg_sl, zcat1, zcI, zcJ]) (by simp [lv_args, zcat1, zcI, zcJ]) ?_ hx
  unfold fX6_cutsRow
  refine z_aload_n (j := 0) dX6_cutsRow_0 rfl rfl ?_
  refine z_callV (As := []) (rest := []) (rv2 := fun (_ : Zr) => none) (h2 := fun (x : Zr) => zput R h0 x) dX6_cutsRow_1 vX6_layReach (.inl zw1215) (by decide) zkl7 (zRrecv hF).1 (zRrecv hF).2 rfl rfl (by decide) (fun x hx => kX6_layReach G R h0 hF s hx) (fun s1 => ?_)
  try dsimp only [Option.toList, List.cons_append, List.nil_append]
  refine z_iconst (v := 0) dX6_cutsRow_4 (by decide) ?_
  refine z_istore_n (lv' := [(1, .int (0 : Int32)), (0, zrv G.2.1 (some R))]) dX6_cutsRow_5 rfl (by decide) rfl ?_
  refine z_at [1, 0] rfl ?_
  refine z_join (pc2 := 73) (lv2 := fun (q : Zr) => [(0, zrv G.2.1 (some R))]) (st2 := fun _ => []) (h2 := fun (q : Zr) => zput R h0 q) (fun q => ?_) (fun F5 kF5 => ?_)
  · obtain ⟨s4, e0⟩ : ∃ z, z = q := ⟨_, rfl⟩
    subst e0
    try dsimp only
    refine z_aload_n (j := 0) dX6_cutsRow_73 rfl rfl ?_
    refine z_aload_n (j := 0) dX6_cutsRow_74 rfl rfl ?_
    refine z_rgetA (k := 48) (a := 36) hF dX6_cutsRow_75 (by decide) rfl zw824 rfl ?_
    refine z_callV (As := [zrv G.2.1 (some (R + 37))]) (rest := []) (rv2 := fun (_ : Zr) => none) (h2 := fun (x : Zr) => zput R h0 x) dX6_cutsRow_78 vX6_gatherParts (.inl zw1195) (by decide) zkl7 (zRrecv hF).1 (zRrecv hF).2 rfl rfl (by decide) (fun x hx => kX6_gatherParts G R h0 hF s4 37 hx) (fun s17 => ?_)
    try dsimp only [Option.toList, List.cons_append, List.nil_append]
    refine z_aload_n (j := 0) dX6_cutsRow_81 rfl rfl ?_
    refine z_callV (As := []) (rest := []) (rv2 := fun (_ : Zr) => none) (h2 := fun (x : Zr) => zput R h0 x) dX6_cutsRow_82 vX6_joinParts (.inl zw1219) (by decide) zkl7 (zRrecv hF).1 (zRrecv hF).2 rfl rfl (by decide) (fun x hx => kX6_joinParts G R h0 hF s17 hx) (fun s18 => ?_)
    try dsimp only [Option.toList, List.cons_append, List.nil_append]
    refine z_aload_n (j := 0) dX6_cutsRow_85 rfl rfl ?_
    refine z_callV (As := []) (rest := []) (rv2 := fun (_ : Zr) => none) (h2 := fun (x : Zr) => zput R h0 x) dX6_cutsRow_86 vX6_orderParts (.inl zw1227) (by decide) zkl7 (zRrecv hF).1 (zRrecv hF).2 rfl rfl (by decide) (fun x hx => kX6_orderParts G R h0 hF s18 hx) (fun s19 => ?_)
    try dsimp only [Option.toList, List.cons_append, List.nil_append]
    refine z_aload_n (j := 0) dX6_cutsRow_89 rfl rfl ?_
    refine z_rgetI (k := 52) hF dX6_cutsRow_90 (by decide) rfl zw828 ?_
    refine z_iconst (v := 1) dX6_cutsRow_93 (by decide) ?_
    refine z_join (pc2 := 102) (lv2 := fun (q : Int32) => []) (st2 := fun (q : Int32) => [.int q]) (h2 := fun (q : Int32) => zput R h0 s19) (fun q => ?_) (fun F21 kF21 => ?_)
    · obtain ⟨v20, e0⟩ : ∃ z, z = q := ⟨_, rfl⟩
      subst e0
      try dsimp only
      refine z_bo (fun hbb22 => ?_)
      exact z_iret dX6_cutsRow_102 rfl (by rcases hbb22 with q | q <;> rw [q] <;> rfl) rfl rfl
    · refine z_itb ?_
      refine z_icmp_le (tgt := 101) dX6_cutsRow_94 (by decide) (fun _ => ?_) (fun _ => ?_)
      · refine z_iconst (v := 0) dX6_cutsRow_101 (by decide) ?_
        refine z_sb ?_
        refine z_at [] rfl ?_
        exact kF21 (0 : Int32)
      · refine z_iconst (v := 1) dX6_cutsRow_97 (by decide) ?_
        refine z_goto (tgt := 102) dX6_cutsRow_98 (by decide) ?_
        refine z_sb ?_
        refine z_at [] rfl ?_
        exact kF21 (1 : Int32)
  · refine z_loop (lvf := fun (q : Int32 × Zr) => [(0, zrv G.2.1 (some R)), (1, .int q.1)]) (hf2 := fun (q : Int32 × Zr) => zput R h0 q.2) (s0 := ((0 : Int32), s1)) (fun K6 bK6 rK6 q => ?_)
    obtain ⟨v2, s3⟩ := q
    try dsimp only
    refine z_iload_n (j := 1) dX6_cutsRow_6 rfl rfl ?_
    refine z_bipush (v := 12) dX6_cutsRow_7 (by decide) ?_
    refine z_itb ?_
    refine z_icmp_ge (tgt := 73) dX6_cutsRow_9 (by decide) (fun _ => ?_) (fun _ => ?_)
    · refine z_sb ?_
      refine z_eq (rK6 _) ?_
      refine z_at [0] rfl ?_
      exact kF5 s3
    · refine z_iconst (v := 0) dX6_cutsRow_12 (by decide) ?_
      refine z_istore_n (lv' := [(2, .int (0 : Int32)), (0, zrv G.2.1 (some R)), (1, .int v2)]) dX6_cutsRow_13 rfl (by decide) rfl ?_
      refine z_as ?_
      refine z_at [1, 2, 0] rfl ?_
      refine z_join (pc2 := 67) (lv2 := fun (q : Zr) => [(0, zrv G.2.1 (some R)), (1, .int v2)]) (st2 := fun _ => []) (h2 := fun (q : Zr) => zput R h0 q) (fun q => ?_) (fun F10 kF10 => ?_)
      · obtain ⟨s9, e0⟩ : ∃ z, z = q := ⟨_, rfl⟩
        subst e0
        try dsimp only
        refine z_iinc (j := 1) (v := v2 + (1 : Int32)) (lv' := [(1, .int (v2 + (1 : Int32))), (0, zrv G.2.1 (some R))]) dX6_cutsRow_67 rfl rfl (by decide) rfl ?_
        refine z_goto (tgt := 6) dX6_cutsRow_70 (by decide) ?_
        refine z_sb ?_
        refine z_at [1, 0] rfl ?_
        exact bK6 (v2 + (1 : Int32), s9)
      · refine z_loop (lvf := fun (q : Int32 × Zr) => [(0, zrv G.2.1 (some R)), (1, .int v2), (2, .int q.1)]) (hf2 := fun (q : Int32 × Zr) => zput R h0 q.2) (s0 := ((0 : Int32), s3)) (fun K11 bK11 rK11 q => ?_)
        obtain ⟨v7, s8⟩ := q
        try dsimp only
        refine z_iload_n (j := 2) dX6_cutsRow_14 rfl rfl ?_
        refine z_bipush (v := 12) dX6_cutsRow_15 (by decide) ?_
        refine z_itb ?_
        refine z_icmp_ge (tgt := 67) dX6_cutsRow_17 (by decide) (fun _ => ?_) (fun _ => ?_)
        · refine z_sb ?_
          refine z_eq (rK11 _) ?_
          refine z_at [0, 1] rfl ?_
          exact kF10 s8
        · refine z_aload_n (j := 0) dX6_cutsRow_20 rfl rfl ?_
          refine z_rgetA (k := 54) (a := 41) hF dX6_cutsRow_21 (by decide) rfl zw830 rfl ?_
          refine z_bipush (v := 12) dX6_cutsRow_24 (by decide) ?_
          refine z_iload_n (j := 1) dX6_cutsRow_26 rfl rfl ?_
          refine z_imul dX6_cutsRow_27 ?_
          refine z_iload_n (j := 2) dX6_cutsRow_28 rfl rfl ?_
          refine z_iadd dX6_cutsRow_29 ?_
          refine z_aload_n (j := 0) dX6_cutsRow_30 rfl rfl ?_
          refine z_rgetA (k := 55) (a := 42) hF dX6_cutsRow_31 (by decide) rfl zw831 rfl ?_
          refine z_bipush (v := 12) dX6_cutsRow_34 (by decide) ?_
          refine z_iload_n (j := 1) dX6_cutsRow_36 rfl rfl ?_
          refine z_imul dX6_cutsRow_37 ?_
          refine z_iload_n (j := 2) dX6_cutsRow_38 rfl rfl ?_
          refine z_iadd dX6_cutsRow_39 ?_
          refine z_as ?_
          refine z_rzald hF dX6_cutsRow_40 (fun x12 => ?_)
          refine z_aload_n (j := 0) dX6_cutsRow_41 rfl rfl ?_
          refine z_rgetA (k := 55) (a := 42) hF dX6_cutsRow_42 (by decide) rfl zw831 rfl ?_
          refine z_bipush (v := 12) dX6_cutsRow_45 (by decide) ?_
          refine z_iload_n (j := 2) dX6_cutsRow_47 rfl rfl ?_
          refine z_imul dX6_cutsRow_48 ?_
          refine z_iload_n (j := 1) dX6_cutsRow_49 rfl rfl ?_
          refine z_iadd dX6_cutsRow_50 ?_
          refine z_as ?_
          refine z_rzald hF dX6_cutsRow_51 (fun x13 => ?_)
          refine z_as ?_
          refine z_join (pc2 := 60) (lv2 := fun (q : Int32) => [(0, zrv G.2.1 (some R)), (1, .int v2), (2, .int v7)]) (st2 := fun (q : Int32) => [.int q, .int (((12 : Int32) * v2) + v7), zrv G.2.1 (some (R + 42))]) (h2 := fun (q : Int32) => zput R h0 s8) (fun q => ?_) (fun F15 kF15 => ?_)
          · obtain ⟨v14, e0⟩ : ∃ z, z = q := ⟨_, rfl⟩
            subst e0
            try dsimp only
            refine z_as ?_
            refine z_rzast hF dX6_cutsRow_60 (fun s16 => ?_)
            refine z_iinc (j := 2) (v := v7 + (1 : Int32)) (lv' := [(2, .int (v7 + (1 : Int32))), (0, zrv G.2.1 (some R)), (1, .int v2)]) dX6_cutsRow_61 rfl rfl (by decide) rfl ?_
            refine z_goto (tgt := 14) dX6_cutsRow_64 (by decide) ?_
            refine z_sb ?_
            refine z_at [1, 2, 0] rfl ?_
            exact bK11 (v7 + (1 : Int32), s16)
          · refine z_itb ?_
            refine z_icmp_ne (tgt := 59) dX6_cutsRow_52 (by decide) (fun _ => ?_) (fun _ => ?_)
            · refine z_iconst (v := 1) dX6_cutsRow_55 (by decide) ?_
              refine z_goto (tgt := 60) dX6_cutsRow_56 (by decide) ?_
              refine z_sb ?_
              refine z_at [0, 1, 2] rfl ?_
              exact kF15 (1 : Int32)
            · refine z_iconst (v := 0) dX6_cutsRow_59 (by decide) ?_
              refine z_sb ?_
              refine z_at [0, 1, 2] rfl ?_
              exact kF15 (0 : Int32)
def fX6_cutsBeside (s : Zr) : Option (Int32 × Zr) :=
  (zloop (fun ((v1, s2) : Int32 × Zr) =>
    (if (12 : Int32) ≤ v1 then
      some (.inr s2)
    else
      (zloop (fun ((v6, s7) : Int32 × Zr) =>
        (if (12 : Int32) ≤ v6 then
          some (.inr s7)
        else
          (rdZ s7 36 (((12 : Int32) * v1) + v6)).bind fun x11 =>
          (if x11 = 0 then
            some (1 : Int32)
          else
            (rdZ s7 36 (((12 : Int32) * v6) + v1)).bind fun x14 =>
            if x14 = 0 then
              some (1 : Int32)
            else
              some (0 : Int32)).bind fun (v12 : Int32) =>
          (wrZ s7 42 (((12 : Int32) * v1) + v6) v12).bind fun s15 =>
          some (.inl (v6 + (1 : Int32), s15)) : Option ((Int32 × Zr) ⊕ Zr))) zFU ((0 : Int32), s2)).bind fun (s8 : Zr) =>
      some (.inl (v1 + (1 : Int32), s8)) : Option ((Int32 × Zr) ⊕ Zr))) zFU ((0 : Int32), s)).bind fun (s3 : Zr) =>
  (fX6_gatherParts s3 37).bind fun s16 =>
  (if (s16 0 52) ≤ (1 : Int32) then
    some (0 : Int32)
  else
    some (1 : Int32)).bind fun (v17 : Int32) =>
  (zloop (fun ((v19, v20) : Int32 × Int32) =>
    (if (s16 0 52) ≤ v20 then
      some (.inr v19)
    else
      (zloop (fun ((v24, v25, v26) : Int32 × Int32 × Int32) =>
        (if (12 : Int32) ≤ v26 then
          some (.inr (v24, v25))
        else
          (if v24 = 0 then
            (rdI s16 40 v26).bind fun x33 =>
            (rdI s16 41 v20).bind fun x34 =>
            if x33 = x34 then
              (rdZ s16 38 v26).bind fun x35 =>
              if x35 = 0 then
                some (0 : Int32)
              else
                some (1 : Int32)
            else
              some (0 : Int32)
          else
            some (1 : Int32)).bind fun (v31 : Int32) =>
          (if v25 = 0 then
            (rdI s16 40 v26).bind fun x38 =>
            (rdI s16 41 v20).bind fun x39 =>
            if x38 = x39 then
              (rdZ s16 39 v26).bind fun x40 =>
              if x40 = 0 then
                some (0 : Int32)
              else
                some (1 : Int32)
            else
              some (0 : Int32)
          else
            some (1 : Int32)).bind fun (v36 : Int32) =>
          some (.inl (v31, v36, v26 + (1 : Int32))) : Option ((Int32 × Int32 × Int32) ⊕ (Int32 × Int32)))) zFU ((0 : Int32), (0 : Int32), (0 : Int32))).bind fun ((w27, w28) : Int32 × Int32) =>
      (if v19 = 0 then
        some (0 : Int32)
      else
        if w27 = 0 then
          some (0 : Int32)
        else
          if w28 = 0 then
            some (0 : Int32)
          else
            some (1 : Int32)).bind fun (v41 : Int32) =>
      some (.inl (v41, v20 + (1 : Int32))) : Option ((Int32 × Int32) ⊕ Int32))) zFU (v17, (0 : Int32))).bind fun (w21 : Int32) =>
  (zbo w21).bind fun _ =>
  some (w21, s16)
set_option maxRecDepth 100000 in
set_option maxHeartbeats 4000000 in
theorem kX6_cutsBeside (G : Zg) (R : Nat) (h0 : Zh) (hF : zRF R h0) (s : Zr) {x : Int32 × Zr} (hx : fX6_cutsBeside s = some x) : zCt G yX6_cutsBeside cX6_cutsBeside 6 (Option.some Jvm.ClassFile.FieldType.boolean) 3 [zrv G.2.1 (some R)] (zput R h0 s) (some (.int x.1)) (zput R h0 x.2) := by
  refine z_met (a := x) (rvf := fun (x : Int32 × Zr) => some (.int x.1)) (hff := fun (x : Int32 × Zr) => zput R h0 x.2) (lv := [(0, zrv G.2.1 (some R))]) (by decide +kernel) (by simp [lg_sl, zcat1, zcI, zcJ]) (by simp [lv_args, zcat1, zcI, zcJ]) ?_ hx
  unfold fX6_cutsBeside
  refine z_iconst (v := 0) dX6_cutsBeside_0 (by decide) ?_
  refine z_istore_n (lv' := [(1, .int (0 : Int32)), (0, zrv G.2.1 (some R))]) dX6_cutsBeside_1 rfl (by decide) rfl ?_
  refine z_at [1, 0] rfl ?_
  refine z_join (pc2 := 72) (lv2 := fun (q : Zr) => [(0, zrv G.2.1 (some R))]) (st2 := fun _ => []) (h2 := fun (q : Zr) => zput R h0 q) (fun q => ?_) (fun F4 kF4 => ?_)
  · obtain ⟨s3, e0⟩ : ∃ z, z = q := ⟨_, rfl⟩
    subst e0
    try dsimp only
    refine z_aload_n (j := 0) dX6_cutsBeside_72 rfl rfl ?_
    refine z_aload_n (j := 0) dX6_cutsBeside_73 rfl rfl ?_
    refine z_rgetA (k := 48) (a := 36) hF dX6_cutsBeside_74 (by decide) rfl zw824 rfl ?_
    refine z_callV (As := [zrv G.2.1 (some (R + 37))]) (rest := []) (rv2 := fun (_ : Zr) => none) (h2 := fun (x : Zr) => zput R h0 x) dX6_cutsBeside_77 vX6_gatherParts (.inl zw1195) (by decide) zkl7 (zRrecv hF).1 (zRrecv hF).2 rfl rfl (by decide) (fun x hx => kX6_gatherParts G R h0 hF s3 37 hx) (fun s16 => ?_)
    try dsimp only [Option.toList, List.cons_append, List.nil_append]
    refine z_aload_n (j := 0) dX6_cutsBeside_80 rfl rfl ?_
    refine z_rgetI (k := 52) hF dX6_cutsBeside_81 (by decide) rfl zw828 ?_
    refine z_iconst (v := 1) dX6_cutsBeside_84 (by decide) ?_
    refine z_join (pc2 := 93) (lv2 := fun (q : Int32) => [(0, zrv G.2.1 (some R))]) (st2 := fun (q : Int32) => [.int q]) (h2 := fun (q : Int32) => zput R h0 s16) (fun q => ?_) (fun F18 kF18 => ?_)
    · obtain ⟨v17, e0⟩ : ∃ z, z = q := ⟨_, rfl⟩
      subst e0
      try dsimp only
      refine z_istore_n (lv' := [(1, .int v17), (0, zrv G.2.1 (some R))]) dX6_cutsBeside_93 rfl (by decide) rfl ?_
      refine z_iconst (v := 0) dX6_cutsBeside_94 (by decide) ?_
      refine z_istore_n (lv' := [(2, .int (0 : Int32)), (1, .int v17), (0, zrv G.2.1 (some R))]) dX6_cutsBeside_95 rfl (by decide) rfl ?_
      refine z_at [2, 1, 0] rfl ?_
      refine z_join (pc2 := 224) (lv2 := fun (q : Int32) => [(1, .int q)]) (st2 := fun _ => []) (h2 := fun (q : Int32) => zput R h0 s16) (fun q => ?_) (fun F22 kF22 => ?_)
      · obtain ⟨w21, e0⟩ : ∃ z, z = q := ⟨_, rfl⟩
        subst e0
        try dsimp only
        refine z_iload_n (j := 0) dX6_cutsBeside_224 rfl rfl ?_
        refine z_bo (fun hbb43 => ?_)
        exact z_iret dX6_cutsBeside_225 rfl (by rcases hbb43 with q | q <;> rw [q] <;> rfl) rfl rfl
      · refine z_loop (lvf := fun (q : Int32 × Int32) => [(0, zrv G.2.1 (some R)), (1, .int q.1), (2, .int q.2)]) (hf2 := fun (q : Int32 × Int32) => zput R h0 s16) (s0 := (v17, (0 : Int32))) (fun K23 bK23 rK23 q => ?_)
        obtain ⟨v19, v20⟩ := q
        try dsimp only
        refine z_iload_n (j := 2) dX6_cutsBeside_96 rfl rfl ?_
        refine z_aload_n (j := 0) dX6_cutsBeside_97 rfl rfl ?_
        refine z_rgetI (k := 52) hF dX6_cutsBeside_98 (by decide) rfl zw828 ?_
        refine z_itb ?_
        refine z_icmp_ge (tgt := 224) dX6_cutsBeside_101 (by decide) (fun _ => ?_) (fun _ => ?_)
        · refine z_sb ?_
          refine z_eq (rK23 _) ?_
          refine z_at [1] rfl ?_
          exact kF22 v19
        · refine z_iconst (v := 0) dX6_cutsBeside_104 (by decide) ?_
          refine z_istore_n (lv' := [(3, .int (0 : Int32)), (0, zrv G.2.1 (some R)), (1, .int v19), (2, .int v20)]) dX6_cutsBeside_105 rfl (by decide) rfl ?_
          refine z_iconst (v := 0) dX6_cutsBeside_106 (by decide) ?_
          refine z_istore (lv' := [(4, .int (0 : Int32)), (3, .int (0 : Int32)), (0, zrv G.2.1 (some R)), (1, .int v19), (2, .int v20)]) dX6_cutsBeside_107 (by decide) rfl ?_
          refine z_iconst (v := 0) dX6_cutsBeside_109 (by decide) ?_
          refine z_istore (lv' := [(5, .int (0 : Int32)), (4, .int (0 : Int32)), (3, .int (0 : Int32)), (0, zrv G.2.1 (some R)), (1, .int v19), (2, .int v20)]) dX6_cutsBeside_110 (by decide) rfl ?_
          refine z_as ?_
          refine z_at [3, 4, 5, 2, 1, 0] rfl ?_
          refine z_join (pc2 := 199) (lv2 := fun (q : Int32 × Int32) => [(0, zrv G.2.1 (some R)), (1, .int v19), (2, .int v20), (3, .int q.1), (4, .int q.2)]) (st2 := fun _ => []) (h2 := fun (q : Int32 × Int32) => zput R h0 s16) (fun q => ?_) (fun F29 kF29 => ?_)
          · obtain ⟨w27, w28⟩ := q
            try dsimp only
            refine z_iload_n (j := 1) dX6_cutsBeside_199 rfl rfl ?_
            refine z_as ?_
            refine z_join (pc2 := 217) (lv2 := fun (q : Int32) => [(0, zrv G.2.1 (some R)), (2, .int v20)]) (st2 := fun (q : Int32) => [.int q]) (h2 := fun (q : Int32) => zput R h0 s16) (fun q => ?_) (fun F42 kF42 => ?_)
            · obtain ⟨v41, e0⟩ : ∃ z, z = q := ⟨_, rfl⟩
              subst e0
              try dsimp only
              refine z_istore_n (lv' := [(1, .int v41), (0, zrv G.2.1 (some R)), (2, .int v20)]) dX6_cutsBeside_217 rfl (by decide) rfl ?_
              refine z_iinc (j := 2) (v := v20 + (1 : Int32)) (lv' := [(2, .int (v20 + (1 : Int32))), (1, .int v41), (0, zrv G.2.1 (some R))]) dX6_cutsBeside_218 rfl rfl (by decide) rfl ?_
              refine z_goto (tgt := 96) dX6_cutsBeside_221 (by decide) ?_
              refine z_sb ?_
              refine z_at [2, 1, 0] rfl ?_
              exact bK23 (v41, v20 + (1 : Int32))
            · refine z_itb ?_
              refine z_if_eq (tgt := 216) dX6_cutsBeside_200 (by decide) (fun _ => ?_) (fun _ => ?_)
              · refine z_iconst (v := 0) dX6_cutsBeside_216 (by decide) ?_
                refine z_sb ?_
                refine z_at [0, 2] rfl ?_
                exact kF42 (0 : Int32)
              · refine z_iload_n (j := 3) dX6_cutsBeside_203 rfl rfl ?_
                refine z_itb ?_
                refine z_if_eq (tgt := 216) dX6_cutsBeside_204 (by decide) (fun _ => ?_) (fun _ => ?_)
                · refine z_iconst (v := 0) dX6_cutsBeside_216 (by decide) ?_
                  refine z_sb ?_
                  refine z_at [0, 2] rfl ?_
                  exact kF42 (0 : Int32)
                · refine z_iload (j := 4) dX6_cutsBeside_207 rfl ?_
                  refine z_itb ?_
                  refine z_if_eq (tgt := 216) dX6_cutsBeside_209 (by decide) (fun _ => ?_) (fun _ => ?_)
                  · refine z_iconst (v := 0) dX6_cutsBeside_216 (by decide) ?_
                    refine z_sb ?_
                    refine z_at [0, 2] rfl ?_
                    exact kF42 (0 : Int32)
                  · refine z_iconst (v := 1) dX6_cutsBeside_212 (by decide) ?_
                    refine z_goto (tgt := 217) dX6_cutsBeside_213 (by decide) ?_
                    refine z_sb ?_
                    refine z_at [0, 2] rfl ?_
                    exact kF42 (1 : Int32)
          · refine z_loop (lvf := fun (q : Int32 × Int32 × Int32) => [(0, zrv G.2.1 (some R)), (1, .int v19), (2, .int v20), (3, .int q.1), (4, .int q.2.1), (5, .int q.2.2)]) (hf2 := fun (q : Int32 × Int32 × Int32) => zput R h0 s16) (s0 := ((0 : Int32), (0 : Int32), (0 : Int32))) (fun K30 bK30 rK30 q => ?_)
            obtain ⟨v24, v25, v26⟩ := q
            try dsimp only
            refine z_iload (j := 5) dX6_cutsBeside_112 rfl ?_
            refine z_bipush (v := 12) dX6_cutsBeside_114 (by decide) ?_
            refine z_itb ?_
            refine z_icmp_ge (tgt := 199) dX6_cutsBeside_116 (by decide) (fun _ => ?_) (fun _ => ?_)
            · refine z_sb ?_
              refine z_eq (rK30 _) ?_
              refine z_at [0, 1, 2, 3, 4] rfl ?_
              exact kF29 (v24, v25)
            · refine z_iload_n (j := 3) dX6_cutsBeside_119 rfl rfl ?_
              refine z_as ?_
              refine z_join (pc2 := 154) (lv2 := fun (q : Int32) => [(0, zrv G.2.1 (some R)), (1, .int v19), (2, .int v20), (4, .int v25), (5, .int v26)]) (st2 := fun (q : Int32) => [.int q]) (h2 := fun (q : Int32) => zput R h0 s16) (fun q => ?_) (fun F32 kF32 => ?_)
              · obtain ⟨v31, e0⟩ : ∃ z, z = q := ⟨_, rfl⟩
                subst e0
                try dsimp only
                refine z_istore_n (lv' := [(3, .int v31), (0, zrv G.2.1 (some R)), (1, .int v19), (2, .int v20), (4, .int v25), (5, .int v26)]) dX6_cutsBeside_154 rfl (by decide) rfl ?_
                refine z_iload (j := 4) dX6_cutsBeside_155 rfl ?_
                refine z_as ?_
                refine z_join (pc2 := 191) (lv2 := fun (q : Int32) => [(0, zrv G.2.1 (some R)), (1, .int v19), (2, .int v20), (3, .int v31), (5, .int v26)]) (st2 := fun (q : Int32) => [.int q]) (h2 := fun (q : Int32) => zput R h0 s16) (fun q => ?_) (fun F37 kF37 => ?_)
                · obtain ⟨v36, e0⟩ : ∃ z, z = q := ⟨_, rfl⟩
                  subst e0
                  try dsimp only
                  refine z_istore (lv' := [(4, .int v36), (0, zrv G.2.1 (some R)), (1, .int v19), (2, .int v20), (3, .int v31), (5, .int v26)]) dX6_cutsBeside_191 (by decide) rfl ?_
                  refine z_iinc (j := 5) (v := v26 + (1 : Int32)) (lv' := [(5, .int (v26 + (1 : Int32))), (4, .int v36), (0, zrv G.2.1 (some R)), (1, .int v19), (2, .int v20), (3, .int v31)]) dX6_cutsBeside_193 rfl rfl (by decide) rfl ?_
                  refine z_goto (tgt := 112) dX6_cutsBeside_196 (by decide) ?_
                  refine z_sb ?_
                  refine z_at [2, 3, 4, 5, 1, 0] rfl ?_
                  exact bK30 (v31, v36, v26 + (1 : Int32))
                · refine z_itb ?_
                  refine z_if_ne (tgt := 186) dX6_cutsBeside_157 (by decide) (fun _ => ?_) (fun _ => ?_)
                  · refine z_aload_n (j := 1) dX6_cutsBeside_160 rfl rfl ?_
                    refine z_rgetA (k := 51) (a := 39) hF dX6_cutsBeside_161 (by decide) rfl zw827 rfl ?_
                    refine z_iload (j := 5) dX6_cutsBeside_164 rfl ?_
                    refine z_as ?_
                    refine z_riald hF dX6_cutsBeside_166 (fun x38 => ?_)
                    refine z_aload_n (j := 1) dX6_cutsBeside_167 rfl rfl ?_
                    refine z_rgetA (k := 53) (a := 40) hF dX6_cutsBeside_168 (by decide) rfl zw829 rfl ?_
                    refine z_iload_n (j := 3) dX6_cutsBeside_171 rfl rfl ?_
                    refine z_as ?_
                    refine z_riald hF dX6_cutsBeside_172 (fun x39 => ?_)
                    refine z_itb ?_
                    refine z_icmp_ne (tgt := 190) dX6_cutsBeside_173 (by decide) (fun _ => ?_) (fun _ => ?_)
                    · refine z_aload_n (j := 1) dX6_cutsBeside_176 rfl rfl ?_
                      refine z_rgetA (k := 50) (a := 38) hF dX6_cutsBeside_177 (by decide) rfl zw826 rfl ?_
                      refine z_iload (j := 5) dX6_cutsBeside_180 rfl ?_
                      refine z_as ?_
                      refine z_rzald hF dX6_cutsBeside_182 (fun x40 => ?_)
                      refine z_itb ?_
                      refine z_if_eq (tgt := 190) dX6_cutsBeside_183 (by decide) (fun _ => ?_) (fun _ => ?_)
                      · refine z_iconst (v := 0) dX6_cutsBeside_190 (by decide) ?_
                        refine z_sb ?_
                        refine z_at [1, 2, 3, 0, 5] rfl ?_
                        exact kF37 (0 : Int32)
                      · refine z_iconst (v := 1) dX6_cutsBeside_186 (by decide) ?_
                        refine z_goto (tgt := 191) dX6_cutsBeside_187 (by decide) ?_
                        refine z_sb ?_
                        refine z_at [1, 2, 3, 0, 5] rfl ?_
                        exact kF37 (1 : Int32)
                    · refine z_iconst (v := 0) dX6_cutsBeside_190 (by decide) ?_
                      refine z_sb ?_
                      refine z_at [1, 2, 3, 0, 5] rfl ?_
                      exact kF37 (0 : Int32)
                  · refine z_iconst (v := 1) dX6_cutsBeside_186 (by decide) ?_
                    refine z_goto (tgt := 191) dX6_cutsBeside_187 (by decide) ?_
                    refine z_sb ?_
                    refine z_at [1, 2, 3, 0, 5] rfl ?_
                    exact kF37 (1 : Int32)
              · refine z_itb ?_
                refine z_if_ne (tgt := 149) dX6_cutsBeside_120 (by decide) (fun _ => ?_) (fun _ => ?_)
                · refine z_aload_n (j := 0) dX6_cutsBeside_123 rfl rfl ?_
                  refine z_rgetA (k := 51) (a := 39) hF dX6_cutsBeside_124 (by decide) rfl zw827 rfl ?_
                  refine z_iload (j := 5) dX6_cutsBeside_127 rfl ?_
                  refine z_as ?_
                  refine z_riald hF dX6_cutsBeside_129 (fun x33 => ?_)
                  refine z_aload_n (j := 0) dX6_cutsBeside_130 rfl rfl ?_
                  refine z_rgetA (k := 53) (a := 40) hF dX6_cutsBeside_131 (by decide) rfl zw829 rfl ?_
                  refine z_iload_n (j := 2) dX6_cutsBeside_134 rfl rfl ?_
                  refine z_as ?_
                  refine z_riald hF dX6_cutsBeside_135 (fun x34 => ?_)
                  refine z_itb ?_
                  refine z_icmp_ne (tgt := 153) dX6_cutsBeside_136 (by decide) (fun _ => ?_) (fun _ => ?_)
                  · refine z_aload_n (j := 0) dX6_cutsBeside_139 rfl rfl ?_
                    refine z_rgetA (k := 49) (a := 37) hF dX6_cutsBeside_140 (by decide) rfl zw825 rfl ?_
                    refine z_iload (j := 5) dX6_cutsBeside_143 rfl ?_
                    refine z_as ?_
                    refine z_rzald hF dX6_cutsBeside_145 (fun x35 => ?_)
                    refine z_itb ?_
                    refine z_if_eq (tgt := 153) dX6_cutsBeside_146 (by decide) (fun _ => ?_) (fun _ => ?_)
                    · refine z_iconst (v := 0) dX6_cutsBeside_153 (by decide) ?_
                      refine z_sb ?_
                      refine z_at [0, 1, 2, 4, 5] rfl ?_
                      exact kF32 (0 : Int32)
                    · refine z_iconst (v := 1) dX6_cutsBeside_149 (by decide) ?_
                      refine z_goto (tgt := 154) dX6_cutsBeside_150 (by decide) ?_
                      refine z_sb ?_
                      refine z_at [0, 1, 2, 4, 5] rfl ?_
                      exact kF32 (1 : Int32)
                  · refine z_iconst (v := 0) dX6_cutsBeside_153 (by decide) ?_
                    refine z_sb ?_
                    refine z_at [0, 1, 2, 4, 5] rfl ?_
                    exact kF32 (0 : Int32)
                · refine z_iconst (v := 1) dX6_cutsBeside_149 (by decide) ?_
                  refine z_goto (tgt := 154) dX6_cutsBeside_150 (by decide) ?_
                  refine z_sb ?_
                  refine z_at [0, 1, 2, 4, 5] rfl ?_
                  exact kF32 (1 : Int32)
    · refine z_itb ?_
      refine z_icmp_le (tgt := 92) dX6_cutsBeside_85 (by decide) (fun _ => ?_) (fun _ => ?_)
      · refine z_iconst (v := 0) dX6_cutsBeside_92 (by decide) ?_
        refine z_sb ?_
        refine z_at [0] rfl ?_
        exact kF18 (0 : Int32)
      · refine z_iconst (v := 1) dX6_cutsBeside_88 (by decide) ?_
        refine z_goto (tgt := 93) dX6_cutsBeside_89 (by decide) ?_
        refine z_sb ?_
        refine z_at [0] rfl ?_
        exact kF18 (1 : Int32)
  · refine z_loop (lvf := fun (q : Int32 × Zr) => [(0, zrv G.2.1 (some R)), (1, .int q.1)]) (hf2 := fun (q : Int32 × Zr) => zput R h0 q.2) (s0 := ((0 : Int32), s)) (fun K5 bK5 rK5 q => ?_)
    obtain ⟨v1, s2⟩ := q
    try dsimp only
    refine z_iload_n (j := 1) dX6_cutsBeside_2 rfl rfl ?_
    refine z_bipush (v := 12) dX6_cutsBeside_3 (by decide) ?_
    refine z_itb ?_
    refine z_icmp_ge (tgt := 72) dX6_cutsBeside_5 (by decide) (fun _ => ?_) (fun _ => ?_)
    · refine z_sb ?_
      refine z_eq (rK5 _) ?_
      refine z_at [0] rfl ?_
      exact kF4 s2
    · refine z_iconst (v := 0) dX6_cutsBeside_8 (by decide) ?_
      refine z_istore_n (lv' := [(2, .int (0 : Int32)), (0, zrv G.2.1 (some R)), (1, .int v1)]) dX6_cutsBeside_9 rfl (by decide) rfl ?_
      refine z_as ?_
      refine z_at [1, 2, 0] rfl ?_
      refine z_join (pc2 := 66) (lv2 := fun (q : Zr) => [(0, zrv G.2.1 (some R)), (1, .int v1)]) (st2 := fun _ => []) (h2 := fun (q : Zr) => zput R h0 q) (fun q => ?_) (fun F9 kF9 => ?_)
      · obtain ⟨s8, e0⟩ : ∃ z, z = q := ⟨_, rfl⟩
        subst e0
        try dsimp only
        refine z_iinc (j := 1) (v := v1 + (1 : Int32)) (lv' := [(1, .int (v1 + (1 : Int32))), (0, zrv G.2.1 (some R))]) dX6_cutsBeside_66 rfl rfl (by decide) rfl ?_
        refine z_goto (tgt := 2) dX6_cutsBeside_69 (by decide) ?_
        refine z_sb ?_
        refine z_at [1, 0] rfl ?_
        exact bK5 (v1 + (1 : Int32), s8)
      · refine z_loop (lvf := fun (q : Int32 × Zr) => [(0, zrv G.2.1 (some R)), (1, .int v1), (2, .int q.1)]) (hf2 := fun (q : Int32 × Zr) => zput R h0 q.2) (s0 := ((0 : Int32), s2)) (fun K10 bK10 rK10 q => ?_)
        obtain ⟨v6, s7⟩ := q
        try dsimp only
        refine z_iload_n (j := 2) dX6_cutsBeside_10 rfl rfl ?_
        refine z_bipush (v := 12) dX6_cutsBeside_11 (by decide) ?_
        refine z_itb ?_
        refine z_icmp_ge (tgt := 66) dX6_cutsBeside_13 (by decide) (fun _ => ?_) (fun _ => ?_)
        · refine z_sb ?_
          refine z_eq (rK10 _) ?_
          refine z_at [0, 1] rfl ?_
          exact kF9 s7
        · refine z_aload_n (j := 0) dX6_cutsBeside_16 rfl rfl ?_
          refine z_rgetA (k := 54) (a := 41) hF dX6_cutsBeside_17 (by decide) rfl zw830 rfl ?_
          refine z_bipush (v := 12) dX6_cutsBeside_20 (by decide) ?_
          refine z_iload_n (j := 1) dX6_cutsBeside_22 rfl rfl ?_
          refine z_imul dX6_cutsBeside_23 ?_
          refine z_iload_n (j := 2) dX6_cutsBeside_24 rfl rfl ?_
          refine z_iadd dX6_cutsBeside_25 ?_
          refine z_aload_n (j := 0) dX6_cutsBeside_26 rfl rfl ?_
          refine z_rgetA (k := 47) (a := 35) hF dX6_cutsBeside_27 (by decide) rfl zw823 rfl ?_
          refine z_bipush (v := 12) dX6_cutsBeside_30 (by decide) ?_
          refine z_iload_n (j := 1) dX6_cutsBeside_32 rfl rfl ?_
          refine z_imul dX6_cutsBeside_33 ?_
          refine z_iload_n (j := 2) dX6_cutsBeside_34 rfl rfl ?_
          refine z_iadd dX6_cutsBeside_35 ?_
          refine z_as ?_
          refine z_rzald hF dX6_cutsBeside_36 (fun x11 => ?_)
          refine z_as ?_
          refine z_join (pc2 := 59) (lv2 := fun (q : Int32) => [(0, zrv G.2.1 (some R)), (1, .int v1), (2, .int v6)]) (st2 := fun (q : Int32) => [.int q, .int (((12 : Int32) * v1) + v6), zrv G.2.1 (some (R + 42))]) (h2 := fun (q : Int32) => zput R h0 s7) (fun q => ?_) (fun F13 kF13 => ?_)
          · obtain ⟨v12, e0⟩ : ∃ z, z = q := ⟨_, rfl⟩
            subst e0
            try dsimp only
            refine z_as ?_
            refine z_rzast hF dX6_cutsBeside_59 (fun s15 => ?_)
            refine z_iinc (j := 2) (v := v6 + (1 : Int32)) (lv' := [(2, .int (v6 + (1 : Int32))), (0, zrv G.2.1 (some R)), (1, .int v1)]) dX6_cutsBeside_60 rfl rfl (by decide) rfl ?_
            refine z_goto (tgt := 10) dX6_cutsBeside_63 (by decide) ?_
            refine z_sb ?_
            refine z_at [1, 2, 0] rfl ?_
            exact bK10 (v6 + (1 : Int32), s15)
          · refine z_itb ?_
            refine z_if_eq (tgt := 54) dX6_cutsBeside_37 (by decide) (fun _ => ?_) (fun _ => ?_)
            · refine z_iconst (v := 1) dX6_cutsBeside_54 (by decide) ?_
              refine z_goto (tgt := 59) dX6_cutsBeside_55 (by decide) ?_
              refine z_sb ?_
              refine z_at [0, 1, 2] rfl ?_
              exact kF13 (1 : Int32)
            · refine z_aload_n (j := 0) dX6_cutsBeside_40 rfl rfl ?_
              refine z_rgetA (k := 47) (a := 35) hF dX6_cutsBeside_41 (by decide) rfl zw823 rfl ?_
              refine z_bipush (v := 12) dX6_cutsBeside_44 (by decide) ?_
              refine z_iload_n (j := 2) dX6_cutsBeside_46 rfl rfl ?_
              refine z_imul dX6_cutsBeside_47 ?_
              refine z_iload_n (j := 1) dX6_cutsBeside_48 rfl rfl ?_
              refine z_iadd dX6_cutsBeside_49 ?_
              refine z_as ?_
              refine z_rzald hF dX6_cutsBeside_50 (fun x14 => ?_)
              refine z_itb ?_
              refine z_if_ne (tgt := 58) dX6_cutsBeside_51 (by decide) (fun _ => ?_) (fun _ => ?_)
              · refine z_iconst (v := 1) dX6_cutsBeside_54 (by decide) ?_
                refine z_goto (tgt := 59) dX6_cutsBeside_55 (by decide) ?_
                refine z_sb ?_
                refine z_at [0, 1, 2] rfl ?_
                exact kF13 (1 : Int32)
              · refine z_iconst (v := 0) dX6_cutsBeside_58 (by decide) ?_
                refine z_sb ?_
                refine z_at [0, 1, 2] rfl ?_
                exact kF13 (0 : Int32)
def fX6_goesIn (s : Zr) (a1 : Int32) : Option (Int32) :=
  (zloop (fun ((v1, v2, v3, v4, v5, v6) : Int32 × Int32 × Int32 × Int32 × Int32 × Int32) =>
    (if (12 : Int32) ≤ v6 then
      some (.inr (v1, v2, v3, v4, v5))
    else
      (rdZ s 36 (((12 : Int32) * a1) + v6)).bind fun x14 =>
      (rdZ s 36 (((12 : Int32) * v6) + a1)).bind fun x15 =>
      (if v5 = 0 then
        (rdZ s 44 v6).bind fun x18 =>
        if x18 = 0 then
          some (0 : Int32)
        else
          if x14 = 0 then
            if x15 = 0 then
              some (0 : Int32)
            else
              (rdZ s 38 v6).bind fun x19 =>
              if x19 = 0 then
                some (1 : Int32)
              else
                some (0 : Int32)
          else
            (rdZ s 39 v6).bind fun x20 =>
            if x20 = 0 then
              some (1 : Int32)
            else
              if x15 = 0 then
                some (0 : Int32)
              else
                (rdZ s 38 v6).bind fun x21 =>
                if x21 = 0 then
                  some (1 : Int32)
                else
                  some (0 : Int32)
      else
        some (1 : Int32)).bind fun (v16 : Int32) =>
      (if v1 = 0 then
        (rdZ s 39 v6).bind fun x24 =>
        if x24 = 0 then
          some (0 : Int32)
        else
          if x14 = 0 then
            some (0 : Int32)
          else
            some (1 : Int32)
      else
        some (1 : Int32)).bind fun (v22 : Int32) =>
      (if v2 = 0 then
        some (0 : Int32)
      else
        (rdZ s 39 v6).bind fun x27 =>
        if x27 = 0 then
          some (1 : Int32)
        else
          if x14 = 0 then
            some (0 : Int32)
          else
            some (1 : Int32)).bind fun (v25 : Int32) =>
      (if v3 = 0 then
        (rdZ s 38 v6).bind fun x30 =>
        if x30 = 0 then
          some (0 : Int32)
        else
          if x15 = 0 then
            some (0 : Int32)
          else
            some (1 : Int32)
      else
        some (1 : Int32)).bind fun (v28 : Int32) =>
      (if v4 = 0 then
        some (0 : Int32)
      else
        (rdZ s 38 v6).bind fun x33 =>
        if x33 = 0 then
          some (1 : Int32)
        else
          if x15 = 0 then
            some (0 : Int32)
          else
            some (1 : Int32)).bind fun (v31 : Int32) =>
      some (.inl (v22, v25, v28, v31, v16, v6 + (1 : Int32))) : Option ((Int32 × Int32 × Int32 × Int32 × Int32 × Int32) ⊕ (Int32 × Int32 × Int32 × Int32 × Int32)))) zFU ((0 : Int32), (1 : Int32), (0 : Int32), (1 : Int32), (0 : Int32), (0 : Int32))).bind fun ((w7, w8, w9, w10, w11) : Int32 × Int32 × Int32 × Int32 × Int32) =>
  (if w11 = 0 then
    if w7 = 0 then
      if w9 = 0 then
        some (0 : Int32)
      else
        if w10 = 0 then
          some (1 : Int32)
        else
          some (0 : Int32)
    else
      if w8 = 0 then
        some (1 : Int32)
      else
        if w9 = 0 then
          some (0 : Int32)
        else
          if w10 = 0 then
            some (1 : Int32)
          else
            some (0 : Int32)
  else
    some (1 : Int32)).bind fun (v34 : Int32) =>
  (zbo v34).bind fun _ =>
  some v34
set_option maxRecDepth 100000 in
set_option maxHeartbeats 4000000 in
theorem kX6_goesIn (G : Zg) (R : Nat) (h0 : Zh) (hF : zRF R h0) (s : Zr) (a1 : Int32) {x : Int32} (hx : fX6_goesIn s a1 = some x) : zCt G yX6_goesIn cX6_goesIn 10 (Option.some Jvm.ClassFile.FieldType.boolean) 1 [zrv G.2.1 (some R), .int a1] (zput R h0 s) (some (.int x)) (zput R h0 s) := by
  refine z_met (a := x) (rvf := fun (x : Int32) => some (.int x)) (hff := fun (_ : Int32) => zput R h0 s) (lv := [(0, zrv G.2.1 (some R)), (1, .int a1)]) (by decide +kernel) (by simp [lg_sl, zcat1, zcI, zcJ]) (by simp [lv_args, zcat1, zcI, zcJ]) ?_ hx
  unfold fX6_goesIn
  refine z_iconst (v := 0) dX6_goesIn_0 (by decide) ?_
  refine z_istore_n (lv' := [(2, .int (0 : Int32)), (0, zrv G.2.1 (some R)), (1, .int a1)]) dX6_goesIn_1 rfl (by decide) rfl ?_
  refine z_iconst (v := 1) dX6_goesIn_2 (by decide) ?_
  refine z_istore_n (lv' := [(3, .int (1 : Int32)), (2, .int (0 : Int32)), (0, zrv G.2.1 (some R)), (1, .int a1)]) dX6_goesIn_3 rfl (by decide) rfl ?_
  refine z_iconst (v := 0) dX6_goesIn_4 (by decide) ?_
  refine z_istore (lv' := [(4, .int (0 : Int32)), (3, .int (1 : Int32)), (2, .int (0 : Int32)), (0, zrv G.2.1 (some R)), (1, .int a1)]) dX6_goesIn_5 (by decide) rfl ?_
  refine z_iconst (v := 1) dX6_goesIn_7 (by decide) ?_
  refine z_istore (lv' := [(5, .int (1 : Int32)), (4, .int (0 : Int32)), (3, .int (1 : Int32)), (2, .int (0 : Int32)), (0, zrv G.2.1 (some R)), (1, .int a1)]) dX6_goesIn_8 (by decide) rfl ?_
  refine z_iconst (v := 0) dX6_goesIn_10 (by decide) ?_
  refine z_istore (lv' := [(6, .int (0 : Int32)), (5, .int (1 : Int32)), (4, .int (0 : Int32)), (3, .int (1 : Int32)), (2, .int (0 : Int32)), (0, zrv G.2.1 (some R)), (1, .int a1)]) dX6_goesIn_11 (by decide) rfl ?_
  refine z_iconst (v := 0) dX6_goesIn_13 (by decide) ?_
  refine z_istore (lv' := [(7, .int (0 : Int32)), (6, .int (0 : Int32)), (5, .int (1 : Int32)), (4, .int (0 : Int32)), (3, .int (1 : Int32)), (2, .int (0 : Int32)), (0, zrv G.2.1 (some R)), (1, .int a1)]) dX6_goesIn_14 (by decide) rfl ?_
  refine z_at [6, 7, 5, 4, 3, 2, 1, 0] rfl ?_
  refine z_join (pc2 := 213) (lv2 := fun (q : Int32 × Int32 × Int32 × Int32 × Int32) => [(2, .int q.1), (3, .int q.2.1), (4, .int q.2.2.1), (5, .int q.2.2.2.1), (6, .int q.2.2.2.2)]) (st2 := fun _ => []) (h2 := fun (q : Int32 × Int32 × Int32 × Int32 × Int32) => zput R h0 s) (fun q => ?_) (fun F12 kF12 => ?_)
  · obtain ⟨w7, w8, w9, w10, w11⟩ := q
    try dsimp only
    refine z_iload (j := 4) dX6_goesIn_213 rfl ?_
    refine z_join (pc2 := 241) (lv2 := fun (q : Int32) => []) (st2 := fun (q : Int32) => [.int q]) (h2 := fun (q : Int32) => zput R h0 s) (fun q => ?_) (fun F35 kF35 => ?_)
    · obtain ⟨v34, e0⟩ : ∃ z, z = q := ⟨_, rfl⟩
      subst e0
      try dsimp only
      refine z_bo (fun hbb36 => ?_)
      exact z_iret dX6_goesIn_241 rfl (by rcases hbb36 with q | q <;> rw [q] <;> rfl) rfl rfl
    · refine z_itb ?_
      refine z_if_ne (tgt := 236) dX6_goesIn_215 (by decide) (fun _ => ?_) (fun _ => ?_)
      · refine z_iload_n (j := 0) dX6_goesIn_218 rfl rfl ?_
        refine z_itb ?_
        refine z_if_eq (tgt := 226) dX6_goesIn_219 (by decide) (fun _ => ?_) (fun _ => ?_)
        · refine z_iload (j := 2) dX6_goesIn_226 rfl ?_
          refine z_itb ?_
          refine z_if_eq (tgt := 240) dX6_goesIn_228 (by decide) (fun _ => ?_) (fun _ => ?_)
          · refine z_iconst (v := 0) dX6_goesIn_240 (by decide) ?_
            refine z_sb ?_
            refine z_at [] rfl ?_
            exact kF35 (0 : Int32)
          · refine z_iload (j := 3) dX6_goesIn_231 rfl ?_
            refine z_itb ?_
            refine z_if_ne (tgt := 240) dX6_goesIn_233 (by decide) (fun _ => ?_) (fun _ => ?_)
            · refine z_iconst (v := 1) dX6_goesIn_236 (by decide) ?_
              refine z_goto (tgt := 241) dX6_goesIn_237 (by decide) ?_
              refine z_sb ?_
              refine z_at [] rfl ?_
              exact kF35 (1 : Int32)
            · refine z_iconst (v := 0) dX6_goesIn_240 (by decide) ?_
              refine z_sb ?_
              refine z_at [] rfl ?_
              exact kF35 (0 : Int32)
        · refine z_iload_n (j := 1) dX6_goesIn_222 rfl rfl ?_
          refine z_itb ?_
          refine z_if_eq (tgt := 236) dX6_goesIn_223 (by decide) (fun _ => ?_) (fun _ => ?_)
          · refine z_iconst (v := 1) dX6_goesIn_236 (by decide) ?_
            refine z_goto (tgt := 241) dX6_goesIn_237 (by decide) ?_
            refine z_sb ?_
            refine z_at [] rfl ?_
            exact kF35 (1 : Int32)
          · refine z_iload (j := 2) dX6_goesIn_226 rfl ?_
            refine z_itb ?_
            refine z_if_eq (tgt := 240) dX6_goesIn_228 (by decide) (fun _ => ?_) (fun _ => ?_)
            · refine z_iconst (v := 0) dX6_goesIn_240 (by decide) ?_
              refine z_sb ?_
              refine z_at [] rfl ?_
              exact kF35 (0 : Int32)
            · refine z_iload (j := 3) dX6_goesIn_231 rfl ?_
              refine z_itb ?_
              refine z_if_ne (tgt := 240) dX6_goesIn_233 (by decide) (fun _ => ?_) (fun _ => ?_)
              · refine z_iconst (v := 1) dX6_goesIn_236 (by decide) ?_
                refine z_goto (tgt := 241) dX6_goesIn_237 (by decide) ?_
                refine z_sb ?_
                refine z_at [] rfl ?_
                exact kF35 (1 : Int32)
              · refine z_iconst (v := 0) dX6_goesIn_240 (by decide) ?_
                refine z_sb ?_
                refine z_at [] rfl ?_
                exact kF35 (0 : Int32)
      · refine z_iconst (v := 1) dX6_goesIn_236 (by decide) ?_
        refine z_goto (tgt := 241) dX6_goesIn_237 (by decide) ?_
        refine z_sb ?_
        refine z_at [] rfl ?_
        exact kF35 (1 : Int32)
  · refine z_loop (lvf := fun (q : Int32 × Int32 × Int32 × Int32 × Int32 × Int32) => [(0, zrv G.2.1 (some R)), (1, .int a1), (2, .int q.1), (3, .int q.2.1), (4, .int q.2.2.1), (5, .int q.2.2.2.1), (6, .int q.2.2.2.2.1), (7, .int q.2.2.2.2.2)]) (hf2 := fun (q : Int32 × Int32 × Int32 × Int32 × Int32 × Int32) => zput R h0 s) (s0 := ((0 : Int32), (1 : Int32), (0 : Int32), (1 : Int32), (0 : Int32), (0 : Int32))) (fun K13 bK13 rK13 q => ?_)
    obtain ⟨v1, v2, v3, v4, v5, v6⟩ := q
    try dsimp only
    refine z_iload (j := 7) dX6_goesIn_16 rfl ?_
    refine z_bipush (v := 12) dX6_goesIn_18 (by decide) ?_
    refine z_itb ?_
    refine z_icmp_ge (tgt := 213) dX6_goesIn_20 (by decide) (fun _ => ?_) (fun _ => ?_)
    · refine z_sb ?_
      refine z_eq (rK13 _) ?_
      refine z_at [2, 3, 4, 5, 6] rfl ?_
      exact kF12 (v1, v2, v3, v4, v5)
    · refine z_aload_n (j := 0) dX6_goesIn_23 rfl rfl ?_
      refine z_rgetA (k := 47) (a := 35) hF dX6_goesIn_24 (by decide) rfl zw823 rfl ?_
      refine z_bipush (v := 12) dX6_goesIn_27 (by decide) ?_
      refine z_iload_n (j := 1) dX6_goesIn_29 rfl rfl ?_
      refine z_imul dX6_goesIn_30 ?_
      refine z_iload (j := 7) dX6_goesIn_31 rfl ?_
      refine z_iadd dX6_goesIn_33 ?_
      refine z_as ?_
      refine z_rzald hF dX6_goesIn_34 (fun x14 => ?_)
      refine z_istore (lv' := [(8, .int x14), (0, zrv G.2.1 (some R)), (1, .int a1), (2, .int v1), (3, .int v2), (4, .int v3), (5, .int v4), (6, .int v5), (7, .int v6)]) dX6_goesIn_35 (by decide) rfl ?_
      refine z_aload_n (j := 1) dX6_goesIn_37 rfl rfl ?_
      refine z_rgetA (k := 47) (a := 35) hF dX6_goesIn_38 (by decide) rfl zw823 rfl ?_
      refine z_bipush (v := 12) dX6_goesIn_41 (by decide) ?_
      refine z_iload (j := 8) dX6_goesIn_43 rfl ?_
      refine z_imul dX6_goesIn_45 ?_
      refine z_iload_n (j := 2) dX6_goesIn_46 rfl rfl ?_
      refine z_iadd dX6_goesIn_47 ?_
      refine z_as ?_
      refine z_rzald hF dX6_goesIn_48 (fun x15 => ?_)
      refine z_istore (lv' := [(9, .int x15), (8, .int x14), (0, zrv G.2.1 (some R)), (1, .int a1), (2, .int v1), (3, .int v2), (4, .int v3), (5, .int v4), (6, .int v5), (7, .int v6)]) dX6_goesIn_49 (by decide) rfl ?_
      refine z_iload (j := 8) dX6_goesIn_51 rfl ?_
      refine z_as ?_
      refine z_join (pc2 := 101) (lv2 := fun (q : Int32) => [(0, zrv G.2.1 (some R)), (1, .int a1), (2, .int v1), (3, .int v2), (4, .int v3), (5, .int v4), (7, .int v6), (8, .int x14), (9, .int x15)]) (st2 := fun (q : Int32) => [.int q]) (h2 := fun (q : Int32) => zput R h0 s) (fun q => ?_) (fun F17 kF17 => ?_)
      · obtain ⟨v16, e0⟩ : ∃ z, z = q := ⟨_, rfl⟩
        subst e0
        try dsimp only
        refine z_istore (lv' := [(6, .int v16), (0, zrv G.2.1 (some R)), (1, .int a1), (2, .int v1), (3, .int v2), (4, .int v3), (5, .int v4), (7, .int v6), (8, .int x14), (9, .int x15)]) dX6_goesIn_101 (by decide) rfl ?_
        refine z_iload_n (j := 3) dX6_goesIn_103 rfl rfl ?_
        refine z_as ?_
        refine z_join (pc2 := 127) (lv2 := fun (q : Int32) => [(0, zrv G.2.1 (some R)), (1, .int a1), (3, .int v2), (4, .int v3), (5, .int v4), (6, .int v16), (7, .int v6), (8, .int x14), (9, .int x15)]) (st2 := fun (q : Int32) => [.int q]) (h2 := fun (q : Int32) => zput R h0 s) (fun q => ?_) (fun F23 kF23 => ?_)
        · obtain ⟨v22, e0⟩ : ∃ z, z = q := ⟨_, rfl⟩
          subst e0
          try dsimp only
          refine z_istore_n (lv' := [(2, .int v22), (0, zrv G.2.1 (some R)), (1, .int a1), (3, .int v2), (4, .int v3), (5, .int v4), (6, .int v16), (7, .int v6), (8, .int x14), (9, .int x15)]) dX6_goesIn_127 rfl (by decide) rfl ?_
          refine z_iload_n (j := 3) dX6_goesIn_128 rfl rfl ?_
          refine z_as ?_
          refine z_join (pc2 := 152) (lv2 := fun (q : Int32) => [(0, zrv G.2.1 (some R)), (1, .int a1), (2, .int v22), (4, .int v3), (5, .int v4), (6, .int v16), (7, .int v6), (9, .int x15)]) (st2 := fun (q : Int32) => [.int q]) (h2 := fun (q : Int32) => zput R h0 s) (fun q => ?_) (fun F26 kF26 => ?_)
          · obtain ⟨v25, e0⟩ : ∃ z, z = q := ⟨_, rfl⟩
            subst e0
            try dsimp only
            refine z_istore_n (lv' := [(3, .int v25), (0, zrv G.2.1 (some R)), (1, .int a1), (2, .int v22), (4, .int v3), (5, .int v4), (6, .int v16), (7, .int v6), (9, .int x15)]) dX6_goesIn_152 rfl (by decide) rfl ?_
            refine z_iload (j := 4) dX6_goesIn_153 rfl ?_
            refine z_as ?_
            refine z_join (pc2 := 178) (lv2 := fun (q : Int32) => [(0, zrv G.2.1 (some R)), (1, .int a1), (2, .int v22), (3, .int v25), (5, .int v4), (6, .int v16), (7, .int v6), (9, .int x15)]) (st2 := fun (q : Int32) => [.int q]) (h2 := fun (q : Int32) => zput R h0 s) (fun q => ?_) (fun F29 kF29 => ?_)
            · obtain ⟨v28, e0⟩ : ∃ z, z = q := ⟨_, rfl⟩
              subst e0
              try dsimp only
              refine z_istore (lv' := [(4, .int v28), (0, zrv G.2.1 (some R)), (1, .int a1), (2, .int v22), (3, .int v25), (5, .int v4), (6, .int v16), (7, .int v6), (9, .int x15)]) dX6_goesIn_178 (by decide) rfl ?_
              refine z_iload (j := 5) dX6_goesIn_180 rfl ?_
              refine z_as ?_
              refine z_join (pc2 := 205) (lv2 := fun (q : Int32) => [(0, zrv G.2.1 (some R)), (1, .int a1), (2, .int v22), (3, .int v25), (4, .int v28), (6, .int v16), (7, .int v6)]) (st2 := fun (q : Int32) => [.int q]) (h2 := fun (q : Int32) => zput R h0 s) (fun q => ?_) (fun F32 kF32 => ?_)
              · obtain ⟨v31, e0⟩ : ∃ z, z = q := ⟨_, rfl⟩
                subst e0
                try dsimp only
                refine z_istore (lv' := [(5, .int v31), (0, zrv G.2.1 (some R)), (1, .int a1), (2, .int v22), (3, .int v25), (4, .int v28), (6, .int v16), (7, .int v6)]) dX6_goesIn_205 (by decide) rfl ?_
                refine z_iinc (j := 7) (v := v6 + (1 : Int32)) (lv' := [(7, .int (v6 + (1 : Int32))), (5, .int v31), (0, zrv G.2.1 (some R)), (1, .int a1), (2, .int v22), (3, .int v25), (4, .int v28), (6, .int v16)]) dX6_goesIn_207 rfl rfl (by decide) rfl ?_
                refine z_goto (tgt := 16) dX6_goesIn_210 (by decide) ?_
                refine z_sb ?_
                refine z_at [2, 3, 4, 5, 6, 1, 7, 0] rfl ?_
                exact bK13 (v22, v25, v28, v31, v16, v6 + (1 : Int32))
              · refine z_itb ?_
                refine z_if_eq (tgt := 204) dX6_goesIn_182 (by decide) (fun _ => ?_) (fun _ => ?_)
                · refine z_iconst (v := 0) dX6_goesIn_204 (by decide) ?_
                  refine z_sb ?_
                  refine z_at [1, 2, 3, 4, 0, 6, 7] rfl ?_
                  exact kF32 (0 : Int32)
                · refine z_aload_n (j := 1) dX6_goesIn_185 rfl rfl ?_
                  refine z_rgetA (k := 49) (a := 37) hF dX6_goesIn_186 (by decide) rfl zw825 rfl ?_
                  refine z_iload (j := 7) dX6_goesIn_189 rfl ?_
                  refine z_as ?_
                  refine z_rzald hF dX6_goesIn_191 (fun x33 => ?_)
                  refine z_itb ?_
                  refine z_if_eq (tgt := 200) dX6_goesIn_192 (by decide) (fun _ => ?_) (fun _ => ?_)
                  · refine z_iconst (v := 1) dX6_goesIn_200 (by decide) ?_
                    refine z_goto (tgt := 205) dX6_goesIn_201 (by decide) ?_
                    refine z_sb ?_
                    refine z_at [1, 2, 3, 4, 0, 6, 7] rfl ?_
                    exact kF32 (1 : Int32)
                  · refine z_iload (j := 8) dX6_goesIn_195 rfl ?_
                    refine z_itb ?_
                    refine z_if_eq (tgt := 204) dX6_goesIn_197 (by decide) (fun _ => ?_) (fun _ => ?_)
                    · refine z_iconst (v := 0) dX6_goesIn_204 (by decide) ?_
                      refine z_sb ?_
                      refine z_at [1, 2, 3, 4, 0, 6, 7] rfl ?_
                      exact kF32 (0 : Int32)
                    · refine z_iconst (v := 1) dX6_goesIn_200 (by decide) ?_
                      refine z_goto (tgt := 205) dX6_goesIn_201 (by decide) ?_
                      refine z_sb ?_
                      refine z_at [1, 2, 3, 4, 0, 6, 7] rfl ?_
                      exact kF32 (1 : Int32)
            · refine z_itb ?_
              refine z_if_ne (tgt := 173) dX6_goesIn_155 (by decide) (fun _ => ?_) (fun _ => ?_)
              · refine z_aload_n (j := 1) dX6_goesIn_158 rfl rfl ?_
                refine z_rgetA (k := 49) (a := 37) hF dX6_goesIn_159 (by decide) rfl zw825 rfl ?_
                refine z_iload (j := 7) dX6_goesIn_162 rfl ?_
                refine z_as ?_
                refine z_rzald hF dX6_goesIn_164 (fun x30 => ?_)
                refine z_itb ?_
                refine z_if_eq (tgt := 177) dX6_goesIn_165 (by decide) (fun _ => ?_) (fun _ => ?_)
                · refine z_iconst (v := 0) dX6_goesIn_177 (by decide) ?_
                  refine z_sb ?_
                  refine z_at [1, 2, 3, 0, 5, 6, 7, 8] rfl ?_
                  exact kF29 (0 : Int32)
                · refine z_iload (j := 8) dX6_goesIn_168 rfl ?_
                  refine z_itb ?_
                  refine z_if_eq (tgt := 177) dX6_goesIn_170 (by decide) (fun _ => ?_) (fun _ => ?_)
                  · refine z_iconst (v := 0) dX6_goesIn_177 (by decide) ?_
                    refine z_sb ?_
                    refine z_at [1, 2, 3, 0, 5, 6, 7, 8] rfl ?_
                    exact kF29 (0 : Int32)
                  · refine z_iconst (v := 1) dX6_goesIn_173 (by decide) ?_
                    refine z_goto (tgt := 178) dX6_goesIn_174 (by decide) ?_
                    refine z_sb ?_
                    refine z_at [1, 2, 3, 0, 5, 6, 7, 8] rfl ?_
                    exact kF29 (1 : Int32)
              · refine z_iconst (v := 1) dX6_goesIn_173 (by decide) ?_
                refine z_goto (tgt := 178) dX6_goesIn_174 (by decide) ?_
                refine z_sb ?_
                refine z_at [1, 2, 3, 0, 5, 6, 7, 8] rfl ?_
                exact kF29 (1 : Int32)
          · refine z_itb ?_
            refine z_if_eq (tgt := 151) dX6_goesIn_129 (by decide) (fun _ => ?_) (fun _ => ?_)
            · refine z_iconst (v := 0) dX6_goesIn_151 (by decide) ?_
              refine z_sb ?_
              refine z_at [1, 2, 0, 4, 5, 6, 7, 9] rfl ?_
              exact kF26 (0 : Int32)
            · refine z_aload_n (j := 1) dX6_goesIn_132 rfl rfl ?_
              refine z_rgetA (k := 50) (a := 38) hF dX6_goesIn_133 (by decide) rfl zw826 rfl ?_
              refine z_iload (j := 7) dX6_goesIn_136 rfl ?_
              refine z_as ?_
              refine z_rzald hF dX6_goesIn_138 (fun x27 => ?_)
              refine z_itb ?_
              refine z_if_eq (tgt := 147) dX6_goesIn_139 (by decide) (fun _ => ?_) (fun _ => ?_)
              · refine z_iconst (v := 1) dX6_goesIn_147 (by decide) ?_
                refine z_goto (tgt := 152) dX6_goesIn_148 (by decide) ?_
                refine z_sb ?_
                refine z_at [1, 2, 0, 4, 5, 6, 7, 9] rfl ?_
                exact kF26 (1 : Int32)
              · refine z_iload (j := 8) dX6_goesIn_142 rfl ?_
                refine z_itb ?_
                refine z_if_eq (tgt := 151) dX6_goesIn_144 (by decide) (fun _ => ?_) (fun _ => ?_)
                · refine z_iconst (v := 0) dX6_goesIn_151 (by decide) ?_
                  refine z_sb ?_
                  refine z_at [1, 2, 0, 4, 5, 6, 7, 9] rfl ?_
                  exact kF26 (0 : Int32)
                · refine z_iconst (v := 1) dX6_goesIn_147 (by decide) ?_
                  refine z_goto (tgt := 152) dX6_goesIn_148 (by decide) ?_
                  refine z_sb ?_
                  refine z_at [1, 2, 0, 4, 5, 6, 7, 9] rfl ?_
                  exact kF26 (1 : Int32)
        · refine z_itb ?_
          refine z_if_ne (tgt := 122) dX6_goesIn_104 (by decide) (fun _ => ?_) (fun _ => ?_)
          · refine z_aload_n (j := 1) dX6_goesIn_107 rfl rfl ?_
            refine z_rgetA (k := 50) (a := 38) hF dX6_goesIn_108 (by decide) rfl zw826 rfl ?_
            refine z_iload (j := 7) dX6_goesIn_111 rfl ?_
            refine z_as ?_
            refine z_rzald hF dX6_goesIn_113 (fun x24 => ?_)
            refine z_itb ?_
            refine z_if_eq (tgt := 126) dX6_goesIn_114 (by decide) (fun _ => ?_) (fun _ => ?_)
            · refine z_iconst (v := 0) dX6_goesIn_126 (by decide) ?_
              refine z_sb ?_
              refine z_at [1, 2, 4, 5, 6, 0, 7, 8, 9] rfl ?_
              exact kF23 (0 : Int32)
            · refine z_iload (j := 8) dX6_goesIn_117 rfl ?_
              refine z_itb ?_
              refine z_if_eq (tgt := 126) dX6_goesIn_119 (by decide) (fun _ => ?_) (fun _ => ?_)
              · refine z_iconst (v := 0) dX6_goesIn_126 (by decide) ?_
                refine z_sb ?_
                refine z_at [1, 2, 4, 5, 6, 0, 7, 8, 9] rfl ?_
                exact kF23 (0 : Int32)
              · refine z_iconst (v := 1) dX6_goesIn_122 (by decide) ?_
                refine z_goto (tgt := 127) dX6_goesIn_123 (by decide) ?_
                refine z_sb ?_
                refine z_at [1, 2, 4, 5, 6, 0, 7, 8, 9] rfl ?_
                exact kF23 (1 : Int32)
          · refine z_iconst (v := 1) dX6_goesIn_122 (by decide) ?_
            refine z_goto (tgt := 127) dX6_goesIn_123 (by decide) ?_
            refine z_sb ?_
            refine z_at [1, 2, 4, 5, 6, 0, 7, 8, 9] rfl ?_
            exact kF23 (1 : Int32)
      · refine z_itb ?_
        refine z_if_ne (tgt := 96) dX6_goesIn_53 (by decide) (fun _ => ?_) (fun _ => ?_)
        · refine z_aload_n (j := 2) dX6_goesIn_56 rfl rfl ?_
          refine z_rgetA (k := 56) (a := 43) hF dX6_goesIn_57 (by decide) rfl zw832 rfl ?_
          refine z_iload (j := 9) dX6_goesIn_60 rfl ?_
          refine z_as ?_
          refine z_rzald hF dX6_goesIn_62 (fun x18 => ?_)
          refine z_itb ?_
          refine z_if_eq (tgt := 100) dX6_goesIn_63 (by decide) (fun _ => ?_) (fun _ => ?_)
          · refine z_iconst (v := 0) dX6_goesIn_100 (by decide) ?_
            refine z_sb ?_
            refine z_at [2, 3, 4, 5, 6, 7, 9, 1, 0] rfl ?_
            exact kF17 (0 : Int32)
          · refine z_iload (j := 1) dX6_goesIn_66 rfl ?_
            refine z_itb ?_
            refine z_if_eq (tgt := 81) dX6_goesIn_68 (by decide) (fun _ => ?_) (fun _ => ?_)
            · refine z_iload (j := 0) dX6_goesIn_81 rfl ?_
              refine z_itb ?_
              refine z_if_eq (tgt := 100) dX6_goesIn_83 (by decide) (fun _ => ?_) (fun _ => ?_)
              · refine z_iconst (v := 0) dX6_goesIn_100 (by decide) ?_
                refine z_sb ?_
                refine z_at [2, 3, 4, 5, 6, 7, 9, 1, 0] rfl ?_
                exact kF17 (0 : Int32)
              · refine z_aload_n (j := 2) dX6_goesIn_86 rfl rfl ?_
                refine z_rgetA (k := 49) (a := 37) hF dX6_goesIn_87 (by decide) rfl zw825 rfl ?_
                refine z_iload (j := 9) dX6_goesIn_90 rfl ?_
                refine z_as ?_
                refine z_rzald hF dX6_goesIn_92 (fun x19 => ?_)
                refine z_itb ?_
                refine z_if_ne (tgt := 100) dX6_goesIn_93 (by decide) (fun _ => ?_) (fun _ => ?_)
                · refine z_iconst (v := 1) dX6_goesIn_96 (by decide) ?_
                  refine z_goto (tgt := 101) dX6_goesIn_97 (by decide) ?_
                  refine z_sb ?_
                  refine z_at [2, 3, 4, 5, 6, 7, 9, 1, 0] rfl ?_
                  exact kF17 (1 : Int32)
                · refine z_iconst (v := 0) dX6_goesIn_100 (by decide) ?_
                  refine z_sb ?_
                  refine z_at [2, 3, 4, 5, 6, 7, 9, 1, 0] rfl ?_
                  exact kF17 (0 : Int32)
            · refine z_aload_n (j := 2) dX6_goesIn_71 rfl rfl ?_
              refine z_rgetA (k := 50) (a := 38) hF dX6_goesIn_72 (by decide) rfl zw826 rfl ?_
              refine z_iload (j := 9) dX6_goesIn_75 rfl ?_
              refine z_as ?_
              refine z_rzald hF dX6_goesIn_77 (fun x20 => ?_)
              refine z_itb ?_
              refine z_if_eq (tgt := 96) dX6_goesIn_78 (by decide) (fun _ => ?_) (fun _ => ?_)
              · refine z_iconst (v := 1) dX6_goesIn_96 (by decide) ?_
                refine z_goto (tgt := 101) dX6_goesIn_97 (by decide) ?_
                refine z_sb ?_
                refine z_at [2, 3, 4, 5, 6, 7, 9, 1, 0] rfl ?_
                exact kF17 (1 : Int32)
              · refine z_iload (j := 0) dX6_goesIn_81 rfl ?_
                refine z_itb ?_
                refine z_if_eq (tgt := 100) dX6_goesIn_83 (by decide) (fun _ => ?_) (fun _ => ?_)
                · refine z_iconst (v := 0) dX6_goesIn_100 (by decide) ?_
                  refine z_sb ?_
                  refine z_at [2, 3, 4, 5, 6, 7, 9, 1, 0] rfl ?_
                  exact kF17 (0 : Int32)
                · refine z_aload_n (j := 2) dX6_goesIn_86 rfl rfl ?_
                  refine z_rgetA (k := 49) (a := 37) hF dX6_goesIn_87 (by decide) rfl zw825 rfl ?_
                  refine z_iload (j := 9) dX6_goesIn_90 rfl ?_
                  refine z_as ?_
                  refine z_rzald hF dX6_goesIn_92 (fun x21 => ?_)
                  refine z_itb ?_
                  refine z_if_ne (tgt := 100) dX6_goesIn_93 (by decide) (fun _ => ?_) (fun _ => ?_)
                  · refine z_iconst (v := 1) dX6_goesIn_96 (by decide) ?_
                    refine z_goto (tgt := 101) dX6_goesIn_97 (by decide) ?_
                    refine z_sb ?_
                    refine z_at [2, 3, 4, 5, 6, 7, 9, 1, 0] rfl ?_
                    exact kF17 (1 : Int32)
                  · refine z_iconst (v := 0) dX6_goesIn_100 (by decide) ?_
                    refine z_sb ?_
                    refine z_at [2, 3, 4, 5, 6, 7, 9, 1, 0] rfl ?_
                    exact kF17 (0 : Int32)
        · refine z_iconst (v := 1) dX6_goesIn_96 (by decide) ?_
          refine z_goto (tgt := 101) dX6_goesIn_97 (by decide) ?_
          refine z_sb ?_
          refine z_at [2, 3, 4, 5, 6, 7, 9, 1, 0] rfl ?_
          exact kF17 (1 : Int32)
def fX6_cutsLoop (s : Zr) : Option (Int32 × Zr) :=
  (zloop (fun ((v1, s2) : Int32 × Zr) =>
    (if (144 : Int32) ≤ v1 then
      some (.inr s2)
    else
      (rdZ s2 36 v1).bind fun x6 =>
      (wrZ s2 42 v1 x6).bind fun s7 =>
      some (.inl (v1 + (1 : Int32), s7)) : Option ((Int32 × Zr) ⊕ Zr))) zFU ((0 : Int32), s)).bind fun (s3 : Zr) =>
  (zloop (fun ((v8, s9) : Int32 × Zr) =>
    (if (12 : Int32) ≤ v8 then
      some (.inr s9)
    else
      (rdZ s9 38 v8).bind fun x13 =>
      (if x13 = 0 then
        (rdZ s9 39 v8).bind fun x16 =>
        if x16 = 0 then
          some (0 : Int32)
        else
          some (1 : Int32)
      else
        some (1 : Int32)).bind fun (v14 : Int32) =>
      (wrZ s9 44 v8 v14).bind fun s17 =>
      (rdZ s17 37 v8).bind fun x18 =>
      (if x18 = 0 then
        some (0 : Int32)
      else
        (rdZ s17 44 v8).bind fun x21 =>
        if x21 = 0 then
          some (1 : Int32)
        else
          some (0 : Int32)).bind fun (v19 : Int32) =>
      (wrZ s17 45 v8 v19).bind fun s22 =>
      some (.inl (v8 + (1 : Int32), s22)) : Option ((Int32 × Zr) ⊕ Zr))) zFU ((0 : Int32), s3)).bind fun (s10 : Zr) =>
  (fX6_gatherParts s10 45).bind fun s23 =>
  (zloop (fun ((v24, s25) : Int32 × Zr) =>
    (if v24 = 0 then
      some (.inr s25)
    else
      (zloop (fun ((v29, v30, s31) : Int32 × Int32 × Zr) =>
        (if (s31 0 52) ≤ v30 then
          some (.inr (v29, s31))
        else
          if v29 = 0 then
            (zloop (fun ((v36, v37) : Int32 × Int32) =>
              (if (12 : Int32) ≤ v37 then
                some (.inr v36)
              else
                if v36 = 0 then
                  (rdI s31 40 v37).bind fun x41 =>
                  (rdI s31 41 v30).bind fun x42 =>
                  (if x41 = x42 then
                    (fX6_goesIn s31 v37).bind fun x45 =>
                    if x45 = 0 then
                      some (0 : Int32)
                    else
                      some (1 : Int32)
                  else
                    some (0 : Int32)).bind fun (v43 : Int32) =>
                  some (.inl (v43, v37 + (1 : Int32)))
                else
                  some (.inr v36) : Option ((Int32 × Int32) ⊕ Int32))) zFU (v29, (0 : Int32))).bind fun (w38 : Int32) =>
            (if w38 = 0 then
              some s31
            else
              (rdI s31 41 v30).bind fun x48 =>
              (zloop (fun ((v49, s50) : Int32 × Zr) =>
                (if (12 : Int32) ≤ v49 then
                  some (.inr s50)
                else
                  (rdZ s50 44 v49).bind fun x54 =>
                  (if x54 = 0 then
                    (rdI s50 40 v49).bind fun x57 =>
                    if x57 = x48 then
                      some (1 : Int32)
                    else
                      some (0 : Int32)
                  else
                    some (1 : Int32)).bind fun (v55 : Int32) =>
                  (wrZ s50 44 v49 v55).bind fun s58 =>
                  (rdI s58 40 v49).bind fun x59 =>
                  (if x59 = x48 then
                    some (-3 : Int32)
                  else
                    (rdI s58 40 v49).bind fun x62 =>
                    some x62).bind fun (v60 : Int32) =>
                  (wrI s58 40 v49 v60).bind fun s63 =>
                  some (.inl (v49 + (1 : Int32), s63)) : Option ((Int32 × Zr) ⊕ Zr))) zFU ((0 : Int32), s31)).bind fun (s51 : Zr) =>
              some s51).bind fun (s46 : Zr) =>
            some (.inl (w38, v30 + (1 : Int32), s46))
          else
            some (.inr (v29, s31)) : Option ((Int32 × Int32 × Zr) ⊕ (Int32 × Zr)))) zFU ((0 : Int32), (0 : Int32), s25)).bind fun ((w32, s33) : Int32 × Zr) =>
      (fX6_listParts s33).bind fun s64 =>
      some (.inl (w32, s64)) : Option ((Int32 × Zr) ⊕ Zr))) zFU ((1 : Int32), s23)).bind fun (s26 : Zr) =>
  (if (s26 0 52) ≤ 0 then
    some (0 : Int32)
  else
    some (1 : Int32)).bind fun (v65 : Int32) =>
  (zbo v65).bind fun _ =>
  some (v65, s26)
set_option maxRecDepth 100000 in
set_option maxHeartbeats 4000000 in
theorem kX6_cutsLoop (G : Zg) (R : Nat) (h0 : Zh) (hF : zRF R h0) (s : Zr) {x : Int32 × Zr} (hx : fX6_cutsLoop s = some x) : zCt G yX6_cutsLoop cX6_cutsLoop 5 (Option.some Jvm.ClassFile.FieldType.boolean) 3 [zrv G.2.1 (some R)] (zput R h0 s) (some (.int x.1)) (zput R h0 x.2) := by
  refine z_met (a := x) (rvf := fun (x : Int32 × Zr) => some (.int x.1)) (hff := fun (x : Int32 × Zr) => zput R h0 x.2) (lv := [(0, zrv G.2.1 (some R))]) (by decide +kernel) (by simp [lg_sl, zcat1, zcI, zcJ]) (by simp [lv_args, zcat1, zcI, zcJ]) ?_ hx
  unfold fX6_cutsLoop
  refine z_iconst (v := 0) dX6_cutsLoop_0 (by decide) ?_
  refine z_istore_n (lv' := [(1, .int (0 : Int32)), (0, zrv G.2.1 (some R))]) dX6_cutsLoop_1 rfl (by decide) rfl ?_
  refine z_at [1, 0] rfl ?_
  refine z_join (pc2 := 27) (lv2 := fun (q : Zr) => [(0, zrv G.2.1 (some R))]) (st2 := fun _ => []) (h2 := fun (q : Zr) => zput R h0 q) (fun q => ?_) (fun F4 kF4 => ?_)
  · obtain ⟨s3, e0⟩ : ∃ z, z = q := ⟨_, rfl⟩
    subst e0
    try dsimp only
    refine z_iconst (v := 0) dX6_cutsLoop_27 (by decide) ?_
    refine z_istore_n (lv' := [(1, .int (0 : Int32)), (0, zrv G.2.1 (some R))]) dX6_cutsLoop_28 rfl (by decide) rfl ?_
    refine z_at [1, 0] rfl ?_
    refine z_join (pc2 := 99) (lv2 := fun (q : Zr) => [(0, zrv G.2.1 (some R))]) (st2 := fun _ => []) (h2 := fun (q : Zr) => zput R h0 q) (fun q => ?_) (fun F11 kF11 => ?_)
    · obtain ⟨s10, e0⟩ : ∃ z, z = q := ⟨_, rfl⟩
      subst e0
      try dsimp only
      refine z_aload_n (j := 0) dX6_cutsLoop_99 rfl rfl ?_
      refine z_aload_n (j := 0) dX6_cutsLoop_100 rfl rfl ?_
      refine z_rgetA (k := 57) (a := 44) hF dX6_cutsLoop_101 (by decide) rfl zw833 rfl ?_
      refine z_callV (As := [zrv G.2.1 (some (R + 45))]) (rest := []) (rv2 := fun (_ : Zr) => none) (h2 := fun (x : Zr) => zput R h0 x) dX6_cutsLoop_104 vX6_gatherParts (.inl zw1195) (by decide) zkl7 (zRrecv hF).1 (zRrecv hF).2 rfl rfl (by decide) (fun x hx => kX6_gatherParts G R h0 hF s10 45 hx) (fun s23 => ?_)
      try dsimp only [Option.toList, List.cons_append, List.nil_append]
      refine z_iconst (v := 1) dX6_cutsLoop_107 (by decide) ?_
      refine z_istore_n (lv' := [(1, .int (1 : Int32)), (0, zrv G.2.1 (some R))]) dX6_cutsLoop_108 rfl (by decide) rfl ?_
      refine z_at [1, 0] rfl ?_
      refine z_join (pc2 := 279) (lv2 := fun (q : Zr) => [(0, zrv G.2.1 (some R))]) (st2 := fun _ => []) (h2 := fun (q : Zr) => zput R h0 q) (fun q => ?_) (fun F27 kF27 => ?_)
      · obtain ⟨s26, e0⟩ : ∃ z, z = q := ⟨_, rfl⟩
        subst e0
        try dsimp only
        refine z_aload_n (j := 0) dX6_cutsLoop_279 rfl rfl ?_
        refine z_rgetI (k := 52) hF dX6_cutsLoop_280 (by decide) rfl zw828 ?_
        refine z_join (pc2 := 291) (lv2 := fun (q : Int32) => []) (st2 := fun (q : Int32) => [.int q]) (h2 := fun (q : Int32) => zput R h0 s26) (fun q => ?_) (fun F66 kF66 => ?_)
        · obtain ⟨v65, e0⟩ : ∃ z, z = q := ⟨_, rfl⟩
          subst e0
          try dsimp only
          refine z_bo (fun hbb67 => ?_)
          exact z_iret dX6_cutsLoop_291 rfl (by rcases hbb67 with q | q <;> rw [q] <;> rfl) rfl rfl
        · refine z_itb ?_
          refine z_if_le (tgt := 290) dX6_cutsLoop_283 (by decide) (fun _ => ?_) (fun _ => ?_)
          · refine z_iconst (v := 0) dX6_cutsLoop_290 (by decide) ?_
            refine z_sb ?_
            refine z_at [] rfl ?_
            exact kF66 (0 : Int32)
          · refine z_iconst (v := 1) dX6_cutsLoop_286 (by decide) ?_
            refine z_goto (tgt := 291) dX6_cutsLoop_287 (by decide) ?_
            refine z_sb ?_
            refine z_at [] rfl ?_
            exact kF66 (1 : Int32)
      · refine z_loop (lvf := fun (q : Int32 × Zr) => [(0, zrv G.2.1 (some R)), (1, .int q.1)]) (hf2 := fun (q : Int32 × Zr) => zput R h0 q.2) (s0 := ((1 : Int32), s23)) (fun K28 bK28 rK28 q => ?_)
        obtain ⟨v24, s25⟩ := q
        try dsimp only
        refine z_iload_n (j := 1) dX6_cutsLoop_109 rfl rfl ?_
        refine z_itb ?_
        refine z_if_eq (tgt := 279) dX6_cutsLoop_110 (by decide) (fun _ => ?_) (fun _ => ?_)
        · refine z_sb ?_
          refine z_eq (rK28 _) ?_
          refine z_at [0] rfl ?_
          exact kF27 s25
        · refine z_iconst (v := 0) dX6_cutsLoop_113 (by decide) ?_
          refine z_istore_n (lv' := [(1, .int (0 : Int32)), (0, zrv G.2.1 (some R))]) dX6_cutsLoop_114 rfl (by decide) rfl ?_
          refine z_iconst (v := 0) dX6_cutsLoop_115 (by decide) ?_
          refine z_istore_n (lv' := [(2, .int (0 : Int32)), (1, .int (0 : Int32)), (0, zrv G.2.1 (some R))]) dX6_cutsLoop_116 rfl (by decide) rfl ?_
          refine z_as ?_
          refine z_at [2, 1, 0] rfl ?_
          refine z_join (pc2 := 272) (lv2 := fun (q : Int32 × Zr) => [(0, zrv G.2.1 (some R)), (1, .int q.1)]) (st2 := fun _ => []) (h2 := fun (q : Int32 × Zr) => zput R h0 q.2) (fun q => ?_) (fun F34 kF34 => ?_)
          · obtain ⟨w32, s33⟩ := q
            try dsimp only
            refine z_aload_n (j := 0) dX6_cutsLoop_272 rfl rfl ?_
            refine z_as ?_
            refine z_callV (As := []) (rest := []) (rv2 := fun (_ : Zr) => none) (h2 := fun (x : Zr) => zput R h0 x) dX6_cutsLoop_273 vX6_listParts (.inl zw1199) (by decide) zkl7 (zRrecv hF).1 (zRrecv hF).2 rfl rfl (by decide) (fun x hx => kX6_listParts G R h0 hF s33 hx) (fun s64 => ?_)
            try dsimp only [Option.toList, List.cons_append, List.nil_append]
            refine z_goto (tgt := 109) dX6_cutsLoop_276 (by decide) ?_
            refine z_sb ?_
            refine z_at [0, 1] rfl ?_
            exact bK28 (w32, s64)
          · refine z_loop (lvf := fun (q : Int32 × Int32 × Zr) => [(0, zrv G.2.1 (some R)), (1, .int q.1), (2, .int q.2.1)]) (hf2 := fun (q : Int32 × Int32 × Zr) => zput R h0 q.2.2) (s0 := ((0 : Int32), (0 : Int32), s25)) (fun K35 bK35 rK35 q => ?_)
            obtain ⟨v29, v30, s31⟩ := q
            try dsimp only
            refine z_iload_n (j := 2) dX6_cutsLoop_117 rfl rfl ?_
            refine z_aload_n (j := 0) dX6_cutsLoop_118 rfl rfl ?_
            refine z_rgetI (k := 52) hF dX6_cutsLoop_119 (by decide) rfl zw828 ?_
            refine z_itb ?_
            refine z_icmp_ge (tgt := 272) dX6_cutsLoop_122 (by decide) (fun _ => ?_) (fun _ => ?_)
            · refine z_sb ?_
              refine z_eq (rK35 _) ?_
              refine z_at [0, 1] rfl ?_
              exact kF34 (v29, s31)
            · refine z_iload_n (j := 1) dX6_cutsLoop_125 rfl rfl ?_
              refine z_itb ?_
              refine z_if_ne (tgt := 272) dX6_cutsLoop_126 (by decide) (fun _ => ?_) (fun _ => ?_)
              · refine z_iconst (v := 0) dX6_cutsLoop_129 (by decide) ?_
                refine z_istore_n (lv' := [(3, .int (0 : Int32)), (0, zrv G.2.1 (some R)), (1, .int v29), (2, .int v30)]) dX6_cutsLoop_130 rfl (by decide) rfl ?_
                refine z_as ?_
                refine z_at [1, 2, 3, 0] rfl ?_
                refine z_join (pc2 := 176) (lv2 := fun (q : Int32) => [(0, zrv G.2.1 (some R)), (1, .int q), (2, .int v30)]) (st2 := fun _ => []) (h2 := fun (q : Int32) => zput R h0 s31) (fun q => ?_) (fun F39 kF39 => ?_)
                · obtain ⟨w38, e0⟩ : ∃ z, z = q := ⟨_, rfl⟩
                  subst e0
                  try dsimp only
                  refine z_iload_n (j := 1) dX6_cutsLoop_176 rfl rfl ?_
                  refine z_as ?_
                  refine z_join (pc2 := 266) (lv2 := fun (q : Zr) => [(0, zrv G.2.1 (some R)), (1, .int w38), (2, .int v30)]) (st2 := fun (q : Zr) => []) (h2 := fun (q : Zr) => zput R h0 q) (fun q => ?_) (fun F47 kF47 => ?_)
                  · obtain ⟨s46, e0⟩ : ∃ z, z = q := ⟨_, rfl⟩
                    subst e0
                    try dsimp only
                    refine z_iinc (j := 2) (v := v30 + (1 : Int32)) (lv' := [(2, .int (v30 + (1 : Int32))), (0, zrv G.2.1 (some R)), (1, .int w38)]) dX6_cutsLoop_266 rfl rfl (by decide) rfl ?_
                    refine z_goto (tgt := 117) dX6_cutsLoop_269 (by decide) ?_
                    refine z_sb ?_
                    refine z_at [1, 2, 0] rfl ?_
                    exact bK35 (w38, v30 + (1 : Int32), s46)
                  · refine z_itb ?_
                    refine z_if_eq (tgt := 266) dX6_cutsLoop_177 (by decide) (fun _ => ?_) (fun _ => ?_)
                    · refine z_sb ?_
                      refine z_at [0, 1, 2] rfl ?_
                      exact kF47 s31
                    · refine z_aload_n (j := 0) dX6_cutsLoop_180 rfl rfl ?_
                      refine z_rgetA (k := 53) (a := 40) hF dX6_cutsLoop_181 (by decide) rfl zw829 rfl ?_
                      refine z_iload_n (j := 2) dX6_cutsLoop_184 rfl rfl ?_
                      refine z_as ?_
                      refine z_riald hF dX6_cutsLoop_185 (fun x48 => ?_)
                      refine z_istore_n (lv' := [(3, .int x48), (0, zrv G.2.1 (some R)), (1, .int w38), (2, .int v30)]) dX6_cutsLoop_186 rfl (by decide) rfl ?_
                      refine z_iconst (v := 0) dX6_cutsLoop_187 (by decide) ?_
                      refine z_istore (lv' := [(4, .int (0 : Int32)), (3, .int x48), (0, zrv G.2.1 (some R)), (1, .int w38), (2, .int v30)]) dX6_cutsLoop_188 (by decide) rfl ?_
                      refine z_as ?_
                      refine z_at [2, 3, 4, 1, 0] rfl ?_
                      refine z_join (pc2 := 266) (lv2 := fun (q : Zr) => [(0, zrv G.2.1 (some R)), (1, .int w38), (2, .int v30)]) (st2 := fun _ => []) (h2 := fun (q : Zr) => zput R h0 q) (fun q => ?_) (fun F52 kF52 => ?_)
                      · obtain ⟨s51, e0⟩ : ∃ z, z = q := ⟨_, rfl⟩
                        subst e0
                        try dsimp only
                        refine z_sb ?_
                        refine z_at [0, 1, 2] rfl ?_
                        exact kF47 s51
                      · refine z_loop (lvf := fun (q : Int32 × Zr) => [(0, zrv G.2.1 (some R)), (1, .int w38), (2, .int v30), (3, .int x48), (4, .int q.1)]) (hf2 := fun (q : Int32 × Zr) => zput R h0 q.2) (s0 := ((0 : Int32), s31)) (fun K53 bK53 rK53 q => ?_)
                        obtain ⟨v49, s50⟩ := q
                        try dsimp only
                        refine z_iload (j := 4) dX6_cutsLoop_190 rfl ?_
                        refine z_bipush (v := 12) dX6_cutsLoop_192 (by decide) ?_
                        refine z_itb ?_
                        refine z_icmp_ge (tgt := 266) dX6_cutsLoop_194 (by decide) (fun _ => ?_) (fun _ => ?_)
                        · refine z_sb ?_
                          refine z_eq (rK53 _) ?_
                          refine z_at [0, 1, 2] rfl ?_
                          exact kF52 s50
                        · refine z_aload_n (j := 0) dX6_cutsLoop_197 rfl rfl ?_
                          refine z_rgetA (k := 56) (a := 43) hF dX6_cutsLoop_198 (by decide) rfl zw832 rfl ?_
                          refine z_iload (j := 4) dX6_cutsLoop_201 rfl ?_
                          refine z_aload_n (j := 0) dX6_cutsLoop_203 rfl rfl ?_
                          refine z_rgetA (k := 56) (a := 43) hF dX6_cutsLoop_204 (by decide) rfl zw832 rfl ?_
                          refine z_iload (j := 4) dX6_cutsLoop_207 rfl ?_
                          refine z_as ?_
                          refine z_rzald hF dX6_cutsLoop_209 (fun x54 => ?_)
                          refine z_as ?_
                          refine z_join (pc2 := 229) (lv2 := fun (q : Int32) => [(0, zrv G.2.1 (some R)), (1, .int w38), (2, .int v30), (3, .int x48), (4, .int v49)]) (st2 := fun (q : Int32) => [.int q, .int v49, zrv G.2.1 (some (R + 44))]) (h2 := fun (q : Int32) => zput R h0 s50) (fun q => ?_) (fun F56 kF56 => ?_)
                          · obtain ⟨v55, e0⟩ : ∃ z, z = q := ⟨_, rfl⟩
                            subst e0
                            try dsimp only
                            refine z_as ?_
                            refine z_rzast hF dX6_cutsLoop_229 (fun s58 => ?_)
                            refine z_aload_n (j := 0) dX6_cutsLoop_230 rfl rfl ?_
                            refine z_rgetA (k := 51) (a := 39) hF dX6_cutsLoop_231 (by decide) rfl zw827 rfl ?_
                            refine z_iload (j := 4) dX6_cutsLoop_234 rfl ?_
                            refine z_aload_n (j := 0) dX6_cutsLoop_236 rfl rfl ?_
                            refine z_rgetA (k := 51) (a := 39) hF dX6_cutsLoop_237 (by decide) rfl zw827 rfl ?_
                            refine z_iload (j := 4) dX6_cutsLoop_240 rfl ?_
                            refine z_as ?_
                            refine z_riald hF dX6_cutsLoop_242 (fun x59 => ?_)
                            refine z_iload_n (j := 3) dX6_cutsLoop_243 rfl rfl ?_
                            refine z_as ?_
                            refine z_join (pc2 := 259) (lv2 := fun (q : Int32) => [(0, zrv G.2.1 (some R)), (1, .int w38), (2, .int v30), (3, .int x48), (4, .int v49)]) (st2 := fun (q : Int32) => [.int q, .int v49, zrv G.2.1 (some (R + 40))]) (h2 := fun (q : Int32) => zput R h0 s58) (fun q => ?_) (fun F61 kF61 => ?_)
                            · obtain ⟨v60, e0⟩ : ∃ z, z = q := ⟨_, rfl⟩
                              subst e0
                              try dsimp only
                              refine z_as ?_
                              refine z_riast hF dX6_cutsLoop_259 (fun s63 => ?_)
                              refine z_iinc (j := 4) (v := v49 + (1 : Int32)) (lv' := [(4, .int (v49 + (1 : Int32))), (0, zrv G.2.1 (some R)), (1, .int w38), (2, .int v30), (3, .int x48)]) dX6_cutsLoop_260 rfl rfl (by decide) rfl ?_
                              refine z_goto (tgt := 190) dX6_cutsLoop_263 (by decide) ?_
                              refine z_sb ?_
                              refine z_at [1, 2, 3, 4, 0] rfl ?_
                              exact bK53 (v49 + (1 : Int32), s63)
                            · refine z_itb ?_
                              refine z_icmp_ne (tgt := 252) dX6_cutsLoop_244 (by decide) (fun _ => ?_) (fun _ => ?_)
                              · refine z_bipush (v := -3) dX6_cutsLoop_247 (by decide) ?_
                                refine z_goto (tgt := 259) dX6_cutsLoop_249 (by decide) ?_
                                refine z_sb ?_
                                refine z_at [0, 1, 2, 3, 4] rfl ?_
                                exact kF61 (-3 : Int32)
                              · refine z_aload_n (j := 0) dX6_cutsLoop_252 rfl rfl ?_
                                refine z_rgetA (k := 51) (a := 39) hF dX6_cutsLoop_253 (by decide) rfl zw827 rfl ?_
                                refine z_iload (j := 4) dX6_cutsLoop_256 rfl ?_
                                refine z_as ?_
                                refine z_riald hF dX6_cutsLoop_258 (fun x62 => ?_)
                                refine z_sb ?_
                                refine z_at [0, 1, 2, 3, 4] rfl ?_
                                exact kF61 x62
                          · refine z_itb ?_
                            refine z_if_ne (tgt := 224) dX6_cutsLoop_210 (by decide) (fun _ => ?_) (fun _ => ?_)
                            · refine z_aload_n (j := 0) dX6_cutsLoop_213 rfl rfl ?_
                              refine z_rgetA (k := 51) (a := 39) hF dX6_cutsLoop_214 (by decide) rfl zw827 rfl ?_
                              refine z_iload (j := 4) dX6_cutsLoop_217 rfl ?_
                              refine z_as ?_
                              refine z_riald hF dX6_cutsLoop_219 (fun x57 => ?_)
                              refine z_iload_n (j := 3) dX6_cutsLoop_220 rfl rfl ?_
                              refine z_itb ?_
                              refine z_icmp_ne (tgt := 228) dX6_cutsLoop_221 (by decide) (fun _ => ?_) (fun _ => ?_)
                              · refine z_iconst (v := 1) dX6_cutsLoop_224 (by decide) ?_
                                refine z_goto (tgt := 229) dX6_cutsLoop_225 (by decide) ?_
                                refine z_sb ?_
                                refine z_at [0, 1, 2, 3, 4] rfl ?_
                                exact kF56 (1 : Int32)
                              · refine z_iconst (v := 0) dX6_cutsLoop_228 (by decide) ?_
                                refine z_sb ?_
                                refine z_at [0, 1, 2, 3, 4] rfl ?_
                                exact kF56 (0 : Int32)
                            · refine z_iconst (v := 1) dX6_cutsLoop_224 (by decide) ?_
                              refine z_goto (tgt := 229) dX6_cutsLoop_225 (by decide) ?_
                              refine z_sb ?_
                              refine z_at [0, 1, 2, 3, 4] rfl ?_
                              exact kF56 (1 : Int32)
                · refine z_loop (lvf := fun (q : Int32 × Int32) => [(0, zrv G.2.1 (some R)), (1, .int q.1), (2, .int v30), (3, .int q.2)]) (hf2 := fun (q : Int32 × Int32) => zput R h0 s31) (s0 := (v29, (0 : Int32))) (fun K40 bK40 rK40 q => ?_)
                  obtain ⟨v36, v37⟩ := q
                  try dsimp only
                  refine z_iload_n (j := 3) dX6_cutsLoop_131 rfl rfl ?_
                  refine z_bipush (v := 12) dX6_cutsLoop_132 (by decide) ?_
                  refine z_itb ?_
                  refine z_icmp_ge (tgt := 176) dX6_cutsLoop_134 (by decide) (fun _ => ?_) (fun _ => ?_)
                  · refine z_sb ?_
                    refine z_eq (rK40 _) ?_
                    refine z_at [0, 1, 2] rfl ?_
                    exact kF39 v36
                  · refine z_iload_n (j := 1) dX6_cutsLoop_137 rfl rfl ?_
                    refine z_itb ?_
                    refine z_if_ne (tgt := 176) dX6_cutsLoop_138 (by decide) (fun _ => ?_) (fun _ => ?_)
                    · refine z_aload_n (j := 0) dX6_cutsLoop_141 rfl rfl ?_
                      refine z_rgetA (k := 51) (a := 39) hF dX6_cutsLoop_142 (by decide) rfl zw827 rfl ?_
                      refine z_iload_n (j := 3) dX6_cutsLoop_145 rfl rfl ?_
                      refine z_as ?_
                      refine z_riald hF dX6_cutsLoop_146 (fun x41 => ?_)
                      refine z_aload_n (j := 0) dX6_cutsLoop_147 rfl rfl ?_
                      refine z_rgetA (k := 53) (a := 40) hF dX6_cutsLoop_148 (by decide) rfl zw829 rfl ?_
                      refine z_iload_n (j := 2) dX6_cutsLoop_151 rfl rfl ?_
                      refine z_as ?_
                      refine z_riald hF dX6_cutsLoop_152 (fun x42 => ?_)
                      refine z_as ?_
                      refine z_join (pc2 := 169) (lv2 := fun (q : Int32) => [(0, zrv G.2.1 (some R)), (2, .int v30), (3, .int v37)]) (st2 := fun (q : Int32) => [.int q]) (h2 := fun (q : Int32) => zput R h0 s31) (fun q => ?_) (fun F44 kF44 => ?_)
                      · obtain ⟨v43, e0⟩ : ∃ z, z = q := ⟨_, rfl⟩
                        subst e0
                        try dsimp only
                        refine z_istore_n (lv' := [(1, .int v43), (0, zrv G.2.1 (some R)), (2, .int v30), (3, .int v37)]) dX6_cutsLoop_169 rfl (by decide) rfl ?_
                        refine z_iinc (j := 3) (v := v37 + (1 : Int32)) (lv' := [(3, .int (v37 + (1 : Int32))), (1, .int v43), (0, zrv G.2.1 (some R)), (2, .int v30)]) dX6_cutsLoop_170 rfl rfl (by decide) rfl ?_
                        refine z_goto (tgt := 131) dX6_cutsLoop_173 (by decide) ?_
                        refine z_sb ?_
                        refine z_at [2, 1, 3, 0] rfl ?_
                        exact bK40 (v43, v37 + (1 : Int32))
                      · refine z_itb ?_
                        refine z_icmp_ne (tgt := 168) dX6_cutsLoop_153 (by decide) (fun _ => ?_) (fun _ => ?_)
                        · refine z_aload_n (j := 0) dX6_cutsLoop_156 rfl rfl ?_
                          refine z_iload_n (j := 3) dX6_cutsLoop_157 rfl rfl ?_
                          refine z_as ?_
                          refine z_callV (As := [.int v37]) (rest := []) (rv2 := fun (x : Int32) => some (.int x)) (h2 := fun (_ : Int32) => zput R h0 s31) dX6_cutsLoop_158 vX6_goesIn (.inl zw1239) (by decide) zkl7 (zRrecv hF).1 (zRrecv hF).2 rfl rfl (by decide) (fun x hx => kX6_goesIn G R h0 hF s31 v37 hx) (fun x45 => ?_)
                          try dsimp only [Option.toList, List.cons_append, List.nil_append]
                          refine z_itb ?_
                          refine z_if_eq (tgt := 168) dX6_cutsLoop_161 (by decide) (fun _ => ?_) (fun _ => ?_)
                          · refine z_iconst (v := 0) dX6_cutsLoop_168 (by decide) ?_
                            refine z_sb ?_
                            refine z_at [0, 2, 3] rfl ?_
                            exact kF44 (0 : Int32)
                          · refine z_iconst (v := 1) dX6_cutsLoop_164 (by decide) ?_
                            refine z_goto (tgt := 169) dX6_cutsLoop_165 (by decide) ?_
                            refine z_sb ?_
                            refine z_at [0, 2, 3] rfl ?_
                            exact kF44 (1 : Int32)
                        · refine z_iconst (v := 0) dX6_cutsLoop_168 (by decide) ?_
                          refine z_sb ?_
                          refine z_at [0, 2, 3] rfl ?_
                          exact kF44 (0 : Int32)
                    · refine z_sb ?_
                      refine z_eq (rK40 _) ?_
                      refine z_at [0, 1, 2] rfl ?_
                      exact kF39 v36
              · refine z_sb ?_
                refine z_eq (rK35 _) ?_
                refine z_at [0, 1] rfl ?_
                exact kF34 (v29, s31)
    · refine z_loop (lvf := fun (q : Int32 × Zr) => [(0, zrv G.2.1 (some R)), (1, .int q.1)]) (hf2 := fun (q : Int32 × Zr) => zput R h0 q.2) (s0 := ((0 : Int32), s3)) (fun K12 bK12 rK12 q => ?_)
      obtain ⟨v8, s9⟩ := q
      try dsimp only
      refine z_iload_n (j := 1) dX6_cutsLoop_29 rfl rfl ?_
      refine z_bipush (v := 12) dX6_cutsLoop_30 (by decide) ?_
      refine z_itb ?_
      refine z_icmp_ge (tgt := 99) dX6_cutsLoop_32 (by decide) (fun _ => ?_) (fun _ => ?_)
      · refine z_sb ?_
        refine z_eq (rK12 _) ?_
        refine z_at [0] rfl ?_
        exact kF11 s9
      · refine z_aload_n (j := 0) dX6_cutsLoop_35 rfl rfl ?_
        refine z_rgetA (k := 56) (a := 43) hF dX6_cutsLoop_36 (by decide) rfl zw832 rfl ?_
        refine z_iload_n (j := 1) dX6_cutsLoop_39 rfl rfl ?_
        refine z_aload_n (j := 0) dX6_cutsLoop_40 rfl rfl ?_
        refine z_rgetA (k := 49) (a := 37) hF dX6_cutsLoop_41 (by decide) rfl zw825 rfl ?_
        refine z_iload_n (j := 1) dX6_cutsLoop_44 rfl rfl ?_
        refine z_as ?_
        refine z_rzald hF dX6_cutsLoop_45 (fun x13 => ?_)
        refine z_as ?_
        refine z_join (pc2 := 63) (lv2 := fun (q : Int32) => [(0, zrv G.2.1 (some R)), (1, .int v8)]) (st2 := fun (q : Int32) => [.int q, .int v8, zrv G.2.1 (some (R + 44))]) (h2 := fun (q : Int32) => zput R h0 s9) (fun q => ?_) (fun F15 kF15 => ?_)
        · obtain ⟨v14, e0⟩ : ∃ z, z = q := ⟨_, rfl⟩
          subst e0
          try dsimp only
          refine z_as ?_
          refine z_rzast hF dX6_cutsLoop_63 (fun s17 => ?_)
          refine z_aload_n (j := 0) dX6_cutsLoop_64 rfl rfl ?_
          refine z_rgetA (k := 57) (a := 44) hF dX6_cutsLoop_65 (by decide) rfl zw833 rfl ?_
          refine z_iload_n (j := 1) dX6_cutsLoop_68 rfl rfl ?_
          refine z_aload_n (j := 0) dX6_cutsLoop_69 rfl rfl ?_
          refine z_rgetA (k := 48) (a := 36) hF dX6_cutsLoop_70 (by decide) rfl zw824 rfl ?_
          refine z_iload_n (j := 1) dX6_cutsLoop_73 rfl rfl ?_
          refine z_as ?_
          refine z_rzald hF dX6_cutsLoop_74 (fun x18 => ?_)
          refine z_as ?_
          refine z_join (pc2 := 92) (lv2 := fun (q : Int32) => [(0, zrv G.2.1 (some R)), (1, .int v8)]) (st2 := fun (q : Int32) => [.int q, .int v8, zrv G.2.1 (some (R + 45))]) (h2 := fun (q : Int32) => zput R h0 s17) (fun q => ?_) (fun F20 kF20 => ?_)
          · obtain ⟨v19, e0⟩ : ∃ z, z = q := ⟨_, rfl⟩
            subst e0
            try dsimp only
            refine z_as ?_
            refine z_rzast hF dX6_cutsLoop_92 (fun s22 => ?_)
            refine z_iinc (j := 1) (v := v8 + (1 : Int32)) (lv' := [(1, .int (v8 + (1 : Int32))), (0, zrv G.2.1 (some R))]) dX6_cutsLoop_93 rfl rfl (by decide) rfl ?_
            refine z_goto (tgt := 29) dX6_cutsLoop_96 (by decide) ?_
            refine z_sb ?_
            refine z_at [1, 0] rfl ?_
            exact bK12 (v8 + (1 : Int32), s22)
          · refine z_itb ?_
            refine z_if_eq (tgt := 91) dX6_cutsLoop_75 (by decide) (fun _ => ?_) (fun _ => ?_)
            · refine z_iconst (v := 0) dX6_cutsLoop_91 (by decide) ?_
              refine z_sb ?_
              refine z_at [0, 1] rfl ?_
              exact kF20 (0 : Int32)
            · refine z_aload_n (j := 0) dX6_cutsLoop_78 rfl rfl ?_
              refine z_rgetA (k := 56) (a := 43) hF dX6_cutsLoop_79 (by decide) rfl zw832 rfl ?_
              refine z_iload_n (j := 1) dX6_cutsLoop_82 rfl rfl ?_
              refine z_as ?_
              refine z_rzald hF dX6_cutsLoop_83 (fun x21 => ?_)
              refine z_itb ?_
              refine z_if_ne (tgt := 91) dX6_cutsLoop_84 (by decide) (fun _ => ?_) (fun _ => ?_)
              · refine z_iconst (v := 1) dX6_cutsLoop_87 (by decide) ?_
                refine z_goto (tgt := 92) dX6_cutsLoop_88 (by decide) ?_
                refine z_sb ?_
                refine z_at [0, 1] rfl ?_
                exact kF20 (1 : Int32)
              · refine z_iconst (v := 0) dX6_cutsLoop_91 (by decide) ?_
                refine z_sb ?_
                refine z_at [0, 1] rfl ?_
                exact kF20 (0 : Int32)
        · refine z_itb ?_
          refine z_if_ne (tgt := 58) dX6_cutsLoop_46 (by decide) (fun _ => ?_) (fun _ => ?_)
          · refine z_aload_n (j := 0) dX6_cutsLoop_49 rfl rfl ?_
            refine z_rgetA (k := 50) (a := 38) hF dX6_cutsLoop_50 (by decide) rfl zw826 rfl ?_
            refine z_iload_n (j := 1) dX6_cutsLoop_53 rfl rfl ?_
            refine z_as ?_
            refine z_rzald hF dX6_cutsLoop_54 (fun x16 => ?_)
            refine z_itb ?_
            refine z_if_eq (tgt := 62) dX6_cutsLoop_55 (by decide) (fun _ => ?_) (fun _ => ?_)
            · refine z_iconst (v := 0) dX6_cutsLoop_62 (by decide) ?_
              refine z_sb ?_
              refine z_at [0, 1] rfl ?_
              exact kF15 (0 : Int32)
            · refine z_iconst (v := 1) dX6_cutsLoop_58 (by decide) ?_
              refine z_goto (tgt := 63) dX6_cutsLoop_59 (by decide) ?_
              refine z_sb ?_
              refine z_at [0, 1] rfl ?_
              exact kF15 (1 : Int32)
          · refine z_iconst (v := 1) dX6_cutsLoop_58 (by decide) ?_
            refine z_goto (tgt := 63) dX6_cutsLoop_59 (by decide) ?_
            refine z_sb ?_
            refine z_at [0, 1] rfl ?_
            exact kF15 (1 : Int32)
  · refine z_loop (lvf := fun (q : Int32 × Zr) => [(0, zrv G.2.1 (some R)), (1, .int q.1)]) (hf2 := fun (q : Int32 × Zr) => zput R h0 q.2) (s0 := ((0 : Int32), s)) (fun K5 bK5 rK5 q => ?_)
    obtain ⟨v1, s2⟩ := q
    try dsimp only
    refine z_iload_n (j := 1) dX6_cutsLoop_2 rfl rfl ?_
    refine z_sipush (v := 144) dX6_cutsLoop_3 (by decide) ?_
    refine z_itb ?_
    refine z_icmp_ge (tgt := 27) dX6_cutsLoop_6 (by decide) (fun _ => ?_) (fun _ => ?_)
    · refine z_sb ?_
      refine z_eq (rK5 _) ?_
      refine z_at [0] rfl ?_
      exact kF4 s2
    · refine z_aload_n (j := 0) dX6_cutsLoop_9 rfl rfl ?_
      refine z_rgetA (k := 54) (a := 41) hF dX6_cutsLoop_10 (by decide) rfl zw830 rfl ?_
      refine z_iload_n (j := 1) dX6_cutsLoop_13 rfl rfl ?_
      refine z_aload_n (j := 0) dX6_cutsLoop_14 rfl rfl ?_
      refine z_rgetA (k := 47) (a := 35) hF dX6_cutsLoop_15 (by decide) rfl zw823 rfl ?_
      refine z_iload_n (j := 1) dX6_cutsLoop_18 rfl rfl ?_
      refine z_as ?_
      refine z_rzald hF dX6_cutsLoop_19 (fun x6 => ?_)
      refine z_as ?_
      refine z_rzast hF dX6_cutsLoop_20 (fun s7 => ?_)
      refine z_iinc (j := 1) (v := v1 + (1 : Int32)) (lv' := [(1, .int (v1 + (1 : Int32))), (0, zrv G.2.1 (some R))]) dX6_cutsLoop_21 rfl rfl (by decide) rfl ?_
      refine z_goto (tgt := 2) dX6_cutsLoop_24 (by decide) ?_
      refine z_sb ?_
      refine z_at [1, 0] rfl ?_
      exact bK5 (v1 + (1 : Int32), s7)
def fX6_partNode (s : Zr) (a1 : Int32) (a2 : Int32) (a3 : Int32) : Option (Int32 × Zr) :=
  (fX6_newNode s (1 : Int32) (-3 : Int32)).bind fun ((x1, s2) : Int32 × Zr) =>
  (fX6_beginLog s2 x1).bind fun s3 =>
  (rdI s3 31 a1).bind fun x4 =>
  (zloop (fun ((v5, s6) : Int32 × Zr) =>
    ((rdI s6 32 a1).bind fun x10 =>
    if (x4 + x10) ≤ v5 then
      some (.inr s6)
    else
      (if a3 = (2 : Int32) then
        (fX6_beginRow s6 x1).bind fun s13 =>
        some s13
      else
        if a3 = (4 : Int32) then
          (fX6_beginRow s6 x1).bind fun s14 =>
          some s14
        else
          if a3 = (3 : Int32) then
            (rdI s6 33 v5).bind fun x15 =>
            (rdI s6 35 x15).bind fun x16 =>
            (rdI s6 40 x16).bind fun x17 =>
            if x17 = a2 then
              (fX6_beginRow s6 x1).bind fun s18 =>
              some s18
            else
              some s6
          else
            some s6).bind fun (s11 : Zr) =>
      (zloop (fun ((v19, v20, s21) : Int32 × Int32 × Zr) =>
        ((rdI s21 34 v5).bind fun x25 =>
        if x25 ≤ v20 then
          some (.inr s21)
        else
          (rdI s21 33 v5).bind fun x26 =>
          (rdI s21 35 (x26 + v20)).bind fun x27 =>
          (if a2 = (-3 : Int32) then
            (rdZ s21 44 x27).bind fun x30 =>
            some x30
          else
            (rdI s21 40 x27).bind fun x31 =>
            if x31 = a2 then
              some (1 : Int32)
            else
              some (0 : Int32)).bind fun (v28 : Int32) =>
          (if v28 = 0 then
            some s21
          else
            if a3 = (5 : Int32) then
              if v19 = 0 then
                (fX6_beginRow s21 x1).bind fun s34 =>
                some s34
              else
                some s21
            else
              some s21).bind fun (s32 : Zr) =>
          (if v28 = 0 then
            some s32
          else
            (fX6_addName s32 x27).bind fun s37 =>
            some s37).bind fun (s35 : Zr) =>
          some (.inl (v28, v20 + (1 : Int32), s35)) : Option ((Int32 × Int32 × Zr) ⊕ Zr))) zFU ((0 : Int32), (0 : Int32), s11)).bind fun (s22 : Zr) =>
      some (.inl (v5 + (1 : Int32), s22)) : Option ((Int32 × Zr) ⊕ Zr))) zFU (x4, s3)).bind fun (s7 : Zr) =>
  some (x1, s7)
set_option maxRecDepth 100000 in
set_option maxHeartbeats 4000000 in
theorem kX6_partNode (G : Zg) (R : Nat) (h0 : Zh) (hF : zRF R h0) (s : Zr) (a1 : Int32) (a2 : Int32) (a3 : Int32) {x : Int32 × Zr} (hx : fX6_partNode s a1 a2 a3 = some x) : zCt G yX6_partNode cX6_partNode 11 (Option.some Jvm.ClassFile.FieldType.int) 2 [zrv G.2.1 (some R), .int a1, .int a2, .int a3] (zput R h0 s) (some (.int x.1)) (zput R h0 x.2) := by
  refine z_met (a := x) (rvf := fun (x : Int32 × Zr) => some (.int x.1)) (hff := fun (x : Int32 × Zr) => zput R h0 x.2) (lv := [(0, zrv G.2.1 (some R)), (1, .int a1), (2, .int a2), (3, .int a3)]) (by decide +kernel) (by simp [lg_sl, zcat1, zcI, zcJ]) (by simp [lv_args, zcat1, zcI, zcJ]) ?_ hx
  unfold fX6_partNode
  refine z_aload_n (j := 0) dX6_partNode_0 rfl rfl ?_
  refine z_iconst (v := 1) dX6_partNode_1 (by decide) ?_
  refine z_bipush (v := -3) dX6_partNode_2 (by decide) ?_
  refine z_callV (As := [.int (1 : Int32), .int (-3 : Int32)]) (rest := []) (rv2 := fun (x : Int32 × Zr) => some (.int x.1)) (h2 := fun (x : Int32 × Zr) => zput R h0 x.2) dX6_partNode_4 vX6_newNode (.inl zw1066) (by decide) zkl7 (zRrecv hF).1 (zRrecv hF).2 rfl rfl (by decide) (fun x hx => kX6_newNode G R h0 hF s (1 : Int32) (-3 : Int32) hx) (fun x => ?_)
  obtain ⟨x1, s2⟩ := x
  try dsimp only [Option.toList, List.cons_append, List.nil_append]
  refine z_istore (lv' := [(4, .int x1), (0, zrv G.2.1 (some R)), (1, .int a1), (2, .int a2), (3, .int a3)]) dX6_partNode_7 (by decide) rfl ?_
  refine z_aload_n (j := 1) dX6_partNode_9 rfl rfl ?_
  refine z_iload (j := 0) dX6_partNode_10 rfl ?_
  refine z_callV (As := [.int x1]) (rest := []) (rv2 := fun (_ : Zr) => none) (h2 := fun (x : Zr) => zput R h0 x) dX6_partNode_12 vX6_beginLog (.inl zw1155) (by decide) zkl7 (zRrecv hF).1 (zRrecv hF).2 rfl rfl (by decide) (fun x hx => kX6_beginLog G R h0 hF s2 x1 hx) (fun s3 => ?_)
  try dsimp only [Option.toList, List.cons_append, List.nil_append]
  refine z_aload_n (j := 1) dX6_partNode_15 rfl rfl ?_
  refine z_rgetA (k := 40) (a := 30) hF dX6_partNode_16 (by decide) rfl zw816 rfl ?_
  refine z_iload_n (j := 2) dX6_partNode_19 rfl rfl ?_
  refine z_riald hF dX6_partNode_20 (fun x4 => ?_)
  refine z_istore (lv' := [(5, .int x4), (4, .int x1), (0, zrv G.2.1 (some R)), (1, .int a1), (2, .int a2), (3, .int a3)]) dX6_partNode_21 (by decide) rfl ?_
  refine z_iload (j := 0) dX6_partNode_23 rfl ?_
  refine z_istore (lv' := [(6, .int x4), (5, .int x4), (4, .int x1), (0, zrv G.2.1 (some R)), (1, .int a1), (2, .int a2), (3, .int a3)]) dX6_partNode_25 (by decide) rfl ?_
  refine z_at [3, 4, 5, 6, 2, 1, 0] rfl ?_
  refine z_join (pc2 := 200) (lv2 := fun (q : Zr) => [(4, .int x1)]) (st2 := fun _ => []) (h2 := fun (q : Zr) => zput R h0 q) (fun q => ?_) (fun F8 kF8 => ?_)
  · obtain ⟨s7, e0⟩ : ∃ z, z = q := ⟨_, rfl⟩
    subst e0
    try dsimp only
    refine z_iload (j := 0) dX6_partNode_200 rfl ?_
    exact z_iret dX6_partNode_202 rfl rfl rfl rfl
  · refine z_loop (lvf := fun (q : Int32 × Zr) => [(0, zrv G.2.1 (some R)), (1, .int a1), (2, .int a2), (3, .int a3), (4, .int x1), (5, .int x4), (6, .int q.1)]) (hf2 := fun (q : Int32 × Zr) => zput R h0 q.2) (s0 := (x4, s3)) (fun K9 bK9 rK9 q => ?_)
    obtain ⟨v5, s6⟩ := q
    try dsimp only
    refine z_iload (j := 6) dX6_partNode_27 rfl ?_
    refine z_iload (j := 5) dX6_partNode_29 rfl ?_
    refine z_aload_n (j := 0) dX6_partNode_31 rfl rfl ?_
    refine z_rgetA (k := 41) (a := 31) hF dX6_partNode_32 (by decide) rfl zw817 rfl ?_
    refine z_iload_n (j := 1) dX6_partNode_35 rfl rfl ?_
    refine z_as ?_
    refine z_riald hF dX6_partNode_36 (fun x10 => ?_)
    refine z_iadd dX6_partNode_37 ?_
    refine z_itb ?_
    refine z_icmp_ge (tgt := 200) dX6_partNode_38 (by decide) (fun _ => ?_) (fun _ => ?_)
    · refine z_sb ?_
      refine z_eq (rK9 _) ?_
      refine z_at [4] rfl ?_
      exact kF8 s6
    · refine z_iconst (v := 0) dX6_partNode_41 (by decide) ?_
      refine z_istore (lv' := [(7, .int (0 : Int32)), (0, zrv G.2.1 (some R)), (1, .int a1), (2, .int a2), (3, .int a3), (4, .int x1), (5, .int x4), (6, .int v5)]) dX6_partNode_42 (by decide) rfl ?_
      refine z_iload_n (j := 4) dX6_partNode_44 rfl rfl ?_
      refine z_iconst (v := 2) dX6_partNode_45 (by decide) ?_
      refine z_as ?_
      refine z_join (pc2 := 86) (lv2 := fun (q : Zr) => [(0, zrv G.2.1 (some R)), (1, .int a1), (2, .int a2), (3, .int a3), (4, .int x1), (5, .int x4), (6, .int v5), (7, .int (0 : Int32))]) (st2 := fun (q : Zr) => []) (h2 := fun (q : Zr) => zput R h0 q) (fun q => ?_) (fun F12 kF12 => ?_)
      · obtain ⟨s11, e0⟩ : ∃ z, z = q := ⟨_, rfl⟩
        subst e0
        try dsimp only
        refine z_iconst (v := 0) dX6_partNode_86 (by decide) ?_
        refine z_istore (lv' := [(8, .int (0 : Int32)), (0, zrv G.2.1 (some R)), (1, .int a1), (2, .int a2), (3, .int a3), (4, .int x1), (5, .int x4), (6, .int v5), (7, .int (0 : Int32))]) dX6_partNode_87 (by decide) rfl ?_
        refine z_as ?_
        refine z_at [1, 2, 3, 4, 5, 6, 7, 8, 0] rfl ?_
        refine z_join (pc2 := 194) (lv2 := fun (q : Zr) => [(0, zrv G.2.1 (some R)), (1, .int a1), (2, .int a2), (3, .int a3), (4, .int x1), (5, .int x4), (6, .int v5)]) (st2 := fun _ => []) (h2 := fun (q : Zr) => zput R h0 q) (fun q => ?_) (fun F23 kF23 => ?_)
        · obtain ⟨s22, e0⟩ : ∃ z, z = q := ⟨_, rfl⟩
          subst e0
          try dsimp only
          refine z_iinc (j := 6) (v := v5 + (1 : Int32)) (lv' := [(6, .int (v5 + (1 : Int32))), (0, zrv G.2.1 (some R)), (1, .int a1), (2, .int a2), (3, .int a3), (4, .int x1), (5, .int x4)]) dX6_partNode_194 rfl rfl (by decide) rfl ?_
          refine z_goto (tgt := 27) dX6_partNode_197 (by decide) ?_
          refine z_sb ?_
          refine z_at [1, 2, 3, 4, 5, 6, 0] rfl ?_
          exact bK9 (v5 + (1 : Int32), s22)
        · refine z_loop (lvf := fun (q : Int32 × Int32 × Zr) => [(0, zrv G.2.1 (some R)), (1, .int a1), (2, .int a2), (3, .int a3), (4, .int x1), (5, .int x4), (6, .int v5), (7, .int q.1), (8, .int q.2.1)]) (hf2 := fun (q : Int32 × Int32 × Zr) => zput R h0 q.2.2) (s0 := ((0 : Int32), (0 : Int32), s11)) (fun K24 bK24 rK24 q => ?_)
          obtain ⟨v19, v20, s21⟩ := q
          try dsimp only
          refine z_iload (j := 8) dX6_partNode_89 rfl ?_
          refine z_aload_n (j := 0) dX6_partNode_91 rfl rfl ?_
          refine z_rgetA (k := 44) (a := 33) hF dX6_partNode_92 (by decide) rfl zw820 rfl ?_
          refine z_iload (j := 6) dX6_partNode_95 rfl ?_
          refine z_as ?_
          refine z_riald hF dX6_partNode_97 (fun x25 => ?_)
          refine z_itb ?_
          refine z_icmp_ge (tgt := 194) dX6_partNode_98 (by decide) (fun _ => ?_) (fun _ => ?_)
          · refine z_sb ?_
            refine z_eq (rK24 _) ?_
            refine z_at [0, 1, 2, 3, 4, 5, 6] rfl ?_
            exact kF23 s21
          · refine z_aload_n (j := 0) dX6_partNode_101 rfl rfl ?_
            refine z_rgetA (k := 46) (a := 34) hF dX6_partNode_102 (by decide) rfl zw822 rfl ?_
            refine z_aload_n (j := 0) dX6_partNode_105 rfl rfl ?_
            refine z_rgetA (k := 43) (a := 32) hF dX6_partNode_106 (by decide) rfl zw819 rfl ?_
            refine z_iload (j := 6) dX6_partNode_109 rfl ?_
            refine z_as ?_
            refine z_riald hF dX6_partNode_111 (fun x26 => ?_)
            refine z_iload (j := 8) dX6_partNode_112 rfl ?_
            refine z_iadd dX6_partNode_114 ?_
            refine z_as ?_
            refine z_riald hF dX6_partNode_115 (fun x27 => ?_)
            refine z_istore (lv' := [(9, .int x27), (0, zrv G.2.1 (some R)), (1, .int a1), (2, .int a2), (3, .int a3), (4, .int x1), (5, .int x4), (6, .int v5), (7, .int v19), (8, .int v20)]) dX6_partNode_116 (by decide) rfl ?_
            refine z_iload_n (j := 3) dX6_partNode_118 rfl rfl ?_
            refine z_bipush (v := -3) dX6_partNode_119 (by decide) ?_
            refine z_as ?_
            refine z_join (pc2 := 150) (lv2 := fun (q : Int32) => [(0, zrv G.2.1 (some R)), (1, .int a1), (2, .int a2), (3, .int a3), (4, .int x1), (5, .int x4), (6, .int v5), (7, .int v19), (8, .int v20), (9, .int x27)]) (st2 := fun (q : Int32) => [.int q]) (h2 := fun (q : Int32) => zput R h0 s21) (fun q => ?_) (fun F29 kF29 => ?_)
            · obtain ⟨v28, e0⟩ : ∃ z, z = q := ⟨_, rfl⟩
              subst e0
              try dsimp only
              refine z_istore (lv' := [(10, .int v28), (0, zrv G.2.1 (some R)), (1, .int a1), (2, .int a2), (3, .int a3), (4, .int x1), (5, .int x4), (6, .int v5), (7, .int v19), (8, .int v20), (9, .int x27)]) dX6_partNode_150 (by decide) rfl ?_
              refine z_iload (j := 0) dX6_partNode_152 rfl ?_
              refine z_as ?_
              refine z_join (pc2 := 173) (lv2 := fun (q : Zr) => [(0, zrv G.2.1 (some R)), (1, .int a1), (2, .int a2), (3, .int a3), (4, .int x1), (5, .int x4), (6, .int v5), (8, .int v20), (9, .int x27), (10, .int v28)]) (st2 := fun (q : Zr) => []) (h2 := fun (q : Zr) => zput R h0 q) (fun q => ?_) (fun F33 kF33 => ?_)
              · obtain ⟨s32, e0⟩ : ∃ z, z = q := ⟨_, rfl⟩
                subst e0
                try dsimp only
                refine z_iload (j := 9) dX6_partNode_173 rfl ?_
                refine z_istore (lv' := [(7, .int v28), (0, zrv G.2.1 (some R)), (1, .int a1), (2, .int a2), (3, .int a3), (4, .int x1), (5, .int x4), (6, .int v5), (8, .int v20), (9, .int x27), (10, .int v28)]) dX6_partNode_175 (by decide) rfl ?_
                refine z_iload (j := 10) dX6_partNode_177 rfl ?_
                refine z_as ?_
                refine z_join (pc2 := 188) (lv2 := fun (q : Zr) => [(0, zrv G.2.1 (some R)), (1, .int a1), (2, .int a2), (3, .int a3), (4, .int x1), (5, .int x4), (6, .int v5), (7, .int v28), (8, .int v20)]) (st2 := fun (q : Zr) => []) (h2 := fun (q : Zr) => zput R h0 q) (fun q => ?_) (fun F36 kF36 => ?_)
                · obtain ⟨s35, e0⟩ : ∃ z, z = q := ⟨_, rfl⟩
                  subst e0
                  try dsimp only
                  refine z_iinc (j := 8) (v := v20 + (1 : Int32)) (lv' := [(8, .int (v20 + (1 : Int32))), (0, zrv G.2.1 (some R)), (1, .int a1), (2, .int a2), (3, .int a3), (4, .int x1), (5, .int x4), (6, .int v5), (7, .int v28)]) dX6_partNode_188 rfl rfl (by decide) rfl ?_
                  refine z_goto (tgt := 89) dX6_partNode_191 (by decide) ?_
                  refine z_sb ?_
                  refine z_at [1, 2, 3, 4, 5, 6, 7, 8, 0] rfl ?_
                  exact bK24 (v28, v20 + (1 : Int32), s35)
                · refine z_itb ?_
                  refine z_if_eq (tgt := 188) dX6_partNode_179 (by decide) (fun _ => ?_) (fun _ => ?_)
                  · refine z_sb ?_
                    refine z_at [1, 2, 3, 4, 5, 6, 7, 0, 8] rfl ?_
                    exact kF36 s32
                  · refine z_aload_n (j := 1) dX6_partNode_182 rfl rfl ?_
                    refine z_iload (j := 9) dX6_partNode_183 rfl ?_
                    refine z_as ?_
                    refine z_callV (As := [.int x27]) (rest := []) (rv2 := fun (_ : Zr) => none) (h2 := fun (x : Zr) => zput R h0 x) dX6_partNode_185 vX6_addName (.inl zw1163) (by decide) zkl7 (zRrecv hF).1 (zRrecv hF).2 rfl rfl (by decide) (fun x hx => kX6_addName G R h0 hF s32 x27 hx) (fun s37 => ?_)
                    try dsimp only [Option.toList, List.cons_append, List.nil_append]
                    refine z_sb ?_
                    refine z_at [1, 2, 3, 4, 5, 6, 7, 0, 8] rfl ?_
                    exact kF36 s37
              · refine z_itb ?_
                refine z_if_eq (tgt := 173) dX6_partNode_154 (by decide) (fun _ => ?_) (fun _ => ?_)
                · refine z_sb ?_
                  refine z_at [1, 2, 3, 4, 5, 6, 7, 9, 10, 0] rfl ?_
                  exact kF33 s21
                · refine z_iload_n (j := 4) dX6_partNode_157 rfl rfl ?_
                  refine z_iconst (v := 5) dX6_partNode_158 (by decide) ?_
                  refine z_itb ?_
                  refine z_icmp_ne (tgt := 173) dX6_partNode_159 (by decide) (fun _ => ?_) (fun _ => ?_)
                  · refine z_iload (j := 8) dX6_partNode_162 rfl ?_
                    refine z_itb ?_
                    refine z_if_ne (tgt := 173) dX6_partNode_164 (by decide) (fun _ => ?_) (fun _ => ?_)
                    · refine z_aload_n (j := 1) dX6_partNode_167 rfl rfl ?_
                      refine z_iload (j := 5) dX6_partNode_168 rfl ?_
                      refine z_as ?_
                      refine z_callV (As := [.int x1]) (rest := []) (rv2 := fun (_ : Zr) => none) (h2 := fun (x : Zr) => zput R h0 x) dX6_partNode_170 vX6_beginRow (.inl zw1159) (by decide) zkl7 (zRrecv hF).1 (zRrecv hF).2 rfl rfl (by decide) (fun x hx => kX6_beginRow G R h0 hF s21 x1 hx) (fun s34 => ?_)
                      try dsimp only [Option.toList, List.cons_append, List.nil_append]
                      refine z_sb ?_
                      refine z_at [1, 2, 3, 4, 5, 6, 7, 9, 10, 0] rfl ?_
                      exact kF33 s34
                    · refine z_sb ?_
                      refine z_at [1, 2, 3, 4, 5, 6, 7, 9, 10, 0] rfl ?_
                      exact kF33 s21
                  · refine z_sb ?_
                    refine z_at [1, 2, 3, 4, 5, 6, 7, 9, 10, 0] rfl ?_
                    exact kF33 s21
            · refine z_itb ?_
              refine z_icmp_ne (tgt := 134) dX6_partNode_121 (by decide) (fun _ => ?_) (fun _ => ?_)
              · refine z_aload_n (j := 1) dX6_partNode_124 rfl rfl ?_
                refine z_rgetA (k := 56) (a := 43) hF dX6_partNode_125 (by decide) rfl zw832 rfl ?_
                refine z_iload (j := 0) dX6_partNode_128 rfl ?_
                refine z_as ?_
                refine z_rzald hF dX6_partNode_130 (fun x30 => ?_)
                refine z_goto (tgt := 150) dX6_partNode_131 (by decide) ?_
                refine z_sb ?_
                refine z_at [1, 2, 3, 4, 5, 6, 7, 8, 9, 0] rfl ?_
                exact kF29 x30
              · refine z_aload_n (j := 1) dX6_partNode_134 rfl rfl ?_
                refine z_rgetA (k := 51) (a := 39) hF dX6_partNode_135 (by decide) rfl zw827 rfl ?_
                refine z_iload (j := 0) dX6_partNode_138 rfl ?_
                refine z_as ?_
                refine z_riald hF dX6_partNode_140 (fun x31 => ?_)
                refine z_iload_n (j := 3) dX6_partNode_141 rfl rfl ?_
                refine z_itb ?_
                refine z_icmp_ne (tgt := 149) dX6_partNode_142 (by decide) (fun _ => ?_) (fun _ => ?_)
                · refine z_iconst (v := 1) dX6_partNode_145 (by decide) ?_
                  refine z_goto (tgt := 150) dX6_partNode_146 (by decide) ?_
                  refine z_sb ?_
                  refine z_at [1, 2, 3, 4, 5, 6, 7, 8, 9, 0] rfl ?_
                  exact kF29 (1 : Int32)
                · refine z_iconst (v := 0) dX6_partNode_149 (by decide) ?_
                  refine z_sb ?_
                  refine z_at [1, 2, 3, 4, 5, 6, 7, 8, 9, 0] rfl ?_
                  exact kF29 (0 : Int32)
      · refine z_itb ?_
        refine z_icmp_eq (tgt := 80) dX6_partNode_46 (by decide) (fun _ => ?_) (fun _ => ?_)
        · refine z_aload_n (j := 1) dX6_partNode_80 rfl rfl ?_
          refine z_iload (j := 5) dX6_partNode_81 rfl ?_
          refine z_as ?_
          refine z_callV (As := [.int x1]) (rest := []) (rv2 := fun (_ : Zr) => none) (h2 := fun (x : Zr) => zput R h0 x) dX6_partNode_83 vX6_beginRow (.inl zw1159) (by decide) zkl7 (zRrecv hF).1 (zRrecv hF).2 rfl rfl (by decide) (fun x hx => kX6_beginRow G R h0 hF s6 x1 hx) (fun s13 => ?_)
          try dsimp only [Option.toList, List.cons_append, List.nil_append]
          refine z_sb ?_
          refine z_at [1, 2, 3, 4, 5, 6, 7, 0] rfl ?_
          exact kF12 s13
        · refine z_iload_n (j := 4) dX6_partNode_49 rfl rfl ?_
          refine z_iconst (v := 4) dX6_partNode_50 (by decide) ?_
          refine z_itb ?_
          refine z_icmp_eq (tgt := 80) dX6_partNode_51 (by decide) (fun _ => ?_) (fun _ => ?_)
          · refine z_aload_n (j := 1) dX6_partNode_80 rfl rfl ?_
            refine z_iload (j := 5) dX6_partNode_81 rfl ?_
            refine z_as ?_
            refine z_callV (As := [.int x1]) (rest := []) (rv2 := fun (_ : Zr) => none) (h2 := fun (x : Zr) => zput R h0 x) dX6_partNode_83 vX6_beginRow (.inl zw1159) (by decide) zkl7 (zRrecv hF).1 (zRrecv hF).2 rfl rfl (by decide) (fun x hx => kX6_beginRow G R h0 hF s6 x1 hx) (fun s14 => ?_)
            try dsimp only [Option.toList, List.cons_append, List.nil_append]
            refine z_sb ?_
            refine z_at [1, 2, 3, 4, 5, 6, 7, 0] rfl ?_
            exact kF12 s14
          · refine z_iload_n (j := 4) dX6_partNode_54 rfl rfl ?_
            refine z_iconst (v := 3) dX6_partNode_55 (by decide) ?_
            refine z_itb ?_
            refine z_icmp_ne (tgt := 86) dX6_partNode_56 (by decide) (fun _ => ?_) (fun _ => ?_)
            · refine z_aload_n (j := 1) dX6_partNode_59 rfl rfl ?_
              refine z_rgetA (k := 51) (a := 39) hF dX6_partNode_60 (by decide) rfl zw827 rfl ?_
              refine z_aload_n (j := 1) dX6_partNode_63 rfl rfl ?_
              refine z_rgetA (k := 46) (a := 34) hF dX6_partNode_64 (by decide) rfl zw822 rfl ?_
              refine z_aload_n (j := 1) dX6_partNode_67 rfl rfl ?_
              refine z_rgetA (k := 43) (a := 32) hF dX6_partNode_68 (by decide) rfl zw819 rfl ?_
              refine z_iload (j := 7) dX6_partNode_71 rfl ?_
              refine z_as ?_
              refine z_riald hF dX6_partNode_73 (fun x15 => ?_)
              refine z_as ?_
              refine z_riald hF dX6_partNode_74 (fun x16 => ?_)
              refine z_as ?_
              refine z_riald hF dX6_partNode_75 (fun x17 => ?_)
              refine z_iload_n (j := 3) dX6_partNode_76 rfl rfl ?_
              refine z_itb ?_
              refine z_icmp_ne (tgt := 86) dX6_partNode_77 (by decide) (fun _ => ?_) (fun _ => ?_)
              · refine z_aload_n (j := 1) dX6_partNode_80 rfl rfl ?_
                refine z_iload (j := 5) dX6_partNode_81 rfl ?_
                refine z_as ?_
                refine z_callV (As := [.int x1]) (rest := []) (rv2 := fun (_ : Zr) => none) (h2 := fun (x : Zr) => zput R h0 x) dX6_partNode_83 vX6_beginRow (.inl zw1159) (by decide) zkl7 (zRrecv hF).1 (zRrecv hF).2 rfl rfl (by decide) (fun x hx => kX6_beginRow G R h0 hF s6 x1 hx) (fun s18 => ?_)
                try dsimp only [Option.toList, List.cons_append, List.nil_append]
                refine z_sb ?_
                refine z_at [1, 2, 3, 4, 5, 6, 7, 0] rfl ?_
                exact kF12 s18
              · refine z_sb ?_
                refine z_at [1, 2, 3, 4, 5, 6, 7, 0] rfl ?_
                exact kF12 s6
            · refine z_sb ?_
              refine z_at [1, 2, 3, 4, 5, 6, 7, 0] rfl ?_
              exact kF12 s6
