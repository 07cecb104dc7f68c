/-! the law -/
noncomputable def fL_law (c : Nat × Nat) (sc : Nat × (Nat → Int32)) (h : Zh) : Option (Int32 × Zh) :=
  (zmO h 6 8).bind fun ((r1, h2) : Option Nat × Zh) =>
  (zob h2 r1 7).bind fun p3 =>
  (fX5_init h2 (some p3)).bind fun h4 =>
  (zmO h4 6 8).bind fun ((r5, h6) : Option Nat × Zh) =>
  (zob h6 r5 7).bind fun p7 =>
  (fX5_init h6 (some p7)).bind fun h8 =>
  (zloop (fun ((v9, h10) : Int32 × Zh) =>
    (if (60 : Int32) ≤ v9 then
      some (.inr (.inl h10))
    else
      (fL_cell sc v9).bind fun x14 =>
      (fL_asked h10 r5 (x14 >>> ((6 : Int32) &&& 31))).bind fun ((x15, h16) : Int32 × Zh) =>
      if x15 = 0 then
        some (.inr (.inr ((0 : Int32), h16)))
      else
        (fL_act c h16 r1 x14).bind fun ((x17, h18) : Int32 × Zh) =>
        (fL_act c h18 r5 x14).bind fun ((x19, h20) : Int32 × Zh) =>
        if x17 = x19 then
          (zloop (fun (v21 : Int32) =>
            (if (6 : Int32) ≤ v21 then
              some (.inr (.inl ()))
            else
              (zob h20 r1 7).bind fun p24 =>
              (fX5_count h20 (some p24) v21).bind fun x25 =>
              (zob h20 r5 7).bind fun p26 =>
              (fX5_count h20 (some p26) v21).bind fun x27 =>
              if x25 = x27 then
                some (.inl (v21 + (1 : Int32)))
              else
                some (.inr (.inr ((0 : Int32), h20))) : Option (Int32 ⊕ (Unit ⊕ (Int32 × Zh))))) zFU (0 : Int32)).bind fun (q : (Unit ⊕ (Int32 × Zh))) => match q with
          | .inr t => some (.inr (.inr t))
          | .inl _ =>
            (fL_some (x14 >>> ((4 : Int32) &&& 31)) (6 : Int32)).bind fun x28 =>
            (fL_some (x14 >>> ((7 : Int32) &&& 31)) (40 : Int32)).bind fun x29 =>
            (zob h20 r1 7).bind fun p30 =>
            (fX5_price h20 (some p30) x28 x29).bind fun ((x31, h32) : Int32 × Zh) =>
            (zob h32 r5 7).bind fun p33 =>
            (fX5_price h32 (some p33) x28 x29).bind fun ((x34, h35) : Int32 × Zh) =>
            if x31 = x34 then
              if x31 < 0 then
                some (.inl (v9 + (1 : Int32), h35))
              else
                (zob h35 r1 7).bind fun p36 =>
                (fX5_both h35 (some p36) x28 x29).bind fun ((x37, h38) : Int32 × Zh) =>
                (zloop (fun ((v39, v40) : Int32 × Int32) =>
                  (if (6 : Int32) ≤ v40 then
                    some (.inr v39)
                  else
                    some (.inl (v39 + ((x37 >>> (v40 &&& 31)) &&& (1 : Int32)), v40 + (1 : Int32))) : Option ((Int32 × Int32) ⊕ Int32))) zFU ((0 : Int32), (0 : Int32))).bind fun (w41 : Int32) =>
                (zob h38 r1 7).bind fun p44 =>
                (fX5_told h38 (some p44) x28 (-1 : Int32) (0 : Int32)).bind fun x45 =>
                (zob h38 r1 7).bind fun p46 =>
                (fX5_shortest h38 (some p46) x29).bind fun x47 =>
                if (x45 + x47) < x31 then
                  some (.inr (.inr ((0 : Int32), h38)))
                else
                  if x31 < (x45 - w41) then
                    some (.inr (.inr ((0 : Int32), h38)))
                  else
                    if w41 ≤ x45 then
                      some (.inl (v9 + (1 : Int32), h38))
                    else
                      some (.inr (.inr ((0 : Int32), h38)))
            else
              some (.inr (.inr ((0 : Int32), h35)))
        else
          some (.inr (.inr ((0 : Int32), h20))) : Option ((Int32 × Zh) ⊕ (Zh ⊕ (Int32 × Zh))))) zFU ((0 : Int32), h8)).bind fun (q : (Zh ⊕ (Int32 × Zh))) => match q with
  | .inr t => some t
  | .inl h11 =>
    some ((1 : Int32), h11)
set_option maxRecDepth 100000 in
set_option maxHeartbeats 8000000 in
theorem kL_law (G : Zg) (c : Nat × Nat) (hc : c = G.2.2.2.2.2) (sc : Nat × (Nat → Int32)) (hsc : sc = G.1.2.2) (h : Zh) : zTT G x code 11 135 (some .boolean) (fun (x : Int32 × Zh) => some (.int x.1)) (fun (x : Int32 × Zh) => x.2) (fL_law c sc h) 0 [(0, zrv G.2.1 (some G.1.2.1))] [] h := by
  unfold fL_law
  refine z_newO dL_law_0 zkl6 zw59 zw60 zw44 (by decide +kernel) (fun r1 h2 => ?_)
  try dsimp only
  refine z_dup dL_law_3 (zcat1 _ _) ?_
  refine z_ob (fun p3 ep3 lp3 kp3 => ?_)
  refine z_callI (As := []) (rest := [zrv G.2.1 r1]) (h2 := fun (x : Zh) => x) dL_law_4 vX5_init (.inl zw61) (by decide) rfl (by rw [ep3]; rfl) (by simp [zcat1, zcI, zcJ]) (fun x hx => kX5_init G h2 (some p3) hx) (fun h4 => ?_)
  try dsimp only [Option.toList, List.cons_append, List.nil_append]
  refine z_astore_n (i := 1) (lv' := [(1, zrv G.2.1 r1), (0, zrv G.2.1 (some G.1.2.1))]) dL_law_7 rfl (by decide) rfl ?_
  refine z_newO dL_law_8 zkl6 zw59 zw60 zw44 (by decide +kernel) (fun r5 h6 => ?_)
  try dsimp only
  refine z_dup dL_law_11 (zcat1 _ _) ?_
  refine z_ob (fun p7 ep7 lp7 kp7 => ?_)
  refine z_callI (As := []) (rest := [zrv G.2.1 r5]) (h2 := fun (x : Zh) => x) dL_law_12 vX5_init (.inl zw61) (by decide) rfl (by rw [ep7]; rfl) (by simp [zcat1, zcI, zcJ]) (fun x hx => kX5_init G h6 (some p7) hx) (fun h8 => ?_)
  try dsimp only [Option.toList, List.cons_append, List.nil_append]
  refine z_astore_n (i := 2) (lv' := [(2, zrv G.2.1 r5), (1, zrv G.2.1 r1), (0, zrv G.2.1 (some G.1.2.1))]) dL_law_15 rfl (by decide) (by simp [zcat1, zcI, zcJ]) ?_
  refine z_iconst (v := 0) dL_law_16 (by decide) ?_
  refine z_istore_n (i := 3) (lv' := [(3, .int (0 : Int32)), (2, zrv G.2.1 r5), (1, zrv G.2.1 r1), (0, zrv G.2.1 (some G.1.2.1))]) dL_law_17 rfl (by decide) (by simp [zcat1, zcI, zcJ]) ?_
  refine z_at [3, 2, 1, 0] rfl ?_
  refine z_joinS (pc2 := 236) (lv2 := fun (q : Zh) => []) (st2 := fun _ => []) (h2 := fun (q : Zh) => q) (fun q => ?_) (fun _ => rfl) (fun F12 kF12 tF12 => ?_)
  · obtain ⟨h11, e0⟩ : ∃ z, z = q := ⟨_, rfl⟩
    subst e0
    try dsimp only
    refine z_iconst (v := 1) dL_law_236 (by decide) ?_
    exact z_iret dL_law_237 rfl rfl rfl rfl
  · refine z_loop (lvf := fun (q : Int32 × Zh) => [(0, zrv G.2.1 (some G.1.2.1)), (1, zrv G.2.1 r1), (2, zrv G.2.1 r5), (3, .int q.1)]) (hf2 := fun (q : Int32 × Zh) => q.2) (s0 := ((0 : Int32), h8)) (fun K13 bK13 rK13 q => ?_)
    obtain ⟨v9, h10⟩ := q
    try dsimp only
    refine z_iload_n (j := 3) dL_law_18 rfl rfl ?_
    refine z_bipush (v := 60) dL_law_19 (by decide) ?_
    refine z_itb ?_
    refine z_icmp_ge (tgt := 236) dL_law_21 (by decide) (fun _ => ?_) (fun _ => ?_)
    · refine z_sb ?_
      refine z_eq (rK13 _) ?_
      refine z_at [] rfl ?_
      exact kF12 h10
    · refine z_aload_n (j := 0) dL_law_24 rfl rfl ?_
      refine z_iload_n (j := 3) dL_law_25 rfl rfl ?_
      refine z_as ?_
      refine z_callS (As := [zrv G.2.1 (some G.1.2.1), .int v9]) (rest := []) (rv2 := fun (x : Int32) => some (.int x)) (h2 := fun (_ : Int32) => h10) dL_law_26 vL_cell (.inl zw305) (by decide) rfl rfl (by decide) (fun x hx => kL_cell G h10 sc hsc v9 hx) (fun x14 => ?_)
      try dsimp only [Option.toList, List.cons_append, List.nil_append]
      refine z_istore (i := 4) (lv' := [(4, .int x14), (0, zrv G.2.1 (some G.1.2.1)), (1, zrv G.2.1 r1), (2, zrv G.2.1 r5), (3, .int v9)]) dL_law_29 (by decide) rfl ?_
      refine z_aload_n (j := 3) dL_law_31 rfl rfl ?_
      refine z_iload (j := 0) dL_law_32 rfl ?_
      refine z_bipush (v := 6) dL_law_34 (by decide) ?_
      refine z_ishr dL_law_36 ?_
      refine z_as ?_
      refine z_callS (As := [zrv G.2.1 r5, .int (x14 >>> ((6 : Int32) &&& 31))]) (rest := []) (rv2 := fun (x : Int32 × Zh) => some (.int x.1)) (h2 := fun (x : Int32 × Zh) => x.2) dL_law_37 vL_asked (.inl zw644) (by decide) rfl rfl (by decide) (fun x hx => kL_asked G h10 r5 (x14 >>> ((6 : Int32) &&& 31)) hx) (fun x => ?_)
      obtain ⟨x15, h16⟩ := x
      try dsimp only [Option.toList, List.cons_append, List.nil_append]
      refine z_itb ?_
      refine z_if_eq (tgt := 58) dL_law_40 (by decide) (fun _ => ?_) (fun _ => ?_)
      · refine z_iconst (v := 0) dL_law_58 (by decide) ?_
        refine z_sb ?_
        refine z_eq (rK13 _) ?_
        refine z_eq (tF12 _) ?_
        exact z_iret dL_law_59 rfl rfl rfl rfl
      · refine z_aload_n (j := 2) dL_law_43 rfl rfl ?_
        refine z_iload (j := 0) dL_law_44 rfl ?_
        refine z_as ?_
        refine z_callS (As := [zrv G.2.1 r1, .int x14]) (rest := []) (rv2 := fun (x : Int32 × Zh) => some (.int x.1)) (h2 := fun (x : Int32 × Zh) => x.2) dL_law_46 vL_act (.inl zw313) (by decide) rfl rfl (by decide) (fun x hx => kL_act G c hc h16 r1 x14 hx) (fun x => ?_)
        obtain ⟨x17, h18⟩ := x
        try dsimp only [Option.toList, List.cons_append, List.nil_append]
        refine z_aload_n (j := 3) dL_law_49 rfl rfl ?_
        refine z_iload (j := 0) dL_law_50 rfl ?_
        refine z_as ?_
        refine z_callS (As := [zrv G.2.1 r5, .int x14]) (rest := [.int x17]) (rv2 := fun (x : Int32 × Zh) => some (.int x.1)) (h2 := fun (x : Int32 × Zh) => x.2) dL_law_52 vL_act (.inl zw313) (by decide) rfl rfl (by simp [zcat1, zcI, zcJ]) (fun x hx => kL_act G c hc h18 r5 x14 hx) (fun x => ?_)
        obtain ⟨x19, h20⟩ := x
        try dsimp only [Option.toList, List.cons_append, List.nil_append]
        refine z_itb ?_
        refine z_icmp_eq (tgt := 60) dL_law_55 (by decide) (fun _ => ?_) (fun _ => ?_)
        · refine z_iconst (v := 0) dL_law_60 (by decide) ?_
          refine z_istore (i := 5) (lv' := [(5, .int (0 : Int32)), (4, .int x14), (0, zrv G.2.1 (some G.1.2.1)), (1, zrv G.2.1 r1), (2, zrv G.2.1 r5), (3, .int v9)]) dL_law_61 (by decide) rfl ?_
          refine z_as ?_
          refine z_at [2, 3, 4, 5, 1, 0] rfl ?_
          refine z_joinS (pc2 := 93) (lv2 := fun (_ : Unit) => [(0, zrv G.2.1 (some G.1.2.1)), (1, zrv G.2.1 r1), (2, zrv G.2.1 r5), (3, .int v9), (4, .int x14)]) (st2 := fun _ => []) (h2 := fun (_ : Unit) => h20) (fun q => ?_) (fun _ => (Option.bind_some _ _).trans ((rK13 _).trans (tF12 _))) (fun F22 kF22 tF22 => ?_)
          · try dsimp only
            refine z_iload (j := 4) dL_law_93 rfl ?_
            refine z_iconst (v := 4) dL_law_95 (by decide) ?_
            refine z_ishr dL_law_96 ?_
            refine z_bipush (v := 6) dL_law_97 (by decide) ?_
            refine z_as ?_
            refine z_callS (As := [.int (x14 >>> ((4 : Int32) &&& 31)), .int (6 : Int32)]) (rest := []) (rv2 := fun (x : Int32) => some (.int x)) (h2 := fun (_ : Int32) => h20) dL_law_99 vL_some (.inl zw309) (by decide) rfl rfl (by decide) (fun x hx => kL_some G (h20) (x14 >>> ((4 : Int32) &&& 31)) (6 : Int32) hx) (fun x28 => ?_)
            try dsimp only [Option.toList, List.cons_append, List.nil_append]
            refine z_istore (i := 5) (lv' := [(5, .int x28), (0, zrv G.2.1 (some G.1.2.1)), (1, zrv G.2.1 r1), (2, zrv G.2.1 r5), (3, .int v9), (4, .int x14)]) dL_law_102 (by decide) rfl ?_
            refine z_iload (j := 5) dL_law_104 rfl ?_
            refine z_bipush (v := 7) dL_law_106 (by decide) ?_
            refine z_ishr dL_law_108 ?_
            refine z_bipush (v := 40) dL_law_109 (by decide) ?_
            refine z_as ?_
            refine z_callS (As := [.int (x14 >>> ((7 : Int32) &&& 31)), .int (40 : Int32)]) (rest := []) (rv2 := fun (x : Int32) => some (.int x)) (h2 := fun (_ : Int32) => h20) dL_law_111 vL_some (.inl zw309) (by decide) rfl rfl (by decide) (fun x hx => kL_some G (h20) (x14 >>> ((7 : Int32) &&& 31)) (40 : Int32) hx) (fun x29 => ?_)
            try dsimp only [Option.toList, List.cons_append, List.nil_append]
            refine z_istore (i := 6) (lv' := [(6, .int x29), (5, .int x28), (0, zrv G.2.1 (some G.1.2.1)), (1, zrv G.2.1 r1), (2, zrv G.2.1 r5), (3, .int v9), (4, .int x14)]) dL_law_114 (by decide) rfl ?_
            refine z_aload_n (j := 3) dL_law_116 rfl rfl ?_
            refine z_iload (j := 1) dL_law_117 rfl ?_
            refine z_iload (j := 0) dL_law_119 rfl ?_
            refine z_as ?_
            refine z_ob (fun p30 ep30 lp30 kp30 => ?_)
            refine z_as ?_
            refine z_callV (As := [.int x28, .int x29]) (rest := []) (rv2 := fun (x : Int32 × Zh) => some (.int x.1)) (h2 := fun (x : Int32 × Zh) => x.2) dL_law_121 vX5_price (.inl zw186) (by decide) zkl6 lp30 kp30 rfl (by rw [ep30]; rfl) (by decide) (fun x hx => kX5_price G h20 (some p30) x28 x29 hx) (fun x => ?_)
            obtain ⟨x31, h32⟩ := x
            try dsimp only [Option.toList, List.cons_append, List.nil_append]
            refine z_istore (i := 7) (lv' := [(7, .int x31), (6, .int x29), (5, .int x28), (0, zrv G.2.1 (some G.1.2.1)), (1, zrv G.2.1 r1), (2, zrv G.2.1 r5), (3, .int v9), (4, .int x14)]) dL_law_124 (by decide) rfl ?_
            refine z_iload (j := 0) dL_law_126 rfl ?_
            refine z_aload_n (j := 5) dL_law_128 rfl rfl ?_
            refine z_iload (j := 2) dL_law_129 rfl ?_
            refine z_iload (j := 1) dL_law_131 rfl ?_
            refine z_as ?_
            refine z_ob (fun p33 ep33 lp33 kp33 => ?_)
            refine z_as ?_
            refine z_callV (As := [.int x28, .int x29]) (rest := [.int x31]) (rv2 := fun (x : Int32 × Zh) => some (.int x.1)) (h2 := fun (x : Int32 × Zh) => x.2) dL_law_133 vX5_price (.inl zw186) (by decide) zkl6 lp33 kp33 rfl (by rw [ep33]; rfl) (by simp [zcat1, zcI, zcJ]) (fun x hx => kX5_price G h32 (some p33) x28 x29 hx) (fun x => ?_)
            obtain ⟨x34, h35⟩ := x
            try dsimp only [Option.toList, List.cons_append, List.nil_append]
            refine z_itb ?_
            refine z_icmp_eq (tgt := 141) dL_law_136 (by decide) (fun _ => ?_) (fun _ => ?_)
            · refine z_iload (j := 0) dL_law_141 rfl ?_
              refine z_itb ?_
              refine z_if_lt (tgt := 230) dL_law_143 (by decide) (fun _ => ?_) (fun _ => ?_)
              · refine z_iinc (j := 6) (v := v9 + (1 : Int32)) (lv' := [(3, .int (v9 + (1 : Int32))), (7, .int x31), (6, .int x29), (5, .int x28), (0, zrv G.2.1 (some G.1.2.1)), (1, zrv G.2.1 r1), (2, zrv G.2.1 r5), (4, .int x14)]) dL_law_230 rfl rfl (by decide) (by simp [zcat1, zcI, zcJ]) ?_
                refine z_goto (tgt := 18) dL_law_233 (by decide) ?_
                refine z_sb ?_
                refine z_at [4, 5, 6, 0] rfl ?_
                exact bK13 (v9 + (1 : Int32), h35)
              · refine z_aload_n (j := 4) dL_law_146 rfl rfl ?_
                refine z_iload (j := 2) dL_law_147 rfl ?_
                refine z_iload (j := 1) dL_law_149 rfl ?_
                refine z_as ?_
                refine z_ob (fun p36 ep36 lp36 kp36 => ?_)
                refine z_as ?_
                refine z_callV (As := [.int x28, .int x29]) (rest := []) (rv2 := fun (x : Int32 × Zh) => some (.int x.1)) (h2 := fun (x : Int32 × Zh) => x.2) dL_law_151 vX5_both (.inl zw257) (by decide) zkl6 lp36 kp36 rfl (by rw [ep36]; rfl) (by decide) (fun x hx => kX5_both G h35 (some p36) x28 x29 hx) (fun x => ?_)
                obtain ⟨x37, h38⟩ := x
                try dsimp only [Option.toList, List.cons_append, List.nil_append]
                refine z_istore (i := 8) (lv' := [(8, .int x37), (7, .int x31), (6, .int x29), (5, .int x28), (0, zrv G.2.1 (some G.1.2.1)), (1, zrv G.2.1 r1), (2, zrv G.2.1 r5), (3, .int v9), (4, .int x14)]) dL_law_154 (by decide) rfl ?_
                refine z_iconst (v := 0) dL_law_156 (by decide) ?_
                refine z_istore (i := 9) (lv' := [(9, .int (0 : Int32)), (8, .int x37), (7, .int x31), (6, .int x29), (5, .int x28), (0, zrv G.2.1 (some G.1.2.1)), (1, zrv G.2.1 r1), (2, zrv G.2.1 r5), (3, .int v9), (4, .int x14)]) dL_law_157 (by decide) rfl ?_
                refine z_iconst (v := 0) dL_law_159 (by decide) ?_
                refine z_istore (i := 10) (lv' := [(10, .int (0 : Int32)), (9, .int (0 : Int32)), (8, .int x37), (7, .int x31), (6, .int x29), (5, .int x28), (0, zrv G.2.1 (some G.1.2.1)), (1, zrv G.2.1 r1), (2, zrv G.2.1 r5), (3, .int v9), (4, .int x14)]) dL_law_160 (by decide) rfl ?_
                refine z_as ?_
                refine z_at [6, 7, 8, 9, 5, 4, 3, 2, 1, 0] rfl ?_
                refine z_join (pc2 := 187) (lv2 := fun (q : Int32) => [(0, zrv G.2.1 (some G.1.2.1)), (1, zrv G.2.1 r1), (2, zrv G.2.1 r5), (3, .int v9), (5, .int x28), (6, .int x29), (7, .int x31), (9, .int q)]) (st2 := fun _ => []) (h2 := fun (q : Int32) => h38) (fun q => ?_) (fun F42 kF42 => ?_)
                · obtain ⟨w41, e0⟩ : ∃ z, z = q := ⟨_, rfl⟩
                  subst e0
                  try dsimp only
                  refine z_aload_n (j := 1) dL_law_187 rfl rfl ?_
                  refine z_iload (j := 4) dL_law_188 rfl ?_
                  refine z_iconst (v := -1) dL_law_190 (by decide) ?_
                  refine z_iconst (v := 0) dL_law_191 (by decide) ?_
                  refine z_as ?_
                  refine z_ob (fun p44 ep44 lp44 kp44 => ?_)
                  refine z_as ?_
                  refine z_callV (As := [.int x28, .int (-1 : Int32), .int (0 : Int32)]) (rest := []) (rv2 := fun (x : Int32) => some (.int x)) (h2 := fun (_ : Int32) => h38) dL_law_192 vX5_told (.inl zw173) (by decide) zkl6 lp44 kp44 rfl (by rw [ep44]; rfl) (by decide) (fun x hx => kX5_told G h38 (some p44) x28 (-1 : Int32) (0 : Int32) hx) (fun x45 => ?_)
                  try dsimp only [Option.toList, List.cons_append, List.nil_append]
                  refine z_istore (i := 10) (lv' := [(10, .int x45), (0, zrv G.2.1 (some G.1.2.1)), (1, zrv G.2.1 r1), (2, zrv G.2.1 r5), (3, .int v9), (5, .int x28), (6, .int x29), (7, .int x31), (9, .int w41)]) dL_law_195 (by decide) rfl ?_
                  refine z_iload (j := 7) dL_law_197 rfl ?_
                  refine z_iload (j := 0) dL_law_199 rfl ?_
                  refine z_aload_n (j := 2) dL_law_201 rfl rfl ?_
                  refine z_iload (j := 6) dL_law_202 rfl ?_
                  refine z_as ?_
                  refine z_ob (fun p46 ep46 lp46 kp46 => ?_)
                  refine z_as ?_
                  refine z_callV (As := [.int x29]) (rest := [.int x45, .int x31]) (rv2 := fun (x : Int32) => some (.int x)) (h2 := fun (_ : Int32) => h38) dL_law_204 vX5_shortest (.inl zw261) (by decide) zkl6 lp46 kp46 rfl (by rw [ep46]; rfl) (by simp [zcat1, zcI, zcJ]) (fun x hx => kX5_shortest G h38 (some p46) x29 hx) (fun x47 => ?_)
                  try dsimp only [Option.toList, List.cons_append, List.nil_append]
                  refine z_iadd dL_law_207 ?_
                  refine z_itb ?_
                  refine z_icmp_gt (tgt := 228) dL_law_208 (by decide) (fun _ => ?_) (fun _ => ?_)
                  · refine z_iconst (v := 0) dL_law_228 (by decide) ?_
                    refine z_sb ?_
                    refine z_eq (rK13 _) ?_
                    refine z_eq (tF12 _) ?_
                    exact z_iret dL_law_229 rfl rfl rfl rfl
                  · refine z_iload (j := 7) dL_law_211 rfl ?_
                    refine z_iload (j := 0) dL_law_213 rfl ?_
                    refine z_iload (j := 8) dL_law_215 rfl ?_
                    refine z_isub dL_law_217 ?_
                    refine z_itb ?_
                    refine z_icmp_lt (tgt := 228) dL_law_218 (by decide) (fun _ => ?_) (fun _ => ?_)
                    · refine z_iconst (v := 0) dL_law_228 (by decide) ?_
                      refine z_sb ?_
                      refine z_eq (rK13 _) ?_
                      refine z_eq (tF12 _) ?_
                      exact z_iret dL_law_229 rfl rfl rfl rfl
                    · refine z_iload (j := 8) dL_law_221 rfl ?_
                      refine z_iload (j := 0) dL_law_223 rfl ?_
                      refine z_itb ?_
                      refine z_icmp_le (tgt := 230) dL_law_225 (by decide) (fun _ => ?_) (fun _ => ?_)
                      · refine z_iinc (j := 4) (v := v9 + (1 : Int32)) (lv' := [(3, .int (v9 + (1 : Int32))), (10, .int x45), (0, zrv G.2.1 (some G.1.2.1)), (1, zrv G.2.1 r1), (2, zrv G.2.1 r5), (5, .int x28), (6, .int x29), (7, .int x31), (9, .int w41)]) dL_law_230 rfl rfl (by decide) (by simp [zcat1, zcI, zcJ]) ?_
                        refine z_goto (tgt := 18) dL_law_233 (by decide) ?_
                        refine z_sb ?_
                        refine z_at [2, 3, 4, 0] rfl ?_
                        exact bK13 (v9 + (1 : Int32), h38)
                      · refine z_iconst (v := 0) dL_law_228 (by decide) ?_
                        refine z_sb ?_
                        refine z_eq (rK13 _) ?_
                        refine z_eq (tF12 _) ?_
                        exact z_iret dL_law_229 rfl rfl rfl rfl
                · refine z_loop (lvf := fun (q : Int32 × Int32) => [(0, zrv G.2.1 (some G.1.2.1)), (1, zrv G.2.1 r1), (2, zrv G.2.1 r5), (3, .int v9), (5, .int x28), (6, .int x29), (7, .int x31), (8, .int x37), (9, .int q.1), (10, .int q.2)]) (hf2 := fun (q : Int32 × Int32) => h38) (s0 := ((0 : Int32), (0 : Int32))) (fun K43 bK43 rK43 q => ?_)
                  obtain ⟨v39, v40⟩ := q
                  try dsimp only
                  refine z_iload (j := 9) dL_law_162 rfl ?_
                  refine z_bipush (v := 6) dL_law_164 (by decide) ?_
                  refine z_itb ?_
                  refine z_icmp_ge (tgt := 187) dL_law_166 (by decide) (fun _ => ?_) (fun _ => ?_)
                  · refine z_sb ?_
                    refine z_eq (rK43 _) ?_
                    refine z_at [0, 1, 2, 3, 4, 5, 6, 8] rfl ?_
                    exact kF42 v39
                  · refine z_iload (j := 8) dL_law_169 rfl ?_
                    refine z_iload (j := 7) dL_law_171 rfl ?_
                    refine z_iload (j := 9) dL_law_173 rfl ?_
                    refine z_ishr dL_law_175 ?_
                    refine z_iconst (v := 1) dL_law_176 (by decide) ?_
                    refine z_iand dL_law_177 ?_
                    refine z_iadd dL_law_178 ?_
                    refine z_istore (i := 9) (lv' := [(9, .int (v39 + ((x37 >>> (v40 &&& 31)) &&& (1 : Int32)))), (0, zrv G.2.1 (some G.1.2.1)), (1, zrv G.2.1 r1), (2, zrv G.2.1 r5), (3, .int v9), (5, .int x28), (6, .int x29), (7, .int x31), (8, .int x37), (10, .int v40)]) dL_law_179 (by decide) rfl ?_
                    refine z_iinc (j := 9) (v := v40 + (1 : Int32)) (lv' := [(10, .int (v40 + (1 : Int32))), (9, .int (v39 + ((x37 >>> (v40 &&& 31)) &&& (1 : Int32)))), (0, zrv G.2.1 (some G.1.2.1)), (1, zrv G.2.1 r1), (2, zrv G.2.1 r5), (3, .int v9), (5, .int x28), (6, .int x29), (7, .int x31), (8, .int x37)]) dL_law_181 rfl rfl (by decide) rfl ?_
                    refine z_goto (tgt := 162) dL_law_184 (by decide) ?_
                    refine z_sb ?_
                    refine z_at [2, 3, 4, 5, 6, 7, 8, 9, 1, 0] rfl ?_
                    exact bK43 (v39 + ((x37 >>> (v40 &&& 31)) &&& (1 : Int32)), v40 + (1 : Int32))
            · refine z_iconst (v := 0) dL_law_139 (by decide) ?_
              refine z_sb ?_
              refine z_eq (rK13 _) ?_
              refine z_eq (tF12 _) ?_
              exact z_iret dL_law_140 rfl rfl rfl rfl
          · refine z_loop (lvf := fun (q : Int32) => [(0, zrv G.2.1 (some G.1.2.1)), (1, zrv G.2.1 r1), (2, zrv G.2.1 r5), (3, .int v9), (4, .int x14), (5, .int q)]) (hf2 := fun (_ : Int32) => h20) (s0 := (0 : Int32)) (fun K23 bK23 rK23 q => ?_)
            obtain ⟨v21, e0⟩ : ∃ z, z = q := ⟨_, rfl⟩
            subst e0
            try dsimp only
            refine z_iload (j := 5) dL_law_63 rfl ?_
            refine z_bipush (v := 6) dL_law_65 (by decide) ?_
            refine z_itb ?_
            refine z_icmp_ge (tgt := 93) dL_law_67 (by decide) (fun _ => ?_) (fun _ => ?_)
            · refine z_sb ?_
              refine z_eq (rK23 _) ?_
              refine z_at [0, 1, 2, 3, 4] rfl ?_
              exact kF22 ()
            · refine z_aload_n (j := 1) dL_law_70 rfl rfl ?_
              refine z_iload (j := 5) dL_law_71 rfl ?_
              refine z_as ?_
              refine z_ob (fun p24 ep24 lp24 kp24 => ?_)
              refine z_as ?_
              refine z_callV (As := [.int v21]) (rest := []) (rv2 := fun (x : Int32) => some (.int x)) (h2 := fun (_ : Int32) => h20) dL_law_73 vX5_count (.inl zw265) (by decide) zkl6 lp24 kp24 rfl (by rw [ep24]; rfl) (by decide) (fun x hx => kX5_count G h20 (some p24) v21 hx) (fun x25 => ?_)
              try dsimp only [Option.toList, List.cons_append, List.nil_append]
              refine z_aload_n (j := 2) dL_law_76 rfl rfl ?_
              refine z_iload (j := 5) dL_law_77 rfl ?_
              refine z_as ?_
              refine z_ob (fun p26 ep26 lp26 kp26 => ?_)
              refine z_as ?_
              refine z_callV (As := [.int v21]) (rest := [.int x25]) (rv2 := fun (x : Int32) => some (.int x)) (h2 := fun (_ : Int32) => h20) dL_law_79 vX5_count (.inl zw265) (by decide) zkl6 lp26 kp26 rfl (by rw [ep26]; rfl) (by simp [zcat1, zcI, zcJ]) (fun x hx => kX5_count G h20 (some p26) v21 hx) (fun x27 => ?_)
              try dsimp only [Option.toList, List.cons_append, List.nil_append]
              refine z_itb ?_
              refine z_icmp_eq (tgt := 87) dL_law_82 (by decide) (fun _ => ?_) (fun _ => ?_)
              · refine z_iinc (j := 5) (v := v21 + (1 : Int32)) (lv' := [(5, .int (v21 + (1 : Int32))), (0, zrv G.2.1 (some G.1.2.1)), (1, zrv G.2.1 r1), (2, zrv G.2.1 r5), (3, .int v9), (4, .int x14)]) dL_law_87 rfl rfl (by decide) rfl ?_
                refine z_goto (tgt := 63) dL_law_90 (by decide) ?_
                refine z_sb ?_
                refine z_at [1, 2, 3, 4, 5, 0] rfl ?_
                exact bK23 (v21 + (1 : Int32))
              · refine z_iconst (v := 0) dL_law_85 (by decide) ?_
                refine z_sb ?_
                refine z_eq (rK23 _) ?_
                refine z_eq (tF22 _) ?_
                exact z_iret dL_law_86 rfl rfl rfl rfl
        · refine z_iconst (v := 0) dL_law_58 (by decide) ?_
          refine z_sb ?_
          refine z_eq (rK13 _) ?_
          refine z_eq (tF12 _) ?_
          exact z_iret dL_law_59 rfl rfl rfl rfl
