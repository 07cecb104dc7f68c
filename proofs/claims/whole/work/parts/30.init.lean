/-! the reference's constructor, the law -/
def fX6_init (h : Zh) (this : Option Nat) : Option (Zh) :=
  (zob h this 8).bind fun _ =>
  (zmA h 0 (24 : Int32)).bind fun ((r1, h2) : Option Nat × Zh) =>
  (zgP h2 this 7 1 r1).bind fun h3 =>
  (zmA h3 1 (24 : Int32)).bind fun ((r4, h5) : Option Nat × Zh) =>
  (zgP h5 this 7 2 r4).bind fun h6 =>
  (zmA h6 0 (144 : Int32)).bind fun ((r7, h8) : Option Nat × Zh) =>
  (zgP h8 this 7 3 r7).bind fun h9 =>
  (zmA h9 0 (144 : Int32)).bind fun ((r10, h11) : Option Nat × Zh) =>
  (zgP h11 this 7 4 r10).bind fun h12 =>
  (zmA h12 0 (144 : Int32)).bind fun ((r13, h14) : Option Nat × Zh) =>
  (zgP h14 this 7 5 r13).bind fun h15 =>
  (zmA h15 0 (144 : Int32)).bind fun ((r16, h17) : Option Nat × Zh) =>
  (zgP h17 this 7 6 r16).bind fun h18 =>
  (zmA h18 0 (200 : Int32)).bind fun ((r19, h20) : Option Nat × Zh) =>
  (zgP h20 this 7 8 r19).bind fun h21 =>
  (zmA h21 0 (200 : Int32)).bind fun ((r22, h23) : Option Nat × Zh) =>
  (zgP h23 this 7 9 r22).bind fun h24 =>
  (zmA h24 0 (200 : Int32)).bind fun ((r25, h26) : Option Nat × Zh) =>
  (zgP h26 this 7 10 r25).bind fun h27 =>
  (zmA h27 0 (200 : Int32)).bind fun ((r28, h29) : Option Nat × Zh) =>
  (zgP h29 this 7 11 r28).bind fun h30 =>
  (zmA h30 0 (200 : Int32)).bind fun ((r31, h32) : Option Nat × Zh) =>
  (zgP h32 this 7 12 r31).bind fun h33 =>
  (zmA h33 0 (12000 : Int32)).bind fun ((r34, h35) : Option Nat × Zh) =>
  (zgP h35 this 7 14 r34).bind fun h36 =>
  (zmA h36 0 (200 : Int32)).bind fun ((r37, h38) : Option Nat × Zh) =>
  (zgP h38 this 7 16 r37).bind fun h39 =>
  (zmA h39 0 (200 : Int32)).bind fun ((r40, h41) : Option Nat × Zh) =>
  (zgP h41 this 7 17 r40).bind fun h42 =>
  (zmA h42 0 (200 : Int32)).bind fun ((r43, h44) : Option Nat × Zh) =>
  (zgP h44 this 7 18 r43).bind fun h45 =>
  (zmA h45 0 (200 : Int32)).bind fun ((r46, h47) : Option Nat × Zh) =>
  (zgP h47 this 7 19 r46).bind fun h48 =>
  (zmA h48 0 (20000 : Int32)).bind fun ((r49, h50) : Option Nat × Zh) =>
  (zgP h50 this 7 21 r49).bind fun h51 =>
  (zmA h51 0 (200 : Int32)).bind fun ((r52, h53) : Option Nat × Zh) =>
  (zgP h53 this 7 22 r52).bind fun h54 =>
  (zmA h54 0 (400 : Int32)).bind fun ((r55, h56) : Option Nat × Zh) =>
  (zgP h56 this 7 23 r55).bind fun h57 =>
  (zmA h57 0 (400 : Int32)).bind fun ((r58, h59) : Option Nat × Zh) =>
  (zgP h59 this 7 24 r58).bind fun h60 =>
  (zmA h60 0 (200 : Int32)).bind fun ((r61, h62) : Option Nat × Zh) =>
  (zgP h62 this 7 26 r61).bind fun h63 =>
  (zmA h63 0 (200 : Int32)).bind fun ((r64, h65) : Option Nat × Zh) =>
  (zgP h65 this 7 27 r64).bind fun h66 =>
  (zmA h66 0 (200 : Int32)).bind fun ((r67, h68) : Option Nat × Zh) =>
  (zgP h68 this 7 29 r67).bind fun h69 =>
  (zmA h69 0 (200 : Int32)).bind fun ((r70, h71) : Option Nat × Zh) =>
  (zgP h71 this 7 30 r70).bind fun h72 =>
  (zmA h72 0 (6 : Int32)).bind fun ((r73, h74) : Option Nat × Zh) =>
  (zgP h74 this 7 32 r73).bind fun h75 =>
  (zmA h75 0 (3904 : Int32)).bind fun ((r76, h77) : Option Nat × Zh) =>
  (zgP h77 this 7 33 r76).bind fun h78 =>
  (zmA h78 0 (64 : Int32)).bind fun ((r79, h80) : Option Nat × Zh) =>
  (zgP h80 this 7 34 r79).bind fun h81 =>
  (zmA h81 0 (64 : Int32)).bind fun ((r82, h83) : Option Nat × Zh) =>
  (zgP h83 this 7 35 r82).bind fun h84 =>
  (zmA h84 0 (64 : Int32)).bind fun ((r85, h86) : Option Nat × Zh) =>
  (zgP h86 this 7 36 r85).bind fun h87 =>
  (zmA h87 0 (64 : Int32)).bind fun ((r88, h89) : Option Nat × Zh) =>
  (zgP h89 this 7 37 r88).bind fun h90 =>
  (zmA h90 0 (200 : Int32)).bind fun ((r91, h92) : Option Nat × Zh) =>
  (zgP h92 this 7 40 r91).bind fun h93 =>
  (zmA h93 0 (200 : Int32)).bind fun ((r94, h95) : Option Nat × Zh) =>
  (zgP h95 this 7 41 r94).bind fun h96 =>
  (zmA h96 0 (12000 : Int32)).bind fun ((r97, h98) : Option Nat × Zh) =>
  (zgP h98 this 7 43 r97).bind fun h99 =>
  (zmA h99 0 (12000 : Int32)).bind fun ((r100, h101) : Option Nat × Zh) =>
  (zgP h101 this 7 44 r100).bind fun h102 =>
  (zmA h102 0 (12000 : Int32)).bind fun ((r103, h104) : Option Nat × Zh) =>
  (zgP h104 this 7 46 r103).bind fun h105 =>
  (zmA h105 1 (144 : Int32)).bind fun ((r106, h107) : Option Nat × Zh) =>
  (zgP h107 this 7 47 r106).bind fun h108 =>
  (zmA h108 1 (12 : Int32)).bind fun ((r109, h110) : Option Nat × Zh) =>
  (zgP h110 this 7 48 r109).bind fun h111 =>
  (zmA h111 1 (12 : Int32)).bind fun ((r112, h113) : Option Nat × Zh) =>
  (zgP h113 this 7 49 r112).bind fun h114 =>
  (zmA h114 1 (12 : Int32)).bind fun ((r115, h116) : Option Nat × Zh) =>
  (zgP h116 this 7 50 r115).bind fun h117 =>
  (zmA h117 0 (12 : Int32)).bind fun ((r118, h119) : Option Nat × Zh) =>
  (zgP h119 this 7 51 r118).bind fun h120 =>
  (zmA h120 0 (12 : Int32)).bind fun ((r121, h122) : Option Nat × Zh) =>
  (zgP h122 this 7 53 r121).bind fun h123 =>
  (zmA h123 1 (144 : Int32)).bind fun ((r124, h125) : Option Nat × Zh) =>
  (zgP h125 this 7 54 r124).bind fun h126 =>
  (zmA h126 1 (144 : Int32)).bind fun ((r127, h128) : Option Nat × Zh) =>
  (zgP h128 this 7 55 r127).bind fun h129 =>
  (zmA h129 1 (12 : Int32)).bind fun ((r130, h131) : Option Nat × Zh) =>
  (zgP h131 this 7 56 r130).bind fun h132 =>
  (zmA h132 1 (12 : Int32)).bind fun ((r133, h134) : Option Nat × Zh) =>
  (zgP h134 this 7 57 r133).bind fun h135 =>
  (zmA h135 0 (14 : Int32)).bind fun ((r136, h137) : Option Nat × Zh) =>
  (zgP h137 this 7 58 r136).bind fun h138 =>
  (zmA h138 0 (144 : Int32)).bind fun ((r139, h140) : Option Nat × Zh) =>
  (zgP h140 this 7 63 r139).bind fun h141 =>
  (zmA h141 1 (144 : Int32)).bind fun ((r142, h143) : Option Nat × Zh) =>
  (zgP h143 this 7 64 r142).bind fun h144 =>
  some h144
set_option maxRecDepth 100000 in
set_option maxHeartbeats 4000000 in
theorem kX6_init (G : Zg) (h : Zh) (this : Option Nat) {x : Zh} (hx : fX6_init h this = some x) : zCt G yX6_init cX6_init 1 (Option.none : Option Jvm.ClassFile.FieldType) 1 [zrv G.2.1 this] h none x := by
  refine z_met (a := x) (rvf := fun (_ : Zh) => none) (hff := fun (x : Zh) => x) (lv := [(0, zrv G.2.1 this)]) (by decide +kernel) (by simp [lg_sl, zcat1, zcI, zcJ]) (by simp [lv_args, zcat1, zcI, zcJ]) ?_ hx
  unfold fX6_init
  refine z_aload_n (j := 0) dX6_init_0 rfl rfl ?_
  refine z_objI2 dX6_init_1 zw775 zw123 zw124 (by decide) (by decide) (fun _ => ?_)
  refine z_aload_n (j := 0) dX6_init_4 rfl rfl ?_
  refine z_bipush (v := 24) dX6_init_5 (by decide) ?_
  refine z_newA (t := 0) dX6_init_7 (.inl ⟨rfl, rfl⟩) zw159 (fun r1 h2 => ?_)
  try dsimp only
  refine z_putP (k := 1) dX6_init_9 zkl7 (by decide) (.inl zw777) (.inr ⟨rfl, rfl, rfl, zw777⟩) (fun a => by cases a <;> exact ⟨rfl, rfl⟩) rfl (fun h3 => ?_)
  refine z_aload_n (j := 0) dX6_init_12 rfl rfl ?_
  refine z_bipush (v := 24) dX6_init_13 (by decide) ?_
  refine z_newA (t := 1) dX6_init_15 (.inr ⟨rfl, rfl⟩) zw972 (fun r4 h5 => ?_)
  try dsimp only
  refine z_putP (k := 2) dX6_init_17 zkl7 (by decide) (.inl zw778) (.inr ⟨rfl, rfl, rfl, zw778⟩) (fun a => by cases a <;> exact ⟨rfl, rfl⟩) rfl (fun h6 => ?_)
  refine z_aload_n (j := 0) dX6_init_20 rfl rfl ?_
  refine z_sipush (v := 144) dX6_init_21 (by decide) ?_
  refine z_newA (t := 0) dX6_init_24 (.inl ⟨rfl, rfl⟩) zw159 (fun r7 h8 => ?_)
  try dsimp only
  refine z_putP (k := 3) dX6_init_26 zkl7 (by decide) (.inl zw779) (.inr ⟨rfl, rfl, rfl, zw779⟩) (fun a => by cases a <;> exact ⟨rfl, rfl⟩) rfl (fun h9 => ?_)
  refine z_aload_n (j := 0) dX6_init_29 rfl rfl ?_
  refine z_sipush (v := 144) dX6_init_30 (by decide) ?_
  refine z_newA (t := 0) dX6_init_33 (.inl ⟨rfl, rfl⟩) zw159 (fun r10 h11 => ?_)
  try dsimp only
  refine z_putP (k := 4) dX6_init_35 zkl7 (by decide) (.inl zw780) (.inr ⟨rfl, rfl, rfl, zw780⟩) (fun a => by cases a <;> exact ⟨rfl, rfl⟩) rfl (fun h12 => ?_)
  refine z_aload_n (j := 0) dX6_init_38 rfl rfl ?_
  refine z_sipush (v := 144) dX6_init_39 (by decide) ?_
  refine z_newA (t := 0) dX6_init_42 (.inl ⟨rfl, rfl⟩) zw159 (fun r13 h14 => ?_)
  try dsimp only
  refine z_putP (k := 5) dX6_init_44 zkl7 (by decide) (.inl zw781) (.inr ⟨rfl, rfl, rfl, zw781⟩) (fun a => by cases a <;> exact ⟨rfl, rfl⟩) rfl (fun h15 => ?_)
  refine z_aload_n (j := 0) dX6_init_47 rfl rfl ?_
  refine z_sipush (v := 144) dX6_init_48 (by decide) ?_
  refine z_newA (t := 0) dX6_init_51 (.inl ⟨rfl, rfl⟩) zw159 (fun r16 h17 => ?_)
  try dsimp only
  refine z_putP (k := 6) dX6_init_53 zkl7 (by decide) (.inl zw782) (.inr ⟨rfl, rfl, rfl, zw782⟩) (fun a => by cases a <;> exact ⟨rfl, rfl⟩) rfl (fun h18 => ?_)
  refine z_aload_n (j := 0) dX6_init_56 rfl rfl ?_
  refine z_sipush (v := 200) dX6_init_57 (by decide) ?_
  refine z_newA (t := 0) dX6_init_60 (.inl ⟨rfl, rfl⟩) zw159 (fun r19 h20 => ?_)
  try dsimp only
  refine z_putP (k := 8) dX6_init_62 zkl7 (by decide) (.inl zw784) (.inr ⟨rfl, rfl, rfl, zw784⟩) (fun a => by cases a <;> exact ⟨rfl, rfl⟩) rfl (fun h21 => ?_)
  refine z_aload_n (j := 0) dX6_init_65 rfl rfl ?_
  refine z_sipush (v := 200) dX6_init_66 (by decide) ?_
  refine z_newA (t := 0) dX6_init_69 (.inl ⟨rfl, rfl⟩) zw159 (fun r22 h23 => ?_)
  try dsimp only
  refine z_putP (k := 9) dX6_init_71 zkl7 (by decide) (.inl zw785) (.inr ⟨rfl, rfl, rfl, zw785⟩) (fun a => by cases a <;> exact ⟨rfl, rfl⟩) rfl (fun h24 => ?_)
  refine z_aload_n (j := 0) dX6_init_74 rfl rfl ?_
  refine z_sipush (v := 200) dX6_init_75 (by decide) ?_
  refine z_newA (t := 0) dX6_init_78 (.inl ⟨rfl, rfl⟩) zw159 (fun r25 h26 => ?_)
  try dsimp only
  refine z_putP (k := 10) dX6_init_80 zkl7 (by decide) (.inl zw786) (.inr ⟨rfl, rfl, rfl, zw786⟩) (fun a => by cases a <;> exact ⟨rfl, rfl⟩) rfl (fun h27 => ?_)
  refine z_aload_n (j := 0) dX6_init_83 rfl rfl ?_
  refine z_sipush (v := 200) dX6_init_84 (by decide) ?_
  refine z_newA (t := 0) dX6_init_87 (.inl ⟨rfl, rfl⟩) zw159 (fun r28 h29 => ?_)
  try dsimp only
  refine z_putP (k := 11) dX6_init_89 zkl7 (by decide) (.inl zw787) (.inr ⟨rfl, rfl, rfl, zw787⟩) (fun a => by cases a <;> exact ⟨rfl, rfl⟩) rfl (fun h30 => ?_)
  refine z_aload_n (j := 0) dX6_init_92 rfl rfl ?_
  refine z_sipush (v := 200) dX6_init_93 (by decide) ?_
  refine z_newA (t := 0) dX6_init_96 (.inl ⟨rfl, rfl⟩) zw159 (fun r31 h32 => ?_)
  try dsimp only
  refine z_putP (k := 12) dX6_init_98 zkl7 (by decide) (.inl zw788) (.inr ⟨rfl, rfl, rfl, zw788⟩) (fun a => by cases a <;> exact ⟨rfl, rfl⟩) rfl (fun h33 => ?_)
  refine z_aload_n (j := 0) dX6_init_101 rfl rfl ?_
  refine z_sipush (v := 12000) dX6_init_102 (by decide) ?_
  refine z_newA (t := 0) dX6_init_105 (.inl ⟨rfl, rfl⟩) zw159 (fun r34 h35 => ?_)
  try dsimp only
  refine z_putP (k := 14) dX6_init_107 zkl7 (by decide) (.inl zw790) (.inr ⟨rfl, rfl, rfl, zw790⟩) (fun a => by cases a <;> exact ⟨rfl, rfl⟩) rfl (fun h36 => ?_)
  refine z_aload_n (j := 0) dX6_init_110 rfl rfl ?_
  refine z_sipush (v := 200) dX6_init_111 (by decide) ?_
  refine z_newA (t := 0) dX6_init_114 (.inl ⟨rfl, rfl⟩) zw159 (fun r37 h38 => ?_)
  try dsimp only
  refine z_putP (k := 16) dX6_init_116 zkl7 (by decide) (.inl zw792) (.inr ⟨rfl, rfl, rfl, zw792⟩) (fun a => by cases a <;> exact ⟨rfl, rfl⟩) rfl (fun h39 => ?_)
  refine z_aload_n (j := 0) dX6_init_119 rfl rfl ?_
  refine z_sipush (v := 200) dX6_init_120 (by decide) ?_
  refine z_newA (t := 0) dX6_init_123 (.inl ⟨rfl, rfl⟩) zw159 (fun r40 h41 => ?_)
  try dsimp only
  refine z_putP (k := 17) dX6_init_125 zkl7 (by decide) (.inl zw793) (.inr ⟨rfl, rfl, rfl, zw793⟩) (fun a => by cases a <;> exact ⟨rfl, rfl⟩) rfl (fun h42 => ?_)
  refine z_aload_n (j := 0) dX6_init_128 rfl rfl ?_
  refine z_sipush (v := 200) dX6_init_129 (by decide) ?_
  refine z_newA (t := 0) dX6_init_132 (.inl ⟨rfl, rfl⟩) zw159 (fun r43 h44 => ?_)
  try dsimp only
  refine z_putP (k := 18) dX6_init_134 zkl7 (by decide) (.inl zw794) (.inr ⟨rfl, rfl, rfl, zw794⟩) (fun a => by cases a <;> exact ⟨rfl, rfl⟩) rfl (fun h45 => ?_)
  refine z_aload_n (j := 0) dX6_init_137 rfl rfl ?_
  refine z_sipush (v := 200) dX6_init_138 (by decide) ?_
  refine z_newA (t := 0) dX6_init_141 (.inl ⟨rfl, rfl⟩) zw159 (fun r46 h47 => ?_)
  try dsimp only
  refine z_putP (k := 19) dX6_init_143 zkl7 (by decide) (.inl zw795) (.inr ⟨rfl, rfl, rfl, zw795⟩) (fun a => by cases a <;> exact ⟨rfl, rfl⟩) rfl (fun h48 => ?_)
  refine z_aload_n (j := 0) dX6_init_146 rfl rfl ?_
  refine z_sipush (v := 20000) dX6_init_147 (by decide) ?_
  refine z_newA (t := 0) dX6_init_150 (.inl ⟨rfl, rfl⟩) zw159 (fun r49 h50 => ?_)
  try dsimp only
  refine z_putP (k := 21) dX6_init_152 zkl7 (by decide) (.inl zw797) (.inr ⟨rfl, rfl, rfl, zw797⟩) (fun a => by cases a <;> exact ⟨rfl, rfl⟩) rfl (fun h51 => ?_)
  refine z_aload_n (j := 0) dX6_init_155 rfl rfl ?_
  refine z_sipush (v := 200) dX6_init_156 (by decide) ?_
  refine z_newA (t := 0) dX6_init_159 (.inl ⟨rfl, rfl⟩) zw159 (fun r52 h53 => ?_)
  try dsimp only
  refine z_putP (k := 22) dX6_init_161 zkl7 (by decide) (.inl zw798) (.inr ⟨rfl, rfl, rfl, zw798⟩) (fun a => by cases a <;> exact ⟨rfl, rfl⟩) rfl (fun h54 => ?_)
  refine z_aload_n (j := 0) dX6_init_164 rfl rfl ?_
  refine z_sipush (v := 400) dX6_init_165 (by decide) ?_
  refine z_newA (t := 0) dX6_init_168 (.inl ⟨rfl, rfl⟩) zw159 (fun r55 h56 => ?_)
  try dsimp only
  refine z_putP (k := 23) dX6_init_170 zkl7 (by decide) (.inl zw799) (.inr ⟨rfl, rfl, rfl, zw799⟩) (fun a => by cases a <;> exact ⟨rfl, rfl⟩) rfl (fun h57 => ?_)
  refine z_aload_n (j := 0) dX6_init_173 rfl rfl ?_
  refine z_sipush (v := 400) dX6_init_174 (by decide) ?_
  refine z_newA (t := 0) dX6_init_177 (.inl ⟨rfl, rfl⟩) zw159 (fun r58 h59 => ?_)
  try dsimp only
  refine z_putP (k := 24) dX6_init_179 zkl7 (by decide) (.inl zw800) (.inr ⟨rfl, rfl, rfl, zw800⟩) (fun a => by cases a <;> exact ⟨rfl, rfl⟩) rfl (fun h60 => ?_)
  refine z_aload_n (j := 0) dX6_init_182 rfl rfl ?_
  refine z_sipush (v := 200) dX6_init_183 (by decide) ?_
  refine z_newA (t := 0) dX6_init_186 (.inl ⟨rfl, rfl⟩) zw159 (fun r61 h62 => ?_)
  try dsimp only
  refine z_putP (k := 26) dX6_init_188 zkl7 (by decide) (.inl zw802) (.inr ⟨rfl, rfl, rfl, zw802⟩) (fun a => by cases a <;> exact ⟨rfl, rfl⟩) rfl (fun h63 => ?_)
  refine z_aload_n (j := 0) dX6_init_191 rfl rfl ?_
  refine z_sipush (v := 200) dX6_init_192 (by decide) ?_
  refine z_newA (t := 0) dX6_init_195 (.inl ⟨rfl, rfl⟩) zw159 (fun r64 h65 => ?_)
  try dsimp only
  refine z_putP (k := 27) dX6_init_197 zkl7 (by decide) (.inl zw803) (.inr ⟨rfl, rfl, rfl, zw803⟩) (fun a => by cases a <;> exact ⟨rfl, rfl⟩) rfl (fun h66 => ?_)
  refine z_aload_n (j := 0) dX6_init_200 rfl rfl ?_
  refine z_sipush (v := 200) dX6_init_201 (by decide) ?_
  refine z_newA (t := 0) dX6_init_204 (.inl ⟨rfl, rfl⟩) zw159 (fun r67 h68 => ?_)
  try dsimp only
  refine z_putP (k := 29) dX6_init_206 zkl7 (by decide) (.inl zw805) (.inr ⟨rfl, rfl, rfl, zw805⟩) (fun a => by cases a <;> exact ⟨rfl, rfl⟩) rfl (fun h69 => ?_)
  refine z_aload_n (j := 0) dX6_init_209 rfl rfl ?_
  refine z_sipush (v := 200) dX6_init_210 (by decide) ?_
  refine z_newA (t := 0) dX6_init_213 (.inl ⟨rfl, rfl⟩) zw159 (fun r70 h71 => ?_)
  try dsimp only
  refine z_putP (k := 30) dX6_init_215 zkl7 (by decide) (.inl zw806) (.inr ⟨rfl, rfl, rfl, zw806⟩) (fun a => by cases a <;> exact ⟨rfl, rfl⟩) rfl (fun h72 => ?_)
  refine z_aload_n (j := 0) dX6_init_218 rfl rfl ?_
  refine z_bipush (v := 6) dX6_init_219 (by decide) ?_
  refine z_newA (t := 0) dX6_init_221 (.inl ⟨rfl, rfl⟩) zw159 (fun r73 h74 => ?_)
  try dsimp only
  refine z_putP (k := 32) dX6_init_223 zkl7 (by decide) (.inl zw808) (.inr ⟨rfl, rfl, rfl, zw808⟩) (fun a => by cases a <;> exact ⟨rfl, rfl⟩) rfl (fun h75 => ?_)
  refine z_aload_n (j := 0) dX6_init_226 rfl rfl ?_
  refine z_sipush (v := 3904) dX6_init_227 (by decide) ?_
  refine z_newA (t := 0) dX6_init_230 (.inl ⟨rfl, rfl⟩) zw159 (fun r76 h77 => ?_)
  try dsimp only
  refine z_putP (k := 33) dX6_init_232 zkl7 (by decide) (.inl zw809) (.inr ⟨rfl, rfl, rfl, zw809⟩) (fun a => by cases a <;> exact ⟨rfl, rfl⟩) rfl (fun h78 => ?_)
  refine z_aload_n (j := 0) dX6_init_235 rfl rfl ?_
  refine z_bipush (v := 64) dX6_init_236 (by decide) ?_
  refine z_newA (t := 0) dX6_init_238 (.inl ⟨rfl, rfl⟩) zw159 (fun r79 h80 => ?_)
  try dsimp only
  refine z_putP (k := 34) dX6_init_240 zkl7 (by decide) (.inl zw810) (.inr ⟨rfl, rfl, rfl, zw810⟩) (fun a => by cases a <;> exact ⟨rfl, rfl⟩) rfl (fun h81 => ?_)
  refine z_aload_n (j := 0) dX6_init_243 rfl rfl ?_
  refine z_bipush (v := 64) dX6_init_244 (by decide) ?_
  refine z_newA (t := 0) dX6_init_246 (.inl ⟨rfl, rfl⟩) zw159 (fun r82 h83 => ?_)
  try dsimp only
  refine z_putP (k := 35) dX6_init_248 zkl7 (by decide) (.inl zw811) (.inr ⟨rfl, rfl, rfl, zw811⟩) (fun a => by cases a <;> exact ⟨rfl, rfl⟩) rfl (fun h84 => ?_)
  refine z_aload_n (j := 0) dX6_init_251 rfl rfl ?_
  refine z_bipush (v := 64) dX6_init_252 (by decide) ?_
  refine z_newA (t := 0) dX6_init_254 (.inl ⟨rfl, rfl⟩) zw159 (fun r85 h86 => ?_)
  try dsimp only
  refine z_putP (k := 36) dX6_init_256 zkl7 (by decide) (.inl zw812) (.inr ⟨rfl, rfl, rfl, zw812⟩) (fun a => by cases a <;> exact ⟨rfl, rfl⟩) rfl (fun h87 => ?_)
  refine z_aload_n (j := 0) dX6_init_259 rfl rfl ?_
  refine z_bipush (v := 64) dX6_init_260 (by decide) ?_
  refine z_newA (t := 0) dX6_init_262 (.inl ⟨rfl, rfl⟩) zw159 (fun r88 h89 => ?_)
  try dsimp only
  refine z_putP (k := 37) dX6_init_264 zkl7 (by decide) (.inl zw813) (.inr ⟨rfl, rfl, rfl, zw813⟩) (fun a => by cases a <;> exact ⟨rfl, rfl⟩) rfl (fun h90 => ?_)
  refine z_aload_n (j := 0) dX6_init_267 rfl rfl ?_
  refine z_sipush (v := 200) dX6_init_268 (by decide) ?_
  refine z_newA (t := 0) dX6_init_271 (.inl ⟨rfl, rfl⟩) zw159 (fun r91 h92 => ?_)
  try dsimp only
  refine z_putP (k := 40) dX6_init_273 zkl7 (by decide) (.inl zw816) (.inr ⟨rfl, rfl, rfl, zw816⟩) (fun a => by cases a <;> exact ⟨rfl, rfl⟩) rfl (fun h93 => ?_)
  refine z_aload_n (j := 0) dX6_init_276 rfl rfl ?_
  refine z_sipush (v := 200) dX6_init_277 (by decide) ?_
  refine z_newA (t := 0) dX6_init_280 (.inl ⟨rfl, rfl⟩) zw159 (fun r94 h95 => ?_)
  try dsimp only
  refine z_putP (k := 41) dX6_init_282 zkl7 (by decide) (.inl zw817) (.inr ⟨rfl, rfl, rfl, zw817⟩) (fun a => by cases a <;> exact ⟨rfl, rfl⟩) rfl (fun h96 => ?_)
  refine z_aload_n (j := 0) dX6_init_285 rfl rfl ?_
  refine z_sipush (v := 12000) dX6_init_286 (by decide) ?_
  refine z_newA (t := 0) dX6_init_289 (.inl ⟨rfl, rfl⟩) zw159 (fun r97 h98 => ?_)
  try dsimp only
  refine z_putP (k := 43) dX6_init_291 zkl7 (by decide) (.inl zw819) (.inr ⟨rfl, rfl, rfl, zw819⟩) (fun a => by cases a <;> exact ⟨rfl, rfl⟩) rfl (fun h99 => ?_)
  refine z_aload_n (j := 0) dX6_init_294 rfl rfl ?_
  refine z_sipush (v := 12000) dX6_init_295 (by decide) ?_
  refine z_newA (t := 0) dX6_init_298 (.inl ⟨rfl, rfl⟩) zw159 (fun r100 h101 => ?_)
  try dsimp only
  refine z_putP (k := 44) dX6_init_300 zkl7 (by decide) (.inl zw820) (.inr ⟨rfl, rfl, rfl, zw820⟩) (fun a => by cases a <;> exact ⟨rfl, rfl⟩) rfl (fun h102 => ?_)
  refine z_aload_n (j := 0) dX6_init_303 rfl rfl ?_
  refine z_sipush (v := 12000) dX6_init_304 (by decide) ?_
  refine z_newA (t := 0) dX6_init_307 (.inl ⟨rfl, rfl⟩) zw159 (fun r103 h104 => ?_)
  try dsimp only
  refine z_putP (k := 46) dX6_init_309 zkl7 (by decide) (.inl zw822) (.inr ⟨rfl, rfl, rfl, zw822⟩) (fun a => by cases a <;> exact ⟨rfl, rfl⟩) rfl (fun h105 => ?_)
  refine z_aload_n (j := 0) dX6_init_312 rfl rfl ?_
  refine z_sipush (v := 144) dX6_init_313 (by decide) ?_
  refine z_newA (t := 1) dX6_init_316 (.inr ⟨rfl, rfl⟩) zw972 (fun r106 h107 => ?_)
  try dsimp only
  refine z_putP (k := 47) dX6_init_318 zkl7 (by decide) (.inl zw823) (.inr ⟨rfl, rfl, rfl, zw823⟩) (fun a => by cases a <;> exact ⟨rfl, rfl⟩) rfl (fun h108 => ?_)
  refine z_aload_n (j := 0) dX6_init_321 rfl rfl ?_
  refine z_bipush (v := 12) dX6_init_322 (by decide) ?_
  refine z_newA (t := 1) dX6_init_324 (.inr ⟨rfl, rfl⟩) zw972 (fun r109 h110 => ?_)
  try dsimp only
  refine z_putP (k := 48) dX6_init_326 zkl7 (by decide) (.inl zw824) (.inr ⟨rfl, rfl, rfl, zw824⟩) (fun a => by cases a <;> exact ⟨rfl, rfl⟩) rfl (fun h111 => ?_)
  refine z_aload_n (j := 0) dX6_init_329 rfl rfl ?_
  refine z_bipush (v := 12) dX6_init_330 (by decide) ?_
  refine z_newA (t := 1) dX6_init_332 (.inr ⟨rfl, rfl⟩) zw972 (fun r112 h113 => ?_)
  try dsimp only
  refine z_putP (k := 49) dX6_init_334 zkl7 (by decide) (.inl zw825) (.inr ⟨rfl, rfl, rfl, zw825⟩) (fun a => by cases a <;> exact ⟨rfl, rfl⟩) rfl (fun h114 => ?_)
  refine z_aload_n (j := 0) dX6_init_337 rfl rfl ?_
  refine z_bipush (v := 12) dX6_init_338 (by decide) ?_
  refine z_newA (t := 1) dX6_init_340 (.inr ⟨rfl, rfl⟩) zw972 (fun r115 h116 => ?_)
  try dsimp only
  refine z_putP (k := 50) dX6_init_342 zkl7 (by decide) (.inl zw826) (.inr ⟨rfl, rfl, rfl, zw826⟩) (fun a => by cases a <;> exact ⟨rfl, rfl⟩) rfl (fun h117 => ?_)
  refine z_aload_n (j := 0) dX6_init_345 rfl rfl ?_
  refine z_bipush (v := 12) dX6_init_346 (by decide) ?_
  refine z_newA (t := 0) dX6_init_348 (.inl ⟨rfl, rfl⟩) zw159 (fun r118 h119 => ?_)
  try dsimp only
  refine z_putP (k := 51) dX6_init_350 zkl7 (by decide) (.inl zw827) (.inr ⟨rfl, rfl, rfl, zw827⟩) (fun a => by cases a <;> exact ⟨rfl, rfl⟩) rfl (fun h120 => ?_)
  refine z_aload_n (j := 0) dX6_init_353 rfl rfl ?_
  refine z_bipush (v := 12) dX6_init_354 (by decide) ?_
  refine z_newA (t := 0) dX6_init_356 (.inl ⟨rfl, rfl⟩) zw159 (fun r121 h122 => ?_)
  try dsimp only
  refine z_putP (k := 53) dX6_init_358 zkl7 (by decide) (.inl zw829) (.inr ⟨rfl, rfl, rfl, zw829⟩) (fun a => by cases a <;> exact ⟨rfl, rfl⟩) rfl (fun h123 => ?_)
  refine z_aload_n (j := 0) dX6_init_361 rfl rfl ?_
  refine z_sipush (v := 144) dX6_init_362 (by decide) ?_
  refine z_newA (t := 1) dX6_init_365 (.inr ⟨rfl, rfl⟩) zw972 (fun r124 h125 => ?_)
  try dsimp only
  refine z_putP (k := 54) dX6_init_367 zkl7 (by decide) (.inl zw830) (.inr ⟨rfl, rfl, rfl, zw830⟩) (fun a => by cases a <;> exact ⟨rfl, rfl⟩) rfl (fun h126 => ?_)
  refine z_aload_n (j := 0) dX6_init_370 rfl rfl ?_
  refine z_sipush (v := 144) dX6_init_371 (by decide) ?_
  refine z_newA (t := 1) dX6_init_374 (.inr ⟨rfl, rfl⟩) zw972 (fun r127 h128 => ?_)
  try dsimp only
  refine z_putP (k := 55) dX6_init_376 zkl7 (by decide) (.inl zw831) (.inr ⟨rfl, rfl, rfl, zw831⟩) (fun a => by cases a <;> exact ⟨rfl, rfl⟩) rfl (fun h129 => ?_)
  refine z_aload_n (j := 0) dX6_init_379 rfl rfl ?_
  refine z_bipush (v := 12) dX6_init_380 (by decide) ?_
  refine z_newA (t := 1) dX6_init_382 (.inr ⟨rfl, rfl⟩) zw972 (fun r130 h131 => ?_)
  try dsimp only
  refine z_putP (k := 56) dX6_init_384 zkl7 (by decide) (.inl zw832) (.inr ⟨rfl, rfl, rfl, zw832⟩) (fun a => by cases a <;> exact ⟨rfl, rfl⟩) rfl (fun h132 => ?_)
  refine z_aload_n (j := 0) dX6_init_387 rfl rfl ?_
  refine z_bipush (v := 12) dX6_init_388 (by decide) ?_
  refine z_newA (t := 1) dX6_init_390 (.inr ⟨rfl, rfl⟩) zw972 (fun r133 h134 => ?_)
  try dsimp only
  refine z_putP (k := 57) dX6_init_392 zkl7 (by decide) (.inl zw833) (.inr ⟨rfl, rfl, rfl, zw833⟩) (fun a => by cases a <;> exact ⟨rfl, rfl⟩) rfl (fun h135 => ?_)
  refine z_aload_n (j := 0) dX6_init_395 rfl rfl ?_
  refine z_bipush (v := 14) dX6_init_396 (by decide) ?_
  refine z_newA (t := 0) dX6_init_398 (.inl ⟨rfl, rfl⟩) zw159 (fun r136 h137 => ?_)
  try dsimp only
  refine z_putP (k := 58) dX6_init_400 zkl7 (by decide) (.inl zw834) (.inr ⟨rfl, rfl, rfl, zw834⟩) (fun a => by cases a <;> exact ⟨rfl, rfl⟩) rfl (fun h138 => ?_)
  refine z_aload_n (j := 0) dX6_init_403 rfl rfl ?_
  refine z_sipush (v := 144) dX6_init_404 (by decide) ?_
  refine z_newA (t := 0) dX6_init_407 (.inl ⟨rfl, rfl⟩) zw159 (fun r139 h140 => ?_)
  try dsimp only
  refine z_putP (k := 63) dX6_init_409 zkl7 (by decide) (.inl zw839) (.inr ⟨rfl, rfl, rfl, zw839⟩) (fun a => by cases a <;> exact ⟨rfl, rfl⟩) rfl (fun h141 => ?_)
  refine z_aload_n (j := 0) dX6_init_412 rfl rfl ?_
  refine z_sipush (v := 144) dX6_init_413 (by decide) ?_
  refine z_newA (t := 1) dX6_init_416 (.inr ⟨rfl, rfl⟩) zw972 (fun r142 h143 => ?_)
  try dsimp only
  refine z_putP (k := 64) dX6_init_418 zkl7 (by decide) (.inl zw840) (.inr ⟨rfl, rfl, rfl, zw840⟩) (fun a => by cases a <;> exact ⟨rfl, rfl⟩) rfl (fun h144 => ?_)
  exact z_vret dX6_init_421 rfl rfl rfl
