/-! the law step by step -/
noncomputable def lawStep (c : Nat × Nat) (sc : Nat × (Nat → Int32)) (r1 r5 : Option Nat) (v9 : Int32) (h10 : Zh) : Option ((Int32 × Zh) ⊕ (Zh ⊕ (Int32 × Zh))) :=
    (if ((Int32.ofNat sc.1) - (6 : Int32)) < v9 then
      some (.inr (.inl h10))
    else
      ((zix sc.1 v9).bind fun q => some (sc.2 q)).bind fun x14 =>
      if (x14 &&& (31 : Int32)) = (0 : Int32) then
        (zob h10 r1 7).bind fun p15 =>
        (fX5_open h10 (some p15)).bind fun ((x16, h17) : Int32 × Zh) =>
        (zob h17 r5 8).bind fun p18 =>
        (zchk p18 h17).bind fun _ =>
        (fX6_open (zget p18 h17)).bind fun ((x19, h20) : Int32 × Zr) =>
        if x16 = x19 then
          some (.inl (v9 + (6 : Int32), zput p18 h17 h20))
        else
          some (.inr (.inr ((0 : Int32), zput p18 h17 h20)))
      else if (x14 &&& (31 : Int32)) = (1 : Int32) then
        ((zix sc.1 (v9 + (1 : Int32))).bind fun q => some (sc.2 q)).bind fun x21 =>
        ((zix sc.1 (v9 + (2 : Int32))).bind fun q => some (sc.2 q)).bind fun x22 =>
        ((zix sc.1 (v9 + (3 : Int32))).bind fun q => some (sc.2 q)).bind fun x23 =>
        ((zix sc.1 (v9 + (4 : Int32))).bind fun q => some (sc.2 q)).bind fun x24 =>
        ((zix sc.1 (v9 + (5 : Int32))).bind fun q => some (sc.2 q)).bind fun x25 =>
        (zob h10 r1 7).bind fun p26 =>
        (fX5_add h10 (some p26) x21 x22 x23 x24 x25).bind fun ((x27, h28) : Int32 × Zh) =>
        ((zix sc.1 (v9 + (1 : Int32))).bind fun q => some (sc.2 q)).bind fun x29 =>
        ((zix sc.1 (v9 + (2 : Int32))).bind fun q => some (sc.2 q)).bind fun x30 =>
        ((zix sc.1 (v9 + (3 : Int32))).bind fun q => some (sc.2 q)).bind fun x31 =>
        ((zix sc.1 (v9 + (4 : Int32))).bind fun q => some (sc.2 q)).bind fun x32 =>
        ((zix sc.1 (v9 + (5 : Int32))).bind fun q => some (sc.2 q)).bind fun x33 =>
        (zob h28 r5 8).bind fun p34 =>
        (zchk p34 h28).bind fun _ =>
        (fX6_add (zget p34 h28) x29 x30 x31 x32 x33).bind fun ((x35, h36) : Int32 × Zr) =>
        if x27 = x35 then
          some (.inl (v9 + (6 : Int32), zput p34 h28 h36))
        else
          some (.inr (.inr ((0 : Int32), zput p34 h28 h36)))
      else if (x14 &&& (31 : Int32)) = (2 : Int32) then
        ((zix sc.1 (v9 + (1 : Int32))).bind fun q => some (sc.2 q)).bind fun x37 =>
        (zob h10 r1 7).bind fun p38 =>
        (fX5_cut h10 (some p38) x37).bind fun ((x39, h40) : Int32 × Zh) =>
        ((zix sc.1 (v9 + (1 : Int32))).bind fun q => some (sc.2 q)).bind fun x41 =>
        (zob h40 r5 8).bind fun p42 =>
        (zchk p42 h40).bind fun _ =>
        (fX6_cut (zget p42 h40) x41).bind fun ((x43, h44) : Int32 × Zr) =>
        if x39 = x43 then
          some (.inl (v9 + (6 : Int32), zput p42 h40 h44))
        else
          some (.inr (.inr ((0 : Int32), zput p42 h40 h44)))
      else if (x14 &&& (31 : Int32)) = (3 : Int32) then
        ((zix sc.1 (v9 + (1 : Int32))).bind fun q => some (sc.2 q)).bind fun x45 =>
        ((zix sc.1 (v9 + (2 : Int32))).bind fun q => some (sc.2 q)).bind fun x46 =>
        (if x46 = 0 then
          some (0 : Int32)
        else
          some (1 : Int32)).bind fun (v47 : Int32) =>
        (zob h10 r1 7).bind fun p49 =>
        (fX5_drop h10 (some p49) x45 v47).bind fun ((x50, h51) : Int32 × Zh) =>
        ((zix sc.1 (v9 + (1 : Int32))).bind fun q => some (sc.2 q)).bind fun x52 =>
        ((zix sc.1 (v9 + (2 : Int32))).bind fun q => some (sc.2 q)).bind fun x53 =>
        (if x53 = 0 then
          some (0 : Int32)
        else
          some (1 : Int32)).bind fun (v54 : Int32) =>
        (zob h51 r5 8).bind fun p56 =>
        (zchk p56 h51).bind fun _ =>
        (fX6_drop (zget p56 h51) x52 v54).bind fun ((x57, h58) : Int32 × Zr) =>
        if x50 = x57 then
          some (.inl (v9 + (6 : Int32), zput p56 h51 h58))
        else
          some (.inr (.inr ((0 : Int32), zput p56 h51 h58)))
      else if (x14 &&& (31 : Int32)) = (4 : Int32) then
        ((zix sc.1 (v9 + (1 : Int32))).bind fun q => some (sc.2 q)).bind fun x59 =>
        ((zix sc.1 (v9 + (2 : Int32))).bind fun q => some (sc.2 q)).bind fun x60 =>
        ((zix sc.1 (v9 + (3 : Int32))).bind fun q => some (sc.2 q)).bind fun x61 =>
        (zob h10 r1 7).bind fun p62 =>
        (fX5_told h10 (some p62) x59 x60 x61).bind fun x63 =>
        ((zix sc.1 (v9 + (1 : Int32))).bind fun q => some (sc.2 q)).bind fun x64 =>
        ((zix sc.1 (v9 + (2 : Int32))).bind fun q => some (sc.2 q)).bind fun x65 =>
        ((zix sc.1 (v9 + (3 : Int32))).bind fun q => some (sc.2 q)).bind fun x66 =>
        (zob h10 r5 8).bind fun p67 =>
        (zchk p67 h10).bind fun _ =>
        (fX6_told (zget p67 h10) x64 x65 x66).bind fun x68 =>
        if x63 = x68 then
          some (.inl (v9 + (6 : Int32), h10))
        else
          some (.inr (.inr ((0 : Int32), h10)))
      else if (x14 &&& (31 : Int32)) = (5 : Int32) then
        ((zix sc.1 (v9 + (1 : Int32))).bind fun q => some (sc.2 q)).bind fun x69 =>
        ((zix sc.1 (v9 + (2 : Int32))).bind fun q => some (sc.2 q)).bind fun x70 =>
        (zob h10 r1 7).bind fun p71 =>
        (fX5_follows h10 (some p71) x69 x70).bind fun x72 =>
        ((zix sc.1 (v9 + (1 : Int32))).bind fun q => some (sc.2 q)).bind fun x73 =>
        ((zix sc.1 (v9 + (2 : Int32))).bind fun q => some (sc.2 q)).bind fun x74 =>
        (zob h10 r5 8).bind fun p75 =>
        (zchk p75 h10).bind fun _ =>
        (fX6_follows (zget p75 h10) x73 x74).bind fun x76 =>
        if x72 = x76 then
          some (.inl (v9 + (6 : Int32), h10))
        else
          some (.inr (.inr ((0 : Int32), h10)))
      else if (x14 &&& (31 : Int32)) = (6 : Int32) then
        ((zix sc.1 (v9 + (1 : Int32))).bind fun q => some (sc.2 q)).bind fun x77 =>
        ((zix sc.1 (v9 + (2 : Int32))).bind fun q => some (sc.2 q)).bind fun x78 =>
        (zob h10 r1 7).bind fun p79 =>
        (fX5_stands h10 (some p79) x77 x78).bind fun x80 =>
        ((zix sc.1 (v9 + (1 : Int32))).bind fun q => some (sc.2 q)).bind fun x81 =>
        ((zix sc.1 (v9 + (2 : Int32))).bind fun q => some (sc.2 q)).bind fun x82 =>
        (zob h10 r5 8).bind fun p83 =>
        (zchk p83 h10).bind fun _ =>
        (fX6_stands (zget p83 h10) x81 x82).bind fun x84 =>
        if x80 = x84 then
          some (.inl (v9 + (6 : Int32), h10))
        else
          some (.inr (.inr ((0 : Int32), h10)))
      else if (x14 &&& (31 : Int32)) = (7 : Int32) then
        ((zix sc.1 (v9 + (1 : Int32))).bind fun q => some (sc.2 q)).bind fun x85 =>
        (zob h10 r1 7).bind fun p86 =>
        (fX5_deed h10 (some p86) x85).bind fun ((x87, h88) : Int32 × Zh) =>
        ((zix sc.1 (v9 + (1 : Int32))).bind fun q => some (sc.2 q)).bind fun x89 =>
        (zob h88 r5 8).bind fun p90 =>
        (zchk p90 h88).bind fun _ =>
        (fX6_deed (zget p90 h88) x89).bind fun ((x91, h92) : Int32 × Zr) =>
        if x87 = x91 then
          some (.inl (v9 + (6 : Int32), zput p90 h88 h92))
        else
          some (.inr (.inr ((0 : Int32), zput p90 h88 h92)))
      else if (x14 &&& (31 : Int32)) = (8 : Int32) then
        ((zix sc.1 (v9 + (1 : Int32))).bind fun q => some (sc.2 q)).bind fun x93 =>
        ((zix sc.1 (v9 + (2 : Int32))).bind fun q => some (sc.2 q)).bind fun x94 =>
        ((zix sc.1 (v9 + (3 : Int32))).bind fun q => some (sc.2 q)).bind fun x95 =>
        (zob h10 r1 7).bind fun p96 =>
        (fX5_join h10 (some p96) x93 x94 x95).bind fun ((x97, h98) : Int32 × Zh) =>
        ((zix sc.1 (v9 + (1 : Int32))).bind fun q => some (sc.2 q)).bind fun x99 =>
        ((zix sc.1 (v9 + (2 : Int32))).bind fun q => some (sc.2 q)).bind fun x100 =>
        ((zix sc.1 (v9 + (3 : Int32))).bind fun q => some (sc.2 q)).bind fun x101 =>
        (zob h98 r5 8).bind fun p102 =>
        (zchk p102 h98).bind fun _ =>
        (fX6_join (zget p102 h98) x99 x100 x101).bind fun ((x103, h104) : Int32 × Zr) =>
        if x97 = x103 then
          some (.inl (v9 + (6 : Int32), zput p102 h98 h104))
        else
          some (.inr (.inr ((0 : Int32), zput p102 h98 h104)))
      else if (x14 &&& (31 : Int32)) = (9 : Int32) then
        ((zix sc.1 (v9 + (1 : Int32))).bind fun q => some (sc.2 q)).bind fun x105 =>
        ((zix sc.1 (v9 + (2 : Int32))).bind fun q => some (sc.2 q)).bind fun x106 =>
        (zob h10 r1 7).bind fun p107 =>
        (fX5_more h10 (some p107) x105 x106).bind fun ((x108, h109) : Int32 × Zh) =>
        ((zix sc.1 (v9 + (1 : Int32))).bind fun q => some (sc.2 q)).bind fun x110 =>
        ((zix sc.1 (v9 + (2 : Int32))).bind fun q => some (sc.2 q)).bind fun x111 =>
        (zob h109 r5 8).bind fun p112 =>
        (zchk p112 h109).bind fun _ =>
        (fX6_more (zget p112 h109) x110 x111).bind fun ((x113, h114) : Int32 × Zr) =>
        if x108 = x113 then
          some (.inl (v9 + (6 : Int32), zput p112 h109 h114))
        else
          some (.inr (.inr ((0 : Int32), zput p112 h109 h114)))
      else if (x14 &&& (31 : Int32)) = (10 : Int32) then
        ((zix sc.1 (v9 + (1 : Int32))).bind fun q => some (sc.2 q)).bind fun x115 =>
        ((zix sc.1 (v9 + (2 : Int32))).bind fun q => some (sc.2 q)).bind fun x116 =>
        (zob h10 r1 7).bind fun p117 =>
        (fX5_piece h10 (some p117) x115 x116).bind fun x118 =>
        ((zix sc.1 (v9 + (1 : Int32))).bind fun q => some (sc.2 q)).bind fun x119 =>
        ((zix sc.1 (v9 + (2 : Int32))).bind fun q => some (sc.2 q)).bind fun x120 =>
        (zob h10 r5 8).bind fun p121 =>
        (zchk p121 h10).bind fun _ =>
        (fX6_piece (zget p121 h10) x119 x120).bind fun x122 =>
        if x118 = x122 then
          some (.inl (v9 + (6 : Int32), h10))
        else
          some (.inr (.inr ((0 : Int32), h10)))
      else if (x14 &&& (31 : Int32)) = (11 : Int32) then
        ((zix sc.1 (v9 + (1 : Int32))).bind fun q => some (sc.2 q)).bind fun x123 =>
        (zob h10 r1 7).bind fun p124 =>
        (fX5_plain c h10 (some p124) x123).bind fun ((x125, h126) : Int32 × Zh) =>
        ((zix sc.1 (v9 + (1 : Int32))).bind fun q => some (sc.2 q)).bind fun x127 =>
        (zob h126 r5 8).bind fun p128 =>
        (zchk p128 h126).bind fun _ =>
        (fX6_plain (zget p128 h126) x127).bind fun ((x129, h130) : Int32 × Zr) =>
        if x125 = x129 then
          some (.inl (v9 + (6 : Int32), zput p128 h126 h130))
        else
          some (.inr (.inr ((0 : Int32), zput p128 h126 h130)))
      else if (x14 &&& (31 : Int32)) = (12 : Int32) then
        ((zix sc.1 (v9 + (1 : Int32))).bind fun q => some (sc.2 q)).bind fun x131 =>
        ((zix sc.1 (v9 + (2 : Int32))).bind fun q => some (sc.2 q)).bind fun x132 =>
        (zob h10 r1 7).bind fun p133 =>
        (fX5_like h10 (some p133) x131 x132).bind fun x134 =>
        ((zix sc.1 (v9 + (1 : Int32))).bind fun q => some (sc.2 q)).bind fun x135 =>
        ((zix sc.1 (v9 + (2 : Int32))).bind fun q => some (sc.2 q)).bind fun x136 =>
        (zob h10 r5 8).bind fun p137 =>
        (zchk p137 h10).bind fun _ =>
        (fX6_like (zget p137 h10) x135 x136).bind fun ((x138, h139) : Int32 × Zr) =>
        if x134 = x138 then
          some (.inl (v9 + (6 : Int32), zput p137 h10 h139))
        else
          some (.inr (.inr ((0 : Int32), zput p137 h10 h139)))
      else if (x14 &&& (31 : Int32)) = (13 : Int32) then
        (zob h10 r1 7).bind fun p140 =>
        (fX5_find h10 (some p140)).bind fun ((x141, h142) : Int32 × Zh) =>
        (zob h142 r5 8).bind fun p143 =>
        (zchk p143 h142).bind fun _ =>
        (fX6_find (zget p143 h142)).bind fun ((x144, h145) : Int32 × Zr) =>
        if x141 = x144 then
          some (.inl (v9 + (6 : Int32), zput p143 h142 h145))
        else
          some (.inr (.inr ((0 : Int32), zput p143 h142 h145)))
      else if (x14 &&& (31 : Int32)) = (14 : Int32) then
        ((zix sc.1 (v9 + (1 : Int32))).bind fun q => some (sc.2 q)).bind fun x146 =>
        ((zix sc.1 (v9 + (2 : Int32))).bind fun q => some (sc.2 q)).bind fun x147 =>
        (zob h10 r1 7).bind fun p148 =>
        (fX5_price h10 (some p148) x146 x147).bind fun ((x149, h150) : Int32 × Zh) =>
        ((zix sc.1 (v9 + (1 : Int32))).bind fun q => some (sc.2 q)).bind fun x151 =>
        ((zix sc.1 (v9 + (2 : Int32))).bind fun q => some (sc.2 q)).bind fun x152 =>
        (zob h150 r5 8).bind fun p153 =>
        (zchk p153 h150).bind fun _ =>
        (fX6_price (zget p153 h150) x151 x152).bind fun ((x154, h155) : Int32 × Zr) =>
        if x149 = x154 then
          some (.inl (v9 + (6 : Int32), zput p153 h150 h155))
        else
          some (.inr (.inr ((0 : Int32), zput p153 h150 h155)))
      else if (x14 &&& (31 : Int32)) = (15 : Int32) then
        ((zix sc.1 (v9 + (1 : Int32))).bind fun q => some (sc.2 q)).bind fun x156 =>
        ((zix sc.1 (v9 + (2 : Int32))).bind fun q => some (sc.2 q)).bind fun x157 =>
        (zob h10 r1 7).bind fun p158 =>
        (fX5_both h10 (some p158) x156 x157).bind fun ((x159, h160) : Int32 × Zh) =>
        ((zix sc.1 (v9 + (1 : Int32))).bind fun q => some (sc.2 q)).bind fun x161 =>
        ((zix sc.1 (v9 + (2 : Int32))).bind fun q => some (sc.2 q)).bind fun x162 =>
        (zob h160 r5 8).bind fun p163 =>
        (zchk p163 h160).bind fun _ =>
        (fX6_both (zget p163 h160) x161 x162).bind fun ((x164, h165) : Int32 × Zr) =>
        if x159 = x164 then
          some (.inl (v9 + (6 : Int32), zput p163 h160 h165))
        else
          some (.inr (.inr ((0 : Int32), zput p163 h160 h165)))
      else if (x14 &&& (31 : Int32)) = (16 : Int32) then
        ((zix sc.1 (v9 + (1 : Int32))).bind fun q => some (sc.2 q)).bind fun x166 =>
        (zob h10 r1 7).bind fun p167 =>
        (fX5_shortest h10 (some p167) x166).bind fun x168 =>
        ((zix sc.1 (v9 + (1 : Int32))).bind fun q => some (sc.2 q)).bind fun x169 =>
        (zob h10 r5 8).bind fun p170 =>
        (zchk p170 h10).bind fun _ =>
        (fX6_shortest (zget p170 h10) x169).bind fun ((x171, h172) : Int32 × Zr) =>
        if x168 = x171 then
          some (.inl (v9 + (6 : Int32), zput p170 h10 h172))
        else
          some (.inr (.inr ((0 : Int32), zput p170 h10 h172)))
      else if (x14 &&& (31 : Int32)) = (17 : Int32) then
        ((zix sc.1 (v9 + (1 : Int32))).bind fun q => some (sc.2 q)).bind fun x173 =>
        ((zix sc.1 (v9 + (2 : Int32))).bind fun q => some (sc.2 q)).bind fun x174 =>
        (zob h10 r1 7).bind fun p175 =>
        (fX5_fit h10 (some p175) x173 x174).bind fun ((x176, h177) : Int32 × Zh) =>
        ((zix sc.1 (v9 + (1 : Int32))).bind fun q => some (sc.2 q)).bind fun x178 =>
        ((zix sc.1 (v9 + (2 : Int32))).bind fun q => some (sc.2 q)).bind fun x179 =>
        (zob h177 r5 8).bind fun p180 =>
        (zchk p180 h177).bind fun _ =>
        (fX6_fit (zget p180 h177) x178 x179).bind fun ((x181, h182) : Int32 × Zr) =>
        if x176 = x181 then
          some (.inl (v9 + (6 : Int32), zput p180 h177 h182))
        else
          some (.inr (.inr ((0 : Int32), zput p180 h177 h182)))
      else if (x14 &&& (31 : Int32)) = (18 : Int32) then
        ((zix sc.1 (v9 + (1 : Int32))).bind fun q => some (sc.2 q)).bind fun x183 =>
        ((zix sc.1 (v9 + (2 : Int32))).bind fun q => some (sc.2 q)).bind fun x184 =>
        (zob h10 r1 7).bind fun p185 =>
        (fX5_work h10 (some p185) x183 x184).bind fun ((x186, h187) : Int32 × Zh) =>
        ((zix sc.1 (v9 + (1 : Int32))).bind fun q => some (sc.2 q)).bind fun x188 =>
        ((zix sc.1 (v9 + (2 : Int32))).bind fun q => some (sc.2 q)).bind fun x189 =>
        (zob h187 r5 8).bind fun p190 =>
        (zchk p190 h187).bind fun _ =>
        (fX6_work (zget p190 h187) x188 x189).bind fun ((x191, h192) : Int32 × Zr) =>
        if x186 = x191 then
          some (.inl (v9 + (6 : Int32), zput p190 h187 h192))
        else
          some (.inr (.inr ((0 : Int32), zput p190 h187 h192)))
      else if (x14 &&& (31 : Int32)) = (19 : Int32) then
        ((zix sc.1 (v9 + (1 : Int32))).bind fun q => some (sc.2 q)).bind fun x193 =>
        ((zix sc.1 (v9 + (2 : Int32))).bind fun q => some (sc.2 q)).bind fun x194 =>
        ((zix sc.1 (v9 + (3 : Int32))).bind fun q => some (sc.2 q)).bind fun x195 =>
        (zob h10 r1 7).bind fun p196 =>
        (fX5_lag h10 (some p196) x193 x194 x195).bind fun ((x197, h198) : Int32 × Zh) =>
        ((zix sc.1 (v9 + (1 : Int32))).bind fun q => some (sc.2 q)).bind fun x199 =>
        ((zix sc.1 (v9 + (2 : Int32))).bind fun q => some (sc.2 q)).bind fun x200 =>
        ((zix sc.1 (v9 + (3 : Int32))).bind fun q => some (sc.2 q)).bind fun x201 =>
        (zob h198 r5 8).bind fun p202 =>
        (zchk p202 h198).bind fun _ =>
        (fX6_lag (zget p202 h198) x199 x200 x201).bind fun ((x203, h204) : Int32 × Zr) =>
        if x197 = x203 then
          some (.inl (v9 + (6 : Int32), zput p202 h198 h204))
        else
          some (.inr (.inr ((0 : Int32), zput p202 h198 h204)))
      else if (x14 &&& (31 : Int32)) = (20 : Int32) then
        ((zix sc.1 (v9 + (1 : Int32))).bind fun q => some (sc.2 q)).bind fun x205 =>
        (zob h10 r1 7).bind fun p206 =>
        (fX5_slow h10 (some p206) x205).bind fun ((x207, h208) : Int32 × Zh) =>
        ((zix sc.1 (v9 + (1 : Int32))).bind fun q => some (sc.2 q)).bind fun x209 =>
        (zob h208 r5 8).bind fun p210 =>
        (zchk p210 h208).bind fun _ =>
        (fX6_slow (zget p210 h208) x209).bind fun ((x211, h212) : Int32 × Zr) =>
        if x207 = x211 then
          some (.inl (v9 + (6 : Int32), zput p210 h208 h212))
        else
          some (.inr (.inr ((0 : Int32), zput p210 h208 h212)))
      else if (x14 &&& (31 : Int32)) = (21 : Int32) then
        ((zix sc.1 (v9 + (1 : Int32))).bind fun q => some (sc.2 q)).bind fun x213 =>
        ((zix sc.1 (v9 + (2 : Int32))).bind fun q => some (sc.2 q)).bind fun x214 =>
        (zob h10 r1 7).bind fun p215 =>
        (fX5_passes h10 (some p215) x213 x214).bind fun x216 =>
        ((zix sc.1 (v9 + (1 : Int32))).bind fun q => some (sc.2 q)).bind fun x217 =>
        ((zix sc.1 (v9 + (2 : Int32))).bind fun q => some (sc.2 q)).bind fun x218 =>
        (zob h10 r5 8).bind fun p219 =>
        (zchk p219 h10).bind fun _ =>
        (fX6_passes (zget p219 h10) x217 x218).bind fun x220 =>
        if x216 = x220 then
          some (.inl (v9 + (6 : Int32), h10))
        else
          some (.inr (.inr ((0 : Int32), h10)))
      else if (x14 &&& (31 : Int32)) = (22 : Int32) then
        ((zix sc.1 (v9 + (1 : Int32))).bind fun q => some (sc.2 q)).bind fun x221 =>
        (zob h10 r1 7).bind fun p222 =>
        (fX5_count h10 (some p222) x221).bind fun x223 =>
        ((zix sc.1 (v9 + (1 : Int32))).bind fun q => some (sc.2 q)).bind fun x224 =>
        (zob h10 r5 8).bind fun p225 =>
        (zchk p225 h10).bind fun _ =>
        (fX6_count (zget p225 h10) x224).bind fun x226 =>
        if x223 = x226 then
          some (.inl (v9 + (6 : Int32), h10))
        else
          some (.inr (.inr ((0 : Int32), h10)))
      else some (.inl (v9 + (6 : Int32), h10)))
section STEPS
variable {X c1 c2 L : Nat} {h : Zh} {f : Nat → Int32} {v9 x : Int32} {a : Nat → Nat}

theorem ls_0 (st : LwS X c1 h) (hx : ((zix L v9).bind fun q => some (f q)) = some x) (ha : ∀ j, j < 6 → ∃ y, ((zix L (v9 + nI j)).bind fun q => some (f q)) = some y) (hE : ¬ (Int32.ofNat L - (6 : Int32)) < v9) (hk : x &&& (31 : Int32) = (0 : Int32)) : LW X c1 h (v9 + 6) (lawStep (c1, c2) (L, f) (some X) (some (X + 94)) v9 h) := by
  obtain ⟨ca, pa, m, p, f, cl, om, pc, ok, R, rl, rp, hc⟩ := id st
  have f0 := f.1
  unfold lawStep
  rw [if_neg hE, hx, Option.bind_some]
  rw [if_pos hk]
  rw [zob_v (by omega) f.2.1.1, Option.bind_some]
  exact lw_op (oC := fX5_open h (some X)) (opR := fun s => fX6_open s) _ R rl rp hc (oc_open f cl om pc) (fun s g q => by
    obtain ⟨s', e, l, d⟩ := ropen_eq g om
    exact or_log (S := fun a j => a = 0 ∧ j = 0) e l (fun a k hn => d a k hn) q (by omega) (by omega) (fun a k _ _ => by omega)) (mOK_open om) ok
theorem ls_1 (st : LwS X c1 h) (hx : ((zix L v9).bind fun q => some (f q)) = some x) (ha : ∀ j, j < 6 → ∃ y, ((zix L (v9 + nI j)).bind fun q => some (f q)) = some y) (hE : ¬ (Int32.ofNat L - (6 : Int32)) < v9) (hk : x &&& (31 : Int32) = (1 : Int32)) : LW X c1 h (v9 + 6) (lawStep (c1, c2) (L, f) (some X) (some (X + 94)) v9 h) := by
  obtain ⟨ca, pa, m, p, f, cl, om, pc, ok, R, rl, rp, hc⟩ := id st
  have f0 := f.1
  unfold lawStep
  rw [if_neg hE, hx, Option.bind_some]
  rw [if_neg (by rw [hk]; decide)]
  rw [if_pos hk]
  obtain ⟨a1, ha1⟩ := ha 1 (by omega)
  have ha1 : ((zix L (v9 + (1 : Int32))).bind fun q => some (_ : Int32)) = some a1 := ha1
  obtain ⟨a2, ha2⟩ := ha 2 (by omega)
  have ha2 : ((zix L (v9 + (2 : Int32))).bind fun q => some (_ : Int32)) = some a2 := ha2
  obtain ⟨a3, ha3⟩ := ha 3 (by omega)
  have ha3 : ((zix L (v9 + (3 : Int32))).bind fun q => some (_ : Int32)) = some a3 := ha3
  obtain ⟨a4, ha4⟩ := ha 4 (by omega)
  have ha4 : ((zix L (v9 + (4 : Int32))).bind fun q => some (_ : Int32)) = some a4 := ha4
  obtain ⟨a5, ha5⟩ := ha 5 (by omega)
  have ha5 : ((zix L (v9 + (5 : Int32))).bind fun q => some (_ : Int32)) = some a5 := ha5
  rw [ha1, Option.bind_some]
  rw [ha2, Option.bind_some]
  rw [ha3, Option.bind_some]
  rw [ha4, Option.bind_some]
  rw [ha5, Option.bind_some]
  rw [zob_v (by omega) f.2.1.1, Option.bind_some]
  simp only [ha1, ha2, ha3, ha4, ha5, Option.bind_some]
  exact lw_op (oC := fX5_add h (some X) a1 a2 a3 a4 a5) (opR := fun s => fX6_add s a1 a2 a3 a4 a5) _ R rl rp hc (oc_log f cl pc (cadd_eq f cl om a1 a2 a3 a4 a5)) (fun s g q => by
    obtain ⟨s', e, l, d⟩ := radd_eq g om a1 a2 a3 a4 a5
    exact or_log (S := fun a _ => 1 ≤ a ∧ a ≤ 6) e l (fun a k hn => d a k hn) q (by omega) (by omega) (fun a k _ _ => by omega)) (mOK_add om a1 a2 a3 a4 a5) ok
theorem ls_2 (st : LwS X c1 h) (hx : ((zix L v9).bind fun q => some (f q)) = some x) (ha : ∀ j, j < 6 → ∃ y, ((zix L (v9 + nI j)).bind fun q => some (f q)) = some y) (hE : ¬ (Int32.ofNat L - (6 : Int32)) < v9) (hk : x &&& (31 : Int32) = (2 : Int32)) : LW X c1 h (v9 + 6) (lawStep (c1, c2) (L, f) (some X) (some (X + 94)) v9 h) := by
  obtain ⟨ca, pa, m, p, f, cl, om, pc, ok, R, rl, rp, hc⟩ := id st
  have f0 := f.1
  unfold lawStep
  rw [if_neg hE, hx, Option.bind_some]
  rw [if_neg (by rw [hk]; decide)]
  rw [if_neg (by rw [hk]; decide)]
  rw [if_pos hk]
  obtain ⟨a1, ha1⟩ := ha 1 (by omega)
  have ha1 : ((zix L (v9 + (1 : Int32))).bind fun q => some (_ : Int32)) = some a1 := ha1
  rw [ha1, Option.bind_some]
  rw [zob_v (by omega) f.2.1.1, Option.bind_some]
  simp only [ha1, Option.bind_some]
  exact lw_op (oC := fX5_cut h (some X) a1) (opR := fun s => fX6_cut s a1) _ R rl rp hc (oc_log f cl pc (ccut_eq f cl om a1)) (fun s g q => by
    obtain ⟨s', e, l, d⟩ := rcut_eq g om a1
    exact or_log (S := fun a _ => a = 1) e l (fun a k hn => d a k hn) q (by omega) (by omega) (fun a k _ _ => by omega)) (mOK_cut om a1) ok
theorem ls_3 (st : LwS X c1 h) (hx : ((zix L v9).bind fun q => some (f q)) = some x) (ha : ∀ j, j < 6 → ∃ y, ((zix L (v9 + nI j)).bind fun q => some (f q)) = some y) (hE : ¬ (Int32.ofNat L - (6 : Int32)) < v9) (hk : x &&& (31 : Int32) = (3 : Int32)) : LW X c1 h (v9 + 6) (lawStep (c1, c2) (L, f) (some X) (some (X + 94)) v9 h) := by
  obtain ⟨ca, pa, m, p, f, cl, om, pc, ok, R, rl, rp, hc⟩ := id st
  have f0 := f.1
  unfold lawStep
  rw [if_neg hE, hx, Option.bind_some]
  rw [if_neg (by rw [hk]; decide)]
  rw [if_neg (by rw [hk]; decide)]
  rw [if_neg (by rw [hk]; decide)]
  rw [if_pos hk]
  obtain ⟨a1, ha1⟩ := ha 1 (by omega)
  have ha1 : ((zix L (v9 + (1 : Int32))).bind fun q => some (_ : Int32)) = some a1 := ha1
  obtain ⟨a2, ha2⟩ := ha 2 (by omega)
  have ha2 : ((zix L (v9 + (2 : Int32))).bind fun q => some (_ : Int32)) = some a2 := ha2
  rw [ha1, Option.bind_some]
  rw [ha2, Option.bind_some]
  obtain ⟨b2, hb2, eb2⟩ : ∃ b : Int32, (b = 0 ∨ b = 1) ∧ (if a2 = 0 then some (0 : Int32) else some (1 : Int32)) = some b := by
    by_cases z : a2 = 0
    · exact ⟨0, Or.inl rfl, if_pos z⟩
    · exact ⟨1, Or.inr rfl, if_neg z⟩
  rw [eb2, Option.bind_some]
  rw [zob_v (by omega) f.2.1.1, Option.bind_some]
  simp only [ha1, ha2, Option.bind_some, eb2]
  exact lw_op (oC := fX5_drop h (some X) a1 b2) (opR := fun s => fX6_drop s a1 b2) _ R rl rp hc (oc_log f cl pc (cdrop_eq f cl om a1 b2 hb2)) (fun s g q => by
    obtain ⟨s', e, l, d⟩ := rdrop_eq g om a1 b2 hb2
    exact or_log (S := fun a _ => a = 2) e l (fun a k hn => d a k hn) q (by omega) (by omega) (fun a k _ _ => by omega)) (mOK_drop om a1 b2) ok
theorem ls_4 (st : LwS X c1 h) (hx : ((zix L v9).bind fun q => some (f q)) = some x) (ha : ∀ j, j < 6 → ∃ y, ((zix L (v9 + nI j)).bind fun q => some (f q)) = some y) (hE : ¬ (Int32.ofNat L - (6 : Int32)) < v9) (hk : x &&& (31 : Int32) = (4 : Int32)) : LW X c1 h (v9 + 6) (lawStep (c1, c2) (L, f) (some X) (some (X + 94)) v9 h) := by
  obtain ⟨ca, pa, m, p, f, cl, om, pc, ok, R, rl, rp, hc⟩ := id st
  have f0 := f.1
  unfold lawStep
  rw [if_neg hE, hx, Option.bind_some]
  rw [if_neg (by rw [hk]; decide)]
  rw [if_neg (by rw [hk]; decide)]
  rw [if_neg (by rw [hk]; decide)]
  rw [if_neg (by rw [hk]; decide)]
  rw [if_pos hk]
  obtain ⟨a1, ha1⟩ := ha 1 (by omega)
  have ha1 : ((zix L (v9 + (1 : Int32))).bind fun q => some (_ : Int32)) = some a1 := ha1
  obtain ⟨a2, ha2⟩ := ha 2 (by omega)
  have ha2 : ((zix L (v9 + (2 : Int32))).bind fun q => some (_ : Int32)) = some a2 := ha2
  obtain ⟨a3, ha3⟩ := ha 3 (by omega)
  have ha3 : ((zix L (v9 + (3 : Int32))).bind fun q => some (_ : Int32)) = some a3 := ha3
  rw [ha1, Option.bind_some]
  rw [ha2, Option.bind_some]
  rw [ha3, Option.bind_some]
  rw [zob_v (by omega) f.2.1.1, Option.bind_some]
  simp only [ha1, ha2, ha3, Option.bind_some]
  exact lw_pure (oC := fX5_told h (some X) a1 a2 a3) (opR := fun s => fX6_told s a1 a2 a3) _ st R rl rp (ctold_eq f cl om a1 a2 a3) (fun s g q => rtold_eq g om a1 a2 a3)
theorem ls_5 (st : LwS X c1 h) (hx : ((zix L v9).bind fun q => some (f q)) = some x) (ha : ∀ j, j < 6 → ∃ y, ((zix L (v9 + nI j)).bind fun q => some (f q)) = some y) (hE : ¬ (Int32.ofNat L - (6 : Int32)) < v9) (hk : x &&& (31 : Int32) = (5 : Int32)) : LW X c1 h (v9 + 6) (lawStep (c1, c2) (L, f) (some X) (some (X + 94)) v9 h) := by
  obtain ⟨ca, pa, m, p, f, cl, om, pc, ok, R, rl, rp, hc⟩ := id st
  have f0 := f.1
  unfold lawStep
  rw [if_neg hE, hx, Option.bind_some]
  rw [if_neg (by rw [hk]; decide)]
  rw [if_neg (by rw [hk]; decide)]
  rw [if_neg (by rw [hk]; decide)]
  rw [if_neg (by rw [hk]; decide)]
  rw [if_neg (by rw [hk]; decide)]
  rw [if_pos hk]
  obtain ⟨a1, ha1⟩ := ha 1 (by omega)
  have ha1 : ((zix L (v9 + (1 : Int32))).bind fun q => some (_ : Int32)) = some a1 := ha1
  obtain ⟨a2, ha2⟩ := ha 2 (by omega)
  have ha2 : ((zix L (v9 + (2 : Int32))).bind fun q => some (_ : Int32)) = some a2 := ha2
  rw [ha1, Option.bind_some]
  rw [ha2, Option.bind_some]
  rw [zob_v (by omega) f.2.1.1, Option.bind_some]
  simp only [ha1, ha2, Option.bind_some]
  exact lw_pure (oC := fX5_follows h (some X) a1 a2) (opR := fun s => fX6_follows s a1 a2) _ st R rl rp (cfollows_eq f cl om a1 a2) (fun s g q => rfollows_eq g om a1 a2)
theorem ls_6 (st : LwS X c1 h) (hx : ((zix L v9).bind fun q => some (f q)) = some x) (ha : ∀ j, j < 6 → ∃ y, ((zix L (v9 + nI j)).bind fun q => some (f q)) = some y) (hE : ¬ (Int32.ofNat L - (6 : Int32)) < v9) (hk : x &&& (31 : Int32) = (6 : Int32)) : LW X c1 h (v9 + 6) (lawStep (c1, c2) (L, f) (some X) (some (X + 94)) v9 h) := by
  obtain ⟨ca, pa, m, p, f, cl, om, pc, ok, R, rl, rp, hc⟩ := id st
  have f0 := f.1
  unfold lawStep
  rw [if_neg hE, hx, Option.bind_some]
  rw [if_neg (by rw [hk]; decide)]
  rw [if_neg (by rw [hk]; decide)]
  rw [if_neg (by rw [hk]; decide)]
  rw [if_neg (by rw [hk]; decide)]
  rw [if_neg (by rw [hk]; decide)]
  rw [if_neg (by rw [hk]; decide)]
  rw [if_pos hk]
  obtain ⟨a1, ha1⟩ := ha 1 (by omega)
  have ha1 : ((zix L (v9 + (1 : Int32))).bind fun q => some (_ : Int32)) = some a1 := ha1
  obtain ⟨a2, ha2⟩ := ha 2 (by omega)
  have ha2 : ((zix L (v9 + (2 : Int32))).bind fun q => some (_ : Int32)) = some a2 := ha2
  rw [ha1, Option.bind_some]
  rw [ha2, Option.bind_some]
  rw [zob_v (by omega) f.2.1.1, Option.bind_some]
  simp only [ha1, ha2, Option.bind_some]
  exact lw_pure (oC := fX5_stands h (some X) a1 a2) (opR := fun s => fX6_stands s a1 a2) _ st R rl rp (cstands_eq f cl om a1 a2) (fun s g q => rstands_eq g om a1 a2)
theorem ls_7 (st : LwS X c1 h) (hx : ((zix L v9).bind fun q => some (f q)) = some x) (ha : ∀ j, j < 6 → ∃ y, ((zix L (v9 + nI j)).bind fun q => some (f q)) = some y) (hE : ¬ (Int32.ofNat L - (6 : Int32)) < v9) (hk : x &&& (31 : Int32) = (7 : Int32)) : LW X c1 h (v9 + 6) (lawStep (c1, c2) (L, f) (some X) (some (X + 94)) v9 h) := by
  obtain ⟨ca, pa, m, p, f, cl, om, pc, ok, R, rl, rp, hc⟩ := id st
  have f0 := f.1
  unfold lawStep
  rw [if_neg hE, hx, Option.bind_some]
  rw [if_neg (by rw [hk]; decide)]
  rw [if_neg (by rw [hk]; decide)]
  rw [if_neg (by rw [hk]; decide)]
  rw [if_neg (by rw [hk]; decide)]
  rw [if_neg (by rw [hk]; decide)]
  rw [if_neg (by rw [hk]; decide)]
  rw [if_neg (by rw [hk]; decide)]
  rw [if_pos hk]
  obtain ⟨a1, ha1⟩ := ha 1 (by omega)
  have ha1 : ((zix L (v9 + (1 : Int32))).bind fun q => some (_ : Int32)) = some a1 := ha1
  rw [ha1, Option.bind_some]
  rw [zob_v (by omega) f.2.1.1, Option.bind_some]
  simp only [ha1, Option.bind_some]
  exact lw_op (oC := fX5_deed h (some X) a1) (opR := fun s => fX6_deed s a1) _ R rl rp hc (oc_pf f cl (by decide : 2 ≤ 1000) (by decide : 200 ≤ 13000) (cdeed_eq f pc ok a1)) (fun s g q => by
    obtain ⟨s', e, q', d⟩ := rdeed_eq q ok a1
    exact or_pc e g d q' (fun z => by omega) (fun a k _ _ z => by omega)) om (pDeed_OK ok a1)
theorem ls_8 (st : LwS X c1 h) (hx : ((zix L v9).bind fun q => some (f q)) = some x) (ha : ∀ j, j < 6 → ∃ y, ((zix L (v9 + nI j)).bind fun q => some (f q)) = some y) (hE : ¬ (Int32.ofNat L - (6 : Int32)) < v9) (hk : x &&& (31 : Int32) = (8 : Int32)) : LW X c1 h (v9 + 6) (lawStep (c1, c2) (L, f) (some X) (some (X + 94)) v9 h) := by
  obtain ⟨ca, pa, m, p, f, cl, om, pc, ok, R, rl, rp, hc⟩ := id st
  have f0 := f.1
  unfold lawStep
  rw [if_neg hE, hx, Option.bind_some]
  rw [if_neg (by rw [hk]; decide)]
  rw [if_neg (by rw [hk]; decide)]
  rw [if_neg (by rw [hk]; decide)]
  rw [if_neg (by rw [hk]; decide)]
  rw [if_neg (by rw [hk]; decide)]
  rw [if_neg (by rw [hk]; decide)]
  rw [if_neg (by rw [hk]; decide)]
  rw [if_neg (by rw [hk]; decide)]
  rw [if_pos hk]
  obtain ⟨a1, ha1⟩ := ha 1 (by omega)
  have ha1 : ((zix L (v9 + (1 : Int32))).bind fun q => some (_ : Int32)) = some a1 := ha1
  obtain ⟨a2, ha2⟩ := ha 2 (by omega)
  have ha2 : ((zix L (v9 + (2 : Int32))).bind fun q => some (_ : Int32)) = some a2 := ha2
  obtain ⟨a3, ha3⟩ := ha 3 (by omega)
  have ha3 : ((zix L (v9 + (3 : Int32))).bind fun q => some (_ : Int32)) = some a3 := ha3
  rw [ha1, Option.bind_some]
  rw [ha2, Option.bind_some]
  rw [ha3, Option.bind_some]
  rw [zob_v (by omega) f.2.1.1, Option.bind_some]
  simp only [ha1, ha2, ha3, Option.bind_some]
  exact lw_op (oC := fX5_join h (some X) a1 a2 a3) (opR := fun s => fX6_join s a1 a2 a3) _ R rl rp hc (oc_pf f cl (by decide : 2 ≤ 1000) (by decide : 200 ≤ 13000) (cjoin_eq f pc ok a1 a2 a3)) (fun s g q => by
    obtain ⟨s', e, q', d⟩ := rjoin_eq q ok a1 a2 a3
    exact or_pc e g d q' (fun z => by omega) (fun a k _ _ z => by omega)) om (pJoin_OK ok a1 a2 a3)
theorem ls_9 (st : LwS X c1 h) (hx : ((zix L v9).bind fun q => some (f q)) = some x) (ha : ∀ j, j < 6 → ∃ y, ((zix L (v9 + nI j)).bind fun q => some (f q)) = some y) (hE : ¬ (Int32.ofNat L - (6 : Int32)) < v9) (hk : x &&& (31 : Int32) = (9 : Int32)) : LW X c1 h (v9 + 6) (lawStep (c1, c2) (L, f) (some X) (some (X + 94)) v9 h) := by
  obtain ⟨ca, pa, m, p, f, cl, om, pc, ok, R, rl, rp, hc⟩ := id st
  have f0 := f.1
  unfold lawStep
  rw [if_neg hE, hx, Option.bind_some]
  rw [if_neg (by rw [hk]; decide)]
  rw [if_neg (by rw [hk]; decide)]
  rw [if_neg (by rw [hk]; decide)]
  rw [if_neg (by rw [hk]; decide)]
  rw [if_neg (by rw [hk]; decide)]
  rw [if_neg (by rw [hk]; decide)]
  rw [if_neg (by rw [hk]; decide)]
  rw [if_neg (by rw [hk]; decide)]
  rw [if_neg (by rw [hk]; decide)]
  rw [if_pos hk]
  obtain ⟨a1, ha1⟩ := ha 1 (by omega)
  have ha1 : ((zix L (v9 + (1 : Int32))).bind fun q => some (_ : Int32)) = some a1 := ha1
  obtain ⟨a2, ha2⟩ := ha 2 (by omega)
  have ha2 : ((zix L (v9 + (2 : Int32))).bind fun q => some (_ : Int32)) = some a2 := ha2
  rw [ha1, Option.bind_some]
  rw [ha2, Option.bind_some]
  rw [zob_v (by omega) f.2.1.1, Option.bind_some]
  simp only [ha1, ha2, Option.bind_some]
  exact lw_op (oC := fX5_more h (some X) a1 a2) (opR := fun s => fX6_more s a1 a2) _ R rl rp hc (oc_pf f cl (by decide : 2 ≤ 1000) (by decide : 200 ≤ 13000) (cmore_eq f pc ok a1 a2)) (fun s g q => by
    obtain ⟨s', e, q', d⟩ := rmore_eq q ok a1 a2
    exact or_pc e g d q' (fun z => by omega) (fun a k _ _ z => by omega)) om (pMore_OK ok a1 a2)
theorem ls_10 (st : LwS X c1 h) (hx : ((zix L v9).bind fun q => some (f q)) = some x) (ha : ∀ j, j < 6 → ∃ y, ((zix L (v9 + nI j)).bind fun q => some (f q)) = some y) (hE : ¬ (Int32.ofNat L - (6 : Int32)) < v9) (hk : x &&& (31 : Int32) = (10 : Int32)) : LW X c1 h (v9 + 6) (lawStep (c1, c2) (L, f) (some X) (some (X + 94)) v9 h) := by
  obtain ⟨ca, pa, m, p, f, cl, om, pc, ok, R, rl, rp, hc⟩ := id st
  have f0 := f.1
  unfold lawStep
  rw [if_neg hE, hx, Option.bind_some]
  rw [if_neg (by rw [hk]; decide)]
  rw [if_neg (by rw [hk]; decide)]
  rw [if_neg (by rw [hk]; decide)]
  rw [if_neg (by rw [hk]; decide)]
  rw [if_neg (by rw [hk]; decide)]
  rw [if_neg (by rw [hk]; decide)]
  rw [if_neg (by rw [hk]; decide)]
  rw [if_neg (by rw [hk]; decide)]
  rw [if_neg (by rw [hk]; decide)]
  rw [if_neg (by rw [hk]; decide)]
  rw [if_pos hk]
  obtain ⟨a1, ha1⟩ := ha 1 (by omega)
  have ha1 : ((zix L (v9 + (1 : Int32))).bind fun q => some (_ : Int32)) = some a1 := ha1
  obtain ⟨a2, ha2⟩ := ha 2 (by omega)
  have ha2 : ((zix L (v9 + (2 : Int32))).bind fun q => some (_ : Int32)) = some a2 := ha2
  rw [ha1, Option.bind_some]
  rw [ha2, Option.bind_some]
  rw [zob_v (by omega) f.2.1.1, Option.bind_some]
  simp only [ha1, ha2, Option.bind_some]
  exact lw_pure (oC := fX5_piece h (some X) a1 a2) (opR := fun s => fX6_piece s a1 a2) _ st R rl rp (cpiece_eq f pc ok a1 a2) (fun s g q => rpiece_eq q ok a1 a2)
theorem ls_11 (st : LwS X c1 h) (hx : ((zix L v9).bind fun q => some (f q)) = some x) (ha : ∀ j, j < 6 → ∃ y, ((zix L (v9 + nI j)).bind fun q => some (f q)) = some y) (hE : ¬ (Int32.ofNat L - (6 : Int32)) < v9) (hk : x &&& (31 : Int32) = (11 : Int32)) : LW X c1 h (v9 + 6) (lawStep (c1, c2) (L, f) (some X) (some (X + 94)) v9 h) := by
  obtain ⟨ca, pa, m, p, f, cl, om, pc, ok, R, rl, rp, hc⟩ := id st
  have f0 := f.1
  unfold lawStep
  rw [if_neg hE, hx, Option.bind_some]
  rw [if_neg (by rw [hk]; decide)]
  rw [if_neg (by rw [hk]; decide)]
  rw [if_neg (by rw [hk]; decide)]
  rw [if_neg (by rw [hk]; decide)]
  rw [if_neg (by rw [hk]; decide)]
  rw [if_neg (by rw [hk]; decide)]
  rw [if_neg (by rw [hk]; decide)]
  rw [if_neg (by rw [hk]; decide)]
  rw [if_neg (by rw [hk]; decide)]
  rw [if_neg (by rw [hk]; decide)]
  rw [if_neg (by rw [hk]; decide)]
  rw [if_pos hk]
  obtain ⟨a1, ha1⟩ := ha 1 (by omega)
  have ha1 : ((zix L (v9 + (1 : Int32))).bind fun q => some (_ : Int32)) = some a1 := ha1
  rw [ha1, Option.bind_some]
  rw [zob_v (by omega) f.2.1.1, Option.bind_some]
  simp only [ha1, Option.bind_some]
  exact lw_op (oC := fX5_plain (c1, c2) h (some X) a1) (opR := fun s => fX6_plain s a1) _ R rl rp hc (oc_pf f cl (Nat.le_refl 1000) (Nat.le_refl 13000) (cplain_eq f pc ok hc a1)) (fun s g q => by
    obtain ⟨⟨v, s'⟩, e, e1, q', d⟩ := rplainT q ok a1
    dsimp only at e1 q' d
    subst e1
    exact or_pc e g d q' (fun z => by dsimp [sPn] at z; omega) (fun a k _ _ z => by dsimp [sPn] at z; omega)) om (pPlain_OK ok a1)
theorem ls_12 (st : LwS X c1 h) (hx : ((zix L v9).bind fun q => some (f q)) = some x) (ha : ∀ j, j < 6 → ∃ y, ((zix L (v9 + nI j)).bind fun q => some (f q)) = some y) (hE : ¬ (Int32.ofNat L - (6 : Int32)) < v9) (hk : x &&& (31 : Int32) = (12 : Int32)) : LW X c1 h (v9 + 6) (lawStep (c1, c2) (L, f) (some X) (some (X + 94)) v9 h) := by
  obtain ⟨ca, pa, m, p, f, cl, om, pc, ok, R, rl, rp, hc⟩ := id st
  have f0 := f.1
  unfold lawStep
  rw [if_neg hE, hx, Option.bind_some]
  rw [if_neg (by rw [hk]; decide)]
  rw [if_neg (by rw [hk]; decide)]
  rw [if_neg (by rw [hk]; decide)]
  rw [if_neg (by rw [hk]; decide)]
  rw [if_neg (by rw [hk]; decide)]
  rw [if_neg (by rw [hk]; decide)]
  rw [if_neg (by rw [hk]; decide)]
  rw [if_neg (by rw [hk]; decide)]
  rw [if_neg (by rw [hk]; decide)]
  rw [if_neg (by rw [hk]; decide)]
  rw [if_neg (by rw [hk]; decide)]
  rw [if_neg (by rw [hk]; decide)]
  rw [if_pos hk]
  obtain ⟨a1, ha1⟩ := ha 1 (by omega)
  have ha1 : ((zix L (v9 + (1 : Int32))).bind fun q => some (_ : Int32)) = some a1 := ha1
  obtain ⟨a2, ha2⟩ := ha 2 (by omega)
  have ha2 : ((zix L (v9 + (2 : Int32))).bind fun q => some (_ : Int32)) = some a2 := ha2
  rw [ha1, Option.bind_some]
  rw [ha2, Option.bind_some]
  rw [zob_v (by omega) f.2.1.1, Option.bind_some]
  simp only [ha1, ha2, Option.bind_some]
  exact lw_mix (oC := fX5_like h (some X) a1 a2) (opR := fun s => fX6_like s a1 a2) _ f cl om pc ok R rl rp hc (clike_eq f pc ok a1 a2) (fun s g q => by
    obtain ⟨s', e, d⟩ := rplike_eq q ok a1 a2
    exact or_no e g d q (fun z => by dsimp [sLk] at z; omega) (fun z => by dsimp [sLk] at z; omega) (fun z => by dsimp [sLk] at z; omega) (fun a k _ _ z => by dsimp [sLk] at z; omega))
theorem ls_13 (hfind : FindOK) (st : LwS X c1 h) (hx : ((zix L v9).bind fun q => some (f q)) = some x) (ha : ∀ j, j < 6 → ∃ y, ((zix L (v9 + nI j)).bind fun q => some (f q)) = some y) (hE : ¬ (Int32.ofNat L - (6 : Int32)) < v9) (hk : x &&& (31 : Int32) = (13 : Int32)) : LW X c1 h (v9 + 6) (lawStep (c1, c2) (L, f) (some X) (some (X + 94)) v9 h) := by
  obtain ⟨ca, pa, m, p, f, cl, om, pc, ok, R, rl, rp, hc⟩ := id st
  have f0 := f.1
  unfold lawStep
  rw [if_neg hE, hx, Option.bind_some]
  rw [if_neg (by rw [hk]; decide)]
  rw [if_neg (by rw [hk]; decide)]
  rw [if_neg (by rw [hk]; decide)]
  rw [if_neg (by rw [hk]; decide)]
  rw [if_neg (by rw [hk]; decide)]
  rw [if_neg (by rw [hk]; decide)]
  rw [if_neg (by rw [hk]; decide)]
  rw [if_neg (by rw [hk]; decide)]
  rw [if_neg (by rw [hk]; decide)]
  rw [if_neg (by rw [hk]; decide)]
  rw [if_neg (by rw [hk]; decide)]
  rw [if_neg (by rw [hk]; decide)]
  rw [if_neg (by rw [hk]; decide)]
  rw [if_pos hk]
  rw [zob_v (by omega) f.2.1.1, Option.bind_some]
  obtain ⟨v, p', ok', C, Rr⟩ := hfind X h ca pa m p f cl om pc ok
  exact lw_op (oC := fX5_find h (some X)) (opR := fun s => fX6_find s) _ R rl rp hc C Rr om ok'
theorem ls_14 (st : LwS X c1 h) (hx : ((zix L v9).bind fun q => some (f q)) = some x) (ha : ∀ j, j < 6 → ∃ y, ((zix L (v9 + nI j)).bind fun q => some (f q)) = some y) (hE : ¬ (Int32.ofNat L - (6 : Int32)) < v9) (hk : x &&& (31 : Int32) = (14 : Int32)) : LW X c1 h (v9 + 6) (lawStep (c1, c2) (L, f) (some X) (some (X + 94)) v9 h) := by
  obtain ⟨ca, pa, m, p, f, cl, om, pc, ok, R, rl, rp, hc⟩ := id st
  have f0 := f.1
  unfold lawStep
  rw [if_neg hE, hx, Option.bind_some]
  rw [if_neg (by rw [hk]; decide)]
  rw [if_neg (by rw [hk]; decide)]
  rw [if_neg (by rw [hk]; decide)]
  rw [if_neg (by rw [hk]; decide)]
  rw [if_neg (by rw [hk]; decide)]
  rw [if_neg (by rw [hk]; decide)]
  rw [if_neg (by rw [hk]; decide)]
  rw [if_neg (by rw [hk]; decide)]
  rw [if_neg (by rw [hk]; decide)]
  rw [if_neg (by rw [hk]; decide)]
  rw [if_neg (by rw [hk]; decide)]
  rw [if_neg (by rw [hk]; decide)]
  rw [if_neg (by rw [hk]; decide)]
  rw [if_neg (by rw [hk]; decide)]
  rw [if_pos hk]
  obtain ⟨a1, ha1⟩ := ha 1 (by omega)
  have ha1 : ((zix L (v9 + (1 : Int32))).bind fun q => some (_ : Int32)) = some a1 := ha1
  obtain ⟨a2, ha2⟩ := ha 2 (by omega)
  have ha2 : ((zix L (v9 + (2 : Int32))).bind fun q => some (_ : Int32)) = some a2 := ha2
  rw [ha1, Option.bind_some]
  rw [ha2, Option.bind_some]
  rw [zob_v (by omega) f.2.1.1, Option.bind_some]
  simp only [ha1, ha2, Option.bind_some]
  exact lw_op (oC := fX5_price h (some X) a1 a2) (opR := fun s => fX6_price s a1 a2) _ R rl rp hc (oc_lay f R cl pc ok (cpb_eq f cl om pc.2 pc.1 ok a1 a2).1) (fun s g q => by
    obtain ⟨⟨v, s'⟩, e, e1, d⟩ := (rpb_eq g om q ok a1 a2).1
    dsimp only at e1 d
    subst e1
    exact or_no e g d q (fun z => by dsimp [sLc] at z; omega) (fun z => by dsimp [sLc] at z; omega) (fun z => by dsimp [sLc] at z; omega) (fun a k _ _ z => by dsimp [sLc] at z; omega)) om ok
theorem ls_15 (st : LwS X c1 h) (hx : ((zix L v9).bind fun q => some (f q)) = some x) (ha : ∀ j, j < 6 → ∃ y, ((zix L (v9 + nI j)).bind fun q => some (f q)) = some y) (hE : ¬ (Int32.ofNat L - (6 : Int32)) < v9) (hk : x &&& (31 : Int32) = (15 : Int32)) : LW X c1 h (v9 + 6) (lawStep (c1, c2) (L, f) (some X) (some (X + 94)) v9 h) := by
  obtain ⟨ca, pa, m, p, f, cl, om, pc, ok, R, rl, rp, hc⟩ := id st
  have f0 := f.1
  unfold lawStep
  rw [if_neg hE, hx, Option.bind_some]
  rw [if_neg (by rw [hk]; decide)]
  rw [if_neg (by rw [hk]; decide)]
  rw [if_neg (by rw [hk]; decide)]
  rw [if_neg (by rw [hk]; decide)]
  rw [if_neg (by rw [hk]; decide)]
  rw [if_neg (by rw [hk]; decide)]
  rw [if_neg (by rw [hk]; decide)]
  rw [if_neg (by rw [hk]; decide)]
  rw [if_neg (by rw [hk]; decide)]
  rw [if_neg (by rw [hk]; decide)]
  rw [if_neg (by rw [hk]; decide)]
  rw [if_neg (by rw [hk]; decide)]
  rw [if_neg (by rw [hk]; decide)]
  rw [if_neg (by rw [hk]; decide)]
  rw [if_neg (by rw [hk]; decide)]
  rw [if_pos hk]
  obtain ⟨a1, ha1⟩ := ha 1 (by omega)
  have ha1 : ((zix L (v9 + (1 : Int32))).bind fun q => some (_ : Int32)) = some a1 := ha1
  obtain ⟨a2, ha2⟩ := ha 2 (by omega)
  have ha2 : ((zix L (v9 + (2 : Int32))).bind fun q => some (_ : Int32)) = some a2 := ha2
  rw [ha1, Option.bind_some]
  rw [ha2, Option.bind_some]
  rw [zob_v (by omega) f.2.1.1, Option.bind_some]
  simp only [ha1, ha2, Option.bind_some]
  exact lw_op (oC := fX5_both h (some X) a1 a2) (opR := fun s => fX6_both s a1 a2) _ R rl rp hc (oc_lay f R cl pc ok (cpb_eq f cl om pc.2 pc.1 ok a1 a2).2) (fun s g q => by
    obtain ⟨⟨v, s'⟩, e, e1, d⟩ := (rpb_eq g om q ok a1 a2).2
    dsimp only at e1 d
    subst e1
    exact or_no e g d q (fun z => by dsimp [sLc] at z; omega) (fun z => by dsimp [sLc] at z; omega) (fun z => by dsimp [sLc] at z; omega) (fun a k _ _ z => by dsimp [sLc] at z; omega)) om ok
theorem ls_16 (st : LwS X c1 h) (hx : ((zix L v9).bind fun q => some (f q)) = some x) (ha : ∀ j, j < 6 → ∃ y, ((zix L (v9 + nI j)).bind fun q => some (f q)) = some y) (hE : ¬ (Int32.ofNat L - (6 : Int32)) < v9) (hk : x &&& (31 : Int32) = (16 : Int32)) : LW X c1 h (v9 + 6) (lawStep (c1, c2) (L, f) (some X) (some (X + 94)) v9 h) := by
  obtain ⟨ca, pa, m, p, f, cl, om, pc, ok, R, rl, rp, hc⟩ := id st
  have f0 := f.1
  unfold lawStep
  rw [if_neg hE, hx, Option.bind_some]
  rw [if_neg (by rw [hk]; decide)]
  rw [if_neg (by rw [hk]; decide)]
  rw [if_neg (by rw [hk]; decide)]
  rw [if_neg (by rw [hk]; decide)]
  rw [if_neg (by rw [hk]; decide)]
  rw [if_neg (by rw [hk]; decide)]
  rw [if_neg (by rw [hk]; decide)]
  rw [if_neg (by rw [hk]; decide)]
  rw [if_neg (by rw [hk]; decide)]
  rw [if_neg (by rw [hk]; decide)]
  rw [if_neg (by rw [hk]; decide)]
  rw [if_neg (by rw [hk]; decide)]
  rw [if_neg (by rw [hk]; decide)]
  rw [if_neg (by rw [hk]; decide)]
  rw [if_neg (by rw [hk]; decide)]
  rw [if_neg (by rw [hk]; decide)]
  rw [if_pos hk]
  obtain ⟨a1, ha1⟩ := ha 1 (by omega)
  have ha1 : ((zix L (v9 + (1 : Int32))).bind fun q => some (_ : Int32)) = some a1 := ha1
  rw [ha1, Option.bind_some]
  rw [zob_v (by omega) f.2.1.1, Option.bind_some]
  simp only [ha1, Option.bind_some]
  exact lw_mix (oC := fX5_shortest h (some X) a1) (opR := fun s => fX6_shortest s a1) _ f cl om pc ok R rl rp hc (cshort_eq f pc.2 pc.1 ok a1) (fun s g q => by
    obtain ⟨⟨v, s'⟩, e, e1, d⟩ := rshort_eq q ok a1
    dsimp only at e1 d
    subst e1
    exact or_no e g d q (fun z => by dsimp [sLc] at z; omega) (fun z => by dsimp [sLc] at z; omega) (fun z => by dsimp [sLc] at z; omega) (fun a k _ _ z => by dsimp [sLc] at z; omega))
theorem ls_17 (st : LwS X c1 h) (hx : ((zix L v9).bind fun q => some (f q)) = some x) (ha : ∀ j, j < 6 → ∃ y, ((zix L (v9 + nI j)).bind fun q => some (f q)) = some y) (hE : ¬ (Int32.ofNat L - (6 : Int32)) < v9) (hk : x &&& (31 : Int32) = (17 : Int32)) : LW X c1 h (v9 + 6) (lawStep (c1, c2) (L, f) (some X) (some (X + 94)) v9 h) := by
  obtain ⟨ca, pa, m, p, f, cl, om, pc, ok, R, rl, rp, hc⟩ := id st
  have f0 := f.1
  unfold lawStep
  rw [if_neg hE, hx, Option.bind_some]
  rw [if_neg (by rw [hk]; decide)]
  rw [if_neg (by rw [hk]; decide)]
  rw [if_neg (by rw [hk]; decide)]
  rw [if_neg (by rw [hk]; decide)]
  rw [if_neg (by rw [hk]; decide)]
  rw [if_neg (by rw [hk]; decide)]
  rw [if_neg (by rw [hk]; decide)]
  rw [if_neg (by rw [hk]; decide)]
  rw [if_neg (by rw [hk]; decide)]
  rw [if_neg (by rw [hk]; decide)]
  rw [if_neg (by rw [hk]; decide)]
  rw [if_neg (by rw [hk]; decide)]
  rw [if_neg (by rw [hk]; decide)]
  rw [if_neg (by rw [hk]; decide)]
  rw [if_neg (by rw [hk]; decide)]
  rw [if_neg (by rw [hk]; decide)]
  rw [if_neg (by rw [hk]; decide)]
  rw [if_pos hk]
  obtain ⟨a1, ha1⟩ := ha 1 (by omega)
  have ha1 : ((zix L (v9 + (1 : Int32))).bind fun q => some (_ : Int32)) = some a1 := ha1
  obtain ⟨a2, ha2⟩ := ha 2 (by omega)
  have ha2 : ((zix L (v9 + (2 : Int32))).bind fun q => some (_ : Int32)) = some a2 := ha2
  rw [ha1, Option.bind_some]
  rw [ha2, Option.bind_some]
  rw [zob_v (by omega) f.2.1.1, Option.bind_some]
  simp only [ha1, ha2, Option.bind_some]
  exact lw_op (oC := fX5_fit h (some X) a1 a2) (opR := fun s => fX6_fit s a1 a2) _ R rl rp hc (oc_lay f R cl pc ok (cfit_eq f cl om pc.2 pc.1 ok a1 a2)) (fun s g q => by
    obtain ⟨⟨v, s'⟩, e, e1, d⟩ := rfit_eq g om q ok a1 a2
    dsimp only at e1 d
    subst e1
    exact or_no e g d q (fun z => by dsimp [sLc] at z; omega) (fun z => by dsimp [sLc] at z; omega) (fun z => by dsimp [sLc] at z; omega) (fun a k _ _ z => by dsimp [sLc] at z; omega)) om ok
theorem ls_18 (st : LwS X c1 h) (hx : ((zix L v9).bind fun q => some (f q)) = some x) (ha : ∀ j, j < 6 → ∃ y, ((zix L (v9 + nI j)).bind fun q => some (f q)) = some y) (hE : ¬ (Int32.ofNat L - (6 : Int32)) < v9) (hk : x &&& (31 : Int32) = (18 : Int32)) : LW X c1 h (v9 + 6) (lawStep (c1, c2) (L, f) (some X) (some (X + 94)) v9 h) := by
  obtain ⟨ca, pa, m, p, f, cl, om, pc, ok, R, rl, rp, hc⟩ := id st
  have f0 := f.1
  unfold lawStep
  rw [if_neg hE, hx, Option.bind_some]
  rw [if_neg (by rw [hk]; decide)]
  rw [if_neg (by rw [hk]; decide)]
  rw [if_neg (by rw [hk]; decide)]
  rw [if_neg (by rw [hk]; decide)]
  rw [if_neg (by rw [hk]; decide)]
  rw [if_neg (by rw [hk]; decide)]
  rw [if_neg (by rw [hk]; decide)]
  rw [if_neg (by rw [hk]; decide)]
  rw [if_neg (by rw [hk]; decide)]
  rw [if_neg (by rw [hk]; decide)]
  rw [if_neg (by rw [hk]; decide)]
  rw [if_neg (by rw [hk]; decide)]
  rw [if_neg (by rw [hk]; decide)]
  rw [if_neg (by rw [hk]; decide)]
  rw [if_neg (by rw [hk]; decide)]
  rw [if_neg (by rw [hk]; decide)]
  rw [if_neg (by rw [hk]; decide)]
  rw [if_neg (by rw [hk]; decide)]
  rw [if_pos hk]
  obtain ⟨a1, ha1⟩ := ha 1 (by omega)
  have ha1 : ((zix L (v9 + (1 : Int32))).bind fun q => some (_ : Int32)) = some a1 := ha1
  obtain ⟨a2, ha2⟩ := ha 2 (by omega)
  have ha2 : ((zix L (v9 + (2 : Int32))).bind fun q => some (_ : Int32)) = some a2 := ha2
  rw [ha1, Option.bind_some]
  rw [ha2, Option.bind_some]
  rw [zob_v (by omega) f.2.1.1, Option.bind_some]
  simp only [ha1, ha2, Option.bind_some]
  exact lw_op (oC := fX5_work h (some X) a1 a2) (opR := fun s => fX6_work s a1 a2) _ R rl rp hc (oc_no f cl pc (cwork_eq f cl om a1 a2)) (fun s g q => by
    obtain ⟨s', e, d⟩ := rwork_eq g om a1 a2
    exact or_no e g d q (fun z => by dsimp [sTimes] at z; omega) (fun z => by dsimp [sTimes] at z; omega) (fun z => by dsimp [sTimes] at z; omega) (fun a k _ _ z => by dsimp [sTimes] at z; omega)) om ok
theorem ls_19 (st : LwS X c1 h) (hx : ((zix L v9).bind fun q => some (f q)) = some x) (ha : ∀ j, j < 6 → ∃ y, ((zix L (v9 + nI j)).bind fun q => some (f q)) = some y) (hE : ¬ (Int32.ofNat L - (6 : Int32)) < v9) (hk : x &&& (31 : Int32) = (19 : Int32)) : LW X c1 h (v9 + 6) (lawStep (c1, c2) (L, f) (some X) (some (X + 94)) v9 h) := by
  obtain ⟨ca, pa, m, p, f, cl, om, pc, ok, R, rl, rp, hc⟩ := id st
  have f0 := f.1
  unfold lawStep
  rw [if_neg hE, hx, Option.bind_some]
  rw [if_neg (by rw [hk]; decide)]
  rw [if_neg (by rw [hk]; decide)]
  rw [if_neg (by rw [hk]; decide)]
  rw [if_neg (by rw [hk]; decide)]
  rw [if_neg (by rw [hk]; decide)]
  rw [if_neg (by rw [hk]; decide)]
  rw [if_neg (by rw [hk]; decide)]
  rw [if_neg (by rw [hk]; decide)]
  rw [if_neg (by rw [hk]; decide)]
  rw [if_neg (by rw [hk]; decide)]
  rw [if_neg (by rw [hk]; decide)]
  rw [if_neg (by rw [hk]; decide)]
  rw [if_neg (by rw [hk]; decide)]
  rw [if_neg (by rw [hk]; decide)]
  rw [if_neg (by rw [hk]; decide)]
  rw [if_neg (by rw [hk]; decide)]
  rw [if_neg (by rw [hk]; decide)]
  rw [if_neg (by rw [hk]; decide)]
  rw [if_neg (by rw [hk]; decide)]
  rw [if_pos hk]
  obtain ⟨a1, ha1⟩ := ha 1 (by omega)
  have ha1 : ((zix L (v9 + (1 : Int32))).bind fun q => some (_ : Int32)) = some a1 := ha1
  obtain ⟨a2, ha2⟩ := ha 2 (by omega)
  have ha2 : ((zix L (v9 + (2 : Int32))).bind fun q => some (_ : Int32)) = some a2 := ha2
  obtain ⟨a3, ha3⟩ := ha 3 (by omega)
  have ha3 : ((zix L (v9 + (3 : Int32))).bind fun q => some (_ : Int32)) = some a3 := ha3
  rw [ha1, Option.bind_some]
  rw [ha2, Option.bind_some]
  rw [ha3, Option.bind_some]
  rw [zob_v (by omega) f.2.1.1, Option.bind_some]
  simp only [ha1, ha2, ha3, Option.bind_some]
  exact lw_op (oC := fX5_lag h (some X) a1 a2 a3) (opR := fun s => fX6_lag s a1 a2 a3) _ R rl rp hc (oc_no f cl pc (clag_eq f cl om a1 a2 a3)) (fun s g q => by
    obtain ⟨s', e, d⟩ := rlag_eq g om a1 a2 a3
    exact or_no e g d q (fun z => by dsimp [sTimes] at z; omega) (fun z => by dsimp [sTimes] at z; omega) (fun z => by dsimp [sTimes] at z; omega) (fun a k _ _ z => by dsimp [sTimes] at z; omega)) om ok
theorem ls_20 (st : LwS X c1 h) (hx : ((zix L v9).bind fun q => some (f q)) = some x) (ha : ∀ j, j < 6 → ∃ y, ((zix L (v9 + nI j)).bind fun q => some (f q)) = some y) (hE : ¬ (Int32.ofNat L - (6 : Int32)) < v9) (hk : x &&& (31 : Int32) = (20 : Int32)) : LW X c1 h (v9 + 6) (lawStep (c1, c2) (L, f) (some X) (some (X + 94)) v9 h) := by
  obtain ⟨ca, pa, m, p, f, cl, om, pc, ok, R, rl, rp, hc⟩ := id st
  have f0 := f.1
  unfold lawStep
  rw [if_neg hE, hx, Option.bind_some]
  rw [if_neg (by rw [hk]; decide)]
  rw [if_neg (by rw [hk]; decide)]
  rw [if_neg (by rw [hk]; decide)]
  rw [if_neg (by rw [hk]; decide)]
  rw [if_neg (by rw [hk]; decide)]
  rw [if_neg (by rw [hk]; decide)]
  rw [if_neg (by rw [hk]; decide)]
  rw [if_neg (by rw [hk]; decide)]
  rw [if_neg (by rw [hk]; decide)]
  rw [if_neg (by rw [hk]; decide)]
  rw [if_neg (by rw [hk]; decide)]
  rw [if_neg (by rw [hk]; decide)]
  rw [if_neg (by rw [hk]; decide)]
  rw [if_neg (by rw [hk]; decide)]
  rw [if_neg (by rw [hk]; decide)]
  rw [if_neg (by rw [hk]; decide)]
  rw [if_neg (by rw [hk]; decide)]
  rw [if_neg (by rw [hk]; decide)]
  rw [if_neg (by rw [hk]; decide)]
  rw [if_neg (by rw [hk]; decide)]
  rw [if_pos hk]
  obtain ⟨a1, ha1⟩ := ha 1 (by omega)
  have ha1 : ((zix L (v9 + (1 : Int32))).bind fun q => some (_ : Int32)) = some a1 := ha1
  rw [ha1, Option.bind_some]
  rw [zob_v (by omega) f.2.1.1, Option.bind_some]
  simp only [ha1, Option.bind_some]
  obtain ⟨r, h', e, q1, z, n1, s1, p1⟩ := cslow_eq f cl om a1
  exact lw_op (oC := fX5_slow h (some X) a1) (opR := fun s => fX6_slow s a1) _ R rl rp hc (oc_slow f cl pc e z n1 s1 p1) (fun s g q => by
    obtain ⟨r', s', e, q2, d⟩ := rslow_eq g om a1
    rw [mSlowR_one q2 q1] at e
    exact or_no e g d q (fun z => by dsimp [sSlow] at z; omega) (fun z => by dsimp [sSlow] at z; omega) (fun z => by dsimp [sSlow] at z; omega) (fun a k _ _ z => by dsimp [sSlow] at z; omega)) om ok
theorem ls_21 (st : LwS X c1 h) (hx : ((zix L v9).bind fun q => some (f q)) = some x) (ha : ∀ j, j < 6 → ∃ y, ((zix L (v9 + nI j)).bind fun q => some (f q)) = some y) (hE : ¬ (Int32.ofNat L - (6 : Int32)) < v9) (hk : x &&& (31 : Int32) = (21 : Int32)) : LW X c1 h (v9 + 6) (lawStep (c1, c2) (L, f) (some X) (some (X + 94)) v9 h) := by
  obtain ⟨ca, pa, m, p, f, cl, om, pc, ok, R, rl, rp, hc⟩ := id st
  have f0 := f.1
  unfold lawStep
  rw [if_neg hE, hx, Option.bind_some]
  rw [if_neg (by rw [hk]; decide)]
  rw [if_neg (by rw [hk]; decide)]
  rw [if_neg (by rw [hk]; decide)]
  rw [if_neg (by rw [hk]; decide)]
  rw [if_neg (by rw [hk]; decide)]
  rw [if_neg (by rw [hk]; decide)]
  rw [if_neg (by rw [hk]; decide)]
  rw [if_neg (by rw [hk]; decide)]
  rw [if_neg (by rw [hk]; decide)]
  rw [if_neg (by rw [hk]; decide)]
  rw [if_neg (by rw [hk]; decide)]
  rw [if_neg (by rw [hk]; decide)]
  rw [if_neg (by rw [hk]; decide)]
  rw [if_neg (by rw [hk]; decide)]
  rw [if_neg (by rw [hk]; decide)]
  rw [if_neg (by rw [hk]; decide)]
  rw [if_neg (by rw [hk]; decide)]
  rw [if_neg (by rw [hk]; decide)]
  rw [if_neg (by rw [hk]; decide)]
  rw [if_neg (by rw [hk]; decide)]
  rw [if_neg (by rw [hk]; decide)]
  rw [if_pos hk]
  obtain ⟨a1, ha1⟩ := ha 1 (by omega)
  have ha1 : ((zix L (v9 + (1 : Int32))).bind fun q => some (_ : Int32)) = some a1 := ha1
  obtain ⟨a2, ha2⟩ := ha 2 (by omega)
  have ha2 : ((zix L (v9 + (2 : Int32))).bind fun q => some (_ : Int32)) = some a2 := ha2
  rw [ha1, Option.bind_some]
  rw [ha2, Option.bind_some]
  rw [zob_v (by omega) f.2.1.1, Option.bind_some]
  simp only [ha1, ha2, Option.bind_some]
  exact lw_pure (oC := fX5_passes h (some X) a1 a2) (opR := fun s => fX6_passes s a1 a2) _ st R rl rp (cpasses_eq f cl om a1 a2) (fun s g q => rpasses_eq g om a1 a2)
theorem ls_22 (st : LwS X c1 h) (hx : ((zix L v9).bind fun q => some (f q)) = some x) (ha : ∀ j, j < 6 → ∃ y, ((zix L (v9 + nI j)).bind fun q => some (f q)) = some y) (hE : ¬ (Int32.ofNat L - (6 : Int32)) < v9) (hk : x &&& (31 : Int32) = (22 : Int32)) : LW X c1 h (v9 + 6) (lawStep (c1, c2) (L, f) (some X) (some (X + 94)) v9 h) := by
  obtain ⟨ca, pa, m, p, f, cl, om, pc, ok, R, rl, rp, hc⟩ := id st
  have f0 := f.1
  unfold lawStep
  rw [if_neg hE, hx, Option.bind_some]
  rw [if_neg (by rw [hk]; decide)]
  rw [if_neg (by rw [hk]; decide)]
  rw [if_neg (by rw [hk]; decide)]
  rw [if_neg (by rw [hk]; decide)]
  rw [if_neg (by rw [hk]; decide)]
  rw [if_neg (by rw [hk]; decide)]
  rw [if_neg (by rw [hk]; decide)]
  rw [if_neg (by rw [hk]; decide)]
  rw [if_neg (by rw [hk]; decide)]
  rw [if_neg (by rw [hk]; decide)]
  rw [if_neg (by rw [hk]; decide)]
  rw [if_neg (by rw [hk]; decide)]
  rw [if_neg (by rw [hk]; decide)]
  rw [if_neg (by rw [hk]; decide)]
  rw [if_neg (by rw [hk]; decide)]
  rw [if_neg (by rw [hk]; decide)]
  rw [if_neg (by rw [hk]; decide)]
  rw [if_neg (by rw [hk]; decide)]
  rw [if_neg (by rw [hk]; decide)]
  rw [if_neg (by rw [hk]; decide)]
  rw [if_neg (by rw [hk]; decide)]
  rw [if_neg (by rw [hk]; decide)]
  rw [if_pos hk]
  obtain ⟨a1, ha1⟩ := ha 1 (by omega)
  have ha1 : ((zix L (v9 + (1 : Int32))).bind fun q => some (_ : Int32)) = some a1 := ha1
  rw [ha1, Option.bind_some]
  rw [zob_v (by omega) f.2.1.1, Option.bind_some]
  simp only [ha1, Option.bind_some]
  exact lw_pure (oC := fX5_count h (some X) a1) (opR := fun s => fX6_count s a1) _ st R rl rp (v := mCount m (nI (pn p)) a1) (by rw [ccount_eq f cl om a1, pc.1]) (fun s g q => by rw [rcount_eq g om a1, q.1])
end STEPS
/-! the law: all steps -/
theorem ls_all {X c1 c2 L : Nat} {h : Zh} {f : Nat → Int32} {v9 x : Int32} (hfind : FindOK) (st : LwS X c1 h) (hx : ((zix L v9).bind fun q => some (f q)) = some x) (ha : ∀ j, j < 6 → ∃ y, ((zix L (v9 + nI j)).bind fun q => some (f q)) = some y) (hE : ¬ (Int32.ofNat L - (6 : Int32)) < v9) : LW X c1 h (v9 + 6) (lawStep (c1, c2) (L, f) (some X) (some (X + 94)) v9 h) := by
  by_cases k0 : x &&& (31 : Int32) = 0
  · exact ls_0 st hx ha hE k0
  by_cases k1 : x &&& (31 : Int32) = 1
  · exact ls_1 st hx ha hE k1
  by_cases k2 : x &&& (31 : Int32) = 2
  · exact ls_2 st hx ha hE k2
  by_cases k3 : x &&& (31 : Int32) = 3
  · exact ls_3 st hx ha hE k3
  by_cases k4 : x &&& (31 : Int32) = 4
  · exact ls_4 st hx ha hE k4
  by_cases k5 : x &&& (31 : Int32) = 5
  · exact ls_5 st hx ha hE k5
  by_cases k6 : x &&& (31 : Int32) = 6
  · exact ls_6 st hx ha hE k6
  by_cases k7 : x &&& (31 : Int32) = 7
  · exact ls_7 st hx ha hE k7
  by_cases k8 : x &&& (31 : Int32) = 8
  · exact ls_8 st hx ha hE k8
  by_cases k9 : x &&& (31 : Int32) = 9
  · exact ls_9 st hx ha hE k9
  by_cases k10 : x &&& (31 : Int32) = 10
  · exact ls_10 st hx ha hE k10
  by_cases k11 : x &&& (31 : Int32) = 11
  · exact ls_11 st hx ha hE k11
  by_cases k12 : x &&& (31 : Int32) = 12
  · exact ls_12 st hx ha hE k12
  by_cases k13 : x &&& (31 : Int32) = 13
  · exact ls_13 hfind st hx ha hE k13
  by_cases k14 : x &&& (31 : Int32) = 14
  · exact ls_14 st hx ha hE k14
  by_cases k15 : x &&& (31 : Int32) = 15
  · exact ls_15 st hx ha hE k15
  by_cases k16 : x &&& (31 : Int32) = 16
  · exact ls_16 st hx ha hE k16
  by_cases k17 : x &&& (31 : Int32) = 17
  · exact ls_17 st hx ha hE k17
  by_cases k18 : x &&& (31 : Int32) = 18
  · exact ls_18 st hx ha hE k18
  by_cases k19 : x &&& (31 : Int32) = 19
  · exact ls_19 st hx ha hE k19
  by_cases k20 : x &&& (31 : Int32) = 20
  · exact ls_20 st hx ha hE k20
  by_cases k21 : x &&& (31 : Int32) = 21
  · exact ls_21 st hx ha hE k21
  by_cases k22 : x &&& (31 : Int32) = 22
  · exact ls_22 st hx ha hE k22
  unfold lawStep
  rw [if_neg hE, hx, Option.bind_some, if_neg k0, if_neg k1, if_neg k2, if_neg k3, if_neg k4, if_neg k5, if_neg k6, if_neg k7, if_neg k8, if_neg k9, if_neg k10, if_neg k11, if_neg k12, if_neg k13, if_neg k14, if_neg k15, if_neg k16, if_neg k17, if_neg k18, if_neg k19, if_neg k20, if_neg k21, if_neg k22]
  exact ⟨h, rfl, st, by omega, by omega⟩
theorem law_end {L k : Nat} (hL : L ≤ 3072) (hk : 6 * k ≤ L) : (Int32.ofNat L - (6 : Int32) < nI (6 * k)) ↔ L < 6 * k + 6 := by
  by_cases h6 : 6 ≤ L
  · have e : Int32.ofNat L - (6 : Int32) = nI (L - 6) := by
      have e1 : Int32.ofNat L = nI (L - 6) + 6 := by
        show nI L = nI (L - 6) + nI 6
        rw [nI_add, Nat.sub_add_cancel h6]
      rw [e1, Int32.add_sub_cancel]
    rw [e, nI_ltI (by omega) (by omega)]
    omega
  · have k0 : k = 0 := by omega
    subst k0
    have : L = 0 ∨ L = 1 ∨ L = 2 ∨ L = 3 ∨ L = 4 ∨ L = 5 := by omega
    have z : (6 * 0 : Nat) = 0 := rfl
    rw [z, nI_0]
    rcases this with rfl | rfl | rfl | rfl | rfl | rfl <;> decide
theorem fK.lws {X c1 : Nat} {h0 h1 h2 : Zh} (F0 : cF0 h1 X) (SK : ∀ q, q < 12 → shK h1 X q) (n1 : zn h1 = X + 94) (RF : zRF (zn h1) h2) (n2 : zn h2 = zn h1 + 49) (old : ∀ u, u < zn h1 → zk h2 u = zk h1 u ∧ zl h2 u = zl h1 u ∧ zi h2 u = zi h1 u ∧ zp h2 u = zp h1 u) (zr : ∀ a j, a < 49 → zi h2 (zn h1 + a) j = 0) (hc : c1 < zn h2 ∧ zk h2 c1 = 106) : LwS X c1 h2 := by
  rw [n1] at RF zr
  have k0 : ∀ u, u < X + 94 → zk h2 u = zk h1 u := fun u hu => (old u (by omega)).1
  have l0 : ∀ u, u < X + 94 → zl h2 u = zl h1 u := fun u hu => (old u (by omega)).2.1
  have i0 : ∀ u, u < X + 94 → zi h2 u = zi h1 u := fun u hu => (old u (by omega)).2.2.1
  have p0 : ∀ u, u < X + 94 → zp h2 u = zp h1 u := fun u hu => (old u (by omega)).2.2.2
  have F2 : cF0 h2 X := F0.on (fun u hu => ⟨k0 u (by omega), l0 u (by omega), i0 u (by omega)⟩) (fun u hu => p0 u (by omega))
  have SK2 : ∀ q, q < 12 → shK h2 X q := fun q hq => by
    obtain ⟨a1, a2, ⟨a3, a4, a5⟩, a6⟩ := SK q hq
    refine ⟨by rw [p0 _ (by omega)]; exact a1, by rw [k0 _ (by omega)]; exact a2, ⟨by rw [p0 _ (by omega)]; exact a3, by rw [k0 _ (by omega)]; exact a4, by rw [l0 _ (by omega)]; exact a5⟩, fun w hw => ?_⟩
    obtain ⟨b1, b2, b3⟩ := a6 w hw
    exact ⟨by rw [p0 _ (by omega)]; exact b1, by rw [k0 _ (by omega)]; exact b2, by rw [l0 _ (by omega)]; exact b3⟩
  obtain ⟨f1, f2, f3, f4, f5, f6, f7, f8⟩ := F2
  let m0 : Ml := (0, fun _ => 0, fun _ => false, fun _ _ _ => 0)
  let p0' : Mp := (0, fun _ => 0, fun _ => 0, fun _ => [], fun _ => 0)
  have z0 : ∀ a j, a < 49 → zget (X + 94) h2 a j = 0 := fun a j ha => zr a j ha
  refine ⟨fun _ => 0, fun _ => 0, m0, p0', ⟨by omega, f1, f2, f3, f4, f5, f6, f7, SK2⟩, ⟨(f8 1).trans nI_0.symm, fun k hk => absurd hk (Nat.not_lt_zero _), fun k d hk => absurd hk (Nat.not_lt_zero _)⟩, ⟨Nat.zero_le _, fun _ => Nat.zero_le _, fun _ _ => ⟨rfl, rfl⟩, fun k i hi => absurd hi (Nat.not_lt_zero _)⟩, ⟨(f8 3).trans nI_0.symm, fun k hk => absurd hk (Nat.not_lt_zero _), fun k d r hk => absurd hk (Nat.not_lt_zero _)⟩, ⟨Nat.zero_le _, fun q hq => absurd hq (Nat.not_lt_zero _)⟩, RF, ⟨(z0 0 0 (by omega)).trans nI_0.symm, fun k hk => ⟨(z0 1 k (by omega)).trans nI_0.symm, (z0 2 k (by omega)).trans ?_⟩, fun k i hk hi => absurd hi (Nat.not_lt_zero _)⟩, ⟨(z0 0 7 (by omega)).trans nI_0.symm, (z0 0 13 (by omega)).trans nI_0.symm, fun q hq => absurd hq (Nat.not_lt_zero _)⟩, hc⟩
  exact (if_neg (fun z => by cases z)).symm
theorem law_all (hfind : FindOK) (c : Nat × Nat) (sc : Nat × (Nat → Int32)) (n t0 : Nat) (hc : c.1 = t0) (ht : t0 < n) (hL : sc.1 ≤ 3072) : ∃ hf : Zh, fL_law c sc (((fun v => if v = t0 then 106 else 0), (fun _ => 0), (fun _ _ => 0), (fun _ _ => none), n, 0) : Zh) = some (1, hf) ∧ zn hf - n ≤ 600000 ∧ zs hf - 0 ≤ 7302250 := by
  generalize e0 : (((fun v => if v = t0 then 106 else 0), (fun _ => 0), (fun _ _ => 0), (fun _ _ => none), n, 0) : Zh) = h0
  have en : zn h0 = n := by rw [← e0]; rfl
  have es : zs h0 = 0 := by rw [← e0]; rfl
  have ek : zk h0 t0 = 106 := by rw [← e0]; exact if_pos rfl
  obtain ⟨h1, e1, F0, SK, n1, s1, fk⟩ := cinit_all h0
  obtain ⟨h2, e2, RF, ⟨n2, s2⟩, old, zr⟩ := rinit_eq h1
  rw [en] at e1 F0 SK n1 fk
  obtain ⟨c1, c2⟩ := c
  obtain ⟨L, f⟩ := sc
  dsimp only at hc hL
  subst hc
  have st : LwS n c1 h2 := fK.lws (h0 := h0) F0 SK n1 RF n2 old zr ⟨by omega, ((old c1 (by omega)).1.trans (fk c1 ht).1).trans ek⟩
  have i1 : zn h2 ≤ n + 143 + 1000 * 0 := by omega
  have i2 : zs h2 ≤ 140000 + 13000 * 0 := by omega
  obtain ⟨r, el, hf, er, bn, bs⟩ := zloop_inv (f := fun v : Int32 × Zh => lawStep (c1, c2) (L, f) (some n) (some (n + 94)) v.1 v.2) (fun (N : Nat) (s : Int32 × Zh) => ∃ k, s.1 = nI (6 * k) ∧ 6 * k ≤ L ∧ N + k = 513 ∧ LwS n c1 s.2 ∧ zn s.2 ≤ n + 143 + 1000 * k ∧ zs s.2 ≤ 140000 + 13000 * k) (fun r : Zh ⊕ (Int32 × Zh) => ∃ hf, r = .inl hf ∧ zn hf ≤ n + 143 + 1000 * 512 ∧ zs hf ≤ 140000 + 13000 * 512) (fun N s I => by
    obtain ⟨v, h⟩ := s
    obtain ⟨k, ev, kl, nk, st, bn, bs⟩ := I
    dsimp only at ev st bn bs ⊢
    subst ev
    by_cases E : Int32.ofNat L - (6 : Int32) < nI (6 * k)
    · right
      refine ⟨.inl h, ?_, h, rfl, by omega, by omega⟩
      unfold lawStep
      rw [if_pos E]
    · left
      have E' : 6 * k + 6 ≤ L := by
        have z : ¬ L < 6 * k + 6 := fun z => E ((law_end hL kl).mpr z)
        omega
      have rd : ∀ j, j < 6 → ∃ y, ((zix L (nI (6 * k) + nI j)).bind fun q => some (f q)) = some y := fun j hj => by
        refine ⟨f (6 * k + j), ?_⟩
        rw [nI_add]
        unfold zix
        rw [if_neg (nI_in' (by omega) (by omega)), Option.bind_some, nI_clamp (by omega)]
      obtain ⟨x, hx⟩ := rd 0 (by omega)
      have hx : ((zix L (nI (6 * k))).bind fun q => some (f q)) = some x := by
        rw [nI_add] at hx
        exact hx
      obtain ⟨h', e', st', bn', bs'⟩ := ls_all (c2 := c2) hfind st hx rd E
      have j1 : zn h' ≤ n + 143 + 1000 * (k + 1) := Nat.le_trans bn' (by rw [Nat.mul_succ, ← Nat.add_assoc]; exact Nat.add_le_add_right bn _)
      have j2 : zs h' ≤ 140000 + 13000 * (k + 1) := Nat.le_trans bs' (by rw [Nat.mul_succ, ← Nat.add_assoc]; exact Nat.add_le_add_right bs _)
      exact ⟨_, N - 1, e', by omega, k + 1, by
        show nI (6 * k) + nI 6 = nI (6 * (k + 1))
        rw [nI_add]
        rfl, by omega, by omega, st', j1, j2⟩) 513 ((0 : Int32), h2) zFU ⟨0, nI_0.symm, Nat.zero_le _, by omega, st, i1, i2⟩ (by show 513 < 100000; omega)
  subst er
  refine ⟨hf, ?_, by omega, by omega⟩
  unfold fL_law
  have k7 : zk (znew h0 7 0 8) n = 7 := by rw [← en]; exact znew_k h0 7 0 8
  have k8 : zk (znew h1 8 0 65) (zn h1) = 8 := znew_k h1 8 0 65
  have m1 : zmO h0 6 8 = some (some n, znew h0 7 0 8) := by rw [← en]; rfl
  have m2 : zmO h1 7 65 = some (some (n + 94), znew h1 8 0 65) := by rw [← n1]; rfl
  rw [m1, Option.bind_some]
  show ((zob (znew h0 7 0 8) (some n) 7).bind _) = _
  rw [zob_v (by show n < zn h0 + 1; omega) k7, Option.bind_some, e1, Option.bind_some, m2, Option.bind_some]
  show ((zob (znew h1 8 0 65) (some (n + 94)) 8).bind _) = _
  rw [← n1, zob_v (by show zn h1 < zn h1 + 1; omega) k8, Option.bind_some, e2, Option.bind_some]
  rw [n1]
  show ((zloop (fun v : Int32 × Zh => lawStep (c1, c2) (L, f) (some n) (some (n + 94)) v.1 v.2) zFU (0, h2)).bind _) = _
  rw [el, Option.bind_some]
