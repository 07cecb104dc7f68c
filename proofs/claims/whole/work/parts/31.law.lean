/-! the law -/
noncomputable def fL_law (c : Nat × Nat) (sc : Nat × (Nat → Int32)) (h : Zh) : Option (Int32 × Zh) :=
  (zmO h 6 8).bind fun ((r1, h2) : Option Nat × Zh) =>
  (zob h2 r1 7).bind fun p3 =>
  (fX5_init h2 (some p3)).bind fun h4 =>
  (zmO h4 7 65).bind fun ((r5, h6) : Option Nat × Zh) =>
  (zob h6 r5 8).bind fun p7 =>
  (fX6_init h6 (some p7)).bind fun h8 =>
  (zloop (fun ((v9, h10) : Int32 × Zh) =>
    (if ((Int32.ofNat sc.1) - (6 : Int32)) < v9 then
      some (.inr (.inl h10))
    else
      ((zix sc.1 v9).bind fun q => some (sc.2 q)).bind fun x14 =>
      if (x14 &&& (31 : Int32)) = (0 : Int32) then
        (zob h10 r1 7).bind fun p15 =>
        (fX5_open h10 (some p15)).bind fun ((x16, h17) : Int32 × Zh) =>
        (zob h17 r5 8).bind fun p18 =>
        (zchk p18 h17).bind fun _ =>
        (fX6_open (zget p18 h17)).bind fun ((x19, h20) : Int32 × Zr) =>
        if x16 = x19 then
          some (.inl (v9 + (6 : Int32), zput p18 h17 h20))
        else
          some (.inr (.inr ((0 : Int32), zput p18 h17 h20)))
      else if (x14 &&& (31 : Int32)) = (1 : Int32) then
        ((zix sc.1 (v9 + (1 : Int32))).bind fun q => some (sc.2 q)).bind fun x21 =>
        ((zix sc.1 (v9 + (2 : Int32))).bind fun q => some (sc.2 q)).bind fun x22 =>
        ((zix sc.1 (v9 + (3 : Int32))).bind fun q => some (sc.2 q)).bind fun x23 =>
        ((zix sc.1 (v9 + (4 : Int32))).bind fun q => some (sc.2 q)).bind fun x24 =>
        ((zix sc.1 (v9 + (5 : Int32))).bind fun q => some (sc.2 q)).bind fun x25 =>
        (zob h10 r1 7).bind fun p26 =>
        (fX5_add h10 (some p26) x21 x22 x23 x24 x25).bind fun ((x27, h28) : Int32 × Zh) =>
        ((zix sc.1 (v9 + (1 : Int32))).bind fun q => some (sc.2 q)).bind fun x29 =>
        ((zix sc.1 (v9 + (2 : Int32))).bind fun q => some (sc.2 q)).bind fun x30 =>
        ((zix sc.1 (v9 + (3 : Int32))).bind fun q => some (sc.2 q)).bind fun x31 =>
        ((zix sc.1 (v9 + (4 : Int32))).bind fun q => some (sc.2 q)).bind fun x32 =>
        ((zix sc.1 (v9 + (5 : Int32))).bind fun q => some (sc.2 q)).bind fun x33 =>
        (zob h28 r5 8).bind fun p34 =>
        (zchk p34 h28).bind fun _ =>
        (fX6_add (zget p34 h28) x29 x30 x31 x32 x33).bind fun ((x35, h36) : Int32 × Zr) =>
        if x27 = x35 then
          some (.inl (v9 + (6 : Int32), zput p34 h28 h36))
        else
          some (.inr (.inr ((0 : Int32), zput p34 h28 h36)))
      else if (x14 &&& (31 : Int32)) = (2 : Int32) then
        ((zix sc.1 (v9 + (1 : Int32))).bind fun q => some (sc.2 q)).bind fun x37 =>
        (zob h10 r1 7).bind fun p38 =>
        (fX5_cut h10 (some p38) x37).bind fun ((x39, h40) : Int32 × Zh) =>
        ((zix sc.1 (v9 + (1 : Int32))).bind fun q => some (sc.2 q)).bind fun x41 =>
        (zob h40 r5 8).bind fun p42 =>
        (zchk p42 h40).bind fun _ =>
        (fX6_cut (zget p42 h40) x41).bind fun ((x43, h44) : Int32 × Zr) =>
        if x39 = x43 then
          some (.inl (v9 + (6 : Int32), zput p42 h40 h44))
        else
          some (.inr (.inr ((0 : Int32), zput p42 h40 h44)))
      else if (x14 &&& (31 : Int32)) = (3 : Int32) then
        ((zix sc.1 (v9 + (1 : Int32))).bind fun q => some (sc.2 q)).bind fun x45 =>
        ((zix sc.1 (v9 + (2 : Int32))).bind fun q => some (sc.2 q)).bind fun x46 =>
        (if x46 = 0 then
          some (0 : Int32)
        else
          some (1 : Int32)).bind fun (v47 : Int32) =>
        (zob h10 r1 7).bind fun p49 =>
        (fX5_drop h10 (some p49) x45 v47).bind fun ((x50, h51) : Int32 × Zh) =>
        ((zix sc.1 (v9 + (1 : Int32))).bind fun q => some (sc.2 q)).bind fun x52 =>
        ((zix sc.1 (v9 + (2 : Int32))).bind fun q => some (sc.2 q)).bind fun x53 =>
        (if x53 = 0 then
          some (0 : Int32)
        else
          some (1 : Int32)).bind fun (v54 : Int32) =>
        (zob h51 r5 8).bind fun p56 =>
        (zchk p56 h51).bind fun _ =>
        (fX6_drop (zget p56 h51) x52 v54).bind fun ((x57, h58) : Int32 × Zr) =>
        if x50 = x57 then
          some (.inl (v9 + (6 : Int32), zput p56 h51 h58))
        else
          some (.inr (.inr ((0 : Int32), zput p56 h51 h58)))
      else if (x14 &&& (31 : Int32)) = (4 : Int32) then
        ((zix sc.1 (v9 + (1 : Int32))).bind fun q => some (sc.2 q)).bind fun x59 =>
        ((zix sc.1 (v9 + (2 : Int32))).bind fun q => some (sc.2 q)).bind fun x60 =>
        ((zix sc.1 (v9 + (3 : Int32))).bind fun q => some (sc.2 q)).bind fun x61 =>
        (zob h10 r1 7).bind fun p62 =>
        (fX5_told h10 (some p62) x59 x60 x61).bind fun x63 =>
        ((zix sc.1 (v9 + (1 : Int32))).bind fun q => some (sc.2 q)).bind fun x64 =>
        ((zix sc.1 (v9 + (2 : Int32))).bind fun q => some (sc.2 q)).bind fun x65 =>
        ((zix sc.1 (v9 + (3 : Int32))).bind fun q => some (sc.2 q)).bind fun x66 =>
        (zob h10 r5 8).bind fun p67 =>
        (zchk p67 h10).bind fun _ =>
        (fX6_told (zget p67 h10) x64 x65 x66).bind fun x68 =>
        if x63 = x68 then
          some (.inl (v9 + (6 : Int32), h10))
        else
          some (.inr (.inr ((0 : Int32), h10)))
      else if (x14 &&& (31 : Int32)) = (5 : Int32) then
        ((zix sc.1 (v9 + (1 : Int32))).bind fun q => some (sc.2 q)).bind fun x69 =>
        ((zix sc.1 (v9 + (2 : Int32))).bind fun q => some (sc.2 q)).bind fun x70 =>
        (zob h10 r1 7).bind fun p71 =>
        (fX5_follows h10 (some p71) x69 x70).bind fun x72 =>
        ((zix sc.1 (v9 + (1 : Int32))).bind fun q => some (sc.2 q)).bind fun x73 =>
        ((zix sc.1 (v9 + (2 : Int32))).bind fun q => some (sc.2 q)).bind fun x74 =>
        (zob h10 r5 8).bind fun p75 =>
        (zchk p75 h10).bind fun _ =>
        (fX6_follows (zget p75 h10) x73 x74).bind fun x76 =>
        if x72 = x76 then
          some (.inl (v9 + (6 : Int32), h10))
        else
          some (.inr (.inr ((0 : Int32), h10)))
      else if (x14 &&& (31 : Int32)) = (6 : Int32) then
        ((zix sc.1 (v9 + (1 : Int32))).bind fun q => some (sc.2 q)).bind fun x77 =>
        ((zix sc.1 (v9 + (2 : Int32))).bind fun q => some (sc.2 q)).bind fun x78 =>
        (zob h10 r1 7).bind fun p79 =>
        (fX5_stands h10 (some p79) x77 x78).bind fun x80 =>
        ((zix sc.1 (v9 + (1 : Int32))).bind fun q => some (sc.2 q)).bind fun x81 =>
        ((zix sc.1 (v9 + (2 : Int32))).bind fun q => some (sc.2 q)).bind fun x82 =>
        (zob h10 r5 8).bind fun p83 =>
        (zchk p83 h10).bind fun _ =>
        (fX6_stands (zget p83 h10) x81 x82).bind fun x84 =>
        if x80 = x84 then
          some (.inl (v9 + (6 : Int32), h10))
        else
          some (.inr (.inr ((0 : Int32), h10)))
      else if (x14 &&& (31 : Int32)) = (7 : Int32) then
        ((zix sc.1 (v9 + (1 : Int32))).bind fun q => some (sc.2 q)).bind fun x85 =>
        (zob h10 r1 7).bind fun p86 =>
        (fX5_deed h10 (some p86) x85).bind fun ((x87, h88) : Int32 × Zh) =>
        ((zix sc.1 (v9 + (1 : Int32))).bind fun q => some (sc.2 q)).bind fun x89 =>
        (zob h88 r5 8).bind fun p90 =>
        (zchk p90 h88).bind fun _ =>
        (fX6_deed (zget p90 h88) x89).bind fun ((x91, h92) : Int32 × Zr) =>
        if x87 = x91 then
          some (.inl (v9 + (6 : Int32), zput p90 h88 h92))
        else
          some (.inr (.inr ((0 : Int32), zput p90 h88 h92)))
      else if (x14 &&& (31 : Int32)) = (8 : Int32) then
        ((zix sc.1 (v9 + (1 : Int32))).bind fun q => some (sc.2 q)).bind fun x93 =>
        ((zix sc.1 (v9 + (2 : Int32))).bind fun q => some (sc.2 q)).bind fun x94 =>
        ((zix sc.1 (v9 + (3 : Int32))).bind fun q => some (sc.2 q)).bind fun x95 =>
        (zob h10 r1 7).bind fun p96 =>
        (fX5_join h10 (some p96) x93 x94 x95).bind fun ((x97, h98) : Int32 × Zh) =>
        ((zix sc.1 (v9 + (1 : Int32))).bind fun q => some (sc.2 q)).bind fun x99 =>
        ((zix sc.1 (v9 + (2 : Int32))).bind fun q => some (sc.2 q)).bind fun x100 =>
        ((zix sc.1 (v9 + (3 : Int32))).bind fun q => some (sc.2 q)).bind fun x101 =>
        (zob h98 r5 8).bind fun p102 =>
        (zchk p102 h98).bind fun _ =>
        (fX6_join (zget p102 h98) x99 x100 x101).bind fun ((x103, h104) : Int32 × Zr) =>
        if x97 = x103 then
          some (.inl (v9 + (6 : Int32), zput p102 h98 h104))
        else
          some (.inr (.inr ((0 : Int32), zput p102 h98 h104)))
      else if (x14 &&& (31 : Int32)) = (9 : Int32) then
        ((zix sc.1 (v9 + (1 : Int32))).bind fun q => some (sc.2 q)).bind fun x105 =>
        ((zix sc.1 (v9 + (2 : Int32))).bind fun q => some (sc.2 q)).bind fun x106 =>
        (zob h10 r1 7).bind fun p107 =>
        (fX5_more h10 (some p107) x105 x106).bind fun ((x108, h109) : Int32 × Zh) =>
        ((zix sc.1 (v9 + (1 : Int32))).bind fun q => some (sc.2 q)).bind fun x110 =>
        ((zix sc.1 (v9 + (2 : Int32))).bind fun q => some (sc.2 q)).bind fun x111 =>
        (zob h109 r5 8).bind fun p112 =>
        (zchk p112 h109).bind fun _ =>
        (fX6_more (zget p112 h109) x110 x111).bind fun ((x113, h114) : Int32 × Zr) =>
        if x108 = x113 then
          some (.inl (v9 + (6 : Int32), zput p112 h109 h114))
        else
          some (.inr (.inr ((0 : Int32), zput p112 h109 h114)))
      else if (x14 &&& (31 : Int32)) = (10 : Int32) then
        ((zix sc.1 (v9 + (1 : Int32))).bind fun q => some (sc.2 q)).bind fun x115 =>
        ((zix sc.1 (v9 + (2 : Int32))).bind fun q => some (sc.2 q)).bind fun x116 =>
        (zob h10 r1 7).bind fun p117 =>
        (fX5_piece h10 (some p117) x115 x116).bind fun x118 =>
        ((zix sc.1 (v9 + (1 : Int32))).bind fun q => some (sc.2 q)).bind fun x119 =>
        ((zix sc.1 (v9 + (2 : Int32))).bind fun q => some (sc.2 q)).bind fun x120 =>
        (zob h10 r5 8).bind fun p121 =>
        (zchk p121 h10).bind fun _ =>
        (fX6_piece (zget p121 h10) x119 x120).bind fun x122 =>
        if x118 = x122 then
          some (.inl (v9 + (6 : Int32), h10))
        else
          some (.inr (.inr ((0 : Int32), h10)))
      else if (x14 &&& (31 : Int32)) = (11 : Int32) then
        ((zix sc.1 (v9 + (1 : Int32))).bind fun q => some (sc.2 q)).bind fun x123 =>
        (zob h10 r1 7).bind fun p124 =>
        (fX5_plain c h10 (some p124) x123).bind fun ((x125, h126) : Int32 × Zh) =>
        ((zix sc.1 (v9 + (1 : Int32))).bind fun q => some (sc.2 q)).bind fun x127 =>
        (zob h126 r5 8).bind fun p128 =>
        (zchk p128 h126).bind fun _ =>
        (fX6_plain (zget p128 h126) x127).bind fun ((x129, h130) : Int32 × Zr) =>
        if x125 = x129 then
          some (.inl (v9 + (6 : Int32), zput p128 h126 h130))
        else
          some (.inr (.inr ((0 : Int32), zput p128 h126 h130)))
      else if (x14 &&& (31 : Int32)) = (12 : Int32) then
        ((zix sc.1 (v9 + (1 : Int32))).bind fun q => some (sc.2 q)).bind fun x131 =>
        ((zix sc.1 (v9 + (2 : Int32))).bind fun q => some (sc.2 q)).bind fun x132 =>
        (zob h10 r1 7).bind fun p133 =>
        (fX5_like h10 (some p133) x131 x132).bind fun x134 =>
        ((zix sc.1 (v9 + (1 : Int32))).bind fun q => some (sc.2 q)).bind fun x135 =>
        ((zix sc.1 (v9 + (2 : Int32))).bind fun q => some (sc.2 q)).bind fun x136 =>
        (zob h10 r5 8).bind fun p137 =>
        (zchk p137 h10).bind fun _ =>
        (fX6_like (zget p137 h10) x135 x136).bind fun ((x138, h139) : Int32 × Zr) =>
        if x134 = x138 then
          some (.inl (v9 + (6 : Int32), zput p137 h10 h139))
        else
          some (.inr (.inr ((0 : Int32), zput p137 h10 h139)))
      else if (x14 &&& (31 : Int32)) = (13 : Int32) then
        (zob h10 r1 7).bind fun p140 =>
        (fX5_find h10 (some p140)).bind fun ((x141, h142) : Int32 × Zh) =>
        (zob h142 r5 8).bind fun p143 =>
        (zchk p143 h142).bind fun _ =>
        (fX6_find (zget p143 h142)).bind fun ((x144, h145) : Int32 × Zr) =>
        if x141 = x144 then
          some (.inl (v9 + (6 : Int32), zput p143 h142 h145))
        else
          some (.inr (.inr ((0 : Int32), zput p143 h142 h145)))
      else if (x14 &&& (31 : Int32)) = (14 : Int32) then
        ((zix sc.1 (v9 + (1 : Int32))).bind fun q => some (sc.2 q)).bind fun x146 =>
        ((zix sc.1 (v9 + (2 : Int32))).bind fun q => some (sc.2 q)).bind fun x147 =>
        (zob h10 r1 7).bind fun p148 =>
        (fX5_price h10 (some p148) x146 x147).bind fun ((x149, h150) : Int32 × Zh) =>
        ((zix sc.1 (v9 + (1 : Int32))).bind fun q => some (sc.2 q)).bind fun x151 =>
        ((zix sc.1 (v9 + (2 : Int32))).bind fun q => some (sc.2 q)).bind fun x152 =>
        (zob h150 r5 8).bind fun p153 =>
        (zchk p153 h150).bind fun _ =>
        (fX6_price (zget p153 h150) x151 x152).bind fun ((x154, h155) : Int32 × Zr) =>
        if x149 = x154 then
          some (.inl (v9 + (6 : Int32), zput p153 h150 h155))
        else
          some (.inr (.inr ((0 : Int32), zput p153 h150 h155)))
      else if (x14 &&& (31 : Int32)) = (15 : Int32) then
        ((zix sc.1 (v9 + (1 : Int32))).bind fun q => some (sc.2 q)).bind fun x156 =>
        ((zix sc.1 (v9 + (2 : Int32))).bind fun q => some (sc.2 q)).bind fun x157 =>
        (zob h10 r1 7).bind fun p158 =>
        (fX5_both h10 (some p158) x156 x157).bind fun ((x159, h160) : Int32 × Zh) =>
        ((zix sc.1 (v9 + (1 : Int32))).bind fun q => some (sc.2 q)).bind fun x161 =>
        ((zix sc.1 (v9 + (2 : Int32))).bind fun q => some (sc.2 q)).bind fun x162 =>
        (zob h160 r5 8).bind fun p163 =>
        (zchk p163 h160).bind fun _ =>
        (fX6_both (zget p163 h160) x161 x162).bind fun ((x164, h165) : Int32 × Zr) =>
        if x159 = x164 then
          some (.inl (v9 + (6 : Int32), zput p163 h160 h165))
        else
          some (.inr (.inr ((0 : Int32), zput p163 h160 h165)))
      else if (x14 &&& (31 : Int32)) = (16 : Int32) then
        ((zix sc.1 (v9 + (1 : Int32))).bind fun q => some (sc.2 q)).bind fun x166 =>
        (zob h10 r1 7).bind fun p167 =>
        (fX5_shortest h10 (some p167) x166).bind fun x168 =>
        ((zix sc.1 (v9 + (1 : Int32))).bind fun q => some (sc.2 q)).bind fun x169 =>
        (zob h10 r5 8).bind fun p170 =>
        (zchk p170 h10).bind fun _ =>
        (fX6_shortest (zget p170 h10) x169).bind fun ((x171, h172) : Int32 × Zr) =>
        if x168 = x171 then
          some (.inl (v9 + (6 : Int32), zput p170 h10 h172))
        else
          some (.inr (.inr ((0 : Int32), zput p170 h10 h172)))
      else if (x14 &&& (31 : Int32)) = (17 : Int32) then
        ((zix sc.1 (v9 + (1 : Int32))).bind fun q => some (sc.2 q)).bind fun x173 =>
        ((zix sc.1 (v9 + (2 : Int32))).bind fun q => some (sc.2 q)).bind fun x174 =>
        (zob h10 r1 7).bind fun p175 =>
        (fX5_fit h10 (some p175) x173 x174).bind fun ((x176, h177) : Int32 × Zh) =>
        ((zix sc.1 (v9 + (1 : Int32))).bind fun q => some (sc.2 q)).bind fun x178 =>
        ((zix sc.1 (v9 + (2 : Int32))).bind fun q => some (sc.2 q)).bind fun x179 =>
        (zob h177 r5 8).bind fun p180 =>
        (zchk p180 h177).bind fun _ =>
        (fX6_fit (zget p180 h177) x178 x179).bind fun ((x181, h182) : Int32 × Zr) =>
        if x176 = x181 then
          some (.inl (v9 + (6 : Int32), zput p180 h177 h182))
        else
          some (.inr (.inr ((0 : Int32), zput p180 h177 h182)))
      else if (x14 &&& (31 : Int32)) = (18 : Int32) then
        ((zix sc.1 (v9 + (1 : Int32))).bind fun q => some (sc.2 q)).bind fun x183 =>
        ((zix sc.1 (v9 + (2 : Int32))).bind fun q => some (sc.2 q)).bind fun x184 =>
        (zob h10 r1 7).bind fun p185 =>
        (fX5_work h10 (some p185) x183 x184).bind fun ((x186, h187) : Int32 × Zh) =>
        ((zix sc.1 (v9 + (1 : Int32))).bind fun q => some (sc.2 q)).bind fun x188 =>
        ((zix sc.1 (v9 + (2 : Int32))).bind fun q => some (sc.2 q)).bind fun x189 =>
        (zob h187 r5 8).bind fun p190 =>
        (zchk p190 h187).bind fun _ =>
        (fX6_work (zget p190 h187) x188 x189).bind fun ((x191, h192) : Int32 × Zr) =>
        if x186 = x191 then
          some (.inl (v9 + (6 : Int32), zput p190 h187 h192))
        else
          some (.inr (.inr ((0 : Int32), zput p190 h187 h192)))
      else if (x14 &&& (31 : Int32)) = (19 : Int32) then
        ((zix sc.1 (v9 + (1 : Int32))).bind fun q => some (sc.2 q)).bind fun x193 =>
        ((zix sc.1 (v9 + (2 : Int32))).bind fun q => some (sc.2 q)).bind fun x194 =>
        ((zix sc.1 (v9 + (3 : Int32))).bind fun q => some (sc.2 q)).bind fun x195 =>
        (zob h10 r1 7).bind fun p196 =>
        (fX5_lag h10 (some p196) x193 x194 x195).bind fun ((x197, h198) : Int32 × Zh) =>
        ((zix sc.1 (v9 + (1 : Int32))).bind fun q => some (sc.2 q)).bind fun x199 =>
        ((zix sc.1 (v9 + (2 : Int32))).bind fun q => some (sc.2 q)).bind fun x200 =>
        ((zix sc.1 (v9 + (3 : Int32))).bind fun q => some (sc.2 q)).bind fun x201 =>
        (zob h198 r5 8).bind fun p202 =>
        (zchk p202 h198).bind fun _ =>
        (fX6_lag (zget p202 h198) x199 x200 x201).bind fun ((x203, h204) : Int32 × Zr) =>
        if x197 = x203 then
          some (.inl (v9 + (6 : Int32), zput p202 h198 h204))
        else
          some (.inr (.inr ((0 : Int32), zput p202 h198 h204)))
      else if (x14 &&& (31 : Int32)) = (20 : Int32) then
        ((zix sc.1 (v9 + (1 : Int32))).bind fun q => some (sc.2 q)).bind fun x205 =>
        (zob h10 r1 7).bind fun p206 =>
        (fX5_slow h10 (some p206) x205).bind fun ((x207, h208) : Int32 × Zh) =>
        ((zix sc.1 (v9 + (1 : Int32))).bind fun q => some (sc.2 q)).bind fun x209 =>
        (zob h208 r5 8).bind fun p210 =>
        (zchk p210 h208).bind fun _ =>
        (fX6_slow (zget p210 h208) x209).bind fun ((x211, h212) : Int32 × Zr) =>
        if x207 = x211 then
          some (.inl (v9 + (6 : Int32), zput p210 h208 h212))
        else
          some (.inr (.inr ((0 : Int32), zput p210 h208 h212)))
      else if (x14 &&& (31 : Int32)) = (21 : Int32) then
        ((zix sc.1 (v9 + (1 : Int32))).bind fun q => some (sc.2 q)).bind fun x213 =>
        ((zix sc.1 (v9 + (2 : Int32))).bind fun q => some (sc.2 q)).bind fun x214 =>
        (zob h10 r1 7).bind fun p215 =>
        (fX5_passes h10 (some p215) x213 x214).bind fun x216 =>
        ((zix sc.1 (v9 + (1 : Int32))).bind fun q => some (sc.2 q)).bind fun x217 =>
        ((zix sc.1 (v9 + (2 : Int32))).bind fun q => some (sc.2 q)).bind fun x218 =>
        (zob h10 r5 8).bind fun p219 =>
        (zchk p219 h10).bind fun _ =>
        (fX6_passes (zget p219 h10) x217 x218).bind fun x220 =>
        if x216 = x220 then
          some (.inl (v9 + (6 : Int32), h10))
        else
          some (.inr (.inr ((0 : Int32), h10)))
      else if (x14 &&& (31 : Int32)) = (22 : Int32) then
        ((zix sc.1 (v9 + (1 : Int32))).bind fun q => some (sc.2 q)).bind fun x221 =>
        (zob h10 r1 7).bind fun p222 =>
        (fX5_count h10 (some p222) x221).bind fun x223 =>
        ((zix sc.1 (v9 + (1 : Int32))).bind fun q => some (sc.2 q)).bind fun x224 =>
        (zob h10 r5 8).bind fun p225 =>
        (zchk p225 h10).bind fun _ =>
        (fX6_count (zget p225 h10) x224).bind fun x226 =>
        if x223 = x226 then
          some (.inl (v9 + (6 : Int32), h10))
        else
          some (.inr (.inr ((0 : Int32), h10)))
      else some (.inl (v9 + (6 : Int32), h10)) : Option ((Int32 × Zh) ⊕ (Zh ⊕ (Int32 × Zh))))) zFU ((0 : Int32), h8)).bind fun (q : (Zh ⊕ (Int32 × Zh))) => match q with
  | .inr t => some t
  | .inl h11 =>
    some ((1 : Int32), h11)
set_option maxRecDepth 100000 in
set_option maxHeartbeats 8000000 in
theorem kL_law (G : Zg) (c : Nat × Nat) (hc : c = G.2.2.2.2.2) (sc : Nat × (Nat → Int32)) (hsc : sc = G.1.2.2) (h : Zh) : zTT G x code 4 134 (some .boolean) (fun (x : Int32 × Zh) => some (.int x.1)) (fun (x : Int32 × Zh) => x.2) (fL_law c sc h) 0 [(0, zrv G.2.1 (some G.1.2.1))] [] h := by
  unfold fL_law
  refine z_newO dL_law_0 zkl6 zw117 zw118 zw100 (by decide +kernel) (fun r1 h2 => ?_)
  try dsimp only
  refine z_dup dL_law_3 (zcat1 _ _) ?_
  refine z_ob (fun p3 ep3 lp3 kp3 => ?_)
  refine z_callI (As := []) (rest := [zrv G.2.1 r1]) (h2 := fun (x : Zh) => x) dL_law_4 vX5_init (.inl zw119) (by decide) rfl (by rw [ep3]; rfl) (by simp [zcat1, zcI, zcJ]) (fun x hx => kX5_init G h2 (some p3) hx) (fun h4 => ?_)
  try dsimp only [Option.toList, List.cons_append, List.nil_append]
  refine z_astore_n (i := 1) (lv' := [(1, zrv G.2.1 r1), (0, zrv G.2.1 (some G.1.2.1))]) dL_law_7 rfl (by decide) rfl ?_
  refine z_newO dL_law_8 zkl7 zw770 zw771 zw103 (by decide +kernel) (fun r5 h6 => ?_)
  try dsimp only
  refine z_dup dL_law_11 (zcat1 _ _) ?_
  refine z_ob (fun p7 ep7 lp7 kp7 => ?_)
  refine z_callI (As := []) (rest := [zrv G.2.1 r5]) (h2 := fun (x : Zh) => x) dL_law_12 vX6_init (.inl zw772) (by decide) rfl (by rw [ep7]; rfl) (by simp [zcat1, zcI, zcJ]) (fun x hx => kX6_init G h6 (some p7) hx) (fun h8 => ?_)
  try dsimp only [Option.toList, List.cons_append, List.nil_append]
  refine z_astore_n (i := 2) (lv' := [(2, zrv G.2.1 r5), (1, zrv G.2.1 r1), (0, zrv G.2.1 (some G.1.2.1))]) dL_law_15 rfl (by decide) (by simp [zcat1, zcI, zcJ]) ?_
  refine z_iconst (v := 0) dL_law_16 (by decide) ?_
  refine z_istore_n (i := 3) (lv' := [(3, .int (0 : Int32)), (2, zrv G.2.1 r5), (1, zrv G.2.1 r1), (0, zrv G.2.1 (some G.1.2.1))]) dL_law_17 rfl (by decide) (by simp [zcat1, zcI, zcJ]) ?_
  refine z_at [3, 2, 1, 0] rfl ?_
  refine z_joinS (pc2 := 881) (lv2 := fun (q : Zh) => []) (st2 := fun _ => []) (h2 := fun (q : Zh) => q) (fun q => ?_) (fun _ => rfl) (fun F12 kF12 tF12 => ?_)
  · obtain ⟨h11, e0⟩ : ∃ z, z = q := ⟨_, rfl⟩
    subst e0
    try dsimp only
    refine z_iconst (v := 1) dL_law_881 (by decide) ?_
    exact z_iret dL_law_882 rfl rfl rfl rfl
  · refine z_loop (lvf := fun (q : Int32 × Zh) => [(0, zrv G.2.1 (some G.1.2.1)), (1, zrv G.2.1 r1), (2, zrv G.2.1 r5), (3, .int q.1)]) (hf2 := fun (q : Int32 × Zh) => q.2) (s0 := ((0 : Int32), h8)) (fun K13 bK13 rK13 q => ?_)
    obtain ⟨v9, h10⟩ := q
    try dsimp only
    refine z_iload_n (j := 3) dL_law_18 rfl rfl ?_
    refine z_aload_n (j := 0) dL_law_19 rfl rfl ?_
    refine z_slen hsc dL_law_20 ?_
    refine z_bipush (v := 6) dL_law_21 (by decide) ?_
    refine z_isub dL_law_23 ?_
    refine z_itb ?_
    refine z_icmp_gt (tgt := 881) dL_law_24 (by decide) (fun _ => ?_) (fun _ => ?_)
    · refine z_sb ?_
      refine z_eq (rK13 _) ?_
      refine z_at [] rfl ?_
      exact kF12 h10
    · refine z_aload_n (j := 0) dL_law_27 rfl rfl ?_
      refine z_iload_n (j := 3) dL_law_28 rfl rfl ?_
      refine z_as ?_
      refine z_sld hsc dL_law_29 (fun x14 => ?_)
      refine z_bipush (v := 31) dL_law_30 (by decide) ?_
      refine z_iand dL_law_32 ?_
      refine z_itb ?_
      refine z_cases (fun n0 => ?_) (fun n0 => ?_)
      · refine z_swIn (off := 107) (tgt := 140) dL_law_33 (by rw [n0]; decide) (by rw [n0]; decide) (by rw [n0]; rfl) (by decide) ?_
        refine z_aload_n (j := 1) dL_law_140 rfl rfl ?_
        refine z_as ?_
        refine z_ob (fun p15 ep15 lp15 kp15 => ?_)
        refine z_as ?_
        refine z_callV (As := []) (rest := []) (rv2 := fun (x : Int32 × Zh) => some (.int x.1)) (h2 := fun (x : Int32 × Zh) => x.2) dL_law_141 vX5_open (.inl zw231) (by decide) zkl6 lp15 kp15 rfl (by rw [ep15]; rfl) (by decide) (fun x hx => kX5_open G h10 (some p15) hx) (fun x => ?_)
        obtain ⟨x16, h17⟩ := x
        try dsimp only [Option.toList, List.cons_append, List.nil_append]
        refine z_aload_n (j := 2) dL_law_144 rfl rfl ?_
        refine z_as ?_
        refine z_ob (fun p18 ep18 lp18 kp18 => ?_)
        refine z_as ?_
        refine z_chk (fun fp18 => ?_)
        refine z_as ?_
        refine z_callV (As := []) (rest := [.int x16]) (rv2 := fun (x : Int32 × Zr) => some (.int x.1)) (d := 1) (h2 := fun (x : Int32 × Zr) => zput p18 h17 x.2) dL_law_145 vX6_open (.inl zw973) (by decide) zkl7 lp18 kp18 rfl (by rw [ep18]; rfl) (by simp [zcat1, zcI, zcJ]) (fun x hx => by have q := kX6_open G p18 h17 fp18 (zget p18 h17) hx; rw [zput_get] at q; exact q) (fun x => ?_)
        obtain ⟨x19, h20⟩ := x
        try dsimp only [Option.toList, List.cons_append, List.nil_append]
        refine z_itb ?_
        refine z_icmp_eq (tgt := 875) dL_law_148 (by decide) (fun _ => ?_) (fun _ => ?_)
        · refine z_iinc (j := 3) (v := v9 + (6 : Int32)) (lv' := [(3, .int (v9 + (6 : Int32))), (0, zrv G.2.1 (some G.1.2.1)), (1, zrv G.2.1 r1), (2, zrv G.2.1 r5)]) dL_law_875 rfl rfl (by decide) (by simp [zcat1, zcI, zcJ]) ?_
          refine z_goto (tgt := 18) dL_law_878 (by decide) ?_
          refine z_sb ?_
          refine z_at [1, 2, 3, 0] rfl ?_
          exact bK13 (v9 + (6 : Int32), zput p18 h17 h20)
        · refine z_iconst (v := 0) dL_law_151 (by decide) ?_
          refine z_sb ?_
          refine z_eq (rK13 _) ?_
          refine z_eq (tF12 _) ?_
          exact z_iret dL_law_152 rfl rfl rfl rfl
      · refine z_itb ?_
        refine z_cases (fun n1 => ?_) (fun n1 => ?_)
        · refine z_swIn (off := 120) (tgt := 153) dL_law_33 (by rw [n1]; decide) (by rw [n1]; decide) (by rw [n1]; rfl) (by decide) ?_
          refine z_aload_n (j := 1) dL_law_153 rfl rfl ?_
          refine z_aload_n (j := 0) dL_law_154 rfl rfl ?_
          refine z_iload_n (j := 3) dL_law_155 rfl rfl ?_
          refine z_iconst (v := 1) dL_law_156 (by decide) ?_
          refine z_iadd dL_law_157 ?_
          refine z_as ?_
          refine z_sld hsc dL_law_158 (fun x21 => ?_)
          refine z_aload_n (j := 0) dL_law_159 rfl rfl ?_
          refine z_iload_n (j := 3) dL_law_160 rfl rfl ?_
          refine z_iconst (v := 2) dL_law_161 (by decide) ?_
          refine z_iadd dL_law_162 ?_
          refine z_as ?_
          refine z_sld hsc dL_law_163 (fun x22 => ?_)
          refine z_aload_n (j := 0) dL_law_164 rfl rfl ?_
          refine z_iload_n (j := 3) dL_law_165 rfl rfl ?_
          refine z_iconst (v := 3) dL_law_166 (by decide) ?_
          refine z_iadd dL_law_167 ?_
          refine z_as ?_
          refine z_sld hsc dL_law_168 (fun x23 => ?_)
          refine z_aload_n (j := 0) dL_law_169 rfl rfl ?_
          refine z_iload_n (j := 3) dL_law_170 rfl rfl ?_
          refine z_iconst (v := 4) dL_law_171 (by decide) ?_
          refine z_iadd dL_law_172 ?_
          refine z_as ?_
          refine z_sld hsc dL_law_173 (fun x24 => ?_)
          refine z_aload_n (j := 0) dL_law_174 rfl rfl ?_
          refine z_iload_n (j := 3) dL_law_175 rfl rfl ?_
          refine z_iconst (v := 5) dL_law_176 (by decide) ?_
          refine z_iadd dL_law_177 ?_
          refine z_as ?_
          refine z_sld hsc dL_law_178 (fun x25 => ?_)
          refine z_as ?_
          refine z_ob (fun p26 ep26 lp26 kp26 => ?_)
          refine z_as ?_
          refine z_callV (As := [.int x21, .int x22, .int x23, .int x24, .int x25]) (rest := []) (rv2 := fun (x : Int32 × Zh) => some (.int x.1)) (h2 := fun (x : Int32 × Zh) => x.2) dL_law_179 vX5_add (.inl zw252) (by decide) zkl6 lp26 kp26 rfl (by rw [ep26]; rfl) (by decide) (fun x hx => kX5_add G h10 (some p26) x21 x22 x23 x24 x25 hx) (fun x => ?_)
          obtain ⟨x27, h28⟩ := x
          try dsimp only [Option.toList, List.cons_append, List.nil_append]
          refine z_aload_n (j := 2) dL_law_182 rfl rfl ?_
          refine z_aload_n (j := 0) dL_law_183 rfl rfl ?_
          refine z_iload_n (j := 3) dL_law_184 rfl rfl ?_
          refine z_iconst (v := 1) dL_law_185 (by decide) ?_
          refine z_iadd dL_law_186 ?_
          refine z_as ?_
          refine z_sld hsc dL_law_187 (fun x29 => ?_)
          refine z_aload_n (j := 0) dL_law_188 rfl rfl ?_
          refine z_iload_n (j := 3) dL_law_189 rfl rfl ?_
          refine z_iconst (v := 2) dL_law_190 (by decide) ?_
          refine z_iadd dL_law_191 ?_
          refine z_as ?_
          refine z_sld hsc dL_law_192 (fun x30 => ?_)
          refine z_aload_n (j := 0) dL_law_193 rfl rfl ?_
          refine z_iload_n (j := 3) dL_law_194 rfl rfl ?_
          refine z_iconst (v := 3) dL_law_195 (by decide) ?_
          refine z_iadd dL_law_196 ?_
          refine z_as ?_
          refine z_sld hsc dL_law_197 (fun x31 => ?_)
          refine z_aload_n (j := 0) dL_law_198 rfl rfl ?_
          refine z_iload_n (j := 3) dL_law_199 rfl rfl ?_
          refine z_iconst (v := 4) dL_law_200 (by decide) ?_
          refine z_iadd dL_law_201 ?_
          refine z_as ?_
          refine z_sld hsc dL_law_202 (fun x32 => ?_)
          refine z_aload_n (j := 0) dL_law_203 rfl rfl ?_
          refine z_iload_n (j := 3) dL_law_204 rfl rfl ?_
          refine z_iconst (v := 5) dL_law_205 (by decide) ?_
          refine z_iadd dL_law_206 ?_
          refine z_as ?_
          refine z_sld hsc dL_law_207 (fun x33 => ?_)
          refine z_as ?_
          refine z_ob (fun p34 ep34 lp34 kp34 => ?_)
          refine z_as ?_
          refine z_chk (fun fp34 => ?_)
          refine z_as ?_
          refine z_callV (As := [.int x29, .int x30, .int x31, .int x32, .int x33]) (rest := [.int x27]) (rv2 := fun (x : Int32 × Zr) => some (.int x.1)) (d := 3) (h2 := fun (x : Int32 × Zr) => zput p34 h28 x.2) dL_law_208 vX6_add (.inl zw977) (by decide) zkl7 lp34 kp34 rfl (by rw [ep34]; rfl) (by simp [zcat1, zcI, zcJ]) (fun x hx => by have q := kX6_add G p34 h28 fp34 (zget p34 h28) x29 x30 x31 x32 x33 hx; rw [zput_get] at q; exact q) (fun x => ?_)
          obtain ⟨x35, h36⟩ := x
          try dsimp only [Option.toList, List.cons_append, List.nil_append]
          refine z_itb ?_
          refine z_icmp_eq (tgt := 875) dL_law_211 (by decide) (fun _ => ?_) (fun _ => ?_)
          · refine z_iinc (j := 3) (v := v9 + (6 : Int32)) (lv' := [(3, .int (v9 + (6 : Int32))), (0, zrv G.2.1 (some G.1.2.1)), (1, zrv G.2.1 r1), (2, zrv G.2.1 r5)]) dL_law_875 rfl rfl (by decide) (by simp [zcat1, zcI, zcJ]) ?_
            refine z_goto (tgt := 18) dL_law_878 (by decide) ?_
            refine z_sb ?_
            refine z_at [1, 2, 3, 0] rfl ?_
            exact bK13 (v9 + (6 : Int32), zput p34 h28 h36)
          · refine z_iconst (v := 0) dL_law_214 (by decide) ?_
            refine z_sb ?_
            refine z_eq (rK13 _) ?_
            refine z_eq (tF12 _) ?_
            exact z_iret dL_law_215 rfl rfl rfl rfl
        · refine z_itb ?_
          refine z_cases (fun n2 => ?_) (fun n2 => ?_)
          · refine z_swIn (off := 183) (tgt := 216) dL_law_33 (by rw [n2]; decide) (by rw [n2]; decide) (by rw [n2]; rfl) (by decide) ?_
            refine z_aload_n (j := 1) dL_law_216 rfl rfl ?_
            refine z_aload_n (j := 0) dL_law_217 rfl rfl ?_
            refine z_iload_n (j := 3) dL_law_218 rfl rfl ?_
            refine z_iconst (v := 1) dL_law_219 (by decide) ?_
            refine z_iadd dL_law_220 ?_
            refine z_as ?_
            refine z_sld hsc dL_law_221 (fun x37 => ?_)
            refine z_as ?_
            refine z_ob (fun p38 ep38 lp38 kp38 => ?_)
            refine z_as ?_
            refine z_callV (As := [.int x37]) (rest := []) (rv2 := fun (x : Int32 × Zh) => some (.int x.1)) (h2 := fun (x : Int32 × Zh) => x.2) dL_law_222 vX5_cut (.inl zw278) (by decide) zkl6 lp38 kp38 rfl (by rw [ep38]; rfl) (by decide) (fun x hx => kX5_cut G h10 (some p38) x37 hx) (fun x => ?_)
            obtain ⟨x39, h40⟩ := x
            try dsimp only [Option.toList, List.cons_append, List.nil_append]
            refine z_aload_n (j := 2) dL_law_225 rfl rfl ?_
            refine z_aload_n (j := 0) dL_law_226 rfl rfl ?_
            refine z_iload_n (j := 3) dL_law_227 rfl rfl ?_
            refine z_iconst (v := 1) dL_law_228 (by decide) ?_
            refine z_iadd dL_law_229 ?_
            refine z_as ?_
            refine z_sld hsc dL_law_230 (fun x41 => ?_)
            refine z_as ?_
            refine z_ob (fun p42 ep42 lp42 kp42 => ?_)
            refine z_as ?_
            refine z_chk (fun fp42 => ?_)
            refine z_as ?_
            refine z_callV (As := [.int x41]) (rest := [.int x39]) (rv2 := fun (x : Int32 × Zr) => some (.int x.1)) (d := 3) (h2 := fun (x : Int32 × Zr) => zput p42 h40 x.2) dL_law_231 vX6_cut (.inl zw998) (by decide) zkl7 lp42 kp42 rfl (by rw [ep42]; rfl) (by simp [zcat1, zcI, zcJ]) (fun x hx => by have q := kX6_cut G p42 h40 fp42 (zget p42 h40) x41 hx; rw [zput_get] at q; exact q) (fun x => ?_)
            obtain ⟨x43, h44⟩ := x
            try dsimp only [Option.toList, List.cons_append, List.nil_append]
            refine z_itb ?_
            refine z_icmp_eq (tgt := 875) dL_law_234 (by decide) (fun _ => ?_) (fun _ => ?_)
            · refine z_iinc (j := 3) (v := v9 + (6 : Int32)) (lv' := [(3, .int (v9 + (6 : Int32))), (0, zrv G.2.1 (some G.1.2.1)), (1, zrv G.2.1 r1), (2, zrv G.2.1 r5)]) dL_law_875 rfl rfl (by decide) (by simp [zcat1, zcI, zcJ]) ?_
              refine z_goto (tgt := 18) dL_law_878 (by decide) ?_
              refine z_sb ?_
              refine z_at [1, 2, 3, 0] rfl ?_
              exact bK13 (v9 + (6 : Int32), zput p42 h40 h44)
            · refine z_iconst (v := 0) dL_law_237 (by decide) ?_
              refine z_sb ?_
              refine z_eq (rK13 _) ?_
              refine z_eq (tF12 _) ?_
              exact z_iret dL_law_238 rfl rfl rfl rfl
          · refine z_itb ?_
            refine z_cases (fun n3 => ?_) (fun n3 => ?_)
            · refine z_swIn (off := 206) (tgt := 239) dL_law_33 (by rw [n3]; decide) (by rw [n3]; decide) (by rw [n3]; rfl) (by decide) ?_
              refine z_aload_n (j := 1) dL_law_239 rfl rfl ?_
              refine z_aload_n (j := 0) dL_law_240 rfl rfl ?_
              refine z_iload_n (j := 3) dL_law_241 rfl rfl ?_
              refine z_iconst (v := 1) dL_law_242 (by decide) ?_
              refine z_iadd dL_law_243 ?_
              refine z_as ?_
              refine z_sld hsc dL_law_244 (fun x45 => ?_)
              refine z_aload_n (j := 0) dL_law_245 rfl rfl ?_
              refine z_iload_n (j := 3) dL_law_246 rfl rfl ?_
              refine z_iconst (v := 2) dL_law_247 (by decide) ?_
              refine z_iadd dL_law_248 ?_
              refine z_as ?_
              refine z_sld hsc dL_law_249 (fun x46 => ?_)
              refine z_as ?_
              refine z_join (pc2 := 258) (lv2 := fun (q : Int32) => [(0, zrv G.2.1 (some G.1.2.1)), (1, zrv G.2.1 r1), (2, zrv G.2.1 r5), (3, .int v9)]) (st2 := fun (q : Int32) => [.int q, .int x45, zrv G.2.1 r1]) (h2 := fun (q : Int32) => h10) (fun q => ?_) (fun F48 kF48 => ?_)
              · obtain ⟨v47, e0⟩ : ∃ z, z = q := ⟨_, rfl⟩
                subst e0
                try dsimp only
                refine z_as ?_
                refine z_ob (fun p49 ep49 lp49 kp49 => ?_)
                refine z_as ?_
                refine z_callV (As := [.int x45, .int v47]) (rest := []) (rv2 := fun (x : Int32 × Zh) => some (.int x.1)) (h2 := fun (x : Int32 × Zh) => x.2) dL_law_258 vX5_drop (.inl zw282) (by decide) zkl6 lp49 kp49 rfl (by rw [ep49]; rfl) (by decide) (fun x hx => kX5_drop G h10 (some p49) x45 v47 hx) (fun x => ?_)
                obtain ⟨x50, h51⟩ := x
                try dsimp only [Option.toList, List.cons_append, List.nil_append]
                refine z_aload_n (j := 2) dL_law_261 rfl rfl ?_
                refine z_aload_n (j := 0) dL_law_262 rfl rfl ?_
                refine z_iload_n (j := 3) dL_law_263 rfl rfl ?_
                refine z_iconst (v := 1) dL_law_264 (by decide) ?_
                refine z_iadd dL_law_265 ?_
                refine z_as ?_
                refine z_sld hsc dL_law_266 (fun x52 => ?_)
                refine z_aload_n (j := 0) dL_law_267 rfl rfl ?_
                refine z_iload_n (j := 3) dL_law_268 rfl rfl ?_
                refine z_iconst (v := 2) dL_law_269 (by decide) ?_
                refine z_iadd dL_law_270 ?_
                refine z_as ?_
                refine z_sld hsc dL_law_271 (fun x53 => ?_)
                refine z_as ?_
                refine z_join (pc2 := 280) (lv2 := fun (q : Int32) => [(0, zrv G.2.1 (some G.1.2.1)), (1, zrv G.2.1 r1), (2, zrv G.2.1 r5), (3, .int v9)]) (st2 := fun (q : Int32) => [.int q, .int x52, zrv G.2.1 r5, .int x50]) (h2 := fun (q : Int32) => h51) (fun q => ?_) (fun F55 kF55 => ?_)
                · obtain ⟨v54, e0⟩ : ∃ z, z = q := ⟨_, rfl⟩
                  subst e0
                  try dsimp only
                  refine z_as ?_
                  refine z_ob (fun p56 ep56 lp56 kp56 => ?_)
                  refine z_as ?_
                  refine z_chk (fun fp56 => ?_)
                  refine z_as ?_
                  refine z_callV (As := [.int x52, .int v54]) (rest := [.int x50]) (rv2 := fun (x : Int32 × Zr) => some (.int x.1)) (d := 3) (h2 := fun (x : Int32 × Zr) => zput p56 h51 x.2) dL_law_280 vX6_drop (.inl zw1002) (by decide) zkl7 lp56 kp56 rfl (by rw [ep56]; rfl) (by simp [zcat1, zcI, zcJ]) (fun x hx => by have q := kX6_drop G p56 h51 fp56 (zget p56 h51) x52 v54 hx; rw [zput_get] at q; exact q) (fun x => ?_)
                  obtain ⟨x57, h58⟩ := x
                  try dsimp only [Option.toList, List.cons_append, List.nil_append]
                  refine z_itb ?_
                  refine z_icmp_eq (tgt := 875) dL_law_283 (by decide) (fun _ => ?_) (fun _ => ?_)
                  · refine z_iinc (j := 3) (v := v9 + (6 : Int32)) (lv' := [(3, .int (v9 + (6 : Int32))), (0, zrv G.2.1 (some G.1.2.1)), (1, zrv G.2.1 r1), (2, zrv G.2.1 r5)]) dL_law_875 rfl rfl (by decide) (by simp [zcat1, zcI, zcJ]) ?_
                    refine z_goto (tgt := 18) dL_law_878 (by decide) ?_
                    refine z_sb ?_
                    refine z_at [1, 2, 3, 0] rfl ?_
                    exact bK13 (v9 + (6 : Int32), zput p56 h51 h58)
                  · refine z_iconst (v := 0) dL_law_286 (by decide) ?_
                    refine z_sb ?_
                    refine z_eq (rK13 _) ?_
                    refine z_eq (tF12 _) ?_
                    exact z_iret dL_law_287 rfl rfl rfl rfl
                · refine z_itb ?_
                  refine z_if_eq (tgt := 279) dL_law_272 (by decide) (fun _ => ?_) (fun _ => ?_)
                  · refine z_iconst (v := 0) dL_law_279 (by decide) ?_
                    refine z_sb ?_
                    refine z_at [0, 1, 2, 3] rfl ?_
                    exact kF55 (0 : Int32)
                  · refine z_iconst (v := 1) dL_law_275 (by decide) ?_
                    refine z_goto (tgt := 280) dL_law_276 (by decide) ?_
                    refine z_sb ?_
                    refine z_at [0, 1, 2, 3] rfl ?_
                    exact kF55 (1 : Int32)
              · refine z_itb ?_
                refine z_if_eq (tgt := 257) dL_law_250 (by decide) (fun _ => ?_) (fun _ => ?_)
                · refine z_iconst (v := 0) dL_law_257 (by decide) ?_
                  refine z_sb ?_
                  refine z_at [0, 1, 2, 3] rfl ?_
                  exact kF48 (0 : Int32)
                · refine z_iconst (v := 1) dL_law_253 (by decide) ?_
                  refine z_goto (tgt := 258) dL_law_254 (by decide) ?_
                  refine z_sb ?_
                  refine z_at [0, 1, 2, 3] rfl ?_
                  exact kF48 (1 : Int32)
            · refine z_itb ?_
              refine z_cases (fun n4 => ?_) (fun n4 => ?_)
              · refine z_swIn (off := 255) (tgt := 288) dL_law_33 (by rw [n4]; decide) (by rw [n4]; decide) (by rw [n4]; rfl) (by decide) ?_
                refine z_aload_n (j := 1) dL_law_288 rfl rfl ?_
                refine z_aload_n (j := 0) dL_law_289 rfl rfl ?_
                refine z_iload_n (j := 3) dL_law_290 rfl rfl ?_
                refine z_iconst (v := 1) dL_law_291 (by decide) ?_
                refine z_iadd dL_law_292 ?_
                refine z_as ?_
                refine z_sld hsc dL_law_293 (fun x59 => ?_)
                refine z_aload_n (j := 0) dL_law_294 rfl rfl ?_
                refine z_iload_n (j := 3) dL_law_295 rfl rfl ?_
                refine z_iconst (v := 2) dL_law_296 (by decide) ?_
                refine z_iadd dL_law_297 ?_
                refine z_as ?_
                refine z_sld hsc dL_law_298 (fun x60 => ?_)
                refine z_aload_n (j := 0) dL_law_299 rfl rfl ?_
                refine z_iload_n (j := 3) dL_law_300 rfl rfl ?_
                refine z_iconst (v := 3) dL_law_301 (by decide) ?_
                refine z_iadd dL_law_302 ?_
                refine z_as ?_
                refine z_sld hsc dL_law_303 (fun x61 => ?_)
                refine z_as ?_
                refine z_ob (fun p62 ep62 lp62 kp62 => ?_)
                refine z_as ?_
                refine z_callV (As := [.int x59, .int x60, .int x61]) (rest := []) (rv2 := fun (x : Int32) => some (.int x)) (h2 := fun (_ : Int32) => h10) dL_law_304 vX5_told (.inl zw286) (by decide) zkl6 lp62 kp62 rfl (by rw [ep62]; rfl) (by decide) (fun x hx => kX5_told G h10 (some p62) x59 x60 x61 hx) (fun x63 => ?_)
                try dsimp only [Option.toList, List.cons_append, List.nil_append]
                refine z_aload_n (j := 2) dL_law_307 rfl rfl ?_
                refine z_aload_n (j := 0) dL_law_308 rfl rfl ?_
                refine z_iload_n (j := 3) dL_law_309 rfl rfl ?_
                refine z_iconst (v := 1) dL_law_310 (by decide) ?_
                refine z_iadd dL_law_311 ?_
                refine z_as ?_
                refine z_sld hsc dL_law_312 (fun x64 => ?_)
                refine z_aload_n (j := 0) dL_law_313 rfl rfl ?_
                refine z_iload_n (j := 3) dL_law_314 rfl rfl ?_
                refine z_iconst (v := 2) dL_law_315 (by decide) ?_
                refine z_iadd dL_law_316 ?_
                refine z_as ?_
                refine z_sld hsc dL_law_317 (fun x65 => ?_)
                refine z_aload_n (j := 0) dL_law_318 rfl rfl ?_
                refine z_iload_n (j := 3) dL_law_319 rfl rfl ?_
                refine z_iconst (v := 3) dL_law_320 (by decide) ?_
                refine z_iadd dL_law_321 ?_
                refine z_as ?_
                refine z_sld hsc dL_law_322 (fun x66 => ?_)
                refine z_as ?_
                refine z_ob (fun p67 ep67 lp67 kp67 => ?_)
                refine z_as ?_
                refine z_chk (fun fp67 => ?_)
                refine z_as ?_
                refine z_callV (As := [.int x64, .int x65, .int x66]) (rest := [.int x63]) (rv2 := fun (x : Int32) => some (.int x)) (d := 3) (h2 := fun (_ : Int32) => h10) dL_law_323 vX6_told (.inl zw1006) (by decide) zkl7 lp67 kp67 rfl (by rw [ep67]; rfl) (by simp [zcat1, zcI, zcJ]) (fun x hx => by have q := kX6_told G p67 h10 fp67 (zget p67 h10) x64 x65 x66 hx; rw [zput_get] at q; exact q) (fun x68 => ?_)
                try dsimp only [Option.toList, List.cons_append, List.nil_append]
                refine z_itb ?_
                refine z_icmp_eq (tgt := 875) dL_law_326 (by decide) (fun _ => ?_) (fun _ => ?_)
                · refine z_iinc (j := 3) (v := v9 + (6 : Int32)) (lv' := [(3, .int (v9 + (6 : Int32))), (0, zrv G.2.1 (some G.1.2.1)), (1, zrv G.2.1 r1), (2, zrv G.2.1 r5)]) dL_law_875 rfl rfl (by decide) (by simp [zcat1, zcI, zcJ]) ?_
                  refine z_goto (tgt := 18) dL_law_878 (by decide) ?_
                  refine z_sb ?_
                  refine z_at [1, 2, 3, 0] rfl ?_
                  exact bK13 (v9 + (6 : Int32), h10)
                · refine z_iconst (v := 0) dL_law_329 (by decide) ?_
                  refine z_sb ?_
                  refine z_eq (rK13 _) ?_
                  refine z_eq (tF12 _) ?_
                  exact z_iret dL_law_330 rfl rfl rfl rfl
              · refine z_itb ?_
                refine z_cases (fun n5 => ?_) (fun n5 => ?_)
                · refine z_swIn (off := 298) (tgt := 331) dL_law_33 (by rw [n5]; decide) (by rw [n5]; decide) (by rw [n5]; rfl) (by decide) ?_
                  refine z_aload_n (j := 1) dL_law_331 rfl rfl ?_
                  refine z_aload_n (j := 0) dL_law_332 rfl rfl ?_
                  refine z_iload_n (j := 3) dL_law_333 rfl rfl ?_
                  refine z_iconst (v := 1) dL_law_334 (by decide) ?_
                  refine z_iadd dL_law_335 ?_
                  refine z_as ?_
                  refine z_sld hsc dL_law_336 (fun x69 => ?_)
                  refine z_aload_n (j := 0) dL_law_337 rfl rfl ?_
                  refine z_iload_n (j := 3) dL_law_338 rfl rfl ?_
                  refine z_iconst (v := 2) dL_law_339 (by decide) ?_
                  refine z_iadd dL_law_340 ?_
                  refine z_as ?_
                  refine z_sld hsc dL_law_341 (fun x70 => ?_)
                  refine z_as ?_
                  refine z_ob (fun p71 ep71 lp71 kp71 => ?_)
                  refine z_as ?_
                  refine z_callV (As := [.int x69, .int x70]) (rest := []) (rv2 := fun (x : Int32) => some (.int x)) (h2 := fun (_ : Int32) => h10) dL_law_342 vX5_follows (.inl zw294) (by decide) zkl6 lp71 kp71 rfl (by rw [ep71]; rfl) (by decide) (fun x hx => kX5_follows G h10 (some p71) x69 x70 hx) (fun x72 => ?_)
                  try dsimp only [Option.toList, List.cons_append, List.nil_append]
                  refine z_aload_n (j := 2) dL_law_345 rfl rfl ?_
                  refine z_aload_n (j := 0) dL_law_346 rfl rfl ?_
                  refine z_iload_n (j := 3) dL_law_347 rfl rfl ?_
                  refine z_iconst (v := 1) dL_law_348 (by decide) ?_
                  refine z_iadd dL_law_349 ?_
                  refine z_as ?_
                  refine z_sld hsc dL_law_350 (fun x73 => ?_)
                  refine z_aload_n (j := 0) dL_law_351 rfl rfl ?_
                  refine z_iload_n (j := 3) dL_law_352 rfl rfl ?_
                  refine z_iconst (v := 2) dL_law_353 (by decide) ?_
                  refine z_iadd dL_law_354 ?_
                  refine z_as ?_
                  refine z_sld hsc dL_law_355 (fun x74 => ?_)
                  refine z_as ?_
                  refine z_ob (fun p75 ep75 lp75 kp75 => ?_)
                  refine z_as ?_
                  refine z_chk (fun fp75 => ?_)
                  refine z_as ?_
                  refine z_callV (As := [.int x73, .int x74]) (rest := [.int x72]) (rv2 := fun (x : Int32) => some (.int x)) (d := 3) (h2 := fun (_ : Int32) => h10) dL_law_356 vX6_follows (.inl zw1011) (by decide) zkl7 lp75 kp75 rfl (by rw [ep75]; rfl) (by simp [zcat1, zcI, zcJ]) (fun x hx => by have q := kX6_follows G p75 h10 fp75 (zget p75 h10) x73 x74 hx; rw [zput_get] at q; exact q) (fun x76 => ?_)
                  try dsimp only [Option.toList, List.cons_append, List.nil_append]
                  refine z_itb ?_
                  refine z_icmp_eq (tgt := 875) dL_law_359 (by decide) (fun _ => ?_) (fun _ => ?_)
                  · refine z_iinc (j := 3) (v := v9 + (6 : Int32)) (lv' := [(3, .int (v9 + (6 : Int32))), (0, zrv G.2.1 (some G.1.2.1)), (1, zrv G.2.1 r1), (2, zrv G.2.1 r5)]) dL_law_875 rfl rfl (by decide) (by simp [zcat1, zcI, zcJ]) ?_
                    refine z_goto (tgt := 18) dL_law_878 (by decide) ?_
                    refine z_sb ?_
                    refine z_at [1, 2, 3, 0] rfl ?_
                    exact bK13 (v9 + (6 : Int32), h10)
                  · refine z_iconst (v := 0) dL_law_362 (by decide) ?_
                    refine z_sb ?_
                    refine z_eq (rK13 _) ?_
                    refine z_eq (tF12 _) ?_
                    exact z_iret dL_law_363 rfl rfl rfl rfl
                · refine z_itb ?_
                  refine z_cases (fun n6 => ?_) (fun n6 => ?_)
                  · refine z_swIn (off := 331) (tgt := 364) dL_law_33 (by rw [n6]; decide) (by rw [n6]; decide) (by rw [n6]; rfl) (by decide) ?_
                    refine z_aload_n (j := 1) dL_law_364 rfl rfl ?_
                    refine z_aload_n (j := 0) dL_law_365 rfl rfl ?_
                    refine z_iload_n (j := 3) dL_law_366 rfl rfl ?_
                    refine z_iconst (v := 1) dL_law_367 (by decide) ?_
                    refine z_iadd dL_law_368 ?_
                    refine z_as ?_
                    refine z_sld hsc dL_law_369 (fun x77 => ?_)
                    refine z_aload_n (j := 0) dL_law_370 rfl rfl ?_
                    refine z_iload_n (j := 3) dL_law_371 rfl rfl ?_
                    refine z_iconst (v := 2) dL_law_372 (by decide) ?_
                    refine z_iadd dL_law_373 ?_
                    refine z_as ?_
                    refine z_sld hsc dL_law_374 (fun x78 => ?_)
                    refine z_as ?_
                    refine z_ob (fun p79 ep79 lp79 kp79 => ?_)
                    refine z_as ?_
                    refine z_callV (As := [.int x77, .int x78]) (rest := []) (rv2 := fun (x : Int32) => some (.int x)) (h2 := fun (_ : Int32) => h10) dL_law_375 vX5_stands (.inl zw302) (by decide) zkl6 lp79 kp79 rfl (by rw [ep79]; rfl) (by decide) (fun x hx => kX5_stands G h10 (some p79) x77 x78 hx) (fun x80 => ?_)
                    try dsimp only [Option.toList, List.cons_append, List.nil_append]
                    refine z_aload_n (j := 2) dL_law_378 rfl rfl ?_
                    refine z_aload_n (j := 0) dL_law_379 rfl rfl ?_
                    refine z_iload_n (j := 3) dL_law_380 rfl rfl ?_
                    refine z_iconst (v := 1) dL_law_381 (by decide) ?_
                    refine z_iadd dL_law_382 ?_
                    refine z_as ?_
                    refine z_sld hsc dL_law_383 (fun x81 => ?_)
                    refine z_aload_n (j := 0) dL_law_384 rfl rfl ?_
                    refine z_iload_n (j := 3) dL_law_385 rfl rfl ?_
                    refine z_iconst (v := 2) dL_law_386 (by decide) ?_
                    refine z_iadd dL_law_387 ?_
                    refine z_as ?_
                    refine z_sld hsc dL_law_388 (fun x82 => ?_)
                    refine z_as ?_
                    refine z_ob (fun p83 ep83 lp83 kp83 => ?_)
                    refine z_as ?_
                    refine z_chk (fun fp83 => ?_)
                    refine z_as ?_
                    refine z_callV (As := [.int x81, .int x82]) (rest := [.int x80]) (rv2 := fun (x : Int32) => some (.int x)) (d := 3) (h2 := fun (_ : Int32) => h10) dL_law_389 vX6_stands (.inl zw1019) (by decide) zkl7 lp83 kp83 rfl (by rw [ep83]; rfl) (by simp [zcat1, zcI, zcJ]) (fun x hx => by have q := kX6_stands G p83 h10 fp83 (zget p83 h10) x81 x82 hx; rw [zput_get] at q; exact q) (fun x84 => ?_)
                    try dsimp only [Option.toList, List.cons_append, List.nil_append]
                    refine z_itb ?_
                    refine z_icmp_eq (tgt := 875) dL_law_392 (by decide) (fun _ => ?_) (fun _ => ?_)
                    · refine z_iinc (j := 3) (v := v9 + (6 : Int32)) (lv' := [(3, .int (v9 + (6 : Int32))), (0, zrv G.2.1 (some G.1.2.1)), (1, zrv G.2.1 r1), (2, zrv G.2.1 r5)]) dL_law_875 rfl rfl (by decide) (by simp [zcat1, zcI, zcJ]) ?_
                      refine z_goto (tgt := 18) dL_law_878 (by decide) ?_
                      refine z_sb ?_
                      refine z_at [1, 2, 3, 0] rfl ?_
                      exact bK13 (v9 + (6 : Int32), h10)
                    · refine z_iconst (v := 0) dL_law_395 (by decide) ?_
                      refine z_sb ?_
                      refine z_eq (rK13 _) ?_
                      refine z_eq (tF12 _) ?_
                      exact z_iret dL_law_396 rfl rfl rfl rfl
                  · refine z_itb ?_
                    refine z_cases (fun n7 => ?_) (fun n7 => ?_)
                    · refine z_swIn (off := 364) (tgt := 397) dL_law_33 (by rw [n7]; decide) (by rw [n7]; decide) (by rw [n7]; rfl) (by decide) ?_
                      refine z_aload_n (j := 1) dL_law_397 rfl rfl ?_
                      refine z_aload_n (j := 0) dL_law_398 rfl rfl ?_
                      refine z_iload_n (j := 3) dL_law_399 rfl rfl ?_
                      refine z_iconst (v := 1) dL_law_400 (by decide) ?_
                      refine z_iadd dL_law_401 ?_
                      refine z_as ?_
                      refine z_sld hsc dL_law_402 (fun x85 => ?_)
                      refine z_as ?_
                      refine z_ob (fun p86 ep86 lp86 kp86 => ?_)
                      refine z_as ?_
                      refine z_callV (As := [.int x85]) (rest := []) (rv2 := fun (x : Int32 × Zh) => some (.int x.1)) (h2 := fun (x : Int32 × Zh) => x.2) dL_law_403 vX5_deed (.inl zw311) (by decide) zkl6 lp86 kp86 rfl (by rw [ep86]; rfl) (by decide) (fun x hx => kX5_deed G h10 (some p86) x85 hx) (fun x => ?_)
                      obtain ⟨x87, h88⟩ := x
                      try dsimp only [Option.toList, List.cons_append, List.nil_append]
                      refine z_aload_n (j := 2) dL_law_406 rfl rfl ?_
                      refine z_aload_n (j := 0) dL_law_407 rfl rfl ?_
                      refine z_iload_n (j := 3) dL_law_408 rfl rfl ?_
                      refine z_iconst (v := 1) dL_law_409 (by decide) ?_
                      refine z_iadd dL_law_410 ?_
                      refine z_as ?_
                      refine z_sld hsc dL_law_411 (fun x89 => ?_)
                      refine z_as ?_
                      refine z_ob (fun p90 ep90 lp90 kp90 => ?_)
                      refine z_as ?_
                      refine z_chk (fun fp90 => ?_)
                      refine z_as ?_
                      refine z_callV (As := [.int x89]) (rest := [.int x87]) (rv2 := fun (x : Int32 × Zr) => some (.int x.1)) (d := 2) (h2 := fun (x : Int32 × Zr) => zput p90 h88 x.2) dL_law_412 vX6_deed (.inl zw1024) (by decide) zkl7 lp90 kp90 rfl (by rw [ep90]; rfl) (by simp [zcat1, zcI, zcJ]) (fun x hx => by have q := kX6_deed G p90 h88 fp90 (zget p90 h88) x89 hx; rw [zput_get] at q; exact q) (fun x => ?_)
                      obtain ⟨x91, h92⟩ := x
                      try dsimp only [Option.toList, List.cons_append, List.nil_append]
                      refine z_itb ?_
                      refine z_icmp_eq (tgt := 875) dL_law_415 (by decide) (fun _ => ?_) (fun _ => ?_)
                      · refine z_iinc (j := 3) (v := v9 + (6 : Int32)) (lv' := [(3, .int (v9 + (6 : Int32))), (0, zrv G.2.1 (some G.1.2.1)), (1, zrv G.2.1 r1), (2, zrv G.2.1 r5)]) dL_law_875 rfl rfl (by decide) (by simp [zcat1, zcI, zcJ]) ?_
                        refine z_goto (tgt := 18) dL_law_878 (by decide) ?_
                        refine z_sb ?_
                        refine z_at [1, 2, 3, 0] rfl ?_
                        exact bK13 (v9 + (6 : Int32), zput p90 h88 h92)
                      · refine z_iconst (v := 0) dL_law_418 (by decide) ?_
                        refine z_sb ?_
                        refine z_eq (rK13 _) ?_
                        refine z_eq (tF12 _) ?_
                        exact z_iret dL_law_419 rfl rfl rfl rfl
                    · refine z_itb ?_
                      refine z_cases (fun n8 => ?_) (fun n8 => ?_)
                      · refine z_swIn (off := 387) (tgt := 420) dL_law_33 (by rw [n8]; decide) (by rw [n8]; decide) (by rw [n8]; rfl) (by decide) ?_
                        refine z_aload_n (j := 1) dL_law_420 rfl rfl ?_
                        refine z_aload_n (j := 0) dL_law_421 rfl rfl ?_
                        refine z_iload_n (j := 3) dL_law_422 rfl rfl ?_
                        refine z_iconst (v := 1) dL_law_423 (by decide) ?_
                        refine z_iadd dL_law_424 ?_
                        refine z_as ?_
                        refine z_sld hsc dL_law_425 (fun x93 => ?_)
                        refine z_aload_n (j := 0) dL_law_426 rfl rfl ?_
                        refine z_iload_n (j := 3) dL_law_427 rfl rfl ?_
                        refine z_iconst (v := 2) dL_law_428 (by decide) ?_
                        refine z_iadd dL_law_429 ?_
                        refine z_as ?_
                        refine z_sld hsc dL_law_430 (fun x94 => ?_)
                        refine z_aload_n (j := 0) dL_law_431 rfl rfl ?_
                        refine z_iload_n (j := 3) dL_law_432 rfl rfl ?_
                        refine z_iconst (v := 3) dL_law_433 (by decide) ?_
                        refine z_iadd dL_law_434 ?_
                        refine z_as ?_
                        refine z_sld hsc dL_law_435 (fun x95 => ?_)
                        refine z_as ?_
                        refine z_ob (fun p96 ep96 lp96 kp96 => ?_)
                        refine z_as ?_
                        refine z_callV (As := [.int x93, .int x94, .int x95]) (rest := []) (rv2 := fun (x : Int32 × Zh) => some (.int x.1)) (h2 := fun (x : Int32 × Zh) => x.2) dL_law_436 vX5_join (.inl zw371) (by decide) zkl6 lp96 kp96 rfl (by rw [ep96]; rfl) (by decide) (fun x hx => kX5_join G h10 (some p96) x93 x94 x95 hx) (fun x => ?_)
                        obtain ⟨x97, h98⟩ := x
                        try dsimp only [Option.toList, List.cons_append, List.nil_append]
                        refine z_aload_n (j := 2) dL_law_439 rfl rfl ?_
                        refine z_aload_n (j := 0) dL_law_440 rfl rfl ?_
                        refine z_iload_n (j := 3) dL_law_441 rfl rfl ?_
                        refine z_iconst (v := 1) dL_law_442 (by decide) ?_
                        refine z_iadd dL_law_443 ?_
                        refine z_as ?_
                        refine z_sld hsc dL_law_444 (fun x99 => ?_)
                        refine z_aload_n (j := 0) dL_law_445 rfl rfl ?_
                        refine z_iload_n (j := 3) dL_law_446 rfl rfl ?_
                        refine z_iconst (v := 2) dL_law_447 (by decide) ?_
                        refine z_iadd dL_law_448 ?_
                        refine z_as ?_
                        refine z_sld hsc dL_law_449 (fun x100 => ?_)
                        refine z_aload_n (j := 0) dL_law_450 rfl rfl ?_
                        refine z_iload_n (j := 3) dL_law_451 rfl rfl ?_
                        refine z_iconst (v := 3) dL_law_452 (by decide) ?_
                        refine z_iadd dL_law_453 ?_
                        refine z_as ?_
                        refine z_sld hsc dL_law_454 (fun x101 => ?_)
                        refine z_as ?_
                        refine z_ob (fun p102 ep102 lp102 kp102 => ?_)
                        refine z_as ?_
                        refine z_chk (fun fp102 => ?_)
                        refine z_as ?_
                        refine z_callV (As := [.int x99, .int x100, .int x101]) (rest := [.int x97]) (rv2 := fun (x : Int32 × Zr) => some (.int x.1)) (d := 3) (h2 := fun (x : Int32 × Zr) => zput p102 h98 x.2) dL_law_455 vX6_join (.inl zw1032) (by decide) zkl7 lp102 kp102 rfl (by rw [ep102]; rfl) (by simp [zcat1, zcI, zcJ]) (fun x hx => by have q := kX6_join G p102 h98 fp102 (zget p102 h98) x99 x100 x101 hx; rw [zput_get] at q; exact q) (fun x => ?_)
                        obtain ⟨x103, h104⟩ := x
                        try dsimp only [Option.toList, List.cons_append, List.nil_append]
                        refine z_itb ?_
                        refine z_icmp_eq (tgt := 875) dL_law_458 (by decide) (fun _ => ?_) (fun _ => ?_)
                        · refine z_iinc (j := 3) (v := v9 + (6 : Int32)) (lv' := [(3, .int (v9 + (6 : Int32))), (0, zrv G.2.1 (some G.1.2.1)), (1, zrv G.2.1 r1), (2, zrv G.2.1 r5)]) dL_law_875 rfl rfl (by decide) (by simp [zcat1, zcI, zcJ]) ?_
                          refine z_goto (tgt := 18) dL_law_878 (by decide) ?_
                          refine z_sb ?_
                          refine z_at [1, 2, 3, 0] rfl ?_
                          exact bK13 (v9 + (6 : Int32), zput p102 h98 h104)
                        · refine z_iconst (v := 0) dL_law_461 (by decide) ?_
                          refine z_sb ?_
                          refine z_eq (rK13 _) ?_
                          refine z_eq (tF12 _) ?_
                          exact z_iret dL_law_462 rfl rfl rfl rfl
                      · refine z_itb ?_
                        refine z_cases (fun n9 => ?_) (fun n9 => ?_)
                        · refine z_swIn (off := 430) (tgt := 463) dL_law_33 (by rw [n9]; decide) (by rw [n9]; decide) (by rw [n9]; rfl) (by decide) ?_
                          refine z_aload_n (j := 1) dL_law_463 rfl rfl ?_
                          refine z_aload_n (j := 0) dL_law_464 rfl rfl ?_
                          refine z_iload_n (j := 3) dL_law_465 rfl rfl ?_
                          refine z_iconst (v := 1) dL_law_466 (by decide) ?_
                          refine z_iadd dL_law_467 ?_
                          refine z_as ?_
                          refine z_sld hsc dL_law_468 (fun x105 => ?_)
                          refine z_aload_n (j := 0) dL_law_469 rfl rfl ?_
                          refine z_iload_n (j := 3) dL_law_470 rfl rfl ?_
                          refine z_iconst (v := 2) dL_law_471 (by decide) ?_
                          refine z_iadd dL_law_472 ?_
                          refine z_as ?_
                          refine z_sld hsc dL_law_473 (fun x106 => ?_)
                          refine z_as ?_
                          refine z_ob (fun p107 ep107 lp107 kp107 => ?_)
                          refine z_as ?_
                          refine z_callV (As := [.int x105, .int x106]) (rest := []) (rv2 := fun (x : Int32 × Zh) => some (.int x.1)) (h2 := fun (x : Int32 × Zh) => x.2) dL_law_474 vX5_more (.inl zw382) (by decide) zkl6 lp107 kp107 rfl (by rw [ep107]; rfl) (by decide) (fun x hx => kX5_more G h10 (some p107) x105 x106 hx) (fun x => ?_)
                          obtain ⟨x108, h109⟩ := x
                          try dsimp only [Option.toList, List.cons_append, List.nil_append]
                          refine z_aload_n (j := 2) dL_law_477 rfl rfl ?_
                          refine z_aload_n (j := 0) dL_law_478 rfl rfl ?_
                          refine z_iload_n (j := 3) dL_law_479 rfl rfl ?_
                          refine z_iconst (v := 1) dL_law_480 (by decide) ?_
                          refine z_iadd dL_law_481 ?_
                          refine z_as ?_
                          refine z_sld hsc dL_law_482 (fun x110 => ?_)
                          refine z_aload_n (j := 0) dL_law_483 rfl rfl ?_
                          refine z_iload_n (j := 3) dL_law_484 rfl rfl ?_
                          refine z_iconst (v := 2) dL_law_485 (by decide) ?_
                          refine z_iadd dL_law_486 ?_
                          refine z_as ?_
                          refine z_sld hsc dL_law_487 (fun x111 => ?_)
                          refine z_as ?_
                          refine z_ob (fun p112 ep112 lp112 kp112 => ?_)
                          refine z_as ?_
                          refine z_chk (fun fp112 => ?_)
                          refine z_as ?_
                          refine z_callV (As := [.int x110, .int x111]) (rest := [.int x108]) (rv2 := fun (x : Int32 × Zr) => some (.int x.1)) (d := 3) (h2 := fun (x : Int32 × Zr) => zput p112 h109 x.2) dL_law_488 vX6_more (.inl zw1045) (by decide) zkl7 lp112 kp112 rfl (by rw [ep112]; rfl) (by simp [zcat1, zcI, zcJ]) (fun x hx => by have q := kX6_more G p112 h109 fp112 (zget p112 h109) x110 x111 hx; rw [zput_get] at q; exact q) (fun x => ?_)
                          obtain ⟨x113, h114⟩ := x
                          try dsimp only [Option.toList, List.cons_append, List.nil_append]
                          refine z_itb ?_
                          refine z_icmp_eq (tgt := 875) dL_law_491 (by decide) (fun _ => ?_) (fun _ => ?_)
                          · refine z_iinc (j := 3) (v := v9 + (6 : Int32)) (lv' := [(3, .int (v9 + (6 : Int32))), (0, zrv G.2.1 (some G.1.2.1)), (1, zrv G.2.1 r1), (2, zrv G.2.1 r5)]) dL_law_875 rfl rfl (by decide) (by simp [zcat1, zcI, zcJ]) ?_
                            refine z_goto (tgt := 18) dL_law_878 (by decide) ?_
                            refine z_sb ?_
                            refine z_at [1, 2, 3, 0] rfl ?_
                            exact bK13 (v9 + (6 : Int32), zput p112 h109 h114)
                          · refine z_iconst (v := 0) dL_law_494 (by decide) ?_
                            refine z_sb ?_
                            refine z_eq (rK13 _) ?_
                            refine z_eq (tF12 _) ?_
                            exact z_iret dL_law_495 rfl rfl rfl rfl
                        · refine z_itb ?_
                          refine z_cases (fun n10 => ?_) (fun n10 => ?_)
                          · refine z_swIn (off := 463) (tgt := 496) dL_law_33 (by rw [n10]; decide) (by rw [n10]; decide) (by rw [n10]; rfl) (by decide) ?_
                            refine z_aload_n (j := 1) dL_law_496 rfl rfl ?_
                            refine z_aload_n (j := 0) dL_law_497 rfl rfl ?_
                            refine z_iload_n (j := 3) dL_law_498 rfl rfl ?_
                            refine z_iconst (v := 1) dL_law_499 (by decide) ?_
                            refine z_iadd dL_law_500 ?_
                            refine z_as ?_
                            refine z_sld hsc dL_law_501 (fun x115 => ?_)
                            refine z_aload_n (j := 0) dL_law_502 rfl rfl ?_
                            refine z_iload_n (j := 3) dL_law_503 rfl rfl ?_
                            refine z_iconst (v := 2) dL_law_504 (by decide) ?_
                            refine z_iadd dL_law_505 ?_
                            refine z_as ?_
                            refine z_sld hsc dL_law_506 (fun x116 => ?_)
                            refine z_as ?_
                            refine z_ob (fun p117 ep117 lp117 kp117 => ?_)
                            refine z_as ?_
                            refine z_callV (As := [.int x115, .int x116]) (rest := []) (rv2 := fun (x : Int32) => some (.int x)) (h2 := fun (_ : Int32) => h10) dL_law_507 vX5_piece (.inl zw386) (by decide) zkl6 lp117 kp117 rfl (by rw [ep117]; rfl) (by decide) (fun x hx => kX5_piece G h10 (some p117) x115 x116 hx) (fun x118 => ?_)
                            try dsimp only [Option.toList, List.cons_append, List.nil_append]
                            refine z_aload_n (j := 2) dL_law_510 rfl rfl ?_
                            refine z_aload_n (j := 0) dL_law_511 rfl rfl ?_
                            refine z_iload_n (j := 3) dL_law_512 rfl rfl ?_
                            refine z_iconst (v := 1) dL_law_513 (by decide) ?_
                            refine z_iadd dL_law_514 ?_
                            refine z_as ?_
                            refine z_sld hsc dL_law_515 (fun x119 => ?_)
                            refine z_aload_n (j := 0) dL_law_516 rfl rfl ?_
                            refine z_iload_n (j := 3) dL_law_517 rfl rfl ?_
                            refine z_iconst (v := 2) dL_law_518 (by decide) ?_
                            refine z_iadd dL_law_519 ?_
                            refine z_as ?_
                            refine z_sld hsc dL_law_520 (fun x120 => ?_)
                            refine z_as ?_
                            refine z_ob (fun p121 ep121 lp121 kp121 => ?_)
                            refine z_as ?_
                            refine z_chk (fun fp121 => ?_)
                            refine z_as ?_
                            refine z_callV (As := [.int x119, .int x120]) (rest := [.int x118]) (rv2 := fun (x : Int32) => some (.int x)) (d := 3) (h2 := fun (_ : Int32) => h10) dL_law_521 vX6_piece (.inl zw1049) (by decide) zkl7 lp121 kp121 rfl (by rw [ep121]; rfl) (by simp [zcat1, zcI, zcJ]) (fun x hx => by have q := kX6_piece G p121 h10 fp121 (zget p121 h10) x119 x120 hx; rw [zput_get] at q; exact q) (fun x122 => ?_)
                            try dsimp only [Option.toList, List.cons_append, List.nil_append]
                            refine z_itb ?_
                            refine z_icmp_eq (tgt := 875) dL_law_524 (by decide) (fun _ => ?_) (fun _ => ?_)
                            · refine z_iinc (j := 3) (v := v9 + (6 : Int32)) (lv' := [(3, .int (v9 + (6 : Int32))), (0, zrv G.2.1 (some G.1.2.1)), (1, zrv G.2.1 r1), (2, zrv G.2.1 r5)]) dL_law_875 rfl rfl (by decide) (by simp [zcat1, zcI, zcJ]) ?_
                              refine z_goto (tgt := 18) dL_law_878 (by decide) ?_
                              refine z_sb ?_
                              refine z_at [1, 2, 3, 0] rfl ?_
                              exact bK13 (v9 + (6 : Int32), h10)
                            · refine z_iconst (v := 0) dL_law_527 (by decide) ?_
                              refine z_sb ?_
                              refine z_eq (rK13 _) ?_
                              refine z_eq (tF12 _) ?_
                              exact z_iret dL_law_528 rfl rfl rfl rfl
                          · refine z_itb ?_
                            refine z_cases (fun n11 => ?_) (fun n11 => ?_)
                            · refine z_swIn (off := 496) (tgt := 529) dL_law_33 (by rw [n11]; decide) (by rw [n11]; decide) (by rw [n11]; rfl) (by decide) ?_
                              refine z_aload_n (j := 1) dL_law_529 rfl rfl ?_
                              refine z_aload_n (j := 0) dL_law_530 rfl rfl ?_
                              refine z_iload_n (j := 3) dL_law_531 rfl rfl ?_
                              refine z_iconst (v := 1) dL_law_532 (by decide) ?_
                              refine z_iadd dL_law_533 ?_
                              refine z_as ?_
                              refine z_sld hsc dL_law_534 (fun x123 => ?_)
                              refine z_as ?_
                              refine z_ob (fun p124 ep124 lp124 kp124 => ?_)
                              refine z_as ?_
                              refine z_callV (As := [.int x123]) (rest := []) (rv2 := fun (x : Int32 × Zh) => some (.int x.1)) (h2 := fun (x : Int32 × Zh) => x.2) dL_law_535 vX5_plain (.inl zw390) (by decide) zkl6 lp124 kp124 rfl (by rw [ep124]; rfl) (by decide) (fun x hx => kX5_plain G c hc h10 (some p124) x123 hx) (fun x => ?_)
                              obtain ⟨x125, h126⟩ := x
                              try dsimp only [Option.toList, List.cons_append, List.nil_append]
                              refine z_aload_n (j := 2) dL_law_538 rfl rfl ?_
                              refine z_aload_n (j := 0) dL_law_539 rfl rfl ?_
                              refine z_iload_n (j := 3) dL_law_540 rfl rfl ?_
                              refine z_iconst (v := 1) dL_law_541 (by decide) ?_
                              refine z_iadd dL_law_542 ?_
                              refine z_as ?_
                              refine z_sld hsc dL_law_543 (fun x127 => ?_)
                              refine z_as ?_
                              refine z_ob (fun p128 ep128 lp128 kp128 => ?_)
                              refine z_as ?_
                              refine z_chk (fun fp128 => ?_)
                              refine z_as ?_
                              refine z_callV (As := [.int x127]) (rest := [.int x125]) (rv2 := fun (x : Int32 × Zr) => some (.int x.1)) (d := 5) (h2 := fun (x : Int32 × Zr) => zput p128 h126 x.2) dL_law_544 vX6_plain (.inl zw1074) (by decide) zkl7 lp128 kp128 rfl (by rw [ep128]; rfl) (by simp [zcat1, zcI, zcJ]) (fun x hx => by have q := kX6_plain G p128 h126 fp128 (zget p128 h126) x127 hx; rw [zput_get] at q; exact q) (fun x => ?_)
                              obtain ⟨x129, h130⟩ := x
                              try dsimp only [Option.toList, List.cons_append, List.nil_append]
                              refine z_itb ?_
                              refine z_icmp_eq (tgt := 875) dL_law_547 (by decide) (fun _ => ?_) (fun _ => ?_)
                              · refine z_iinc (j := 3) (v := v9 + (6 : Int32)) (lv' := [(3, .int (v9 + (6 : Int32))), (0, zrv G.2.1 (some G.1.2.1)), (1, zrv G.2.1 r1), (2, zrv G.2.1 r5)]) dL_law_875 rfl rfl (by decide) (by simp [zcat1, zcI, zcJ]) ?_
                                refine z_goto (tgt := 18) dL_law_878 (by decide) ?_
                                refine z_sb ?_
                                refine z_at [1, 2, 3, 0] rfl ?_
                                exact bK13 (v9 + (6 : Int32), zput p128 h126 h130)
                              · refine z_iconst (v := 0) dL_law_550 (by decide) ?_
                                refine z_sb ?_
                                refine z_eq (rK13 _) ?_
                                refine z_eq (tF12 _) ?_
                                exact z_iret dL_law_551 rfl rfl rfl rfl
                            · refine z_itb ?_
                              refine z_cases (fun n12 => ?_) (fun n12 => ?_)
                              · refine z_swIn (off := 519) (tgt := 552) dL_law_33 (by rw [n12]; decide) (by rw [n12]; decide) (by rw [n12]; rfl) (by decide) ?_
                                refine z_aload_n (j := 1) dL_law_552 rfl rfl ?_
                                refine z_aload_n (j := 0) dL_law_553 rfl rfl ?_
                                refine z_iload_n (j := 3) dL_law_554 rfl rfl ?_
                                refine z_iconst (v := 1) dL_law_555 (by decide) ?_
                                refine z_iadd dL_law_556 ?_
                                refine z_as ?_
                                refine z_sld hsc dL_law_557 (fun x131 => ?_)
                                refine z_aload_n (j := 0) dL_law_558 rfl rfl ?_
                                refine z_iload_n (j := 3) dL_law_559 rfl rfl ?_
                                refine z_iconst (v := 2) dL_law_560 (by decide) ?_
                                refine z_iadd dL_law_561 ?_
                                refine z_as ?_
                                refine z_sld hsc dL_law_562 (fun x132 => ?_)
                                refine z_as ?_
                                refine z_ob (fun p133 ep133 lp133 kp133 => ?_)
                                refine z_as ?_
                                refine z_callV (As := [.int x131, .int x132]) (rest := []) (rv2 := fun (x : Int32) => some (.int x)) (h2 := fun (_ : Int32) => h10) dL_law_563 vX5_like (.inl zw508) (by decide) zkl6 lp133 kp133 rfl (by rw [ep133]; rfl) (by decide) (fun x hx => kX5_like G h10 (some p133) x131 x132 hx) (fun x134 => ?_)
                                try dsimp only [Option.toList, List.cons_append, List.nil_append]
                                refine z_aload_n (j := 2) dL_law_566 rfl rfl ?_
                                refine z_aload_n (j := 0) dL_law_567 rfl rfl ?_
                                refine z_iload_n (j := 3) dL_law_568 rfl rfl ?_
                                refine z_iconst (v := 1) dL_law_569 (by decide) ?_
                                refine z_iadd dL_law_570 ?_
                                refine z_as ?_
                                refine z_sld hsc dL_law_571 (fun x135 => ?_)
                                refine z_aload_n (j := 0) dL_law_572 rfl rfl ?_
                                refine z_iload_n (j := 3) dL_law_573 rfl rfl ?_
                                refine z_iconst (v := 2) dL_law_574 (by decide) ?_
                                refine z_iadd dL_law_575 ?_
                                refine z_as ?_
                                refine z_sld hsc dL_law_576 (fun x136 => ?_)
                                refine z_as ?_
                                refine z_ob (fun p137 ep137 lp137 kp137 => ?_)
                                refine z_as ?_
                                refine z_chk (fun fp137 => ?_)
                                refine z_as ?_
                                refine z_callV (As := [.int x135, .int x136]) (rest := [.int x134]) (rv2 := fun (x : Int32 × Zr) => some (.int x.1)) (d := 3) (h2 := fun (x : Int32 × Zr) => zput p137 h10 x.2) dL_law_577 vX6_like (.inl zw1054) (by decide) zkl7 lp137 kp137 rfl (by rw [ep137]; rfl) (by simp [zcat1, zcI, zcJ]) (fun x hx => by have q := kX6_like G p137 h10 fp137 (zget p137 h10) x135 x136 hx; rw [zput_get] at q; exact q) (fun x => ?_)
                                obtain ⟨x138, h139⟩ := x
                                try dsimp only [Option.toList, List.cons_append, List.nil_append]
                                refine z_itb ?_
                                refine z_icmp_eq (tgt := 875) dL_law_580 (by decide) (fun _ => ?_) (fun _ => ?_)
                                · refine z_iinc (j := 3) (v := v9 + (6 : Int32)) (lv' := [(3, .int (v9 + (6 : Int32))), (0, zrv G.2.1 (some G.1.2.1)), (1, zrv G.2.1 r1), (2, zrv G.2.1 r5)]) dL_law_875 rfl rfl (by decide) (by simp [zcat1, zcI, zcJ]) ?_
                                  refine z_goto (tgt := 18) dL_law_878 (by decide) ?_
                                  refine z_sb ?_
                                  refine z_at [1, 2, 3, 0] rfl ?_
                                  exact bK13 (v9 + (6 : Int32), zput p137 h10 h139)
                                · refine z_iconst (v := 0) dL_law_583 (by decide) ?_
                                  refine z_sb ?_
                                  refine z_eq (rK13 _) ?_
                                  refine z_eq (tF12 _) ?_
                                  exact z_iret dL_law_584 rfl rfl rfl rfl
                              · refine z_itb ?_
                                refine z_cases (fun n13 => ?_) (fun n13 => ?_)
                                · refine z_swIn (off := 552) (tgt := 585) dL_law_33 (by rw [n13]; decide) (by rw [n13]; decide) (by rw [n13]; rfl) (by decide) ?_
                                  refine z_aload_n (j := 1) dL_law_585 rfl rfl ?_
                                  refine z_as ?_
                                  refine z_ob (fun p140 ep140 lp140 kp140 => ?_)
                                  refine z_as ?_
                                  refine z_callV (As := []) (rest := []) (rv2 := fun (x : Int32 × Zh) => some (.int x.1)) (h2 := fun (x : Int32 × Zh) => x.2) dL_law_586 vX5_find (.inl zw512) (by decide) zkl6 lp140 kp140 rfl (by rw [ep140]; rfl) (by decide) (fun x hx => kX5_find G h10 (some p140) hx) (fun x => ?_)
                                  obtain ⟨x141, h142⟩ := x
                                  try dsimp only [Option.toList, List.cons_append, List.nil_append]
                                  refine z_aload_n (j := 2) dL_law_589 rfl rfl ?_
                                  refine z_as ?_
                                  refine z_ob (fun p143 ep143 lp143 kp143 => ?_)
                                  refine z_as ?_
                                  refine z_chk (fun fp143 => ?_)
                                  refine z_as ?_
                                  refine z_callV (As := []) (rest := [.int x141]) (rv2 := fun (x : Int32 × Zr) => some (.int x.1)) (d := 5) (h2 := fun (x : Int32 × Zr) => zput p143 h142 x.2) dL_law_590 vX6_find (.inl zw1151) (by decide) zkl7 lp143 kp143 rfl (by rw [ep143]; rfl) (by simp [zcat1, zcI, zcJ]) (fun x hx => by have q := kX6_find G p143 h142 fp143 (zget p143 h142) hx; rw [zput_get] at q; exact q) (fun x => ?_)
                                  obtain ⟨x144, h145⟩ := x
                                  try dsimp only [Option.toList, List.cons_append, List.nil_append]
                                  refine z_itb ?_
                                  refine z_icmp_eq (tgt := 875) dL_law_593 (by decide) (fun _ => ?_) (fun _ => ?_)
                                  · refine z_iinc (j := 3) (v := v9 + (6 : Int32)) (lv' := [(3, .int (v9 + (6 : Int32))), (0, zrv G.2.1 (some G.1.2.1)), (1, zrv G.2.1 r1), (2, zrv G.2.1 r5)]) dL_law_875 rfl rfl (by decide) (by simp [zcat1, zcI, zcJ]) ?_
                                    refine z_goto (tgt := 18) dL_law_878 (by decide) ?_
                                    refine z_sb ?_
                                    refine z_at [1, 2, 3, 0] rfl ?_
                                    exact bK13 (v9 + (6 : Int32), zput p143 h142 h145)
                                  · refine z_iconst (v := 0) dL_law_596 (by decide) ?_
                                    refine z_sb ?_
                                    refine z_eq (rK13 _) ?_
                                    refine z_eq (tF12 _) ?_
                                    exact z_iret dL_law_597 rfl rfl rfl rfl
                                · refine z_itb ?_
                                  refine z_cases (fun n14 => ?_) (fun n14 => ?_)
                                  · refine z_swIn (off := 565) (tgt := 598) dL_law_33 (by rw [n14]; decide) (by rw [n14]; decide) (by rw [n14]; rfl) (by decide) ?_
                                    refine z_aload_n (j := 1) dL_law_598 rfl rfl ?_
                                    refine z_aload_n (j := 0) dL_law_599 rfl rfl ?_
                                    refine z_iload_n (j := 3) dL_law_600 rfl rfl ?_
                                    refine z_iconst (v := 1) dL_law_601 (by decide) ?_
                                    refine z_iadd dL_law_602 ?_
                                    refine z_as ?_
                                    refine z_sld hsc dL_law_603 (fun x146 => ?_)
                                    refine z_aload_n (j := 0) dL_law_604 rfl rfl ?_
                                    refine z_iload_n (j := 3) dL_law_605 rfl rfl ?_
                                    refine z_iconst (v := 2) dL_law_606 (by decide) ?_
                                    refine z_iadd dL_law_607 ?_
                                    refine z_as ?_
                                    refine z_sld hsc dL_law_608 (fun x147 => ?_)
                                    refine z_as ?_
                                    refine z_ob (fun p148 ep148 lp148 kp148 => ?_)
                                    refine z_as ?_
                                    refine z_callV (As := [.int x146, .int x147]) (rest := []) (rv2 := fun (x : Int32 × Zh) => some (.int x.1)) (h2 := fun (x : Int32 × Zh) => x.2) dL_law_609 vX5_price (.inl zw623) (by decide) zkl6 lp148 kp148 rfl (by rw [ep148]; rfl) (by decide) (fun x hx => kX5_price G h10 (some p148) x146 x147 hx) (fun x => ?_)
                                    obtain ⟨x149, h150⟩ := x
                                    try dsimp only [Option.toList, List.cons_append, List.nil_append]
                                    refine z_aload_n (j := 2) dL_law_612 rfl rfl ?_
                                    refine z_aload_n (j := 0) dL_law_613 rfl rfl ?_
                                    refine z_iload_n (j := 3) dL_law_614 rfl rfl ?_
                                    refine z_iconst (v := 1) dL_law_615 (by decide) ?_
                                    refine z_iadd dL_law_616 ?_
                                    refine z_as ?_
                                    refine z_sld hsc dL_law_617 (fun x151 => ?_)
                                    refine z_aload_n (j := 0) dL_law_618 rfl rfl ?_
                                    refine z_iload_n (j := 3) dL_law_619 rfl rfl ?_
                                    refine z_iconst (v := 2) dL_law_620 (by decide) ?_
                                    refine z_iadd dL_law_621 ?_
                                    refine z_as ?_
                                    refine z_sld hsc dL_law_622 (fun x152 => ?_)
                                    refine z_as ?_
                                    refine z_ob (fun p153 ep153 lp153 kp153 => ?_)
                                    refine z_as ?_
                                    refine z_chk (fun fp153 => ?_)
                                    refine z_as ?_
                                    refine z_callV (As := [.int x151, .int x152]) (rest := [.int x149]) (rv2 := fun (x : Int32 × Zr) => some (.int x.1)) (d := 6) (h2 := fun (x : Int32 × Zr) => zput p153 h150 x.2) dL_law_623 vX6_price (.inl zw1102) (by decide) zkl7 lp153 kp153 rfl (by rw [ep153]; rfl) (by simp [zcat1, zcI, zcJ]) (fun x hx => by have q := kX6_price G p153 h150 fp153 (zget p153 h150) x151 x152 hx; rw [zput_get] at q; exact q) (fun x => ?_)
                                    obtain ⟨x154, h155⟩ := x
                                    try dsimp only [Option.toList, List.cons_append, List.nil_append]
                                    refine z_itb ?_
                                    refine z_icmp_eq (tgt := 875) dL_law_626 (by decide) (fun _ => ?_) (fun _ => ?_)
                                    · refine z_iinc (j := 3) (v := v9 + (6 : Int32)) (lv' := [(3, .int (v9 + (6 : Int32))), (0, zrv G.2.1 (some G.1.2.1)), (1, zrv G.2.1 r1), (2, zrv G.2.1 r5)]) dL_law_875 rfl rfl (by decide) (by simp [zcat1, zcI, zcJ]) ?_
                                      refine z_goto (tgt := 18) dL_law_878 (by decide) ?_
                                      refine z_sb ?_
                                      refine z_at [1, 2, 3, 0] rfl ?_
                                      exact bK13 (v9 + (6 : Int32), zput p153 h150 h155)
                                    · refine z_iconst (v := 0) dL_law_629 (by decide) ?_
                                      refine z_sb ?_
                                      refine z_eq (rK13 _) ?_
                                      refine z_eq (tF12 _) ?_
                                      exact z_iret dL_law_630 rfl rfl rfl rfl
                                  · refine z_itb ?_
                                    refine z_cases (fun n15 => ?_) (fun n15 => ?_)
                                    · refine z_swIn (off := 598) (tgt := 631) dL_law_33 (by rw [n15]; decide) (by rw [n15]; decide) (by rw [n15]; rfl) (by decide) ?_
                                      refine z_aload_n (j := 1) dL_law_631 rfl rfl ?_
                                      refine z_aload_n (j := 0) dL_law_632 rfl rfl ?_
                                      refine z_iload_n (j := 3) dL_law_633 rfl rfl ?_
                                      refine z_iconst (v := 1) dL_law_634 (by decide) ?_
                                      refine z_iadd dL_law_635 ?_
                                      refine z_as ?_
                                      refine z_sld hsc dL_law_636 (fun x156 => ?_)
                                      refine z_aload_n (j := 0) dL_law_637 rfl rfl ?_
                                      refine z_iload_n (j := 3) dL_law_638 rfl rfl ?_
                                      refine z_iconst (v := 2) dL_law_639 (by decide) ?_
                                      refine z_iadd dL_law_640 ?_
                                      refine z_as ?_
                                      refine z_sld hsc dL_law_641 (fun x157 => ?_)
                                      refine z_as ?_
                                      refine z_ob (fun p158 ep158 lp158 kp158 => ?_)
                                      refine z_as ?_
                                      refine z_callV (As := [.int x156, .int x157]) (rest := []) (rv2 := fun (x : Int32 × Zh) => some (.int x.1)) (h2 := fun (x : Int32 × Zh) => x.2) dL_law_642 vX5_both (.inl zw677) (by decide) zkl6 lp158 kp158 rfl (by rw [ep158]; rfl) (by decide) (fun x hx => kX5_both G h10 (some p158) x156 x157 hx) (fun x => ?_)
                                      obtain ⟨x159, h160⟩ := x
                                      try dsimp only [Option.toList, List.cons_append, List.nil_append]
                                      refine z_aload_n (j := 2) dL_law_645 rfl rfl ?_
                                      refine z_aload_n (j := 0) dL_law_646 rfl rfl ?_
                                      refine z_iload_n (j := 3) dL_law_647 rfl rfl ?_
                                      refine z_iconst (v := 1) dL_law_648 (by decide) ?_
                                      refine z_iadd dL_law_649 ?_
                                      refine z_as ?_
                                      refine z_sld hsc dL_law_650 (fun x161 => ?_)
                                      refine z_aload_n (j := 0) dL_law_651 rfl rfl ?_
                                      refine z_iload_n (j := 3) dL_law_652 rfl rfl ?_
                                      refine z_iconst (v := 2) dL_law_653 (by decide) ?_
                                      refine z_iadd dL_law_654 ?_
                                      refine z_as ?_
                                      refine z_sld hsc dL_law_655 (fun x162 => ?_)
                                      refine z_as ?_
                                      refine z_ob (fun p163 ep163 lp163 kp163 => ?_)
                                      refine z_as ?_
                                      refine z_chk (fun fp163 => ?_)
                                      refine z_as ?_
                                      refine z_callV (As := [.int x161, .int x162]) (rest := [.int x159]) (rv2 := fun (x : Int32 × Zr) => some (.int x.1)) (d := 6) (h2 := fun (x : Int32 × Zr) => zput p163 h160 x.2) dL_law_656 vX6_both (.inl zw1139) (by decide) zkl7 lp163 kp163 rfl (by rw [ep163]; rfl) (by simp [zcat1, zcI, zcJ]) (fun x hx => by have q := kX6_both G p163 h160 fp163 (zget p163 h160) x161 x162 hx; rw [zput_get] at q; exact q) (fun x => ?_)
                                      obtain ⟨x164, h165⟩ := x
                                      try dsimp only [Option.toList, List.cons_append, List.nil_append]
                                      refine z_itb ?_
                                      refine z_icmp_eq (tgt := 875) dL_law_659 (by decide) (fun _ => ?_) (fun _ => ?_)
                                      · refine z_iinc (j := 3) (v := v9 + (6 : Int32)) (lv' := [(3, .int (v9 + (6 : Int32))), (0, zrv G.2.1 (some G.1.2.1)), (1, zrv G.2.1 r1), (2, zrv G.2.1 r5)]) dL_law_875 rfl rfl (by decide) (by simp [zcat1, zcI, zcJ]) ?_
                                        refine z_goto (tgt := 18) dL_law_878 (by decide) ?_
                                        refine z_sb ?_
                                        refine z_at [1, 2, 3, 0] rfl ?_
                                        exact bK13 (v9 + (6 : Int32), zput p163 h160 h165)
                                      · refine z_iconst (v := 0) dL_law_662 (by decide) ?_
                                        refine z_sb ?_
                                        refine z_eq (rK13 _) ?_
                                        refine z_eq (tF12 _) ?_
                                        exact z_iret dL_law_663 rfl rfl rfl rfl
                                    · refine z_itb ?_
                                      refine z_cases (fun n16 => ?_) (fun n16 => ?_)
                                      · refine z_swIn (off := 631) (tgt := 664) dL_law_33 (by rw [n16]; decide) (by rw [n16]; decide) (by rw [n16]; rfl) (by decide) ?_
                                        refine z_aload_n (j := 1) dL_law_664 rfl rfl ?_
                                        refine z_aload_n (j := 0) dL_law_665 rfl rfl ?_
                                        refine z_iload_n (j := 3) dL_law_666 rfl rfl ?_
                                        refine z_iconst (v := 1) dL_law_667 (by decide) ?_
                                        refine z_iadd dL_law_668 ?_
                                        refine z_as ?_
                                        refine z_sld hsc dL_law_669 (fun x166 => ?_)
                                        refine z_as ?_
                                        refine z_ob (fun p167 ep167 lp167 kp167 => ?_)
                                        refine z_as ?_
                                        refine z_callV (As := [.int x166]) (rest := []) (rv2 := fun (x : Int32) => some (.int x)) (h2 := fun (_ : Int32) => h10) dL_law_670 vX5_shortest (.inl zw681) (by decide) zkl6 lp167 kp167 rfl (by rw [ep167]; rfl) (by decide) (fun x hx => kX5_shortest G h10 (some p167) x166 hx) (fun x168 => ?_)
                                        try dsimp only [Option.toList, List.cons_append, List.nil_append]
                                        refine z_aload_n (j := 2) dL_law_673 rfl rfl ?_
                                        refine z_aload_n (j := 0) dL_law_674 rfl rfl ?_
                                        refine z_iload_n (j := 3) dL_law_675 rfl rfl ?_
                                        refine z_iconst (v := 1) dL_law_676 (by decide) ?_
                                        refine z_iadd dL_law_677 ?_
                                        refine z_as ?_
                                        refine z_sld hsc dL_law_678 (fun x169 => ?_)
                                        refine z_as ?_
                                        refine z_ob (fun p170 ep170 lp170 kp170 => ?_)
                                        refine z_as ?_
                                        refine z_chk (fun fp170 => ?_)
                                        refine z_as ?_
                                        refine z_callV (As := [.int x169]) (rest := [.int x168]) (rv2 := fun (x : Int32 × Zr) => some (.int x.1)) (d := 5) (h2 := fun (x : Int32 × Zr) => zput p170 h10 x.2) dL_law_679 vX6_shortest (.inl zw1143) (by decide) zkl7 lp170 kp170 rfl (by rw [ep170]; rfl) (by simp [zcat1, zcI, zcJ]) (fun x hx => by have q := kX6_shortest G p170 h10 fp170 (zget p170 h10) x169 hx; rw [zput_get] at q; exact q) (fun x => ?_)
                                        obtain ⟨x171, h172⟩ := x
                                        try dsimp only [Option.toList, List.cons_append, List.nil_append]
                                        refine z_itb ?_
                                        refine z_icmp_eq (tgt := 875) dL_law_682 (by decide) (fun _ => ?_) (fun _ => ?_)
                                        · refine z_iinc (j := 3) (v := v9 + (6 : Int32)) (lv' := [(3, .int (v9 + (6 : Int32))), (0, zrv G.2.1 (some G.1.2.1)), (1, zrv G.2.1 r1), (2, zrv G.2.1 r5)]) dL_law_875 rfl rfl (by decide) (by simp [zcat1, zcI, zcJ]) ?_
                                          refine z_goto (tgt := 18) dL_law_878 (by decide) ?_
                                          refine z_sb ?_
                                          refine z_at [1, 2, 3, 0] rfl ?_
                                          exact bK13 (v9 + (6 : Int32), zput p170 h10 h172)
                                        · refine z_iconst (v := 0) dL_law_685 (by decide) ?_
                                          refine z_sb ?_
                                          refine z_eq (rK13 _) ?_
                                          refine z_eq (tF12 _) ?_
                                          exact z_iret dL_law_686 rfl rfl rfl rfl
                                      · refine z_itb ?_
                                        refine z_cases (fun n17 => ?_) (fun n17 => ?_)
                                        · refine z_swIn (off := 654) (tgt := 687) dL_law_33 (by rw [n17]; decide) (by rw [n17]; decide) (by rw [n17]; rfl) (by decide) ?_
                                          refine z_aload_n (j := 1) dL_law_687 rfl rfl ?_
                                          refine z_aload_n (j := 0) dL_law_688 rfl rfl ?_
                                          refine z_iload_n (j := 3) dL_law_689 rfl rfl ?_
                                          refine z_iconst (v := 1) dL_law_690 (by decide) ?_
                                          refine z_iadd dL_law_691 ?_
                                          refine z_as ?_
                                          refine z_sld hsc dL_law_692 (fun x173 => ?_)
                                          refine z_aload_n (j := 0) dL_law_693 rfl rfl ?_
                                          refine z_iload_n (j := 3) dL_law_694 rfl rfl ?_
                                          refine z_iconst (v := 2) dL_law_695 (by decide) ?_
                                          refine z_iadd dL_law_696 ?_
                                          refine z_as ?_
                                          refine z_sld hsc dL_law_697 (fun x174 => ?_)
                                          refine z_as ?_
                                          refine z_ob (fun p175 ep175 lp175 kp175 => ?_)
                                          refine z_as ?_
                                          refine z_callV (As := [.int x173, .int x174]) (rest := []) (rv2 := fun (x : Int32 × Zh) => some (.int x.1)) (h2 := fun (x : Int32 × Zh) => x.2) dL_law_698 vX5_fit (.inl zw685) (by decide) zkl6 lp175 kp175 rfl (by rw [ep175]; rfl) (by decide) (fun x hx => kX5_fit G h10 (some p175) x173 x174 hx) (fun x => ?_)
                                          obtain ⟨x176, h177⟩ := x
                                          try dsimp only [Option.toList, List.cons_append, List.nil_append]
                                          refine z_aload_n (j := 2) dL_law_701 rfl rfl ?_
                                          refine z_aload_n (j := 0) dL_law_702 rfl rfl ?_
                                          refine z_iload_n (j := 3) dL_law_703 rfl rfl ?_
                                          refine z_iconst (v := 1) dL_law_704 (by decide) ?_
                                          refine z_iadd dL_law_705 ?_
                                          refine z_as ?_
                                          refine z_sld hsc dL_law_706 (fun x178 => ?_)
                                          refine z_aload_n (j := 0) dL_law_707 rfl rfl ?_
                                          refine z_iload_n (j := 3) dL_law_708 rfl rfl ?_
                                          refine z_iconst (v := 2) dL_law_709 (by decide) ?_
                                          refine z_iadd dL_law_710 ?_
                                          refine z_as ?_
                                          refine z_sld hsc dL_law_711 (fun x179 => ?_)
                                          refine z_as ?_
                                          refine z_ob (fun p180 ep180 lp180 kp180 => ?_)
                                          refine z_as ?_
                                          refine z_chk (fun fp180 => ?_)
                                          refine z_as ?_
                                          refine z_callV (As := [.int x178, .int x179]) (rest := [.int x176]) (rv2 := fun (x : Int32 × Zr) => some (.int x.1)) (d := 6) (h2 := fun (x : Int32 × Zr) => zput p180 h177 x.2) dL_law_712 vX6_fit (.inl zw1147) (by decide) zkl7 lp180 kp180 rfl (by rw [ep180]; rfl) (by simp [zcat1, zcI, zcJ]) (fun x hx => by have q := kX6_fit G p180 h177 fp180 (zget p180 h177) x178 x179 hx; rw [zput_get] at q; exact q) (fun x => ?_)
                                          obtain ⟨x181, h182⟩ := x
                                          try dsimp only [Option.toList, List.cons_append, List.nil_append]
                                          refine z_itb ?_
                                          refine z_icmp_eq (tgt := 875) dL_law_715 (by decide) (fun _ => ?_) (fun _ => ?_)
                                          · refine z_iinc (j := 3) (v := v9 + (6 : Int32)) (lv' := [(3, .int (v9 + (6 : Int32))), (0, zrv G.2.1 (some G.1.2.1)), (1, zrv G.2.1 r1), (2, zrv G.2.1 r5)]) dL_law_875 rfl rfl (by decide) (by simp [zcat1, zcI, zcJ]) ?_
                                            refine z_goto (tgt := 18) dL_law_878 (by decide) ?_
                                            refine z_sb ?_
                                            refine z_at [1, 2, 3, 0] rfl ?_
                                            exact bK13 (v9 + (6 : Int32), zput p180 h177 h182)
                                          · refine z_iconst (v := 0) dL_law_718 (by decide) ?_
                                            refine z_sb ?_
                                            refine z_eq (rK13 _) ?_
                                            refine z_eq (tF12 _) ?_
                                            exact z_iret dL_law_719 rfl rfl rfl rfl
                                        · refine z_itb ?_
                                          refine z_cases (fun n18 => ?_) (fun n18 => ?_)
                                          · refine z_swIn (off := 687) (tgt := 720) dL_law_33 (by rw [n18]; decide) (by rw [n18]; decide) (by rw [n18]; rfl) (by decide) ?_
                                            refine z_aload_n (j := 1) dL_law_720 rfl rfl ?_
                                            refine z_aload_n (j := 0) dL_law_721 rfl rfl ?_
                                            refine z_iload_n (j := 3) dL_law_722 rfl rfl ?_
                                            refine z_iconst (v := 1) dL_law_723 (by decide) ?_
                                            refine z_iadd dL_law_724 ?_
                                            refine z_as ?_
                                            refine z_sld hsc dL_law_725 (fun x183 => ?_)
                                            refine z_aload_n (j := 0) dL_law_726 rfl rfl ?_
                                            refine z_iload_n (j := 3) dL_law_727 rfl rfl ?_
                                            refine z_iconst (v := 2) dL_law_728 (by decide) ?_
                                            refine z_iadd dL_law_729 ?_
                                            refine z_as ?_
                                            refine z_sld hsc dL_law_730 (fun x184 => ?_)
                                            refine z_as ?_
                                            refine z_ob (fun p185 ep185 lp185 kp185 => ?_)
                                            refine z_as ?_
                                            refine z_callV (As := [.int x183, .int x184]) (rest := []) (rv2 := fun (x : Int32 × Zh) => some (.int x.1)) (h2 := fun (x : Int32 × Zh) => x.2) dL_law_731 vX5_work (.inl zw697) (by decide) zkl6 lp185 kp185 rfl (by rw [ep185]; rfl) (by decide) (fun x hx => kX5_work G h10 (some p185) x183 x184 hx) (fun x => ?_)
                                            obtain ⟨x186, h187⟩ := x
                                            try dsimp only [Option.toList, List.cons_append, List.nil_append]
                                            refine z_aload_n (j := 2) dL_law_734 rfl rfl ?_
                                            refine z_aload_n (j := 0) dL_law_735 rfl rfl ?_
                                            refine z_iload_n (j := 3) dL_law_736 rfl rfl ?_
                                            refine z_iconst (v := 1) dL_law_737 (by decide) ?_
                                            refine z_iadd dL_law_738 ?_
                                            refine z_as ?_
                                            refine z_sld hsc dL_law_739 (fun x188 => ?_)
                                            refine z_aload_n (j := 0) dL_law_740 rfl rfl ?_
                                            refine z_iload_n (j := 3) dL_law_741 rfl rfl ?_
                                            refine z_iconst (v := 2) dL_law_742 (by decide) ?_
                                            refine z_iadd dL_law_743 ?_
                                            refine z_as ?_
                                            refine z_sld hsc dL_law_744 (fun x189 => ?_)
                                            refine z_as ?_
                                            refine z_ob (fun p190 ep190 lp190 kp190 => ?_)
                                            refine z_as ?_
                                            refine z_chk (fun fp190 => ?_)
                                            refine z_as ?_
                                            refine z_callV (As := [.int x188, .int x189]) (rest := [.int x186]) (rv2 := fun (x : Int32 × Zr) => some (.int x.1)) (d := 3) (h2 := fun (x : Int32 × Zr) => zput p190 h187 x.2) dL_law_745 vX6_work (.inl zw1247) (by decide) zkl7 lp190 kp190 rfl (by rw [ep190]; rfl) (by simp [zcat1, zcI, zcJ]) (fun x hx => by have q := kX6_work G p190 h187 fp190 (zget p190 h187) x188 x189 hx; rw [zput_get] at q; exact q) (fun x => ?_)
                                            obtain ⟨x191, h192⟩ := x
                                            try dsimp only [Option.toList, List.cons_append, List.nil_append]
                                            refine z_itb ?_
                                            refine z_icmp_eq (tgt := 875) dL_law_748 (by decide) (fun _ => ?_) (fun _ => ?_)
                                            · refine z_iinc (j := 3) (v := v9 + (6 : Int32)) (lv' := [(3, .int (v9 + (6 : Int32))), (0, zrv G.2.1 (some G.1.2.1)), (1, zrv G.2.1 r1), (2, zrv G.2.1 r5)]) dL_law_875 rfl rfl (by decide) (by simp [zcat1, zcI, zcJ]) ?_
                                              refine z_goto (tgt := 18) dL_law_878 (by decide) ?_
                                              refine z_sb ?_
                                              refine z_at [1, 2, 3, 0] rfl ?_
                                              exact bK13 (v9 + (6 : Int32), zput p190 h187 h192)
                                            · refine z_iconst (v := 0) dL_law_751 (by decide) ?_
                                              refine z_sb ?_
                                              refine z_eq (rK13 _) ?_
                                              refine z_eq (tF12 _) ?_
                                              exact z_iret dL_law_752 rfl rfl rfl rfl
                                          · refine z_itb ?_
                                            refine z_cases (fun n19 => ?_) (fun n19 => ?_)
                                            · refine z_swIn (off := 720) (tgt := 753) dL_law_33 (by rw [n19]; decide) (by rw [n19]; decide) (by rw [n19]; rfl) (by decide) ?_
                                              refine z_aload_n (j := 1) dL_law_753 rfl rfl ?_
                                              refine z_aload_n (j := 0) dL_law_754 rfl rfl ?_
                                              refine z_iload_n (j := 3) dL_law_755 rfl rfl ?_
                                              refine z_iconst (v := 1) dL_law_756 (by decide) ?_
                                              refine z_iadd dL_law_757 ?_
                                              refine z_as ?_
                                              refine z_sld hsc dL_law_758 (fun x193 => ?_)
                                              refine z_aload_n (j := 0) dL_law_759 rfl rfl ?_
                                              refine z_iload_n (j := 3) dL_law_760 rfl rfl ?_
                                              refine z_iconst (v := 2) dL_law_761 (by decide) ?_
                                              refine z_iadd dL_law_762 ?_
                                              refine z_as ?_
                                              refine z_sld hsc dL_law_763 (fun x194 => ?_)
                                              refine z_aload_n (j := 0) dL_law_764 rfl rfl ?_
                                              refine z_iload_n (j := 3) dL_law_765 rfl rfl ?_
                                              refine z_iconst (v := 3) dL_law_766 (by decide) ?_
                                              refine z_iadd dL_law_767 ?_
                                              refine z_as ?_
                                              refine z_sld hsc dL_law_768 (fun x195 => ?_)
                                              refine z_as ?_
                                              refine z_ob (fun p196 ep196 lp196 kp196 => ?_)
                                              refine z_as ?_
                                              refine z_callV (As := [.int x193, .int x194, .int x195]) (rest := []) (rv2 := fun (x : Int32 × Zh) => some (.int x.1)) (h2 := fun (x : Int32 × Zh) => x.2) dL_law_769 vX5_lag (.inl zw728) (by decide) zkl6 lp196 kp196 rfl (by rw [ep196]; rfl) (by decide) (fun x hx => kX5_lag G h10 (some p196) x193 x194 x195 hx) (fun x => ?_)
                                              obtain ⟨x197, h198⟩ := x
                                              try dsimp only [Option.toList, List.cons_append, List.nil_append]
                                              refine z_aload_n (j := 2) dL_law_772 rfl rfl ?_
                                              refine z_aload_n (j := 0) dL_law_773 rfl rfl ?_
                                              refine z_iload_n (j := 3) dL_law_774 rfl rfl ?_
                                              refine z_iconst (v := 1) dL_law_775 (by decide) ?_
                                              refine z_iadd dL_law_776 ?_
                                              refine z_as ?_
                                              refine z_sld hsc dL_law_777 (fun x199 => ?_)
                                              refine z_aload_n (j := 0) dL_law_778 rfl rfl ?_
                                              refine z_iload_n (j := 3) dL_law_779 rfl rfl ?_
                                              refine z_iconst (v := 2) dL_law_780 (by decide) ?_
                                              refine z_iadd dL_law_781 ?_
                                              refine z_as ?_
                                              refine z_sld hsc dL_law_782 (fun x200 => ?_)
                                              refine z_aload_n (j := 0) dL_law_783 rfl rfl ?_
                                              refine z_iload_n (j := 3) dL_law_784 rfl rfl ?_
                                              refine z_iconst (v := 3) dL_law_785 (by decide) ?_
                                              refine z_iadd dL_law_786 ?_
                                              refine z_as ?_
                                              refine z_sld hsc dL_law_787 (fun x201 => ?_)
                                              refine z_as ?_
                                              refine z_ob (fun p202 ep202 lp202 kp202 => ?_)
                                              refine z_as ?_
                                              refine z_chk (fun fp202 => ?_)
                                              refine z_as ?_
                                              refine z_callV (As := [.int x199, .int x200, .int x201]) (rest := [.int x197]) (rv2 := fun (x : Int32 × Zr) => some (.int x.1)) (d := 3) (h2 := fun (x : Int32 × Zr) => zput p202 h198 x.2) dL_law_788 vX6_lag (.inl zw1263) (by decide) zkl7 lp202 kp202 rfl (by rw [ep202]; rfl) (by simp [zcat1, zcI, zcJ]) (fun x hx => by have q := kX6_lag G p202 h198 fp202 (zget p202 h198) x199 x200 x201 hx; rw [zput_get] at q; exact q) (fun x => ?_)
                                              obtain ⟨x203, h204⟩ := x
                                              try dsimp only [Option.toList, List.cons_append, List.nil_append]
                                              refine z_itb ?_
                                              refine z_icmp_eq (tgt := 875) dL_law_791 (by decide) (fun _ => ?_) (fun _ => ?_)
                                              · refine z_iinc (j := 3) (v := v9 + (6 : Int32)) (lv' := [(3, .int (v9 + (6 : Int32))), (0, zrv G.2.1 (some G.1.2.1)), (1, zrv G.2.1 r1), (2, zrv G.2.1 r5)]) dL_law_875 rfl rfl (by decide) (by simp [zcat1, zcI, zcJ]) ?_
                                                refine z_goto (tgt := 18) dL_law_878 (by decide) ?_
                                                refine z_sb ?_
                                                refine z_at [1, 2, 3, 0] rfl ?_
                                                exact bK13 (v9 + (6 : Int32), zput p202 h198 h204)
                                              · refine z_iconst (v := 0) dL_law_794 (by decide) ?_
                                                refine z_sb ?_
                                                refine z_eq (rK13 _) ?_
                                                refine z_eq (tF12 _) ?_
                                                exact z_iret dL_law_795 rfl rfl rfl rfl
                                            · refine z_itb ?_
                                              refine z_cases (fun n20 => ?_) (fun n20 => ?_)
                                              · refine z_swIn (off := 763) (tgt := 796) dL_law_33 (by rw [n20]; decide) (by rw [n20]; decide) (by rw [n20]; rfl) (by decide) ?_
                                                refine z_aload_n (j := 1) dL_law_796 rfl rfl ?_
                                                refine z_aload_n (j := 0) dL_law_797 rfl rfl ?_
                                                refine z_iload_n (j := 3) dL_law_798 rfl rfl ?_
                                                refine z_iconst (v := 1) dL_law_799 (by decide) ?_
                                                refine z_iadd dL_law_800 ?_
                                                refine z_as ?_
                                                refine z_sld hsc dL_law_801 (fun x205 => ?_)
                                                refine z_as ?_
                                                refine z_ob (fun p206 ep206 lp206 kp206 => ?_)
                                                refine z_as ?_
                                                refine z_callV (As := [.int x205]) (rest := []) (rv2 := fun (x : Int32 × Zh) => some (.int x.1)) (h2 := fun (x : Int32 × Zh) => x.2) dL_law_802 vX5_slow (.inl zw732) (by decide) zkl6 lp206 kp206 rfl (by rw [ep206]; rfl) (by decide) (fun x hx => kX5_slow G h10 (some p206) x205 hx) (fun x => ?_)
                                                obtain ⟨x207, h208⟩ := x
                                                try dsimp only [Option.toList, List.cons_append, List.nil_append]
                                                refine z_aload_n (j := 2) dL_law_805 rfl rfl ?_
                                                refine z_aload_n (j := 0) dL_law_806 rfl rfl ?_
                                                refine z_iload_n (j := 3) dL_law_807 rfl rfl ?_
                                                refine z_iconst (v := 1) dL_law_808 (by decide) ?_
                                                refine z_iadd dL_law_809 ?_
                                                refine z_as ?_
                                                refine z_sld hsc dL_law_810 (fun x209 => ?_)
                                                refine z_as ?_
                                                refine z_ob (fun p210 ep210 lp210 kp210 => ?_)
                                                refine z_as ?_
                                                refine z_chk (fun fp210 => ?_)
                                                refine z_as ?_
                                                refine z_callV (As := [.int x209]) (rest := [.int x207]) (rv2 := fun (x : Int32 × Zr) => some (.int x.1)) (d := 3) (h2 := fun (x : Int32 × Zr) => zput p210 h208 x.2) dL_law_811 vX6_slow (.inl zw1271) (by decide) zkl7 lp210 kp210 rfl (by rw [ep210]; rfl) (by simp [zcat1, zcI, zcJ]) (fun x hx => by have q := kX6_slow G p210 h208 fp210 (zget p210 h208) x209 hx; rw [zput_get] at q; exact q) (fun x => ?_)
                                                obtain ⟨x211, h212⟩ := x
                                                try dsimp only [Option.toList, List.cons_append, List.nil_append]
                                                refine z_itb ?_
                                                refine z_icmp_eq (tgt := 875) dL_law_814 (by decide) (fun _ => ?_) (fun _ => ?_)
                                                · refine z_iinc (j := 3) (v := v9 + (6 : Int32)) (lv' := [(3, .int (v9 + (6 : Int32))), (0, zrv G.2.1 (some G.1.2.1)), (1, zrv G.2.1 r1), (2, zrv G.2.1 r5)]) dL_law_875 rfl rfl (by decide) (by simp [zcat1, zcI, zcJ]) ?_
                                                  refine z_goto (tgt := 18) dL_law_878 (by decide) ?_
                                                  refine z_sb ?_
                                                  refine z_at [1, 2, 3, 0] rfl ?_
                                                  exact bK13 (v9 + (6 : Int32), zput p210 h208 h212)
                                                · refine z_iconst (v := 0) dL_law_817 (by decide) ?_
                                                  refine z_sb ?_
                                                  refine z_eq (rK13 _) ?_
                                                  refine z_eq (tF12 _) ?_
                                                  exact z_iret dL_law_818 rfl rfl rfl rfl
                                              · refine z_itb ?_
                                                refine z_cases (fun n21 => ?_) (fun n21 => ?_)
                                                · refine z_swIn (off := 786) (tgt := 819) dL_law_33 (by rw [n21]; decide) (by rw [n21]; decide) (by rw [n21]; rfl) (by decide) ?_
                                                  refine z_aload_n (j := 1) dL_law_819 rfl rfl ?_
                                                  refine z_aload_n (j := 0) dL_law_820 rfl rfl ?_
                                                  refine z_iload_n (j := 3) dL_law_821 rfl rfl ?_
                                                  refine z_iconst (v := 1) dL_law_822 (by decide) ?_
                                                  refine z_iadd dL_law_823 ?_
                                                  refine z_as ?_
                                                  refine z_sld hsc dL_law_824 (fun x213 => ?_)
                                                  refine z_aload_n (j := 0) dL_law_825 rfl rfl ?_
                                                  refine z_iload_n (j := 3) dL_law_826 rfl rfl ?_
                                                  refine z_iconst (v := 2) dL_law_827 (by decide) ?_
                                                  refine z_iadd dL_law_828 ?_
                                                  refine z_as ?_
                                                  refine z_sld hsc dL_law_829 (fun x214 => ?_)
                                                  refine z_as ?_
                                                  refine z_ob (fun p215 ep215 lp215 kp215 => ?_)
                                                  refine z_as ?_
                                                  refine z_callV (As := [.int x213, .int x214]) (rest := []) (rv2 := fun (x : Int32) => some (.int x)) (h2 := fun (_ : Int32) => h10) dL_law_830 vX5_passes (.inl zw749) (by decide) zkl6 lp215 kp215 rfl (by rw [ep215]; rfl) (by decide) (fun x hx => kX5_passes G h10 (some p215) x213 x214 hx) (fun x216 => ?_)
                                                  try dsimp only [Option.toList, List.cons_append, List.nil_append]
                                                  refine z_aload_n (j := 2) dL_law_833 rfl rfl ?_
                                                  refine z_aload_n (j := 0) dL_law_834 rfl rfl ?_
                                                  refine z_iload_n (j := 3) dL_law_835 rfl rfl ?_
                                                  refine z_iconst (v := 1) dL_law_836 (by decide) ?_
                                                  refine z_iadd dL_law_837 ?_
                                                  refine z_as ?_
                                                  refine z_sld hsc dL_law_838 (fun x217 => ?_)
                                                  refine z_aload_n (j := 0) dL_law_839 rfl rfl ?_
                                                  refine z_iload_n (j := 3) dL_law_840 rfl rfl ?_
                                                  refine z_iconst (v := 2) dL_law_841 (by decide) ?_
                                                  refine z_iadd dL_law_842 ?_
                                                  refine z_as ?_
                                                  refine z_sld hsc dL_law_843 (fun x218 => ?_)
                                                  refine z_as ?_
                                                  refine z_ob (fun p219 ep219 lp219 kp219 => ?_)
                                                  refine z_as ?_
                                                  refine z_chk (fun fp219 => ?_)
                                                  refine z_as ?_
                                                  refine z_callV (As := [.int x217, .int x218]) (rest := [.int x216]) (rv2 := fun (x : Int32) => some (.int x)) (d := 2) (h2 := fun (_ : Int32) => h10) dL_law_844 vX6_passes (.inl zw1275) (by decide) zkl7 lp219 kp219 rfl (by rw [ep219]; rfl) (by simp [zcat1, zcI, zcJ]) (fun x hx => by have q := kX6_passes G p219 h10 fp219 (zget p219 h10) x217 x218 hx; rw [zput_get] at q; exact q) (fun x220 => ?_)
                                                  try dsimp only [Option.toList, List.cons_append, List.nil_append]
                                                  refine z_itb ?_
                                                  refine z_icmp_eq (tgt := 875) dL_law_847 (by decide) (fun _ => ?_) (fun _ => ?_)
                                                  · refine z_iinc (j := 3) (v := v9 + (6 : Int32)) (lv' := [(3, .int (v9 + (6 : Int32))), (0, zrv G.2.1 (some G.1.2.1)), (1, zrv G.2.1 r1), (2, zrv G.2.1 r5)]) dL_law_875 rfl rfl (by decide) (by simp [zcat1, zcI, zcJ]) ?_
                                                    refine z_goto (tgt := 18) dL_law_878 (by decide) ?_
                                                    refine z_sb ?_
                                                    refine z_at [1, 2, 3, 0] rfl ?_
                                                    exact bK13 (v9 + (6 : Int32), h10)
                                                  · refine z_iconst (v := 0) dL_law_850 (by decide) ?_
                                                    refine z_sb ?_
                                                    refine z_eq (rK13 _) ?_
                                                    refine z_eq (tF12 _) ?_
                                                    exact z_iret dL_law_851 rfl rfl rfl rfl
                                                · refine z_itb ?_
                                                  refine z_cases (fun n22 => ?_) (fun n22 => ?_)
                                                  · refine z_swIn (off := 819) (tgt := 852) dL_law_33 (by rw [n22]; decide) (by rw [n22]; decide) (by rw [n22]; rfl) (by decide) ?_
                                                    refine z_aload_n (j := 1) dL_law_852 rfl rfl ?_
                                                    refine z_aload_n (j := 0) dL_law_853 rfl rfl ?_
                                                    refine z_iload_n (j := 3) dL_law_854 rfl rfl ?_
                                                    refine z_iconst (v := 1) dL_law_855 (by decide) ?_
                                                    refine z_iadd dL_law_856 ?_
                                                    refine z_as ?_
                                                    refine z_sld hsc dL_law_857 (fun x221 => ?_)
                                                    refine z_as ?_
                                                    refine z_ob (fun p222 ep222 lp222 kp222 => ?_)
                                                    refine z_as ?_
                                                    refine z_callV (As := [.int x221]) (rest := []) (rv2 := fun (x : Int32) => some (.int x)) (h2 := fun (_ : Int32) => h10) dL_law_858 vX5_count (.inl zw753) (by decide) zkl6 lp222 kp222 rfl (by rw [ep222]; rfl) (by decide) (fun x hx => kX5_count G h10 (some p222) x221 hx) (fun x223 => ?_)
                                                    try dsimp only [Option.toList, List.cons_append, List.nil_append]
                                                    refine z_aload_n (j := 2) dL_law_861 rfl rfl ?_
                                                    refine z_aload_n (j := 0) dL_law_862 rfl rfl ?_
                                                    refine z_iload_n (j := 3) dL_law_863 rfl rfl ?_
                                                    refine z_iconst (v := 1) dL_law_864 (by decide) ?_
                                                    refine z_iadd dL_law_865 ?_
                                                    refine z_as ?_
                                                    refine z_sld hsc dL_law_866 (fun x224 => ?_)
                                                    refine z_as ?_
                                                    refine z_ob (fun p225 ep225 lp225 kp225 => ?_)
                                                    refine z_as ?_
                                                    refine z_chk (fun fp225 => ?_)
                                                    refine z_as ?_
                                                    refine z_callV (As := [.int x224]) (rest := [.int x223]) (rv2 := fun (x : Int32) => some (.int x)) (d := 4) (h2 := fun (_ : Int32) => h10) dL_law_867 vX6_count (.inl zw1279) (by decide) zkl7 lp225 kp225 rfl (by rw [ep225]; rfl) (by simp [zcat1, zcI, zcJ]) (fun x hx => by have q := kX6_count G p225 h10 fp225 (zget p225 h10) x224 hx; rw [zput_get] at q; exact q) (fun x226 => ?_)
                                                    try dsimp only [Option.toList, List.cons_append, List.nil_append]
                                                    refine z_itb ?_
                                                    refine z_icmp_eq (tgt := 875) dL_law_870 (by decide) (fun _ => ?_) (fun _ => ?_)
                                                    · refine z_iinc (j := 3) (v := v9 + (6 : Int32)) (lv' := [(3, .int (v9 + (6 : Int32))), (0, zrv G.2.1 (some G.1.2.1)), (1, zrv G.2.1 r1), (2, zrv G.2.1 r5)]) dL_law_875 rfl rfl (by decide) (by simp [zcat1, zcI, zcJ]) ?_
                                                      refine z_goto (tgt := 18) dL_law_878 (by decide) ?_
                                                      refine z_sb ?_
                                                      refine z_at [1, 2, 3, 0] rfl ?_
                                                      exact bK13 (v9 + (6 : Int32), h10)
                                                    · refine z_iconst (v := 0) dL_law_873 (by decide) ?_
                                                      refine z_sb ?_
                                                      refine z_eq (rK13 _) ?_
                                                      refine z_eq (tF12 _) ?_
                                                      exact z_iret dL_law_874 rfl rfl rfl rfl
                                                  · refine z_swOut (tgt := 875) dL_law_33 (zsw23 n0 n1 n2 n3 n4 n5 n6 n7 n8 n9 n10 n11 n12 n13 n14 n15 n16 n17 n18 n19 n20 n21 n22) (by decide) ?_
                                                    refine z_iinc (j := 3) (v := v9 + (6 : Int32)) (lv' := [(3, .int (v9 + (6 : Int32))), (0, zrv G.2.1 (some G.1.2.1)), (1, zrv G.2.1 r1), (2, zrv G.2.1 r5)]) dL_law_875 rfl rfl (by decide) (by simp [zcat1, zcI, zcJ]) ?_
                                                    refine z_goto (tgt := 18) dL_law_878 (by decide) ?_
                                                    refine z_sb ?_
                                                    refine z_at [1, 2, 3, 0] rfl ?_
                                                    exact bK13 (v9 + (6 : Int32), h10)
