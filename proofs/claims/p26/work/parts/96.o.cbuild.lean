/-! found on the class's side: trees are built -/
def gP (P : Nat → Prop) (h : Zh) (x : En) : Prop := ∃ w, zNd P h x.1 w x.2.1 ∧ zFo P h x.2.1 w x.2.2
section GPS
variable {P Q : Nat → Prop} {h h' : Zh} {x : En}
theorem gP.mono (e : ∀ u, P u → Q u) (g : gP P h x) : gP Q h x := by
  obtain ⟨w, n, f⟩ := g
  exact ⟨w, n.mono e, f.mono e⟩
theorem gP.on (s : zSm P h h') (g : gP P h x) : gP P h' x := by
  obtain ⟨w, n, f⟩ := g
  exact ⟨w, n.on s, f.on s _ _ _ (n.arr s)⟩
theorem zNd_lt {v w : Nat} {t : Tr} (n : zNd P h v w t) : zNd (fun u => P u ∧ u < zn h) h v w t := ⟨⟨⟨n.1.1, n.1.2.1⟩, n.1.2⟩, ⟨n.2.1, n.2.2.1⟩, n.2.2⟩
theorem zFo_lt : ∀ (t : Tr) (w : Nat) (l : List Nat), zFo P h t w l → zFo (fun u => P u ∧ u < zn h) h t w l
  | .var _, _, _, f => f
  | .op t k, w, l, f => by
    obtain ⟨l1, l2, u, x, f1, f2, f3, f4, f5⟩ := f
    exact ⟨l1, l2, u, x, f1, zFo_lt t w l1 f2, f3, zNd_lt f4, zFo_lt k x l2 f5⟩
theorem gP.lt (g : gP P h x) : gP (fun u => P u ∧ u < zn h) h x := by
  obtain ⟨w, n, f⟩ := g
  exact ⟨w, zNd_lt n, zFo_lt _ _ _ f⟩
theorem gP.top (g : gP P h x) : P x.1 ∧ x.1 < zn h ∧ zk h x.1 = 4 := by
  obtain ⟨w, n, f⟩ := g
  exact ⟨n.1.1, n.1.2.1, n.1.2.2.1⟩
theorem gP.nodes (g : gP P h x) : ∀ y, y ∈ eN x → P y ∧ y < zn h ∧ zk h y = 4 := fun y hy => by
  rcases List.mem_append.mp hy with hy | hy
  · obtain ⟨w, n, f⟩ := g
    exact zFo_P _ _ _ f y hy
  · rw [List.mem_singleton.mp hy]
    exact g.top
end GPS
theorem nNew_on {S : Nat → Prop} {h h' : Zh} {l : List Nat} (e : zExt S h h') (hl : ∀ y, y ∈ l → y < zn h ∧ ¬ S y) (n : nNew h l) : nNew h' l := fun y hy => by
  obtain ⟨l1, l2⟩ := hl y hy
  obtain ⟨a, b⟩ := (e.2 y l1).2.2 l2
  rw [a, b]
  exact n y hy
/-- a tree that is new from n0 on -/
def bT (n0 : Nat) (h : Zh) (r : Option Nat) (t : Tr) : Prop := ∃ x : En, r = some x.1 ∧ x.2.1 = t ∧ gP (fun u => n0 ≤ u) h x ∧ (eN x).Nodup ∧ nNew h (eN x)
theorem bT.on {S : Nat → Prop} {n0 : Nat} {h h' : Zh} {r : Option Nat} {t : Tr} (e : zExt S h h') (hS : ∀ u, n0 ≤ u → u < zn h → ¬ S u) (b : bT n0 h r t) : bT n0 h' r t := by
  obtain ⟨x, b1, b2, b3, b4, b5⟩ := b
  have g : gP (fun u => n0 ≤ u) h' x := (b3.lt.on (zSm.ext e (fun u hu => hS u hu.1 hu.2))).mono (fun u z => z.1)
  exact ⟨x, b1, b2, g, b4, nNew_on e (fun y hy => by
    obtain ⟨y1, y2, -⟩ := b3.nodes y hy
    exact ⟨y2, hS y y1 y2⟩) b5⟩
theorem bT.le {n0 n1 : Nat} {h : Zh} {r : Option Nat} {t : Tr} (b : bT n0 h r t) (hn : n1 ≤ n0) : bT n1 h r t := by
  obtain ⟨x, b1, b2, b3, b4⟩ := b
  exact ⟨x, b1, b2, b3.mono (fun u hu => Nat.le_trans hn hu), b4⟩
theorem cleafF {h : Zh} {lab : Nat} (hl : lab < 13) : zS ((zmO h 3 7).bind fun ((r1, h2) : Option Nat × Zh) =>
      (zmA h2 3 (0 : Int32)).bind fun ((r3, h4) : Option Nat × Zh) =>
      (zob h4 r1 4).bind fun p5 =>
      (fX2_init h4 (some p5) (nI (tKd lab)) (tNm lab) r3).bind fun h6 =>
      some (r1, h6)) (fun r => bT (zn h) r.2 r.1 (.var lab) ∧ fN h r.2 ∧ zn r.2 = zn h + 2 ∧ zs r.2 = zs h + 7) := by
  have m1 : zn (znew (znew h 4 0 7) 103 0 0) = zn h + 2 := rfl
  have m2 : zs (znew (znew h 4 0 7) 103 0 0) = zs h + 7 + 0 := rfl
  have m3 : zExt (fun _ => False) h (znew (znew h 4 0 7) 103 0 0) := zExt.nw.tr zExt.nw
  have m4 : zk (znew (znew h 4 0 7) 103 0 0) (zn h) = 4 := by rw [zk_nw (by show zn h ≠ zn h + 1; omega), znew_k]
  have m5 : zk (znew (znew h 4 0 7) 103 0 0) (zn h + 1) = 103 := znew_k (znew h 4 0 7) 103 0 0
  have m6 : zl (znew (znew h 4 0 7) 103 0 0) (zn h + 1) = 0 := if_pos rfl
  have m7 : zp (znew (znew h 4 0 7) 103 0 0) (zn h) 6 = none := by
    rw [zp_nw (by show zn h ≠ zn h + 1; omega)]
    show (if zn h = zn h then none else _) = _
    rw [if_pos rfl]
  obtain ⟨h4, i1, ⟨i2, i3, i4⟩, ⟨i5, i6⟩, i7, i8⟩ := cinit_eq (P := fun _ => False) (t := .var lab) (l := []) (v := zn h) (w := zn h + 1) (h := znew (znew h 4 0 7) 103 0 0) (by omega) m4 (fun z => z) (by omega) m5 m6 rfl (show lab ≤ 16 by omega) (show 1 < 90000 by omega)
  have ef : fN h h4 := (m3.mono (fun _ _ z => z.elim)).tr (i2.mono (fun u _ (z : u = zn h) => by omega))
  refine ⟨(some (zn h), h4), ?_, ⟨(zn h, .var lab, []), rfl, rfl, ⟨zn h + 1, i7 (fun u => zn h ≤ u) (Nat.le_refl _) (Nat.le_succ _), rfl⟩, List.nodup_cons.mpr ⟨List.not_mem_nil, List.nodup_nil⟩, fun u hu => ?_⟩, ef, by show zn h4 = _; omega, by show zs h4 = _; omega⟩
  · rw [zmO_v, Option.bind_some]
    show (((zmA (znew h 4 0 7) 3 (nI 0)).bind _)) = _
    rw [zmA_v (by omega), Option.bind_some]
    show (((zob (znew (znew h 4 0 7) 103 0 0) (some (zn h)) 4).bind _)) = _
    rw [zob_v (by rw [m1]; omega) m4, Option.bind_some]
    show (((fX2_init (znew (znew h 4 0 7) 103 0 0) (some (zn h)) (nI (tKd lab)) (tNm lab) (some (zn h + 1))).bind _)) = _
    have i1' : fX2_init (znew (znew h 4 0 7) 103 0 0) (some (zn h)) (nI (tKd lab)) (tNm lab) (some (zn h + 1)) = some h4 := i1
    rw [i1']
    rfl
  · have hu' : u ∈ [zn h] := hu
    rw [List.mem_singleton.mp hu']
    exact ⟨i5, by rw [i6]; exact m7⟩
theorem csil_eq (h : Zh) : zS (fX5_silence h) (fun r => bT (zn h) r.2 r.1 (.var 12) ∧ fN h r.2 ∧ zn r.2 = zn h + 2 ∧ zs r.2 = zs h + 7) := cleafF (h := h) (lab := 12) (by omega)
theorem cdeo_eq (h : Zh) {v : Nat} (hv : v < 12) : zS (fX5_deedOf h (nI v)) (fun r => bT (zn h) r.2 r.1 (.var v) ∧ fN h r.2 ∧ zn r.2 = zn h + 2 ∧ zs r.2 = zs h + 7) := by
  have k := cleafF (h := h) (lab := v) (by omega)
  rw [show tKd v = 0 from if_pos hv, show tNm v = nI v from if_pos hv, nI_0] at k
  exact k
/-- an object whose array holds trees -/
theorem cinitF {h : Zh} {n0 v w lab : Nat} {L : List En} (hv : n0 ≤ v ∧ v < zn h) (kv : zk h v = 4) (hw : n0 ≤ w ∧ w < zn h) (kw : zk h w = 103) (lw : zl h w = L.length) (p6 : zp h v 6 = none) (hp : ∀ i, i < L.length → zp h w i = some (L.getD i (0, .var 0, [])).1) (hL : ∀ x, x ∈ L → gP (fun u => n0 ≤ u ∧ u ≠ v) h x ∧ tOK x.2.1) (nd : (L.flatMap eN).Nodup) (nw : nNew h (L.flatMap eN)) (h13 : 13 ≤ lab) (h16 : lab ≤ 16) (hz : tSz (tMk lab (eT L)) < 90000) :
    ∃ h', fX2_init h (some v) (nI (tKd lab)) (tNm lab) (some w) = some h' ∧ bT n0 h' (some v) (tMk lab (eT L)) ∧ zExt (fun u => u = v) h h' ∧ zn h' = zn h ∧ zs h' = zs h := by
  have f := zFo_mk (P := fun u => n0 ≤ u ∧ u ≠ v) (lab := lab) L hp (fun x hx => (hL x hx).1)
  have fl : ∀ y, y ∈ L.flatMap eN → y < zn h ∧ y ≠ v := fun y hy => by
    obtain ⟨x, x1, x2⟩ := List.mem_flatMap.mp hy
    obtain ⟨y1, y2, -⟩ := (hL x x1).1.nodes y x2
    exact ⟨y2, y1.2⟩
  obtain ⟨h', i1, ⟨i2, i3, i4⟩, ⟨i5, i6⟩, i7, i8⟩ := cinit_eq (P := fun u => n0 ≤ u ∧ u ≠ v) (t := tMk lab (eT L)) hv.2 kv (fun z => z.2 rfl) hw.2 kw (by rw [tMk_len]; exact lw.trans (List.length_map _).symm) f (tMk_G lab h13 h16 _ (fun t ht => by
    obtain ⟨x, x1, rfl⟩ := List.mem_map.mp ht
    exact (hL x x1).2)) hz
  rw [tMk_lab] at i1
  refine ⟨h', i1, ⟨(v, tMk lab (eT L), L.flatMap eN), rfl, rfl, ⟨w, i7 _ hv.1 hw.1, i8.mono (fun u z => z.1)⟩, ?_, fun y hy => ?_⟩, i2, i3, i4⟩
  · refine List.nodup_append.mpr ⟨nd, List.nodup_cons.mpr ⟨List.not_mem_nil, List.nodup_nil⟩, fun a ha b hb hab => ?_⟩
    rw [List.mem_singleton.mp hb] at hab
    exact (fl a ha).2 hab
  · rcases List.mem_append.mp hy with hy | hy
    · exact nNew_on i2 (fun y hy => fl y hy) nw y hy
    · rw [List.mem_singleton.mp hy]
      exact ⟨i5, by rw [i6]; exact p6⟩
theorem ctwo_eq {h : Zh} {n0 lab : Nat} {x y : En} (hn : n0 ≤ zn h) (gx : gP (fun u => n0 ≤ u) h x) (gy : gP (fun u => n0 ≤ u) h y) (ox : tOK x.2.1) (oy : tOK y.2.1) (nd : (eN x ++ eN y).Nodup) (nx : nNew h (eN x)) (ny : nNew h (eN y)) (h13 : 13 ≤ lab) (h16 : lab ≤ 16) (hz : tSz x.2.1 + tSz y.2.1 < 80000) :
    zS (fX5_two h (nI (tKd lab)) (some x.1) (some y.1)) (fun r => bT n0 r.2 r.1 (tMk lab [x.2.1, y.2.1]) ∧ fN h r.2 ∧ zn r.2 = zn h + 2 ∧ zs r.2 = zs h + 9) := by
  have g1 : zn (znew (znew h 4 0 7) 103 2 2) = zn h + 2 := rfl
  have g2 : zs (znew (znew h 4 0 7) 103 2 2) = zs h + 7 + 2 := rfl
  have g3 : zExt (fun _ => False) h (znew (znew h 4 0 7) 103 2 2) := zExt.nw.tr zExt.nw
  have g4 : zk (znew (znew h 4 0 7) 103 2 2) (zn h) = 4 := by rw [zk_nw (by show zn h ≠ zn h + 1; omega), znew_k]
  have g5 : zk (znew (znew h 4 0 7) 103 2 2) (zn h + 1) = 103 := znew_k (znew h 4 0 7) 103 2 2
  have g6 : zl (znew (znew h 4 0 7) 103 2 2) (zn h + 1) = 2 := if_pos rfl
  have g7 : zp (znew (znew h 4 0 7) 103 2 2) (zn h) 6 = none := by
    rw [zp_nw (by show zn h ≠ zn h + 1; omega)]
    show (if zn h = zn h then none else _) = _
    rw [if_pos rfl]
  generalize e3 : zsetP (zsetP (znew (znew h 4 0 7) 103 2 2) (zn h + 1) 0 (some x.1)) (zn h + 1) 1 (some y.1) = h3
  have x3 : zExt (fun u => zn h ≤ u) h h3 := by
    rw [← e3]
    exact ((g3.mono (fun _ _ z => z.elim)).tr (zExt.sP (Or.inl (by omega)))).tr (zExt.sP (Or.inl (by omega)))
  have n3 : zn h3 = zn h + 2 := by rw [← e3]; exact g1
  have up : ∀ z : En, gP (fun u => n0 ≤ u) h z → gP (fun u => n0 ≤ u ∧ u ≠ zn h) h3 z := fun z gz => (gz.lt.on (zSm.ext x3 (fun u hu => by omega))).mono (fun u hu => ⟨hu.1, by omega⟩)
  have fl : ∀ (z : En), gP (fun u => n0 ≤ u) h z → ∀ u, u ∈ eN z → u < zn h ∧ ¬ zn h ≤ u := fun z gz u hu => by
    have := (gz.nodes u hu).2.1
    exact ⟨this, by omega⟩
  obtain ⟨h4, i1, i2, i3, i4, i5⟩ := cinitF (h := h3) (n0 := n0) (v := zn h) (w := zn h + 1) (lab := lab) (L := [x, y]) ⟨hn, by omega⟩ (by rw [← e3]; exact g4) ⟨by omega, by omega⟩ (by rw [← e3]; exact g5) (by rw [← e3]; exact g6) (by
    rw [← e3, zp_sP, u2_a (by omega), zp_sP, u2_a (by omega)]; exact g7) (fun j hj => by
    have hj' : j < 2 := hj
    rw [← e3, zp_sP, zp_sP]
    rcases (show j = 0 ∨ j = 1 by omega) with rfl | rfl
    · rw [u2_n (by omega), u2_s]; rfl
    · rw [u2_s]; rfl) (fun z hz => by
    rcases List.mem_cons.mp hz with rfl | hz
    · exact ⟨up _ gx, ox⟩
    · rw [List.mem_singleton.mp hz]; exact ⟨up _ gy, oy⟩) (by
    rw [List.flatMap_cons, List.flatMap_cons, List.flatMap_nil, List.append_nil]; exact nd) (by
    rw [List.flatMap_cons, List.flatMap_cons, List.flatMap_nil, List.append_nil]
    intro u hu
    rcases List.mem_append.mp hu with hu | hu
    · exact nNew_on x3 (fl x gx) nx u hu
    · exact nNew_on x3 (fl y gy) ny u hu) h13 h16 (by
    rw [tMk_sz]
    show 1 + tSum [x.2.1, y.2.1] < _
    rw [tSum_cons, tSum_cons]
    show 1 + (tSz x.2.1 + (tSz y.2.1 + 0)) < _
    omega)
  have kx := gx.top
  have ky := gy.top
  have nm : tNm lab = -3 := if_neg (by omega)
  rw [nm] at i1
  refine ⟨(some (zn h), h4), ?_, i2, x3.tr (i3.mono (fun u _ (z : u = zn h) => by omega)), by show zn h4 = _; omega, by show zs h4 = _; rw [i5, ← e3]; exact g2⟩
  unfold fX5_two
  rw [zmO_v, Option.bind_some]
  show (((zmA (znew h 4 0 7) 3 (nI 2)).bind _)) = _
  rw [zmA_v (by omega), Option.bind_some]
  show (((zbP (znew (znew h 4 0 7) 103 2 2) (some (zn h + 1)) 3 3 (nI 0) (some x.1)).bind _)) = _
  rw [zbP_v (n := 2) (by rw [g1]; omega) g5 g6 (by omega) (by omega) (by rw [g1]; omega) ((g3.2 _ kx.2.1).1.trans kx.2.2), Option.bind_some]
  show (((zbP _ (some (zn h + 1)) 3 3 (nI 1) (some y.1)).bind _)) = _
  rw [zbP_v (n := 2) (by show zn h + 1 < zn (znew (znew h 4 0 7) 103 2 2); rw [g1]; omega) (by exact g5) (by exact g6) (by omega) (by omega) (by show y.1 < zn (znew (znew h 4 0 7) 103 2 2); rw [g1]; omega) (by exact (g3.2 _ ky.2.1).1.trans ky.2.2), Option.bind_some, e3]
  show (((zob h3 (some (zn h)) 4).bind _)) = _
  rw [zob_v (by omega) (by rw [← e3]; exact g4), Option.bind_some]
  show (((fX2_init h3 (some (zn h)) (nI (tKd lab)) (-3) (some (zn h + 1))).bind _)) = _
  rw [i1]
  rfl
/-- trees that an array holds -/
def bLs (n0 w : Nat) (h : Zh) (L : List En) : Prop := (∀ x, x ∈ L → gP (fun u => n0 ≤ u ∧ u ≠ w) h x ∧ tOK x.2.1) ∧ (L.flatMap eN).Nodup ∧ nNew h (L.flatMap eN) ∧ ∀ i, i < L.length → zp h w i = some (L.getD i (0, .var 0, [])).1
theorem bLs_s {S : Nat → Prop} {n0 w : Nat} {h h1 : Zh} {L : List En} {x : En} (b : bLs n0 w h L) (hw : n0 ≤ w ∧ w < zn h) (e : zExt S h h1) (hS : ∀ u, n0 ≤ u → ¬ S u) (gx : gP (fun u => zn h ≤ u) h1 x) (ox : tOK x.2.1) (nd : (eN x).Nodup) (nw : nNew h1 (eN x)) : bLs n0 w (zsetP h1 w L.length (some x.1)) (L ++ [x]) := by
  obtain ⟨b1, b2, b3, b4⟩ := b
  have e2 : zExt (fun u => u = w) h1 (zsetP h1 w L.length (some x.1)) := zExt.sP (Or.inl rfl)
  have old : ∀ y, y ∈ L.flatMap eN → y < zn h ∧ n0 ≤ y ∧ y ≠ w := fun y hy => by
    obtain ⟨z, z1, z2⟩ := List.mem_flatMap.mp hy
    obtain ⟨y1, y2, -⟩ := (b1 z z1).1.nodes y z2
    exact ⟨y2, y1.1, y1.2⟩
  have new : ∀ y, y ∈ eN x → zn h ≤ y ∧ y < zn h1 := fun y hy => by
    obtain ⟨y1, y2, -⟩ := gx.nodes y hy
    exact ⟨y1, y2⟩
  have le := e.1.1
  have ef : (L ++ [x]).flatMap eN = L.flatMap eN ++ eN x := by rw [List.flatMap_append, List.flatMap_cons, List.flatMap_nil, List.append_nil]
  refine ⟨fun z hz => ?_, ?_, ?_, fun i hi => ?_⟩
  · rcases List.mem_append.mp hz with hz | hz
    · exact ⟨((b1 z hz).1.on (zSm.ext e (fun u hu => hS u hu.1))).on (zSm.ext e2 (fun u hu => hu.2)), (b1 z hz).2⟩
    · rw [List.mem_singleton.mp hz]
      exact ⟨(gx.mono (Q := fun u => n0 ≤ u ∧ u ≠ w) (fun u hu => ⟨by omega, by omega⟩)).on (zSm.ext e2 (fun u hu => hu.2)), ox⟩
  · rw [ef]
    refine List.nodup_append.mpr ⟨b2, nd, fun a ha b hb hab => ?_⟩
    have := (old a ha).1
    have := (new b hb).1
    omega
  · rw [ef]
    intro y hy
    rcases List.mem_append.mp hy with hy | hy
    · have o := old y hy
      have := nNew_on e (fun z hz => ⟨(old z hz).1, hS z (old z hz).2.1⟩) b3
      exact nNew_on e2 (fun z hz => ⟨by have := (old z hz).1; omega, (old z hz).2.2⟩) this y hy
    · exact nNew_on e2 (fun z hz => ⟨(new z hz).2, by have := (new z hz).1; omega⟩) nw y hy
  · rw [zp_sP]
    rw [List.length_append] at hi
    have hi' : i < L.length + 1 := hi
    by_cases c : i = L.length
    · subst c
      rw [u2_s, List.getD_eq_getElem?_getD, List.getElem?_append_right (Nat.le_refl _), Nat.sub_self]; rfl
    · rw [u2_n (fun z => c z.2), ((e.2 w hw.2).2.2 (hS w hw.1)).2, b4 i (by omega), List.getD_eq_getElem?_getD, List.getD_eq_getElem?_getD, List.getElem?_append_left (by omega)]
/-- an object out of an array of trees -/
theorem cmkF {h : Zh} {n0 w lab : Nat} {L : List En} (b : bLs n0 w h L) (hw : n0 ≤ w ∧ w < zn h) (kw : zk h w = 103) (lw : zl h w = L.length) (h13 : 13 ≤ lab) (h16 : lab ≤ 16) (hz : tSz (tMk lab (eT L)) < 90000) :
    zk (znew h 4 0 7) (zn h) = 4 ∧ ∃ h', fX2_init (znew h 4 0 7) (some (zn h)) (nI (tKd lab)) (tNm lab) (some w) = some h' ∧ bT n0 h' (some (zn h)) (tMk lab (eT L)) ∧ fN h h' ∧ zn h' = zn h + 1 ∧ zs h' = zs h + 7 := by
  obtain ⟨b1, b2, b3, b4⟩ := b
  have e1 : zExt (fun _ => False) h (znew h 4 0 7) := zExt.nw
  have k4 : zk (znew h 4 0 7) (zn h) = 4 := znew_k h 4 0 7
  have n1 : zn (znew h 4 0 7) = zn h + 1 := rfl
  have s1 : zs (znew h 4 0 7) = zs h + 7 := rfl
  have p6 : zp (znew h 4 0 7) (zn h) 6 = none := by
    show (if zn h = zn h then none else _) = _
    rw [if_pos rfl]
  have hw1 := e1.2 w hw.2
  have fl : ∀ y, y ∈ L.flatMap eN → y < zn h ∧ ¬ False := fun y hy => by
    obtain ⟨z, z1, z2⟩ := List.mem_flatMap.mp hy
    exact ⟨((b1 z z1).1.nodes y z2).2.1, id⟩
  obtain ⟨h', i1, i2, i3, i4, i5⟩ := cinitF (h := znew h 4 0 7) (n0 := n0) (v := zn h) (w := w) (lab := lab) (L := L) ⟨by omega, by omega⟩ k4 ⟨hw.1, by omega⟩ (hw1.1.trans kw) (hw1.2.1.trans lw) p6 (fun i hi => by rw [(hw1.2.2 id).2]; exact b4 i hi) (fun x hx => ⟨((b1 x hx).1.lt.on (zSm.ext e1 (fun _ _ => id))).mono (fun u hu => ⟨hu.1.1, by omega⟩), (b1 x hx).2⟩) b2 (nNew_on e1 fl b3) h13 h16 hz
  exact ⟨k4, h', i1, i2, (e1.mono (fun _ _ z => z.elim)).tr (i3.mono (fun u _ (z : u = zn h) => by omega)), by omega, by omega⟩
