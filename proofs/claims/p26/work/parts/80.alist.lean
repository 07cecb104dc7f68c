/-! lists of pieces, as the class has them -/
def al (c1 n0 : Nat) (h : Zh) (v : Nat) (l : List Nat) (cap : Nat) : Prop := (n0 ≤ v ∧ v < zn h ∧ zk h v = 1 ∧ zi h v 2 = nI l.length ∧ l.length ≤ cap ∧ cap ≤ 90) ∧ (∀ u, u ∈ l → u < zn h ∧ zk h u = 4) ∧ (c1 < zn h ∧ zk h c1 = 106) ∧
  ((cap = 0 ∧ zp h v 1 = some c1) ∨ (10 ≤ cap ∧ ∃ e, zp h v 1 = some e ∧ n0 ≤ e ∧ e < zn h ∧ zk h e = 105 ∧ zl h e = cap ∧ ∀ i, i < l.length → zp h e i = some (l.getD i 0)))
/-- other cells than lists and their arrays stay -/
def kF (h h' : Zh) : Prop := ∀ u, u < zn h → zk h u ≠ 1 → zk h u ≠ 105 → zi h' u = zi h u ∧ zp h' u = zp h u
theorem kF.rf {h : Zh} : kF h h := fun _ _ _ _ => ⟨rfl, rfl⟩
theorem kF.tr {S : Nat → Prop} {h h1 h2 : Zh} (e : zExt S h h1) (a : kF h h1) (b : kF h1 h2) : kF h h2 := fun u hu k1 k2 => by
  obtain ⟨a1, a2⟩ := a u hu k1 k2
  have ek := (e.2 u hu).1
  obtain ⟨b1, b2⟩ := b u (Nat.lt_of_lt_of_le hu e.1.1) (by rw [ek]; exact k1) (by rw [ek]; exact k2)
  exact ⟨b1.trans a1, b2.trans a2⟩
theorem kF.sm {S P : Nat → Prop} {h h' : Zh} (e : zExt S h h') (k : kF h h') : zSm P h h' := by
  intro u _ hl
  obtain ⟨e1, e2, -⟩ := e.2 u hl
  refine ⟨Nat.lt_of_lt_of_le hl e.1.1, e1, e2, fun h4 => ?_, fun h3 => ?_⟩
  · obtain ⟨a, b⟩ := k u hl (by rw [h4]; decide) (by rw [h4]; decide)
    exact ⟨fun j _ => by rw [a], by rw [b]⟩
  · exact (k u hl (by rw [h3]; decide) (by rw [h3]; decide)).2
/-- nothing that was there is touched -/
def fN (h h' : Zh) : Prop := zExt (fun u => zn h ≤ u) h h'
theorem fN.tr {h h1 h2 : Zh} (a : fN h h1) (b : fN h1 h2) : fN h h2 := by
  refine ⟨⟨Nat.le_trans a.1.1 b.1.1, Nat.le_trans a.1.2 b.1.2⟩, fun v hv => ?_⟩
  have hv1 := Nat.lt_of_lt_of_le hv a.1.1
  obtain ⟨a1, a2, a3⟩ := a.2 v hv
  obtain ⟨b1, b2, b3⟩ := b.2 v hv1
  have a3' := a3 (Nat.not_le.mpr hv)
  have b3' := b3 (Nat.not_le.mpr hv1)
  exact ⟨b1.trans a1, b2.trans a2, fun _ => ⟨b3'.1.trans a3'.1, b3'.2.trans a3'.2⟩⟩
theorem fN.at {h h' : Zh} (a : fN h h') {u : Nat} (hu : u < zn h) : zk h' u = zk h u ∧ zl h' u = zl h u ∧ zi h' u = zi h u ∧ zp h' u = zp h u := by
  obtain ⟨a1, a2, a3⟩ := a.2 u hu
  have := a3 (Nat.not_le.mpr hu)
  exact ⟨a1, a2, this.1, this.2⟩
theorem fN.k {h h' : Zh} (a : fN h h') : kF h h' := fun u hu _ _ => ⟨(a.at hu).2.2.1, (a.at hu).2.2.2⟩
theorem fN.sm {P : Nat → Prop} {h h' : Zh} (a : fN h h') : zSm P h h' := kF.sm a a.k
theorem al.on {c1 n0 : Nat} {h h' : Zh} {v : Nat} {l : List Nat} {cap : Nat} (a : fN h h') (A : al c1 n0 h v l cap) : al c1 n0 h' v l cap := by
  obtain ⟨⟨a1, a2, a3, a4, a5, a6⟩, b, ⟨c1', c2⟩, d⟩ := A
  have le := a.1.1
  refine ⟨⟨a1, by omega, (a.at a2).1.trans a3, by rw [(a.at a2).2.2.1]; exact a4, a5, a6⟩, fun u hu => ⟨by have := (b u hu).1; omega, (a.at (b u hu).1).1.trans (b u hu).2⟩, ⟨by omega, (a.at c1').1.trans c2⟩, ?_⟩
  rcases d with ⟨d1, d2⟩ | ⟨d1, e, d2, d3, d4, d5, d6, d7⟩
  · exact Or.inl ⟨d1, by rw [(a.at a2).2.2.2]; exact d2⟩
  · exact Or.inr ⟨d1, e, by rw [(a.at a2).2.2.2]; exact d2, d3, by omega, (a.at d4).1.trans d5, (a.at d4).2.1.trans d6, fun i hi => by rw [(a.at d4).2.2.2]; exact d7 i hi⟩
theorem al_size {c1 n0 : Nat} {h : Zh} {v : Nat} {l : List Nat} {cap : Nat} (A : al c1 n0 h v l cap) : fJx4a65c_size_8abf5 h (some v) = some (nI l.length) := by
  unfold fJx4a65c_size_8abf5
  rw [zfI_v (ci := 0) A.1.2.1 A.1.2.2.1, A.1.2.2.2.1]
  rfl
theorem al_ob {c1 n0 : Nat} {h : Zh} {v : Nat} {l : List Nat} {cap : Nat} (A : al c1 n0 h v l cap) : zob h (some v) 1 = some v := zob_v A.1.2.1 A.1.2.2.1
theorem al_get {c1 n0 : Nat} {h : Zh} {v : Nat} {l : List Nat} {cap i : Nat} (A : al c1 n0 h v l cap) (hi : i < l.length) : fJx4a65c_get_915e3 h (some v) (nI i) = some (some (l.getD i 0)) := by
  obtain ⟨⟨a1, a2, a3, a4, a5, a6⟩, b, c, d⟩ := A
  rcases d with ⟨d1, -⟩ | ⟨d1, e, d2, d3, d4, d5, d6, d7⟩
  · omega
  · unfold fJx4a65c_get_915e3 fJ15_checkIndex_7cf53 fJ3_checkIndex_8e157 fJx4a65c_elementData_915e3
    rw [zfI_v (ci := 0) a2 a3, a4, Option.bind_some, if_neg (nI_pos (by omega)), if_pos (nI_lt hi (by omega)), Option.bind_some, Option.bind_some, zob_v a2 a3, Option.bind_some, zfP_v (ci := 0) a2 a3, d2, Option.bind_some, zaP_v (t := 5) (n := cap) d4 d5 d6 (by omega) (by omega), Option.bind_some, Option.bind_some, d7 i hi]
theorem zck_v {h : Zh} {u : Nat} (h1 : u < zn h) (h2 : zk h u = 4) : zck h (some u) = some (some u) := by
  unfold zck zokP
  rw [if_pos]
  rw [decide_eq_true_iff]
  exact Or.inr (zob_v h1 h2)
theorem zokP_v {h : Zh} {u : Nat} (h1 : u < zn h) (h2 : zk h u = 4) : zokP h (some u) = true := by
  unfold zokP
  rw [decide_eq_true_iff]
  exact Or.inr (zob_v h1 h2)
theorem bt_half : ∀ n, n < 128 → nI n >>> ((1 : Int32) &&& 31) = nI (n / 2) := by decide +kernel
theorem zrow_p {h : Zh} {c u : Nat} {f : Nat → Option Nat} : zp (zrow h c f) u = if u = c then f else zp h u := by
  funext j
  show (if u = c then f j else zp h u j) = _
  split <;> rfl
/-- the array is copied into a longer one -/
theorem agrow_eq {c1 c2 n0 : Nat} {h : Zh} {v : Nat} {l : List Nat} {cap : Nat} (A : al c1 n0 h v l cap) (hn : n0 ≤ zn h) (h59 : l.length ≤ 59) (hfull : l.length = cap) : zS (fJx4a65c_grow_d5877 (c1, c2) h (some v)) (fun r => ∃ cap', r.1 = some (zn h) ∧ al c1 n0 r.2 v l cap' ∧ zp r.2 v 1 = some (zn h) ∧ (zExt (fun u => n0 ≤ u) h r.2 ∧ kF h r.2) ∧ zn r.2 = zn h + 1 ∧ zs r.2 = zs h + cap' ∧ cap + 5 ≤ cap' ∧ l.length + 1 ≤ cap' ∧ cap' + 4 * cap ≤ 4 * cap') := by
  obtain ⟨⟨a1, a2, a3, a4, a5, a6⟩, b, ⟨c1', c2'⟩, d⟩ := A
  unfold fJx4a65c_grow_d5877
  rw [zfI_v (ci := 0) a2 a3, a4, Option.bind_some, zob_v a2 a3, Option.bind_some, nI_1]
  unfold fJx4a65c_grow_92f84
  rcases d with ⟨d1, d2⟩ | ⟨d1, e, d2, d3, d4, d5, d6, d7⟩
  · have l0 : l.length = 0 := by omega
    have ea : zaO h (some c1) = some 0 := by
      unfold zaO
      rw [Option.bind_some, if_pos ⟨c1', c2'⟩]
    rw [zfP_v (ci := 0) a2 a3, d2, Option.bind_some, ea, Option.bind_some, if_neg (by decide), Option.bind_some, if_pos rfl, l0]
    show zS (((zmA h 5 (nI 10)).bind _).bind _) _
    rw [zmA_v (by omega), Option.bind_some]
    have kv : zk (znew h 105 10 10) v = 1 := by rw [zk_nw (by omega)]; exact a3
    show zS (((zgP (znew h 105 10 10) (some v) 0 1 (some (zn h))).bind _).bind _) _
    rw [zgP_v (ci := 0) (by show v < zn h + 1; omega) kv]
    have ex : zExt (fun u => n0 ≤ u) h (zsetP (znew h 105 10 10) v 1 (some (zn h))) := zExt.nw.tr (zExt.sP (Or.inl a1))
    have lnil : l = [] := List.eq_nil_of_length_eq_zero l0
    refine zS.s ⟨10, rfl, ⟨⟨a1, by show v < zn h + 1; omega, kv, ?_, by omega, by omega⟩, fun u hu => by rw [lnil] at hu; exact absurd hu List.not_mem_nil, ⟨by show c1 < zn h + 1; omega, (ex.2 c1 c1').1.trans c2'⟩, Or.inr ⟨Nat.le_refl _, zn h, by rw [zp_sP, u2_s], hn, Nat.lt_succ_self _, znew_k h 105 10 10, if_pos rfl, fun i hi => by omega⟩⟩, by rw [zp_sP, u2_s], ⟨ex, fun u hu k1 k2 => ?_⟩, rfl, rfl, by omega, by omega, by omega⟩
    · rw [zi_sP, zi_nw (by omega)]; exact a4
    · have : u ≠ v := by rintro rfl; exact k1 a3
      refine ⟨by rw [zi_sP, zi_nw (by omega)], ?_⟩
      rw [zp_sP]
      funext j
      rw [u2_a this, zp_nw (by omega)]
  · have ea : zaO h (some e) = some (nI cap) := by
      unfold zaO
      rw [Option.bind_some, if_neg (fun z => by have := z.2; omega), zaL_v (t := 5) d4 d5, d6]
    have enl : fJ8_newLength_cabcc h (nI cap) (nI (l.length + 1) - nI cap) (nI cap >>> ((1 : Int32) &&& 31)) = some (nI (cap + cap / 2)) := by
      unfold fJ8_newLength_cabcc
      rw [bt_half cap (by omega), show nI (l.length + 1) - nI cap = nI 1 from by rw [pk_sub (by omega)]; congr 1; omega, if_pos (nI_lt (by omega) (by omega)), nI_add, if_neg (show ¬ nI (cap + cap / 2) ≤ (0 : Int32) from nI_nle (by omega) (by omega)), if_neg (show ¬ (2147483639 : Int32) < nI (cap + cap / 2) from nI_nlt (a := 2147483639) (by omega) (by omega))]
    rw [zfP_v (ci := 0) a2 a3, d2, Option.bind_some, ea, Option.bind_some, if_pos (show 0 < nI cap from nI_lt (a := 0) (by omega) (by omega)), enl, Option.bind_some, Option.bind_some]
    unfold fJ7_copyOf_1904c
    rw [zob_v d4 d5, Option.bind_some]
    unfold fJ7_copyOf_6403c
    rw [if_pos rfl, zmA_v (by omega), Option.bind_some]
    generalize en : cap + cap / 2 = nl at *
    have d4' : e < zn (znew h (100 + 5) nl nl) := by show e < zn h + 1; omega
    have d5' : zk (znew h (100 + 5) nl nl) e = 105 := by rw [zk_nw (by omega)]; exact d5
    have d6' : zl (znew h (100 + 5) nl nl) e = cap := by rw [zl_nw (by omega)]; exact d6
    have ea' : zaO (znew h (100 + 5) nl nl) (some e) = some (nI cap) := by
      unfold zaO
      rw [Option.bind_some, if_neg (fun z => by have := z.2; omega), zaL_v (t := 5) d4' d5', d6']
    have ecp : zcp (znew h (100 + 5) nl nl) (some e) (0 : Int32) (some (zn h)) (0 : Int32) (if nI nl < nI cap then nI nl else nI cap) = some (zrow (znew h (100 + 5) nl nl) (zn h) (va_cpy (zp (znew h (100 + 5) nl nl) e) (zp (znew h (100 + 5) nl nl) (zn h)) 0 0 cap)) := by
      have z0 : (0 : Int32).toNatClampNeg = 0 := by decide
      unfold zcp
      rw [if_neg (nI_nlt (by omega) (by omega)), zob_v d4' d5', Option.bind_some, zob_v (by show zn h < zn h + 1; omega) (znew_k h 105 nl nl), Option.bind_some, nI_clamp (by omega), z0, Nat.zero_add, d6', show zl (znew h (100 + 5) nl nl) (zn h) = nl from if_pos rfl, if_neg (by
        rintro ((q | q | q) | q | q | q | q)
        · exact absurd q (by decide)
        · exact absurd q (by decide)
        · exact nI_pos (by omega) q
        · omega
        · omega
        · omega
        · omega), if_pos]
      rw [List.all_eq_true]
      intro i hi
      have hi' := List.mem_range.mp hi
      rw [Nat.zero_add, zp_nw (by omega), d7 i (by omega)]
      obtain ⟨b1, b2⟩ := b _ (getD_mem l i (by omega))
      exact zokP_v (by show _ < zn h + 1; omega) (by rw [zk_nw (by omega)]; exact b2)
    show zS (((((zaO (znew h (100 + 5) nl nl) (some e)).bind _).bind _).bind _).bind _) _
    rw [ea', Option.bind_some, ecp, Option.bind_some, Option.bind_some]
    generalize eh7 : zrow (znew h (100 + 5) nl nl) (zn h) (va_cpy (zp (znew h (100 + 5) nl nl) e) (zp (znew h (100 + 5) nl nl) (zn h)) 0 0 cap) = h7
    have k7 : zk h7 = zk (znew h 105 nl nl) ∧ zl h7 = zl (znew h 105 nl nl) ∧ zi h7 = zi (znew h 105 nl nl) ∧ zn h7 = zn h + 1 ∧ zs h7 = zs h + nl := by rw [← eh7]; exact ⟨rfl, rfl, rfl, rfl, rfl⟩
    have p7 : ∀ u, zp h7 u = if u = zn h then va_cpy (zp (znew h 105 nl nl) e) (zp (znew h 105 nl nl) (zn h)) 0 0 cap else zp (znew h 105 nl nl) u := by rw [← eh7]; exact fun u => zrow_p
    clear eh7
    obtain ⟨k1, k2, k3, k4, k5⟩ := k7
    have kv : zk h7 v = 1 := by rw [k1, zk_nw (by omega)]; exact a3
    show zS (((zgP h7 (some v) 0 1 (some (zn h))).bind _).bind _) _
    rw [zgP_v (ci := 0) (by omega) kv]
    have e7 : zExt (fun u => n0 ≤ u) h h7 := by
      refine ⟨⟨by omega, by omega⟩, fun u hu => ⟨by rw [k1, zk_nw (by omega)], by rw [k2, zl_nw (by omega)], fun _ => ⟨by rw [k3, zi_nw (by omega)], ?_⟩⟩⟩
      rw [p7, if_neg (by omega), zp_nw (by omega)]
    have ex : zExt (fun u => n0 ≤ u) h (zsetP h7 v 1 (some (zn h))) := e7.tr (zExt.sP (Or.inl a1))
    refine zS.s ⟨nl, rfl, ⟨⟨a1, by show v < zn h7; omega, kv, ?_, by omega, by omega⟩, fun u hu => ⟨by show u < zn h7; have := (b u hu).1; omega, (ex.2 u (b u hu).1).1.trans (b u hu).2⟩, ⟨by show c1 < zn h7; omega, (ex.2 c1 c1').1.trans c2'⟩, Or.inr ⟨by omega, zn h, by rw [zp_sP, u2_s], hn, by show zn h < zn h7; omega, by show zk h7 (zn h) = 105; rw [k1]; exact znew_k h 105 nl nl, by show zl h7 (zn h) = nl; rw [k2]; exact if_pos rfl, fun i hi => ?_⟩⟩, by rw [zp_sP, u2_s], ⟨ex, fun u hu q1 q2 => ?_⟩, k4, k5, by omega, by omega, by omega⟩
    · show zi h7 v 2 = _
      rw [k3, zi_nw (by omega)]; exact a4
    · rw [zp_sP, u2_a (by omega), p7, if_pos rfl]
      show (if 0 ≤ i ∧ i < 0 + cap then zp (znew h 105 nl nl) e (0 + (i - 0)) else _) = _
      rw [if_pos ⟨Nat.zero_le _, by omega⟩, zp_nw (by omega), Nat.zero_add, Nat.sub_zero]
      exact d7 i hi
    · have : u ≠ v := by rintro rfl; exact q1 a3
      refine ⟨by rw [zi_sP, k3, zi_nw (by omega)], ?_⟩
      rw [zp_sP]
      funext j
      rw [u2_a this, p7, if_neg (by omega), zp_nw (by omega)]
theorem ins_get {l : List Nat} {at' u i : Nat} (ha : at' ≤ l.length) : (l.take at' ++ u :: l.drop at').getD i 0 = if i < at' then l.getD i 0 else if i = at' then u else l.getD (i - 1) 0 := by
  rw [List.getD_eq_getElem?_getD]
  have hl : (l.take at').length = at' := by rw [List.length_take]; omega
  by_cases c : i < at'
  · rw [if_pos c, List.getElem?_append_left (by omega), List.getElem?_take, if_pos c, ← List.getD_eq_getElem?_getD]
  · rw [if_neg c, List.getElem?_append_right (by omega), hl]
    by_cases d : i = at'
    · rw [if_pos d, show i - at' = 0 by omega]
      rfl
    · rw [if_neg d, show i - at' = (i - 1 - at') + 1 by omega]
      show ((l.drop at')[i - 1 - at']?).getD 0 = _
      rw [List.getElem?_drop, ← List.getD_eq_getElem?_getD, show at' + (i - 1 - at') = i - 1 by omega]
theorem al_add {c1 c2 n0 : Nat} {h : Zh} {v : Nat} {l : List Nat} {cap at' u : Nat} (A : al c1 n0 h v l cap) (hn : n0 ≤ zn h) (h59 : l.length ≤ 59) (ha : at' ≤ l.length) (hu : u < zn h) (ku : zk h u = 4) : zS (fJx4a65c_add_7a177 (c1, c2) h (some v) (nI at') (some u)) (fun h' => ∃ cap', al c1 n0 h' v (l.take at' ++ u :: l.drop at') cap' ∧ (zExt (fun u => n0 ≤ u) h h' ∧ kF h h') ∧ (zn h' + cap ≤ zn h + cap' ∧ 5 * zn h' + cap ≤ 5 * zn h + cap') ∧ zs h' + 4 * cap ≤ zs h + 4 * cap') := by
  have A0 := A
  obtain ⟨⟨a1, a2, a3, a4, a5, a6⟩, b, ⟨c1', c2'⟩, d⟩ := A
  unfold fJx4a65c_add_7a177
  rw [zob_v a2 a3, Option.bind_some]
  have rc : fJx4a65c_rangeCheckForAdd_d00df h (some v) (nI at') = some h := by
    unfold fJx4a65c_rangeCheckForAdd_d00df
    rw [zfI_v (ci := 0) a2 a3, a4, Option.bind_some, if_neg (nI_nlt ha (by omega)), if_pos (nI_pos' (by omega))]
  rw [rc, Option.bind_some, zfI_v (ci := 0) a2 a3, Option.bind_some, zgI_v (ci := 0) a2 a3, Option.bind_some]
  generalize eh4 : zsetI h v 0 (zi h v 0 + (1 : Int32)) = h4
  have k4 : zk h4 = zk h ∧ zl h4 = zl h ∧ zp h4 = zp h ∧ zn h4 = zn h ∧ zs h4 = zs h := by rw [← eh4]; exact ⟨rfl, rfl, rfl, rfl, rfl⟩
  have i4 : ∀ w k, ¬ (w = v ∧ k = 0) → zi h4 w k = zi h w k := by rw [← eh4]; exact fun w k hn => by rw [zi_sI, u2_n hn]
  have ex4 : zExt (fun u => n0 ≤ u) h h4 := by rw [← eh4]; exact zExt.sI (Or.inl a1)
  clear eh4
  obtain ⟨k1, k2, k3, k5, k6⟩ := k4
  have A4 : al c1 n0 h4 v l cap := by
    refine ⟨⟨a1, by omega, by rw [k1]; exact a3, by rw [i4 v 2 (by omega)]; exact a4, a5, a6⟩, fun w hw => ⟨by have := (b w hw).1; omega, by rw [k1]; exact (b w hw).2⟩, ⟨by omega, by rw [k1]; exact c2'⟩, ?_⟩
    rw [k1, k2, k3, k5]
    exact d
  have kF4 : kF h h4 := fun w hw q1 q2 => by
    have : w ≠ v := by rintro rfl; exact q1 a3
    exact ⟨by funext k; exact i4 w k (fun z => this z.1), by rw [k3]⟩
  rw [zfI_v (ci := 0) (by omega) (by rw [k1]; exact a3), i4 v 2 (by omega), a4, Option.bind_some, zfP_v (ci := 0) (by omega) (by rw [k1]; exact a3), k3, Option.bind_some]
  have ea : ∃ e, zp h v 1 = some e ∧ zaO h4 (some e) = some (nI cap) := by
    rcases d with ⟨d1, d2⟩ | ⟨d1, e, d2, d3, d4, d5, d6, d7⟩
    · refine ⟨c1, d2, ?_⟩
      unfold zaO
      rw [Option.bind_some, if_pos ⟨by omega, by rw [k1]; exact c2'⟩, d1]; rfl
    · refine ⟨e, d2, ?_⟩
      unfold zaO
      rw [Option.bind_some, if_neg (fun z => by have := z.2; rw [k1] at this; omega), zaL_v (t := 5) (by omega) (by rw [k1]; exact d5), k2, d6]
  obtain ⟨e0, ee, ec⟩ := ea
  rw [ee, ec, Option.bind_some]
  refine zS.b (R1 := fun r => ∃ e cap', r.1 = some e ∧ al c1 n0 r.2 v l cap' ∧ zp r.2 v 1 = some e ∧ (zExt (fun u => n0 ≤ u) h r.2 ∧ kF h r.2) ∧ (zn r.2 + cap ≤ zn h + cap' ∧ 5 * zn r.2 + cap ≤ 5 * zn h + cap') ∧ zs r.2 + 4 * cap ≤ zs h + 4 * cap' ∧ l.length + 1 ≤ cap' ∧ 10 ≤ cap') ?_ (fun ⟨r1, h9⟩ ⟨e, cap', q1, q2, q3, ⟨q4, q4'⟩, q5, q6, q7, q8⟩ => ?_)
  · by_cases z : l.length = cap
    · rw [if_pos (show nI l.length = nI cap by rw [z]), zob_v (by omega) (by rw [k1]; exact a3), Option.bind_some]
      refine zS.b (agrow_eq (c2 := c2) A4 (by omega) h59 z) (fun ⟨r1, h9⟩ ⟨cap', q1, q2, q3, ⟨q4, q4'⟩, q5, q6, q7, q8, q9⟩ => zS.s ?_)
      dsimp only at q1 q2 q3 q4 q4' q5 q6
      refine ⟨zn h4, cap', q1, q2, q3, ⟨ex4.tr q4, kF.tr ex4 kF4 q4'⟩, ⟨by show zn h9 + cap ≤ _; omega, by show 5 * zn h9 + cap ≤ _; omega⟩, by show zs h9 + 4 * cap ≤ _; omega, q8, ?_⟩
      rcases q2.2.2.2 with ⟨x, -⟩ | ⟨x, -⟩ <;> omega
    · rw [if_neg (fun y => z ((nI_eq (by omega) (by omega)).mp y))]
      refine zS.s ⟨e0, cap, rfl, A4, by rw [k3]; exact ee, ⟨ex4, kF4⟩, ⟨by show zn h4 + cap ≤ _; omega, by show 5 * zn h4 + cap ≤ _; omega⟩, by show zs h4 + 4 * cap ≤ _; omega, by omega, ?_⟩
      rcases d with ⟨x, -⟩ | ⟨x, -⟩ <;> omega
  · dsimp only at q1 q2 q3 q4 q4' q5 q6
    subst q1
    dsimp only
    obtain ⟨⟨w1, w2, w3, w4, w5, w6⟩, wb, ⟨wc1, wc2⟩, wd⟩ := q2
    have we : n0 ≤ e ∧ e < zn h9 ∧ zk h9 e = 105 ∧ zl h9 e = cap' ∧ ∀ i, i < l.length → zp h9 e i = some (l.getD i 0) := by
      rcases wd with ⟨x, -⟩ | ⟨x, e', x2, x3, x4, x5, x6, x7⟩
      · omega
      · rw [q3] at x2
        injection x2 with x2
        subst x2
        exact ⟨x3, x4, x5, x6, x7⟩
    obtain ⟨x3, x4, x5, x6, x7⟩ := we
    have ve : e ≠ v := by rintro rfl; omega
    have hu9 : u < zn h9 ∧ zk h9 u = 4 := ⟨Nat.lt_of_lt_of_le hu q4.1.1, (q4.2 u hu).1.trans ku⟩
    have ecp : zcp h9 (some e) (nI at') (some e) (nI at' + (1 : Int32)) (nI l.length - nI at') = some (zrow h9 e (va_cpy (zp h9 e) (zp h9 e) at' (at' + 1) (l.length - at'))) := by
      unfold zcp
      rw [zob_v x4 x5, Option.bind_some, Option.bind_some, nI_1, pk_sub ha, nI_clamp (by omega), nI_clamp (by omega), nI_clamp (by omega), x6, if_neg (by
        rintro ((q | q | q) | q | q | q | q)
        · exact nI_pos (by omega) q
        · exact nI_pos (by omega) q
        · exact nI_pos (by omega) q
        · omega
        · omega
        · omega
        · omega), if_pos]
      rw [List.all_eq_true]
      intro i hi
      have hi' := List.mem_range.mp hi
      rw [x7 _ (by omega)]
      obtain ⟨b1, b2⟩ := wb _ (getD_mem l (at' + i) (by omega))
      exact zokP_v b1 b2
    refine zS.e ecp ?_
    generalize eh14 : zrow h9 e (va_cpy (zp h9 e) (zp h9 e) at' (at' + 1) (l.length - at')) = h14
    have k7 : zk h14 = zk h9 ∧ zl h14 = zl h9 ∧ zi h14 = zi h9 ∧ zn h14 = zn h9 ∧ zs h14 = zs h9 := by rw [← eh14]; exact ⟨rfl, rfl, rfl, rfl, rfl⟩
    have p7 : ∀ u, zp h14 u = if u = e then va_cpy (zp h9 e) (zp h9 e) at' (at' + 1) (l.length - at') else zp h9 u := by rw [← eh14]; exact fun u => zrow_p
    clear eh14
    obtain ⟨g1, g2, g3, g4, g5⟩ := k7
    refine zS.e (zbP_v (t := 5) (n := cap') (ci := 3) (by omega) (by rw [g1]; exact x5) (by rw [g2]; exact x6) (by omega) (by omega) (by omega) (by rw [g1]; exact hu9.2)) ?_
    refine zS.e (zgI_v (ci := 0) (by show v < zn h14; omega) (by show zk h14 v = 1; rw [g1]; exact w3)) ?_
    have e14 : zExt (fun u => n0 ≤ u) h9 h14 := by
      refine ⟨⟨by omega, by omega⟩, fun w hw => ⟨by rw [g1], by rw [g2], fun hne => ⟨by rw [g3], ?_⟩⟩⟩
      rw [p7, if_neg (by omega)]
    have ef : zExt (fun u => n0 ≤ u) h9 (zsetI (zsetP h14 e at' (some u)) v 2 (nI l.length + (1 : Int32))) := (e14.tr (zExt.sP (Or.inl x3))).tr (zExt.sI (Or.inl w1))
    have ll : (l.take at' ++ u :: l.drop at').length = l.length + 1 := by
      rw [List.length_append, List.length_take, List.length_cons, List.length_drop]
      omega
    refine zS.s ⟨cap', ⟨⟨w1, by show v < zn h14; omega, by show zk h14 v = 1; rw [g1]; exact w3, ?_, by omega, w6⟩, fun w hw => ?_, ⟨by show c1 < zn h14; omega, by show zk h14 c1 = 106; rw [g1]; exact wc2⟩, Or.inr ⟨q8, e, ?_, x3, by show e < zn h14; omega, by show zk h14 e = 105; rw [g1]; exact x5, by show zl h14 e = cap'; rw [g2]; exact x6, fun i hi => ?_⟩⟩, ⟨q4.tr ef, kF.tr q4 q4' (fun w hw y1 y2 => ?_)⟩, ⟨?_, ?_⟩, ?_⟩
    · rw [zi_sI, u2_s, ll, nI_1]
    · have : w = u ∨ w ∈ l := by
        rcases List.mem_append.mp hw with hw | hw
        · exact Or.inr (List.mem_of_mem_take hw)
        · rcases List.mem_cons.mp hw with hw | hw
          · exact Or.inl hw
          · exact Or.inr (List.mem_of_mem_drop hw)
      rcases this with rfl | this
      · exact ⟨by show w < zn h14; omega, by show zk h14 w = 4; rw [g1]; exact hu9.2⟩
      · exact ⟨by show w < zn h14; have := (wb w this).1; omega, by show zk h14 w = 4; rw [g1]; exact (wb w this).2⟩
    · rw [zp_sI, zp_sP, u2_a (by omega), p7, if_neg (by omega)]
      exact q3
    · rw [ll] at hi
      rw [zp_sI, zp_sP, ins_get ha]
      by_cases y : i = at'
      · subst y
        rw [u2_s, if_neg (by omega), if_pos rfl]
      · rw [u2_n (by omega), p7, if_pos rfl]
        show (if at' + 1 ≤ i ∧ i < at' + 1 + (l.length - at') then zp h9 e (at' + (i - (at' + 1))) else zp h9 e i) = _
        by_cases y2 : i < at'
        · rw [if_neg (by omega), if_pos y2]
          exact x7 i (by omega)
        · rw [if_pos (by omega), if_neg y2, if_neg y, show at' + (i - (at' + 1)) = i - 1 by omega]
          exact x7 (i - 1) (by omega)
    · have nv : w ≠ v := by rintro rfl; exact y1 w3
      have ne : w ≠ e := by rintro rfl; exact y2 x5
      refine ⟨?_, ?_⟩
      · rw [zi_sI]
        funext k
        rw [u2_a nv, zi_sP, g3]
      · rw [zp_sI, zp_sP]
        funext k
        rw [u2_a ne, p7, if_neg ne]
    · show zn h14 + cap ≤ _
      omega
    · show 5 * zn h14 + cap ≤ _
      omega
    · show zs h14 + 4 * cap ≤ _
      omega
