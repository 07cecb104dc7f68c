/-! THE CLAIM OUT OF ONE WALK OF THE LAW'S BODY. Your part is whole_start (and what it stands on); all else here is the same for every law, but numbers. -/
def R_law : String := "TrailFinderLaw"
def lw_P (b : Addr) (xs : List Int32) (args : Array Value) (s : State) : Prop := args = #[.ref b] ∧ s.IntsAt b xs ∧ xs.length ≤ 260 ∧ (Jvm.Cond.and given_1 narrow_1).before args s = true
def lw_Q (_ : Array Value) (s : State) (o : Outcome) (t : State) : Prop := o = .returned (some (.int 1)) ∧ Framed s o t [] 600000 7302250
def lw_Z (below : List Frame) (a : Array Value) (s : State) : State → Prop := fun t => ∃ o, t.status = .running ∧ Ended t below o ∧ lw_Q a s o t
/-- the law's own end, with 1 on the stack, nothing written that was there before, its room as the claim has it -/
theorem lw_ret {p : Program} {l : Launch} {e : Env} {s : State} {m : MethodId} {below : List Frame} {meth : Method} {c : Code} {b : Nat} (hx : p.tables.exec = Jvm.exec) (hb : c.code = code) (hr : meth.sig.returnType = ret) (hlocks : meth.locks = false) {pc : Nat} {H : Heap} {ls : Array Slot} (hdg : decode code pc = .ok (.ireturn, 1)) : W p l e room_1 s m #[Value.ref b] below meth c H [] 600000 7302250 (lw_Z below #[Value.ref b] s) (F0 m pc ls [.int 1]) := by
  intro T hT X
  obtain ⟨fs, hret, hrun, hended, hW, hframe⟩ := X.leave (v := some (.int 1)) (hlocks := hlocks) (fun h => by rw [hr] at h; cases h)
  have hmeth' : T.vm.method? m = some meth := X.method'
  refine ⟨T.setFrames fs, ?_, .returned (some (.int 1)), hrun, hended, rfl, ⟨_, rfl⟩, hW, hframe⟩
  jvm_step X.here [X.here.top, hx, hb, hdg, hmeth', hr, ret, narrow_b1]
  (try refine ⟨rfl, ?_⟩); (try refine ⟨rfl, ?_⟩)
  first | (intro acts; rw [hret _ acts rfl rfl rfl]) | rw [hret _ _ rfl rfl rfl]
  exact Steps.refl _
/-- what holds at the law's entry: the machine, the code, the tables' words (any of lw_tbl by 'hts w (by decide +kernel)'), the script of L ints xs at the cell b, what the Statement gives of the start (any of its parts by flat_of_before) -/
def lw_At (p : Program) (s : State) (m : MethodId) (meth : Method) (c : Code) (b L : Nat) (xs : Nat → Int32) : Prop :=
  p.tables.exec = Jvm.exec ∧ c.code = code ∧ meth.sig.returnType = ret ∧ c.maxLocals = 11 ∧ s.vm.findClass R_law = some m.cls ∧ (∀ w ∈ lw_tbl, w.before #[Value.ref b] s = true) ∧ va_X b L xs s s.heap ∧ b < s.heap.size ∧ meth.locks = false ∧ (Jvm.Cond.and given_1 narrow_1).before #[Value.ref b] s = true
/-! from the Statement's start to the law's walk -/
def zhS0 (n t0 : Nat) : Zh := ((fun v => if v = t0 then 106 else 0), (fun _ => 0), (fun _ _ => 0), (fun _ _ => none), n, 0)
theorem zTin {w : Cond} (h : w ∈ zT) : w ∈ lw_tbl := (List.mem_filter.mp h).1
set_option maxHeartbeats 2000000 in
theorem zst_cls {s : State} {args : Array Value} (hts : ∀ w ∈ lw_tbl, w.before args s = true) : ∃ (dC : Nat → ClassId) (dI : Nat → Nat → Nat), ∀ (k : Nat) (q : vw_C), vwCl[k]? = some q → u_Kn s q.1 q.2.1 q.2.2 (dC k) (dI k) := by
  have h : ∀ k : Nat, ∃ (cC : ClassId) (iS : Nat → Nat), ∀ q : vw_C, vwCl[k]? = some q → u_Kn s q.1 q.2.1 q.2.2 cC iS := by
    intro k
    match k with
    | 0 =>
      obtain ⟨c, iS, h⟩ := u_known (C := RJx4a65c) (T := TJx4a65c) (N := 3) (n := 3) hts (fun w hw => zTin (zkl0.2.1 w hw)) (hts _ (zTin zw436))
      exact ⟨c, iS, fun q hq => by cases hq; exact h⟩
    | 1 =>
      obtain ⟨c, iS, h⟩ := u_known (C := RX0) (T := TX0) (N := 3) (n := 3) hts (fun w hw => zTin (zkl1.2.1 w hw)) (hts _ (zTin zw184))
      exact ⟨c, iS, fun q hq => by cases hq; exact h⟩
    | 2 =>
      obtain ⟨c, iS, h⟩ := u_known (C := RX1) (T := TX1) (N := 7) (n := 7) hts (fun w hw => zTin (zkl2.2.1 w hw)) (hts _ (zTin zw72))
      exact ⟨c, iS, fun q hq => by cases hq; exact h⟩
    | 3 =>
      obtain ⟨c, iS, h⟩ := u_known (C := RX2) (T := TX2) (N := 7) (n := 7) hts (fun w hw => zTin (zkl3.2.1 w hw)) (hts _ (zTin zw366))
      exact ⟨c, iS, fun q hq => by cases hq; exact h⟩
    | 4 =>
      obtain ⟨c, iS, h⟩ := u_known (C := RX3) (T := TX3) (N := 11) (n := 11) hts (fun w hw => zTin (zkl4.2.1 w hw)) (hts _ (zTin zw104))
      exact ⟨c, iS, fun q hq => by cases hq; exact h⟩
    | 5 =>
      obtain ⟨c, iS, h⟩ := u_known (C := RX5) (T := TX5) (N := 8) (n := 8) hts (fun w hw => zTin (zkl5.2.1 w hw)) (hts _ (zTin zw60))
      exact ⟨c, iS, fun q hq => by cases hq; exact h⟩
    | 6 =>
      obtain ⟨c, iS, h⟩ := u_known (C := RX5) (T := TX5) (N := 8) (n := 8) hts (fun w hw => zTin (zkl6.2.1 w hw)) (hts _ (zTin zw60))
      exact ⟨c, iS, fun q hq => by cases hq; exact h⟩
    | k + 7 => exact ⟨0, fun _ => 0, fun q hq => by simp [vwCl] at hq⟩
  exact ⟨fun k => Classical.choose (h k), fun k => Classical.choose (Classical.choose_spec (h k)), fun k => Classical.choose_spec (Classical.choose_spec (h k))⟩
theorem zst_arr {s : State} {args : Array Value} (hts : ∀ w ∈ lw_tbl, w.before args s = true) : ∃ cA : Nat → ClassId, ∀ t, t < 6 → ArrOfT s (cA t) (zty t) ∧ va_RA s (cA t) (zty t) := by
  have h : ∀ t : Nat, ∃ c : ClassId, t < 6 → ArrOfT s c (zty t) ∧ va_RA s c (zty t) := by
    intro t
    match t with
    | 0 =>
      obtain ⟨cA, kA, comp, h1, h2, h3⟩ := Cond.arrayClass_spec (hts (.arrayClass .int) (zin1 (List.mem_of_getElem? (i := 58) (by decide +kernel))))
      exact ⟨cA, fun _ => ⟨fun n z => ⟨fun k h => (by cases h), kA, h2, comp, h3⟩, h1⟩⟩
    | 1 =>
      obtain ⟨cA, kA, comp, h1, h2, h3⟩ := Cond.arrayClass_spec (hts (.arrayClass .int) (zin1 (List.mem_of_getElem? (i := 58) (by decide +kernel))))
      exact ⟨cA, fun _ => ⟨fun n z => ⟨fun k h => (by cases h), kA, h2, comp, h3⟩, h1⟩⟩
    | 2 =>
      obtain ⟨comp, cA, kA, h1, -, h2, h3, h4⟩ := Cond.arrayOver_spec (hts (.arrayOver (.object "TrailFinder$Case")) (zin1 (List.mem_of_getElem? (i := 25) (by decide +kernel))))
      exact ⟨cA, fun _ => ⟨fun n z => ⟨fun k h => (by cases h), kA, h2, comp, h3⟩, kA, comp, h2, h3, h1, h4⟩⟩
    | 3 =>
      obtain ⟨comp, cA, kA, h1, -, h2, h3, h4⟩ := Cond.arrayOver_spec (hts (.arrayOver (.object "TrailFinder$Piece")) (zin1 (List.mem_of_getElem? (i := 27) (by decide +kernel))))
      exact ⟨cA, fun _ => ⟨fun n z => ⟨fun k h => (by cases h), kA, h2, comp, h3⟩, kA, comp, h2, h3, h1, h4⟩⟩
    | 4 =>
      obtain ⟨comp, cA, kA, h1, -, h2, h3, h4⟩ := Cond.arrayOver_spec (hts (.arrayOver (.object "TrailFinder$Share")) (zin1 (List.mem_of_getElem? (i := 60) (by decide +kernel))))
      exact ⟨cA, fun _ => ⟨fun n z => ⟨fun k h => (by cases h), kA, h2, comp, h3⟩, kA, comp, h2, h3, h1, h4⟩⟩
    | 5 =>
      obtain ⟨comp, cA, kA, h1, -, h2, h3, h4⟩ := Cond.arrayOver_spec (hts (.arrayOver (.object "java/lang/Object")) (zin3 (List.mem_of_getElem? (i := 12) (by decide +kernel))))
      exact ⟨cA, fun _ => ⟨fun n z => ⟨fun k h => (by cases h), kA, h2, comp, h3⟩, kA, comp, h2, h3, h1, h4⟩⟩
    | t + 6 => exact ⟨0, fun h => absurd h (by omega)⟩
  exact ⟨fun t => Classical.choose (h t), fun t => Classical.choose_spec (h t)⟩
theorem zst_NW {s : State} {args : Array Value} (hts : ∀ w ∈ lw_tbl, w.before args s = true) : zNW s := by
  refine ⟨fun w hw => ?_, va_AO.of (hts _ (zin1 (List.mem_of_getElem? (i := 25) (by decide +kernel)))), va_AO.of (hts _ (zin1 (List.mem_of_getElem? (i := 27) (by decide +kernel)))), va_AO.of (hts _ (zin1 (List.mem_of_getElem? (i := 60) (by decide +kernel)))), va_AO.of (hts _ (zin3 (List.mem_of_getElem? (i := 12) (by decide +kernel))))⟩
  have h1 := hts w (List.mem_filter.mp hw).1
  have h2 := (List.mem_filter.mp hw).2
  cases w <;> first | exact Bool.noConfusion (show false = true from h2) | exact va_Nw.of rfl h1
set_option maxHeartbeats 4000000 in
set_option maxRecDepth 100000 in
theorem whole_start {p : Program} {e : Env} {s : State} {m : MethodId} {below : List Frame} {meth : Method} {c : Code} (l : Launch) (hflags : l.flags = flags0) {b L : Nat} {xs : Nat → Int32} (hL : L ≤ 260) (C0 : lw_At p s m meth c b L xs) : W p l e room_1 s m #[Value.ref b] below meth c s.heap [] 0 0 (lw_Z below #[Value.ref b] s) (entryFrame m ([Value.ref b] : List Value).toArray 11) := by
  obtain ⟨hx, hb, hr, hml, hown, hts, hX, hbl, hlocks, hgv⟩ := id C0
  obtain ⟨dC, dI, hcls⟩ := zst_cls hts
  obtain ⟨cA, harr⟩ := zst_arr hts
  have hNW := zst_NW hts
  have hg := flat_of_before _ hgv
  have hA : ∀ a : Nat, a < s.heap.size → ¬ (fun q => s.heap.size ≤ q) a := fun a h => Nat.not_le.mpr h
  obtain ⟨mi, hMi⟩ := va_Mi.of (C := "[Ljava/lang/Object;") (hg _ (by decide +kernel))
  obtain ⟨t0, ht0, hT⟩ := va_Tof (tm := .static "java/util/ArrayList" "DEFAULTCAPACITY_EMPTY_ELEMENTDATA" "[Ljava/lang/Object;") (ty := .object "java/lang/Object") (N := 0) (f := fun _ => .null) (A := fun q => s.heap.size ≤ q) (by decide) (hg _ (by decide +kernel)) (va_eqt (z := 0) (hg _ (by decide +kernel))) (fun j hj => absurd hj (Nat.not_lt_zero j)) hA
  have ht0l : t0 < s.heap.size := by
    obtain ⟨cell, h1, -⟩ := id hT
    exact (Array.getElem?_eq_some_iff.mp h1).1
  have hZ := va_Zref (A := fun q => s.heap.size ≤ q) (hts (.laysStatic "java/util/ArrayList" "DEFAULTCAPACITY_EMPTY_ELEMENTDATA" "[Ljava/lang/Object;") (zin2 (List.mem_of_getElem? (i := 165) (by decide +kernel)))) (hts (.initialized "java/util/ArrayList") (zTin zw54)) ht0 hA
  let G : Zg := ((l, b, L, xs), 0, (dC, dI), cA, s.heap.size, t0, mi)
  obtain ⟨hf, hpure, hroom1, hroom2⟩ := zpure (t0, mi) (L, xs) s.heap.size t0 rfl ht0l hL
  have hMM : zMM G (zhS0 s.heap.size t0) s.heap := by
    refine ⟨(Nat.zero_add _).symm, by show s.heap.size ≤ 0 + s.heap.size; omega, fun v hv h1 h2 => ?_, fun v hv h1 => ?_⟩
    · exfalso
      by_cases hv0 : v = t0
      · exact h2 (by show (if v = t0 then 106 else 0) = 106; rw [if_pos hv0])
      · exact h1 (by show (if v = t0 then 106 else 0) = 0; rw [if_neg hv0])
    · by_cases hv0 : v = t0
      · exact hv0
      · have : (if v = t0 then 106 else 0) = 106 := h1
        rw [if_neg hv0] at this
        cases this
  have hKK : zKK G s s.heap := by
    refine ⟨⟨hcls, fun k q hq => ?_⟩, hNW, by show va_Mi _ (0 + mi) s; rw [Nat.zero_add]; exact hMi, by show va_Z _ _ _ (.ref (0 + t0)) _ s s.heap; rw [Nat.zero_add]; exact hZ, by show va_X (0 + b) L xs s s.heap; rw [Nat.zero_add]; exact hX, by show 0 + b < s.heap.size; omega, by show 0 + b < s.heap.size; omega, by show va_T _ (0 + t0) _ _ _ s s.heap; rw [Nat.zero_add]; exact hT, by show 0 + t0 < s.heap.size; omega⟩
    by_cases hk : k < 6
    · have e9 : (ztys cA)[k]? = some q := hq
      rw [ztys_get hk] at e9
      cases e9
      exact harr k hk
    · have e9 : (ztys cA)[k]? = some q := hq
      rw [List.getElem?_eq_none (show (ztys cA).length ≤ k by show 6 ≤ k; omega)] at e9
      cases e9
  obtain ⟨hm, hw⟩ := kL_law G (t0, mi) rfl (L, xs) rfl (zhS0 s.heap.size t0) (1, hf) hpure
  have hl := lv_entry ([Value.ref b]) (n := 11) (Nat.le_of_ble_eq_true rfl)
  rw [lg_entry_eq]
  generalize (lg_sl ([Value.ref b]) ++ List.replicate (11 - (lg_sl ([Value.ref b])).length) Slot.unset).toArray = ls at hl ⊢
  have hl2 : lv_has ls 11 [(0, zrv G.2.1 (some G.1.2.1))] := by
    have e9 : zrv 0 (some b) = Value.ref b := by show Value.ref (0 + b) = _; rw [Nat.zero_add]
    show lv_has ls 11 [(0, zrv 0 (some b))]
    rw [e9]
    exact hl
  have K := hw p l e room_1 s m #[Value.ref b] below meth c s.heap.size 0 (lw_Z below #[Value.ref b] s) ⟨hx, hb, hml, hown, fun w hw => hts w (zTin hw), hKK, ⟨hroom1, hroom2⟩, ⟨by decide, by decide⟩, fun h => absurd h (by decide), rfl, (Nat.zero_add _).symm⟩ ?_ (Nat.le_refl _) (Nat.le_refl _) ls s.heap [] hl2 hMM va_S.rf
  · have e1 : zn (zhS0 s.heap.size t0) - s.heap.size = 0 := Nat.sub_self _
    have e2 : zs (zhS0 s.heap.size t0) - 0 = 0 := rfl
    rw [e1, e2] at K
    exact K
  · intro pc ls H locs st hE hM hS
    rcases hE with ⟨h1, -⟩ | ⟨ty, x1, h1, hn, h2, rfl, hd⟩ | ⟨ty, b2, r, h1, hrt, h2, rfl, hd⟩
    · cases h1
    · cases h2
      exact va_forget (fun q hq => hS.2.2 q hq) (W.widen hroom1 hroom2 (lw_ret hx hb hr hlocks hd))
    · cases r <;> cases h2
