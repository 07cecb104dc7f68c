/-! the heap of the walk: kinds, lengths, numbers, references, how many cells, how many slots were made; a place v is the cell at base + v -/
abbrev Zh : Type := (Nat → Nat) × (Nat → Nat) × (Nat → Nat → Int32) × (Nat → Nat → Option Nat) × Nat × Nat
def zk (h : Zh) : Nat → Nat := h.1
def zl (h : Zh) : Nat → Nat := h.2.1
def zi (h : Zh) : Nat → Nat → Int32 := h.2.2.1
def zp (h : Zh) : Nat → Nat → Option Nat := h.2.2.2.1
def zn (h : Zh) : Nat := h.2.2.2.2.1
def zs (h : Zh) : Nat := h.2.2.2.2.2
def zrv (b : Nat) (r : Option Nat) : Value := va_rf (r.map (fun v => b + v))
def u1 {α : Type} (f : Nat → α) (a : Nat) (v : α) : Nat → α := fun x => if x = a then v else f x
def u2 {α : Type} (f : Nat → Nat → α) (a k : Nat) (v : α) : Nat → Nat → α := fun x j => if x = a ∧ j = k then v else f x j
def zsetI (h : Zh) (a k : Nat) (x : Int32) : Zh := (h.1, h.2.1, u2 h.2.2.1 a k x, h.2.2.2)
def zsetP (h : Zh) (a k : Nat) (r : Option Nat) : Zh := (h.1, h.2.1, h.2.2.1, u2 h.2.2.2.1 a k r, h.2.2.2.2)
def znew (h : Zh) (kind len slots : Nat) : Zh := (u1 h.1 (zn h) kind, u1 h.2.1 (zn h) len, (fun a j => if a = zn h then 0 else zi h a j), (fun a j => if a = zn h then none else zp h a j), zn h + 1, zs h + slots)
def zfs (b : Nat) (h : Zh) (v ci : Nat) : List Value := (List.range (zf ci).length).map fun k => if (zf ci).getD k false = true then zrv b (zp h v k) else .int (zi h v k)
def zcell (b : Nat) (cA : Nat → ClassId) (h : Zh) (v : Nat) : va_E :=
  if zk h v < 100 then .inr (zk h v - 1, zfs b h v (zk h v - 1))
  else if zk h v < 102 then .inl (cA (zk h v - 100), zl h v, .inl (zi h v))
  else .inl (cA (zk h v - 100), zl h v, .inr (.inr (.inr (.inr (fun j => (zp h v j).map (fun x => b + x))))))
def ztys (cA : Nat → ClassId) : List (ClassId × FieldType) := [(cA 0, .int), (cA 1, .int), (cA 2, .object "TrailFinder$Case"), (cA 3, .object "TrailFinder$Piece"), (cA 4, .object "TrailFinder$Share"), (cA 5, .object "java/lang/Object")]
/-- the walk's fixed things: the launch, the offset of places, the class numbers, the arrays' classes, the first cell that may change, the place of ArrayList's empty array, of the mirror of Object[] -/
abbrev Zg : Type := (Launch × Nat × Nat × (Nat → Int32)) × Nat × va_G × (Nat → ClassId) × Nat × Nat × Nat
def zMM (G : Zg) (h : Zh) (H : Heap) : Prop := H.size = G.2.1 + zn h ∧ G.2.2.2.2.1 ≤ G.2.1 + zn h ∧ (∀ v, v < zn h → zk h v ≠ 0 → zk h v ≠ 106 → va_at G.2.2.1 vwCl (G.2.1 + v, zcell G.2.1 G.2.2.2.1 h v) H ∧ (G.2.2.2.2.1 ≤ G.2.1 + v ∨ (zk h v = 105 ∧ zl h v = 0))) ∧ ∀ v, v < zn h → zk h v = 106 → v = G.2.2.2.2.2.1
theorem zcell_congr {b : Nat} {cA : Nat → ClassId} {h h' : Zh} {u : Nat} (e1 : zk h' u = zk h u) (e2 : zl h' u = zl h u) (e3 : zi h' u = zi h u) (e4 : zp h' u = zp h u) : zcell b cA h' u = zcell b cA h u := by
  unfold zcell zfs
  rw [e1, e2, e3, e4]
theorem zMM.upd {G : Zg} {h h' : Zh} {H H1 : Heap} {v : Nat} (hM : zMM G h H) (hs : H1.size = H.size) (hn : zn h' = zn h) (hk : zk h' = zk h) (hl : zl h' = zl h) (ho : ∀ q : Nat, q ≠ G.2.1 + v → H1[q]? = H[q]?)
    (hc : ∀ u, u ≠ v → zcell G.2.1 G.2.2.2.1 h' u = zcell G.2.1 G.2.2.2.1 h u) (hv : va_at G.2.2.1 vwCl (G.2.1 + v, zcell G.2.1 G.2.2.2.1 h' v) H1) : zMM G h' H1 := by
  refine ⟨by rw [hs, hn]; exact hM.1, by rw [hn]; exact hM.2.1, fun u hu hku hk6 => ?_, fun u hu hku => hM.2.2.2 u (by rw [← hn]; exact hu) (by rw [← hk]; exact hku)⟩
  rw [hk] at hku hk6 ⊢
  rw [hl]
  rw [hn] at hu
  refine ⟨?_, (hM.2.2.1 u hu hku hk6).2⟩
  by_cases hq : u = v
  · subst hq; exact hv
  · rw [hc u hq]
    exact (hM.2.2.1 u hu hku hk6).1.kept (ho _ (by omega))
theorem zP1 {D : va_G} {cl : List vw_C} {q : Nat × va_E} {H : Heap} (h : va_at D cl q H) : va_P D cl [q] H := by
  intro k x hx
  match k, hx with
  | 0, hx => cases hx; exact h
  | k + 1, hx => simp at hx
theorem zP2 {D : va_G} {cl : List vw_C} {q r : Nat × va_E} {H : Heap} (h : va_at D cl q H) (h2 : va_at D cl r H) : va_P D cl [q, r] H := by
  intro k x hx
  match k, hx with
  | 0, hx => cases hx; exact h
  | 1, hx => cases hx; exact h2
  | k + 2, hx => simp at hx
theorem zcell_o {b : Nat} {cA : Nat → ClassId} {h : Zh} {v ci : Nat} (hk : zk h v = ci + 1) (hci : ci < 90) : zcell b cA h v = .inr (ci, zfs b h v ci) := by
  unfold zcell
  rw [if_pos (by omega), hk]
  rfl
theorem zcell_i {b : Nat} {cA : Nat → ClassId} {h : Zh} {v : Nat} (hk : zk h v = 100) : zcell b cA h v = .inl (cA 0, zl h v, .inl (zi h v)) := by
  unfold zcell
  rw [if_neg (by omega), if_pos (by omega), hk]
theorem zcell_z {b : Nat} {cA : Nat → ClassId} {h : Zh} {v : Nat} (hk : zk h v = 101) : zcell b cA h v = .inl (cA 1, zl h v, .inl (zi h v)) := by
  unfold zcell
  rw [if_neg (by omega), if_pos (by omega), hk]
theorem zcell_q {b : Nat} {cA : Nat → ClassId} {h : Zh} {v t : Nat} (ht : 2 ≤ t) (hk : zk h v = 100 + t) : zcell b cA h v = .inl (cA t, zl h v, .inr (.inr (.inr (.inr (fun j => (zp h v j).map (fun x => b + x)))))) := by
  unfold zcell
  rw [if_neg (by omega), if_neg (by omega), hk, Nat.add_sub_cancel_left]
theorem zfs_get {b : Nat} {h : Zh} {v ci k : Nat} (hk : k < (zf ci).length) : (zfs b h v ci)[k]? = some (if (zf ci).getD k false = true then zrv b (zp h v k) else .int (zi h v k)) := by
  unfold zfs
  rw [List.getElem?_map, List.getElem?_range hk]
  rfl
theorem zfs_len {b : Nat} {h : Zh} {v ci : Nat} : (zfs b h v ci).length = (zf ci).length := by simp [zfs]
theorem zfs_set {b : Nat} {h h' : Zh} {v ci k : Nat} {x : Value} (hk : k < (zf ci).length) (he : (if (zf ci).getD k false = true then zrv b (zp h' v k) else .int (zi h' v k)) = x)
    (ho : ∀ j, j ≠ k → zp h' v j = zp h v j ∧ zi h' v j = zi h v j) : (zfs b h v ci).set k x = zfs b h' v ci := by
  apply List.ext_getElem?
  intro j
  by_cases hj : j < (zf ci).length
  · rw [zfs_get hj]
    by_cases hjk : j = k
    · subst hjk
      rw [List.getElem?_set_self (by rw [zfs_len]; exact hk), he]
    · rw [List.getElem?_set_ne (Ne.symm hjk), zfs_get hj, (ho j hjk).1, (ho j hjk).2]
  · rw [List.getElem?_eq_none (by rw [List.length_set, zfs_len]; omega), List.getElem?_eq_none (by rw [zfs_len]; omega)]
/-! the judgement of a walk -/
def zT : List Cond := lw_tbl.filter goodWord
theorem zmem (i : Nat) {w : Cond} (h : lw_tbl[i]? = some w ∧ goodWord w = true) : w ∈ zT := List.mem_filter.mpr ⟨List.mem_of_getElem? h.1, h.2⟩
theorem zgood {c : Cond} {ws : List Cond} (h : ∀ w ∈ ws, w ∈ zT) : GoodIn (c :: zT) ws := fun w hw => ⟨List.mem_cons_of_mem _ (h w hw), good_of_word (List.mem_filter.mp (h w hw)).2⟩
/-- the words that hold of a state, and go on as it goes on -/
def zNk : Cond → Bool
  | .fieldLinkNest .. => true
  | .methodLinkNest .. => true
  | .castable .. => true
  | .declares _ => true
  | _ => false
def zTN : List Cond := lw_tbl.filter zNk
theorem znem (i : Nat) {w : Cond} (h : lw_tbl[i]? = some w ∧ zNk w = true) : w ∈ zTN := List.mem_filter.mpr ⟨List.mem_of_getElem? h.1, h.2⟩
def zNW (U : State) : Prop := (∀ w ∈ zTN, va_Nw w U) ∧ va_AO "TrailFinder$Case" U ∧ va_AO "TrailFinder$Piece" U ∧ va_AO "TrailFinder$Share" U ∧ va_AO "java/lang/Object" U
theorem zNW.warm {s U : State} (hW : s.WarmedH U.vm) (h : zNW s) : zNW U := by
  refine ⟨fun w hw => ?_, h.2.1.moved hW.alike, h.2.2.1.moved hW.alike, h.2.2.2.1.moved hW.alike, h.2.2.2.2.moved hW.alike⟩
  have h1 := h.1 w hw
  have h2 := (List.mem_filter.mp hw).2
  cases w <;> first | exact Bool.noConfusion (show false = true from h2) | exact va_Nw.warmF hW h1 | exact va_Nw.warmM hW h1 | exact va_Nw.warmC hW h1 | exact va_Nw.warmD hW h1
theorem zNW.same {u U : State} (hv : u.vm = U.vm) (h : zNW u) : zNW U := by
  have hA : u.vm.Alike U.vm := by rw [hv]; exact Vm.Alike.refl _
  refine ⟨fun w hw => ?_, h.2.1.moved hA, h.2.2.1.moved hA, h.2.2.2.1.moved hA, h.2.2.2.2.moved hA⟩
  have h1 := h.1 w hw
  have h2 := (List.mem_filter.mp hw).2
  cases w <;> first | exact Bool.noConfusion (show false = true from h2) | exact va_Nw.same rfl hv h1
theorem znu {s : State} {w : Cond} {A : Array Value} (h : zNW s) (hw : w ∈ zTN) : w.before A s = true := by
  have h1 := h.1 w hw
  have h2 := (List.mem_filter.mp hw).2
  cases w <;> first | exact Bool.noConfusion (show false = true from h2) | exact va_Nw.use rfl h1
def zKK (G : Zg) (U : State) (H : Heap) : Prop := va_K G.2.2.1 vwCl (ztys G.2.2.2.1) U ∧ zNW U ∧ va_Mi "[Ljava/lang/Object;" (G.2.1 + G.2.2.2.2.2.2) U ∧ va_Z "java/util/ArrayList" "DEFAULTCAPACITY_EMPTY_ELEMENTDATA" "[Ljava/lang/Object;" (.ref (G.2.1 + G.2.2.2.2.2.1)) (fun q => G.2.2.2.2.1 ≤ q) U H ∧ va_X (G.2.1 + G.1.2.1) G.1.2.2.1 G.1.2.2.2 U H ∧ G.2.1 + G.1.2.1 < G.2.2.2.2.1 ∧ G.2.1 + G.1.2.1 < H.size ∧ va_T (.object "java/lang/Object") (G.2.1 + G.2.2.2.2.2.1) 0 (fun _ => .null) (fun q => G.2.2.2.2.1 ≤ q) U H ∧ G.2.1 + G.2.2.2.2.2.1 < H.size
theorem zKK.moved {G : Zg} {s U : State} {H : Heap} (hW : s.WarmedH U.vm) (h : zKK G s H) : zKK G U H := ⟨va_K.moved hW.alike h.1, h.2.1.warm hW, h.2.2.1.moved hW.alike, h.2.2.2.1.moved hW.alike, h.2.2.2.2.1.moved hW.alike, h.2.2.2.2.2.1, h.2.2.2.2.2.2.1, h.2.2.2.2.2.2.2.1.moved hW.alike, h.2.2.2.2.2.2.2.2⟩
theorem zKK.same {G : Zg} {u U : State} {H : Heap} (hv : u.vm = U.vm) (h : zKK G u H) : zKK G U H := by
  have hA : u.vm.Alike U.vm := by rw [hv]; exact Vm.Alike.refl _
  exact ⟨va_K.moved hA h.1, h.2.1.same hv, h.2.2.1.moved hA, h.2.2.2.1.moved hA, h.2.2.2.2.1.moved hA, h.2.2.2.2.2.1, h.2.2.2.2.2.2.1, h.2.2.2.2.2.2.2.1.moved hA, h.2.2.2.2.2.2.2.2⟩
theorem zKK.on {G : Zg} {s : State} {H : Heap} {locs : List Loc} (hS : va_S (fun q => G.2.2.2.2.1 ≤ q) s.heap H locs) (h : zKK G s s.heap) : zKK G s H := ⟨h.1, h.2.1, h.2.2.1, h.2.2.2.1.kept (fun a h1 h2 => hS.2.1 a h1 h2), h.2.2.2.2.1.kept (hS.2.1 _ h.2.2.2.2.2.2.1 (Nat.not_le.mpr h.2.2.2.2.2.1)), h.2.2.2.2.2.1, Nat.lt_of_lt_of_le h.2.2.2.2.2.2.1 hS.1, h.2.2.2.2.2.2.2.1.kept (fun a h1 h2 => hS.2.1 a h1 h2), Nat.lt_of_lt_of_le h.2.2.2.2.2.2.2.2 hS.1⟩
/-- what a walk knows of the machine -/
def zC (G : Zg) (y : MethodName) (cc : ByteArray) (nL dd : Nat) (hf : Zh) (p : Program) (l : Launch) (R : Room) (s : State) (m : MethodId) (args : Array Value) (meth : Method) (c : Code) (n0 s0 : Nat) : Prop :=
  p.tables.exec = Jvm.exec ∧ c.code = cc ∧ c.maxLocals = nL ∧ s.vm.findClass y.cls = some m.cls ∧ (∀ w ∈ zT, w.before args s = true) ∧ zKK G s s.heap ∧
      (zn hf - n0 ≤ R.cells ∧ zs hf - s0 ≤ R.slots) ∧ (dd ≤ R.frames ∧ 64 * dd ≤ R.locals) ∧ (y.name = "<init>" → meth.name = "<init>") ∧ l = G.1.1 ∧ s.heap.size = G.2.1 + n0
/-- an end: an instruction that returns, and what it gives -/
def zEnd (cc : ByteArray) (pc : Nat) (ret : Option FieldType) (rv : Option Value) (st : List Value) : Prop :=
  (ret = none ∧ rv = none ∧ st = [] ∧ decode cc pc = .ok (.return_, 1)) ∨ (∃ (ty : FieldType) (x : Int32), ret = some ty ∧ narrow ty (.int x) = .int x ∧ rv = some (.int x) ∧ st = [.int x] ∧ decode cc pc = .ok (.ireturn, 1)) ∨
  (∃ (ty : FieldType) (b : Nat) (r : Option Nat), ret = some ty ∧ ((∃ n, ty = .object n) ∨ ∃ t, ty = .array t) ∧ rv = some (zrv b r) ∧ st = [zrv b r] ∧ decode cc pc = .ok (.areturn, 1))
def zJ (G : Zg) (y : MethodName) (cc : ByteArray) (nL dd : Nat) (ret : Option FieldType) (rv : Option Value) (hf : Zh) (pc : Nat) (lv : List (Nat × Value)) (st : List Value) (h : Zh) : Prop :=
  (zn h ≤ zn hf ∧ zs h ≤ zs hf) ∧ ∀ (p : Program) (l : Launch) (e : Env) (R : Room) (s : State) (m : MethodId) (args : Array Value) (below : List Frame) (meth : Method) (c : Code) (n0 s0 : Nat) (Q : State → Prop),
    zC G y cc nL dd hf p l R s m args meth c n0 s0 →
    (∀ (pc : Nat) (ls : Array Slot) (H : Heap) (locs : List Loc) (st : List Value), zEnd cc pc ret rv st → zMM G hf H → va_S (fun q => G.2.2.2.2.1 ≤ q) s.heap H locs → W p l e R s m args below meth c H locs (zn hf - n0) (zs hf - s0) Q (F0 m pc ls st)) →
    n0 ≤ zn h → s0 ≤ zs h → ∀ (ls : Array Slot) (H : Heap) (locs : List Loc), lv_has ls nL lv → zMM G h H → va_S (fun q => G.2.2.2.2.1 ≤ q) s.heap H locs →
      W p l e R s m args below meth c H locs (zn h - n0) (zs h - s0) Q (F0 m pc ls st)
def zTT (G : Zg) (y : MethodName) (cc : ByteArray) (nL dd : Nat) (ret : Option FieldType) {α : Type} (rvf : α → Option Value) (hff : α → Zh) (e : Option α) (pc : Nat) (lv : List (Nat × Value)) (st : List Value) (h : Zh) : Prop :=
  ∀ a0 : α, e = some a0 → zJ G y cc nL dd ret (rvf a0) (hff a0) pc lv st h
def zQ (G : Zg) (rv : Option Value) (hf : Zh) : Array Value → State → Outcome → State → Prop := fun _ st oc t => oc = .returned rv ∧ zMM G hf t.heap ∧ va_F (fun q => G.2.2.2.2.1 ≤ q) st t
def zCt (G : Zg) (y : MethodName) (cc : ByteArray) (maxL : Nat) (ret : Option FieldType) (d : Nat) (av : List Value) (h : Zh) (rv : Option Value) (h' : Zh) : Prop :=
  (zn h ≤ zn h' ∧ zs h ≤ zs h') ∧ Met G.1.1 y (.code y cc maxL ret :: zT) { frames := d, cells := zn h' - zn h, slots := zs h' - zs h, locals := 64 * d } (va_Pc av (fun U => zMM G h U.heap ∧ zKK G U U.heap)) (zQ G rv h') (zn h' - zn h) (zs h' - zs h) (fun q => G.2.2.2.2.1 ≤ q)
section ZR
variable {G : Zg} {y : MethodName} {cc : ByteArray} {nL dd : Nat} {ret : Option FieldType} {α : Type} {rvf : α → Option Value} {hff : α → Zh} {e : Option α} {pc : Nat} {lv : List (Nat × Value)} {st : List Value} {h : Zh}
set_option maxHeartbeats 1000000 in
/-- a method's contract out of its walk -/
theorem z_met {av : List Value} (hy : plainName y.cls = true) (hlv : (lg_sl av).length ≤ nL) (hargs : lv_args 0 av = lv) (body : zTT G y cc nL dd ret rvf hff e 0 lv [] h) {a : α} (ha : e = some a) : zCt G y cc nL ret dd av h (rvf a) (hff a) := by
  subst hargs
  obtain ⟨hm, hw⟩ := body a ha
  refine ⟨hm, ?_⟩
  refine Met.ofW (cc := cc) (maxL := nL) (ret := ret) hy rfl ?_
  intro p en s m args below meth c s₁ B hml hv
  obtain ⟨rfl, hM, hK⟩ := hv
  have hts := atoms_spec (ws := .code y cc nL ret :: zT) B.pre
  have hr := B.returns
  have hb := B.bytes
  have hx := B.exec
  have hlocks : meth.locks = false := B.notSynchronized
  have hin : meth.name = y.name := (name_of_methodNamed B.named B.method).1
  have hl := lv_entry av (n := nL) hlv
  rw [lg_entry_eq]
  have K := hw p G.1.1 en { frames := dd, cells := zn (hff a) - zn h, slots := zs (hff a) - zs h, locals := 64 * dd } s m av.toArray below meth c (zn h) (zs h) (MQ below (zQ G (rvf a) (hff a)) av.toArray s (zn (hff a) - zn h) (zs (hff a) - zs h) (fun q => G.2.2.2.2.1 ≤ q))
    ⟨hx, hb, hml, findClass_of_methodNamed B.named, fun w hw => hts w (List.mem_cons_of_mem _ hw), hK, ⟨Nat.le_refl _, Nat.le_refl _⟩, ⟨Nat.le_refl _, Nat.le_refl _⟩, fun h => hin.trans h, rfl, hM.1⟩ ?_ (Nat.le_refl _) (Nat.le_refl _) _ s.heap [] hl hM va_S.rf
  · rw [Nat.sub_self, Nat.sub_self] at K
    exact K
  · intro pc ls H locs st hE hM hS
    have hF : ∀ t : State, t.heap = H → va_F (fun q => G.2.2.2.2.1 ≤ q) s t := fun t ht => hS.F ht
    rcases hE with ⟨h1, h2, rfl, hd⟩ | ⟨ty, x, h1, hn, h2, rfl, hd⟩ | ⟨ty, b, r, h1, hrt, h2, rfl, hd⟩
    · exact W.vret hx hb (hr.trans h1) (fun t ht _ => ⟨by rw [h2], by rw [ht]; exact hM, hF t ht⟩) hS.2.2 hd hlocks
    · exact W.zret hx hb (hr.trans h1) hn (fun t ht _ => ⟨by rw [h2], by rw [ht]; exact hM, hF t ht⟩) hS.2.2 hd hlocks
    · exact W.aret hx hb (hr.trans h1) hrt (va_rf_or _) (fun t ht _ => ⟨by rw [h2]; rfl, by rw [ht]; exact hM, hF t ht⟩) hS.2.2 hd hlocks
/-- ends -/
theorem z_vret {a : α} (hd : decode cc pc = .ok (.return_, 1)) (h0 : ret = none) (h1 : rvf a = none) (h2 : hff a = h) : zTT G y cc nL dd ret rvf hff (some a) pc lv [] h := by
  intro a0 ha
  cases ha
  subst h2
  exact ⟨⟨Nat.le_refl _, Nat.le_refl _⟩, fun p l e R s m args below meth c n0 s0 Q hC hfin hn hs ls H locs _ hM hS => hfin pc ls H locs [] (Or.inl ⟨h0, h1, rfl, hd⟩) hM hS⟩
theorem z_iret {a : α} {x : Int32} {ty : FieldType} (hd : decode cc pc = .ok (.ireturn, 1)) (h0 : ret = some ty) (hn : narrow ty (.int x) = .int x) (h1 : rvf a = some (.int x)) (h2 : hff a = h) : zTT G y cc nL dd ret rvf hff (some a) pc lv [.int x] h := by
  intro a0 ha
  cases ha
  subst h2
  exact ⟨⟨Nat.le_refl _, Nat.le_refl _⟩, fun p l e R s m args below meth c n0 s0 Q hC hfin hn2 hs ls H locs _ hM hS => hfin pc ls H locs _ (Or.inr (Or.inl ⟨ty, x, h0, hn, h1, rfl, hd⟩)) hM hS⟩
theorem z_aret {a : α} {b : Nat} {r : Option Nat} {ty : FieldType} (hd : decode cc pc = .ok (.areturn, 1)) (h0 : ret = some ty) (hrt : (∃ n, ty = .object n) ∨ ∃ t, ty = .array t) (h1 : rvf a = some (zrv b r)) (h2 : hff a = h) : zTT G y cc nL dd ret rvf hff (some a) pc lv [zrv b r] h := by
  intro a0 ha
  cases ha
  subst h2
  exact ⟨⟨Nat.le_refl _, Nat.le_refl _⟩, fun p l e R s m args below meth c n0 s0 Q hC hfin hn2 hs ls H locs _ hM hS => hfin pc ls H locs _ (Or.inr (Or.inr ⟨ty, b, r, h0, hrt, h1, rfl, hd⟩)) hM hS⟩
/-- a step that leaves the heap -/
theorem z_lift {pc' : Nat} {lv' : List (Nat × Value)} {st' : List Value}
    (f : ∀ {p : Program} {l : Launch} {en : Env} {R : Room} {s : State} {m : MethodId} {args : Array Value} {below : List Frame} {meth : Method} {c : Code} {H : Heap} {locs : List Loc} {cells slots : Nat} {Q : State → Prop} {ls : Array Slot},
      p.tables.exec = Jvm.exec → c.code = cc → c.maxLocals = nL → s.vm.findClass y.cls = some m.cls → (∀ w ∈ zT, w.before args s = true) → (1 ≤ dd → 1 ≤ R.frames ∧ 64 ≤ R.locals) → (cells ≤ R.cells ∧ slots ≤ R.slots) → lv_has ls nL lv →
      (∀ ls' : Array Slot, lv_has ls' nL lv' → W p l en R s m args below meth c H locs cells slots Q (F0 m pc' ls' st')) → W p l en R s m args below meth c H locs cells slots Q (F0 m pc ls st))
    (kk : zTT G y cc nL dd ret rvf hff e pc' lv' st' h) : zTT G y cc nL dd ret rvf hff e pc lv st h := by
  intro a0 ha
  obtain ⟨hm, hw⟩ := kk a0 ha
  refine ⟨hm, fun p l en R s m args below meth c n0 s0 Q hC hfin hn hs ls H locs hl hM hS => ?_⟩
  have hC2 := hC
  obtain ⟨hx, hb, hml, ho, hts, -, hR, hd, -⟩ := hC2
  exact f hx hb hml ho hts (fun h1 => ⟨by omega, by omega⟩) ⟨by omega, by omega⟩ hl (fun ls' hl' => hw p l en R s m args below meth c n0 s0 Q hC hfin hn hs ls' H locs hl' hM hS)
/-- a branch -/
theorem z_lift2 {c1 : Prop} {pc1 pc2 : Nat} {st' : List Value} {e1 e2 : Option α} [Decidable c1]
    (f : ∀ {p : Program} {l : Launch} {en : Env} {R : Room} {s : State} {m : MethodId} {args : Array Value} {below : List Frame} {meth : Method} {c : Code} {H : Heap} {locs : List Loc} {cells slots : Nat} {Q : State → Prop} {ls : Array Slot},
      p.tables.exec = Jvm.exec → c.code = cc → 
      (c1 → W p l en R s m args below meth c H locs cells slots Q (F0 m pc1 ls st')) → (¬ c1 → W p l en R s m args below meth c H locs cells slots Q (F0 m pc2 ls st')) → W p l en R s m args below meth c H locs cells slots Q (F0 m pc ls st))
    (k1 : c1 → zTT G y cc nL dd ret rvf hff e1 pc1 lv st' h) (k2 : ¬ c1 → zTT G y cc nL dd ret rvf hff e2 pc2 lv st' h) : zTT G y cc nL dd ret rvf hff (if c1 then e1 else e2) pc lv st h := by
  intro a0 ha
  by_cases hc : c1
  · rw [if_pos hc] at ha
    obtain ⟨hm, hw⟩ := k1 hc a0 ha
    exact ⟨hm, fun p l en R s m args below meth c n0 s0 Q hC hfin hn hs ls H locs hl hM hS => f hC.1 hC.2.1 (fun _ => hw p l en R s m args below meth c n0 s0 Q hC hfin hn hs ls H locs hl hM hS) (fun q => absurd hc q)⟩
  · rw [if_neg hc] at ha
    obtain ⟨hm, hw⟩ := k2 hc a0 ha
    exact ⟨hm, fun p l en R s m args below meth c n0 s0 Q hC hfin hn hs ls H locs hl hM hS => f hC.1 hC.2.1 (fun q => absurd q hc) (fun _ => hw p l en R s m args below meth c n0 s0 Q hC hfin hn hs ls H locs hl hM hS)⟩
end ZR
