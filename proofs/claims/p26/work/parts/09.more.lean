/-! what ArrayList needs: statics, mirrors, copies, stores into Object[], casts -/
theorem zW_size {p : Program} {l : Launch} {e : Env} {R : Room} {s : State} {m : MethodId} {args : Array Value} {below : List Frame} {meth : Method} {c : Code} {H : Heap} {locs : List Loc} {cells slots : Nat} {Q : State → Prop} {g : JFrame}
    (k : H.size ≤ s.heap.size + cells → W p l e R s m args below meth c H locs cells slots Q g) : W p l e R s m args below meth c H locs cells slots Q g := by
  intro T hT X
  exact k (by have h := X.same.2.2.1; rw [← hT]; exact h) T hT X
def zws (G : Zg) (h : Zh) : va_W := ((List.range (zn h)).filter (fun v => decide ((zk h v ≠ 0 ∧ zk h v ≠ 106) ∧ G.2.2.2.2.1 ≤ G.2.1 + v))).map (fun v => (G.2.1 + v, zcell G.2.1 G.2.2.2.1 h v))
theorem zws_in {G : Zg} {h : Zh} {k : Nat} {q : Nat × va_E} (e : (zws G h)[k]? = some q) : ∃ v, v < zn h ∧ (zk h v ≠ 0 ∧ zk h v ≠ 106) ∧ G.2.2.2.2.1 ≤ G.2.1 + v ∧ q = (G.2.1 + v, zcell G.2.1 G.2.2.2.1 h v) := by
  obtain ⟨v, hv, rfl⟩ := List.mem_map.mp (List.mem_of_getElem? e)
  obtain ⟨h1, h2⟩ := List.mem_filter.mp hv
  have h3 := of_decide_eq_true h2
  exact ⟨v, List.mem_range.mp h1, h3.1, h3.2, rfl⟩
theorem zws_at {G : Zg} {h : Zh} {v : Nat} (h1 : v < zn h) (h2 : zk h v ≠ 0 ∧ zk h v ≠ 106) (h3 : G.2.2.2.2.1 ≤ G.2.1 + v) : ∃ k : Nat, (zws G h)[k]? = some (G.2.1 + v, zcell G.2.1 G.2.2.2.1 h v) :=
  List.getElem?_of_mem (List.mem_map.mpr ⟨v, List.mem_filter.mpr ⟨List.mem_range.mpr h1, decide_eq_true ⟨h2, h3⟩⟩, rfl⟩)
theorem zws_D (G : Zg) (h : Zh) : va_D (fun q => G.2.2.2.2.1 ≤ q) (zws G h) := by
  refine ⟨fun i j p q hi hj hpq => ?_, fun k q hq => ?_⟩
  · unfold zws at hi hj
    rw [List.getElem?_map] at hi hj
    generalize hL : (List.range (zn h)).filter (fun v => decide ((zk h v ≠ 0 ∧ zk h v ≠ 106) ∧ G.2.2.2.2.1 ≤ G.2.1 + v)) = L at hi hj
    have hnd : L.Nodup := by rw [← hL]; exact List.nodup_range.sublist List.filter_sublist
    cases h1 : L[i]? with
    | none => rw [h1] at hi; cases hi
    | some u =>
      cases h2 : L[j]? with
      | none => rw [h2] at hj; cases hj
      | some w =>
        rw [h1] at hi; rw [h2] at hj
        cases hi; cases hj
        have huw : u = w := Nat.add_left_cancel hpq
        subst huw
        exact (List.getElem?_inj (List.getElem?_eq_some_iff.mp h1).1 hnd).mp (h1.trans h2.symm)
  · obtain ⟨v, -, -, h3, rfl⟩ := zws_in hq
    exact h3
theorem zws_P {G : Zg} {h : Zh} {H : Heap} (hM : zMM G h H) : va_P G.2.2.1 vwCl (zws G h) H := by
  intro k q hq
  obtain ⟨v, h1, h2, -, rfl⟩ := zws_in hq
  exact (hM.2.2.1 v h1 h2.1 h2.2).1
def zrow (h : Zh) (c : Nat) (f : Nat → Option Nat) : Zh := (h.1, h.2.1, h.2.2.1, (fun a j => if a = c then f j else h.2.2.2.1 a j), h.2.2.2.2)
def zokP (h : Zh) (r : Option Nat) : Bool := decide (r = none ∨ zob h r 4 = r)
def zck (h : Zh) (r : Option Nat) : Option (Option Nat) := if zokP h r = true then some r else none
def zcp (h : Zh) (src : Option Nat) (sp : Int32) (dst : Option Nat) (dp n : Int32) : Option Zh := (zob h src 105).bind fun a => (zob h dst 105).bind fun c =>
  if (sp < 0 ∨ dp < 0 ∨ n < 0) ∨ zl h a < sp.toNatClampNeg + n.toNatClampNeg ∨ zl h c < dp.toNatClampNeg + n.toNatClampNeg ∨ zl h a = 0 ∨ zl h c = 0 then none
  else if (List.range n.toNatClampNeg).all (fun i => zokP h (zp h a (sp.toNatClampNeg + i))) = true then some (zrow h c (va_cpy (zp h a) (zp h c) sp.toNatClampNeg dp.toNatClampNeg n.toNatClampNeg)) else none
section ZM
variable {G : Zg} {y : MethodName} {cc : ByteArray} {nL dd : Nat} {ret : Option FieldType} {α β : Type} {rvf : α → Option Value} {hff : α → Zh} {e : Option α} {pc : Nat} {lv : List (Nat × Value)} {st rest : List Value} {h : Zh}
theorem z_none : zTT G y cc nL dd ret rvf hff (none : Option α) pc lv st h := by intro a ha; cases ha
theorem z_noneb {F : β → Option α} : zTT G y cc nL dd ret rvf hff ((none : Option β).bind F) pc lv st h := by intro a ha; cases ha
theorem z_wx {h' : Zh} {pc' : Nat} {st' : List Value} (hz : zn h' = zn h) (hs2 : zs h' = zs h)
    (f : ∀ {p : Program} {l : Launch} {en : Env} {R : Room} {s : State} {m : MethodId} {args : Array Value} {below : List Frame} {meth : Method} {c : Code} {H : Heap} {locs : List Loc} {cells slots : Nat} {Q : State → Prop} {ls : Array Slot},
      p.tables.exec = Jvm.exec → c.code = cc → c.maxLocals = ls.size → s.vm.findClass y.cls = some m.cls → (∀ w ∈ zT, w.before args s = true) → zKK G s s.heap → (1 ≤ dd → 1 ≤ R.frames ∧ 64 ≤ R.locals) → s.heap.size + cells = H.size → zMM G h H → va_S (fun q => G.2.2.2.2.1 ≤ q) s.heap H locs → 
      (∀ (H1 : Heap) (locs1 : List Loc), zMM G h' H1 → va_S (fun q => G.2.2.2.2.1 ≤ q) s.heap H1 locs1 → W p l en R s m args below meth c H1 locs1 cells slots Q (F0 m pc' ls st')) → W p l en R s m args below meth c H locs cells slots Q (F0 m pc ls st))
    (kk : zTT G y cc nL dd ret rvf hff e pc' lv st' h') : zTT G y cc nL dd ret rvf hff e pc lv st h := by
  intro a0 ha
  obtain ⟨hm, hw⟩ := kk a0 ha
  rw [hz, hs2] at hm
  refine ⟨hm, fun p l en R s m args below meth c n0 s0 Q hC hfin hn hs ls H locs hl hM hS => ?_⟩
  have hC2 := hC
  obtain ⟨hx, hb, hml, ho, hts, hK, -, hd, -, -, hsz⟩ := hC2
  refine f hx hb (hml.trans hl.1.symm) ho hts hK (fun h1 => ⟨by omega, by omega⟩) (by rw [hsz, hM.1]; omega) hM hS (fun H1 locs1 hM1 hS1 => ?_)
  have := hw p l en R s m args below meth c n0 s0 Q hC hfin (by rw [hz]; exact hn) (by rw [hs2]; exact hs) ls H1 locs1 hl hM1 hS1
  rw [hz, hs2] at this
  exact this
theorem z_gets {idx : Nat} (hd : decode cc pc = .ok (.getstatic idx, 3)) (hlink : Cond.fieldLink y.cls idx "java/util/ArrayList" "DEFAULTCAPACITY_EMPTY_ELEMENTDATA" "[Ljava/lang/Object;" ∈ zT) (k : zTT G y cc nL dd ret rvf hff e (pc + 3) lv (zrv G.2.1 (some G.2.2.2.2.2.1) :: st) h) : zTT G y cc nL dd ret rvf hff e pc lv st h :=
  z_wx rfl rfl (fun hx hb hml ho hts hK hR hsz hM hS k => va_gets hx hb hK.2.2.2.1 hS ho (hts _ hlink) (fun _ h => h) hd (k _ _ hM hS)) k
theorem z_ldcM {idx : Nat} (hd : decode cc pc = .ok (.ldc idx, 2)) (hlink : Cond.classLink y.cls idx "[Ljava/lang/Object;" ∈ zT) (k : zTT G y cc nL dd ret rvf hff e (pc + 2) lv (zrv G.2.1 (some G.2.2.2.2.2.2) :: st) h) : zTT G y cc nL dd ret rvf hff e pc lv st h :=
  z_wx rfl rfl (fun hx hb hml ho hts hK hR hsz hM hS k => va_ldcM hx hb ho (hts _ hlink) hK.2.2.1 hd (k _ _ hM hS)) k
abbrev yGetClass : MethodName := ⟨"java/lang/Object", "getClass", "()Ljava/lang/Class;"⟩
theorem z_getC {idx : Nat} {r : Option Nat} {F : Nat → Option α} (hd : decode cc pc = .ok (.invokevirtual idx, 3)) (hlink : Cond.methodLink y.cls idx yGetClass ∈ zT) (hdecl : Cond.declares yGetClass ∈ zTN) (hsel : Cond.selects "[Ljava/lang/Object;" yGetClass yGetClass ∈ zT) (hinst : Cond.instanceMethod yGetClass ∈ zT) (hnat : Cond.native yGetClass ∈ zT) (h1 : 1 ≤ dd) (hcat : (st.map fun v => v.category).sum ≤ 8)
    (k : ∀ v, zTT G y cc nL dd ret rvf hff (F v) (pc + 3) lv (zrv G.2.1 (some G.2.2.2.2.2.2) :: st) h) : zTT G y cc nL dd ret rvf hff ((zob h r 105).bind F) pc lv (zrv G.2.1 r :: st) h := by
  refine z_ob fun v hr hv hkd => ?_
  subst hr
  refine z_wx rfl rfl (fun hx hb hml ho hts hK hR hsz hM hS k => ?_) (k v)
  have hat := (hM.2.2.1 v hv (by omega) (by omega)).1
  rw [zcell_q (t := 5) (by decide) hkd] at hat
  refine va_getC (C := "[Ljava/lang/Object;") hx hb hml ho (hts _ hlink) (znu hK.2.1 hdecl) (hts _ hsel) (hts _ hinst) (hts _ hnat) hK.2.2.1 ⟨_, hat, rfl, ?_⟩ (hR h1).1 (by have := (hR h1).2; omega) hd (k _ _ hM hS)
  obtain ⟨_, _, -, -, -, h4⟩ := (hK.1.2 5 _ (ztys_get (t := 5) (by decide))).2
  exact h4
theorem zrv_inj {b : Nat} {r1 r2 : Option Nat} : r1.map (fun v => b + v) = r2.map (fun v => b + v) ↔ r1 = r2 := by
  cases r1 <;> cases r2 <;> simp
theorem z_acmp_eq {r1 r2 : Option Nat} {e1 e2 : Option α} {off : Int} {tgt : Nat} (hd : decode cc pc = .ok (.if_acmp .eq off, 3)) (ht : (pc : Int) + off = (tgt : Int)) (k1 : r1 = r2 → zTT G y cc nL dd ret rvf hff e1 tgt lv st h) (k2 : ¬ r1 = r2 → zTT G y cc nL dd ret rvf hff e2 (pc + 3) lv st h) : zTT G y cc nL dd ret rvf hff (if r1 = r2 then e1 else e2) pc lv (zrv G.2.1 r2 :: zrv G.2.1 r1 :: st) h :=
  z_lift2 (fun hx hb k1 k2 => lv_acmp_eq hx hb hd ht (fun q => k1 (zrv_inj.mp q)) (fun q => k2 (fun z => q (zrv_inj.mpr z)))) k1 k2
theorem z_acmp_ne {r1 r2 : Option Nat} {e1 e2 : Option α} {off : Int} {tgt : Nat} (hd : decode cc pc = .ok (.if_acmp .ne off, 3)) (ht : (pc : Int) + off = (tgt : Int)) (k1 : r1 = r2 → zTT G y cc nL dd ret rvf hff e1 (pc + 3) lv st h) (k2 : ¬ r1 = r2 → zTT G y cc nL dd ret rvf hff e2 tgt lv st h) : zTT G y cc nL dd ret rvf hff (if r1 = r2 then e1 else e2) pc lv (zrv G.2.1 r2 :: zrv G.2.1 r1 :: st) h :=
  z_lift2 (fun hx hb k1 k2 => lv_acmp_ne hx hb hd ht (fun q => k2 (fun z => q (zrv_inj.mpr z))) (fun q => k1 (zrv_inj.mp q))) k1 k2
theorem z_mmax {idx : Nat} {u v : Int32} (hd : decode cc pc = .ok (.invokestatic idx, 3)) (hlink : Cond.methodLink y.cls idx Lib.Math.max.name ∈ zT) (hs : Cond.static Lib.Math.max.name ∈ zT) (hi : Cond.initialized "java/lang/Math" ∈ zT) (hcode : Cond.code Lib.Math.max.name Lib.Math.max.code 2 (some .int) ∈ zT) (h1 : 1 ≤ dd) (hcat : (st.map fun v => v.category).sum ≤ 8) (k : zTT G y cc nL dd ret rvf hff e (pc + 3) lv (.int (if u < v then v else u) :: st) h) : zTT G y cc nL dd ret rvf hff e pc lv (.int v :: .int u :: st) h :=
  z_lift (fun hx hb hml ho hts hR hcs hl k => va_mmax hx hb (by rw [hml]; exact hl.1.symm) ho (hts _ hlink) (hts _ hs) (hts _ hi) (hts _ hcode) (hR h1).1 (by have := (hR h1).2; omega) hcs.1 hcs.2 hd (k _ hl)) k
theorem zasg {s : State} (hN : zNW s) (hw : Cond.castable RX2 "java/lang/Object" ∈ zTN) : ∀ comp c0 : ClassId, s.vm.findClass "java/lang/Object" = some comp → s.vm.findClass RX2 = some c0 → s.vm.assignable c0 comp = true := by
  intro comp c0 h1 h2
  have h := hN.1 _ hw
  unfold va_Nw Cond.before Cond.holds at h
  simpa [Cond.value, h1, h2] using h
theorem z_cast {idx : Nat} {r : Option Nat} {F : Option Nat → Option α} (hd : decode cc pc = .ok (.checkcast idx, 3)) (hlink : Cond.classLink y.cls idx RX2 ∈ zT) (k : zTT G y cc nL dd ret rvf hff (F r) (pc + 3) lv (zrv G.2.1 r :: st) h) : zTT G y cc nL dd ret rvf hff ((zck h r).bind F) pc lv (zrv G.2.1 r :: st) h := by
  unfold zck
  by_cases hz : zokP h r = true
  · rw [if_pos hz]
    rcases of_decide_eq_true hz with rfl | h0
    · exact z_lift (fun hx hb _ _ _ _ _ hl k => lv_castN hx hb hd (k _ hl)) k
    · cases r with
      | none => exact z_lift (fun hx hb _ _ _ _ _ hl k => lv_castN hx hb hd (k _ hl)) k
      | some v =>
        obtain ⟨-, hv, hvk⟩ := zob_some h0
        refine z_wx rfl rfl (fun hx hb hml ho hts hK hR hsz hM hS k => ?_) k
        have hat := (hM.2.2.1 v hv (by omega) (by omega)).1
        rw [zcell_o hvk zkl3.2.2.2.2.2] at hat
        obtain ⟨cell, g1, g2, g3⟩ := va_recv hK.1 (zP1 hat) zkl3.1 (q0 := 0) rfl
        refine va_castS hx hb ho (hts _ hlink) (hK.1.1 3 _ zkl3.1).2 ⟨cell, g1, g2, g3⟩ hd (k _ _ hM hS)
  · rw [if_neg hz]; intro a ha; cases ha
/-- a Piece or null into an Object[] -/
theorem z_aastO {r : Option Nat} {j : Int32} {x : Option Nat} {F : Zh → Option α} (hd : decode cc pc = .ok (.aastore, 1)) (hw : Cond.castable RX2 "java/lang/Object" ∈ zTN)
    (kk : ∀ h', zTT G y cc nL dd ret rvf hff (F h') (pc + 1) lv st h') : zTT G y cc nL dd ret rvf hff ((zbP h r 5 3 j x).bind F) pc lv (zrv G.2.1 x :: .int j :: zrv G.2.1 r :: st) h := by
  unfold zbP
  refine z_as (z_ob fun v hr hv hkd => z_as ?_)
  subst hr
  cases hq : zix (zl h v) j with
  | none => intro a ha; cases ha
  | some q =>
    obtain ⟨rfl, hin⟩ := zix_some hq
    refine z_sb ?_
    by_cases hx0 : x = none ∨ zob h x (3 + 1) = x
    · rw [if_pos hx0]
      refine z_sb (z_wr hv (by omega) (by omega) (fun q => hin (Or.inr (by omega))) (h' := zsetP h v j.toNatClampNeg x) rfl rfl rfl rfl (fun b cA u hu => zcell_setP hu) (fun hx hb ho hts hK hNW hn hM k => ?_) (kk _))
      have hat := (hM.2.2.1 v hv (by omega) (by omega)).1
      rw [zcell_q (t := 5) (by decide) hkd] at hat
      rw [zcell_q (t := 5) (h := zsetP h v j.toNatClampNeg x) (by decide) hkd] at k
      have hty := hK.2 5 _ (ztys_get (t := 5) (by decide))
      have hfin : ∀ (H1 : Heap) (w : Value), H1[G.2.1 + v]? = some ((vp_cell (G.2.2.2.1 5) (zl h v, .inr (.inr (.inr (.inr (fun j => (zp h v j).map (fun x => G.2.1 + x))))))).setSlot j.toNatClampNeg w) → w = zrv G.2.1 x → va_at G.2.2.1 vwCl (G.2.1 + v, .inl (G.2.2.2.1 5, zl (zsetP h v j.toNatClampNeg x) v, .inr (.inr (.inr (.inr (fun j2 => (zp (zsetP h v j.toNatClampNeg x) v j2).map (fun x => G.2.1 + x))))))) H1 := by
        intro H1 w e1 hw
        show H1[_]? = some (vp_cell _ _)
        rw [e1, vp_cell_q, vp_cell_q, arrV_store, hw]
        congr 2
        funext q
        show _ = va_rf ((u2 _ v _ x v q).map _)
        unfold u2 updV
        by_cases hq : q = j.toNatClampNeg
        · rw [if_pos hq, if_pos ⟨rfl, hq⟩]; rfl
        · rw [if_neg hq, if_neg (fun z => hq z.2)]; rfl
      cases x with
      | none =>
        refine va_WaastN hx hb hat (hty.1 _ (fun j => va_rf ((zp h v j).map (fun x => G.2.1 + x)))) (fun q => by cases q) (by show ¬ (j < 0 ∨ (arrV _ _ _).slots.size ≤ _); rw [arrV_size]; exact hin) rfl rfl hd fun H1 e1 e2 e3 => k H1 _ (hfin H1 _ e1 rfl) e2 e3
      | some w =>
        rcases hx0 with h0 | h0
        · cases h0
        · obtain ⟨-, hw2, hwk⟩ := zob_some h0
          have hatw := (hM.2.2.1 w hw2 (by omega) (by omega)).1
          rw [zcell_o hwk zkl3.2.2.2.2.2] at hatw
          obtain ⟨r', hr', cellV, g1, g2, g3, -⟩ := hatw
          have hcls := (hK.1 3 _ zkl3.1).2
          obtain ⟨kA, comp, k1, k2, k3, -⟩ := hty.2
          obtain ⟨kC, hkC, -⟩ := hcls.2
          obtain ⟨kE, hkE, -⟩ := Vm.findClass_spec k3
          refine W.aast hx hb hat (fun q h => by cases h) (fun h => by cases h) k1 k2 rfl hkE ⟨fun q => hin (Or.inl q), by show _ < (arrV _ _ _).slots.size; rw [arrV_size]; exact Nat.not_le.mp fun q => hin (Or.inr q)⟩ g1 (fun q h => by rw [g3] at h; cases h) (by rw [g2]; exact hkC) (by rw [g2]; exact zasg hNW hw _ _ k3 hcls.1) rfl rfl hd fun H1 e1 e2 e3 => k H1 _ (hfin H1 _ e1 rfl) e2 e3
    · rw [if_neg hx0]; intro a ha; cases ha
theorem z_copy {idx : Nat} {src dst : Option Nat} {sp dp n : Int32} {F : Zh → Option α} (hd : decode cc pc = .ok (.invokestatic idx, 3)) (hlink : Cond.methodLink y.cls idx arraycopyName ∈ zT) (hnat : Cond.native arraycopyName ∈ zT) (hstat : Cond.static arraycopyName ∈ zT) (hini : Cond.initialized "java/lang/System" ∈ zT) (hw : Cond.castable RX2 "java/lang/Object" ∈ zTN) (h1 : 1 ≤ dd) (hcat : (st.map fun v => v.category).sum ≤ 8)
    (kk : ∀ h', zTT G y cc nL dd ret rvf hff (F h') (pc + 3) lv st h') : zTT G y cc nL dd ret rvf hff ((zcp h src sp dst dp n).bind F) pc lv (.int n :: .int dp :: zrv G.2.1 dst :: .int sp :: zrv G.2.1 src :: st) h := by
  unfold zcp
  refine z_as (z_ob fun a hr ha hka => z_as (z_ob fun c hr2 hc hkc => ?_))
  subst hr; subst hr2
  by_cases hb0 : (sp < 0 ∨ dp < 0 ∨ n < 0) ∨ zl h a < sp.toNatClampNeg + n.toNatClampNeg ∨ zl h c < dp.toNatClampNeg + n.toNatClampNeg ∨ zl h a = 0 ∨ zl h c = 0
  · rw [if_pos hb0]; exact z_noneb
  rw [if_neg hb0]
  by_cases hal : (List.range n.toNatClampNeg).all (fun i => zokP h (zp h a (sp.toNatClampNeg + i))) = true
  · rw [if_pos hal]
    refine z_sb (z_wx (h' := zrow h c (va_cpy (zp h a) (zp h c) sp.toNatClampNeg dp.toNatClampNeg n.toNatClampNeg)) rfl rfl (fun {p l en R s m args below meth cd H locs cells slots Q ls} hx hb hml ho hts hK hR hsz hM hS k => ?_) (kk _))
    have hA := (hM.2.2.1 a ha (by omega) (by omega)).2.resolve_right (fun q => hb0 (Or.inr (Or.inr (Or.inr (Or.inl q.2)))))
    have hCc := (hM.2.2.1 c hc (by omega) (by omega)).2.resolve_right (fun q => hb0 (Or.inr (Or.inr (Or.inr (Or.inr q.2)))))
    obtain ⟨qa, ea⟩ := zws_at ha ⟨by omega, by omega⟩ hA
    obtain ⟨qc, ec⟩ := zws_at hc ⟨by omega, by omega⟩ hCc
    have ea' := ea
    have ec' := ec
    rw [zcell_q (t := 5) (by decide) hka] at ea
    rw [zcell_q (t := 5) (by decide) hkc] at ec
    have hS0 : va_S (fun q => G.2.2.2.2.1 ≤ q) H H locs := ⟨Nat.le_refl _, fun _ _ _ => rfl, hS.2.2⟩
    refine va_copyq (C := RX2) (t0 := 5) (t1 := 5) hx hb hml ho (hts _ hlink) (hts _ hnat) (hts _ hstat) (hts _ hini) hK.1 (zws_P hM) (zws_D G h) hS0 qa qc ea ec (ztys_get (t := 5) (by decide)) (ztys_get (t := 5) (by decide)) (fun q => hb0 (Or.inl (Or.inl q))) (fun q => hb0 (Or.inl (Or.inr (Or.inl q)))) (fun q => hb0 (Or.inl (Or.inr (Or.inr q)))) (by omega) (by omega) ?_ (zasg hK.2.1 hw) (hR h1).1 ?_ hd (fun H1 locs1 hP1 hD1 hS1 => zW_size (fun hz => k H1 locs1 ⟨?_, ?_, fun v hv hkv hkv6 => ⟨?_, (hM.2.2.1 v hv hkv hkv6).2⟩, hM.2.2.2⟩ ?_))
    · intro i hi y2 hy
      have h2 := List.all_eq_true.mp hal i (List.mem_range.mpr hi)
      cases hpp : zp h a (sp.toNatClampNeg + i) with
      | none => rw [hpp] at hy; cases hy
      | some w =>
        rw [hpp] at hy h2
        cases hy
        rcases of_decide_eq_true h2 with h3 | h3
        · cases h3
        · obtain ⟨-, hw2, hwk⟩ := zob_some h3
          have hatw := (hM.2.2.1 w hw2 (by omega) (by omega)).1
          rw [zcell_o hwk zkl3.2.2.2.2.2] at hatw
          exact va_recv hK.1 (zP1 hatw) zkl3.1 (q0 := 0) rfl
    · have hn5 : nativeFrameWords "java/lang/System" "arraycopy" 5 + 11 ≤ 50 := by decide
      have := (hR h1).2
      omega
    · show H1.size = _ + zn h
      have := hS1.1
      have := hM.1
      omega
    · exact hM.2.1
    · by_cases hq : G.2.2.2.2.1 ≤ G.2.1 + v
      · obtain ⟨qv, ev⟩ := zws_at (h := h) hv ⟨hkv, hkv6⟩ hq
        by_cases hvc : v = c
        · subst hvc
          have := hP1 qc (G.2.1 + v, .inl (G.2.2.2.1 5, zl h v, .inr (.inr (.inr (.inr (va_cpy (fun j => (zp h a j).map (fun x => G.2.1 + x)) (fun j => (zp h v j).map (fun x => G.2.1 + x)) sp.toNatClampNeg dp.toNatClampNeg n.toNatClampNeg)))))) (by rw [List.getElem?_set_self (List.getElem?_eq_some_iff.mp ec').1])
          rw [zcell_q (t := 5) (h := zrow h v _) (by decide) hkc]
          have e9 : (fun j => (zp (zrow h v (va_cpy (zp h a) (zp h v) sp.toNatClampNeg dp.toNatClampNeg n.toNatClampNeg)) v j).map (fun x => G.2.1 + x)) = va_cpy (fun j => (zp h a j).map (fun x => G.2.1 + x)) (fun j => (zp h v j).map (fun x => G.2.1 + x)) sp.toNatClampNeg dp.toNatClampNeg n.toNatClampNeg := by
            funext j
            show Option.map _ (if v = v then va_cpy (zp h a) (zp h v) _ _ _ j else zp h v j) = _
            rw [if_pos rfl]
            unfold va_cpy
            by_cases hj : dp.toNatClampNeg ≤ j ∧ j < dp.toNatClampNeg + n.toNatClampNeg
            · rw [if_pos hj, if_pos hj]
            · rw [if_neg hj, if_neg hj]
          rw [e9]
          exact this
        · have hne : qc ≠ qv := fun z => by
            subst z
            have := Option.some.inj (ev.symm.trans ec')
            exact hvc (Nat.add_left_cancel (congrArg Prod.fst this))
          have := hP1 qv _ (by rw [List.getElem?_set_ne hne]; exact ev)
          rw [zcell_congr (h := h) (h' := zrow h c _) (u := v) rfl rfl rfl (by funext j; show (if v = c then _ else _) = _; rw [if_neg hvc]; rfl)]
          exact this
      · have hvc : v ≠ c := fun z => hq (by rw [z]; exact hCc)
        rw [zcell_congr (h := h) (h' := zrow h c _) (u := v) rfl rfl rfl (by funext j; show (if v = c then _ else _) = _; rw [if_neg hvc]; rfl)]
        exact (hM.2.2.1 v hv hkv hkv6).1.kept (hS1.2.1 _ (by rw [hM.1]; exact Nat.add_lt_add_left hv _) hq)
    · exact ⟨Nat.le_trans hS.1 hS1.1, fun q g1 g2 => (hS1.2.1 q (Nat.lt_of_lt_of_le g1 hS.1) g2).trans (hS.2.1 q g1 g2), hS1.2.2⟩
  · rw [if_neg hal]; exact z_noneb
theorem z_gets2 {idx : Nat} {c : Nat × Nat} (hc : c = G.2.2.2.2.2) (hd : decode cc pc = .ok (.getstatic idx, 3)) (hlink : Cond.fieldLink y.cls idx "java/util/ArrayList" "DEFAULTCAPACITY_EMPTY_ELEMENTDATA" "[Ljava/lang/Object;" ∈ zT) (k : zTT G y cc nL dd ret rvf hff e (pc + 3) lv (zrv G.2.1 (some c.1) :: st) h) : zTT G y cc nL dd ret rvf hff e pc lv st h := by
  subst hc; exact z_gets hd hlink k
theorem z_ldcM2 {idx : Nat} {c : Nat × Nat} (hc : c = G.2.2.2.2.2) (hd : decode cc pc = .ok (.ldc idx, 2)) (hlink : Cond.classLink y.cls idx "[Ljava/lang/Object;" ∈ zT) (k : zTT G y cc nL dd ret rvf hff e (pc + 2) lv (zrv G.2.1 (some c.2) :: st) h) : zTT G y cc nL dd ret rvf hff e pc lv st h := by
  subst hc; exact z_ldcM hd hlink k
theorem z_getC2 {idx : Nat} {r : Option Nat} {c : Nat × Nat} {F : Nat → Option α} (hc : c = G.2.2.2.2.2) (hd : decode cc pc = .ok (.invokevirtual idx, 3)) (hlink : Cond.methodLink y.cls idx yGetClass ∈ zT) (hdecl : Cond.declares yGetClass ∈ zTN) (hsel : Cond.selects "[Ljava/lang/Object;" yGetClass yGetClass ∈ zT) (hinst : Cond.instanceMethod yGetClass ∈ zT) (hnat : Cond.native yGetClass ∈ zT) (h1 : 1 ≤ dd) (hcat : (st.map fun v => v.category).sum ≤ 8)
    (k : ∀ v, zTT G y cc nL dd ret rvf hff (F v) (pc + 3) lv (zrv G.2.1 (some c.2) :: st) h) : zTT G y cc nL dd ret rvf hff ((zob h r 105).bind F) pc lv (zrv G.2.1 r :: st) h := by
  subst hc; exact z_getC hd hlink hdecl hsel hinst hnat h1 hcat k
theorem z_cast2 {idx : Nat} {r : Option Nat} {F : Option Nat → Option α} (hd : decode cc pc = .ok (.checkcast idx, 3)) (hlink : Cond.classLink y.cls idx RX2 ∈ zT) (k : ∀ q, zTT G y cc nL dd ret rvf hff (F q) (pc + 3) lv (zrv G.2.1 q :: st) h) : zTT G y cc nL dd ret rvf hff ((zck h r).bind F) pc lv (zrv G.2.1 r :: st) h := z_cast hd hlink (k r)
theorem z_objI2 {idx kd : Nat} {r : Option Nat} {F : Nat → Option α} (hd : decode cc pc = .ok (.invokespecial idx, 3)) (hlink : Cond.methodLink y.cls idx objectInit ∈ zT) (hin : Cond.instanceMethod objectInit ∈ zT) (hcode : Cond.code objectInit ⟨#[0xb1]⟩ 1 none ∈ zT) (h1 : 1 ≤ dd) (hcat : (st.map fun v => v.category).sum ≤ 8) (k : ∀ v, zTT G y cc nL dd ret rvf hff (F v) (pc + 3) lv st h) : zTT G y cc nL dd ret rvf hff ((zob h r kd).bind F) pc lv (zrv G.2.1 r :: st) h := by
  refine z_ob fun v hr hv hkd => ?_
  subst hr
  exact z_objI hd hlink hin hcode h1 hcat (k v)
theorem z_sld {j : Int32} {F : Int32 → Option α} {sc : Nat × (Nat → Int32)} (hsc : sc = G.1.2.2) (hd : decode cc pc = .ok (.iaload, 1)) (kk : ∀ x, zTT G y cc nL dd ret rvf hff (F x) (pc + 1) lv (.int x :: st) h) : zTT G y cc nL dd ret rvf hff (((zix sc.1 j).bind fun q => some (sc.2 q)).bind F) pc lv (.int j :: zrv G.2.1 (some G.1.2.1) :: st) h := by
  subst hsc
  refine z_as ?_
  cases hq : zix G.1.2.2.1 j with
  | none => exact z_noneb
  | some q =>
    obtain ⟨rfl, hin⟩ := zix_some hq
    refine z_sb (z_wx rfl rfl (fun hx hb hml ho hts hK hR hsz hM hS k => ?_) (kk _))
    exact va_sld hx hb hK.2.2.2.2.1 hK.2.2.2.2.2.2.1 (Nat.not_le.mpr hK.2.2.2.2.2.1) hS hin hd (k _ _ hM hS)
theorem z_slen {sc : Nat × (Nat → Int32)} (hsc : sc = G.1.2.2) (hd : decode cc pc = .ok (.arraylength, 1)) (kk : zTT G y cc nL dd ret rvf hff e (pc + 1) lv (.int (Int32.ofNat sc.1) :: st) h) : zTT G y cc nL dd ret rvf hff e pc lv (zrv G.2.1 (some G.1.2.1) :: st) h := by
  subst hsc
  exact z_wx rfl rfl (fun hx hb hml ho hts hK hR hsz hM hS k => va_slen hx hb hK.2.2.2.2.1 hK.2.2.2.2.2.2.1 (Nat.not_le.mpr hK.2.2.2.2.2.1) hS hd (k _ _ hM hS)) kk
def zaO (h : Zh) (r : Option Nat) : Option Int32 := r.bind fun v => if v < zn h ∧ zk h v = 106 then some 0 else zaL h r 5
theorem z_alenO {r : Option Nat} {F : Int32 → Option α} (hd : decode cc pc = .ok (.arraylength, 1)) (kk : ∀ x, zTT G y cc nL dd ret rvf hff (F x) (pc + 1) lv (.int x :: st) h) : zTT G y cc nL dd ret rvf hff ((zaO h r).bind F) pc lv (zrv G.2.1 r :: st) h := by
  unfold zaO
  cases r with
  | none => exact z_noneb
  | some v =>
    rw [Option.bind_some]
    by_cases hv : v < zn h ∧ zk h v = 106
    · rw [if_pos hv]
      refine z_sb (z_wx rfl rfl (fun hx hb hml ho hts hK hR hsz hM hS k => ?_) (kk 0))
      have hv0 := hM.2.2.2 v hv.1 hv.2
      subst hv0
      exact va_tlen hx hb hK.2.2.2.2.2.2.2.1 hS rfl hd (k _ _ hM hS)
    · rw [if_neg hv]
      exact z_alen hd (by decide) kk
noncomputable def zchk (R : Nat) (h : Zh) : Option Unit := @ite _ (zRF R h) (Classical.propDecidable _) (some ()) none
def zget (R : Nat) (h : Zh) : Zr := fun a j => zi h (R + a) j
theorem zput_get (R : Nat) (h : Zh) : zput R h (zget R h) = h := by
  unfold zput
  refine Prod.ext rfl (Prod.ext rfl (Prod.ext ?_ rfl))
  funext a j
  dsimp only
  by_cases hr : R ≤ a ∧ a < R + zRN
  · rw [if_pos hr]; show zi h (R + (a - R)) j = _; rw [Nat.add_sub_cancel' hr.1]; rfl
  · rw [if_neg hr]; rfl
theorem z_chk {R : Nat} {F : Unit → Option α} (k : zRF R h → zTT G y cc nL dd ret rvf hff (F ()) pc lv st h) : zTT G y cc nL dd ret rvf hff ((zchk R h).bind F) pc lv st h := by
  unfold zchk
  by_cases hr : zRF R h
  · rw [if_pos hr]; exact k hr
  · rw [if_neg hr]; exact z_noneb
end ZM
