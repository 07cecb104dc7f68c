/-! calls -/
theorem zgoodT {ws : List Cond} (h : ∀ w ∈ ws, w ∈ zT) : GoodIn zT ws := fun w hw => ⟨h w hw, good_of_word (List.mem_filter.mp (h w hw)).2⟩
theorem zblind (G : Zg) (av : List Value) (h : Zh) : FrameBlind (va_Pc av (fun U => zMM G h U.heap ∧ zKK G U U.heap)) := fun a U g mk q => by
  obtain ⟨q0, q1, qK⟩ := q
  exact ⟨q0, q1, zKK.same (u := U) (U := U.calling g mk a) rfl qK⟩
/-- a method that is called: its words -/
def zYb (y : MethodName) (cy : ByteArray) (mL : Nat) (ret : Option FieldType) (n : Nat) : Prop := Cond.code y cy mL ret ∈ zT ∧ Cond.initialized y.cls ∈ zT ∧ (y.cls ≠ "java/lang/invoke/MethodHandle" ∧ y.cls ≠ "java/lang/invoke/VarHandle" ∧ (parseMethodDescriptor y.desc).map (fun d => d.parameters.length) = some n) ∧ mL ≤ 45
def zYv (y : MethodName) (cy : ByteArray) (mL : Nat) (ret : Option FieldType) (n : Nat) : Prop := zYb y cy mL ret n ∧ Cond.instanceMethod y ∈ zT ∧ Cond.selects y.cls y y ∈ zT
def zYs (y : MethodName) (cy : ByteArray) (mL : Nat) (ret : Option FieldType) (n : Nat) : Prop := zYb y cy mL ret n ∧ Cond.static y ∈ zT
def zYi (y : MethodName) (cy : ByteArray) (mL n : Nat) : Prop := zYb y cy mL none n ∧ Cond.instanceMethod y ∈ zT ∧ y.name = "<init>"
section ZL
variable {G : Zg} {y : MethodName} {cc : ByteArray} {nL dd : Nat} {ret : Option FieldType} {α β : Type} {rvf : α → Option Value} {hff : α → Zh} {e : Option α} {pc : Nat} {lv : List (Nat × Value)} {st rest : List Value} {h : Zh}
theorem z_call {E : Option β} {F : β → Option α} {rv2 : β → Option Value} {h2 : β → Zh} {pc2 : Nat}
    (run : ∀ x, E = some x → (zn h ≤ zn (h2 x) ∧ zs h ≤ zs (h2 x)) ∧ ∀ {p : Program} {l : Launch} {en : Env} {R : Room} {s : State} {m : MethodId} {args : Array Value} {below : List Frame} {meth : Method} {c : Code} {H : Heap} {locs : List Loc} {cells slots : Nat} {ls : Array Slot},
      l = G.1.1 → p.tables.exec = Jvm.exec → c.code = cc → c.maxLocals = nL → s.vm.findClass y.cls = some m.cls → (∀ w ∈ zT, w.before args s = true) → zKK G s H → dd ≤ R.frames ∧ 64 * dd ≤ R.locals → zMM G h H → ls.size = nL →
      cells + (zn (h2 x) - zn h) ≤ R.cells ∧ slots + (zs (h2 x) - zs h) ≤ R.slots → 
      ∃ a, va_Run p l en R s m args below meth c H locs cells slots (zn (h2 x) - zn h) (zs (h2 x) - zs h) (F0 m pc ls st) rest (zQ G (rv2 x) (h2 x) a) (fun q => G.2.2.2.2.1 ≤ q))
    (hpc : pc2 = pc + 3)
    (kk : ∀ x, zTT G y cc nL dd ret rvf hff (F x) pc2 lv ((rv2 x).toList ++ rest) (h2 x)) : zTT G y cc nL dd ret rvf hff (E.bind F) pc lv st h := by
  subst hpc
  cases hE : E with
  | none => intro a ha; cases ha
  | some x =>
    intro a0 ha
    obtain ⟨hm, hw⟩ := kk x a0 ha
    obtain ⟨hm2, hr⟩ := run x hE
    refine ⟨⟨Nat.le_trans hm2.1 hm.1, Nat.le_trans hm2.2 hm.2⟩, fun p l en R s m args below meth c n0 s0 Q hC hfin hn hs ls H locs hl hM hS => ?_⟩
    have hC2 := hC
    obtain ⟨hx, hb, hml, ho, hts, hK, hR, hd, hnm, hlG, -⟩ := hC2
    intro T hT X
    obtain ⟨a, hrun⟩ := hr (cells := zn h - n0) (slots := zs h - s0) hlG hx hb hml ho hts (hK.on hS) hd hM hl.1 ⟨by omega, by omega⟩
    obtain ⟨v, st₀, t, T', L, h0, X', hL, e1, e2, ⟨hv, hM2, hz, hk⟩, st2⟩ := hrun T hT X
    have hv2 : v = rv2 x := by
      have := hv
      cases this
      rfl
    subst hv2
    rw [h0] at hz hk
    have W2 := hw p l en R s m args below meth c n0 s0 Q hC hfin (Nat.le_trans hn hm2.1) (Nat.le_trans hs hm2.2) ls T'.heap (locs ++ L) hl (by rw [e1]; exact hM2)
      ⟨Nat.le_trans hS.1 (by rw [e1]; exact hz), fun q h1 h2 => by rw [e1, hk q (Nat.lt_of_lt_of_le h1 hS.1) h2]; exact hS.2.1 q h1 h2, fun q hq => by
        rcases List.mem_append.mp hq with h | h
        · exact hS.2.2 q h
        · exact hL q h⟩
    rw [show zn (h2 x) - n0 = (zn h - n0) + (zn (h2 x) - zn h) by omega, show zs (h2 x) - s0 = (zs h - s0) + (zs (h2 x) - zs h) by omega] at W2
    obtain ⟨t2, a1, b1⟩ := W2 T' rfl X'
    exact ⟨t2, st2 t2 a1, b1⟩
theorem zroom {d dd mL : Nat} {R : Room} (h1 : d + 1 ≤ dd) (h2 : mL ≤ 45) (hR : dd ≤ R.frames ∧ 64 * dd ≤ R.locals) : d + 1 ≤ R.frames ∧ 8 + (mL + 11) + 64 * d ≤ R.locals := by
  obtain ⟨a, b⟩ := hR
  exact ⟨by omega, by omega⟩
theorem z_callV {E : Option β} {F : β → Option α} {rv2 : β → Option Value} {h2 : β → Zh} {y2 : MethodName} {cy : ByteArray} {mL n d idx ci N r : Nat} {ret2 : Option FieldType} {T2 : u_T} {ty2 : Nat → FieldType} {As : List Value} (hd : decode cc pc = .ok (.invokevirtual idx, 3)) (hY : zYv y2 cy mL ret2 n)
    (hlink : Cond.methodLink y.cls idx y2 ∈ zT ∨ ∃ host, Cond.methodLinkNest y.cls idx y2 host ∈ zTN) (hdd : d + 1 ≤ dd) (hkl : zKl ci y2.cls T2 N ty2) (hr : r < zn h) (hrk : zk h r = ci + 1) (hn : As.length = n) (hst : st = As.reverse ++ .ref (G.2.1 + r) :: rest) (hcat : (rest.map fun v => v.category).sum ≤ 8)
    (hct : ∀ x, E = some x → zCt G y2 cy mL ret2 d (.ref (G.2.1 + r) :: As) h (rv2 x) (h2 x)) (kk : ∀ x, zTT G y cc nL dd ret rvf hff (F x) (pc + 3) lv ((rv2 x).toList ++ rest) (h2 x)) : zTT G y cc nL dd ret rvf hff (E.bind F) pc lv st h := by
  refine z_call (fun x hx => ?_) rfl kk
  obtain ⟨hm, hMet⟩ := hct x hx
  refine ⟨hm, fun hl hx hb hml ho hts hK hR hM hsz hroom => ?_⟩
  subst hl
  obtain ⟨⟨y1, y3, y4, y5⟩, y6, y7⟩ := hY
  have hin : ∀ w ∈ (.code y2 cy mL ret2 :: zT : List Cond), w ∈ zT := fun w hw => by
    rcases List.mem_cons.mp hw with rfl | h
    · exact y1
    · exact h
  have h9 := hkl.2.2.2.2.2
  have hat := (hM.2.2.1 r hr (by omega) (by omega)).1
  rw [zcell_o hrk hkl.2.2.2.2.2] at hat
  have hp : PreV _ _ y2.cls (G.2.1 + r) _ As := ⟨zblind G (.ref (G.2.1 + r) :: As) h, va_recv hK.1 (zP1 hat) hkl.1 (q0 := 0) rfl, fun U hU hW => ⟨rfl, by rw [hU]; exact hM, by rw [hU]; exact hK.moved hW⟩⟩
  rcases hlink with hl | ⟨host, hl⟩
  · exact ⟨_, va_runV (n := n) ⟨hx, hb, hml, ho, hts⟩ hMet ⟨callB_of n hts (zgoodT hin) rfl rfl rfl (hts _ y3) (hts _ hl) y4 (zroom hdd y5 hR), hts _ y6, hts _ y7⟩ hp rfl hn hsz (by rw [hst]) (lv_room hcat) hd hroom⟩
  · exact ⟨_, va_runVN (n := n) ⟨hx, hb, hml, ho, hts⟩ hMet ⟨va_cnB n hts (zgoodT hin) rfl rfl rfl (hK.2.1.1 _ hl) (hts _ y3) y4 (zroom hdd y5 hR), hts _ y6, hts _ y7⟩ hp rfl hn hsz (by rw [hst]) (lv_room hcat) hd hroom⟩
theorem z_callS {E : Option β} {F : β → Option α} {rv2 : β → Option Value} {h2 : β → Zh} {y2 : MethodName} {cy : ByteArray} {mL n d idx : Nat} {ret2 : Option FieldType} {As : List Value} (hd : decode cc pc = .ok (.invokestatic idx, 3)) (hY : zYs y2 cy mL ret2 n)
    (hlink : Cond.methodLink y.cls idx y2 ∈ zT ∨ ∃ host, Cond.methodLinkNest y.cls idx y2 host ∈ zTN) (hdd : d + 1 ≤ dd) (hn : As.length = n) (hst : st = As.reverse ++ rest) (hcat : (rest.map fun v => v.category).sum ≤ 8)
    (hct : ∀ x, E = some x → zCt G y2 cy mL ret2 d As h (rv2 x) (h2 x)) (kk : ∀ x, zTT G y cc nL dd ret rvf hff (F x) (pc + 3) lv ((rv2 x).toList ++ rest) (h2 x)) : zTT G y cc nL dd ret rvf hff (E.bind F) pc lv st h := by
  refine z_call (fun x hx => ?_) rfl kk
  obtain ⟨hm, hMet⟩ := hct x hx
  refine ⟨hm, fun hl hx hb hml ho hts hK hR hM hsz hroom => ?_⟩
  subst hl
  obtain ⟨⟨y1, y3, y4, y5⟩, y6⟩ := hY
  have hin : ∀ w ∈ (.code y2 cy mL ret2 :: zT : List Cond), w ∈ zT := fun w hw => by
    rcases List.mem_cons.mp hw with rfl | h
    · exact y1
    · exact h
  have hp : PreS _ _ _ As := ⟨zblind G As h, fun U hU hW => ⟨rfl, by rw [hU]; exact hM, by rw [hU]; exact hK.moved hW⟩⟩
  rcases hlink with hl | ⟨host, hl⟩
  · exact ⟨_, va_runS (n := n) ⟨hx, hb, hml, ho, hts⟩ hMet ⟨callB_of n hts (zgoodT hin) rfl rfl rfl (hts _ y3) (hts _ hl) y4 (zroom hdd y5 hR), hts _ y6⟩ hp rfl hn hsz (by rw [hst]) (lv_room hcat) hd hroom⟩
  · exact ⟨_, va_runSN (n := n) ⟨hx, hb, hml, ho, hts⟩ hMet ⟨va_cnB n hts (zgoodT hin) rfl rfl rfl (hK.2.1.1 _ hl) (hts _ y3) y4 (zroom hdd y5 hR), hts _ y6, trivial⟩ hp rfl hn hsz (by rw [hst]) (lv_room hcat) hd hroom⟩
theorem z_callI {E : Option β} {F : β → Option α} {h2 : β → Zh} {y2 : MethodName} {cy : ByteArray} {mL n d idx r : Nat} {As : List Value} (hd : decode cc pc = .ok (.invokespecial idx, 3)) (hY : zYi y2 cy mL n)
    (hlink : Cond.methodLink y.cls idx y2 ∈ zT ∨ ∃ host, Cond.methodLinkNest y.cls idx y2 host ∈ zTN) (hdd : d + 1 ≤ dd) (hn : As.length = n) (hst : st = As.reverse ++ .ref (G.2.1 + r) :: rest) (hcat : (rest.map fun v => v.category).sum ≤ 8)
    (hct : ∀ x, E = some x → zCt G y2 cy mL none d (.ref (G.2.1 + r) :: As) h none (h2 x)) (kk : ∀ x, zTT G y cc nL dd ret rvf hff (F x) (pc + 3) lv rest (h2 x)) : zTT G y cc nL dd ret rvf hff (E.bind F) pc lv st h := by
  refine z_call (rv2 := fun _ => none) (fun x hx => ?_) rfl kk
  obtain ⟨hm, hMet⟩ := hct x hx
  refine ⟨hm, fun hl hx hb hml ho hts hK hR hM hsz hroom => ?_⟩
  subst hl
  obtain ⟨⟨y1, y3, y4, y5⟩, y6, y7⟩ := hY
  have hin : ∀ w ∈ (.code y2 cy mL none :: zT : List Cond), w ∈ zT := fun w hw => by
    rcases List.mem_cons.mp hw with rfl | h
    · exact y1
    · exact h
  have hp : PreS _ _ _ (.ref (G.2.1 + r) :: As) := ⟨zblind G (.ref (G.2.1 + r) :: As) h, fun U hU hW => ⟨rfl, by rw [hU]; exact hM, by rw [hU]; exact hK.moved hW⟩⟩
  rcases hlink with hl | ⟨host, hl⟩
  · exact ⟨_, va_runI (n := n) ⟨hx, hb, hml, ho, hts⟩ hMet ⟨callB_of n hts (zgoodT hin) rfl rfl rfl (hts _ y3) (hts _ hl) y4 (zroom hdd y5 hR), y7, hts _ y6⟩ hp rfl hn hsz (by rw [hst]) (lv_room hcat) hd hroom⟩
  · exact ⟨_, va_runIN (n := n) ⟨hx, hb, hml, ho, hts⟩ hMet ⟨va_cnB n hts (zgoodT hin) rfl rfl rfl (hK.2.1.1 _ hl) (hts _ y3) y4 (zroom hdd y5 hR), y7, hts _ y6⟩ hp rfl hn hsz (by rw [hst]) (lv_room hcat) hd hroom⟩
theorem z_objI {idx r : Nat} (hd : decode cc pc = .ok (.invokespecial idx, 3)) (hlink : Cond.methodLink y.cls idx objectInit ∈ zT) (hin : Cond.instanceMethod objectInit ∈ zT) (hcode : Cond.code objectInit ⟨#[0xb1]⟩ 1 none ∈ zT) (h1 : 1 ≤ dd) (hcat : (st.map fun v => v.category).sum ≤ 8) (k : zTT G y cc nL dd ret rvf hff e (pc + 3) lv st h) : zTT G y cc nL dd ret rvf hff e pc lv (.ref r :: st) h :=
  z_lift (fun hx hb hml ho hts hR _ hl k => W.objInit hx hb ho (hts _ hlink) (hts _ hin) (hts _ hcode) rfl (by rw [hml]; exact hl.1) rfl hd (hR h1).1 (by have := (hR h1).2; show 2 * 0 + _ + 12 ≤ _; omega) (k _ hl)) k
theorem z_mmin {idx : Nat} {u v : Int32} (hd : decode cc pc = .ok (.invokestatic idx, 3)) (hlink : Cond.methodLink y.cls idx Lib.Math.min.name ∈ zT) (hs : Cond.static Lib.Math.min.name ∈ zT) (hi : Cond.initialized "java/lang/Math" ∈ zT) (hcode : Cond.code Lib.Math.min.name Lib.Math.min.code 2 (some .int) ∈ zT) (h1 : 1 ≤ dd) (hcat : (st.map fun v => v.category).sum ≤ 8) (k : zTT G y cc nL dd ret rvf hff e (pc + 3) lv (.int (if v < u then v else u) :: st) h) : zTT G y cc nL dd ret rvf hff e pc lv (.int v :: .int u :: st) h :=
  z_lift (fun hx hb hml ho hts hR hcs hl k => va_mmin hx hb (by rw [hml]; exact hl.1.symm) ho (hts _ hlink) (hts _ hs) (hts _ hi) (hts _ hcode) (hR h1).1 (by have := (hR h1).2; omega) hcs.1 hcs.2 hd (k _ hl)) k
theorem z_ifnull {b : Nat} {r : Option Nat} {e1 e2 : Option α} {off : Int} {tgt : Nat} (hd : decode cc pc = .ok (.ifnull off, 3)) (ht : (pc : Int) + off = (tgt : Int)) (k1 : r = none → zTT G y cc nL dd ret rvf hff e1 tgt lv st h) (k2 : ¬ r = none → zTT G y cc nL dd ret rvf hff e2 (pc + 3) lv st h) : zTT G y cc nL dd ret rvf hff (if r = none then e1 else e2) pc lv (zrv b r :: st) h := by
  cases r with
  | none => exact z_lift2 (fun hx hb k1 k2 => lv_ifnullN hx hb hd ht (k1 rfl)) k1 k2
  | some v => exact z_lift2 (fun hx hb k1 k2 => lv_ifnull hx hb hd (k2 (fun q => by cases q))) k1 k2
theorem z_ifnonnull {b : Nat} {r : Option Nat} {e1 e2 : Option α} {off : Int} {tgt : Nat} (hd : decode cc pc = .ok (.ifnonnull off, 3)) (ht : (pc : Int) + off = (tgt : Int)) (k1 : r = none → zTT G y cc nL dd ret rvf hff e1 (pc + 3) lv st h) (k2 : ¬ r = none → zTT G y cc nL dd ret rvf hff e2 tgt lv st h) : zTT G y cc nL dd ret rvf hff (if r = none then e1 else e2) pc lv (zrv b r :: st) h := by
  cases r with
  | none => exact z_lift2 (fun hx hb k1 k2 => lv_ifnonnullN hx hb hd (k1 rfl)) k1 k2
  | some v => exact z_lift2 (fun hx hb k1 k2 => lv_ifnonnull hx hb hd ht (k2 (fun q => by cases q))) k1 k2
theorem z_swOut {dflt lo hi : Int} {offs : Array Int} {len : Nat} {x : Int32} {tgt : Nat} (hd : decode cc pc = .ok (.tableswitch dflt lo hi offs, len)) (h0 : x.toInt < lo ∨ hi < x.toInt) (ht : (pc : Int) + dflt = (tgt : Int)) (k : zTT G y cc nL dd ret rvf hff e tgt lv st h) : zTT G y cc nL dd ret rvf hff e pc lv (.int x :: st) h := z_lift (fun hx hb _ _ _ _ _ hl k => lv_tableOut hx hb hd h0 ht (k _ hl)) k
theorem z_swIn {dflt lo hi : Int} {offs : Array Int} {len : Nat} {x : Int32} {off : Int} {tgt : Nat} (hd : decode cc pc = .ok (.tableswitch dflt lo hi offs, len)) (h1 : ¬ x.toInt < lo) (h2 : ¬ hi < x.toInt) (ho : offs[(x.toInt - lo).toNat]? = some off) (ht : (pc : Int) + off = (tgt : Int)) (k : zTT G y cc nL dd ret rvf hff e tgt lv st h) : zTT G y cc nL dd ret rvf hff e pc lv (.int x :: st) h := z_lift (fun hx hb _ _ _ _ _ hl k => lv_tableIn hx hb hd h1 h2 ho ht (k _ hl)) k
theorem z_cases {c1 : Prop} {e1 e2 : Option α} [Decidable c1] (k1 : c1 → zTT G y cc nL dd ret rvf hff e1 pc lv st h) (k2 : ¬ c1 → zTT G y cc nL dd ret rvf hff e2 pc lv st h) : zTT G y cc nL dd ret rvf hff (if c1 then e1 else e2) pc lv st h := by
  by_cases hc : c1
  · rw [if_pos hc]; exact k1 hc
  · rw [if_neg hc]; exact k2 hc
end ZL
theorem z_joinS {G : Zg} {y : MethodName} {cc : ByteArray} {nL dd : Nat} {ret : Option FieldType} {α β : Type} {rvf : α → Option Value} {hff : α → Zh} {pc : Nat} {lv : List (Nat × Value)} {st : List Value} {h : Zh} {E : Option (β ⊕ α)} {F : β ⊕ α → Option α} {pc2 : Nat} {lv2 : β → List (Nat × Value)} {st2 : β → List Value} {h2 : β → Zh} (k : ∀ x, zTT G y cc nL dd ret rvf hff (F (.inl x)) pc2 (lv2 x) (st2 x) (h2 x)) (hr : ∀ a, F (.inr a) = some a)
    (r : ∀ F' : β ⊕ α → Option α, (∀ x, zTT G y cc nL dd ret rvf hff (F' (.inl x)) pc2 (lv2 x) (st2 x) (h2 x)) → (∀ a, F' (.inr a) = some a) → zTT G y cc nL dd ret rvf hff (E.bind F') pc lv st h) : zTT G y cc nL dd ret rvf hff (E.bind F) pc lv st h := r F k hr
theorem zne {x : Int32} {n : Int} (hn : -2147483648 ≤ n ∧ n < 2147483648) (h : ¬ x = Int32.ofInt n) : x.toInt ≠ n := fun e => h (by rw [← e, Int32.ofInt_toInt])
theorem zsw4 {x : Int32} (n0 : ¬ x = (0 : Int32)) (n1 : ¬ x = (1 : Int32)) (n2 : ¬ x = (2 : Int32)) (n3 : ¬ x = (3 : Int32)) : x.toInt < 0 ∨ 3 < x.toInt := by
  have h0 := zne (x := x) (n := 0) (by decide) n0
  have h1 := zne (x := x) (n := 1) (by decide) n1
  have h2 := zne (x := x) (n := 2) (by decide) n2
  have h3 := zne (x := x) (n := 3) (by decide) n3
  omega
theorem zsw5 {x : Int32} (n0 : ¬ x = (0 : Int32)) (n1 : ¬ x = (1 : Int32)) (n2 : ¬ x = (2 : Int32)) (n3 : ¬ x = (3 : Int32)) (n4 : ¬ x = (4 : Int32)) : x.toInt < 0 ∨ 4 < x.toInt := by
  have h0 := zne (x := x) (n := 0) (by decide) n0
  have h1 := zne (x := x) (n := 1) (by decide) n1
  have h2 := zne (x := x) (n := 2) (by decide) n2
  have h3 := zne (x := x) (n := 3) (by decide) n3
  have h4 := zne (x := x) (n := 4) (by decide) n4
  omega
theorem zsw6 {x : Int32} (n0 : ¬ x = (0 : Int32)) (n1 : ¬ x = (1 : Int32)) (n2 : ¬ x = (2 : Int32)) (n3 : ¬ x = (3 : Int32)) (n4 : ¬ x = (4 : Int32)) (n5 : ¬ x = (5 : Int32)) : x.toInt < 0 ∨ 5 < x.toInt := by
  have h0 := zne (x := x) (n := 0) (by decide) n0
  have h1 := zne (x := x) (n := 1) (by decide) n1
  have h2 := zne (x := x) (n := 2) (by decide) n2
  have h3 := zne (x := x) (n := 3) (by decide) n3
  have h4 := zne (x := x) (n := 4) (by decide) n4
  have h5 := zne (x := x) (n := 5) (by decide) n5
  omega
theorem zsw23 {x : Int32} (n0 : ¬ x = (0 : Int32)) (n1 : ¬ x = (1 : Int32)) (n2 : ¬ x = (2 : Int32)) (n3 : ¬ x = (3 : Int32)) (n4 : ¬ x = (4 : Int32)) (n5 : ¬ x = (5 : Int32)) (n6 : ¬ x = (6 : Int32)) (n7 : ¬ x = (7 : Int32)) (n8 : ¬ x = (8 : Int32)) (n9 : ¬ x = (9 : Int32)) (n10 : ¬ x = (10 : Int32)) (n11 : ¬ x = (11 : Int32)) (n12 : ¬ x = (12 : Int32)) (n13 : ¬ x = (13 : Int32)) (n14 : ¬ x = (14 : Int32)) (n15 : ¬ x = (15 : Int32)) (n16 : ¬ x = (16 : Int32)) (n17 : ¬ x = (17 : Int32)) (n18 : ¬ x = (18 : Int32)) (n19 : ¬ x = (19 : Int32)) (n20 : ¬ x = (20 : Int32)) (n21 : ¬ x = (21 : Int32)) (n22 : ¬ x = (22 : Int32)) : x.toInt < 0 ∨ 22 < x.toInt := by
  have h0 := zne (x := x) (n := 0) (by decide) n0
  have h1 := zne (x := x) (n := 1) (by decide) n1
  have h2 := zne (x := x) (n := 2) (by decide) n2
  have h3 := zne (x := x) (n := 3) (by decide) n3
  have h4 := zne (x := x) (n := 4) (by decide) n4
  have h5 := zne (x := x) (n := 5) (by decide) n5
  have h6 := zne (x := x) (n := 6) (by decide) n6
  have h7 := zne (x := x) (n := 7) (by decide) n7
  have h8 := zne (x := x) (n := 8) (by decide) n8
  have h9 := zne (x := x) (n := 9) (by decide) n9
  have h10 := zne (x := x) (n := 10) (by decide) n10
  have h11 := zne (x := x) (n := 11) (by decide) n11
  have h12 := zne (x := x) (n := 12) (by decide) n12
  have h13 := zne (x := x) (n := 13) (by decide) n13
  have h14 := zne (x := x) (n := 14) (by decide) n14
  have h15 := zne (x := x) (n := 15) (by decide) n15
  have h16 := zne (x := x) (n := 16) (by decide) n16
  have h17 := zne (x := x) (n := 17) (by decide) n17
  have h18 := zne (x := x) (n := 18) (by decide) n18
  have h19 := zne (x := x) (n := 19) (by decide) n19
  have h20 := zne (x := x) (n := 20) (by decide) n20
  have h21 := zne (x := x) (n := 21) (by decide) n21
  have h22 := zne (x := x) (n := 22) (by decide) n22
  omega
