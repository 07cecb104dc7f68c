/-! the heap's steps -/
def zob (h : Zh) (r : Option Nat) (kd : Nat) : Option Nat := r.bind fun v => if v < zn h ∧ zk h v = kd then some v else none
def zbo (x : Int32) : Option Int32 := if x = 0 ∨ x = 1 then some x else none
def zfI (h : Zh) (r : Option Nat) (ci k : Nat) : Option Int32 := (zob h r (ci + 1)).bind fun v => some (zi h v k)
def zfP (h : Zh) (r : Option Nat) (ci k : Nat) : Option (Option Nat) := (zob h r (ci + 1)).bind fun v => some (zp h v k)
def zgI (h : Zh) (r : Option Nat) (ci k : Nat) (x : Int32) : Option Zh := (zob h r (ci + 1)).bind fun v => some (zsetI h v k x)
def zgP (h : Zh) (r : Option Nat) (ci k : Nat) (x : Option Nat) : Option Zh := (zob h r (ci + 1)).bind fun v => some (zsetP h v k x)
def zix (n : Nat) (j : Int32) : Option Nat := if j < 0 ∨ n ≤ j.toNatClampNeg then none else some j.toNatClampNeg
def zaI (h : Zh) (r : Option Nat) (j : Int32) : Option Int32 := (zob h r 100).bind fun v => (zix (zl h v) j).bind fun q => some (zi h v q)
def zaZ (h : Zh) (r : Option Nat) (j : Int32) : Option Int32 := (zob h r 101).bind fun v => (zix (zl h v) j).bind fun q => some (zi h v q)
def zaP (h : Zh) (r : Option Nat) (t : Nat) (j : Int32) : Option (Option Nat) := (zob h r (100 + t)).bind fun v => (zix (zl h v) j).bind fun q => some (zp h v q)
def zbI (h : Zh) (r : Option Nat) (j x : Int32) : Option Zh := (zob h r 100).bind fun v => (zix (zl h v) j).bind fun q => some (zsetI h v q x)
def zbZ (h : Zh) (r : Option Nat) (j x : Int32) : Option Zh := (zob h r 101).bind fun v => (zix (zl h v) j).bind fun q => (zbo x).bind fun x => some (zsetI h v q x)
def zbP (h : Zh) (r : Option Nat) (t ci : Nat) (j : Int32) (x : Option Nat) : Option Zh := (zob h r (100 + t)).bind fun v => (zix (zl h v) j).bind fun q => if x = none ∨ zob h x (ci + 1) = x then some (zsetP h v q x) else none
def zaL (h : Zh) (r : Option Nat) (t : Nat) : Option Int32 := (zob h r (100 + t)).bind fun v => some (Int32.ofNat (zl h v))
def zmO (h : Zh) (ci N : Nat) : Option (Option Nat × Zh) := some (some (zn h), znew h (ci + 1) 0 N)
def zmA (h : Zh) (t : Nat) (n : Int32) : Option (Option Nat × Zh) := if n < 0 ∨ 536870912 < n.toNatClampNeg * 4 then none else some (some (zn h), znew h (100 + t) n.toNatClampNeg n.toNatClampNeg)
theorem zob_some {h : Zh} {r : Option Nat} {kd v : Nat} (e : zob h r kd = some v) : r = some v ∧ v < zn h ∧ zk h v = kd := by
  unfold zob at e
  cases r with
  | none => cases e
  | some u =>
    simp only [Option.bind_some] at e
    split at e
    · rename_i hh
      cases e
      exact ⟨rfl, hh⟩
    · cases e
theorem zbo_some {x y : Int32} (e : zbo x = some y) : y = x ∧ (x = 0 ∨ x = 1) := by
  unfold zbo at e
  split at e
  · rename_i hh; cases e; exact ⟨rfl, hh⟩
  · cases e
theorem zix_some {n q : Nat} {j : Int32} (e : zix n j = some q) : q = j.toNatClampNeg ∧ vp_in j n := by
  unfold zix at e
  split at e
  · cases e
  · rename_i hh; cases e; exact ⟨rfl, hh⟩
/-- a class of the world: its place, its name, fields, types -/
def zKl (ci : Nat) (C : String) (T : u_T) (N : Nat) (ty : Nat → FieldType) : Prop :=
  vwCl[ci]? = some (C, T, N) ∧ (∀ w ∈ u_ws C T N, w ∈ zT) ∧ (∀ k, k < N → parseFieldDescriptor (T k).2.2.1 = some (ty k)) ∧ (∀ a, a < N → ∀ b, b < N → a ≠ b → (T a).2.1 ≠ (T b).2.1) ∧ (zf ci).length = N ∧ ci < 90
def zty (t : Nat) : FieldType := match t with
  | 0 => .int
  | 1 => .int
  | 2 => .object "TrailFinder$Case"
  | 3 => .object "TrailFinder$Piece"
  | 4 => .object "TrailFinder$Share"
  | _ => .object "java/lang/Object"
theorem ztys_get {cA : Nat → ClassId} {t : Nat} (ht : t < 6) : (ztys cA)[t]? = some (cA t, zty t) := by
  rcases (show t = 0 ∨ t = 1 ∨ t = 2 ∨ t = 3 ∨ t = 4 ∨ t = 5 by omega) with rfl | rfl | rfl | rfl | rfl | rfl <;> rfl
theorem zva_S {b : Nat} {H0 H H1 : Heap} {locs : List Loc} {a k : Nat} (hS : va_S (fun q => b ≤ q) H0 H locs) (hz : H1.size = H.size) (ho : ∀ q : Nat, q ≠ a → H1[q]? = H[q]?) (ha : b ≤ a) : va_S (fun q => b ≤ q) H0 H1 (locs ++ [⟨a, k⟩]) := hS.put hz ho ha
theorem zn_setI (h : Zh) (v k : Nat) (x : Int32) : zn (zsetI h v k x) = zn h := rfl
theorem zcell_setI {b : Nat} {cA : Nat → ClassId} {h : Zh} {v k u : Nat} {x : Int32} (hu : u ≠ v) : zcell b cA (zsetI h v k x) u = zcell b cA h u :=
  zcell_congr rfl rfl (by funext j; show u2 _ v k x u j = _; unfold u2; rw [if_neg (fun q => hu q.1)]; rfl) rfl
theorem zcell_setP {b : Nat} {cA : Nat → ClassId} {h : Zh} {v k u : Nat} {x : Option Nat} (hu : u ≠ v) : zcell b cA (zsetP h v k x) u = zcell b cA h u :=
  zcell_congr rfl rfl rfl (by funext j; show u2 _ v k x u j = _; unfold u2; rw [if_neg (fun q => hu q.1)]; rfl)
theorem zsame {s : State} {args : Array Value} {ref C n d : String} (hts : ∀ w ∈ zT, w.before args s = true) (h : ref = C ∨ Cond.sameField ref C n d ∈ zT) : ∀ x, s.fieldFound? C n d = some x → s.fieldFound? ref n d = some x := by
  rcases h with rfl | h
  · exact fun _ h => h
  · exact fun x hx => u_same (hts _ h) x hx
section ZH
variable {G : Zg} {y : MethodName} {cc : ByteArray} {nL dd : Nat} {ret : Option FieldType} {α β : Type} {rvf : α → Option Value} {hff : α → Zh} {e : Option α} {pc : Nat} {lv : List (Nat × Value)} {st rest : List Value} {h : Zh}
theorem z_bo {x : Int32} {F : Int32 → Option α} (k : x = 0 ∨ x = 1 → zTT G y cc nL dd ret rvf hff (F x) pc lv st h) : zTT G y cc nL dd ret rvf hff ((zbo x).bind F) pc lv st h := by
  unfold zbo
  by_cases hx : x = 0 ∨ x = 1
  · rw [if_pos hx]; exact k hx
  · rw [if_neg hx]; intro a ha; cases ha
theorem z_ob {r : Option Nat} {kd : Nat} {F : Nat → Option α} (k : ∀ v, r = some v → v < zn h → zk h v = kd → zTT G y cc nL dd ret rvf hff (F v) pc lv st h) : zTT G y cc nL dd ret rvf hff ((zob h r kd).bind F) pc lv st h := by
  cases hr : zob h r kd with
  | none => intro a ha; cases ha
  | some v =>
    obtain ⟨h1, h2, h3⟩ := zob_some hr
    exact k v h1 h2 h3
/-- a step that reads a cell -/
theorem z_rd {pc' : Nat} {st' : List Value} {v : Nat} (hv : v < zn h) (hk0 : zk h v ≠ 0) (hk6 : zk h v ≠ 106)
    (f : ∀ {p : Program} {l : Launch} {en : Env} {R : Room} {s : State} {m : MethodId} {args : Array Value} {below : List Frame} {meth : Method} {c : Code} {H : Heap} {locs : List Loc} {cells slots : Nat} {Q : State → Prop} {ls : Array Slot},
      p.tables.exec = Jvm.exec → c.code = cc → s.vm.findClass y.cls = some m.cls → (∀ w ∈ zT, w.before args s = true) → va_K G.2.2.1 vwCl (ztys G.2.2.2.1) s → zNW s → va_P G.2.2.1 vwCl [(G.2.1 + v, zcell G.2.1 G.2.2.2.1 h v)] H → 
      W p l en R s m args below meth c H locs cells slots Q (F0 m pc' ls st') → W p l en R s m args below meth c H locs cells slots Q (F0 m pc ls st))
    (kk : zTT G y cc nL dd ret rvf hff e pc' lv st' h) : zTT G y cc nL dd ret rvf hff e pc lv st h := by
  intro a0 ha
  obtain ⟨hm, hw⟩ := kk a0 ha
  refine ⟨hm, fun p l en R s m args below meth c n0 s0 Q hC hfin hn hs ls H locs hl hM hS => ?_⟩
  have hC2 := hC
  obtain ⟨hx, hb, hml, ho, hts, hK, -⟩ := hC2
  exact f hx hb ho hts hK.1 hK.2.1 (zP1 (hM.2.2.1 v hv hk0 hk6).1) (hw p l en R s m args below meth c n0 s0 Q hC hfin hn hs ls H locs hl hM hS)
theorem z_getI {ci k idx N : Nat} {C : String} {T : u_T} {ty : Nat → FieldType} {r : Option Nat} {F : Int32 → Option α} (hd : decode cc pc = .ok (.getfield idx, 3)) (hkl : zKl ci C T N ty) (hk : k < N) (hf : (zf ci).getD k false = false)
    {ref : String} (hlink : Cond.fieldLink y.cls idx ref (T k).2.1 (T k).2.2.1 ∈ zT ∨ ∃ host, Cond.fieldLinkNest y.cls idx ref (T k).2.1 (T k).2.2.1 host ∈ zTN) (kk : ∀ x, zTT G y cc nL dd ret rvf hff (F x) (pc + 3) lv (.int x :: st) h) (hsm : ref = (T k).1 ∨ Cond.sameField ref (T k).1 (T k).2.1 (T k).2.2.1 ∈ zT := by exact Or.inl rfl) : zTT G y cc nL dd ret rvf hff ((zfI h r ci k).bind F) pc lv (zrv G.2.1 r :: st) h := by
  unfold zfI
  refine z_as (z_ob fun v hr hv hkd => z_sb ?_)
  subst hr
  obtain ⟨hcl, hin, -, -, hN, h9⟩ := hkl
  refine z_rd hv (by omega) (by omega) (fun hx hb ho hts hK hNW hP k => ?_) (kk (zi h v k))
  rw [zcell_o hkd h9] at hP
  rcases hlink with hl | ⟨host, hl⟩
  · exact va_get hx hb hts hin ho hK hP 0 rfl hcl _ hk (hts _ hl) (zsame hts hsm) (by rw [zfs_get (by rw [hN]; exact hk), hf]; rfl) hd k
  · exact va_getN hx hb hts hin ho hK hP 0 rfl hcl _ hk (znu hNW hl) (zsame hts hsm) (by rw [zfs_get (by rw [hN]; exact hk), hf]; rfl) hd k
theorem z_getP {ci k idx N : Nat} {C : String} {T : u_T} {ty : Nat → FieldType} {r : Option Nat} {F : Option Nat → Option α} (hd : decode cc pc = .ok (.getfield idx, 3)) (hkl : zKl ci C T N ty) (hk : k < N) (hf : (zf ci).getD k false = true)
    {ref : String} (hlink : Cond.fieldLink y.cls idx ref (T k).2.1 (T k).2.2.1 ∈ zT ∨ ∃ host, Cond.fieldLinkNest y.cls idx ref (T k).2.1 (T k).2.2.1 host ∈ zTN) (kk : ∀ x, zTT G y cc nL dd ret rvf hff (F x) (pc + 3) lv (zrv G.2.1 x :: st) h) (hsm : ref = (T k).1 ∨ Cond.sameField ref (T k).1 (T k).2.1 (T k).2.2.1 ∈ zT := by exact Or.inl rfl) : zTT G y cc nL dd ret rvf hff ((zfP h r ci k).bind F) pc lv (zrv G.2.1 r :: st) h := by
  unfold zfP
  refine z_as (z_ob fun v hr hv hkd => z_sb ?_)
  subst hr
  obtain ⟨hcl, hin, -, -, hN, h9⟩ := hkl
  refine z_rd hv (by omega) (by omega) (fun hx hb ho hts hK hNW hP k => ?_) (kk (zp h v k))
  rw [zcell_o hkd h9] at hP
  rcases hlink with hl | ⟨host, hl⟩
  · exact va_get hx hb hts hin ho hK hP 0 rfl hcl _ hk (hts _ hl) (zsame hts hsm) (by rw [zfs_get (by rw [hN]; exact hk), hf]; rfl) hd k
  · exact va_getN hx hb hts hin ho hK hP 0 rfl hcl _ hk (znu hNW hl) (zsame hts hsm) (by rw [zfs_get (by rw [hN]; exact hk), hf]; rfl) hd k
theorem z_iald {r : Option Nat} {j : Int32} {F : Int32 → Option α} (hd : decode cc pc = .ok (.iaload, 1)) (kk : ∀ x, zTT G y cc nL dd ret rvf hff (F x) (pc + 1) lv (.int x :: st) h) : zTT G y cc nL dd ret rvf hff ((zaI h r j).bind F) pc lv (.int j :: zrv G.2.1 r :: st) h := by
  unfold zaI
  refine z_as (z_ob fun v hr hv hkd => z_as ?_)
  subst hr
  cases hq : zix (zl h v) j with
  | none => intro a ha; cases ha
  | some q =>
    obtain ⟨rfl, hin⟩ := zix_some hq
    refine z_sb (z_rd hv (by omega) (by omega) (fun hx hb ho hts hK hNW hP k => ?_) (kk (zi h v j.toNatClampNeg)))
    rw [zcell_i hkd] at hP
    exact va_iald hx hb hK hP 0 0 rfl (ztys_get (by decide)) hin hd k
theorem zobj_ty {t : Nat} (h2 : 2 ≤ t) (h6 : t < 6) : ∃ C, zty t = .object C := by
  rcases (show t = 2 ∨ t = 3 ∨ t = 4 ∨ t = 5 by omega) with rfl | rfl | rfl | rfl <;> exact ⟨_, rfl⟩
theorem z_aald {r : Option Nat} {t : Nat} {j : Int32} {F : Option Nat → Option α} (hd : decode cc pc = .ok (.aaload, 1)) (h2 : 2 ≤ t) (h6 : t < 6) (kk : ∀ x, zTT G y cc nL dd ret rvf hff (F x) (pc + 1) lv (zrv G.2.1 x :: st) h) : zTT G y cc nL dd ret rvf hff ((zaP h r t j).bind F) pc lv (.int j :: zrv G.2.1 r :: st) h := by
  unfold zaP
  refine z_as (z_ob fun v hr hv hkd => z_as ?_)
  subst hr
  cases hq : zix (zl h v) j with
  | none => intro a ha; cases ha
  | some q =>
    obtain ⟨rfl, hin⟩ := zix_some hq
    refine z_sb (z_rd hv (by omega) (by omega) (fun hx hb ho hts hK hNW hP k => ?_) (kk (zp h v j.toNatClampNeg)))
    obtain ⟨C, hC⟩ := zobj_ty h2 h6
    rw [zcell_q h2 hkd] at hP
    exact va_aldq hx hb hK hP 0 t rfl (by rw [ztys_get h6, hC]) hin hd k
theorem z_alen {r : Option Nat} {t : Nat} {F : Int32 → Option α} (hd : decode cc pc = .ok (.arraylength, 1)) (h6 : t < 6) (kk : ∀ x, zTT G y cc nL dd ret rvf hff (F x) (pc + 1) lv (.int x :: st) h) : zTT G y cc nL dd ret rvf hff ((zaL h r t).bind F) pc lv (zrv G.2.1 r :: st) h := by
  unfold zaL
  refine z_as (z_ob fun v hr hv hkd => z_sb ?_)
  subst hr
  refine z_rd hv (by omega) (by omega) (fun hx hb ho hts hK hNW hP k => ?_) (kk (Int32.ofNat (zl h v)))
  rcases (show t = 0 ∨ t = 1 ∨ 2 ≤ t by omega) with rfl | rfl | h2
  · rw [zcell_i hkd] at hP
    exact va_alen hx hb hK hP 0 0 rfl (ztys_get (by decide)) rfl hd k
  · rw [zcell_z hkd] at hP
    exact va_alen hx hb hK hP 0 1 rfl (ztys_get (by decide)) rfl hd k
  · rw [zcell_q h2 hkd] at hP
    exact va_alen hx hb hK hP 0 t rfl (ztys_get h6) rfl hd k
/-- a step that writes a cell -/
theorem z_wr {h' : Zh} {pc' : Nat} {st' : List Value} {v : Nat} (hv : v < zn h) (hk0 : zk h v ≠ 0) (hk6 : zk h v ≠ 106) (hw0 : ¬ (zk h v = 105 ∧ zl h v = 0)) (hkk : zk h' = zk h) (hll : zl h' = zl h) (hz : zn h' = zn h) (hs2 : zs h' = zs h) (hc : ∀ (b : Nat) (cA : Nat → ClassId) (u : Nat), u ≠ v → zcell b cA h' u = zcell b cA h u)
    (f : ∀ {p : Program} {l : Launch} {en : Env} {R : Room} {s : State} {m : MethodId} {args : Array Value} {below : List Frame} {meth : Method} {c : Code} {H : Heap} {locs : List Loc} {cells slots : Nat} {Q : State → Prop} {ls : Array Slot},
      p.tables.exec = Jvm.exec → c.code = cc → s.vm.findClass y.cls = some m.cls → (∀ w ∈ zT, w.before args s = true) → va_K G.2.2.1 vwCl (ztys G.2.2.2.1) s → zNW s → (y.name = "<init>" → meth.name = "<init>") → zMM G h H → 
      (∀ (H1 : Heap) (k : Nat), va_at G.2.2.1 vwCl (G.2.1 + v, zcell G.2.1 G.2.2.2.1 h' v) H1 → H1.size = H.size → (∀ q : Nat, q ≠ G.2.1 + v → H1[q]? = H[q]?) → W p l en R s m args below meth c H1 (locs ++ [⟨G.2.1 + v, k⟩]) cells slots Q (F0 m pc' ls st')) → W p l en R s m args below meth c H locs cells slots Q (F0 m pc ls st))
    (kk : zTT G y cc nL dd ret rvf hff e pc' lv st' h') : zTT G y cc nL dd ret rvf hff e pc lv st h := by
  intro a0 ha
  obtain ⟨hm, hw⟩ := kk a0 ha
  rw [hz, hs2] at hm
  refine ⟨hm, fun p l en R s m args below meth c n0 s0 Q hC hfin hn hs ls H locs hl hM hS => ?_⟩
  have hC2 := hC
  obtain ⟨hx, hb, hml, ho, hts, hK, -, -, hnm, -⟩ := hC2
  have hb0 := (hM.2.2.1 v hv hk0 hk6).2.resolve_right hw0
  refine f hx hb ho hts hK.1 hK.2.1 hnm hM (fun H1 k e1 e2 e3 => ?_)
  have := hw p l en R s m args below meth c n0 s0 Q hC hfin (by rw [hz]; exact hn) (by rw [hs2]; exact hs) ls H1 _ hl (hM.upd e2 hz hkk hll e3 (hc _ _) e1) (zva_S (k := k) hS e2 e3 hb0)
  rw [hz, hs2] at this
  exact this
theorem z_put {h' : Zh} {ci k0 idx N v : Nat} {C : String} {T : u_T} {ty : Nat → FieldType} {x : Value} (hd : decode cc pc = .ok (.putfield idx, 3)) (hkl : zKl ci C T N ty) (hk : k0 < N)
    {ref : String} (hlink : Cond.fieldLink y.cls idx ref (T k0).2.1 (T k0).2.2.1 ∈ zT ∨ ∃ host, Cond.fieldLinkNest y.cls idx ref (T k0).2.1 (T k0).2.2.1 host ∈ zTN) (hsm : ref = (T k0).1 ∨ Cond.sameField ref (T k0).1 (T k0).2.1 (T k0).2.2.1 ∈ zT) (hfin : (T k0).2.2.2 = false ∨ ((T k0).2.2.2 = true ∧ y.name = "<init>" ∧ (T k0).1 = y.cls ∧ Cond.fieldLink y.cls idx (T k0).1 (T k0).2.1 (T k0).2.2.1 ∈ zT)) (hnar : narrow (ty k0) x = x) (hfit : fits (ty k0) x = true)
    (hv : v < zn h) (hkd : zk h v = ci + 1) (hkk : zk h' = zk h) (hll : zl h' = zl h) (hz : zn h' = zn h) (hs2 : zs h' = zs h) (hc : ∀ (b : Nat) (cA : Nat → ClassId) (u : Nat), u ≠ v → zcell b cA h' u = zcell b cA h u) (hkd' : zk h' v = ci + 1) (hset : (zfs G.2.1 h v ci).set k0 x = zfs G.2.1 h' v ci)
    (kk : zTT G y cc nL dd ret rvf hff e (pc + 3) lv st h') : zTT G y cc nL dd ret rvf hff e pc lv (x :: .ref (G.2.1 + v) :: st) h := by
  obtain ⟨hcl, hin, hty, hnm, hN, h9⟩ := hkl
  refine z_wr hv (by omega) (by omega) (by omega) hkk hll hz hs2 hc (fun {p l en R s m args below meth c H locs cells slots Q ls} hx hb ho hts hK hNW hn hM k => ?_) kk
  have hat := (hM.2.2.1 v hv (by omega) (by omega)).1
  rw [zcell_o hkd h9] at hat
  rw [zcell_o hkd' h9, ← hset] at k
  have hap := va_apart (own := y.cls) hts hin ty hty hnm hK hcl
  obtain ⟨r, h1, cell, q1, q2, q3, q4⟩ := hat
  have hr := Option.some.inj (h1.symm.trans hcl)
  subst hr
  obtain ⟨hS, hfc, kC, hkC, hkind⟩ := hK.1 ci _ hcl
  obtain ⟨cf, kf, fi, f, hi, hsl⟩ := hS _ hk
  have hlay := hts _ (hin _ (u_in_lay hk))
  have hst := (u_facts hfc hkC (u_lays hts hin hk) hi).1
  unfold u_lay at hlay
  rcases hfin with hf | ⟨hf, hini, hdecl, hlF⟩
  · rw [if_neg (by rw [hf]; decide)] at hlay
    have h6 := u_store hfc hkC hkind hlay hi (hty _ hk) hnar hfit
    rcases hlink with hl | ⟨host, hl⟩
    · refine W.putK hx hb (f := f) ⟨ho, hts _ hl, ⟨_, _, _, zsame hts hsm _ hi⟩, hst⟩ (by rw [q2]; exact h6) q1 q3 (by rw [hsl]; exact k2_hasslot (q4 _ hk)) rfl rfl hd fun H' e1 e2 e3 => ?_
      rw [hsl] at e1
      exact k H' _ ⟨_, hcl, t_OB.to (V := updV (vp_V (zfs G.2.1 h v ci)) k0 x) ⟨_, e1, q2, q3, t_set q4 hap hk x⟩ (fun j _ => vp_updV_set (by rw [zfs_len, hN]; exact hk) x j)⟩ e2 e3
    · refine va_WputK hx hb (f := f) ho (znu hNW hl) (zsame hts hsm _ hi) hst (by rw [q2]; exact h6) q1 q3 (by rw [hsl]; exact k2_hasslot (q4 _ hk)) rfl rfl hd fun H' e1 e2 e3 => ?_
      rw [hsl] at e1
      exact k H' _ ⟨_, hcl, t_OB.to (V := updV (vp_V (zfs G.2.1 h v ci)) k0 x) ⟨_, e1, q2, q3, t_set q4 hap hk x⟩ (fun j _ => vp_updV_set (by rw [zfs_len, hN]; exact hk) x j)⟩ e2 e3
  · rw [if_pos hf] at hlay
    have hcf : m.cls = cf := by
      obtain ⟨_, _, c', _, _, _, -, -, hf', -, -, -, hown2, -⟩ := Cond.laysFinal_spec hlay
      have e1 : c' = cf := by have := hi.symm.trans hf'; simp at this; exact this.1.symm
      rw [hdecl] at hown2
      rw [← e1]; exact Option.some.inj (ho.symm.trans hown2)
    have h6 := u_fits hfc hkC hkind (Or.inr hlay) hi (hty _ hk) hnar hfit
    refine W.putFinK hx hb ho (hts _ hlF) hi hst hcf (hn hini) (by rw [q2]; exact h6) q1 q3 (by rw [hsl]; exact k2_hasslot (q4 _ hk)) rfl rfl hd fun H' e1 e2 e3 => ?_
    rw [hsl] at e1
    exact k H' _ ⟨_, hcl, t_OB.to (V := updV (vp_V (zfs G.2.1 h v ci)) k0 x) ⟨_, e1, q2, q3, t_set q4 hap hk x⟩ (fun j _ => vp_updV_set (by rw [zfs_len, hN]; exact hk) x j)⟩ e2 e3
theorem z_putI {ci k idx N : Nat} {C : String} {T : u_T} {ty : Nat → FieldType} {x : Int32} {r : Option Nat} {F : Zh → Option α} (hd : decode cc pc = .ok (.putfield idx, 3)) (hkl : zKl ci C T N ty) (hk : k < N)
    {ref : String} (hlink : Cond.fieldLink y.cls idx ref (T k).2.1 (T k).2.2.1 ∈ zT ∨ ∃ host, Cond.fieldLinkNest y.cls idx ref (T k).2.1 (T k).2.2.1 host ∈ zTN) (hfin : (T k).2.2.2 = false ∨ ((T k).2.2.2 = true ∧ y.name = "<init>" ∧ (T k).1 = y.cls ∧ Cond.fieldLink y.cls idx (T k).1 (T k).2.1 (T k).2.2.1 ∈ zT)) (hnar : narrow (ty k) (.int x) = .int x) (hfit : fits (ty k) (.int x) = true) (hf : (zf ci).getD k false = false)
    (kk : ∀ h', zTT G y cc nL dd ret rvf hff (F h') (pc + 3) lv st h') (hsm : ref = (T k).1 ∨ Cond.sameField ref (T k).1 (T k).2.1 (T k).2.2.1 ∈ zT := by exact Or.inl rfl) : zTT G y cc nL dd ret rvf hff ((zgI h r ci k x).bind F) pc lv (.int x :: zrv G.2.1 r :: st) h := by
  unfold zgI
  refine z_as (z_ob fun v hr hv hkd => z_sb ?_)
  subst hr
  have hN : (zf ci).length = N := hkl.2.2.2.2.1
  refine z_put hd hkl hk hlink hsm hfin hnar hfit hv hkd (h' := zsetI h v k x) rfl rfl rfl rfl (fun b cA u hu => zcell_setI hu) hkd (zfs_set (by rw [hN]; exact hk) ?_ (fun j hj => ⟨rfl, ?_⟩)) (kk _)
  · rw [hf]; show Value.int (u2 _ v k x v k) = _; unfold u2; rw [if_pos ⟨rfl, rfl⟩]
  · show u2 _ v k x v j = _; unfold u2; rw [if_neg (fun q => hj q.2)]; rfl
theorem z_putP {ci k idx N : Nat} {C : String} {T : u_T} {ty : Nat → FieldType} {x r : Option Nat} {F : Zh → Option α} (hd : decode cc pc = .ok (.putfield idx, 3)) (hkl : zKl ci C T N ty) (hk : k < N)
    {ref : String} (hlink : Cond.fieldLink y.cls idx ref (T k).2.1 (T k).2.2.1 ∈ zT ∨ ∃ host, Cond.fieldLinkNest y.cls idx ref (T k).2.1 (T k).2.2.1 host ∈ zTN) (hfin : (T k).2.2.2 = false ∨ ((T k).2.2.2 = true ∧ y.name = "<init>" ∧ (T k).1 = y.cls ∧ Cond.fieldLink y.cls idx (T k).1 (T k).2.1 (T k).2.2.1 ∈ zT)) (hty : ∀ a : Option Nat, narrow (ty k) (va_rf a) = va_rf a ∧ fits (ty k) (va_rf a) = true) (hf : (zf ci).getD k false = true)
    (kk : ∀ h', zTT G y cc nL dd ret rvf hff (F h') (pc + 3) lv st h') (hsm : ref = (T k).1 ∨ Cond.sameField ref (T k).1 (T k).2.1 (T k).2.2.1 ∈ zT := by exact Or.inl rfl) : zTT G y cc nL dd ret rvf hff ((zgP h r ci k x).bind F) pc lv (zrv G.2.1 x :: zrv G.2.1 r :: st) h := by
  unfold zgP
  refine z_as (z_ob fun v hr hv hkd => z_sb ?_)
  subst hr
  have hN : (zf ci).length = N := hkl.2.2.2.2.1
  refine z_put hd hkl hk hlink hsm hfin (hty _).1 (hty _).2 hv hkd (h' := zsetP h v k x) rfl rfl rfl rfl (fun b cA u hu => zcell_setP hu) hkd (zfs_set (by rw [hN]; exact hk) ?_ (fun j hj => ⟨?_, rfl⟩)) (kk _)
  · rw [hf]; show zrv _ (u2 _ v k x v k) = _; unfold u2; rw [if_pos ⟨rfl, rfl⟩]
  · show u2 _ v k x v j = _; unfold u2; rw [if_neg (fun q => hj q.2)]; rfl
theorem z_iast {r : Option Nat} {j x : Int32} {F : Zh → Option α} (hd : decode cc pc = .ok (.iastore, 1)) (kk : ∀ h', zTT G y cc nL dd ret rvf hff (F h') (pc + 1) lv st h') : zTT G y cc nL dd ret rvf hff ((zbI h r j x).bind F) pc lv (.int x :: .int j :: zrv G.2.1 r :: st) h := by
  unfold zbI
  refine z_as (z_ob fun v hr hv hkd => z_as ?_)
  subst hr
  cases hq : zix (zl h v) j with
  | none => intro a ha; cases ha
  | some q =>
    obtain ⟨rfl, hin⟩ := zix_some hq
    refine z_sb (z_wr hv (by omega) (by omega) (by omega) (h' := zsetI h v j.toNatClampNeg x) rfl rfl rfl rfl (fun b cA u hu => zcell_setI hu) (fun hx hb ho hts hK hNW hn hM k => ?_) (kk _))
    have hat := (hM.2.2.1 v hv (by omega) (by omega)).1
    rw [zcell_i hkd] at hat
    rw [zcell_i (h := zsetI h v j.toNatClampNeg x) hkd] at k
    refine W.iast hx hb hat ((hK.2 0 _ (ztys_get (t := 0) (by decide))).1 _ (fun j => .int (zi h v j))) (fun q => by cases q) (by show ¬ (j < 0 ∨ (arrV _ _ _).slots.size ≤ _); rw [arrV_size]; exact hin) rfl rfl hd fun H1 e1 e2 e3 => k H1 _ ?_ e2 e3
    show H1[_]? = some (vp_cell _ _)
    rw [e1, vp_cell_i, vp_cell_i, arrV_store]
    congr 2
    funext q
    show _ = Value.int (u2 _ v _ x v q)
    unfold u2 updV
    by_cases hq : q = j.toNatClampNeg
    · rw [if_pos hq, if_pos ⟨rfl, hq⟩]
    · rw [if_neg hq, if_neg (fun z => hq z.2)]; rfl
/-- a store of a reference: null, or an object of the array's own class -/
theorem z_aast {r : Option Nat} {t ci : Nat} {j : Int32} {x : Option Nat} {F : Zh → Option α} {C : String} {T : u_T} {N : Nat} {ty : Nat → FieldType} (hd : decode cc pc = .ok (.aastore, 1)) (h2 : 2 ≤ t) (h6 : t < 6) (hkl : zKl ci C T N ty) (hC : zty t = .object C)
    (kk : ∀ h', zTT G y cc nL dd ret rvf hff (F h') (pc + 1) lv st h') : zTT G y cc nL dd ret rvf hff ((zbP h r t ci j x).bind F) pc lv (zrv G.2.1 x :: .int j :: zrv G.2.1 r :: st) h := by
  unfold zbP
  refine z_as (z_ob fun v hr hv hkd => z_as ?_)
  subst hr
  cases hq : zix (zl h v) j with
  | none => intro a ha; cases ha
  | some q =>
    obtain ⟨rfl, hin⟩ := zix_some hq
    refine z_sb ?_
    by_cases hx0 : x = none ∨ zob h x (ci + 1) = x
    · rw [if_pos hx0]
      refine z_sb (z_wr hv (by omega) (by omega) (fun q => hin (Or.inr (by omega))) (h' := zsetP h v j.toNatClampNeg x) rfl rfl rfl rfl (fun b cA u hu => zcell_setP hu) (fun hx hb ho hts hK hNW hn hM k => ?_) (kk _))
      have hat := (hM.2.2.1 v hv (by omega) (by omega)).1
      rw [zcell_q h2 hkd] at hat
      rw [zcell_q (h := zsetP h v j.toNatClampNeg x) h2 hkd] at k
      have hty := hK.2 t _ (ztys_get h6)
      rw [hC] at hty
      have hfin : ∀ (H1 : Heap) (w : Value), H1[G.2.1 + v]? = some ((vp_cell (G.2.2.2.1 t) (zl h v, .inr (.inr (.inr (.inr (fun j => (zp h v j).map (fun x => G.2.1 + x))))))).setSlot j.toNatClampNeg w) → w = zrv G.2.1 x → va_at G.2.2.1 vwCl (G.2.1 + v, .inl (G.2.2.2.1 t, zl (zsetP h v j.toNatClampNeg x) v, .inr (.inr (.inr (.inr (fun j2 => (zp (zsetP h v j.toNatClampNeg x) v j2).map (fun x => G.2.1 + x))))))) H1 := by
        intro H1 w e1 hw
        show H1[_]? = some (vp_cell _ _)
        rw [e1, vp_cell_q, vp_cell_q, arrV_store, hw]
        congr 2
        funext q
        show _ = va_rf ((u2 _ v _ x v q).map _)
        unfold u2 updV
        by_cases hq : q = j.toNatClampNeg
        · rw [if_pos hq, if_pos ⟨rfl, hq⟩]; rfl
        · rw [if_neg hq, if_neg (fun z => hq z.2)]; rfl
      cases x with
      | none =>
        refine va_WaastN hx hb hat (hty.1 _ (fun j => va_rf ((zp h v j).map (fun x => G.2.1 + x)))) (fun q => by cases q) (by show ¬ (j < 0 ∨ (arrV _ _ _).slots.size ≤ _); rw [arrV_size]; exact hin) rfl rfl hd fun H1 e1 e2 e3 => k H1 _ (hfin H1 _ e1 rfl) e2 e3
      | some w =>
        rcases hx0 with h0 | h0
        · cases h0
        · obtain ⟨-, hw, hwk⟩ := zob_some h0
          have h9 := hkl.2.2.2.2.2
          have hatw := (hM.2.2.1 w hw (by omega) (by omega)).1
          rw [zcell_o hwk hkl.2.2.2.2.2] at hatw
          obtain ⟨r', hr', cellV, g1, g2, g3, -⟩ := hatw
          have hcls := (hK.1 ci _ hkl.1).2
          obtain ⟨kA, comp, k1, k2, k3, -⟩ := hty.2
          have hcomp : comp = G.2.2.1.1 ci := Option.some.inj (k3.symm.trans hcls.1)
          subst hcomp
          obtain ⟨kC, hkC, -⟩ := hcls.2
          refine W.aast hx hb hat (fun q h => by cases h) (fun h => by cases h) k1 k2 rfl hkC ⟨fun q => hin (Or.inl q), by show _ < (arrV _ _ _).slots.size; rw [arrV_size]; exact Nat.not_le.mp fun q => hin (Or.inr q)⟩ g1 (fun q h => by rw [g3] at h; cases h) (by rw [g2]; exact hkC) (by rw [g2]; exact va_assign hcls) rfl rfl hd fun H1 e1 e2 e3 => k H1 _ (hfin H1 _ e1 rfl) e2 e3
    · rw [if_neg hx0]; intro a ha; cases ha
theorem zAO {t : Nat} {C : String} {s : State} (h2 : 2 ≤ t) (h6 : t < 6) (hC : zty t = .object C) (h : zNW s) : va_AO C s := by
  rcases (show t = 2 ∨ t = 3 ∨ t = 4 ∨ t = 5 by omega) with rfl | rfl | rfl | rfl
  · cases hC; exact h.2.1
  · cases hC; exact h.2.2.1
  · cases hC; exact h.2.2.2.1
  · cases hC; exact h.2.2.2.2
/-- a new cell -/
theorem z_nw {kd len slots : Nat} {pc' : Nat} {st' : List Value} (hk6 : kd ≠ 106)
    (f : ∀ {p : Program} {l : Launch} {en : Env} {R : Room} {s : State} {m : MethodId} {args : Array Value} {below : List Frame} {meth : Method} {c : Code} {H : Heap} {locs : List Loc} {cells slots0 : Nat} {Q : State → Prop} {ls : Array Slot},
      p.tables.exec = Jvm.exec → c.code = cc → s.vm.findClass y.cls = some m.cls → (∀ w ∈ zT, w.before args s = true) → va_K G.2.2.1 vwCl (ztys G.2.2.2.1) s → zNW s → zMM G h H → cells + 1 ≤ R.cells → slots0 + slots ≤ R.slots → 
      (∀ H1 : Heap, va_at G.2.2.1 vwCl (G.2.1 + zn h, zcell G.2.1 G.2.2.2.1 (znew h kd len slots) (zn h)) H1 → H1.size = H.size + 1 → (∀ q : Nat, q < H.size → H1[q]? = H[q]?) → W p l en R s m args below meth c H1 locs (cells + 1) (slots0 + slots) Q (F0 m pc' ls st')) → W p l en R s m args below meth c H locs cells slots0 Q (F0 m pc ls st))
    (kk : zTT G y cc nL dd ret rvf hff e pc' lv st' (znew h kd len slots)) : zTT G y cc nL dd ret rvf hff e pc lv st h := by
  intro a0 ha
  obtain ⟨hm, hw⟩ := kk a0 ha
  have hz : zn (znew h kd len slots) = zn h + 1 := rfl
  have hz2 : zs (znew h kd len slots) = zs h + slots := rfl
  rw [hz, hz2] at hm
  refine ⟨⟨by omega, by omega⟩, fun p l en R s m args below meth c n0 s0 Q hC hfin hn hs ls H locs hl hM hS => ?_⟩
  have hC2 := hC
  obtain ⟨hx, hb, hml, ho, hts, hK, hR, -⟩ := hC2
  refine f hx hb ho hts hK.1 hK.2.1 hM (by omega) (by omega) (fun H1 e1 e2 e3 => ?_)
  have := hw p l en R s m args below meth c n0 s0 Q hC hfin (by omega) (by omega) ls H1 locs hl ⟨by rw [e2, hM.1, hz]; omega, by have := hM.2.1; omega, fun v hv hkv hkv6 => ?_, fun v hv hkv => ?_⟩ ⟨Nat.le_trans hS.1 (by omega), fun q h1 h2 => (e3 q (Nat.lt_of_lt_of_le h1 hS.1)).trans (hS.2.1 q h1 h2), hS.2.2⟩
  · rw [hz, hz2, Nat.sub_add_comm hn, Nat.sub_add_comm hs] at this
    exact this
  · rw [hz] at hv
    by_cases hv2 : v = zn h
    · subst hv2; exact ⟨e1, Or.inl hM.2.1⟩
    · have hne : v < zn h := by omega
      have a1 : zk (znew h kd len slots) v = zk h v := by show u1 _ _ _ _ = _; unfold u1; rw [if_neg hv2]; rfl
      have a2 : zl (znew h kd len slots) v = zl h v := by show u1 _ _ _ _ = _; unfold u1; rw [if_neg hv2]; rfl
      rw [zcell_congr (h := h) (u := v) a1 a2 (by funext j; show (if v = zn h then _ else _) = _; rw [if_neg hv2]) (by funext j; show (if v = zn h then _ else _) = _; rw [if_neg hv2])]
      rw [a1] at hkv hkv6 ⊢
      rw [a2]
      exact ⟨(hM.2.2.1 v hne hkv hkv6).1.kept (e3 _ (by rw [hM.1]; omega)), (hM.2.2.1 v hne hkv hkv6).2⟩
  · rw [hz] at hv
    by_cases hv2 : v = zn h
    · subst hv2
      have a1 : zk (znew h kd len slots) (zn h) = kd := by show u1 _ _ _ _ = _; unfold u1; rw [if_pos rfl]
      exact absurd (a1.symm.trans hkv) hk6
    · have a1 : zk (znew h kd len slots) v = zk h v := by show u1 _ _ _ _ = _; unfold u1; rw [if_neg hv2]; rfl
      exact hM.2.2.2 v (by omega) (a1.symm.trans hkv)
theorem znew_k (h : Zh) (kd len slots : Nat) : zk (znew h kd len slots) (zn h) = kd := by show u1 _ _ _ _ = _; unfold u1; rw [if_pos rfl]
theorem znew_l (h : Zh) (kd len slots : Nat) : zl (znew h kd len slots) (zn h) = len := by show u1 _ _ _ _ = _; unfold u1; rw [if_pos rfl]
theorem znew_i (h : Zh) (kd len slots : Nat) : zi (znew h kd len slots) (zn h) = fun _ => 0 := by funext j; show (if _ then _ else _) = _; rw [if_pos rfl]
theorem znew_p (h : Zh) (kd len slots : Nat) : zp (znew h kd len slots) (zn h) = fun _ => none := by funext j; show (if _ then _ else _) = _; rw [if_pos rfl]
theorem z_newO {ci N idx : Nat} {C : String} {T : u_T} {ty : Nat → FieldType} {F : Option Nat × Zh → Option α} (hd : decode cc pc = .ok (.new idx, 3)) (hkl : zKl ci C T N ty) (hcl : Cond.classLink y.cls idx C ∈ zT) (hinst : Cond.instantiable C N ∈ zT) (hini : Cond.initialized C ∈ zT) (hdf : ∀ j, j < N → defaultValue (ty j) = if (zf ci).getD j false = true then Value.null else .int 0)
    (kk : ∀ (r : Option Nat) (h' : Zh), zTT G y cc nL dd ret rvf hff (F (r, h')) (pc + 3) lv (zrv G.2.1 r :: st) h') : zTT G y cc nL dd ret rvf hff ((zmO h ci N).bind F) pc lv st h := by
  unfold zmO
  obtain ⟨hc, hin, hty, hnm, hN, h9⟩ := hkl
  refine z_sb (z_nw (by omega) (fun hx hb ho hts hK hNW hM hc1 hs1 k => ?_) (kk (some (zn h)) _))
  have hKn := hK.1 ci _ hc
  refine W.newcK hx hb ho (hts _ hcl) (hts _ hinst) (hts _ hini) rfl hd hc1 hs1 hKn.2.1 rfl fun H1 kC hkC e1 z1 o1 => ?_
  have hk := k H1 ?_ z1 o1
  · rw [hM.1] at *
    exact hk
  · rw [zcell_o (znew_k _ _ _ _) h9]
    rw [hM.1] at e1
    refine ⟨_, hc, (u_born ty hts hin hKn hkC e1 hty).to fun j hj => ?_⟩
    have e3 : vp_V (zfs G.2.1 (znew h (ci + 1) 0 N) (zn h) ci) j = (if (zf ci).getD j false = true then Value.null else .int 0) := by
      unfold vp_V
      rw [List.getD_eq_getElem?_getD, zfs_get (by rw [hN]; exact hj), znew_i, znew_p]
      rfl
    rw [hdf j hj]
    exact e3.symm
theorem z_newA {t : Nat} {atype : ArrayType} {n : Int32} {F : Option Nat × Zh → Option α} (hd : decode cc pc = .ok (.newarray atype, 2)) (ht : (t = 0 ∧ atype = .int) ∨ (t = 1 ∧ atype = .int)) (hw : Cond.arrayClass (zty t) ∈ zT)
    (kk : ∀ (r : Option Nat) (h' : Zh), zTT G y cc nL dd ret rvf hff (F (r, h')) (pc + 2) lv (zrv G.2.1 r :: st) h') : zTT G y cc nL dd ret rvf hff ((zmA h t n).bind F) pc lv (.int n :: st) h := by
  unfold zmA
  by_cases h0 : n < 0 ∨ 536870912 < n.toNatClampNeg * 4
  · rw [if_pos h0]; intro a ha; cases ha
  · rw [if_neg h0]
    refine z_sb (z_nw (by rcases ht with ⟨rfl, -⟩ | ⟨rfl, -⟩ <;> decide) (fun hx hb ho hts hK hNW hM hc1 hs1 k => ?_) (kk (some (zn h)) _))
    have hty : newarray.typeOf atype = zty t := by rcases ht with ⟨rfl, rfl⟩ | ⟨rfl, rfl⟩ <;> rfl
    have hcb : componentBytes (newarray.typeOf atype) ≤ 4 := by rcases ht with ⟨rfl, rfl⟩ | ⟨rfl, rfl⟩ <;> decide
    refine va_newaK hx hb (atype := atype) (by rw [hty]; exact hts _ hw) rfl hd rfl (fun q => h0 (Or.inl q)) rfl (Nat.le_trans (Nat.mul_le_mul_left _ hcb) (Nat.le_of_not_lt fun q => h0 (Or.inr q))) hc1 hs1 hM.1 fun H1 cA e1 z1 o1 hAr hNm => ?_
    refine k H1 ?_ (by rw [z1, hM.1]) (fun q hq => o1 q (by rw [← hM.1]; exact hq))
    have h6 : t < 6 := by rcases ht with ⟨rfl, -⟩ | ⟨rfl, -⟩ <;> decide
    have hRA := (hK.2 t _ (ztys_get h6)).2
    have hcA : cA = G.2.2.2.1 t := by
      rcases ht with ⟨rfl, rfl⟩ | ⟨rfl, rfl⟩
      · exact Option.some.inj (hNm.symm.trans hRA)
      · exact Option.some.inj (hNm.symm.trans hRA)
    subst hcA
    rcases ht with ⟨rfl, rfl⟩ | ⟨rfl, rfl⟩
    · rw [zcell_i (znew_k _ _ _ _), znew_l, znew_i]
      exact e1
    · rw [zcell_z (znew_k _ _ _ _), znew_l, znew_i]
      exact e1
theorem z_newQ {t idx : Nat} {C : String} {n : Int32} {F : Option Nat × Zh → Option α} (hd : decode cc pc = .ok (.anewarray idx, 3)) (h2 : 2 ≤ t) (h6 : t < 6) (hC : zty t = .object C) (hcl : Cond.classLink y.cls idx C ∈ zT)
    (kk : ∀ (r : Option Nat) (h' : Zh), zTT G y cc nL dd ret rvf hff (F (r, h')) (pc + 3) lv (zrv G.2.1 r :: st) h') : zTT G y cc nL dd ret rvf hff ((zmA h t n).bind F) pc lv (.int n :: st) h := by
  unfold zmA
  by_cases h0 : n < 0 ∨ 536870912 < n.toNatClampNeg * 4
  · rw [if_pos h0]; intro a ha; cases ha
  · rw [if_neg h0]
    refine z_sb (z_nw (by omega) (fun hx hb ho hts hK hNW hM hc1 hs1 k => ?_) (kk (some (zn h)) _))
    have hAO : va_AO C _ := zAO h2 h6 hC hNW
    refine W.anew hx hb ho (hts _ hcl) (va_AO.use hAO) rfl hd rfl (fun q => h0 (Or.inl q)) (Nat.le_of_not_lt fun q => h0 (Or.inr q)) hc1 hs1 fun cA kA comp f1 f2 f3 f4 => ?_
    generalize hH1 : Array.push _ ({ cls := cA, slots := Array.replicate n.toNatClampNeg .null, vm := .none } : Cell) = H1
    have hk := k H1 ?_ (by rw [← hH1, Array.size_push]) (fun q hq => by rw [← hH1, Array.getElem?_push, if_neg (Nat.ne_of_lt hq)])
    · rw [hM.1]
      exact hk
    · have hRA := (hK.2 t _ (ztys_get h6)).2
      rw [hC] at hRA
      obtain ⟨_, _, -, -, -, hRA4⟩ := hRA
      have hcA : cA = G.2.2.2.1 t := Option.some.inj (f1.symm.trans hRA4)
      subst hcA
      rw [zcell_q h2 (znew_k _ _ _ _), znew_l, znew_p]
      show H1[_]? = some (vp_cell _ _)
      rw [vp_cell_q, ← hH1, ← hM.1, Array.getElem?_push_size, arrV_new]
      rfl
end ZH
