/-! the rules of a walk -/
section ZS
variable {G : Zg} {y : MethodName} {cc : ByteArray} {nL dd : Nat} {ret : Option FieldType} {α β : Type} {rvf : α → Option Value} {hff : α → Zh} {e : Option α} {pc : Nat} {lv : List (Nat × Value)} {st rest : List Value} {h : Zh}
theorem z_as {γ : Type} {x : Option γ} {K : γ → Option β} {F : β → Option α} (k : zTT G y cc nL dd ret rvf hff (x.bind (fun q => (K q).bind F)) pc lv st h) : zTT G y cc nL dd ret rvf hff ((x.bind K).bind F) pc lv st h := by
  rw [Option.bind_assoc]
  exact k
theorem z_itb {c1 : Prop} [Decidable c1] {e1 e2 : Option β} {F : β → Option α} (k : zTT G y cc nL dd ret rvf hff (if c1 then e1.bind F else e2.bind F) pc lv st h) : zTT G y cc nL dd ret rvf hff ((if c1 then e1 else e2).bind F) pc lv st h := by
  rw [show (if c1 then e1 else e2).bind F = (if c1 then e1.bind F else e2.bind F) by split <;> rfl]
  exact k
theorem z_sb {x : β} {F : β → Option α} (k : zTT G y cc nL dd ret rvf hff (F x) pc lv st h) : zTT G y cc nL dd ret rvf hff ((some x).bind F) pc lv st h := k
theorem z_let {x : β} {F : β → Option α} (k : ∀ q, q = x → zTT G y cc nL dd ret rvf hff (F q) pc lv st h) : zTT G y cc nL dd ret rvf hff ((some x).bind F) pc lv st h := k x rfl
theorem z_join {E : Option β} {F : β → Option α} {pc2 : Nat} {lv2 : β → List (Nat × Value)} {st2 : β → List Value} {h2 : β → Zh} (k : ∀ x, zTT G y cc nL dd ret rvf hff (F x) pc2 (lv2 x) (st2 x) (h2 x))
    (r : ∀ F' : β → Option α, (∀ x, zTT G y cc nL dd ret rvf hff (F' x) pc2 (lv2 x) (st2 x) (h2 x)) → zTT G y cc nL dd ret rvf hff (E.bind F') pc lv st h) : zTT G y cc nL dd ret rvf hff (E.bind F) pc lv st h := r F k
def zloop {σ ρ : Type} (f : σ → Option (σ ⊕ ρ)) : Nat → σ → Option ρ
  | 0, _ => none
  | n + 1, s => (f s).bind fun q => match q with
    | .inl s' => zloop f n s'
    | .inr r => some r
def zFU : Nat := 100000
theorem z_loop {σ ρ : Type} {f : σ → Option (σ ⊕ ρ)} {F : ρ → Option α} {lvf : σ → List (Nat × Value)} {hf2 : σ → Zh} {n : Nat} {s0 : σ}
    (k : ∀ K : σ ⊕ ρ → Option α, (∀ s, zTT G y cc nL dd ret rvf hff (K (.inl s)) pc (lvf s) [] (hf2 s)) → (∀ r, K (.inr r) = F r) → ∀ s, zTT G y cc nL dd ret rvf hff ((f s).bind K) pc (lvf s) [] (hf2 s)) :
    zTT G y cc nL dd ret rvf hff ((zloop f n s0).bind F) pc (lvf s0) [] (hf2 s0) := by
  induction n generalizing s0 with
  | zero => intro a ha; cases ha
  | succ n ih =>
    have h1 := k (fun q => match q with | .inl s' => (zloop f n s').bind F | .inr r => F r) (fun s => @ih s) (fun r => rfl) s0
    intro a ha
    refine h1 a (Eq.trans ?_ ha)
    show _ = ((f s0).bind _).bind F
    rw [Option.bind_assoc]
    congr 1
    funext q
    cases q <;> rfl
theorem z_at {lv' : List (Nat × Value)} (ks : List Nat) (hl : lv_pick lv ks = lv') (k : zTT G y cc nL dd ret rvf hff e pc lv' st h) : zTT G y cc nL dd ret rvf hff e pc lv st h :=
  z_lift (fun _ _ _ _ _ _ _ hl' k => k _ (lv_sub hl' ks hl)) k
theorem z_eq {e' : Option α} (he : e = e') (k : zTT G y cc nL dd ret rvf hff e' pc lv st h) : zTT G y cc nL dd ret rvf hff e pc lv st h := he ▸ k
theorem z_iconst {n : Int} {v : Int32} (hd : decode cc pc = .ok (.iconst n, 1)) (hv : Int32.ofInt n = v) (k : zTT G y cc nL dd ret rvf hff e (pc + 1) lv (.int v :: st) h) : zTT G y cc nL dd ret rvf hff e pc lv st h := z_lift (fun hx hb _ _ _ _ _ hl k => lv_iconst hx hb hd hv (k _ hl)) k
theorem z_bipush {n : Int} {v : Int32} (hd : decode cc pc = .ok (.bipush n, 2)) (hv : (Int8.ofInt n).toInt32 = v) (k : zTT G y cc nL dd ret rvf hff e (pc + 2) lv (.int v :: st) h) : zTT G y cc nL dd ret rvf hff e pc lv st h := z_lift (fun hx hb _ _ _ _ _ hl k => lv_bipush hx hb hd hv (k _ hl)) k
theorem z_sipush {n : Int} {v : Int32} (hd : decode cc pc = .ok (.sipush n, 3)) (hv : (Int16.ofInt n).toInt32 = v) (k : zTT G y cc nL dd ret rvf hff e (pc + 3) lv (.int v :: st) h) : zTT G y cc nL dd ret rvf hff e pc lv st h := z_lift (fun hx hb _ _ _ _ _ hl k => lv_sipush hx hb hd hv (k _ hl)) k
theorem z_lconst {n : Fin 2} {v : Int64} (hd : decode cc pc = .ok (.lconst n, 1)) (hv : Int64.ofNat (n : Nat) = v) (k : zTT G y cc nL dd ret rvf hff e (pc + 1) lv (.long v :: st) h) : zTT G y cc nL dd ret rvf hff e pc lv st h := z_lift (fun hx hb _ _ _ _ _ hl k => lv_lconst hx hb hd hv (k _ hl)) k
theorem z_ldc {i : Nat} {v : Int32} (hd : decode cc pc = .ok (.ldc i, 2)) (hw : Cond.constant y.cls i v ∈ zT) (k : zTT G y cc nL dd ret rvf hff e (pc + 2) lv (.int v :: st) h) : zTT G y cc nL dd ret rvf hff e pc lv st h := z_lift (fun hx hb _ ho hts _ _ hl k => lv_ldc hx hb ho (hts _ hw) hd (k _ hl)) k
theorem z_ldcw {i : Nat} {v : Int32} (hd : decode cc pc = .ok (.ldc_w i, 3)) (hw : Cond.constant y.cls i v ∈ zT) (k : zTT G y cc nL dd ret rvf hff e (pc + 3) lv (.int v :: st) h) : zTT G y cc nL dd ret rvf hff e pc lv st h := z_lift (fun hx hb _ ho hts _ _ hl k => lv_ldcw hx hb ho (hts _ hw) hd (k _ hl)) k
theorem z_ldc2 {i : Nat} {v : Int64} (hd : decode cc pc = .ok (.ldc2_w i, 3)) (hw : Cond.constantLong y.cls i v ∈ zT) (k : zTT G y cc nL dd ret rvf hff e (pc + 3) lv (.long v :: st) h) : zTT G y cc nL dd ret rvf hff e pc lv st h := z_lift (fun hx hb _ ho hts _ _ hl k => lv_ldc2 hx hb ho (hts _ hw) hd (k _ hl)) k
theorem z_iload_n {q : Fin 4} {i j : Nat} {x : Int32} (hd : decode cc pc = .ok (.iload_n q, 1)) (hi : (q : Nat) = i) (hl : lv[j]? = some (i, .int x)) (k : zTT G y cc nL dd ret rvf hff e (pc + 1) lv (.int x :: st) h) : zTT G y cc nL dd ret rvf hff e pc lv st h := z_lift (fun hx hb _ _ _ _ _ hl' k => lv_iload_n hx hb hd hi (lv_at hl' j hl) (k _ hl')) k
theorem z_iload {i j : Nat} {x : Int32} (hd : decode cc pc = .ok (.iload i, 2)) (hl : lv[j]? = some (i, .int x)) (k : zTT G y cc nL dd ret rvf hff e (pc + 2) lv (.int x :: st) h) : zTT G y cc nL dd ret rvf hff e pc lv st h := z_lift (fun hx hb _ _ _ _ _ hl' k => lv_iload hx hb hd (lv_at hl' j hl) (k _ hl')) k
theorem z_lload_n {q : Fin 4} {i j : Nat} {x : Int64} (hd : decode cc pc = .ok (.lload_n q, 1)) (hi : (q : Nat) = i) (hl : lv[j]? = some (i, .long x)) (k : zTT G y cc nL dd ret rvf hff e (pc + 1) lv (.long x :: st) h) : zTT G y cc nL dd ret rvf hff e pc lv st h := z_lift (fun hx hb _ _ _ _ _ hl' k => lv_lload_n hx hb hd hi (lv_at hl' j hl) (k _ hl')) k
theorem z_lload {i j : Nat} {x : Int64} (hd : decode cc pc = .ok (.lload i, 2)) (hl : lv[j]? = some (i, .long x)) (k : zTT G y cc nL dd ret rvf hff e (pc + 2) lv (.long x :: st) h) : zTT G y cc nL dd ret rvf hff e pc lv st h := z_lift (fun hx hb _ _ _ _ _ hl' k => lv_lload hx hb hd (lv_at hl' j hl) (k _ hl')) k
theorem z_aload_n {q : Fin 4} {i j b : Nat} {r : Option Nat} (hd : decode cc pc = .ok (.aload_n q, 1)) (hi : (q : Nat) = i) (hl : lv[j]? = some (i, zrv b r)) (k : zTT G y cc nL dd ret rvf hff e (pc + 1) lv (zrv b r :: st) h) : zTT G y cc nL dd ret rvf hff e pc lv st h := by
  cases r with
  | none => exact z_lift (fun hx hb _ _ _ _ _ hl' k => lv_aload_nN hx hb hd hi (lv_at hl' j hl) (k _ hl')) k
  | some v => exact z_lift (fun hx hb _ _ _ _ _ hl' k => lv_aload_n hx hb hd hi (lv_at hl' j hl) (k _ hl')) k
theorem z_aload {i j b : Nat} {r : Option Nat} (hd : decode cc pc = .ok (.aload i, 2)) (hl : lv[j]? = some (i, zrv b r)) (k : zTT G y cc nL dd ret rvf hff e (pc + 2) lv (zrv b r :: st) h) : zTT G y cc nL dd ret rvf hff e pc lv st h := by
  cases r with
  | none => exact z_lift (fun hx hb _ _ _ _ _ hl' k => lv_aloadN hx hb hd (lv_at hl' j hl) (k _ hl')) k
  | some v => exact z_lift (fun hx hb _ _ _ _ _ hl' k => lv_aload hx hb hd (lv_at hl' j hl) (k _ hl')) k
theorem z_istore_n {q : Fin 4} {i : Nat} {x : Int32} {lv' : List (Nat × Value)} (hd : decode cc pc = .ok (.istore_n q, 1)) (hi : (q : Nat) = i) (hn : i < nL) (hl : (i, Value.int x) :: lv.filter (fun q => !(q.1 == i) && !(q.1 + 1 == i && q.2.category == 2)) = lv') (k : zTT G y cc nL dd ret rvf hff e (pc + 1) lv' st h) : zTT G y cc nL dd ret rvf hff e pc lv (.int x :: st) h := z_lift (fun hx hb _ _ _ _ _ hl' k => lv_istore_n hx hb hd hi hl' hn hl k) k
theorem z_istore {i : Nat} {x : Int32} {lv' : List (Nat × Value)} (hd : decode cc pc = .ok (.istore i, 2)) (hn : i < nL) (hl : (i, Value.int x) :: lv.filter (fun q => !(q.1 == i) && !(q.1 + 1 == i && q.2.category == 2)) = lv') (k : zTT G y cc nL dd ret rvf hff e (pc + 2) lv' st h) : zTT G y cc nL dd ret rvf hff e pc lv (.int x :: st) h := z_lift (fun hx hb _ _ _ _ _ hl' k => lv_istore hx hb hd hl' hn hl k) k
theorem z_astore_n {q : Fin 4} {i b : Nat} {r : Option Nat} {lv' : List (Nat × Value)} (hd : decode cc pc = .ok (.astore_n q, 1)) (hi : (q : Nat) = i) (hn : i < nL) (hl : (i, zrv b r) :: lv.filter (fun q => !(q.1 == i) && !(q.1 + 1 == i && q.2.category == 2)) = lv') (k : zTT G y cc nL dd ret rvf hff e (pc + 1) lv' st h) : zTT G y cc nL dd ret rvf hff e pc lv (zrv b r :: st) h := by
  cases r with
  | none => exact z_lift (fun hx hb _ _ _ _ _ hl' k => lv_astore_nN hx hb hd hi hl' hn hl k) k
  | some v => exact z_lift (fun hx hb _ _ _ _ _ hl' k => lv_astore_n hx hb hd hi hl' hn hl k) k
theorem z_astore {i b : Nat} {r : Option Nat} {lv' : List (Nat × Value)} (hd : decode cc pc = .ok (.astore i, 2)) (hn : i < nL) (hl : (i, zrv b r) :: lv.filter (fun q => !(q.1 == i) && !(q.1 + 1 == i && q.2.category == 2)) = lv') (k : zTT G y cc nL dd ret rvf hff e (pc + 2) lv' st h) : zTT G y cc nL dd ret rvf hff e pc lv (zrv b r :: st) h := by
  cases r with
  | none => exact z_lift (fun hx hb _ _ _ _ _ hl' k => lv_astoreN hx hb hd hl' hn hl k) k
  | some v => exact z_lift (fun hx hb _ _ _ _ _ hl' k => lv_astore hx hb hd hl' hn hl k) k
theorem z_iinc {i j : Nat} {n : Int} {x v : Int32} {lv' : List (Nat × Value)} (hd : decode cc pc = .ok (.iinc i n, 3)) (hk : lv[j]? = some (i, .int x)) (hv : x + Int32.ofInt n = v) (hn : i < nL) (hl : (i, Value.int v) :: lv.filter (fun q => !(q.1 == i) && !(q.1 + 1 == i && q.2.category == 2)) = lv') (k : zTT G y cc nL dd ret rvf hff e (pc + 3) lv' st h) : zTT G y cc nL dd ret rvf hff e pc lv st h := z_lift (fun hx hb _ _ _ _ _ hl' k => lv_iinc hx hb hd hl' hk hv hn hl k) k
theorem z_iadd {u v : Int32} (hd : decode cc pc = .ok (.iadd, 1)) (k : zTT G y cc nL dd ret rvf hff e (pc + 1) lv (.int (u + v) :: st) h) : zTT G y cc nL dd ret rvf hff e pc lv (.int v :: .int u :: st) h := z_lift (fun hx hb _ _ _ _ _ hl k => lv_iadd hx hb hd (k _ hl)) k
theorem z_isub {u v : Int32} (hd : decode cc pc = .ok (.isub, 1)) (k : zTT G y cc nL dd ret rvf hff e (pc + 1) lv (.int (u - v) :: st) h) : zTT G y cc nL dd ret rvf hff e pc lv (.int v :: .int u :: st) h := z_lift (fun hx hb _ _ _ _ _ hl k => lv_isub hx hb hd (k _ hl)) k
theorem z_imul {u v : Int32} (hd : decode cc pc = .ok (.imul, 1)) (k : zTT G y cc nL dd ret rvf hff e (pc + 1) lv (.int (u * v) :: st) h) : zTT G y cc nL dd ret rvf hff e pc lv (.int v :: .int u :: st) h := z_lift (fun hx hb _ _ _ _ _ hl k => lv_imul hx hb hd (k _ hl)) k
theorem z_iand {u v : Int32} (hd : decode cc pc = .ok (.iand, 1)) (k : zTT G y cc nL dd ret rvf hff e (pc + 1) lv (.int (u &&& v) :: st) h) : zTT G y cc nL dd ret rvf hff e pc lv (.int v :: .int u :: st) h := z_lift (fun hx hb _ _ _ _ _ hl k => lv_iand hx hb hd (k _ hl)) k
theorem z_ior {u v : Int32} (hd : decode cc pc = .ok (.ior, 1)) (k : zTT G y cc nL dd ret rvf hff e (pc + 1) lv (.int (u ||| v) :: st) h) : zTT G y cc nL dd ret rvf hff e pc lv (.int v :: .int u :: st) h := z_lift (fun hx hb _ _ _ _ _ hl k => lv_ior hx hb hd (k _ hl)) k
theorem z_ixor {u v : Int32} (hd : decode cc pc = .ok (.ixor, 1)) (k : zTT G y cc nL dd ret rvf hff e (pc + 1) lv (.int (u ^^^ v) :: st) h) : zTT G y cc nL dd ret rvf hff e pc lv (.int v :: .int u :: st) h := z_lift (fun hx hb _ _ _ _ _ hl k => lv_ixor hx hb hd (k _ hl)) k
theorem z_ishl {u v : Int32} (hd : decode cc pc = .ok (.ishl, 1)) (k : zTT G y cc nL dd ret rvf hff e (pc + 1) lv (.int (u <<< (v &&& 31)) :: st) h) : zTT G y cc nL dd ret rvf hff e pc lv (.int v :: .int u :: st) h := z_lift (fun hx hb _ _ _ _ _ hl k => lv_ishl hx hb hd (k _ hl)) k
theorem z_ishr {u v : Int32} (hd : decode cc pc = .ok (.ishr, 1)) (k : zTT G y cc nL dd ret rvf hff e (pc + 1) lv (.int (u >>> (v &&& 31)) :: st) h) : zTT G y cc nL dd ret rvf hff e pc lv (.int v :: .int u :: st) h := z_lift (fun hx hb _ _ _ _ _ hl k => lv_ishr hx hb hd (k _ hl)) k
theorem z_iushr {u v : Int32} (hd : decode cc pc = .ok (.iushr, 1)) (k : zTT G y cc nL dd ret rvf hff e (pc + 1) lv (.int (u.toUInt32 >>> (v.toUInt32 &&& Int32.toUInt32 31)).toInt32 :: st) h) : zTT G y cc nL dd ret rvf hff e pc lv (.int v :: .int u :: st) h := z_lift (fun hx hb _ _ _ _ _ hl k => lv_iushr hx hb hd rfl (k _ hl)) k
def zdiv (u v : Int32) : Option Int32 := if v = 0 then none else some (u / v)
def zrem (u v : Int32) : Option Int32 := if v = 0 then none else some (u - u / v * v)
theorem z_idiv {u v : Int32} {F : Int32 → Option α} (hd : decode cc pc = .ok (.idiv, 1)) (k : ∀ x, zTT G y cc nL dd ret rvf hff (F x) (pc + 1) lv (.int x :: st) h) : zTT G y cc nL dd ret rvf hff ((zdiv u v).bind F) pc lv (.int v :: .int u :: st) h := by
  unfold zdiv
  by_cases hv : v = 0
  · rw [if_pos hv]; intro a ha; cases ha
  · rw [if_neg hv]; exact z_lift (fun hx hb _ _ _ _ _ hl k => lv_idiv hx hb hd hv (k _ hl)) (k _)
theorem z_irem {u v : Int32} {F : Int32 → Option α} (hd : decode cc pc = .ok (.irem, 1)) (k : ∀ x, zTT G y cc nL dd ret rvf hff (F x) (pc + 1) lv (.int x :: st) h) : zTT G y cc nL dd ret rvf hff ((zrem u v).bind F) pc lv (.int v :: .int u :: st) h := by
  unfold zrem
  by_cases hv : v = 0
  · rw [if_pos hv]; intro a ha; cases ha
  · rw [if_neg hv]; exact z_lift (fun hx hb _ _ _ _ _ hl k => lv_irem hx hb hd hv (k _ hl)) (k _)
theorem z_i2l {x : Int32} (hd : decode cc pc = .ok (.i2l, 1)) (k : zTT G y cc nL dd ret rvf hff e (pc + 1) lv (.long x.toInt64 :: st) h) : zTT G y cc nL dd ret rvf hff e pc lv (.int x :: st) h := z_lift (fun hx hb _ _ _ _ _ hl k => lv_i2l hx hb hd rfl (k _ hl)) k
theorem z_lcmp {u v : Int64} (hd : decode cc pc = .ok (.lcmp, 1)) (k : zTT G y cc nL dd ret rvf hff e (pc + 1) lv (.int (lg_cmp u v) :: st) h) : zTT G y cc nL dd ret rvf hff e pc lv (.long v :: .long u :: st) h := z_lift (fun hx hb _ _ _ _ _ hl k => W.lcmp hx hb hd (k _ hl)) k
theorem zcat1 (b : Nat) (r : Option Nat) : (zrv b r).category = 1 := by cases r <;> rfl
theorem z_dup {v : Value} (hd : decode cc pc = .ok (.dup, 1)) (hv : v.category = 1) (k : zTT G y cc nL dd ret rvf hff e (pc + 1) lv (v :: v :: st) h) : zTT G y cc nL dd ret rvf hff e pc lv (v :: st) h := z_lift (fun hx hb _ _ _ _ _ hl k => lv_dup hx hb hd hv (k _ hl)) k
theorem z_pop {v : Value} (hd : decode cc pc = .ok (.pop, 1)) (hv : v.category = 1) (k : zTT G y cc nL dd ret rvf hff e (pc + 1) lv st h) : zTT G y cc nL dd ret rvf hff e pc lv (v :: st) h := z_lift (fun hx hb _ _ _ _ _ hl k => lv_pop hx hb hd hv (k _ hl)) k
theorem z_dup_x1 {u v : Value} (hd : decode cc pc = .ok (.dup_x1, 1)) (hu : u.category = 1) (hv : v.category = 1) (k : zTT G y cc nL dd ret rvf hff e (pc + 1) lv (u :: v :: u :: st) h) : zTT G y cc nL dd ret rvf hff e pc lv (u :: v :: st) h := z_lift (fun hx hb _ _ _ _ _ hl k => lv_dup_x1 hx hb hd hu hv (k _ hl)) k
theorem z_dup2 {u v : Value} (hd : decode cc pc = .ok (.dup2, 1)) (hu : u.category = 1) (hv : v.category = 1) (k : zTT G y cc nL dd ret rvf hff e (pc + 1) lv (u :: v :: u :: v :: st) h) : zTT G y cc nL dd ret rvf hff e pc lv (u :: v :: st) h := z_lift (fun hx hb _ _ _ _ _ hl k => lv_dup2_11 hx hb hd hu hv (k _ hl)) k
theorem z_null {b : Nat} (hd : decode cc pc = .ok (.aconst_null, 1)) (k : zTT G y cc nL dd ret rvf hff e (pc + 1) lv (zrv b none :: st) h) : zTT G y cc nL dd ret rvf hff e pc lv st h := z_lift (fun hx hb _ _ _ _ _ hl k => lv_null hx hb hd (k _ hl)) k
theorem z_goto {off : Int} {tgt : Nat} (hd : decode cc pc = .ok (.goto off, 3)) (ht : (pc : Int) + off = (tgt : Int)) (k : zTT G y cc nL dd ret rvf hff e tgt lv st h) : zTT G y cc nL dd ret rvf hff e pc lv st h := z_lift (fun hx hb _ _ _ _ _ hl k => lv_goto hx hb hd ht (k _ hl)) k
theorem z_if_eq {x : Int32} {e1 e2 : Option α} {off : Int} {tgt : Nat} (hd : decode cc pc = .ok (.ifCond .eq off, 3)) (ht : (pc : Int) + off = (tgt : Int)) (k1 : x = 0 → zTT G y cc nL dd ret rvf hff e1 tgt lv st h) (k2 : ¬ x = 0 → zTT G y cc nL dd ret rvf hff e2 (pc + 3) lv st h) : zTT G y cc nL dd ret rvf hff (if x = 0 then e1 else e2) pc lv (.int x :: st) h := z_lift2 (fun hx hb k1 k2 => lv_if_eq hx hb hd ht k1 k2) k1 k2
theorem z_icmp_eq {x y2 : Int32} {e1 e2 : Option α} {off : Int} {tgt : Nat} (hd : decode cc pc = .ok (.if_icmp .eq off, 3)) (ht : (pc : Int) + off = (tgt : Int)) (k1 : x = y2 → zTT G y cc nL dd ret rvf hff e1 tgt lv st h) (k2 : ¬ x = y2 → zTT G y cc nL dd ret rvf hff e2 (pc + 3) lv st h) : zTT G y cc nL dd ret rvf hff (if x = y2 then e1 else e2) pc lv (.int y2 :: .int x :: st) h := z_lift2 (fun hx hb k1 k2 => lv_icmp_eq hx hb hd ht k1 k2) k1 k2
theorem z_if_ne {x : Int32} {e1 e2 : Option α} {off : Int} {tgt : Nat} (hd : decode cc pc = .ok (.ifCond .ne off, 3)) (ht : (pc : Int) + off = (tgt : Int)) (k1 : x = 0 → zTT G y cc nL dd ret rvf hff e1 (pc + 3) lv st h) (k2 : ¬ x = 0 → zTT G y cc nL dd ret rvf hff e2 tgt lv st h) : zTT G y cc nL dd ret rvf hff (if x = 0 then e1 else e2) pc lv (.int x :: st) h := z_lift2 (fun hx hb k1 k2 => lv_if_ne hx hb hd ht k2 k1) k1 k2
theorem z_icmp_ne {x y2 : Int32} {e1 e2 : Option α} {off : Int} {tgt : Nat} (hd : decode cc pc = .ok (.if_icmp .ne off, 3)) (ht : (pc : Int) + off = (tgt : Int)) (k1 : x = y2 → zTT G y cc nL dd ret rvf hff e1 (pc + 3) lv st h) (k2 : ¬ x = y2 → zTT G y cc nL dd ret rvf hff e2 tgt lv st h) : zTT G y cc nL dd ret rvf hff (if x = y2 then e1 else e2) pc lv (.int y2 :: .int x :: st) h := z_lift2 (fun hx hb k1 k2 => lv_icmp_ne hx hb hd ht k2 k1) k1 k2
theorem z_if_lt {x : Int32} {e1 e2 : Option α} {off : Int} {tgt : Nat} (hd : decode cc pc = .ok (.ifCond .lt off, 3)) (ht : (pc : Int) + off = (tgt : Int)) (k1 : x < 0 → zTT G y cc nL dd ret rvf hff e1 tgt lv st h) (k2 : ¬ x < 0 → zTT G y cc nL dd ret rvf hff e2 (pc + 3) lv st h) : zTT G y cc nL dd ret rvf hff (if x < 0 then e1 else e2) pc lv (.int x :: st) h := z_lift2 (fun hx hb k1 k2 => lv_if_lt hx hb hd ht k1 k2) k1 k2
theorem z_icmp_lt {x y2 : Int32} {e1 e2 : Option α} {off : Int} {tgt : Nat} (hd : decode cc pc = .ok (.if_icmp .lt off, 3)) (ht : (pc : Int) + off = (tgt : Int)) (k1 : x < y2 → zTT G y cc nL dd ret rvf hff e1 tgt lv st h) (k2 : ¬ x < y2 → zTT G y cc nL dd ret rvf hff e2 (pc + 3) lv st h) : zTT G y cc nL dd ret rvf hff (if x < y2 then e1 else e2) pc lv (.int y2 :: .int x :: st) h := z_lift2 (fun hx hb k1 k2 => lv_icmp_lt hx hb hd ht k1 k2) k1 k2
theorem z_if_ge {x : Int32} {e1 e2 : Option α} {off : Int} {tgt : Nat} (hd : decode cc pc = .ok (.ifCond .ge off, 3)) (ht : (pc : Int) + off = (tgt : Int)) (k1 : 0 ≤ x → zTT G y cc nL dd ret rvf hff e1 tgt lv st h) (k2 : ¬ 0 ≤ x → zTT G y cc nL dd ret rvf hff e2 (pc + 3) lv st h) : zTT G y cc nL dd ret rvf hff (if 0 ≤ x then e1 else e2) pc lv (.int x :: st) h := z_lift2 (fun hx hb k1 k2 => lv_if_ge hx hb hd ht k1 k2) k1 k2
theorem z_icmp_ge {x y2 : Int32} {e1 e2 : Option α} {off : Int} {tgt : Nat} (hd : decode cc pc = .ok (.if_icmp .ge off, 3)) (ht : (pc : Int) + off = (tgt : Int)) (k1 : y2 ≤ x → zTT G y cc nL dd ret rvf hff e1 tgt lv st h) (k2 : ¬ y2 ≤ x → zTT G y cc nL dd ret rvf hff e2 (pc + 3) lv st h) : zTT G y cc nL dd ret rvf hff (if y2 ≤ x then e1 else e2) pc lv (.int y2 :: .int x :: st) h := z_lift2 (fun hx hb k1 k2 => lv_icmp_ge hx hb hd ht k1 k2) k1 k2
theorem z_if_gt {x : Int32} {e1 e2 : Option α} {off : Int} {tgt : Nat} (hd : decode cc pc = .ok (.ifCond .gt off, 3)) (ht : (pc : Int) + off = (tgt : Int)) (k1 : 0 < x → zTT G y cc nL dd ret rvf hff e1 tgt lv st h) (k2 : ¬ 0 < x → zTT G y cc nL dd ret rvf hff e2 (pc + 3) lv st h) : zTT G y cc nL dd ret rvf hff (if 0 < x then e1 else e2) pc lv (.int x :: st) h := z_lift2 (fun hx hb k1 k2 => lv_if_gt hx hb hd ht k1 k2) k1 k2
theorem z_icmp_gt {x y2 : Int32} {e1 e2 : Option α} {off : Int} {tgt : Nat} (hd : decode cc pc = .ok (.if_icmp .gt off, 3)) (ht : (pc : Int) + off = (tgt : Int)) (k1 : y2 < x → zTT G y cc nL dd ret rvf hff e1 tgt lv st h) (k2 : ¬ y2 < x → zTT G y cc nL dd ret rvf hff e2 (pc + 3) lv st h) : zTT G y cc nL dd ret rvf hff (if y2 < x then e1 else e2) pc lv (.int y2 :: .int x :: st) h := z_lift2 (fun hx hb k1 k2 => lv_icmp_gt hx hb hd ht k1 k2) k1 k2
theorem z_if_le {x : Int32} {e1 e2 : Option α} {off : Int} {tgt : Nat} (hd : decode cc pc = .ok (.ifCond .le off, 3)) (ht : (pc : Int) + off = (tgt : Int)) (k1 : x ≤ 0 → zTT G y cc nL dd ret rvf hff e1 tgt lv st h) (k2 : ¬ x ≤ 0 → zTT G y cc nL dd ret rvf hff e2 (pc + 3) lv st h) : zTT G y cc nL dd ret rvf hff (if x ≤ 0 then e1 else e2) pc lv (.int x :: st) h := z_lift2 (fun hx hb k1 k2 => lv_if_le hx hb hd ht k1 k2) k1 k2
theorem z_icmp_le {x y2 : Int32} {e1 e2 : Option α} {off : Int} {tgt : Nat} (hd : decode cc pc = .ok (.if_icmp .le off, 3)) (ht : (pc : Int) + off = (tgt : Int)) (k1 : x ≤ y2 → zTT G y cc nL dd ret rvf hff e1 tgt lv st h) (k2 : ¬ x ≤ y2 → zTT G y cc nL dd ret rvf hff e2 (pc + 3) lv st h) : zTT G y cc nL dd ret rvf hff (if x ≤ y2 then e1 else e2) pc lv (.int y2 :: .int x :: st) h := z_lift2 (fun hx hb k1 k2 => lv_icmp_le hx hb hd ht k1 k2) k1 k2
end ZS
