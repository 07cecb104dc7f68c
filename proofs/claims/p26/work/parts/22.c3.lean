/-! the class: java/util/ArrayList.size, jdk/internal/util/Preconditions.checkIndex, java/util/Objects.checkIndex, java/util/ArrayList.elementData, java/util/ArrayList.get, java/lang/Integer.compare, TrailFinder.order, java/util/ArrayList.rangeCheckForAdd, jdk/internal/util/ArraysSupport.newLength, java/util/Arrays.copyOf, java/util/Arrays.copyOf, java/util/ArrayList.grow, java/util/ArrayList.grow, java/util/ArrayList.add, TrailFinder.place, TrailFinder.takeIn, TrailFinder.plainOf, TrailFinder.plain, TrailFinder.like, TrailFinder.foundOfOneName, TrailFinder.flower, TrailFinder.foundOfFull, TrailFinder.found, TrailFinder.find, TrailFinder.price, TrailFinder.both, TrailFinder.shortest, TrailFinder.deedsInLog, TrailFinder.trailsInLog, TrailFinder.fit, TrailFinder.namesInLog, TrailFinder.stoodAhead, TrailFinder.unlikeTrails, TrailFinder.count -/
def fJx4a65c_size_8abf5 (h : Zh) (this : Option Nat) : Option (Int32) :=
  (zfI h this 0 2).bind fun x1 =>
  some x1
set_option maxRecDepth 100000 in
set_option maxHeartbeats 4000000 in
theorem kJx4a65c_size_8abf5 (G : Zg) (h : Zh) (this : Option Nat) {x : Int32} (hx : fJx4a65c_size_8abf5 h this = some x) : zCt G yJx4a65c_size_8abf5 cJx4a65c_size_8abf5 1 (Option.some Jvm.ClassFile.FieldType.int) 1 [zrv G.2.1 this] h (some (.int x)) h := by
  refine z_met (a := x) (rvf := fun (x : Int32) => some (.int x)) (hff := fun (_ : Int32) => h) (lv := [(0, zrv G.2.1 this)]) (by decide +kernel) (by simp [lg_sl, zcat1, zcI, zcJ]) (by simp [lv_args, zcat1, zcI, zcJ]) ?_ hx
  unfold fJx4a65c_size_8abf5
  refine z_aload_n (j := 0) dJx4a65c_size_8abf5_0 rfl rfl ?_
  refine z_getI (k := 2) dJx4a65c_size_8abf5_1 zkl0 (by decide) rfl (.inl zw450) (fun x1 => ?_)
  exact z_iret dJx4a65c_size_8abf5_4 rfl rfl rfl rfl
def fJ3_checkIndex_8e157 (h : Zh) (a1 : Int32) (a2 : Int32) (a3 : Option Nat) : Option (Int32) :=
  if a1 < 0 then
    none
  else
    if a1 < a2 then
      some a1
    else
      none
set_option maxRecDepth 100000 in
set_option maxHeartbeats 4000000 in
theorem kJ3_checkIndex_8e157 (G : Zg) (h : Zh) (a1 : Int32) (a2 : Int32) (a3 : Option Nat) {x : Int32} (hx : fJ3_checkIndex_8e157 h a1 a2 a3 = some x) : zCt G yJ3_checkIndex_8e157 cJ3_checkIndex_8e157 3 (Option.some Jvm.ClassFile.FieldType.int) 1 [.int a1, .int a2, zrv G.2.1 a3] h (some (.int x)) h := by
  refine z_met (a := x) (rvf := fun (x : Int32) => some (.int x)) (hff := fun (_ : Int32) => h) (lv := [(0, .int a1), (1, .int a2), (2, zrv G.2.1 a3)]) (by decide +kernel) (by simp [lg_sl, zcat1, zcI, zcJ]) (by simp [lv_args, zcat1, zcI, zcJ]) ?_ hx
  unfold fJ3_checkIndex_8e157
  refine z_iload_n (j := 0) dJ3_checkIndex_8e157_0 rfl rfl ?_
  refine z_if_lt (tgt := 9) dJ3_checkIndex_8e157_1 (by decide) (fun _ => ?_) (fun _ => ?_)
  · refine z_aload_n (j := 2) dJ3_checkIndex_8e157_9 rfl rfl ?_
    refine z_iload_n (j := 0) dJ3_checkIndex_8e157_10 rfl rfl ?_
    refine z_iload_n (j := 1) dJ3_checkIndex_8e157_11 rfl rfl ?_
    exact z_none
  · refine z_iload_n (j := 0) dJ3_checkIndex_8e157_4 rfl rfl ?_
    refine z_iload_n (j := 1) dJ3_checkIndex_8e157_5 rfl rfl ?_
    refine z_icmp_lt (tgt := 16) dJ3_checkIndex_8e157_6 (by decide) (fun _ => ?_) (fun _ => ?_)
    · refine z_iload_n (j := 0) dJ3_checkIndex_8e157_16 rfl rfl ?_
      exact z_iret dJ3_checkIndex_8e157_17 rfl rfl rfl rfl
    · refine z_aload_n (j := 2) dJ3_checkIndex_8e157_9 rfl rfl ?_
      refine z_iload_n (j := 0) dJ3_checkIndex_8e157_10 rfl rfl ?_
      refine z_iload_n (j := 1) dJ3_checkIndex_8e157_11 rfl rfl ?_
      exact z_none
def fJ15_checkIndex_7cf53 (h : Zh) (a1 : Int32) (a2 : Int32) : Option (Int32) :=
  (fJ3_checkIndex_8e157 h a1 a2 none).bind fun x1 =>
  some x1
set_option maxRecDepth 100000 in
set_option maxHeartbeats 4000000 in
theorem kJ15_checkIndex_7cf53 (G : Zg) (h : Zh) (a1 : Int32) (a2 : Int32) {x : Int32} (hx : fJ15_checkIndex_7cf53 h a1 a2 = some x) : zCt G yJ15_checkIndex_7cf53 cJ15_checkIndex_7cf53 2 (Option.some Jvm.ClassFile.FieldType.int) 2 [.int a1, .int a2] h (some (.int x)) h := by
  refine z_met (a := x) (rvf := fun (x : Int32) => some (.int x)) (hff := fun (_ : Int32) => h) (lv := [(0, .int a1), (1, .int a2)]) (by decide +kernel) (by simp [lg_sl, zcat1, zcI, zcJ]) (by simp [lv_args, zcat1, zcI, zcJ]) ?_ hx
  unfold fJ15_checkIndex_7cf53
  refine z_iload_n (j := 0) dJ15_checkIndex_7cf53_0 rfl rfl ?_
  refine z_iload_n (j := 1) dJ15_checkIndex_7cf53_1 rfl rfl ?_
  refine z_null (b := G.2.1) dJ15_checkIndex_7cf53_2 ?_
  refine z_callS (As := [.int a1, .int a2, zrv G.2.1 none]) (rest := []) (rv2 := fun (x : Int32) => some (.int x)) (h2 := fun (_ : Int32) => h) dJ15_checkIndex_7cf53_3 vJ3_checkIndex_8e157 (.inl zw479) (by decide) rfl rfl (by decide) (fun x hx => kJ3_checkIndex_8e157 G h a1 a2 none hx) (fun x1 => ?_)
  try dsimp only [Option.toList, List.cons_append, List.nil_append]
  exact z_iret dJ15_checkIndex_7cf53_6 rfl rfl rfl rfl
def fJx4a65c_elementData_915e3 (h : Zh) (this : Option Nat) (a1 : Int32) : Option (Option Nat) :=
  (zfP h this 0 1).bind fun r1 =>
  (zaP h r1 5 a1).bind fun r2 =>
  some r2
set_option maxRecDepth 100000 in
set_option maxHeartbeats 4000000 in
theorem kJx4a65c_elementData_915e3 (G : Zg) (h : Zh) (this : Option Nat) (a1 : Int32) {x : Option Nat} (hx : fJx4a65c_elementData_915e3 h this a1 = some x) : zCt G yJx4a65c_elementData_915e3 cJx4a65c_elementData_915e3 2 (Option.some (Jvm.ClassFile.FieldType.object "java/lang/Object")) 1 [zrv G.2.1 this, .int a1] h (some (zrv G.2.1 x)) h := by
  refine z_met (a := x) (rvf := fun (x : Option Nat) => some (zrv G.2.1 x)) (hff := fun (_ : Option Nat) => h) (lv := [(0, zrv G.2.1 this), (1, .int a1)]) (by decide +kernel) (by simp [lg_sl, zcat1, zcI, zcJ]) (by simp [lv_args, zcat1, zcI, zcJ]) ?_ hx
  unfold fJx4a65c_elementData_915e3
  refine z_aload_n (j := 0) dJx4a65c_elementData_915e3_0 rfl rfl ?_
  refine z_getP (k := 1) dJx4a65c_elementData_915e3_1 zkl0 (by decide) rfl (.inl zw449) (fun r1 => ?_)
  refine z_iload_n (j := 1) dJx4a65c_elementData_915e3_4 rfl rfl ?_
  refine z_aald dJx4a65c_elementData_915e3_5 (by decide) (by decide) (fun r2 => ?_)
  exact z_aret (b := G.2.1) (r := r2) dJx4a65c_elementData_915e3_6 rfl (.inl ⟨_, rfl⟩) rfl rfl
def fJx4a65c_get_915e3 (h : Zh) (this : Option Nat) (a1 : Int32) : Option (Option Nat) :=
  (zfI h this 0 2).bind fun x1 =>
  (fJ15_checkIndex_7cf53 h a1 x1).bind fun x2 =>
  (zob h this 1).bind fun p3 =>
  (fJx4a65c_elementData_915e3 h (some p3) a1).bind fun r4 =>
  some r4
set_option maxRecDepth 100000 in
set_option maxHeartbeats 4000000 in
theorem kJx4a65c_get_915e3 (G : Zg) (h : Zh) (this : Option Nat) (a1 : Int32) {x : Option Nat} (hx : fJx4a65c_get_915e3 h this a1 = some x) : zCt G yJx4a65c_get_915e3 cJx4a65c_get_915e3 2 (Option.some (Jvm.ClassFile.FieldType.object "java/lang/Object")) 3 [zrv G.2.1 this, .int a1] h (some (zrv G.2.1 x)) h := by
  refine z_met (a := x) (rvf := fun (x : Option Nat) => some (zrv G.2.1 x)) (hff := fun (_ : Option Nat) => h) (lv := [(0, zrv G.2.1 this), (1, .int a1)]) (by decide +kernel) (by simp [lg_sl, zcat1, zcI, zcJ]) (by simp [lv_args, zcat1, zcI, zcJ]) ?_ hx
  unfold fJx4a65c_get_915e3
  refine z_iload_n (j := 1) dJx4a65c_get_915e3_0 rfl rfl ?_
  refine z_aload_n (j := 0) dJx4a65c_get_915e3_1 rfl rfl ?_
  refine z_getI (k := 2) dJx4a65c_get_915e3_2 zkl0 (by decide) rfl (.inl zw450) (fun x1 => ?_)
  refine z_callS (As := [.int a1, .int x1]) (rest := []) (rv2 := fun (x : Int32) => some (.int x)) (h2 := fun (_ : Int32) => h) dJx4a65c_get_915e3_5 vJ15_checkIndex_7cf53 (.inl zw476) (by decide) rfl rfl (by decide) (fun x hx => kJ15_checkIndex_7cf53 G h a1 x1 hx) (fun x2 => ?_)
  try dsimp only [Option.toList, List.cons_append, List.nil_append]
  refine z_pop dJx4a65c_get_915e3_8 rfl ?_
  refine z_aload_n (j := 0) dJx4a65c_get_915e3_9 rfl rfl ?_
  refine z_iload_n (j := 1) dJx4a65c_get_915e3_10 rfl rfl ?_
  refine z_ob (fun p3 ep3 lp3 kp3 => ?_)
  refine z_callV (As := [.int a1]) (rest := []) (rv2 := fun (x : Option Nat) => some (zrv G.2.1 x)) (h2 := fun (_ : Option Nat) => h) dJx4a65c_get_915e3_11 vJx4a65c_elementData_915e3 (.inl zw482) (by decide) zkl0 lp3 kp3 rfl (by rw [ep3]; rfl) (by decide) (fun x hx => kJx4a65c_elementData_915e3 G h (some p3) a1 hx) (fun r4 => ?_)
  try dsimp only [Option.toList, List.cons_append, List.nil_append]
  exact z_aret (b := G.2.1) (r := r4) dJx4a65c_get_915e3_14 rfl (.inl ⟨_, rfl⟩) rfl rfl
def fJ6_compare_7cf53 (h : Zh) (a1 : Int32) (a2 : Int32) : Option (Int32) :=
  (if a2 ≤ a1 then
    if a1 = a2 then
      some (0 : Int32)
    else
      some (1 : Int32)
  else
    some (-1 : Int32)).bind fun (v1 : Int32) =>
  some v1
set_option maxRecDepth 100000 in
set_option maxHeartbeats 4000000 in
theorem kJ6_compare_7cf53 (G : Zg) (h : Zh) (a1 : Int32) (a2 : Int32) {x : Int32} (hx : fJ6_compare_7cf53 h a1 a2 = some x) : zCt G yJ6_compare_7cf53 cJ6_compare_7cf53 2 (Option.some Jvm.ClassFile.FieldType.int) 1 [.int a1, .int a2] h (some (.int x)) h := by
  refine z_met (a := x) (rvf := fun (x : Int32) => some (.int x)) (hff := fun (_ : Int32) => h) (lv := [(0, .int a1), (1, .int a2)]) (by decide +kernel) (by simp [lg_sl, zcat1, zcI, zcJ]) (by simp [lv_args, zcat1, zcI, zcJ]) ?_ hx
  unfold fJ6_compare_7cf53
  refine z_iload_n (j := 0) dJ6_compare_7cf53_0 rfl rfl ?_
  refine z_iload_n (j := 1) dJ6_compare_7cf53_1 rfl rfl ?_
  refine z_join (pc2 := 19) (lv2 := fun (q : Int32) => []) (st2 := fun (q : Int32) => [.int q]) (h2 := fun (q : Int32) => h) (fun q => ?_) (fun F2 kF2 => ?_)
  · obtain ⟨v1, e0⟩ : ∃ z, z = q := ⟨_, rfl⟩
    subst e0
    try dsimp only
    exact z_iret dJ6_compare_7cf53_19 rfl rfl rfl rfl
  · refine z_itb ?_
    refine z_icmp_ge (tgt := 9) dJ6_compare_7cf53_2 (by decide) (fun _ => ?_) (fun _ => ?_)
    · refine z_iload_n (j := 0) dJ6_compare_7cf53_9 rfl rfl ?_
      refine z_iload_n (j := 1) dJ6_compare_7cf53_10 rfl rfl ?_
      refine z_itb ?_
      refine z_icmp_ne (tgt := 18) dJ6_compare_7cf53_11 (by decide) (fun _ => ?_) (fun _ => ?_)
      · refine z_iconst (v := 0) dJ6_compare_7cf53_14 (by decide) ?_
        refine z_goto (tgt := 19) dJ6_compare_7cf53_15 (by decide) ?_
        refine z_sb ?_
        refine z_at [] rfl ?_
        exact kF2 (0 : Int32)
      · refine z_iconst (v := 1) dJ6_compare_7cf53_18 (by decide) ?_
        refine z_sb ?_
        refine z_at [] rfl ?_
        exact kF2 (1 : Int32)
    · refine z_iconst (v := -1) dJ6_compare_7cf53_5 (by decide) ?_
      refine z_goto (tgt := 19) dJ6_compare_7cf53_6 (by decide) ?_
      refine z_sb ?_
      refine z_at [] rfl ?_
      exact kF2 (-1 : Int32)
def fX5_orderB (rc : (Zh → Option Nat → Option Nat → Int32 → Option (Int32))) (h : Zh) (a1 : Option Nat) (a2 : Option Nat) (a3 : Int32) : Option (Int32) :=
  (zfI h a1 3 0).bind fun x1 =>
  (zfI h a2 3 0).bind fun x2 =>
  if x1 = x2 then
    (zfI h a1 3 1).bind fun x3 =>
    (zfI h a2 3 1).bind fun x4 =>
    if x3 = x4 then
      (zfP h a1 3 2).bind fun r5 =>
      (zaL h r5 3).bind fun x6 =>
      (zfP h a2 3 2).bind fun r7 =>
      (zaL h r7 3).bind fun x8 =>
      if x6 = x8 then
        if a3 ≤ (40 : Int32) then
          (zloop (fun (v9 : Int32) =>
            ((zfP h a1 3 2).bind fun r12 =>
            (zaL h r12 3).bind fun x13 =>
            if x13 ≤ v9 then
              some (.inr (.inl ()))
            else
              (zfP h a2 3 2).bind fun r14 =>
              (zaL h r14 3).bind fun x15 =>
              if x15 ≤ v9 then
                some (.inr (.inl ()))
              else
                (zfP h a1 3 2).bind fun r16 =>
                (zaP h r16 3 v9).bind fun r17 =>
                (zfP h a2 3 2).bind fun r18 =>
                (zaP h r18 3 v9).bind fun r19 =>
                (rc h r17 r19 (a3 + (1 : Int32))).bind fun x20 =>
                if x20 = 0 then
                  some (.inl (v9 + (1 : Int32)))
                else
                  some (.inr (.inr x20)) : Option (Int32 ⊕ (Unit ⊕ Int32)))) zFU (0 : Int32)).bind fun (q : (Unit ⊕ Int32)) => match q with
          | .inr t => some t
          | .inl u =>
            some (0 : Int32)
        else
          some (0 : Int32)
      else
        (zfP h a1 3 2).bind fun r21 =>
        (zaL h r21 3).bind fun x22 =>
        (zfP h a2 3 2).bind fun r23 =>
        (zaL h r23 3).bind fun x24 =>
        (fJ6_compare_7cf53 h x22 x24).bind fun x25 =>
        some x25
    else
      (zfI h a1 3 1).bind fun x26 =>
      (zfI h a2 3 1).bind fun x27 =>
      (fJ6_compare_7cf53 h x26 x27).bind fun x28 =>
      some x28
  else
    (zfI h a1 3 0).bind fun x29 =>
    (zfI h a2 3 0).bind fun x30 =>
    (fJ6_compare_7cf53 h x29 x30).bind fun x31 =>
    some x31
set_option maxRecDepth 100000 in
set_option maxHeartbeats 4000000 in
theorem kX5_orderB (G : Zg) (rc : (Zh → Option Nat → Option Nat → Int32 → Option (Int32))) (d : Nat) (hrec : ∀ (h : Zh) (a1 : Option Nat) (a2 : Option Nat) (a3 : Int32) {x : Int32}, rc h a1 a2 a3 = some x → zCt G yX5_order cX5_order 5 (Option.some Jvm.ClassFile.FieldType.int) d [zrv G.2.1 a1, zrv G.2.1 a2, .int a3] h (some (.int x)) h) (hd0 : 1 ≤ d) (h : Zh) (a1 : Option Nat) (a2 : Option Nat) (a3 : Int32) {x : Int32} (hx : fX5_orderB rc h a1 a2 a3 = some x) : zCt G yX5_order cX5_order 5 (Option.some Jvm.ClassFile.FieldType.int) (d + 1) [zrv G.2.1 a1, zrv G.2.1 a2, .int a3] h (some (.int x)) h := by
  refine z_met (a := x) (rvf := fun (x : Int32) => some (.int x)) (hff := fun (_ : Int32) => h) (lv := [(0, zrv G.2.1 a1), (1, zrv G.2.1 a2), (2, .int a3)]) (by decide +kernel) (by simp [lg_sl, zcat1, zcI, zcJ]) (by simp [lv_args, zcat1, zcI, zcJ]) ?_ hx
  unfold fX5_orderB
  refine z_aload_n (j := 0) dX5_order_0 rfl rfl ?_
  refine z_getI (k := 0) dX5_order_1 zkl3 (by decide) rfl (.inr ⟨_, zw377⟩) (fun x1 => ?_)
  refine z_aload_n (j := 1) dX5_order_4 rfl rfl ?_
  refine z_getI (k := 0) dX5_order_5 zkl3 (by decide) rfl (.inr ⟨_, zw377⟩) (fun x2 => ?_)
  refine z_icmp_eq (tgt := 23) dX5_order_8 (by decide) (fun _ => ?_) (fun _ => ?_)
  · refine z_aload_n (j := 0) dX5_order_23 rfl rfl ?_
    refine z_getI (k := 1) dX5_order_24 zkl3 (by decide) rfl (.inr ⟨_, zw380⟩) (fun x3 => ?_)
    refine z_aload_n (j := 1) dX5_order_27 rfl rfl ?_
    refine z_getI (k := 1) dX5_order_28 zkl3 (by decide) rfl (.inr ⟨_, zw380⟩) (fun x4 => ?_)
    refine z_icmp_eq (tgt := 46) dX5_order_31 (by decide) (fun _ => ?_) (fun _ => ?_)
    · refine z_aload_n (j := 0) dX5_order_46 rfl rfl ?_
      refine z_getP (k := 2) dX5_order_47 zkl3 (by decide) rfl (.inr ⟨_, zw383⟩) (fun r5 => ?_)
      refine z_alen dX5_order_50 (by decide) (fun x6 => ?_)
      refine z_aload_n (j := 1) dX5_order_51 rfl rfl ?_
      refine z_getP (k := 2) dX5_order_52 zkl3 (by decide) rfl (.inr ⟨_, zw383⟩) (fun r7 => ?_)
      refine z_alen dX5_order_55 (by decide) (fun x8 => ?_)
      refine z_icmp_eq (tgt := 73) dX5_order_56 (by decide) (fun _ => ?_) (fun _ => ?_)
      · refine z_iload_n (j := 2) dX5_order_73 rfl rfl ?_
        refine z_bipush (v := 40) dX5_order_74 (by decide) ?_
        refine z_icmp_le (tgt := 81) dX5_order_76 (by decide) (fun _ => ?_) (fun _ => ?_)
        · refine z_iconst (v := 0) dX5_order_81 (by decide) ?_
          refine z_istore_n (i := 3) (lv' := [(3, .int (0 : Int32)), (0, zrv G.2.1 a1), (1, zrv G.2.1 a2), (2, .int a3)]) dX5_order_82 rfl (by decide) rfl ?_
          refine z_at [1, 2, 3, 0] rfl ?_
          refine z_joinS (pc2 := 135) (lv2 := fun (q : Unit) => []) (st2 := fun _ => []) (h2 := fun (q : Unit) => h) (fun q => ?_) (fun _ => rfl) (fun F10 kF10 tF10 => ?_)
          · obtain ⟨u, e0⟩ : ∃ z, z = q := ⟨_, rfl⟩
            subst e0
            try dsimp only
            refine z_iconst (v := 0) dX5_order_135 (by decide) ?_
            exact z_iret dX5_order_136 rfl rfl rfl rfl
          · refine z_loop (lvf := fun (q : Int32) => [(0, zrv G.2.1 a1), (1, zrv G.2.1 a2), (2, .int a3), (3, .int q)]) (hf2 := fun (q : Int32) => h) (s0 := (0 : Int32)) (fun K11 bK11 rK11 q => ?_)
            obtain ⟨v9, e0⟩ : ∃ z, z = q := ⟨_, rfl⟩
            subst e0
            try dsimp only
            refine z_iload_n (j := 3) dX5_order_83 rfl rfl ?_
            refine z_aload_n (j := 0) dX5_order_84 rfl rfl ?_
            refine z_as ?_
            refine z_getP (k := 2) dX5_order_85 zkl3 (by decide) rfl (.inr ⟨_, zw383⟩) (fun r12 => ?_)
            refine z_as ?_
            refine z_alen dX5_order_88 (by decide) (fun x13 => ?_)
            refine z_itb ?_
            refine z_icmp_ge (tgt := 135) dX5_order_89 (by decide) (fun _ => ?_) (fun _ => ?_)
            · refine z_sb ?_
              refine z_eq (rK11 _) ?_
              refine z_at [] rfl ?_
              exact kF10 ()
            · refine z_iload_n (j := 3) dX5_order_92 rfl rfl ?_
              refine z_aload_n (j := 1) dX5_order_93 rfl rfl ?_
              refine z_as ?_
              refine z_getP (k := 2) dX5_order_94 zkl3 (by decide) rfl (.inr ⟨_, zw383⟩) (fun r14 => ?_)
              refine z_as ?_
              refine z_alen dX5_order_97 (by decide) (fun x15 => ?_)
              refine z_itb ?_
              refine z_icmp_ge (tgt := 135) dX5_order_98 (by decide) (fun _ => ?_) (fun _ => ?_)
              · refine z_sb ?_
                refine z_eq (rK11 _) ?_
                refine z_at [] rfl ?_
                exact kF10 ()
              · refine z_aload_n (j := 0) dX5_order_101 rfl rfl ?_
                refine z_as ?_
                refine z_getP (k := 2) dX5_order_102 zkl3 (by decide) rfl (.inr ⟨_, zw383⟩) (fun r16 => ?_)
                refine z_iload_n (j := 3) dX5_order_105 rfl rfl ?_
                refine z_as ?_
                refine z_aald dX5_order_106 (by decide) (by decide) (fun r17 => ?_)
                refine z_aload_n (j := 1) dX5_order_107 rfl rfl ?_
                refine z_as ?_
                refine z_getP (k := 2) dX5_order_108 zkl3 (by decide) rfl (.inr ⟨_, zw383⟩) (fun r18 => ?_)
                refine z_iload_n (j := 3) dX5_order_111 rfl rfl ?_
                refine z_as ?_
                refine z_aald dX5_order_112 (by decide) (by decide) (fun r19 => ?_)
                refine z_iload_n (j := 2) dX5_order_113 rfl rfl ?_
                refine z_iconst (v := 1) dX5_order_114 (by decide) ?_
                refine z_iadd dX5_order_115 ?_
                refine z_as ?_
                refine z_callS (As := [zrv G.2.1 r17, zrv G.2.1 r19, .int (a3 + (1 : Int32))]) (rest := []) (rv2 := fun (x : Int32) => some (.int x)) (h2 := fun (_ : Int32) => h) dX5_order_116 vX5_order (.inl zw486) (by omega) rfl rfl (by decide) (fun x hx => hrec h r17 r19 (a3 + (1 : Int32)) hx) (fun x20 => ?_)
                try dsimp only [Option.toList, List.cons_append, List.nil_append]
                refine z_istore (i := 4) (lv' := [(4, .int x20), (0, zrv G.2.1 a1), (1, zrv G.2.1 a2), (2, .int a3), (3, .int v9)]) dX5_order_119 (by decide) rfl ?_
                refine z_iload (j := 0) dX5_order_121 rfl ?_
                refine z_itb ?_
                refine z_if_eq (tgt := 129) dX5_order_123 (by decide) (fun _ => ?_) (fun _ => ?_)
                · refine z_iinc (j := 4) (v := v9 + (1 : Int32)) (lv' := [(3, .int (v9 + (1 : Int32))), (4, .int x20), (0, zrv G.2.1 a1), (1, zrv G.2.1 a2), (2, .int a3)]) dX5_order_129 rfl rfl (by decide) rfl ?_
                  refine z_goto (tgt := 83) dX5_order_132 (by decide) ?_
                  refine z_sb ?_
                  refine z_at [2, 3, 4, 0] rfl ?_
                  exact bK11 (v9 + (1 : Int32))
                · refine z_iload (j := 0) dX5_order_126 rfl ?_
                  refine z_sb ?_
                  refine z_eq (rK11 _) ?_
                  refine z_eq (tF10 _) ?_
                  exact z_iret dX5_order_128 rfl rfl rfl rfl
        · refine z_iconst (v := 0) dX5_order_79 (by decide) ?_
          exact z_iret dX5_order_80 rfl rfl rfl rfl
      · refine z_aload_n (j := 0) dX5_order_59 rfl rfl ?_
        refine z_getP (k := 2) dX5_order_60 zkl3 (by decide) rfl (.inr ⟨_, zw383⟩) (fun r21 => ?_)
        refine z_alen dX5_order_63 (by decide) (fun x22 => ?_)
        refine z_aload_n (j := 1) dX5_order_64 rfl rfl ?_
        refine z_getP (k := 2) dX5_order_65 zkl3 (by decide) rfl (.inr ⟨_, zw383⟩) (fun r23 => ?_)
        refine z_alen dX5_order_68 (by decide) (fun x24 => ?_)
        refine z_callS (As := [.int x22, .int x24]) (rest := []) (rv2 := fun (x : Int32) => some (.int x)) (h2 := fun (_ : Int32) => h) dX5_order_69 vJ6_compare_7cf53 (.inl zw489) (by omega) rfl rfl (by decide) (fun x hx => kJ6_compare_7cf53 G h x22 x24 hx) (fun x25 => ?_)
        try dsimp only [Option.toList, List.cons_append, List.nil_append]
        exact z_iret dX5_order_72 rfl rfl rfl rfl
    · refine z_aload_n (j := 0) dX5_order_34 rfl rfl ?_
      refine z_getI (k := 1) dX5_order_35 zkl3 (by decide) rfl (.inr ⟨_, zw380⟩) (fun x26 => ?_)
      refine z_aload_n (j := 1) dX5_order_38 rfl rfl ?_
      refine z_getI (k := 1) dX5_order_39 zkl3 (by decide) rfl (.inr ⟨_, zw380⟩) (fun x27 => ?_)
      refine z_callS (As := [.int x26, .int x27]) (rest := []) (rv2 := fun (x : Int32) => some (.int x)) (h2 := fun (_ : Int32) => h) dX5_order_42 vJ6_compare_7cf53 (.inl zw489) (by omega) rfl rfl (by decide) (fun x hx => kJ6_compare_7cf53 G h x26 x27 hx) (fun x28 => ?_)
      try dsimp only [Option.toList, List.cons_append, List.nil_append]
      exact z_iret dX5_order_45 rfl rfl rfl rfl
  · refine z_aload_n (j := 0) dX5_order_11 rfl rfl ?_
    refine z_getI (k := 0) dX5_order_12 zkl3 (by decide) rfl (.inr ⟨_, zw377⟩) (fun x29 => ?_)
    refine z_aload_n (j := 1) dX5_order_15 rfl rfl ?_
    refine z_getI (k := 0) dX5_order_16 zkl3 (by decide) rfl (.inr ⟨_, zw377⟩) (fun x30 => ?_)
    refine z_callS (As := [.int x29, .int x30]) (rest := []) (rv2 := fun (x : Int32) => some (.int x)) (h2 := fun (_ : Int32) => h) dX5_order_19 vJ6_compare_7cf53 (.inl zw489) (by omega) rfl rfl (by decide) (fun x hx => kJ6_compare_7cf53 G h x29 x30 hx) (fun x31 => ?_)
    try dsimp only [Option.toList, List.cons_append, List.nil_append]
    exact z_iret dX5_order_22 rfl rfl rfl rfl
def fX5_order : Nat → (Zh → Option Nat → Option Nat → Int32 → Option (Int32))
  | 0 => fun _ _ _ _ => none
  | n + 1 => fX5_orderB (fX5_order n)
theorem kX5_order (G : Zg) (n : Nat) (h : Zh) (a1 : Option Nat) (a2 : Option Nat) (a3 : Int32) {x : Int32} (hx : fX5_order n h a1 a2 a3 = some x) : zCt G yX5_order cX5_order 5 (Option.some Jvm.ClassFile.FieldType.int) (n * 1 + 1) [zrv G.2.1 a1, zrv G.2.1 a2, .int a3] h (some (.int x)) h := by
  induction n generalizing h a1 a2 a3 x with
  | zero => cases hx
  | succ n ih =>
    have h1 := kX5_orderB G (fX5_order n) (n * 1 + 1) (fun h a1 a2 a3 x hx => ih h a1 a2 a3 hx) (by omega) h a1 a2 a3 hx
    rw [show n * 1 + 1 + 1 = (n + 1) * 1 + 1 by omega] at h1
    exact h1
def fJx4a65c_rangeCheckForAdd_d00df (h : Zh) (this : Option Nat) (a1 : Int32) : Option (Zh) :=
  (zfI h this 0 2).bind fun x1 =>
  if x1 < a1 then
    none
  else
    if 0 ≤ a1 then
      some h
    else
      none
set_option maxRecDepth 100000 in
set_option maxHeartbeats 4000000 in
theorem kJx4a65c_rangeCheckForAdd_d00df (G : Zg) (h : Zh) (this : Option Nat) (a1 : Int32) {x : Zh} (hx : fJx4a65c_rangeCheckForAdd_d00df h this a1 = some x) : zCt G yJx4a65c_rangeCheckForAdd_d00df cJx4a65c_rangeCheckForAdd_d00df 2 (Option.none : Option Jvm.ClassFile.FieldType) 1 [zrv G.2.1 this, .int a1] h none x := by
  refine z_met (a := x) (rvf := fun (_ : Zh) => none) (hff := fun (x : Zh) => x) (lv := [(0, zrv G.2.1 this), (1, .int a1)]) (by decide +kernel) (by simp [lg_sl, zcat1, zcI, zcJ]) (by simp [lv_args, zcat1, zcI, zcJ]) ?_ hx
  unfold fJx4a65c_rangeCheckForAdd_d00df
  refine z_iload_n (j := 1) dJx4a65c_rangeCheckForAdd_d00df_0 rfl rfl ?_
  refine z_aload_n (j := 0) dJx4a65c_rangeCheckForAdd_d00df_1 rfl rfl ?_
  refine z_getI (k := 2) dJx4a65c_rangeCheckForAdd_d00df_2 zkl0 (by decide) rfl (.inl zw450) (fun x1 => ?_)
  refine z_icmp_gt (tgt := 12) dJx4a65c_rangeCheckForAdd_d00df_5 (by decide) (fun _ => ?_) (fun _ => ?_)
  · exact z_none
  · refine z_iload_n (j := 1) dJx4a65c_rangeCheckForAdd_d00df_8 rfl rfl ?_
    refine z_if_ge (tgt := 25) dJx4a65c_rangeCheckForAdd_d00df_9 (by decide) (fun _ => ?_) (fun _ => ?_)
    · exact z_vret dJx4a65c_rangeCheckForAdd_d00df_25 rfl rfl rfl
    · exact z_none
def fJ8_newLength_cabcc (h : Zh) (a1 : Int32) (a2 : Int32) (a3 : Int32) : Option (Int32) :=
  if (a1 + (if a2 < a3 then a3 else a2)) ≤ (0 : Int32) then
    none
  else
    if (2147483639 : Int32) < (a1 + (if a2 < a3 then a3 else a2)) then
      none
    else
      some (a1 + (if a2 < a3 then a3 else a2))
set_option maxRecDepth 100000 in
set_option maxHeartbeats 4000000 in
theorem kJ8_newLength_cabcc (G : Zg) (h : Zh) (a1 : Int32) (a2 : Int32) (a3 : Int32) {x : Int32} (hx : fJ8_newLength_cabcc h a1 a2 a3 = some x) : zCt G yJ8_newLength_cabcc cJ8_newLength_cabcc 4 (Option.some Jvm.ClassFile.FieldType.int) 1 [.int a1, .int a2, .int a3] h (some (.int x)) h := by
  refine z_met (a := x) (rvf := fun (x : Int32) => some (.int x)) (hff := fun (_ : Int32) => h) (lv := [(0, .int a1), (1, .int a2), (2, .int a3)]) (by decide +kernel) (by simp [lg_sl, zcat1, zcI, zcJ]) (by simp [lv_args, zcat1, zcI, zcJ]) ?_ hx
  unfold fJ8_newLength_cabcc
  refine z_iload_n (j := 0) dJ8_newLength_cabcc_0 rfl rfl ?_
  refine z_iload_n (j := 1) dJ8_newLength_cabcc_1 rfl rfl ?_
  refine z_iload_n (j := 2) dJ8_newLength_cabcc_2 rfl rfl ?_
  refine z_mmax dJ8_newLength_cabcc_3 zw511 zw512 zw47 zw513 (by decide) (by simp [zcat1, zcI, zcJ]) ?_
  refine z_iadd dJ8_newLength_cabcc_6 ?_
  refine z_istore_n (i := 3) (lv' := [(3, .int (a1 + (if a2 < a3 then a3 else a2))), (0, .int a1), (1, .int a2), (2, .int a3)]) dJ8_newLength_cabcc_7 rfl (by decide) rfl ?_
  refine z_iconst (v := 0) dJ8_newLength_cabcc_8 (by decide) ?_
  refine z_iload_n (j := 0) dJ8_newLength_cabcc_9 rfl rfl ?_
  refine z_icmp_ge (tgt := 21) dJ8_newLength_cabcc_10 (by decide) (fun _ => ?_) (fun _ => ?_)
  · refine z_iload_n (j := 1) dJ8_newLength_cabcc_21 rfl rfl ?_
    refine z_iload_n (j := 2) dJ8_newLength_cabcc_22 rfl rfl ?_
    exact z_none
  · refine z_iload_n (j := 0) dJ8_newLength_cabcc_13 rfl rfl ?_
    refine z_ldc (v := 2147483639) dJ8_newLength_cabcc_14 zw514 ?_
    refine z_icmp_gt (tgt := 21) dJ8_newLength_cabcc_16 (by decide) (fun _ => ?_) (fun _ => ?_)
    · refine z_iload_n (j := 1) dJ8_newLength_cabcc_21 rfl rfl ?_
      refine z_iload_n (j := 2) dJ8_newLength_cabcc_22 rfl rfl ?_
      exact z_none
    · refine z_iload_n (j := 0) dJ8_newLength_cabcc_19 rfl rfl ?_
      exact z_iret dJ8_newLength_cabcc_20 rfl rfl rfl rfl
def fJ7_copyOf_6403c (c : Nat × Nat) (h : Zh) (a1 : Option Nat) (a2 : Int32) (a3 : Option Nat) : Option (Option Nat × Zh) :=
  (if a3 = (some c.2) then
    (zmA h 5 a2).bind fun ((r4, h5) : Option Nat × Zh) =>
    some (r4, h5)
  else
    none).bind fun ((v1, h2) : Option Nat × Zh) =>
  (zaO h2 a1).bind fun x6 =>
  (zcp h2 a1 (0 : Int32) v1 (0 : Int32) (if a2 < x6 then a2 else x6)).bind fun h7 =>
  some (v1, h7)
set_option maxRecDepth 100000 in
set_option maxHeartbeats 4000000 in
theorem kJ7_copyOf_6403c (G : Zg) (c : Nat × Nat) (hc : c = G.2.2.2.2.2) (h : Zh) (a1 : Option Nat) (a2 : Int32) (a3 : Option Nat) {x : Option Nat × Zh} (hx : fJ7_copyOf_6403c c h a1 a2 a3 = some x) : zCt G yJ7_copyOf_6403c cJ7_copyOf_6403c 4 (Option.some (Jvm.ClassFile.FieldType.array (Jvm.ClassFile.FieldType.object "java/lang/Object"))) 1 [zrv G.2.1 a1, .int a2, zrv G.2.1 a3] h (some (zrv G.2.1 x.1)) x.2 := by
  refine z_met (a := x) (rvf := fun (x : Option Nat × Zh) => some (zrv G.2.1 x.1)) (hff := fun (x : Option Nat × Zh) => x.2) (lv := [(0, zrv G.2.1 a1), (1, .int a2), (2, zrv G.2.1 a3)]) (by decide +kernel) (by simp [lg_sl, zcat1, zcI, zcJ]) (by simp [lv_args, zcat1, zcI, zcJ]) ?_ hx
  unfold fJ7_copyOf_6403c
  refine z_aload_n (j := 2) dJ7_copyOf_6403c_0 rfl rfl ?_
  refine z_ldcM2 hc dJ7_copyOf_6403c_1 zw534 ?_
  refine z_join (pc2 := 24) (lv2 := fun (q : Option Nat × Zh) => [(0, zrv G.2.1 a1), (1, .int a2)]) (st2 := fun (q : Option Nat × Zh) => [zrv G.2.1 q.1]) (h2 := fun (q : Option Nat × Zh) => q.2) (fun q => ?_) (fun F3 kF3 => ?_)
  · obtain ⟨v1, h2⟩ := q
    try dsimp only
    refine z_astore_n (i := 3) (lv' := [(3, zrv G.2.1 v1), (0, zrv G.2.1 a1), (1, .int a2)]) dJ7_copyOf_6403c_24 rfl (by decide) rfl ?_
    refine z_aload_n (j := 1) dJ7_copyOf_6403c_25 rfl rfl ?_
    refine z_iconst (v := 0) dJ7_copyOf_6403c_26 (by decide) ?_
    refine z_aload_n (j := 0) dJ7_copyOf_6403c_27 rfl rfl ?_
    refine z_iconst (v := 0) dJ7_copyOf_6403c_28 (by decide) ?_
    refine z_aload_n (j := 1) dJ7_copyOf_6403c_29 rfl rfl ?_
    refine z_alenO dJ7_copyOf_6403c_30 (fun x6 => ?_)
    refine z_iload_n (j := 2) dJ7_copyOf_6403c_31 rfl rfl ?_
    refine z_mmin dJ7_copyOf_6403c_32 zw537 zw203 zw47 zw204 (by decide) (by simp [zcat1, zcI, zcJ]) ?_
    refine z_copy dJ7_copyOf_6403c_35 zw538 zw540 zw539 zw58 zw668 (by decide) (by decide) (fun h7 => ?_)
    refine z_aload_n (j := 0) dJ7_copyOf_6403c_38 rfl rfl ?_
    exact z_aret (b := G.2.1) (r := v1) dJ7_copyOf_6403c_39 rfl (.inr ⟨_, rfl⟩) rfl rfl
  · refine z_itb ?_
    refine z_acmp_ne (tgt := 13) dJ7_copyOf_6403c_3 (by decide) (fun _ => ?_) (fun _ => ?_)
    · refine z_iload_n (j := 1) dJ7_copyOf_6403c_6 rfl rfl ?_
      refine z_as ?_
      refine z_newQ (t := 5) dJ7_copyOf_6403c_7 (by decide) (by decide) rfl zw536 (fun r4 h5 => ?_)
      try dsimp only
      refine z_goto (tgt := 24) dJ7_copyOf_6403c_10 (by decide) ?_
      refine z_sb ?_
      refine z_at [0, 1] rfl ?_
      exact kF3 (r4, h5)
    · refine z_aload_n (j := 2) dJ7_copyOf_6403c_13 rfl rfl ?_
      exact z_noneb
def fJ7_copyOf_1904c (c : Nat × Nat) (h : Zh) (a1 : Option Nat) (a2 : Int32) : Option (Option Nat × Zh) :=
  (zob h a1 105).bind fun _ =>
  (fJ7_copyOf_6403c c h a1 a2 (some c.2)).bind fun ((r1, h2) : Option Nat × Zh) =>
  some (r1, h2)
set_option maxRecDepth 100000 in
set_option maxHeartbeats 4000000 in
theorem kJ7_copyOf_1904c (G : Zg) (c : Nat × Nat) (hc : c = G.2.2.2.2.2) (h : Zh) (a1 : Option Nat) (a2 : Int32) {x : Option Nat × Zh} (hx : fJ7_copyOf_1904c c h a1 a2 = some x) : zCt G yJ7_copyOf_1904c cJ7_copyOf_1904c 2 (Option.some (Jvm.ClassFile.FieldType.array (Jvm.ClassFile.FieldType.object "java/lang/Object"))) 2 [zrv G.2.1 a1, .int a2] h (some (zrv G.2.1 x.1)) x.2 := by
  refine z_met (a := x) (rvf := fun (x : Option Nat × Zh) => some (zrv G.2.1 x.1)) (hff := fun (x : Option Nat × Zh) => x.2) (lv := [(0, zrv G.2.1 a1), (1, .int a2)]) (by decide +kernel) (by simp [lg_sl, zcat1, zcI, zcJ]) (by simp [lv_args, zcat1, zcI, zcJ]) ?_ hx
  unfold fJ7_copyOf_1904c
  refine z_aload_n (j := 0) dJ7_copyOf_1904c_0 rfl rfl ?_
  refine z_iload_n (j := 1) dJ7_copyOf_1904c_1 rfl rfl ?_
  refine z_aload_n (j := 0) dJ7_copyOf_1904c_2 rfl rfl ?_
  refine z_getC2 hc dJ7_copyOf_1904c_3 zw521 zw675 zw674 zw522 zw530 (by decide) (by simp [zcat1, zcI, zcJ]) (fun _ => ?_)
  refine z_callS (As := [zrv G.2.1 a1, .int a2, zrv G.2.1 (some c.2)]) (rest := []) (rv2 := fun (x : Option Nat × Zh) => some (zrv G.2.1 x.1)) (h2 := fun (x : Option Nat × Zh) => x.2) dJ7_copyOf_1904c_6 vJ7_copyOf_6403c (.inl zw531) (by decide) rfl rfl (by decide) (fun x hx => kJ7_copyOf_6403c G c hc h a1 a2 (some c.2) hx) (fun x => ?_)
  obtain ⟨r1, h2⟩ := x
  try dsimp only [Option.toList, List.cons_append, List.nil_append]
  exact z_aret (b := G.2.1) (r := r1) dJ7_copyOf_1904c_9 rfl (.inr ⟨_, rfl⟩) rfl rfl
def fJx4a65c_grow_92f84 (c : Nat × Nat) (h : Zh) (this : Option Nat) (a1 : Int32) : Option (Option Nat × Zh) :=
  (zfP h this 0 1).bind fun r1 =>
  (zaO h r1).bind fun x2 =>
  if 0 < x2 then
    (fJ8_newLength_cabcc h x2 (a1 - x2) (x2 >>> ((1 : Int32) &&& 31))).bind fun x3 =>
    (zfP h this 0 1).bind fun r4 =>
    (fJ7_copyOf_1904c c h r4 x3).bind fun ((r5, h6) : Option Nat × Zh) =>
    (zgP h6 this 0 1 r5).bind fun h7 =>
    some (r5, h7)
  else
    (zfP h this 0 1).bind fun r8 =>
    if r8 = (some c.1) then
      (zmA h 5 (if (10 : Int32) < a1 then a1 else (10 : Int32))).bind fun ((r9, h10) : Option Nat × Zh) =>
      (zgP h10 this 0 1 r9).bind fun h11 =>
      some (r9, h11)
    else
      (fJ8_newLength_cabcc h x2 (a1 - x2) (x2 >>> ((1 : Int32) &&& 31))).bind fun x12 =>
      (zfP h this 0 1).bind fun r13 =>
      (fJ7_copyOf_1904c c h r13 x12).bind fun ((r14, h15) : Option Nat × Zh) =>
      (zgP h15 this 0 1 r14).bind fun h16 =>
      some (r14, h16)
set_option maxRecDepth 100000 in
set_option maxHeartbeats 4000000 in
theorem kJx4a65c_grow_92f84 (G : Zg) (c : Nat × Nat) (hc : c = G.2.2.2.2.2) (h : Zh) (this : Option Nat) (a1 : Int32) {x : Option Nat × Zh} (hx : fJx4a65c_grow_92f84 c h this a1 = some x) : zCt G yJx4a65c_grow_92f84 cJx4a65c_grow_92f84 4 (Option.some (Jvm.ClassFile.FieldType.array (Jvm.ClassFile.FieldType.object "java/lang/Object"))) 3 [zrv G.2.1 this, .int a1] h (some (zrv G.2.1 x.1)) x.2 := by
  refine z_met (a := x) (rvf := fun (x : Option Nat × Zh) => some (zrv G.2.1 x.1)) (hff := fun (x : Option Nat × Zh) => x.2) (lv := [(0, zrv G.2.1 this), (1, .int a1)]) (by decide +kernel) (by simp [lg_sl, zcat1, zcI, zcJ]) (by simp [lv_args, zcat1, zcI, zcJ]) ?_ hx
  unfold fJx4a65c_grow_92f84
  refine z_aload_n (j := 0) dJx4a65c_grow_92f84_0 rfl rfl ?_
  refine z_getP (k := 1) dJx4a65c_grow_92f84_1 zkl0 (by decide) rfl (.inl zw449) (fun r1 => ?_)
  refine z_alenO dJx4a65c_grow_92f84_4 (fun x2 => ?_)
  refine z_istore_n (i := 2) (lv' := [(2, .int x2), (0, zrv G.2.1 this), (1, .int a1)]) dJx4a65c_grow_92f84_5 rfl (by decide) rfl ?_
  refine z_iload_n (j := 0) dJx4a65c_grow_92f84_6 rfl rfl ?_
  refine z_if_gt (tgt := 20) dJx4a65c_grow_92f84_7 (by decide) (fun _ => ?_) (fun _ => ?_)
  · refine z_iload_n (j := 0) dJx4a65c_grow_92f84_20 rfl rfl ?_
    refine z_iload_n (j := 2) dJx4a65c_grow_92f84_21 rfl rfl ?_
    refine z_iload_n (j := 0) dJx4a65c_grow_92f84_22 rfl rfl ?_
    refine z_isub dJx4a65c_grow_92f84_23 ?_
    refine z_iload_n (j := 0) dJx4a65c_grow_92f84_24 rfl rfl ?_
    refine z_iconst (v := 1) dJx4a65c_grow_92f84_25 (by decide) ?_
    refine z_ishr dJx4a65c_grow_92f84_26 ?_
    refine z_callS (As := [.int x2, .int (a1 - x2), .int (x2 >>> ((1 : Int32) &&& 31))]) (rest := []) (rv2 := fun (x : Int32) => some (.int x)) (h2 := fun (_ : Int32) => h) dJx4a65c_grow_92f84_27 vJ8_newLength_cabcc (.inl zw508) (by decide) rfl rfl (by decide) (fun x hx => kJ8_newLength_cabcc G h x2 (a1 - x2) (x2 >>> ((1 : Int32) &&& 31)) hx) (fun x3 => ?_)
    try dsimp only [Option.toList, List.cons_append, List.nil_append]
    refine z_istore_n (i := 3) (lv' := [(3, .int x3), (2, .int x2), (0, zrv G.2.1 this), (1, .int a1)]) dJx4a65c_grow_92f84_30 rfl (by decide) rfl ?_
    refine z_aload_n (j := 2) dJx4a65c_grow_92f84_31 rfl rfl ?_
    refine z_aload_n (j := 2) dJx4a65c_grow_92f84_32 rfl rfl ?_
    refine z_getP (k := 1) dJx4a65c_grow_92f84_33 zkl0 (by decide) rfl (.inl zw449) (fun r4 => ?_)
    refine z_iload_n (j := 0) dJx4a65c_grow_92f84_36 rfl rfl ?_
    refine z_callS (As := [zrv G.2.1 r4, .int x3]) (rest := [zrv G.2.1 this]) (rv2 := fun (x : Option Nat × Zh) => some (zrv G.2.1 x.1)) (h2 := fun (x : Option Nat × Zh) => x.2) dJx4a65c_grow_92f84_37 vJ7_copyOf_1904c (.inl zw518) (by decide) rfl rfl (by simp [zcat1, zcI, zcJ]) (fun x hx => kJ7_copyOf_1904c G c hc h r4 x3 hx) (fun x => ?_)
    obtain ⟨r5, h6⟩ := x
    try dsimp only [Option.toList, List.cons_append, List.nil_append]
    refine z_dup_x1 dJx4a65c_grow_92f84_40 (zcat1 _ _) (zcat1 _ _) ?_
    refine z_putP (k := 1) dJx4a65c_grow_92f84_41 zkl0 (by decide) (.inl zw449) (.inl rfl) (fun a => by cases a <;> exact ⟨rfl, rfl⟩) rfl (fun h7 => ?_)
    exact z_aret (b := G.2.1) (r := r5) dJx4a65c_grow_92f84_44 rfl (.inr ⟨_, rfl⟩) rfl rfl
  · refine z_aload_n (j := 1) dJx4a65c_grow_92f84_10 rfl rfl ?_
    refine z_getP (k := 1) dJx4a65c_grow_92f84_11 zkl0 (by decide) rfl (.inl zw449) (fun r8 => ?_)
    refine z_gets2 hc dJx4a65c_grow_92f84_14 zw447 ?_
    refine z_acmp_eq (tgt := 45) dJx4a65c_grow_92f84_17 (by decide) (fun _ => ?_) (fun _ => ?_)
    · refine z_aload_n (j := 1) dJx4a65c_grow_92f84_45 rfl rfl ?_
      refine z_bipush (v := 10) dJx4a65c_grow_92f84_46 (by decide) ?_
      refine z_iload_n (j := 2) dJx4a65c_grow_92f84_48 rfl rfl ?_
      refine z_mmax dJx4a65c_grow_92f84_49 zw541 zw512 zw47 zw513 (by decide) (by simp [zcat1, zcI, zcJ]) ?_
      refine z_newQ (t := 5) dJx4a65c_grow_92f84_52 (by decide) (by decide) rfl zw542 (fun r9 h10 => ?_)
      try dsimp only
      refine z_dup_x1 dJx4a65c_grow_92f84_55 (zcat1 _ _) (zcat1 _ _) ?_
      refine z_putP (k := 1) dJx4a65c_grow_92f84_56 zkl0 (by decide) (.inl zw449) (.inl rfl) (fun a => by cases a <;> exact ⟨rfl, rfl⟩) rfl (fun h11 => ?_)
      exact z_aret (b := G.2.1) (r := r9) dJx4a65c_grow_92f84_59 rfl (.inr ⟨_, rfl⟩) rfl rfl
    · refine z_iload_n (j := 0) dJx4a65c_grow_92f84_20 rfl rfl ?_
      refine z_iload_n (j := 2) dJx4a65c_grow_92f84_21 rfl rfl ?_
      refine z_iload_n (j := 0) dJx4a65c_grow_92f84_22 rfl rfl ?_
      refine z_isub dJx4a65c_grow_92f84_23 ?_
      refine z_iload_n (j := 0) dJx4a65c_grow_92f84_24 rfl rfl ?_
      refine z_iconst (v := 1) dJx4a65c_grow_92f84_25 (by decide) ?_
      refine z_ishr dJx4a65c_grow_92f84_26 ?_
      refine z_callS (As := [.int x2, .int (a1 - x2), .int (x2 >>> ((1 : Int32) &&& 31))]) (rest := []) (rv2 := fun (x : Int32) => some (.int x)) (h2 := fun (_ : Int32) => h) dJx4a65c_grow_92f84_27 vJ8_newLength_cabcc (.inl zw508) (by decide) rfl rfl (by decide) (fun x hx => kJ8_newLength_cabcc G h x2 (a1 - x2) (x2 >>> ((1 : Int32) &&& 31)) hx) (fun x12 => ?_)
      try dsimp only [Option.toList, List.cons_append, List.nil_append]
      refine z_istore_n (i := 3) (lv' := [(3, .int x12), (2, .int x2), (0, zrv G.2.1 this), (1, .int a1)]) dJx4a65c_grow_92f84_30 rfl (by decide) rfl ?_
      refine z_aload_n (j := 2) dJx4a65c_grow_92f84_31 rfl rfl ?_
      refine z_aload_n (j := 2) dJx4a65c_grow_92f84_32 rfl rfl ?_
      refine z_getP (k := 1) dJx4a65c_grow_92f84_33 zkl0 (by decide) rfl (.inl zw449) (fun r13 => ?_)
      refine z_iload_n (j := 0) dJx4a65c_grow_92f84_36 rfl rfl ?_
      refine z_callS (As := [zrv G.2.1 r13, .int x12]) (rest := [zrv G.2.1 this]) (rv2 := fun (x : Option Nat × Zh) => some (zrv G.2.1 x.1)) (h2 := fun (x : Option Nat × Zh) => x.2) dJx4a65c_grow_92f84_37 vJ7_copyOf_1904c (.inl zw518) (by decide) rfl rfl (by simp [zcat1, zcI, zcJ]) (fun x hx => kJ7_copyOf_1904c G c hc h r13 x12 hx) (fun x => ?_)
      obtain ⟨r14, h15⟩ := x
      try dsimp only [Option.toList, List.cons_append, List.nil_append]
      refine z_dup_x1 dJx4a65c_grow_92f84_40 (zcat1 _ _) (zcat1 _ _) ?_
      refine z_putP (k := 1) dJx4a65c_grow_92f84_41 zkl0 (by decide) (.inl zw449) (.inl rfl) (fun a => by cases a <;> exact ⟨rfl, rfl⟩) rfl (fun h16 => ?_)
      exact z_aret (b := G.2.1) (r := r14) dJx4a65c_grow_92f84_44 rfl (.inr ⟨_, rfl⟩) rfl rfl
def fJx4a65c_grow_d5877 (c : Nat × Nat) (h : Zh) (this : Option Nat) : Option (Option Nat × Zh) :=
  (zfI h this 0 2).bind fun x1 =>
  (zob h this 1).bind fun p2 =>
  (fJx4a65c_grow_92f84 c h (some p2) (x1 + (1 : Int32))).bind fun ((r3, h4) : Option Nat × Zh) =>
  some (r3, h4)
set_option maxRecDepth 100000 in
set_option maxHeartbeats 4000000 in
theorem kJx4a65c_grow_d5877 (G : Zg) (c : Nat × Nat) (hc : c = G.2.2.2.2.2) (h : Zh) (this : Option Nat) {x : Option Nat × Zh} (hx : fJx4a65c_grow_d5877 c h this = some x) : zCt G yJx4a65c_grow_d5877 cJx4a65c_grow_d5877 1 (Option.some (Jvm.ClassFile.FieldType.array (Jvm.ClassFile.FieldType.object "java/lang/Object"))) 4 [zrv G.2.1 this] h (some (zrv G.2.1 x.1)) x.2 := by
  refine z_met (a := x) (rvf := fun (x : Option Nat × Zh) => some (zrv G.2.1 x.1)) (hff := fun (x : Option Nat × Zh) => x.2) (lv := [(0, zrv G.2.1 this)]) (by decide +kernel) (by simp [lg_sl, zcat1, zcI, zcJ]) (by simp [lv_args, zcat1, zcI, zcJ]) ?_ hx
  unfold fJx4a65c_grow_d5877
  refine z_aload_n (j := 0) dJx4a65c_grow_d5877_0 rfl rfl ?_
  refine z_aload_n (j := 0) dJx4a65c_grow_d5877_1 rfl rfl ?_
  refine z_getI (k := 2) dJx4a65c_grow_d5877_2 zkl0 (by decide) rfl (.inl zw450) (fun x1 => ?_)
  refine z_iconst (v := 1) dJx4a65c_grow_d5877_5 (by decide) ?_
  refine z_iadd dJx4a65c_grow_d5877_6 ?_
  refine z_ob (fun p2 ep2 lp2 kp2 => ?_)
  refine z_callV (As := [.int (x1 + (1 : Int32))]) (rest := []) (rv2 := fun (x : Option Nat × Zh) => some (zrv G.2.1 x.1)) (h2 := fun (x : Option Nat × Zh) => x.2) dJx4a65c_grow_d5877_7 vJx4a65c_grow_92f84 (.inl zw504) (by decide) zkl0 lp2 kp2 rfl (by rw [ep2]; rfl) (by decide) (fun x hx => kJx4a65c_grow_92f84 G c hc h (some p2) (x1 + (1 : Int32)) hx) (fun x => ?_)
  obtain ⟨r3, h4⟩ := x
  try dsimp only [Option.toList, List.cons_append, List.nil_append]
  exact z_aret (b := G.2.1) (r := r3) dJx4a65c_grow_d5877_10 rfl (.inr ⟨_, rfl⟩) rfl rfl
def fJx4a65c_add_7a177 (c : Nat × Nat) (h : Zh) (this : Option Nat) (a1 : Int32) (a2 : Option Nat) : Option (Zh) :=
  (zob h this 1).bind fun p1 =>
  (fJx4a65c_rangeCheckForAdd_d00df h (some p1) a1).bind fun h2 =>
  (zfI h2 this 0 0).bind fun x3 =>
  (zgI h2 this 0 0 (x3 + (1 : Int32))).bind fun h4 =>
  (zfI h4 this 0 2).bind fun x5 =>
  (zfP h4 this 0 1).bind fun r6 =>
  (zaO h4 r6).bind fun x7 =>
  (if x5 = x7 then
    (zob h4 this 1).bind fun p11 =>
    (fJx4a65c_grow_d5877 c h4 (some p11)).bind fun ((r12, h13) : Option Nat × Zh) =>
    some (r12, h13)
  else
    some (r6, h4)).bind fun ((v8, h9) : Option Nat × Zh) =>
  (zcp h9 v8 a1 v8 (a1 + (1 : Int32)) (x5 - a1)).bind fun h14 =>
  (zbP h14 v8 5 3 a1 a2).bind fun h15 =>
  (zgI h15 this 0 2 (x5 + (1 : Int32))).bind fun h16 =>
  some h16
set_option maxRecDepth 100000 in
set_option maxHeartbeats 4000000 in
theorem kJx4a65c_add_7a177 (G : Zg) (c : Nat × Nat) (hc : c = G.2.2.2.2.2) (h : Zh) (this : Option Nat) (a1 : Int32) (a2 : Option Nat) {x : Zh} (hx : fJx4a65c_add_7a177 c h this a1 a2 = some x) : zCt G yJx4a65c_add_7a177 cJx4a65c_add_7a177 5 (Option.none : Option Jvm.ClassFile.FieldType) 5 [zrv G.2.1 this, .int a1, zrv G.2.1 a2] h none x := by
  refine z_met (a := x) (rvf := fun (_ : Zh) => none) (hff := fun (x : Zh) => x) (lv := [(0, zrv G.2.1 this), (1, .int a1), (2, zrv G.2.1 a2)]) (by decide +kernel) (by simp [lg_sl, zcat1, zcI, zcJ]) (by simp [lv_args, zcat1, zcI, zcJ]) ?_ hx
  unfold fJx4a65c_add_7a177
  refine z_aload_n (j := 0) dJx4a65c_add_7a177_0 rfl rfl ?_
  refine z_iload_n (j := 1) dJx4a65c_add_7a177_1 rfl rfl ?_
  refine z_ob (fun p1 ep1 lp1 kp1 => ?_)
  refine z_callV (As := [.int a1]) (rest := []) (rv2 := fun (_ : Zh) => none) (h2 := fun (x : Zh) => x) dJx4a65c_add_7a177_2 vJx4a65c_rangeCheckForAdd_d00df (.inl zw496) (by decide) zkl0 lp1 kp1 rfl (by rw [ep1]; rfl) (by decide) (fun x hx => kJx4a65c_rangeCheckForAdd_d00df G h (some p1) a1 hx) (fun h2 => ?_)
  try dsimp only [Option.toList, List.cons_append, List.nil_append]
  refine z_aload_n (j := 0) dJx4a65c_add_7a177_5 rfl rfl ?_
  refine z_dup dJx4a65c_add_7a177_6 (zcat1 _ _) ?_
  refine z_getI (k := 0) dJx4a65c_add_7a177_7 zkl0 (by decide) rfl (.inl zw452) (fun x3 => ?_) (.inr zw453)
  refine z_iconst (v := 1) dJx4a65c_add_7a177_10 (by decide) ?_
  refine z_iadd dJx4a65c_add_7a177_11 ?_
  refine z_putI (k := 0) dJx4a65c_add_7a177_12 zkl0 (by decide) (.inl zw452) (.inl rfl) rfl rfl rfl (fun h4 => ?_) (.inr zw453)
  refine z_aload_n (j := 0) dJx4a65c_add_7a177_15 rfl rfl ?_
  refine z_getI (k := 2) dJx4a65c_add_7a177_16 zkl0 (by decide) rfl (.inl zw450) (fun x5 => ?_)
  refine z_dup dJx4a65c_add_7a177_19 rfl ?_
  refine z_istore_n (i := 3) (lv' := [(3, .int x5), (0, zrv G.2.1 this), (1, .int a1), (2, zrv G.2.1 a2)]) dJx4a65c_add_7a177_20 rfl (by decide) (by simp [zcat1, zcI, zcJ]) ?_
  refine z_aload_n (j := 1) dJx4a65c_add_7a177_21 rfl rfl ?_
  refine z_getP (k := 1) dJx4a65c_add_7a177_22 zkl0 (by decide) rfl (.inl zw449) (fun r6 => ?_)
  refine z_dup dJx4a65c_add_7a177_25 (zcat1 _ _) ?_
  refine z_astore (i := 4) (lv' := [(4, zrv G.2.1 r6), (3, .int x5), (0, zrv G.2.1 this), (1, .int a1), (2, zrv G.2.1 a2)]) dJx4a65c_add_7a177_26 (by decide) rfl ?_
  refine z_alenO dJx4a65c_add_7a177_28 (fun x7 => ?_)
  refine z_join (pc2 := 38) (lv2 := fun (q : Option Nat × Zh) => [(0, zrv G.2.1 this), (1, .int a1), (2, zrv G.2.1 a2), (3, .int x5), (4, zrv G.2.1 q.1)]) (st2 := fun (q : Option Nat × Zh) => []) (h2 := fun (q : Option Nat × Zh) => q.2) (fun q => ?_) (fun F10 kF10 => ?_)
  · obtain ⟨v8, h9⟩ := q
    try dsimp only
    refine z_aload (j := 4) dJx4a65c_add_7a177_38 rfl ?_
    refine z_iload_n (j := 1) dJx4a65c_add_7a177_40 rfl rfl ?_
    refine z_aload (j := 4) dJx4a65c_add_7a177_41 rfl ?_
    refine z_iload_n (j := 1) dJx4a65c_add_7a177_43 rfl rfl ?_
    refine z_iconst (v := 1) dJx4a65c_add_7a177_44 (by decide) ?_
    refine z_iadd dJx4a65c_add_7a177_45 ?_
    refine z_iload_n (j := 3) dJx4a65c_add_7a177_46 rfl rfl ?_
    refine z_iload_n (j := 1) dJx4a65c_add_7a177_47 rfl rfl ?_
    refine z_isub dJx4a65c_add_7a177_48 ?_
    refine z_copy dJx4a65c_add_7a177_49 zw543 zw540 zw539 zw58 zw668 (by decide) (by decide) (fun h14 => ?_)
    refine z_aload (j := 4) dJx4a65c_add_7a177_52 rfl ?_
    refine z_iload_n (j := 1) dJx4a65c_add_7a177_54 rfl rfl ?_
    refine z_aload_n (j := 2) dJx4a65c_add_7a177_55 rfl rfl ?_
    refine z_aastO dJx4a65c_add_7a177_56 zw668 (fun h15 => ?_)
    refine z_aload_n (j := 0) dJx4a65c_add_7a177_57 rfl rfl ?_
    refine z_iload_n (j := 3) dJx4a65c_add_7a177_58 rfl rfl ?_
    refine z_iconst (v := 1) dJx4a65c_add_7a177_59 (by decide) ?_
    refine z_iadd dJx4a65c_add_7a177_60 ?_
    refine z_putI (k := 2) dJx4a65c_add_7a177_61 zkl0 (by decide) (.inl zw450) (.inl rfl) rfl rfl rfl (fun h16 => ?_)
    exact z_vret dJx4a65c_add_7a177_64 rfl rfl rfl
  · refine z_itb ?_
    refine z_icmp_ne (tgt := 38) dJx4a65c_add_7a177_29 (by decide) (fun _ => ?_) (fun _ => ?_)
    · refine z_aload_n (j := 2) dJx4a65c_add_7a177_32 rfl rfl ?_
      refine z_as ?_
      refine z_ob (fun p11 ep11 lp11 kp11 => ?_)
      refine z_as ?_
      refine z_callV (As := []) (rest := []) (rv2 := fun (x : Option Nat × Zh) => some (zrv G.2.1 x.1)) (h2 := fun (x : Option Nat × Zh) => x.2) dJx4a65c_add_7a177_33 vJx4a65c_grow_d5877 (.inl zw500) (by decide) zkl0 lp11 kp11 rfl (by rw [ep11]; rfl) (by decide) (fun x hx => kJx4a65c_grow_d5877 G c hc h4 (some p11) hx) (fun x => ?_)
      obtain ⟨r12, h13⟩ := x
      try dsimp only [Option.toList, List.cons_append, List.nil_append]
      refine z_astore (i := 4) (lv' := [(4, zrv G.2.1 r12), (3, .int x5), (0, zrv G.2.1 this), (1, .int a1), (2, zrv G.2.1 a2)]) dJx4a65c_add_7a177_36 (by decide) rfl ?_
      refine z_sb ?_
      refine z_at [2, 3, 4, 1, 0] rfl ?_
      exact kF10 (r12, h13)
    · refine z_sb ?_
      refine z_at [2, 3, 4, 1, 0] rfl ?_
      exact kF10 (r6, h4)
def fX5_place (c : Nat × Nat) (h : Zh) (a1 : Option Nat) (a2 : Int32) (a3 : Option Nat) : Option (Zh) :=
  (if a2 = (2 : Int32) then
    (zob h a1 1).bind fun p3 =>
    (fJx4a65c_size_8abf5 h (some p3)).bind fun x4 =>
    some x4
  else
    if a2 = (5 : Int32) then
      (zob h a1 1).bind fun p5 =>
      (fJx4a65c_size_8abf5 h (some p5)).bind fun x6 =>
      some (if x6 < (1 : Int32) then x6 else (1 : Int32))
    else
      some (0 : Int32)).bind fun (v1 : Int32) =>
  (zloop (fun (v7 : Int32) =>
    ((zob h a1 1).bind fun p11 =>
    (fJx4a65c_size_8abf5 h (some p11)).bind fun x12 =>
    if x12 ≤ v7 then
      some (.inr v7)
    else
      (zob h a1 1).bind fun p13 =>
      (fJx4a65c_get_915e3 h (some p13) v7).bind fun r14 =>
      (zck h r14).bind fun r15 =>
      (fX5_order 64 h r15 a3 (0 : Int32)).bind fun x16 =>
      if 0 ≤ x16 then
        some (.inr v7)
      else
        some (.inl (v7 + (1 : Int32))) : Option (Int32 ⊕ Int32))) zFU v1).bind fun (w8 : Int32) =>
  (if a2 = (3 : Int32) then
    (zob h a1 1).bind fun p19 =>
    (fJx4a65c_size_8abf5 h (some p19)).bind fun x20 =>
    if x20 ≤ w8 then
      some (0 : Int32)
    else
      (zob h a1 1).bind fun p21 =>
      (fJx4a65c_get_915e3 h (some p21) w8).bind fun r22 =>
      (zck h r22).bind fun r23 =>
      (fX5_order 64 h r23 a3 (0 : Int32)).bind fun x24 =>
      if x24 = 0 then
        some (1 : Int32)
      else
        some (0 : Int32)
  else
    some (0 : Int32)).bind fun (v17 : Int32) =>
  (if v17 = 0 then
    (zob h a1 1).bind fun p27 =>
    (fJx4a65c_add_7a177 c h (some p27) w8 a3).bind fun h28 =>
    some h28
  else
    some h).bind fun (h25 : Zh) =>
  some h25
set_option maxRecDepth 100000 in
set_option maxHeartbeats 4000000 in
theorem kX5_place (G : Zg) (c : Nat × Nat) (hc : c = G.2.2.2.2.2) (h : Zh) (a1 : Option Nat) (a2 : Int32) (a3 : Option Nat) {x : Zh} (hx : fX5_place c h a1 a2 a3 = some x) : zCt G yX5_place cX5_place 5 (Option.none : Option Jvm.ClassFile.FieldType) 66 [zrv G.2.1 a1, .int a2, zrv G.2.1 a3] h none x := by
  refine z_met (a := x) (rvf := fun (_ : Zh) => none) (hff := fun (x : Zh) => x) (lv := [(0, zrv G.2.1 a1), (1, .int a2), (2, zrv G.2.1 a3)]) (by decide +kernel) (by simp [lg_sl, zcat1, zcI, zcJ]) (by simp [lv_args, zcat1, zcI, zcJ]) ?_ hx
  unfold fX5_place
  refine z_iload_n (j := 1) dX5_place_0 rfl rfl ?_
  refine z_iconst (v := 2) dX5_place_1 (by decide) ?_
  refine z_join (pc2 := 29) (lv2 := fun (q : Int32) => [(0, zrv G.2.1 a1), (1, .int a2), (2, zrv G.2.1 a3)]) (st2 := fun (q : Int32) => [.int q]) (h2 := fun (q : Int32) => h) (fun q => ?_) (fun F2 kF2 => ?_)
  · obtain ⟨v1, e0⟩ : ∃ z, z = q := ⟨_, rfl⟩
    subst e0
    try dsimp only
    refine z_istore_n (i := 3) (lv' := [(3, .int v1), (0, zrv G.2.1 a1), (1, .int a2), (2, zrv G.2.1 a3)]) dX5_place_29 rfl (by decide) (by simp [zcat1, zcI, zcJ]) ?_
    refine z_at [1, 2, 3, 0] rfl ?_
    refine z_join (pc2 := 60) (lv2 := fun (q : Int32) => [(0, zrv G.2.1 a1), (1, .int a2), (2, zrv G.2.1 a3), (3, .int q)]) (st2 := fun _ => []) (h2 := fun (q : Int32) => h) (fun q => ?_) (fun F9 kF9 => ?_)
    · obtain ⟨w8, e0⟩ : ∃ z, z = q := ⟨_, rfl⟩
      subst e0
      try dsimp only
      refine z_iload_n (j := 1) dX5_place_60 rfl rfl ?_
      refine z_iconst (v := 3) dX5_place_61 (by decide) ?_
      refine z_join (pc2 := 94) (lv2 := fun (q : Int32) => [(0, zrv G.2.1 a1), (2, zrv G.2.1 a3), (3, .int w8)]) (st2 := fun (q : Int32) => [.int q]) (h2 := fun (q : Int32) => h) (fun q => ?_) (fun F18 kF18 => ?_)
      · obtain ⟨v17, e0⟩ : ∃ z, z = q := ⟨_, rfl⟩
        subst e0
        try dsimp only
        refine z_istore (i := 4) (lv' := [(4, .int v17), (0, zrv G.2.1 a1), (2, zrv G.2.1 a3), (3, .int w8)]) dX5_place_94 (by decide) rfl ?_
        refine z_iload (j := 0) dX5_place_96 rfl ?_
        refine z_join (pc2 := 107) (lv2 := fun (q : Zh) => []) (st2 := fun (q : Zh) => []) (h2 := fun (q : Zh) => q) (fun q => ?_) (fun F26 kF26 => ?_)
        · obtain ⟨h25, e0⟩ : ∃ z, z = q := ⟨_, rfl⟩
          subst e0
          try dsimp only
          exact z_vret dX5_place_107 rfl rfl rfl
        · refine z_itb ?_
          refine z_if_ne (tgt := 107) dX5_place_98 (by decide) (fun _ => ?_) (fun _ => ?_)
          · refine z_aload_n (j := 1) dX5_place_101 rfl rfl ?_
            refine z_iload_n (j := 3) dX5_place_102 rfl rfl ?_
            refine z_aload_n (j := 2) dX5_place_103 rfl rfl ?_
            refine z_as ?_
            refine z_ob (fun p27 ep27 lp27 kp27 => ?_)
            refine z_as ?_
            refine z_callV (As := [.int w8, zrv G.2.1 a3]) (rest := []) (rv2 := fun (_ : Zh) => none) (h2 := fun (x : Zh) => x) dX5_place_104 vJx4a65c_add_7a177 (.inl zw492) (by decide) zkl0 lp27 kp27 rfl (by rw [ep27]; rfl) (by decide) (fun x hx => kJx4a65c_add_7a177 G c hc h (some p27) w8 a3 hx) (fun h28 => ?_)
            try dsimp only [Option.toList, List.cons_append, List.nil_append]
            refine z_sb ?_
            refine z_at [] rfl ?_
            exact kF26 h28
          · refine z_sb ?_
            refine z_at [] rfl ?_
            exact kF26 h
      · refine z_itb ?_
        refine z_icmp_ne (tgt := 93) dX5_place_62 (by decide) (fun _ => ?_) (fun _ => ?_)
        · refine z_iload_n (j := 3) dX5_place_65 rfl rfl ?_
          refine z_aload_n (j := 0) dX5_place_66 rfl rfl ?_
          refine z_as ?_
          refine z_ob (fun p19 ep19 lp19 kp19 => ?_)
          refine z_as ?_
          refine z_callV (As := []) (rest := [.int w8]) (rv2 := fun (x : Int32) => some (.int x)) (h2 := fun (_ : Int32) => h) dX5_place_67 vJx4a65c_size_8abf5 (.inl zw467) (by decide) zkl0 lp19 kp19 rfl (by rw [ep19]; rfl) (by simp [zcat1, zcI, zcJ]) (fun x hx => kJx4a65c_size_8abf5 G h (some p19) hx) (fun x20 => ?_)
          try dsimp only [Option.toList, List.cons_append, List.nil_append]
          refine z_itb ?_
          refine z_icmp_ge (tgt := 93) dX5_place_70 (by decide) (fun _ => ?_) (fun _ => ?_)
          · refine z_iconst (v := 0) dX5_place_93 (by decide) ?_
            refine z_sb ?_
            refine z_at [0, 2, 3] rfl ?_
            exact kF18 (0 : Int32)
          · refine z_aload_n (j := 0) dX5_place_73 rfl rfl ?_
            refine z_iload_n (j := 3) dX5_place_74 rfl rfl ?_
            refine z_as ?_
            refine z_ob (fun p21 ep21 lp21 kp21 => ?_)
            refine z_as ?_
            refine z_callV (As := [.int w8]) (rest := []) (rv2 := fun (x : Option Nat) => some (zrv G.2.1 x)) (h2 := fun (_ : Option Nat) => h) dX5_place_75 vJx4a65c_get_915e3 (.inl zw472) (by decide) zkl0 lp21 kp21 rfl (by rw [ep21]; rfl) (by decide) (fun x hx => kJx4a65c_get_915e3 G h (some p21) w8 hx) (fun r22 => ?_)
            try dsimp only [Option.toList, List.cons_append, List.nil_append]
            refine z_as ?_
            refine z_cast2 dX5_place_78 zw69 (fun r23 => ?_)
            refine z_aload_n (j := 2) dX5_place_81 rfl rfl ?_
            refine z_iconst (v := 0) dX5_place_82 (by decide) ?_
            refine z_as ?_
            refine z_callS (As := [zrv G.2.1 r23, zrv G.2.1 a3, .int (0 : Int32)]) (rest := []) (rv2 := fun (x : Int32) => some (.int x)) (h2 := fun (_ : Int32) => h) dX5_place_83 vX5_order (.inl zw486) (by decide) rfl rfl (by decide) (fun x hx => kX5_order G 64 h r23 a3 (0 : Int32) hx) (fun x24 => ?_)
            try dsimp only [Option.toList, List.cons_append, List.nil_append]
            refine z_itb ?_
            refine z_if_ne (tgt := 93) dX5_place_86 (by decide) (fun _ => ?_) (fun _ => ?_)
            · refine z_iconst (v := 1) dX5_place_89 (by decide) ?_
              refine z_goto (tgt := 94) dX5_place_90 (by decide) ?_
              refine z_sb ?_
              refine z_at [0, 2, 3] rfl ?_
              exact kF18 (1 : Int32)
            · refine z_iconst (v := 0) dX5_place_93 (by decide) ?_
              refine z_sb ?_
              refine z_at [0, 2, 3] rfl ?_
              exact kF18 (0 : Int32)
        · refine z_iconst (v := 0) dX5_place_93 (by decide) ?_
          refine z_sb ?_
          refine z_at [0, 2, 3] rfl ?_
          exact kF18 (0 : Int32)
    · refine z_loop (lvf := fun (q : Int32) => [(0, zrv G.2.1 a1), (1, .int a2), (2, zrv G.2.1 a3), (3, .int q)]) (hf2 := fun (q : Int32) => h) (s0 := v1) (fun K10 bK10 rK10 q => ?_)
      obtain ⟨v7, e0⟩ : ∃ z, z = q := ⟨_, rfl⟩
      subst e0
      try dsimp only
      refine z_iload_n (j := 3) dX5_place_30 rfl rfl ?_
      refine z_aload_n (j := 0) dX5_place_31 rfl rfl ?_
      refine z_as ?_
      refine z_ob (fun p11 ep11 lp11 kp11 => ?_)
      refine z_as ?_
      refine z_callV (As := []) (rest := [.int v7]) (rv2 := fun (x : Int32) => some (.int x)) (h2 := fun (_ : Int32) => h) dX5_place_32 vJx4a65c_size_8abf5 (.inl zw467) (by decide) zkl0 lp11 kp11 rfl (by rw [ep11]; rfl) (by simp [zcat1, zcI, zcJ]) (fun x hx => kJx4a65c_size_8abf5 G h (some p11) hx) (fun x12 => ?_)
      try dsimp only [Option.toList, List.cons_append, List.nil_append]
      refine z_itb ?_
      refine z_icmp_ge (tgt := 60) dX5_place_35 (by decide) (fun _ => ?_) (fun _ => ?_)
      · refine z_sb ?_
        refine z_eq (rK10 _) ?_
        refine z_at [0, 1, 2, 3] rfl ?_
        exact kF9 v7
      · refine z_aload_n (j := 0) dX5_place_38 rfl rfl ?_
        refine z_iload_n (j := 3) dX5_place_39 rfl rfl ?_
        refine z_as ?_
        refine z_ob (fun p13 ep13 lp13 kp13 => ?_)
        refine z_as ?_
        refine z_callV (As := [.int v7]) (rest := []) (rv2 := fun (x : Option Nat) => some (zrv G.2.1 x)) (h2 := fun (_ : Option Nat) => h) dX5_place_40 vJx4a65c_get_915e3 (.inl zw472) (by decide) zkl0 lp13 kp13 rfl (by rw [ep13]; rfl) (by decide) (fun x hx => kJx4a65c_get_915e3 G h (some p13) v7 hx) (fun r14 => ?_)
        try dsimp only [Option.toList, List.cons_append, List.nil_append]
        refine z_as ?_
        refine z_cast2 dX5_place_43 zw69 (fun r15 => ?_)
        refine z_aload_n (j := 2) dX5_place_46 rfl rfl ?_
        refine z_iconst (v := 0) dX5_place_47 (by decide) ?_
        refine z_as ?_
        refine z_callS (As := [zrv G.2.1 r15, zrv G.2.1 a3, .int (0 : Int32)]) (rest := []) (rv2 := fun (x : Int32) => some (.int x)) (h2 := fun (_ : Int32) => h) dX5_place_48 vX5_order (.inl zw486) (by decide) rfl rfl (by decide) (fun x hx => kX5_order G 64 h r15 a3 (0 : Int32) hx) (fun x16 => ?_)
        try dsimp only [Option.toList, List.cons_append, List.nil_append]
        refine z_itb ?_
        refine z_if_ge (tgt := 60) dX5_place_51 (by decide) (fun _ => ?_) (fun _ => ?_)
        · refine z_sb ?_
          refine z_eq (rK10 _) ?_
          refine z_at [0, 1, 2, 3] rfl ?_
          exact kF9 v7
        · refine z_iinc (j := 3) (v := v7 + (1 : Int32)) (lv' := [(3, .int (v7 + (1 : Int32))), (0, zrv G.2.1 a1), (1, .int a2), (2, zrv G.2.1 a3)]) dX5_place_54 rfl rfl (by decide) (by simp [zcat1, zcI, zcJ]) ?_
          refine z_goto (tgt := 30) dX5_place_57 (by decide) ?_
          refine z_sb ?_
          refine z_at [1, 2, 3, 0] rfl ?_
          exact bK10 (v7 + (1 : Int32))
  · refine z_itb ?_
    refine z_icmp_ne (tgt := 12) dX5_place_2 (by decide) (fun _ => ?_) (fun _ => ?_)
    · refine z_aload_n (j := 0) dX5_place_5 rfl rfl ?_
      refine z_as ?_
      refine z_ob (fun p3 ep3 lp3 kp3 => ?_)
      refine z_as ?_
      refine z_callV (As := []) (rest := []) (rv2 := fun (x : Int32) => some (.int x)) (h2 := fun (_ : Int32) => h) dX5_place_6 vJx4a65c_size_8abf5 (.inl zw467) (by decide) zkl0 lp3 kp3 rfl (by rw [ep3]; rfl) (by decide) (fun x hx => kJx4a65c_size_8abf5 G h (some p3) hx) (fun x4 => ?_)
      try dsimp only [Option.toList, List.cons_append, List.nil_append]
      refine z_goto (tgt := 29) dX5_place_9 (by decide) ?_
      refine z_sb ?_
      refine z_at [0, 1, 2] rfl ?_
      exact kF2 x4
    · refine z_iload_n (j := 1) dX5_place_12 rfl rfl ?_
      refine z_iconst (v := 5) dX5_place_13 (by decide) ?_
      refine z_itb ?_
      refine z_icmp_ne (tgt := 28) dX5_place_14 (by decide) (fun _ => ?_) (fun _ => ?_)
      · refine z_iconst (v := 1) dX5_place_17 (by decide) ?_
        refine z_aload_n (j := 0) dX5_place_18 rfl rfl ?_
        refine z_as ?_
        refine z_ob (fun p5 ep5 lp5 kp5 => ?_)
        refine z_as ?_
        refine z_callV (As := []) (rest := [.int (1 : Int32)]) (rv2 := fun (x : Int32) => some (.int x)) (h2 := fun (_ : Int32) => h) dX5_place_19 vJx4a65c_size_8abf5 (.inl zw467) (by decide) zkl0 lp5 kp5 rfl (by rw [ep5]; rfl) (by simp [zcat1, zcI, zcJ]) (fun x hx => kJx4a65c_size_8abf5 G h (some p5) hx) (fun x6 => ?_)
        try dsimp only [Option.toList, List.cons_append, List.nil_append]
        refine z_mmin dX5_place_22 zw471 zw203 zw47 zw204 (by decide) (by decide) ?_
        refine z_goto (tgt := 29) dX5_place_25 (by decide) ?_
        refine z_sb ?_
        refine z_at [0, 1, 2] rfl ?_
        exact kF2 (if x6 < (1 : Int32) then x6 else (1 : Int32))
      · refine z_iconst (v := 0) dX5_place_28 (by decide) ?_
        refine z_sb ?_
        refine z_at [0, 1, 2] rfl ?_
        exact kF2 (0 : Int32)
def fX5_takeIn (c : Nat × Nat) (h : Zh) (a1 : Option Nat) (a2 : Int32) (a3 : Option Nat) : Option (Zh) :=
  (zfI h a3 3 0).bind fun x1 =>
  if x1 = (1 : Int32) then
    if a2 = (2 : Int32) then
      some h
    else
      if a2 = (4 : Int32) then
        some h
      else
        (zfI h a3 3 0).bind fun x2 =>
        if x2 = a2 then
          if a2 = (5 : Int32) then
            (fX5_place c h a1 a2 a3).bind fun h3 =>
            some h3
          else
            (zloop (fun ((v4, h5) : Int32 × Zh) =>
              ((zfP h5 a3 3 2).bind fun r9 =>
              (zaL h5 r9 3).bind fun x10 =>
              if x10 ≤ v4 then
                some (.inr h5)
              else
                (zfP h5 a3 3 2).bind fun r11 =>
                (zaP h5 r11 3 v4).bind fun r12 =>
                (fX5_place c h5 a1 a2 r12).bind fun h13 =>
                some (.inl (v4 + (1 : Int32), h13)) : Option ((Int32 × Zh) ⊕ Zh))) zFU ((0 : Int32), h)).bind fun (h6 : Zh) =>
            some h6
        else
          (fX5_place c h a1 a2 a3).bind fun h14 =>
          some h14
  else
    (zfI h a3 3 0).bind fun x15 =>
    if x15 = a2 then
      if a2 = (5 : Int32) then
        (fX5_place c h a1 a2 a3).bind fun h16 =>
        some h16
      else
        (zloop (fun ((v17, h18) : Int32 × Zh) =>
          ((zfP h18 a3 3 2).bind fun r22 =>
          (zaL h18 r22 3).bind fun x23 =>
          if x23 ≤ v17 then
            some (.inr h18)
          else
            (zfP h18 a3 3 2).bind fun r24 =>
            (zaP h18 r24 3 v17).bind fun r25 =>
            (fX5_place c h18 a1 a2 r25).bind fun h26 =>
            some (.inl (v17 + (1 : Int32), h26)) : Option ((Int32 × Zh) ⊕ Zh))) zFU ((0 : Int32), h)).bind fun (h19 : Zh) =>
        some h19
    else
      (fX5_place c h a1 a2 a3).bind fun h27 =>
      some h27
set_option maxRecDepth 100000 in
set_option maxHeartbeats 4000000 in
theorem kX5_takeIn (G : Zg) (c : Nat × Nat) (hc : c = G.2.2.2.2.2) (h : Zh) (a1 : Option Nat) (a2 : Int32) (a3 : Option Nat) {x : Zh} (hx : fX5_takeIn c h a1 a2 a3 = some x) : zCt G yX5_takeIn cX5_takeIn 4 (Option.none : Option Jvm.ClassFile.FieldType) 67 [zrv G.2.1 a1, .int a2, zrv G.2.1 a3] h none x := by
  refine z_met (a := x) (rvf := fun (_ : Zh) => none) (hff := fun (x : Zh) => x) (lv := [(0, zrv G.2.1 a1), (1, .int a2), (2, zrv G.2.1 a3)]) (by decide +kernel) (by simp [lg_sl, zcat1, zcI, zcJ]) (by simp [lv_args, zcat1, zcI, zcJ]) ?_ hx
  unfold fX5_takeIn
  refine z_aload_n (j := 2) dX5_takeIn_0 rfl rfl ?_
  refine z_getI (k := 0) dX5_takeIn_1 zkl3 (by decide) rfl (.inr ⟨_, zw377⟩) (fun x1 => ?_)
  refine z_iconst (v := 1) dX5_takeIn_4 (by decide) ?_
  refine z_icmp_ne (tgt := 19) dX5_takeIn_5 (by decide) (fun _ => ?_) (fun _ => ?_)
  · refine z_iload_n (j := 1) dX5_takeIn_8 rfl rfl ?_
    refine z_iconst (v := 2) dX5_takeIn_9 (by decide) ?_
    refine z_icmp_eq (tgt := 18) dX5_takeIn_10 (by decide) (fun _ => ?_) (fun _ => ?_)
    · exact z_vret dX5_takeIn_18 rfl rfl rfl
    · refine z_iload_n (j := 1) dX5_takeIn_13 rfl rfl ?_
      refine z_iconst (v := 4) dX5_takeIn_14 (by decide) ?_
      refine z_icmp_ne (tgt := 19) dX5_takeIn_15 (by decide) (fun _ => ?_) (fun _ => ?_)
      · exact z_vret dX5_takeIn_18 rfl rfl rfl
      · refine z_aload_n (j := 2) dX5_takeIn_19 rfl rfl ?_
        refine z_getI (k := 0) dX5_takeIn_20 zkl3 (by decide) rfl (.inr ⟨_, zw377⟩) (fun x2 => ?_)
        refine z_iload_n (j := 1) dX5_takeIn_23 rfl rfl ?_
        refine z_icmp_ne (tgt := 32) dX5_takeIn_24 (by decide) (fun _ => ?_) (fun _ => ?_)
        · refine z_iload_n (j := 1) dX5_takeIn_27 rfl rfl ?_
          refine z_iconst (v := 5) dX5_takeIn_28 (by decide) ?_
          refine z_icmp_ne (tgt := 39) dX5_takeIn_29 (by decide) (fun _ => ?_) (fun _ => ?_)
          · refine z_aload_n (j := 0) dX5_takeIn_32 rfl rfl ?_
            refine z_iload_n (j := 1) dX5_takeIn_33 rfl rfl ?_
            refine z_aload_n (j := 2) dX5_takeIn_34 rfl rfl ?_
            refine z_callS (As := [zrv G.2.1 a1, .int a2, zrv G.2.1 a3]) (rest := []) (rv2 := fun (_ : Zh) => none) (h2 := fun (x : Zh) => x) dX5_takeIn_35 vX5_place (.inl zw464) (by decide) rfl rfl (by decide) (fun x hx => kX5_place G c hc h a1 a2 a3 hx) (fun h3 => ?_)
            try dsimp only [Option.toList, List.cons_append, List.nil_append]
            exact z_vret dX5_takeIn_38 rfl rfl rfl
          · refine z_iconst (v := 0) dX5_takeIn_39 (by decide) ?_
            refine z_istore_n (i := 3) (lv' := [(3, .int (0 : Int32)), (0, zrv G.2.1 a1), (1, .int a2), (2, zrv G.2.1 a3)]) dX5_takeIn_40 rfl (by decide) (by simp [zcat1, zcI, zcJ]) ?_
            refine z_at [1, 2, 3, 0] rfl ?_
            refine z_join (pc2 := 67) (lv2 := fun (q : Zh) => []) (st2 := fun _ => []) (h2 := fun (q : Zh) => q) (fun q => ?_) (fun F7 kF7 => ?_)
            · obtain ⟨h6, e0⟩ : ∃ z, z = q := ⟨_, rfl⟩
              subst e0
              try dsimp only
              exact z_vret dX5_takeIn_67 rfl rfl rfl
            · refine z_loop (lvf := fun (q : Int32 × Zh) => [(0, zrv G.2.1 a1), (1, .int a2), (2, zrv G.2.1 a3), (3, .int q.1)]) (hf2 := fun (q : Int32 × Zh) => q.2) (s0 := ((0 : Int32), h)) (fun K8 bK8 rK8 q => ?_)
              obtain ⟨v4, h5⟩ := q
              try dsimp only
              refine z_iload_n (j := 3) dX5_takeIn_41 rfl rfl ?_
              refine z_aload_n (j := 2) dX5_takeIn_42 rfl rfl ?_
              refine z_as ?_
              refine z_getP (k := 2) dX5_takeIn_43 zkl3 (by decide) rfl (.inr ⟨_, zw383⟩) (fun r9 => ?_)
              refine z_as ?_
              refine z_alen dX5_takeIn_46 (by decide) (fun x10 => ?_)
              refine z_itb ?_
              refine z_icmp_ge (tgt := 67) dX5_takeIn_47 (by decide) (fun _ => ?_) (fun _ => ?_)
              · refine z_sb ?_
                refine z_eq (rK8 _) ?_
                refine z_at [] rfl ?_
                exact kF7 h5
              · refine z_aload_n (j := 0) dX5_takeIn_50 rfl rfl ?_
                refine z_iload_n (j := 1) dX5_takeIn_51 rfl rfl ?_
                refine z_aload_n (j := 2) dX5_takeIn_52 rfl rfl ?_
                refine z_as ?_
                refine z_getP (k := 2) dX5_takeIn_53 zkl3 (by decide) rfl (.inr ⟨_, zw383⟩) (fun r11 => ?_)
                refine z_iload_n (j := 3) dX5_takeIn_56 rfl rfl ?_
                refine z_as ?_
                refine z_aald dX5_takeIn_57 (by decide) (by decide) (fun r12 => ?_)
                refine z_as ?_
                refine z_callS (As := [zrv G.2.1 a1, .int a2, zrv G.2.1 r12]) (rest := []) (rv2 := fun (_ : Zh) => none) (h2 := fun (x : Zh) => x) dX5_takeIn_58 vX5_place (.inl zw464) (by decide) rfl rfl (by decide) (fun x hx => kX5_place G c hc h5 a1 a2 r12 hx) (fun h13 => ?_)
                try dsimp only [Option.toList, List.cons_append, List.nil_append]
                refine z_iinc (j := 3) (v := v4 + (1 : Int32)) (lv' := [(3, .int (v4 + (1 : Int32))), (0, zrv G.2.1 a1), (1, .int a2), (2, zrv G.2.1 a3)]) dX5_takeIn_61 rfl rfl (by decide) (by simp [zcat1, zcI, zcJ]) ?_
                refine z_goto (tgt := 41) dX5_takeIn_64 (by decide) ?_
                refine z_sb ?_
                refine z_at [1, 2, 3, 0] rfl ?_
                exact bK8 (v4 + (1 : Int32), h13)
        · refine z_aload_n (j := 0) dX5_takeIn_32 rfl rfl ?_
          refine z_iload_n (j := 1) dX5_takeIn_33 rfl rfl ?_
          refine z_aload_n (j := 2) dX5_takeIn_34 rfl rfl ?_
          refine z_callS (As := [zrv G.2.1 a1, .int a2, zrv G.2.1 a3]) (rest := []) (rv2 := fun (_ : Zh) => none) (h2 := fun (x : Zh) => x) dX5_takeIn_35 vX5_place (.inl zw464) (by decide) rfl rfl (by decide) (fun x hx => kX5_place G c hc h a1 a2 a3 hx) (fun h14 => ?_)
          try dsimp only [Option.toList, List.cons_append, List.nil_append]
          exact z_vret dX5_takeIn_38 rfl rfl rfl
  · refine z_aload_n (j := 2) dX5_takeIn_19 rfl rfl ?_
    refine z_getI (k := 0) dX5_takeIn_20 zkl3 (by decide) rfl (.inr ⟨_, zw377⟩) (fun x15 => ?_)
    refine z_iload_n (j := 1) dX5_takeIn_23 rfl rfl ?_
    refine z_icmp_ne (tgt := 32) dX5_takeIn_24 (by decide) (fun _ => ?_) (fun _ => ?_)
    · refine z_iload_n (j := 1) dX5_takeIn_27 rfl rfl ?_
      refine z_iconst (v := 5) dX5_takeIn_28 (by decide) ?_
      refine z_icmp_ne (tgt := 39) dX5_takeIn_29 (by decide) (fun _ => ?_) (fun _ => ?_)
      · refine z_aload_n (j := 0) dX5_takeIn_32 rfl rfl ?_
        refine z_iload_n (j := 1) dX5_takeIn_33 rfl rfl ?_
        refine z_aload_n (j := 2) dX5_takeIn_34 rfl rfl ?_
        refine z_callS (As := [zrv G.2.1 a1, .int a2, zrv G.2.1 a3]) (rest := []) (rv2 := fun (_ : Zh) => none) (h2 := fun (x : Zh) => x) dX5_takeIn_35 vX5_place (.inl zw464) (by decide) rfl rfl (by decide) (fun x hx => kX5_place G c hc h a1 a2 a3 hx) (fun h16 => ?_)
        try dsimp only [Option.toList, List.cons_append, List.nil_append]
        exact z_vret dX5_takeIn_38 rfl rfl rfl
      · refine z_iconst (v := 0) dX5_takeIn_39 (by decide) ?_
        refine z_istore_n (i := 3) (lv' := [(3, .int (0 : Int32)), (0, zrv G.2.1 a1), (1, .int a2), (2, zrv G.2.1 a3)]) dX5_takeIn_40 rfl (by decide) (by simp [zcat1, zcI, zcJ]) ?_
        refine z_at [1, 2, 3, 0] rfl ?_
        refine z_join (pc2 := 67) (lv2 := fun (q : Zh) => []) (st2 := fun _ => []) (h2 := fun (q : Zh) => q) (fun q => ?_) (fun F20 kF20 => ?_)
        · obtain ⟨h19, e0⟩ : ∃ z, z = q := ⟨_, rfl⟩
          subst e0
          try dsimp only
          exact z_vret dX5_takeIn_67 rfl rfl rfl
        · refine z_loop (lvf := fun (q : Int32 × Zh) => [(0, zrv G.2.1 a1), (1, .int a2), (2, zrv G.2.1 a3), (3, .int q.1)]) (hf2 := fun (q : Int32 × Zh) => q.2) (s0 := ((0 : Int32), h)) (fun K21 bK21 rK21 q => ?_)
          obtain ⟨v17, h18⟩ := q
          try dsimp only
          refine z_iload_n (j := 3) dX5_takeIn_41 rfl rfl ?_
          refine z_aload_n (j := 2) dX5_takeIn_42 rfl rfl ?_
          refine z_as ?_
          refine z_getP (k := 2) dX5_takeIn_43 zkl3 (by decide) rfl (.inr ⟨_, zw383⟩) (fun r22 => ?_)
          refine z_as ?_
          refine z_alen dX5_takeIn_46 (by decide) (fun x23 => ?_)
          refine z_itb ?_
          refine z_icmp_ge (tgt := 67) dX5_takeIn_47 (by decide) (fun _ => ?_) (fun _ => ?_)
          · refine z_sb ?_
            refine z_eq (rK21 _) ?_
            refine z_at [] rfl ?_
            exact kF20 h18
          · refine z_aload_n (j := 0) dX5_takeIn_50 rfl rfl ?_
            refine z_iload_n (j := 1) dX5_takeIn_51 rfl rfl ?_
            refine z_aload_n (j := 2) dX5_takeIn_52 rfl rfl ?_
            refine z_as ?_
            refine z_getP (k := 2) dX5_takeIn_53 zkl3 (by decide) rfl (.inr ⟨_, zw383⟩) (fun r24 => ?_)
            refine z_iload_n (j := 3) dX5_takeIn_56 rfl rfl ?_
            refine z_as ?_
            refine z_aald dX5_takeIn_57 (by decide) (by decide) (fun r25 => ?_)
            refine z_as ?_
            refine z_callS (As := [zrv G.2.1 a1, .int a2, zrv G.2.1 r25]) (rest := []) (rv2 := fun (_ : Zh) => none) (h2 := fun (x : Zh) => x) dX5_takeIn_58 vX5_place (.inl zw464) (by decide) rfl rfl (by decide) (fun x hx => kX5_place G c hc h18 a1 a2 r25 hx) (fun h26 => ?_)
            try dsimp only [Option.toList, List.cons_append, List.nil_append]
            refine z_iinc (j := 3) (v := v17 + (1 : Int32)) (lv' := [(3, .int (v17 + (1 : Int32))), (0, zrv G.2.1 a1), (1, .int a2), (2, zrv G.2.1 a3)]) dX5_takeIn_61 rfl rfl (by decide) (by simp [zcat1, zcI, zcJ]) ?_
            refine z_goto (tgt := 41) dX5_takeIn_64 (by decide) ?_
            refine z_sb ?_
            refine z_at [1, 2, 3, 0] rfl ?_
            exact bK21 (v17 + (1 : Int32), h26)
    · refine z_aload_n (j := 0) dX5_takeIn_32 rfl rfl ?_
      refine z_iload_n (j := 1) dX5_takeIn_33 rfl rfl ?_
      refine z_aload_n (j := 2) dX5_takeIn_34 rfl rfl ?_
      refine z_callS (As := [zrv G.2.1 a1, .int a2, zrv G.2.1 a3]) (rest := []) (rv2 := fun (_ : Zh) => none) (h2 := fun (x : Zh) => x) dX5_takeIn_35 vX5_place (.inl zw464) (by decide) rfl rfl (by decide) (fun x hx => kX5_place G c hc h a1 a2 a3 hx) (fun h27 => ?_)
      try dsimp only [Option.toList, List.cons_append, List.nil_append]
      exact z_vret dX5_takeIn_38 rfl rfl rfl
def fX5_plainOfB (c : Nat × Nat) (rc : (Zh → Option Nat → Int32 → Option (Option Nat × Zh))) (h : Zh) (a1 : Option Nat) (a2 : Int32) : Option (Option Nat × Zh) :=
  (zfI h a1 3 0).bind fun x1 =>
  if x1 = 0 then
    (zfI h a1 3 1).bind fun x2 =>
    (fX5_deedOf h x2).bind fun ((r3, h4) : Option Nat × Zh) =>
    some (r3, h4)
  else
    (zfI h a1 3 0).bind fun x5 =>
    if x5 = (1 : Int32) then
      (fX5_silence h).bind fun ((r6, h7) : Option Nat × Zh) =>
      some (r6, h7)
    else
      if a2 ≤ (40 : Int32) then
        (zmO h 0 3).bind fun ((r8, h9) : Option Nat × Zh) =>
        (zob h9 r8 1).bind fun p10 =>
        (fJx4a65c_init_da8c8 c h9 (some p10)).bind fun h11 =>
        (zloop (fun ((v12, h13) : Int32 × Zh) =>
          ((zfP h13 a1 3 2).bind fun r17 =>
          (zaL h13 r17 3).bind fun x18 =>
          if x18 ≤ v12 then
            some (.inr h13)
          else
            (zfI h13 a1 3 0).bind fun x19 =>
            (zfP h13 a1 3 2).bind fun r20 =>
            (zaP h13 r20 3 v12).bind fun r21 =>
            (rc h13 r21 (a2 + (1 : Int32))).bind fun ((r22, h23) : Option Nat × Zh) =>
            (fX5_takeIn c h23 r8 x19 r22).bind fun h24 =>
            some (.inl (v12 + (1 : Int32), h24)) : Option ((Int32 × Zh) ⊕ Zh))) zFU ((0 : Int32), h11)).bind fun (h14 : Zh) =>
        (zob h14 r8 1).bind fun p25 =>
        (fJx4a65c_size_8abf5 h14 (some p25)).bind fun x26 =>
        if x26 = 0 then
          (fX5_silence h14).bind fun ((r27, h28) : Option Nat × Zh) =>
          some (r27, h28)
        else
          (zob h14 r8 1).bind fun p29 =>
          (fJx4a65c_size_8abf5 h14 (some p29)).bind fun x30 =>
          if x30 = (1 : Int32) then
            (zob h14 r8 1).bind fun p31 =>
            (fJx4a65c_get_915e3 h14 (some p31) (0 : Int32)).bind fun r32 =>
            (zck h14 r32).bind fun r33 =>
            some (r33, h14)
          else
            (zob h14 r8 1).bind fun p34 =>
            (fJx4a65c_size_8abf5 h14 (some p34)).bind fun x35 =>
            (zmA h14 3 x35).bind fun ((r36, h37) : Option Nat × Zh) =>
            (zloop (fun ((v38, h39) : Int32 × Zh) =>
              ((zaL h39 r36 3).bind fun x43 =>
              if x43 ≤ v38 then
                some (.inr h39)
              else
                (zob h39 r8 1).bind fun p44 =>
                (fJx4a65c_get_915e3 h39 (some p44) v38).bind fun r45 =>
                (zck h39 r45).bind fun r46 =>
                (zbP h39 r36 3 3 v38 r46).bind fun h47 =>
                some (.inl (v38 + (1 : Int32), h47)) : Option ((Int32 × Zh) ⊕ Zh))) zFU ((0 : Int32), h37)).bind fun (h40 : Zh) =>
            (zmO h40 3 7).bind fun ((r48, h49) : Option Nat × Zh) =>
            (zfI h49 a1 3 0).bind fun x50 =>
            (zob h49 r48 4).bind fun p51 =>
            (fX2_init h49 (some p51) x50 (-3 : Int32) r36).bind fun h52 =>
            some (r48, h52)
      else
        (fX5_silence h).bind fun ((r53, h54) : Option Nat × Zh) =>
        some (r53, h54)
set_option maxRecDepth 100000 in
set_option maxHeartbeats 4000000 in
theorem kX5_plainOfB (G : Zg) (c : Nat × Nat) (hc : c = G.2.2.2.2.2) (rc : (Zh → Option Nat → Int32 → Option (Option Nat × Zh))) (d : Nat) (hrec : ∀ (h : Zh) (a1 : Option Nat) (a2 : Int32) {x : Option Nat × Zh}, rc h a1 a2 = some x → zCt G yX5_plainOf cX5_plainOf 5 (Option.some (Jvm.ClassFile.FieldType.object "TrailFinder$Piece")) d [zrv G.2.1 a1, .int a2] h (some (zrv G.2.1 x.1)) x.2) (hd0 : 67 ≤ d) (h : Zh) (a1 : Option Nat) (a2 : Int32) {x : Option Nat × Zh} (hx : fX5_plainOfB c rc h a1 a2 = some x) : zCt G yX5_plainOf cX5_plainOf 5 (Option.some (Jvm.ClassFile.FieldType.object "TrailFinder$Piece")) (d + 1) [zrv G.2.1 a1, .int a2] h (some (zrv G.2.1 x.1)) x.2 := by
  refine z_met (a := x) (rvf := fun (x : Option Nat × Zh) => some (zrv G.2.1 x.1)) (hff := fun (x : Option Nat × Zh) => x.2) (lv := [(0, zrv G.2.1 a1), (1, .int a2)]) (by decide +kernel) (by simp [lg_sl, zcat1, zcI, zcJ]) (by simp [lv_args, zcat1, zcI, zcJ]) ?_ hx
  unfold fX5_plainOfB
  refine z_aload_n (j := 0) dX5_plainOf_0 rfl rfl ?_
  refine z_getI (k := 0) dX5_plainOf_1 zkl3 (by decide) rfl (.inr ⟨_, zw377⟩) (fun x1 => ?_)
  refine z_if_ne (tgt := 15) dX5_plainOf_4 (by decide) (fun _ => ?_) (fun _ => ?_)
  · refine z_aload_n (j := 0) dX5_plainOf_7 rfl rfl ?_
    refine z_getI (k := 1) dX5_plainOf_8 zkl3 (by decide) rfl (.inr ⟨_, zw380⟩) (fun x2 => ?_)
    refine z_callS (As := [.int x2]) (rest := []) (rv2 := fun (x : Option Nat × Zh) => some (zrv G.2.1 x.1)) (h2 := fun (x : Option Nat × Zh) => x.2) dX5_plainOf_11 vX5_deedOf (.inl zw407) (by omega) rfl rfl (by decide) (fun x hx => kX5_deedOf G h x2 hx) (fun x => ?_)
    obtain ⟨r3, h4⟩ := x
    try dsimp only [Option.toList, List.cons_append, List.nil_append]
    exact z_aret (b := G.2.1) (r := r3) dX5_plainOf_14 rfl (.inl ⟨_, rfl⟩) rfl rfl
  · refine z_aload_n (j := 0) dX5_plainOf_15 rfl rfl ?_
    refine z_getI (k := 0) dX5_plainOf_16 zkl3 (by decide) rfl (.inr ⟨_, zw377⟩) (fun x5 => ?_)
    refine z_iconst (v := 1) dX5_plainOf_19 (by decide) ?_
    refine z_icmp_eq (tgt := 29) dX5_plainOf_20 (by decide) (fun _ => ?_) (fun _ => ?_)
    · refine z_callS (As := []) (rest := []) (rv2 := fun (x : Option Nat × Zh) => some (zrv G.2.1 x.1)) (h2 := fun (x : Option Nat × Zh) => x.2) dX5_plainOf_29 vX5_silence (.inl zw363) (by omega) rfl rfl (by decide) (fun x hx => kX5_silence G h hx) (fun x => ?_)
      obtain ⟨r6, h7⟩ := x
      try dsimp only [Option.toList, List.cons_append, List.nil_append]
      exact z_aret (b := G.2.1) (r := r6) dX5_plainOf_32 rfl (.inl ⟨_, rfl⟩) rfl rfl
    · refine z_iload_n (j := 1) dX5_plainOf_23 rfl rfl ?_
      refine z_bipush (v := 40) dX5_plainOf_24 (by decide) ?_
      refine z_icmp_le (tgt := 33) dX5_plainOf_26 (by decide) (fun _ => ?_) (fun _ => ?_)
      · refine z_newO dX5_plainOf_33 zkl0 zw435 zw436 zw54 (by decide +kernel) (fun r8 h9 => ?_)
        try dsimp only
        refine z_dup dX5_plainOf_36 (zcat1 _ _) ?_
        refine z_ob (fun p10 ep10 lp10 kp10 => ?_)
        refine z_callI (As := []) (rest := [zrv G.2.1 r8]) (h2 := fun (x : Zh) => x) dX5_plainOf_37 vJx4a65c_init_da8c8 (.inl zw437) (by omega) rfl (by rw [ep10]; rfl) (by simp [zcat1, zcI, zcJ]) (fun x hx => kJx4a65c_init_da8c8 G c hc h9 (some p10) hx) (fun h11 => ?_)
        try dsimp only [Option.toList, List.cons_append, List.nil_append]
        refine z_astore_n (i := 2) (lv' := [(2, zrv G.2.1 r8), (0, zrv G.2.1 a1), (1, .int a2)]) dX5_plainOf_40 rfl (by decide) rfl ?_
        refine z_iconst (v := 0) dX5_plainOf_41 (by decide) ?_
        refine z_istore_n (i := 3) (lv' := [(3, .int (0 : Int32)), (2, zrv G.2.1 r8), (0, zrv G.2.1 a1), (1, .int a2)]) dX5_plainOf_42 rfl (by decide) (by simp [zcat1, zcI, zcJ]) ?_
        refine z_at [2, 3, 1, 0] rfl ?_
        refine z_join (pc2 := 78) (lv2 := fun (q : Zh) => [(0, zrv G.2.1 a1), (2, zrv G.2.1 r8)]) (st2 := fun _ => []) (h2 := fun (q : Zh) => q) (fun q => ?_) (fun F15 kF15 => ?_)
        · obtain ⟨h14, e0⟩ : ∃ z, z = q := ⟨_, rfl⟩
          subst e0
          try dsimp only
          refine z_aload_n (j := 1) dX5_plainOf_78 rfl rfl ?_
          refine z_ob (fun p25 ep25 lp25 kp25 => ?_)
          refine z_callV (As := []) (rest := []) (rv2 := fun (x : Int32) => some (.int x)) (h2 := fun (_ : Int32) => h14) dX5_plainOf_79 vJx4a65c_size_8abf5 (.inl zw467) (by omega) zkl0 lp25 kp25 rfl (by rw [ep25]; rfl) (by decide) (fun x hx => kJx4a65c_size_8abf5 G h14 (some p25) hx) (fun x26 => ?_)
          try dsimp only [Option.toList, List.cons_append, List.nil_append]
          refine z_if_ne (tgt := 89) dX5_plainOf_82 (by decide) (fun _ => ?_) (fun _ => ?_)
          · refine z_callS (As := []) (rest := []) (rv2 := fun (x : Option Nat × Zh) => some (zrv G.2.1 x.1)) (h2 := fun (x : Option Nat × Zh) => x.2) dX5_plainOf_85 vX5_silence (.inl zw363) (by omega) rfl rfl (by decide) (fun x hx => kX5_silence G h14 hx) (fun x => ?_)
            obtain ⟨r27, h28⟩ := x
            try dsimp only [Option.toList, List.cons_append, List.nil_append]
            exact z_aret (b := G.2.1) (r := r27) dX5_plainOf_88 rfl (.inl ⟨_, rfl⟩) rfl rfl
          · refine z_aload_n (j := 1) dX5_plainOf_89 rfl rfl ?_
            refine z_ob (fun p29 ep29 lp29 kp29 => ?_)
            refine z_callV (As := []) (rest := []) (rv2 := fun (x : Int32) => some (.int x)) (h2 := fun (_ : Int32) => h14) dX5_plainOf_90 vJx4a65c_size_8abf5 (.inl zw467) (by omega) zkl0 lp29 kp29 rfl (by rw [ep29]; rfl) (by decide) (fun x hx => kJx4a65c_size_8abf5 G h14 (some p29) hx) (fun x30 => ?_)
            try dsimp only [Option.toList, List.cons_append, List.nil_append]
            refine z_iconst (v := 1) dX5_plainOf_93 (by decide) ?_
            refine z_icmp_ne (tgt := 106) dX5_plainOf_94 (by decide) (fun _ => ?_) (fun _ => ?_)
            · refine z_aload_n (j := 1) dX5_plainOf_97 rfl rfl ?_
              refine z_iconst (v := 0) dX5_plainOf_98 (by decide) ?_
              refine z_ob (fun p31 ep31 lp31 kp31 => ?_)
              refine z_callV (As := [.int (0 : Int32)]) (rest := []) (rv2 := fun (x : Option Nat) => some (zrv G.2.1 x)) (h2 := fun (_ : Option Nat) => h14) dX5_plainOf_99 vJx4a65c_get_915e3 (.inl zw472) (by omega) zkl0 lp31 kp31 rfl (by rw [ep31]; rfl) (by decide) (fun x hx => kJx4a65c_get_915e3 G h14 (some p31) (0 : Int32) hx) (fun r32 => ?_)
              try dsimp only [Option.toList, List.cons_append, List.nil_append]
              refine z_cast2 dX5_plainOf_102 zw69 (fun r33 => ?_)
              exact z_aret (b := G.2.1) (r := r33) dX5_plainOf_105 rfl (.inl ⟨_, rfl⟩) rfl rfl
            · refine z_aload_n (j := 1) dX5_plainOf_106 rfl rfl ?_
              refine z_ob (fun p34 ep34 lp34 kp34 => ?_)
              refine z_callV (As := []) (rest := []) (rv2 := fun (x : Int32) => some (.int x)) (h2 := fun (_ : Int32) => h14) dX5_plainOf_107 vJx4a65c_size_8abf5 (.inl zw467) (by omega) zkl0 lp34 kp34 rfl (by rw [ep34]; rfl) (by decide) (fun x hx => kJx4a65c_size_8abf5 G h14 (some p34) hx) (fun x35 => ?_)
              try dsimp only [Option.toList, List.cons_append, List.nil_append]
              refine z_newQ (t := 3) dX5_plainOf_110 (by decide) (by decide) rfl zw69 (fun r36 h37 => ?_)
              try dsimp only
              refine z_astore_n (i := 3) (lv' := [(3, zrv G.2.1 r36), (0, zrv G.2.1 a1), (2, zrv G.2.1 r8)]) dX5_plainOf_113 rfl (by decide) (by simp [zcat1, zcI, zcJ]) ?_
              refine z_iconst (v := 0) dX5_plainOf_114 (by decide) ?_
              refine z_istore (i := 4) (lv' := [(4, .int (0 : Int32)), (3, zrv G.2.1 r36), (0, zrv G.2.1 a1), (2, zrv G.2.1 r8)]) dX5_plainOf_115 (by decide) (by simp [zcat1, zcI, zcJ]) ?_
              refine z_at [2, 3, 1, 0] rfl ?_
              refine z_join (pc2 := 143) (lv2 := fun (q : Zh) => [(0, zrv G.2.1 a1), (3, zrv G.2.1 r36)]) (st2 := fun _ => []) (h2 := fun (q : Zh) => q) (fun q => ?_) (fun F41 kF41 => ?_)
              · obtain ⟨h40, e0⟩ : ∃ z, z = q := ⟨_, rfl⟩
                subst e0
                try dsimp only
                refine z_newO dX5_plainOf_143 zkl3 zw69 zw366 zw50 (by decide +kernel) (fun r48 h49 => ?_)
                try dsimp only
                refine z_dup dX5_plainOf_146 (zcat1 _ _) ?_
                refine z_aload_n (j := 0) dX5_plainOf_147 rfl rfl ?_
                refine z_getI (k := 0) dX5_plainOf_148 zkl3 (by decide) rfl (.inr ⟨_, zw377⟩) (fun x50 => ?_)
                refine z_bipush (v := -3) dX5_plainOf_151 (by decide) ?_
                refine z_aload_n (j := 1) dX5_plainOf_153 rfl rfl ?_
                refine z_ob (fun p51 ep51 lp51 kp51 => ?_)
                refine z_callI (As := [.int x50, .int (-3 : Int32), zrv G.2.1 r36]) (rest := [zrv G.2.1 r48]) (h2 := fun (x : Zh) => x) dX5_plainOf_154 vX2_init (.inr ⟨_, zw367⟩) (by omega) rfl (by rw [ep51]; rfl) (by simp [zcat1, zcI, zcJ]) (fun x hx => kX2_init G h49 (some p51) x50 (-3 : Int32) r36 hx) (fun h52 => ?_)
                try dsimp only [Option.toList, List.cons_append, List.nil_append]
                exact z_aret (b := G.2.1) (r := r48) dX5_plainOf_157 rfl (.inl ⟨_, rfl⟩) rfl rfl
              · refine z_loop (lvf := fun (q : Int32 × Zh) => [(0, zrv G.2.1 a1), (2, zrv G.2.1 r8), (3, zrv G.2.1 r36), (4, .int q.1)]) (hf2 := fun (q : Int32 × Zh) => q.2) (s0 := ((0 : Int32), h37)) (fun K42 bK42 rK42 q => ?_)
                obtain ⟨v38, h39⟩ := q
                try dsimp only
                refine z_iload (j := 3) dX5_plainOf_117 rfl ?_
                refine z_aload_n (j := 2) dX5_plainOf_119 rfl rfl ?_
                refine z_as ?_
                refine z_alen dX5_plainOf_120 (by decide) (fun x43 => ?_)
                refine z_itb ?_
                refine z_icmp_ge (tgt := 143) dX5_plainOf_121 (by decide) (fun _ => ?_) (fun _ => ?_)
                · refine z_sb ?_
                  refine z_eq (rK42 _) ?_
                  refine z_at [0, 2] rfl ?_
                  exact kF41 h39
                · refine z_aload_n (j := 2) dX5_plainOf_124 rfl rfl ?_
                  refine z_iload (j := 3) dX5_plainOf_125 rfl ?_
                  refine z_aload_n (j := 1) dX5_plainOf_127 rfl rfl ?_
                  refine z_iload (j := 3) dX5_plainOf_128 rfl ?_
                  refine z_as ?_
                  refine z_ob (fun p44 ep44 lp44 kp44 => ?_)
                  refine z_as ?_
                  refine z_callV (As := [.int v38]) (rest := [.int v38, zrv G.2.1 r36]) (rv2 := fun (x : Option Nat) => some (zrv G.2.1 x)) (h2 := fun (_ : Option Nat) => h39) dX5_plainOf_130 vJx4a65c_get_915e3 (.inl zw472) (by omega) zkl0 lp44 kp44 rfl (by rw [ep44]; rfl) (by simp [zcat1, zcI, zcJ]) (fun x hx => kJx4a65c_get_915e3 G h39 (some p44) v38 hx) (fun r45 => ?_)
                  try dsimp only [Option.toList, List.cons_append, List.nil_append]
                  refine z_as ?_
                  refine z_cast2 dX5_plainOf_133 zw69 (fun r46 => ?_)
                  refine z_as ?_
                  refine z_aast dX5_plainOf_136 (by decide) (by decide) zkl3 rfl (fun h47 => ?_)
                  refine z_iinc (j := 3) (v := v38 + (1 : Int32)) (lv' := [(4, .int (v38 + (1 : Int32))), (0, zrv G.2.1 a1), (2, zrv G.2.1 r8), (3, zrv G.2.1 r36)]) dX5_plainOf_137 rfl rfl (by decide) (by simp [zcat1, zcI, zcJ]) ?_
                  refine z_goto (tgt := 117) dX5_plainOf_140 (by decide) ?_
                  refine z_sb ?_
                  refine z_at [1, 2, 3, 0] rfl ?_
                  exact bK42 (v38 + (1 : Int32), h47)
        · refine z_loop (lvf := fun (q : Int32 × Zh) => [(0, zrv G.2.1 a1), (1, .int a2), (2, zrv G.2.1 r8), (3, .int q.1)]) (hf2 := fun (q : Int32 × Zh) => q.2) (s0 := ((0 : Int32), h11)) (fun K16 bK16 rK16 q => ?_)
          obtain ⟨v12, h13⟩ := q
          try dsimp only
          refine z_iload_n (j := 3) dX5_plainOf_43 rfl rfl ?_
          refine z_aload_n (j := 0) dX5_plainOf_44 rfl rfl ?_
          refine z_as ?_
          refine z_getP (k := 2) dX5_plainOf_45 zkl3 (by decide) rfl (.inr ⟨_, zw383⟩) (fun r17 => ?_)
          refine z_as ?_
          refine z_alen dX5_plainOf_48 (by decide) (fun x18 => ?_)
          refine z_itb ?_
          refine z_icmp_ge (tgt := 78) dX5_plainOf_49 (by decide) (fun _ => ?_) (fun _ => ?_)
          · refine z_sb ?_
            refine z_eq (rK16 _) ?_
            refine z_at [0, 2] rfl ?_
            exact kF15 h13
          · refine z_aload_n (j := 2) dX5_plainOf_52 rfl rfl ?_
            refine z_aload_n (j := 0) dX5_plainOf_53 rfl rfl ?_
            refine z_as ?_
            refine z_getI (k := 0) dX5_plainOf_54 zkl3 (by decide) rfl (.inr ⟨_, zw377⟩) (fun x19 => ?_)
            refine z_aload_n (j := 0) dX5_plainOf_57 rfl rfl ?_
            refine z_as ?_
            refine z_getP (k := 2) dX5_plainOf_58 zkl3 (by decide) rfl (.inr ⟨_, zw383⟩) (fun r20 => ?_)
            refine z_iload_n (j := 3) dX5_plainOf_61 rfl rfl ?_
            refine z_as ?_
            refine z_aald dX5_plainOf_62 (by decide) (by decide) (fun r21 => ?_)
            refine z_iload_n (j := 1) dX5_plainOf_63 rfl rfl ?_
            refine z_iconst (v := 1) dX5_plainOf_64 (by decide) ?_
            refine z_iadd dX5_plainOf_65 ?_
            refine z_as ?_
            refine z_callS (As := [zrv G.2.1 r21, .int (a2 + (1 : Int32))]) (rest := [.int x19, zrv G.2.1 r8]) (rv2 := fun (x : Option Nat × Zh) => some (zrv G.2.1 x.1)) (h2 := fun (x : Option Nat × Zh) => x.2) dX5_plainOf_66 vX5_plainOf (.inl zw432) (by omega) rfl rfl (by simp [zcat1, zcI, zcJ]) (fun x hx => hrec h13 r21 (a2 + (1 : Int32)) hx) (fun x => ?_)
            obtain ⟨r22, h23⟩ := x
            try dsimp only [Option.toList, List.cons_append, List.nil_append]
            refine z_as ?_
            refine z_callS (As := [zrv G.2.1 r8, .int x19, zrv G.2.1 r22]) (rest := []) (rv2 := fun (_ : Zh) => none) (h2 := fun (x : Zh) => x) dX5_plainOf_69 vX5_takeIn (.inl zw461) (by omega) rfl rfl (by decide) (fun x hx => kX5_takeIn G c hc h23 r8 x19 r22 hx) (fun h24 => ?_)
            try dsimp only [Option.toList, List.cons_append, List.nil_append]
            refine z_iinc (j := 3) (v := v12 + (1 : Int32)) (lv' := [(3, .int (v12 + (1 : Int32))), (0, zrv G.2.1 a1), (1, .int a2), (2, zrv G.2.1 r8)]) dX5_plainOf_72 rfl rfl (by decide) (by simp [zcat1, zcI, zcJ]) ?_
            refine z_goto (tgt := 43) dX5_plainOf_75 (by decide) ?_
            refine z_sb ?_
            refine z_at [1, 2, 3, 0] rfl ?_
            exact bK16 (v12 + (1 : Int32), h24)
      · refine z_callS (As := []) (rest := []) (rv2 := fun (x : Option Nat × Zh) => some (zrv G.2.1 x.1)) (h2 := fun (x : Option Nat × Zh) => x.2) dX5_plainOf_29 vX5_silence (.inl zw363) (by omega) rfl rfl (by decide) (fun x hx => kX5_silence G h hx) (fun x => ?_)
        obtain ⟨r53, h54⟩ := x
        try dsimp only [Option.toList, List.cons_append, List.nil_append]
        exact z_aret (b := G.2.1) (r := r53) dX5_plainOf_32 rfl (.inl ⟨_, rfl⟩) rfl rfl
def fX5_plainOf (c : Nat × Nat) : Nat → (Zh → Option Nat → Int32 → Option (Option Nat × Zh))
  | 0 => fun _ _ _ => none
  | n + 1 => fX5_plainOfB c (fX5_plainOf c n)
theorem kX5_plainOf (G : Zg) (c : Nat × Nat) (hc : c = G.2.2.2.2.2) (n : Nat) (h : Zh) (a1 : Option Nat) (a2 : Int32) {x : Option Nat × Zh} (hx : fX5_plainOf c n h a1 a2 = some x) : zCt G yX5_plainOf cX5_plainOf 5 (Option.some (Jvm.ClassFile.FieldType.object "TrailFinder$Piece")) (n * 1 + 67) [zrv G.2.1 a1, .int a2] h (some (zrv G.2.1 x.1)) x.2 := by
  induction n generalizing h a1 a2 x with
  | zero => cases hx
  | succ n ih =>
    have h1 := kX5_plainOfB G c hc (fX5_plainOf c n) (n * 1 + 67) (fun h a1 a2 x hx => ih h a1 a2 hx) (by omega) h a1 a2 hx
    rw [show n * 1 + 67 + 1 = (n + 1) * 1 + 67 by omega] at h1
    exact h1
def fX5_plain (c : Nat × Nat) (h : Zh) (this : Option Nat) (a1 : Int32) : Option (Int32 × Zh) :=
  (zob h this 7).bind fun p1 =>
  (fX5_pieceAt h (some p1) a1).bind fun r2 =>
  if r2 = none then
    some ((-1 : Int32), h)
  else
    (fX5_plainOf c 64 h r2 (0 : Int32)).bind fun ((r3, h4) : Option Nat × Zh) =>
    (zfI h4 r3 3 3).bind fun x5 =>
    (zob h4 this 7).bind fun p6 =>
    (fX5_keep h4 (some p6) r3 x5).bind fun ((x7, h8) : Int32 × Zh) =>
    some (x7, h8)
set_option maxRecDepth 100000 in
set_option maxHeartbeats 4000000 in
theorem kX5_plain (G : Zg) (c : Nat × Nat) (hc : c = G.2.2.2.2.2) (h : Zh) (this : Option Nat) (a1 : Int32) {x : Int32 × Zh} (hx : fX5_plain c h this a1 = some x) : zCt G yX5_plain cX5_plain 4 (Option.some Jvm.ClassFile.FieldType.int) 132 [zrv G.2.1 this, .int a1] h (some (.int x.1)) x.2 := by
  refine z_met (a := x) (rvf := fun (x : Int32 × Zh) => some (.int x.1)) (hff := fun (x : Int32 × Zh) => x.2) (lv := [(0, zrv G.2.1 this), (1, .int a1)]) (by decide +kernel) (by simp [lg_sl, zcat1, zcI, zcJ]) (by simp [lv_args, zcat1, zcI, zcJ]) ?_ hx
  unfold fX5_plain
  refine z_aload_n (j := 0) dX5_plain_0 rfl rfl ?_
  refine z_iload_n (j := 1) dX5_plain_1 rfl rfl ?_
  refine z_ob (fun p1 ep1 lp1 kp1 => ?_)
  refine z_callV (As := [.int a1]) (rest := []) (rv2 := fun (x : Option Nat) => some (zrv G.2.1 x)) (h2 := fun (_ : Option Nat) => h) dX5_plain_2 vX5_pieceAt (.inl zw194) (by decide) zkl6 lp1 kp1 rfl (by rw [ep1]; rfl) (by decide) (fun x hx => kX5_pieceAt G h (some p1) a1 hx) (fun r2 => ?_)
  try dsimp only [Option.toList, List.cons_append, List.nil_append]
  refine z_astore_n (i := 2) (lv' := [(2, zrv G.2.1 r2), (0, zrv G.2.1 this), (1, .int a1)]) dX5_plain_5 rfl (by decide) rfl ?_
  refine z_aload_n (j := 0) dX5_plain_6 rfl rfl ?_
  refine z_ifnonnull (tgt := 12) dX5_plain_7 (by decide) (fun _ => ?_) (fun _ => ?_)
  · refine z_iconst (v := -1) dX5_plain_10 (by decide) ?_
    exact z_iret dX5_plain_11 rfl rfl rfl rfl
  · refine z_aload_n (j := 0) dX5_plain_12 rfl rfl ?_
    refine z_iconst (v := 0) dX5_plain_13 (by decide) ?_
    refine z_callS (As := [zrv G.2.1 r2, .int (0 : Int32)]) (rest := []) (rv2 := fun (x : Option Nat × Zh) => some (zrv G.2.1 x.1)) (h2 := fun (x : Option Nat × Zh) => x.2) dX5_plain_14 vX5_plainOf (.inl zw432) (by decide) rfl rfl (by decide) (fun x hx => kX5_plainOf G c hc 64 h r2 (0 : Int32) hx) (fun x => ?_)
    obtain ⟨r3, h4⟩ := x
    try dsimp only [Option.toList, List.cons_append, List.nil_append]
    refine z_astore_n (i := 3) (lv' := [(3, zrv G.2.1 r3), (2, zrv G.2.1 r2), (0, zrv G.2.1 this), (1, .int a1)]) dX5_plain_17 rfl (by decide) (by simp [zcat1, zcI, zcJ]) ?_
    refine z_aload_n (j := 2) dX5_plain_18 rfl rfl ?_
    refine z_aload_n (j := 0) dX5_plain_19 rfl rfl ?_
    refine z_aload_n (j := 0) dX5_plain_20 rfl rfl ?_
    refine z_getI (k := 3) dX5_plain_21 zkl3 (by decide) rfl (.inr ⟨_, zw385⟩) (fun x5 => ?_)
    refine z_ob (fun p6 ep6 lp6 kp6 => ?_)
    refine z_callV (As := [zrv G.2.1 r3, .int x5]) (rest := []) (rv2 := fun (x : Int32 × Zh) => some (.int x.1)) (h2 := fun (x : Int32 × Zh) => x.2) dX5_plain_24 vX5_keep (.inl zw410) (by decide) zkl6 lp6 kp6 rfl (by rw [ep6]; rfl) (by decide) (fun x hx => kX5_keep G h4 (some p6) r3 x5 hx) (fun x => ?_)
    obtain ⟨x7, h8⟩ := x
    try dsimp only [Option.toList, List.cons_append, List.nil_append]
    exact z_iret dX5_plain_27 rfl rfl rfl rfl
def fX5_like (h : Zh) (this : Option Nat) (a1 : Int32) (a2 : Int32) : Option (Int32) :=
  (zob h this 7).bind fun p1 =>
  (fX5_pieceAt h (some p1) a1).bind fun r2 =>
  (zob h this 7).bind fun p3 =>
  (fX5_pieceAt h (some p3) a2).bind fun r4 =>
  if r2 = none then
    some (-1 : Int32)
  else
    if r4 = none then
      some (-1 : Int32)
    else
      (fX5_order 64 h r2 r4 (0 : Int32)).bind fun x5 =>
      (if x5 = 0 then
        some (1 : Int32)
      else
        some (0 : Int32)).bind fun (v6 : Int32) =>
      some v6
set_option maxRecDepth 100000 in
set_option maxHeartbeats 4000000 in
theorem kX5_like (G : Zg) (h : Zh) (this : Option Nat) (a1 : Int32) (a2 : Int32) {x : Int32} (hx : fX5_like h this a1 a2 = some x) : zCt G yX5_like cX5_like 5 (Option.some Jvm.ClassFile.FieldType.int) 66 [zrv G.2.1 this, .int a1, .int a2] h (some (.int x)) h := by
  refine z_met (a := x) (rvf := fun (x : Int32) => some (.int x)) (hff := fun (_ : Int32) => h) (lv := [(0, zrv G.2.1 this), (1, .int a1), (2, .int a2)]) (by decide +kernel) (by simp [lg_sl, zcat1, zcI, zcJ]) (by simp [lv_args, zcat1, zcI, zcJ]) ?_ hx
  unfold fX5_like
  refine z_aload_n (j := 0) dX5_like_0 rfl rfl ?_
  refine z_iload_n (j := 1) dX5_like_1 rfl rfl ?_
  refine z_ob (fun p1 ep1 lp1 kp1 => ?_)
  refine z_callV (As := [.int a1]) (rest := []) (rv2 := fun (x : Option Nat) => some (zrv G.2.1 x)) (h2 := fun (_ : Option Nat) => h) dX5_like_2 vX5_pieceAt (.inl zw194) (by decide) zkl6 lp1 kp1 rfl (by rw [ep1]; rfl) (by decide) (fun x hx => kX5_pieceAt G h (some p1) a1 hx) (fun r2 => ?_)
  try dsimp only [Option.toList, List.cons_append, List.nil_append]
  refine z_astore_n (i := 3) (lv' := [(3, zrv G.2.1 r2), (0, zrv G.2.1 this), (1, .int a1), (2, .int a2)]) dX5_like_5 rfl (by decide) rfl ?_
  refine z_aload_n (j := 1) dX5_like_6 rfl rfl ?_
  refine z_iload_n (j := 3) dX5_like_7 rfl rfl ?_
  refine z_ob (fun p3 ep3 lp3 kp3 => ?_)
  refine z_callV (As := [.int a2]) (rest := []) (rv2 := fun (x : Option Nat) => some (zrv G.2.1 x)) (h2 := fun (_ : Option Nat) => h) dX5_like_8 vX5_pieceAt (.inl zw194) (by decide) zkl6 lp3 kp3 rfl (by rw [ep3]; rfl) (by decide) (fun x hx => kX5_pieceAt G h (some p3) a2 hx) (fun r4 => ?_)
  try dsimp only [Option.toList, List.cons_append, List.nil_append]
  refine z_astore (i := 4) (lv' := [(4, zrv G.2.1 r4), (3, zrv G.2.1 r2), (0, zrv G.2.1 this), (1, .int a1), (2, .int a2)]) dX5_like_11 (by decide) (by simp [zcat1, zcI, zcJ]) ?_
  refine z_aload_n (j := 1) dX5_like_13 rfl rfl ?_
  refine z_ifnull (tgt := 22) dX5_like_14 (by decide) (fun _ => ?_) (fun _ => ?_)
  · refine z_iconst (v := -1) dX5_like_22 (by decide) ?_
    exact z_iret dX5_like_23 rfl rfl rfl rfl
  · refine z_aload (j := 0) dX5_like_17 rfl ?_
    refine z_ifnonnull (tgt := 24) dX5_like_19 (by decide) (fun _ => ?_) (fun _ => ?_)
    · refine z_iconst (v := -1) dX5_like_22 (by decide) ?_
      exact z_iret dX5_like_23 rfl rfl rfl rfl
    · refine z_aload_n (j := 1) dX5_like_24 rfl rfl ?_
      refine z_aload (j := 0) dX5_like_25 rfl ?_
      refine z_iconst (v := 0) dX5_like_27 (by decide) ?_
      refine z_callS (As := [zrv G.2.1 r2, zrv G.2.1 r4, .int (0 : Int32)]) (rest := []) (rv2 := fun (x : Int32) => some (.int x)) (h2 := fun (_ : Int32) => h) dX5_like_28 vX5_order (.inl zw486) (by decide) rfl rfl (by decide) (fun x hx => kX5_order G 64 h r2 r4 (0 : Int32) hx) (fun x5 => ?_)
      try dsimp only [Option.toList, List.cons_append, List.nil_append]
      refine z_join (pc2 := 39) (lv2 := fun (q : Int32) => []) (st2 := fun (q : Int32) => [.int q]) (h2 := fun (q : Int32) => h) (fun q => ?_) (fun F7 kF7 => ?_)
      · obtain ⟨v6, e0⟩ : ∃ z, z = q := ⟨_, rfl⟩
        subst e0
        try dsimp only
        exact z_iret dX5_like_39 rfl rfl rfl rfl
      · refine z_itb ?_
        refine z_if_ne (tgt := 38) dX5_like_31 (by decide) (fun _ => ?_) (fun _ => ?_)
        · refine z_iconst (v := 1) dX5_like_34 (by decide) ?_
          refine z_goto (tgt := 39) dX5_like_35 (by decide) ?_
          refine z_sb ?_
          refine z_at [] rfl ?_
          exact kF7 (1 : Int32)
        · refine z_iconst (v := 0) dX5_like_38 (by decide) ?_
          refine z_sb ?_
          refine z_at [] rfl ?_
          exact kF7 (0 : Int32)
def fX5_foundOfOneName (h : Zh) (a1 : Option Nat) : Option (Option Nat × Zh) :=
  (zfP h a1 4 0).bind fun r1 =>
  (zaI h r1 (0 : Int32)).bind fun x2 =>
  (fX3_nameIn h x2 (0 : Int32)).bind fun x3 =>
  (fX5_deedOf h x3).bind fun ((r4, h5) : Option Nat × Zh) =>
  (zob h5 a1 5).bind fun p6 =>
  (fX3_hasLongRow h5 (some p6)).bind fun x7 =>
  (if x7 = 0 then
    some (r4, h5)
  else
    (fX5_silence h5).bind fun ((r11, h12) : Option Nat × Zh) =>
    (fX5_two h12 (5 : Int32) r4 r11).bind fun ((r13, h14) : Option Nat × Zh) =>
    some (r13, h14)).bind fun ((v8, h9) : Option Nat × Zh) =>
  some (v8, h9)
set_option maxRecDepth 100000 in
set_option maxHeartbeats 4000000 in
theorem kX5_foundOfOneName (G : Zg) (h : Zh) (a1 : Option Nat) {x : Option Nat × Zh} (hx : fX5_foundOfOneName h a1 = some x) : zCt G yX5_foundOfOneName cX5_foundOfOneName 2 (Option.some (Jvm.ClassFile.FieldType.object "TrailFinder$Piece")) 4 [zrv G.2.1 a1] h (some (zrv G.2.1 x.1)) x.2 := by
  refine z_met (a := x) (rvf := fun (x : Option Nat × Zh) => some (zrv G.2.1 x.1)) (hff := fun (x : Option Nat × Zh) => x.2) (lv := [(0, zrv G.2.1 a1)]) (by decide +kernel) (by simp [lg_sl, zcat1, zcI, zcJ]) (by simp [lv_args, zcat1, zcI, zcJ]) ?_ hx
  unfold fX5_foundOfOneName
  refine z_aload_n (j := 0) dX5_foundOfOneName_0 rfl rfl ?_
  refine z_getP (k := 0) dX5_foundOfOneName_1 zkl4 (by decide) rfl (.inr ⟨_, zw110⟩) (fun r1 => ?_)
  refine z_iconst (v := 0) dX5_foundOfOneName_4 (by decide) ?_
  refine z_iald dX5_foundOfOneName_5 (fun x2 => ?_)
  refine z_iconst (v := 0) dX5_foundOfOneName_6 (by decide) ?_
  refine z_callS (As := [.int x2, .int (0 : Int32)]) (rest := []) (rv2 := fun (x : Int32) => some (.int x)) (h2 := fun (_ : Int32) => h) dX5_foundOfOneName_7 vX3_nameIn (.inr ⟨_, zw579⟩) (by decide) rfl rfl (by decide) (fun x hx => kX3_nameIn G h x2 (0 : Int32) hx) (fun x3 => ?_)
  try dsimp only [Option.toList, List.cons_append, List.nil_append]
  refine z_callS (As := [.int x3]) (rest := []) (rv2 := fun (x : Option Nat × Zh) => some (zrv G.2.1 x.1)) (h2 := fun (x : Option Nat × Zh) => x.2) dX5_foundOfOneName_10 vX5_deedOf (.inl zw407) (by decide) rfl rfl (by decide) (fun x hx => kX5_deedOf G h x3 hx) (fun x => ?_)
  obtain ⟨r4, h5⟩ := x
  try dsimp only [Option.toList, List.cons_append, List.nil_append]
  refine z_astore_n (i := 1) (lv' := [(1, zrv G.2.1 r4), (0, zrv G.2.1 a1)]) dX5_foundOfOneName_13 rfl (by decide) (by simp [zcat1, zcI, zcJ]) ?_
  refine z_aload_n (j := 1) dX5_foundOfOneName_14 rfl rfl ?_
  refine z_ob (fun p6 ep6 lp6 kp6 => ?_)
  refine z_callV (As := []) (rest := []) (rv2 := fun (x : Int32) => some (.int x)) (h2 := fun (_ : Int32) => h5) dX5_foundOfOneName_15 vX3_hasLongRow (.inr ⟨_, zw580⟩) (by decide) zkl4 lp6 kp6 rfl (by rw [ep6]; rfl) (by decide) (fun x hx => kX3_hasLongRow G h5 (some p6) hx) (fun x7 => ?_)
  try dsimp only [Option.toList, List.cons_append, List.nil_append]
  refine z_join (pc2 := 33) (lv2 := fun (q : Option Nat × Zh) => []) (st2 := fun (q : Option Nat × Zh) => [zrv G.2.1 q.1]) (h2 := fun (q : Option Nat × Zh) => q.2) (fun q => ?_) (fun F10 kF10 => ?_)
  · obtain ⟨v8, h9⟩ := q
    try dsimp only
    exact z_aret (b := G.2.1) (r := v8) dX5_foundOfOneName_33 rfl (.inl ⟨_, rfl⟩) rfl rfl
  · refine z_itb ?_
    refine z_if_eq (tgt := 32) dX5_foundOfOneName_18 (by decide) (fun _ => ?_) (fun _ => ?_)
    · refine z_aload_n (j := 0) dX5_foundOfOneName_32 rfl rfl ?_
      refine z_sb ?_
      refine z_at [] rfl ?_
      exact kF10 (r4, h5)
    · refine z_iconst (v := 5) dX5_foundOfOneName_21 (by decide) ?_
      refine z_aload_n (j := 0) dX5_foundOfOneName_22 rfl rfl ?_
      refine z_as ?_
      refine z_callS (As := []) (rest := [zrv G.2.1 r4, .int (5 : Int32)]) (rv2 := fun (x : Option Nat × Zh) => some (zrv G.2.1 x.1)) (h2 := fun (x : Option Nat × Zh) => x.2) dX5_foundOfOneName_23 vX5_silence (.inl zw363) (by decide) rfl rfl (by simp [zcat1, zcI, zcJ]) (fun x hx => kX5_silence G h5 hx) (fun x => ?_)
      obtain ⟨r11, h12⟩ := x
      try dsimp only [Option.toList, List.cons_append, List.nil_append]
      refine z_as ?_
      refine z_callS (As := [.int (5 : Int32), zrv G.2.1 r4, zrv G.2.1 r11]) (rest := []) (rv2 := fun (x : Option Nat × Zh) => some (zrv G.2.1 x.1)) (h2 := fun (x : Option Nat × Zh) => x.2) dX5_foundOfOneName_26 vX5_two (.inl zw421) (by decide) rfl rfl (by decide) (fun x hx => kX5_two G h12 (5 : Int32) r4 r11 hx) (fun x => ?_)
      obtain ⟨r13, h14⟩ := x
      try dsimp only [Option.toList, List.cons_append, List.nil_append]
      refine z_goto (tgt := 33) dX5_foundOfOneName_29 (by decide) ?_
      refine z_sb ?_
      refine z_at [] rfl ?_
      exact kF10 (r13, h14)
def fX5_flower (h : Zh) (a1 : Int32) : Option (Option Nat × Zh) :=
  (fJ6_bitCount_0f7a4 h a1).bind fun x1 =>
  (zmA h 3 x1).bind fun ((r2, h3) : Option Nat × Zh) =>
  (zloop (fun ((v4, v5, h6) : Int32 × Int32 × Zh) =>
    (if (12 : Int32) ≤ v5 then
      some (.inr h6)
    else
      (if (a1 &&& ((1 : Int32) <<< (v5 &&& 31))) = 0 then
        some (v4, h6)
      else
        (zaL h6 r2 3).bind fun x13 =>
        if v4 < x13 then
          (fX5_deedOf h6 v5).bind fun ((r14, h15) : Option Nat × Zh) =>
          (zbP h15 r2 3 3 v4 r14).bind fun h16 =>
          some (v4 + (1 : Int32), h16)
        else
          some (v4, h6)).bind fun ((v10, h11) : Int32 × Zh) =>
      some (.inl (v10, v5 + (1 : Int32), h11)) : Option ((Int32 × Int32 × Zh) ⊕ Zh))) zFU ((0 : Int32), (0 : Int32), h3)).bind fun (h7 : Zh) =>
  (zmO h7 3 7).bind fun ((r17, h18) : Option Nat × Zh) =>
  (zob h18 r17 4).bind fun p19 =>
  (fX2_init h18 (some p19) (3 : Int32) (-3 : Int32) r2).bind fun h20 =>
  (fX5_silence h20).bind fun ((r21, h22) : Option Nat × Zh) =>
  (fX5_two h22 (5 : Int32) r17 r21).bind fun ((r23, h24) : Option Nat × Zh) =>
  some (r23, h24)
set_option maxRecDepth 100000 in
set_option maxHeartbeats 4000000 in
theorem kX5_flower (G : Zg) (h : Zh) (a1 : Int32) {x : Option Nat × Zh} (hx : fX5_flower h a1 = some x) : zCt G yX5_flower cX5_flower 4 (Option.some (Jvm.ClassFile.FieldType.object "TrailFinder$Piece")) 4 [.int a1] h (some (zrv G.2.1 x.1)) x.2 := by
  refine z_met (a := x) (rvf := fun (x : Option Nat × Zh) => some (zrv G.2.1 x.1)) (hff := fun (x : Option Nat × Zh) => x.2) (lv := [(0, .int a1)]) (by decide +kernel) (by simp [lg_sl, zcat1, zcI, zcJ]) (by simp [lv_args, zcat1, zcI, zcJ]) ?_ hx
  unfold fX5_flower
  refine z_iload_n (j := 0) dX5_flower_0 rfl rfl ?_
  refine z_callS (As := [.int a1]) (rest := []) (rv2 := fun (x : Int32) => some (.int x)) (h2 := fun (_ : Int32) => h) dX5_flower_1 vJ6_bitCount_0f7a4 (.inl zw575) (by decide) rfl rfl (by decide) (fun x hx => kJ6_bitCount_0f7a4 G h a1 hx) (fun x1 => ?_)
  try dsimp only [Option.toList, List.cons_append, List.nil_append]
  refine z_newQ (t := 3) dX5_flower_4 (by decide) (by decide) rfl zw69 (fun r2 h3 => ?_)
  try dsimp only
  refine z_astore_n (i := 1) (lv' := [(1, zrv G.2.1 r2), (0, .int a1)]) dX5_flower_7 rfl (by decide) rfl ?_
  refine z_iconst (v := 0) dX5_flower_8 (by decide) ?_
  refine z_istore_n (i := 2) (lv' := [(2, .int (0 : Int32)), (1, zrv G.2.1 r2), (0, .int a1)]) dX5_flower_9 rfl (by decide) (by simp [zcat1, zcI, zcJ]) ?_
  refine z_iconst (v := 0) dX5_flower_10 (by decide) ?_
  refine z_istore_n (i := 3) (lv' := [(3, .int (0 : Int32)), (2, .int (0 : Int32)), (1, zrv G.2.1 r2), (0, .int a1)]) dX5_flower_11 rfl (by decide) rfl ?_
  refine z_at [3, 2, 1, 0] rfl ?_
  refine z_join (pc2 := 51) (lv2 := fun (q : Zh) => [(1, zrv G.2.1 r2)]) (st2 := fun _ => []) (h2 := fun (q : Zh) => q) (fun q => ?_) (fun F8 kF8 => ?_)
  · obtain ⟨h7, e0⟩ : ∃ z, z = q := ⟨_, rfl⟩
    subst e0
    try dsimp only
    refine z_iconst (v := 5) dX5_flower_51 (by decide) ?_
    refine z_newO dX5_flower_52 zkl3 zw69 zw366 zw50 (by decide +kernel) (fun r17 h18 => ?_)
    try dsimp only
    refine z_dup dX5_flower_55 (zcat1 _ _) ?_
    refine z_iconst (v := 3) dX5_flower_56 (by decide) ?_
    refine z_bipush (v := -3) dX5_flower_57 (by decide) ?_
    refine z_aload_n (j := 0) dX5_flower_59 rfl rfl ?_
    refine z_ob (fun p19 ep19 lp19 kp19 => ?_)
    refine z_callI (As := [.int (3 : Int32), .int (-3 : Int32), zrv G.2.1 r2]) (rest := [zrv G.2.1 r17, .int (5 : Int32)]) (h2 := fun (x : Zh) => x) dX5_flower_60 vX2_init (.inr ⟨_, zw367⟩) (by decide) rfl (by rw [ep19]; rfl) (by simp [zcat1, zcI, zcJ]) (fun x hx => kX2_init G h18 (some p19) (3 : Int32) (-3 : Int32) r2 hx) (fun h20 => ?_)
    try dsimp only [Option.toList, List.cons_append, List.nil_append]
    refine z_callS (As := []) (rest := [zrv G.2.1 r17, .int (5 : Int32)]) (rv2 := fun (x : Option Nat × Zh) => some (zrv G.2.1 x.1)) (h2 := fun (x : Option Nat × Zh) => x.2) dX5_flower_63 vX5_silence (.inl zw363) (by decide) rfl rfl (by simp [zcat1, zcI, zcJ]) (fun x hx => kX5_silence G h20 hx) (fun x => ?_)
    obtain ⟨r21, h22⟩ := x
    try dsimp only [Option.toList, List.cons_append, List.nil_append]
    refine z_callS (As := [.int (5 : Int32), zrv G.2.1 r17, zrv G.2.1 r21]) (rest := []) (rv2 := fun (x : Option Nat × Zh) => some (zrv G.2.1 x.1)) (h2 := fun (x : Option Nat × Zh) => x.2) dX5_flower_66 vX5_two (.inl zw421) (by decide) rfl rfl (by decide) (fun x hx => kX5_two G h22 (5 : Int32) r17 r21 hx) (fun x => ?_)
    obtain ⟨r23, h24⟩ := x
    try dsimp only [Option.toList, List.cons_append, List.nil_append]
    exact z_aret (b := G.2.1) (r := r23) dX5_flower_69 rfl (.inl ⟨_, rfl⟩) rfl rfl
  · refine z_loop (lvf := fun (q : Int32 × Int32 × Zh) => [(0, .int a1), (1, zrv G.2.1 r2), (2, .int q.1), (3, .int q.2.1)]) (hf2 := fun (q : Int32 × Int32 × Zh) => q.2.2) (s0 := ((0 : Int32), (0 : Int32), h3)) (fun K9 bK9 rK9 q => ?_)
    obtain ⟨v4, v5, h6⟩ := q
    try dsimp only
    refine z_iload_n (j := 3) dX5_flower_12 rfl rfl ?_
    refine z_bipush (v := 12) dX5_flower_13 (by decide) ?_
    refine z_itb ?_
    refine z_icmp_ge (tgt := 51) dX5_flower_15 (by decide) (fun _ => ?_) (fun _ => ?_)
    · refine z_sb ?_
      refine z_eq (rK9 _) ?_
      refine z_at [1] rfl ?_
      exact kF8 h6
    · refine z_iload_n (j := 0) dX5_flower_18 rfl rfl ?_
      refine z_iconst (v := 1) dX5_flower_19 (by decide) ?_
      refine z_iload_n (j := 3) dX5_flower_20 rfl rfl ?_
      refine z_ishl dX5_flower_21 ?_
      refine z_iand dX5_flower_22 ?_
      refine z_as ?_
      refine z_join (pc2 := 45) (lv2 := fun (q : Int32 × Zh) => [(0, .int a1), (1, zrv G.2.1 r2), (2, .int q.1), (3, .int v5)]) (st2 := fun (q : Int32 × Zh) => []) (h2 := fun (q : Int32 × Zh) => q.2) (fun q => ?_) (fun F12 kF12 => ?_)
      · obtain ⟨v10, h11⟩ := q
        try dsimp only
        refine z_iinc (j := 3) (v := v5 + (1 : Int32)) (lv' := [(3, .int (v5 + (1 : Int32))), (0, .int a1), (1, zrv G.2.1 r2), (2, .int v10)]) dX5_flower_45 rfl rfl (by decide) rfl ?_
        refine z_goto (tgt := 12) dX5_flower_48 (by decide) ?_
        refine z_sb ?_
        refine z_at [1, 2, 3, 0] rfl ?_
        exact bK9 (v10, v5 + (1 : Int32), h11)
      · refine z_itb ?_
        refine z_if_eq (tgt := 45) dX5_flower_23 (by decide) (fun _ => ?_) (fun _ => ?_)
        · refine z_sb ?_
          refine z_at [0, 1, 2, 3] rfl ?_
          exact kF12 (v4, h6)
        · refine z_iload_n (j := 2) dX5_flower_26 rfl rfl ?_
          refine z_aload_n (j := 1) dX5_flower_27 rfl rfl ?_
          refine z_as ?_
          refine z_alen dX5_flower_28 (by decide) (fun x13 => ?_)
          refine z_itb ?_
          refine z_icmp_lt (tgt := 35) dX5_flower_29 (by decide) (fun _ => ?_) (fun _ => ?_)
          · refine z_aload_n (j := 1) dX5_flower_35 rfl rfl ?_
            refine z_iload_n (j := 2) dX5_flower_36 rfl rfl ?_
            refine z_iload_n (j := 3) dX5_flower_37 rfl rfl ?_
            refine z_as ?_
            refine z_callS (As := [.int v5]) (rest := [.int v4, zrv G.2.1 r2]) (rv2 := fun (x : Option Nat × Zh) => some (zrv G.2.1 x.1)) (h2 := fun (x : Option Nat × Zh) => x.2) dX5_flower_38 vX5_deedOf (.inl zw407) (by decide) rfl rfl (by simp [zcat1, zcI, zcJ]) (fun x hx => kX5_deedOf G h6 v5 hx) (fun x => ?_)
            obtain ⟨r14, h15⟩ := x
            try dsimp only [Option.toList, List.cons_append, List.nil_append]
            refine z_as ?_
            refine z_aast dX5_flower_41 (by decide) (by decide) zkl3 rfl (fun h16 => ?_)
            refine z_iinc (j := 2) (v := v4 + (1 : Int32)) (lv' := [(2, .int (v4 + (1 : Int32))), (0, .int a1), (1, zrv G.2.1 r2), (3, .int v5)]) dX5_flower_42 rfl rfl (by decide) (by simp [zcat1, zcI, zcJ]) ?_
            refine z_sb ?_
            refine z_at [1, 2, 0, 3] rfl ?_
            exact kF12 (v4 + (1 : Int32), h16)
          · refine z_goto (tgt := 45) dX5_flower_32 (by decide) ?_
            refine z_sb ?_
            refine z_at [0, 1, 2, 3] rfl ?_
            exact kF12 (v4, h6)
def fX5_foundOfFull (rc : (Zh → Option Nat → Int32 → Option (Option Nat × Zh))) (h : Zh) (a1 : Option Nat) (a2 : Int32) : Option (Option Nat × Zh) :=
  if a2 < 0 then
    (fX5_silence h).bind fun ((r1, h2) : Option Nat × Zh) =>
    some (r1, h2)
  else
    (zaL h a1 4).bind fun x3 =>
    if a2 < x3 then
      (zaP h a1 4 a2).bind fun r4 =>
      (zob h r4 5).bind fun p5 =>
      (fX3_look h (some p5)).bind fun h6 =>
      (zfI h6 r4 4 2).bind fun x7 =>
      (fJ6_bitCount_0f7a4 h6 x7).bind fun x8 =>
      if x8 = (1 : Int32) then
        (fX5_foundOfOneName h6 r4).bind fun ((r9, h10) : Option Nat × Zh) =>
        some (r9, h10)
      else
        (zob h6 r4 5).bind fun p11 =>
        (fX3_cutsTo h6 (some p11)).bind fun ((x12, h13) : Int32 × Zh) =>
        if x12 = (-3 : Int32) then
          (zfI h13 r4 4 2).bind fun x14 =>
          (fX5_flower h13 x14).bind fun ((r15, h16) : Option Nat × Zh) =>
          some (r15, h16)
        else
          (zaL h13 a1 4).bind fun x17 =>
          if (a2 + (1 : Int32)) < x17 then
            (zfI h13 r4 4 10).bind fun x18 =>
            (zmA h13 3 x18).bind fun ((r19, h20) : Option Nat × Zh) =>
            (zloop (fun ((v21, h22) : Int32 × Zh) =>
              ((zaL h22 r19 3).bind fun x26 =>
              if x26 ≤ v21 then
                some (.inr h22)
              else
                (zaP h22 a1 4 (a2 + (1 : Int32))).bind fun r27 =>
                (zfP h22 r4 4 9).bind fun r28 =>
                (zaI h22 r28 v21).bind fun x29 =>
                (zob h22 r27 5).bind fun p30 =>
                (fX3_takeFrom h22 (some p30) r4 x29 x12).bind fun h31 =>
                (rc h31 a1 (a2 + (1 : Int32))).bind fun ((r32, h33) : Option Nat × Zh) =>
                (zbP h33 r19 3 3 v21 r32).bind fun h34 =>
                some (.inl (v21 + (1 : Int32), h34)) : Option ((Int32 × Zh) ⊕ Zh))) zFU ((0 : Int32), h20)).bind fun (h23 : Zh) =>
            (zmO h23 3 7).bind fun ((r35, h36) : Option Nat × Zh) =>
            (zob h36 r35 4).bind fun p37 =>
            (fX2_init h36 (some p37) x12 (-3 : Int32) r19).bind fun h38 =>
            some (r35, h38)
          else
            (zfI h13 r4 4 2).bind fun x39 =>
            (fX5_flower h13 x39).bind fun ((r40, h41) : Option Nat × Zh) =>
            some (r40, h41)
    else
      (fX5_silence h).bind fun ((r42, h43) : Option Nat × Zh) =>
      some (r42, h43)
set_option maxRecDepth 100000 in
set_option maxHeartbeats 4000000 in
theorem kX5_foundOfFull (G : Zg) (rc : (Zh → Option Nat → Int32 → Option (Option Nat × Zh))) (d : Nat) (hrec : ∀ (h : Zh) (a1 : Option Nat) (a2 : Int32) {x : Option Nat × Zh}, rc h a1 a2 = some x → zCt G yX5_found cX5_found 5 (Option.some (Jvm.ClassFile.FieldType.object "TrailFinder$Piece")) d [zrv G.2.1 a1, .int a2] h (some (zrv G.2.1 x.1)) x.2) (hd0 : 4 ≤ d) (h : Zh) (a1 : Option Nat) (a2 : Int32) {x : Option Nat × Zh} (hx : fX5_foundOfFull rc h a1 a2 = some x) : zCt G yX5_foundOfFull cX5_foundOfFull 6 (Option.some (Jvm.ClassFile.FieldType.object "TrailFinder$Piece")) (d + 1) [zrv G.2.1 a1, .int a2] h (some (zrv G.2.1 x.1)) x.2 := by
  refine z_met (a := x) (rvf := fun (x : Option Nat × Zh) => some (zrv G.2.1 x.1)) (hff := fun (x : Option Nat × Zh) => x.2) (lv := [(0, zrv G.2.1 a1), (1, .int a2)]) (by decide +kernel) (by simp [lg_sl, zcat1, zcI, zcJ]) (by simp [lv_args, zcat1, zcI, zcJ]) ?_ hx
  unfold fX5_foundOfFull
  refine z_iload_n (j := 1) dX5_foundOfFull_0 rfl rfl ?_
  refine z_if_lt (tgt := 10) dX5_foundOfFull_1 (by decide) (fun _ => ?_) (fun _ => ?_)
  · refine z_callS (As := []) (rest := []) (rv2 := fun (x : Option Nat × Zh) => some (zrv G.2.1 x.1)) (h2 := fun (x : Option Nat × Zh) => x.2) dX5_foundOfFull_10 vX5_silence (.inl zw363) (by omega) rfl rfl (by decide) (fun x hx => kX5_silence G h hx) (fun x => ?_)
    obtain ⟨r1, h2⟩ := x
    try dsimp only [Option.toList, List.cons_append, List.nil_append]
    exact z_aret (b := G.2.1) (r := r1) dX5_foundOfFull_13 rfl (.inl ⟨_, rfl⟩) rfl rfl
  · refine z_iload_n (j := 1) dX5_foundOfFull_4 rfl rfl ?_
    refine z_aload_n (j := 0) dX5_foundOfFull_5 rfl rfl ?_
    refine z_alen dX5_foundOfFull_6 (by decide) (fun x3 => ?_)
    refine z_icmp_lt (tgt := 14) dX5_foundOfFull_7 (by decide) (fun _ => ?_) (fun _ => ?_)
    · refine z_aload_n (j := 0) dX5_foundOfFull_14 rfl rfl ?_
      refine z_iload_n (j := 1) dX5_foundOfFull_15 rfl rfl ?_
      refine z_aald dX5_foundOfFull_16 (by decide) (by decide) (fun r4 => ?_)
      refine z_astore_n (i := 2) (lv' := [(2, zrv G.2.1 r4), (0, zrv G.2.1 a1), (1, .int a2)]) dX5_foundOfFull_17 rfl (by decide) rfl ?_
      refine z_aload_n (j := 0) dX5_foundOfFull_18 rfl rfl ?_
      refine z_ob (fun p5 ep5 lp5 kp5 => ?_)
      refine z_callV (As := []) (rest := []) (rv2 := fun (_ : Zh) => none) (h2 := fun (x : Zh) => x) dX5_foundOfFull_19 vX3_look (.inr ⟨_, zw563⟩) (by omega) zkl4 lp5 kp5 rfl (by rw [ep5]; rfl) (by decide) (fun x hx => kX3_look G h (some p5) hx) (fun h6 => ?_)
      try dsimp only [Option.toList, List.cons_append, List.nil_append]
      refine z_aload_n (j := 0) dX5_foundOfFull_22 rfl rfl ?_
      refine z_getI (k := 2) dX5_foundOfFull_23 zkl4 (by decide) rfl (.inr ⟨_, zw114⟩) (fun x7 => ?_)
      refine z_callS (As := [.int x7]) (rest := []) (rv2 := fun (x : Int32) => some (.int x)) (h2 := fun (_ : Int32) => h6) dX5_foundOfFull_26 vJ6_bitCount_0f7a4 (.inl zw575) (by omega) rfl rfl (by decide) (fun x hx => kJ6_bitCount_0f7a4 G h6 x7 hx) (fun x8 => ?_)
      try dsimp only [Option.toList, List.cons_append, List.nil_append]
      refine z_iconst (v := 1) dX5_foundOfFull_29 (by decide) ?_
      refine z_icmp_ne (tgt := 38) dX5_foundOfFull_30 (by decide) (fun _ => ?_) (fun _ => ?_)
      · refine z_aload_n (j := 0) dX5_foundOfFull_33 rfl rfl ?_
        refine z_callS (As := [zrv G.2.1 r4]) (rest := []) (rv2 := fun (x : Option Nat × Zh) => some (zrv G.2.1 x.1)) (h2 := fun (x : Option Nat × Zh) => x.2) dX5_foundOfFull_34 vX5_foundOfOneName (.inl zw576) (by omega) rfl rfl (by decide) (fun x hx => kX5_foundOfOneName G h6 r4 hx) (fun x => ?_)
        obtain ⟨r9, h10⟩ := x
        try dsimp only [Option.toList, List.cons_append, List.nil_append]
        exact z_aret (b := G.2.1) (r := r9) dX5_foundOfFull_37 rfl (.inl ⟨_, rfl⟩) rfl rfl
      · refine z_aload_n (j := 0) dX5_foundOfFull_38 rfl rfl ?_
        refine z_ob (fun p11 ep11 lp11 kp11 => ?_)
        refine z_callV (As := []) (rest := []) (rv2 := fun (x : Int32 × Zh) => some (.int x.1)) (h2 := fun (x : Int32 × Zh) => x.2) dX5_foundOfFull_39 vX3_cutsTo (.inr ⟨_, zw584⟩) (by omega) zkl4 lp11 kp11 rfl (by rw [ep11]; rfl) (by decide) (fun x hx => kX3_cutsTo G h6 (some p11) hx) (fun x => ?_)
        obtain ⟨x12, h13⟩ := x
        try dsimp only [Option.toList, List.cons_append, List.nil_append]
        refine z_istore_n (i := 3) (lv' := [(3, .int x12), (2, zrv G.2.1 r4), (0, zrv G.2.1 a1), (1, .int a2)]) dX5_foundOfFull_42 rfl (by decide) (by simp [zcat1, zcI, zcJ]) ?_
        refine z_iload_n (j := 0) dX5_foundOfFull_43 rfl rfl ?_
        refine z_bipush (v := -3) dX5_foundOfFull_44 (by decide) ?_
        refine z_icmp_eq (tgt := 57) dX5_foundOfFull_46 (by decide) (fun _ => ?_) (fun _ => ?_)
        · refine z_aload_n (j := 1) dX5_foundOfFull_57 rfl rfl ?_
          refine z_getI (k := 2) dX5_foundOfFull_58 zkl4 (by decide) rfl (.inr ⟨_, zw114⟩) (fun x14 => ?_)
          refine z_callS (As := [.int x14]) (rest := []) (rv2 := fun (x : Option Nat × Zh) => some (zrv G.2.1 x.1)) (h2 := fun (x : Option Nat × Zh) => x.2) dX5_foundOfFull_61 vX5_flower (.inl zw630) (by omega) rfl rfl (by decide) (fun x hx => kX5_flower G h13 x14 hx) (fun x => ?_)
          obtain ⟨r15, h16⟩ := x
          try dsimp only [Option.toList, List.cons_append, List.nil_append]
          exact z_aret (b := G.2.1) (r := r15) dX5_foundOfFull_64 rfl (.inl ⟨_, rfl⟩) rfl rfl
        · refine z_iload_n (j := 3) dX5_foundOfFull_49 rfl rfl ?_
          refine z_iconst (v := 1) dX5_foundOfFull_50 (by decide) ?_
          refine z_iadd dX5_foundOfFull_51 ?_
          refine z_aload_n (j := 2) dX5_foundOfFull_52 rfl rfl ?_
          refine z_alen dX5_foundOfFull_53 (by decide) (fun x17 => ?_)
          refine z_icmp_lt (tgt := 65) dX5_foundOfFull_54 (by decide) (fun _ => ?_) (fun _ => ?_)
          · refine z_aload_n (j := 1) dX5_foundOfFull_65 rfl rfl ?_
            refine z_getI (k := 10) dX5_foundOfFull_66 zkl4 (by decide) rfl (.inr ⟨_, zw124⟩) (fun x18 => ?_)
            refine z_newQ (t := 3) dX5_foundOfFull_69 (by decide) (by decide) rfl zw69 (fun r19 h20 => ?_)
            try dsimp only
            refine z_astore (i := 4) (lv' := [(4, zrv G.2.1 r19), (3, .int x12), (2, zrv G.2.1 r4), (0, zrv G.2.1 a1), (1, .int a2)]) dX5_foundOfFull_72 (by decide) rfl ?_
            refine z_iconst (v := 0) dX5_foundOfFull_74 (by decide) ?_
            refine z_istore (i := 5) (lv' := [(5, .int (0 : Int32)), (4, zrv G.2.1 r19), (3, .int x12), (2, zrv G.2.1 r4), (0, zrv G.2.1 a1), (1, .int a2)]) dX5_foundOfFull_75 (by decide) (by simp [zcat1, zcI, zcJ]) ?_
            refine z_at [4, 5, 3, 2, 1, 0] rfl ?_
            refine z_join (pc2 := 120) (lv2 := fun (q : Zh) => [(3, .int x12), (4, zrv G.2.1 r19)]) (st2 := fun _ => []) (h2 := fun (q : Zh) => q) (fun q => ?_) (fun F24 kF24 => ?_)
            · obtain ⟨h23, e0⟩ : ∃ z, z = q := ⟨_, rfl⟩
              subst e0
              try dsimp only
              refine z_newO dX5_foundOfFull_120 zkl3 zw69 zw366 zw50 (by decide +kernel) (fun r35 h36 => ?_)
              try dsimp only
              refine z_dup dX5_foundOfFull_123 (zcat1 _ _) ?_
              refine z_iload_n (j := 0) dX5_foundOfFull_124 rfl rfl ?_
              refine z_bipush (v := -3) dX5_foundOfFull_125 (by decide) ?_
              refine z_aload (j := 1) dX5_foundOfFull_127 rfl ?_
              refine z_ob (fun p37 ep37 lp37 kp37 => ?_)
              refine z_callI (As := [.int x12, .int (-3 : Int32), zrv G.2.1 r19]) (rest := [zrv G.2.1 r35]) (h2 := fun (x : Zh) => x) dX5_foundOfFull_129 vX2_init (.inr ⟨_, zw367⟩) (by omega) rfl (by rw [ep37]; rfl) (by simp [zcat1, zcI, zcJ]) (fun x hx => kX2_init G h36 (some p37) x12 (-3 : Int32) r19 hx) (fun h38 => ?_)
              try dsimp only [Option.toList, List.cons_append, List.nil_append]
              exact z_aret (b := G.2.1) (r := r35) dX5_foundOfFull_132 rfl (.inl ⟨_, rfl⟩) rfl rfl
            · refine z_loop (lvf := fun (q : Int32 × Zh) => [(0, zrv G.2.1 a1), (1, .int a2), (2, zrv G.2.1 r4), (3, .int x12), (4, zrv G.2.1 r19), (5, .int q.1)]) (hf2 := fun (q : Int32 × Zh) => q.2) (s0 := ((0 : Int32), h20)) (fun K25 bK25 rK25 q => ?_)
              obtain ⟨v21, h22⟩ := q
              try dsimp only
              refine z_iload (j := 5) dX5_foundOfFull_77 rfl ?_
              refine z_aload (j := 4) dX5_foundOfFull_79 rfl ?_
              refine z_as ?_
              refine z_alen dX5_foundOfFull_81 (by decide) (fun x26 => ?_)
              refine z_itb ?_
              refine z_icmp_ge (tgt := 120) dX5_foundOfFull_82 (by decide) (fun _ => ?_) (fun _ => ?_)
              · refine z_sb ?_
                refine z_eq (rK25 _) ?_
                refine z_at [3, 4] rfl ?_
                exact kF24 h22
              · refine z_aload_n (j := 0) dX5_foundOfFull_85 rfl rfl ?_
                refine z_iload_n (j := 1) dX5_foundOfFull_86 rfl rfl ?_
                refine z_iconst (v := 1) dX5_foundOfFull_87 (by decide) ?_
                refine z_iadd dX5_foundOfFull_88 ?_
                refine z_as ?_
                refine z_aald dX5_foundOfFull_89 (by decide) (by decide) (fun r27 => ?_)
                refine z_aload_n (j := 2) dX5_foundOfFull_90 rfl rfl ?_
                refine z_aload_n (j := 2) dX5_foundOfFull_91 rfl rfl ?_
                refine z_as ?_
                refine z_getP (k := 9) dX5_foundOfFull_92 zkl4 (by decide) rfl (.inr ⟨_, zw122⟩) (fun r28 => ?_)
                refine z_iload (j := 5) dX5_foundOfFull_95 rfl ?_
                refine z_as ?_
                refine z_iald dX5_foundOfFull_97 (fun x29 => ?_)
                refine z_iload_n (j := 3) dX5_foundOfFull_98 rfl rfl ?_
                refine z_as ?_
                refine z_ob (fun p30 ep30 lp30 kp30 => ?_)
                refine z_as ?_
                refine z_callV (As := [zrv G.2.1 r4, .int x29, .int x12]) (rest := []) (rv2 := fun (_ : Zh) => none) (h2 := fun (x : Zh) => x) dX5_foundOfFull_99 vX3_takeFrom (.inr ⟨_, zw633⟩) (by omega) zkl4 lp30 kp30 rfl (by rw [ep30]; rfl) (by decide) (fun x hx => kX3_takeFrom G h22 (some p30) r4 x29 x12 hx) (fun h31 => ?_)
                try dsimp only [Option.toList, List.cons_append, List.nil_append]
                refine z_aload (j := 4) dX5_foundOfFull_102 rfl ?_
                refine z_iload (j := 5) dX5_foundOfFull_104 rfl ?_
                refine z_aload_n (j := 0) dX5_foundOfFull_106 rfl rfl ?_
                refine z_iload_n (j := 1) dX5_foundOfFull_107 rfl rfl ?_
                refine z_iconst (v := 1) dX5_foundOfFull_108 (by decide) ?_
                refine z_iadd dX5_foundOfFull_109 ?_
                refine z_as ?_
                refine z_callS (As := [zrv G.2.1 a1, .int (a2 + (1 : Int32))]) (rest := [.int v21, zrv G.2.1 r19]) (rv2 := fun (x : Option Nat × Zh) => some (zrv G.2.1 x.1)) (h2 := fun (x : Option Nat × Zh) => x.2) dX5_foundOfFull_110 vX5_found (.inl zw552) (by omega) rfl rfl (by simp [zcat1, zcI, zcJ]) (fun x hx => hrec h31 a1 (a2 + (1 : Int32)) hx) (fun x => ?_)
                obtain ⟨r32, h33⟩ := x
                try dsimp only [Option.toList, List.cons_append, List.nil_append]
                refine z_as ?_
                refine z_aast dX5_foundOfFull_113 (by decide) (by decide) zkl3 rfl (fun h34 => ?_)
                refine z_iinc (j := 5) (v := v21 + (1 : Int32)) (lv' := [(5, .int (v21 + (1 : Int32))), (0, zrv G.2.1 a1), (1, .int a2), (2, zrv G.2.1 r4), (3, .int x12), (4, zrv G.2.1 r19)]) dX5_foundOfFull_114 rfl rfl (by decide) (by simp [zcat1, zcI, zcJ]) ?_
                refine z_goto (tgt := 77) dX5_foundOfFull_117 (by decide) ?_
                refine z_sb ?_
                refine z_at [1, 2, 3, 4, 5, 0] rfl ?_
                exact bK25 (v21 + (1 : Int32), h34)
          · refine z_aload_n (j := 1) dX5_foundOfFull_57 rfl rfl ?_
            refine z_getI (k := 2) dX5_foundOfFull_58 zkl4 (by decide) rfl (.inr ⟨_, zw114⟩) (fun x39 => ?_)
            refine z_callS (As := [.int x39]) (rest := []) (rv2 := fun (x : Option Nat × Zh) => some (zrv G.2.1 x.1)) (h2 := fun (x : Option Nat × Zh) => x.2) dX5_foundOfFull_61 vX5_flower (.inl zw630) (by omega) rfl rfl (by decide) (fun x hx => kX5_flower G h13 x39 hx) (fun x => ?_)
            obtain ⟨r40, h41⟩ := x
            try dsimp only [Option.toList, List.cons_append, List.nil_append]
            exact z_aret (b := G.2.1) (r := r40) dX5_foundOfFull_64 rfl (.inl ⟨_, rfl⟩) rfl rfl
    · refine z_callS (As := []) (rest := []) (rv2 := fun (x : Option Nat × Zh) => some (zrv G.2.1 x.1)) (h2 := fun (x : Option Nat × Zh) => x.2) dX5_foundOfFull_10 vX5_silence (.inl zw363) (by omega) rfl rfl (by decide) (fun x hx => kX5_silence G h hx) (fun x => ?_)
      obtain ⟨r42, h43⟩ := x
      try dsimp only [Option.toList, List.cons_append, List.nil_append]
      exact z_aret (b := G.2.1) (r := r42) dX5_foundOfFull_13 rfl (.inl ⟨_, rfl⟩) rfl rfl
def fX5_foundB (rc : (Zh → Option Nat → Int32 → Option (Option Nat × Zh))) (h : Zh) (a1 : Option Nat) (a2 : Int32) : Option (Option Nat × Zh) :=
  if a2 < 0 then
    (fX5_silence h).bind fun ((r1, h2) : Option Nat × Zh) =>
    some (r1, h2)
  else
    (zaL h a1 4).bind fun x3 =>
    if a2 < x3 then
      (zaP h a1 4 a2).bind fun r4 =>
      (zfI h r4 4 1).bind fun x5 =>
      (zob h r4 5).bind fun p6 =>
      (fX3_leaveOutEmpty h (some p6)).bind fun h7 =>
      (zfI h7 r4 4 1).bind fun x8 =>
      if x8 = 0 then
        (fX5_silence h7).bind fun ((r9, h10) : Option Nat × Zh) =>
        some (r9, h10)
      else
        (fX5_foundOfFull rc h7 a1 a2).bind fun ((r11, h12) : Option Nat × Zh) =>
        (zfI h12 r4 4 1).bind fun x13 =>
        (if x5 ≤ x13 then
          some (r11, h12)
        else
          (fX5_silence h12).bind fun ((r17, h18) : Option Nat × Zh) =>
          (fX5_two h18 (3 : Int32) r17 r11).bind fun ((r19, h20) : Option Nat × Zh) =>
          some (r19, h20)).bind fun ((v14, h15) : Option Nat × Zh) =>
        some (v14, h15)
    else
      (fX5_silence h).bind fun ((r21, h22) : Option Nat × Zh) =>
      some (r21, h22)
set_option maxRecDepth 100000 in
set_option maxHeartbeats 4000000 in
theorem kX5_foundB (G : Zg) (rc : (Zh → Option Nat → Int32 → Option (Option Nat × Zh))) (d : Nat) (hrec : ∀ (h : Zh) (a1 : Option Nat) (a2 : Int32) {x : Option Nat × Zh}, rc h a1 a2 = some x → zCt G yX5_found cX5_found 5 (Option.some (Jvm.ClassFile.FieldType.object "TrailFinder$Piece")) d [zrv G.2.1 a1, .int a2] h (some (zrv G.2.1 x.1)) x.2) (hd0 : 4 ≤ d) (h : Zh) (a1 : Option Nat) (a2 : Int32) {x : Option Nat × Zh} (hx : fX5_foundB rc h a1 a2 = some x) : zCt G yX5_found cX5_found 5 (Option.some (Jvm.ClassFile.FieldType.object "TrailFinder$Piece")) (d + 2) [zrv G.2.1 a1, .int a2] h (some (zrv G.2.1 x.1)) x.2 := by
  refine z_met (a := x) (rvf := fun (x : Option Nat × Zh) => some (zrv G.2.1 x.1)) (hff := fun (x : Option Nat × Zh) => x.2) (lv := [(0, zrv G.2.1 a1), (1, .int a2)]) (by decide +kernel) (by simp [lg_sl, zcat1, zcI, zcJ]) (by simp [lv_args, zcat1, zcI, zcJ]) ?_ hx
  unfold fX5_foundB
  refine z_iload_n (j := 1) dX5_found_0 rfl rfl ?_
  refine z_if_lt (tgt := 10) dX5_found_1 (by decide) (fun _ => ?_) (fun _ => ?_)
  · refine z_callS (As := []) (rest := []) (rv2 := fun (x : Option Nat × Zh) => some (zrv G.2.1 x.1)) (h2 := fun (x : Option Nat × Zh) => x.2) dX5_found_10 vX5_silence (.inl zw363) (by omega) rfl rfl (by decide) (fun x hx => kX5_silence G h hx) (fun x => ?_)
    obtain ⟨r1, h2⟩ := x
    try dsimp only [Option.toList, List.cons_append, List.nil_append]
    exact z_aret (b := G.2.1) (r := r1) dX5_found_13 rfl (.inl ⟨_, rfl⟩) rfl rfl
  · refine z_iload_n (j := 1) dX5_found_4 rfl rfl ?_
    refine z_aload_n (j := 0) dX5_found_5 rfl rfl ?_
    refine z_alen dX5_found_6 (by decide) (fun x3 => ?_)
    refine z_icmp_lt (tgt := 14) dX5_found_7 (by decide) (fun _ => ?_) (fun _ => ?_)
    · refine z_aload_n (j := 0) dX5_found_14 rfl rfl ?_
      refine z_iload_n (j := 1) dX5_found_15 rfl rfl ?_
      refine z_aald dX5_found_16 (by decide) (by decide) (fun r4 => ?_)
      refine z_astore_n (i := 2) (lv' := [(2, zrv G.2.1 r4), (0, zrv G.2.1 a1), (1, .int a2)]) dX5_found_17 rfl (by decide) rfl ?_
      refine z_aload_n (j := 0) dX5_found_18 rfl rfl ?_
      refine z_getI (k := 1) dX5_found_19 zkl4 (by decide) rfl (.inr ⟨_, zw112⟩) (fun x5 => ?_)
      refine z_istore_n (i := 3) (lv' := [(3, .int x5), (2, zrv G.2.1 r4), (0, zrv G.2.1 a1), (1, .int a2)]) dX5_found_22 rfl (by decide) (by simp [zcat1, zcI, zcJ]) ?_
      refine z_aload_n (j := 1) dX5_found_23 rfl rfl ?_
      refine z_ob (fun p6 ep6 lp6 kp6 => ?_)
      refine z_callV (As := []) (rest := []) (rv2 := fun (_ : Zh) => none) (h2 := fun (x : Zh) => x) dX5_found_24 vX3_leaveOutEmpty (.inr ⟨_, zw555⟩) (by omega) zkl4 lp6 kp6 rfl (by rw [ep6]; rfl) (by decide) (fun x hx => kX3_leaveOutEmpty G h (some p6) hx) (fun h7 => ?_)
      try dsimp only [Option.toList, List.cons_append, List.nil_append]
      refine z_aload_n (j := 1) dX5_found_27 rfl rfl ?_
      refine z_getI (k := 1) dX5_found_28 zkl4 (by decide) rfl (.inr ⟨_, zw112⟩) (fun x8 => ?_)
      refine z_if_ne (tgt := 38) dX5_found_31 (by decide) (fun _ => ?_) (fun _ => ?_)
      · refine z_callS (As := []) (rest := []) (rv2 := fun (x : Option Nat × Zh) => some (zrv G.2.1 x.1)) (h2 := fun (x : Option Nat × Zh) => x.2) dX5_found_34 vX5_silence (.inl zw363) (by omega) rfl rfl (by decide) (fun x hx => kX5_silence G h7 hx) (fun x => ?_)
        obtain ⟨r9, h10⟩ := x
        try dsimp only [Option.toList, List.cons_append, List.nil_append]
        exact z_aret (b := G.2.1) (r := r9) dX5_found_37 rfl (.inl ⟨_, rfl⟩) rfl rfl
      · refine z_aload_n (j := 2) dX5_found_38 rfl rfl ?_
        refine z_iload_n (j := 3) dX5_found_39 rfl rfl ?_
        refine z_callS (As := [zrv G.2.1 a1, .int a2]) (rest := []) (rv2 := fun (x : Option Nat × Zh) => some (zrv G.2.1 x.1)) (h2 := fun (x : Option Nat × Zh) => x.2) dX5_found_40 vX5_foundOfFull (.inl zw560) (by omega) rfl rfl (by decide) (fun x hx => kX5_foundOfFull G rc d hrec (by omega) h7 a1 a2 hx) (fun x => ?_)
        obtain ⟨r11, h12⟩ := x
        try dsimp only [Option.toList, List.cons_append, List.nil_append]
        refine z_astore (i := 4) (lv' := [(4, zrv G.2.1 r11), (3, .int x5), (2, zrv G.2.1 r4), (0, zrv G.2.1 a1), (1, .int a2)]) dX5_found_43 (by decide) rfl ?_
        refine z_aload_n (j := 2) dX5_found_45 rfl rfl ?_
        refine z_getI (k := 1) dX5_found_46 zkl4 (by decide) rfl (.inr ⟨_, zw112⟩) (fun x13 => ?_)
        refine z_iload_n (j := 1) dX5_found_49 rfl rfl ?_
        refine z_join (pc2 := 67) (lv2 := fun (q : Option Nat × Zh) => []) (st2 := fun (q : Option Nat × Zh) => [zrv G.2.1 q.1]) (h2 := fun (q : Option Nat × Zh) => q.2) (fun q => ?_) (fun F16 kF16 => ?_)
        · obtain ⟨v14, h15⟩ := q
          try dsimp only
          exact z_aret (b := G.2.1) (r := v14) dX5_found_67 rfl (.inl ⟨_, rfl⟩) rfl rfl
        · refine z_itb ?_
          refine z_icmp_ge (tgt := 65) dX5_found_50 (by decide) (fun _ => ?_) (fun _ => ?_)
          · refine z_aload (j := 0) dX5_found_65 rfl ?_
            refine z_sb ?_
            refine z_at [] rfl ?_
            exact kF16 (r11, h12)
          · refine z_iconst (v := 3) dX5_found_53 (by decide) ?_
            refine z_as ?_
            refine z_callS (As := []) (rest := [.int (3 : Int32)]) (rv2 := fun (x : Option Nat × Zh) => some (zrv G.2.1 x.1)) (h2 := fun (x : Option Nat × Zh) => x.2) dX5_found_54 vX5_silence (.inl zw363) (by omega) rfl rfl (by simp [zcat1, zcI, zcJ]) (fun x hx => kX5_silence G h12 hx) (fun x => ?_)
            obtain ⟨r17, h18⟩ := x
            try dsimp only [Option.toList, List.cons_append, List.nil_append]
            refine z_aload (j := 0) dX5_found_57 rfl ?_
            refine z_as ?_
            refine z_callS (As := [.int (3 : Int32), zrv G.2.1 r17, zrv G.2.1 r11]) (rest := []) (rv2 := fun (x : Option Nat × Zh) => some (zrv G.2.1 x.1)) (h2 := fun (x : Option Nat × Zh) => x.2) dX5_found_59 vX5_two (.inl zw421) (by omega) rfl rfl (by decide) (fun x hx => kX5_two G h18 (3 : Int32) r17 r11 hx) (fun x => ?_)
            obtain ⟨r19, h20⟩ := x
            try dsimp only [Option.toList, List.cons_append, List.nil_append]
            refine z_goto (tgt := 67) dX5_found_62 (by decide) ?_
            refine z_sb ?_
            refine z_at [] rfl ?_
            exact kF16 (r19, h20)
    · refine z_callS (As := []) (rest := []) (rv2 := fun (x : Option Nat × Zh) => some (zrv G.2.1 x.1)) (h2 := fun (x : Option Nat × Zh) => x.2) dX5_found_10 vX5_silence (.inl zw363) (by omega) rfl rfl (by decide) (fun x hx => kX5_silence G h hx) (fun x => ?_)
      obtain ⟨r21, h22⟩ := x
      try dsimp only [Option.toList, List.cons_append, List.nil_append]
      exact z_aret (b := G.2.1) (r := r21) dX5_found_13 rfl (.inl ⟨_, rfl⟩) rfl rfl
def fX5_found : Nat → (Zh → Option Nat → Int32 → Option (Option Nat × Zh))
  | 0 => fun _ _ _ => none
  | n + 1 => fX5_foundB (fX5_found n)
theorem kX5_found (G : Zg) (n : Nat) (h : Zh) (a1 : Option Nat) (a2 : Int32) {x : Option Nat × Zh} (hx : fX5_found n h a1 a2 = some x) : zCt G yX5_found cX5_found 5 (Option.some (Jvm.ClassFile.FieldType.object "TrailFinder$Piece")) (n * 2 + 4) [zrv G.2.1 a1, .int a2] h (some (zrv G.2.1 x.1)) x.2 := by
  induction n generalizing h a1 a2 x with
  | zero => cases hx
  | succ n ih =>
    have h1 := kX5_foundB G (fX5_found n) (n * 2 + 4) (fun h a1 a2 x hx => ih h a1 a2 hx) (by omega) h a1 a2 hx
    rw [show n * 2 + 4 + 2 = (n + 1) * 2 + 4 by omega] at h1
    exact h1
def fX5_find (h : Zh) (this : Option Nat) : Option (Int32 × Zh) :=
  (zfP h this 6 5).bind fun r1 =>
  (zaP h r1 4 (0 : Int32)).bind fun r2 =>
  (zgI h r2 4 1 (0 : Int32)).bind fun h3 =>
  (zloop (fun ((v4, h5) : Int32 × Zh) =>
    ((zfI h5 this 6 1).bind fun x9 =>
    if x9 ≤ v4 then
      some (.inr h5)
    else
      (zob h5 this 7).bind fun p10 =>
      (fX5_inLog h5 (some p10) v4).bind fun r11 =>
      (if r11 = none then
        some h5
      else
        (zob h5 r11 2).bind fun p14 =>
        (fX0_row h5 (some p14)).bind fun x15 =>
        (zob h5 r2 5).bind fun p16 =>
        (fX3_put h5 (some p16) x15).bind fun h17 =>
        some h17).bind fun (h12 : Zh) =>
      some (.inl (v4 + (1 : Int32), h12)) : Option ((Int32 × Zh) ⊕ Zh))) zFU ((0 : Int32), h3)).bind fun (h6 : Zh) =>
  (zfP h6 this 6 5).bind fun r18 =>
  (fX5_found 64 h6 r18 (0 : Int32)).bind fun ((r19, h20) : Option Nat × Zh) =>
  (zfI h20 r19 3 3).bind fun x21 =>
  (zob h20 this 7).bind fun p22 =>
  (fX5_keep h20 (some p22) r19 x21).bind fun ((x23, h24) : Int32 × Zh) =>
  some (x23, h24)
set_option maxRecDepth 100000 in
set_option maxHeartbeats 4000000 in
theorem kX5_find (G : Zg) (h : Zh) (this : Option Nat) {x : Int32 × Zh} (hx : fX5_find h this = some x) : zCt G yX5_find cX5_find 4 (Option.some Jvm.ClassFile.FieldType.int) 133 [zrv G.2.1 this] h (some (.int x.1)) x.2 := by
  refine z_met (a := x) (rvf := fun (x : Int32 × Zh) => some (.int x.1)) (hff := fun (x : Int32 × Zh) => x.2) (lv := [(0, zrv G.2.1 this)]) (by decide +kernel) (by simp [lg_sl, zcat1, zcI, zcJ]) (by simp [lv_args, zcat1, zcI, zcJ]) ?_ hx
  unfold fX5_find
  refine z_aload_n (j := 0) dX5_find_0 rfl rfl ?_
  refine z_getP (k := 5) dX5_find_1 zkl6 (by decide) rfl (.inl zw153) (fun r1 => ?_)
  refine z_iconst (v := 0) dX5_find_4 (by decide) ?_
  refine z_aald dX5_find_5 (by decide) (by decide) (fun r2 => ?_)
  refine z_astore_n (i := 1) (lv' := [(1, zrv G.2.1 r2), (0, zrv G.2.1 this)]) dX5_find_6 rfl (by decide) (by simp [zcat1, zcI, zcJ]) ?_
  refine z_aload_n (j := 0) dX5_find_7 rfl rfl ?_
  refine z_iconst (v := 0) dX5_find_8 (by decide) ?_
  refine z_putI (k := 1) dX5_find_9 zkl4 (by decide) (.inr ⟨_, zw112⟩) (.inl rfl) rfl rfl rfl (fun h3 => ?_)
  refine z_iconst (v := 0) dX5_find_12 (by decide) ?_
  refine z_istore_n (i := 2) (lv' := [(2, .int (0 : Int32)), (1, zrv G.2.1 r2), (0, zrv G.2.1 this)]) dX5_find_13 rfl (by decide) (by simp [zcat1, zcI, zcJ]) ?_
  refine z_at [2, 1, 0] rfl ?_
  refine z_join (pc2 := 46) (lv2 := fun (q : Zh) => [(0, zrv G.2.1 this)]) (st2 := fun _ => []) (h2 := fun (q : Zh) => q) (fun q => ?_) (fun F7 kF7 => ?_)
  · obtain ⟨h6, e0⟩ : ∃ z, z = q := ⟨_, rfl⟩
    subst e0
    try dsimp only
    refine z_aload_n (j := 0) dX5_find_46 rfl rfl ?_
    refine z_getP (k := 5) dX5_find_47 zkl6 (by decide) rfl (.inl zw153) (fun r18 => ?_)
    refine z_iconst (v := 0) dX5_find_50 (by decide) ?_
    refine z_callS (As := [zrv G.2.1 r18, .int (0 : Int32)]) (rest := []) (rv2 := fun (x : Option Nat × Zh) => some (zrv G.2.1 x.1)) (h2 := fun (x : Option Nat × Zh) => x.2) dX5_find_51 vX5_found (.inl zw552) (by decide) rfl rfl (by decide) (fun x hx => kX5_found G 64 h6 r18 (0 : Int32) hx) (fun x => ?_)
    obtain ⟨r19, h20⟩ := x
    try dsimp only [Option.toList, List.cons_append, List.nil_append]
    refine z_astore_n (i := 2) (lv' := [(2, zrv G.2.1 r19), (0, zrv G.2.1 this)]) dX5_find_54 rfl (by decide) rfl ?_
    refine z_aload_n (j := 1) dX5_find_55 rfl rfl ?_
    refine z_aload_n (j := 0) dX5_find_56 rfl rfl ?_
    refine z_aload_n (j := 0) dX5_find_57 rfl rfl ?_
    refine z_getI (k := 3) dX5_find_58 zkl3 (by decide) rfl (.inr ⟨_, zw385⟩) (fun x21 => ?_)
    refine z_ob (fun p22 ep22 lp22 kp22 => ?_)
    refine z_callV (As := [zrv G.2.1 r19, .int x21]) (rest := []) (rv2 := fun (x : Int32 × Zh) => some (.int x.1)) (h2 := fun (x : Int32 × Zh) => x.2) dX5_find_61 vX5_keep (.inl zw410) (by decide) zkl6 lp22 kp22 rfl (by rw [ep22]; rfl) (by decide) (fun x hx => kX5_keep G h20 (some p22) r19 x21 hx) (fun x => ?_)
    obtain ⟨x23, h24⟩ := x
    try dsimp only [Option.toList, List.cons_append, List.nil_append]
    exact z_iret dX5_find_64 rfl rfl rfl rfl
  · refine z_loop (lvf := fun (q : Int32 × Zh) => [(0, zrv G.2.1 this), (1, zrv G.2.1 r2), (2, .int q.1)]) (hf2 := fun (q : Int32 × Zh) => q.2) (s0 := ((0 : Int32), h3)) (fun K8 bK8 rK8 q => ?_)
    obtain ⟨v4, h5⟩ := q
    try dsimp only
    refine z_iload_n (j := 2) dX5_find_14 rfl rfl ?_
    refine z_aload_n (j := 0) dX5_find_15 rfl rfl ?_
    refine z_as ?_
    refine z_getI (k := 1) dX5_find_16 zkl6 (by decide) rfl (.inl zw149) (fun x9 => ?_)
    refine z_itb ?_
    refine z_icmp_ge (tgt := 46) dX5_find_19 (by decide) (fun _ => ?_) (fun _ => ?_)
    · refine z_sb ?_
      refine z_eq (rK8 _) ?_
      refine z_at [0] rfl ?_
      exact kF7 h5
    · refine z_aload_n (j := 0) dX5_find_22 rfl rfl ?_
      refine z_iload_n (j := 2) dX5_find_23 rfl rfl ?_
      refine z_as ?_
      refine z_ob (fun p10 ep10 lp10 kp10 => ?_)
      refine z_as ?_
      refine z_callV (As := [.int v4]) (rest := []) (rv2 := fun (x : Option Nat) => some (zrv G.2.1 x)) (h2 := fun (_ : Option Nat) => h5) dX5_find_24 vX5_inLog (.inl zw190) (by decide) zkl6 lp10 kp10 rfl (by rw [ep10]; rfl) (by decide) (fun x hx => kX5_inLog G h5 (some p10) v4 hx) (fun r11 => ?_)
      try dsimp only [Option.toList, List.cons_append, List.nil_append]
      refine z_astore_n (i := 3) (lv' := [(3, zrv G.2.1 r11), (0, zrv G.2.1 this), (1, zrv G.2.1 r2), (2, .int v4)]) dX5_find_27 rfl (by decide) rfl ?_
      refine z_aload_n (j := 0) dX5_find_28 rfl rfl ?_
      refine z_as ?_
      refine z_join (pc2 := 40) (lv2 := fun (q : Zh) => [(0, zrv G.2.1 this), (1, zrv G.2.1 r2), (2, .int v4)]) (st2 := fun (q : Zh) => []) (h2 := fun (q : Zh) => q) (fun q => ?_) (fun F13 kF13 => ?_)
      · obtain ⟨h12, e0⟩ : ∃ z, z = q := ⟨_, rfl⟩
        subst e0
        try dsimp only
        refine z_iinc (j := 2) (v := v4 + (1 : Int32)) (lv' := [(2, .int (v4 + (1 : Int32))), (0, zrv G.2.1 this), (1, zrv G.2.1 r2)]) dX5_find_40 rfl rfl (by decide) (by simp [zcat1, zcI, zcJ]) ?_
        refine z_goto (tgt := 14) dX5_find_43 (by decide) ?_
        refine z_sb ?_
        refine z_at [1, 2, 0] rfl ?_
        exact bK8 (v4 + (1 : Int32), h12)
      · refine z_itb ?_
        refine z_ifnull (tgt := 40) dX5_find_29 (by decide) (fun _ => ?_) (fun _ => ?_)
        · refine z_sb ?_
          refine z_at [1, 2, 3] rfl ?_
          exact kF13 h5
        · refine z_aload_n (j := 2) dX5_find_32 rfl rfl ?_
          refine z_aload_n (j := 0) dX5_find_33 rfl rfl ?_
          refine z_as ?_
          refine z_ob (fun p14 ep14 lp14 kp14 => ?_)
          refine z_as ?_
          refine z_callV (As := []) (rest := [zrv G.2.1 r2]) (rv2 := fun (x : Int32) => some (.int x)) (h2 := fun (_ : Int32) => h5) dX5_find_34 vX0_row (.inr ⟨_, zw297⟩) (by decide) zkl1 lp14 kp14 rfl (by rw [ep14]; rfl) (by simp [zcat1, zcI, zcJ]) (fun x hx => kX0_row G h5 (some p14) hx) (fun x15 => ?_)
          try dsimp only [Option.toList, List.cons_append, List.nil_append]
          refine z_as ?_
          refine z_ob (fun p16 ep16 lp16 kp16 => ?_)
          refine z_as ?_
          refine z_callV (As := [.int x15]) (rest := []) (rv2 := fun (_ : Zh) => none) (h2 := fun (x : Zh) => x) dX5_find_37 vX3_put (.inr ⟨_, zw548⟩) (by decide) zkl4 lp16 kp16 rfl (by rw [ep16]; rfl) (by decide) (fun x hx => kX3_put G h5 (some p16) x15 hx) (fun h17 => ?_)
          try dsimp only [Option.toList, List.cons_append, List.nil_append]
          refine z_sb ?_
          refine z_at [1, 2, 3] rfl ?_
          exact kF13 h17
def fX5_price (h : Zh) (this : Option Nat) (a1 : Int32) (a2 : Int32) : Option (Int32 × Zh) :=
  (zob h this 7).bind fun p1 =>
  (fX5_inLog h (some p1) a1).bind fun r2 =>
  (zob h this 7).bind fun p3 =>
  (fX5_pieceAt h (some p3) a2).bind fun r4 =>
  if r2 = none then
    some ((-1 : Int32), h)
  else
    if r4 = none then
      some ((-1 : Int32), h)
    else
      (zfP h this 6 4).bind fun r5 =>
      (zob h r5 3).bind fun p6 =>
      (fX1_lay h (some p6) r2 r4).bind fun h7 =>
      (zfP h7 this 6 4).bind fun r8 =>
      (zfI h7 r8 2 5).bind fun x9 =>
      some (x9, h7)
set_option maxRecDepth 100000 in
set_option maxHeartbeats 4000000 in
theorem kX5_price (G : Zg) (h : Zh) (this : Option Nat) (a1 : Int32) (a2 : Int32) {x : Int32 × Zh} (hx : fX5_price h this a1 a2 = some x) : zCt G yX5_price cX5_price 5 (Option.some Jvm.ClassFile.FieldType.int) 69 [zrv G.2.1 this, .int a1, .int a2] h (some (.int x.1)) x.2 := by
  refine z_met (a := x) (rvf := fun (x : Int32 × Zh) => some (.int x.1)) (hff := fun (x : Int32 × Zh) => x.2) (lv := [(0, zrv G.2.1 this), (1, .int a1), (2, .int a2)]) (by decide +kernel) (by simp [lg_sl, zcat1, zcI, zcJ]) (by simp [lv_args, zcat1, zcI, zcJ]) ?_ hx
  unfold fX5_price
  refine z_aload_n (j := 0) dX5_price_0 rfl rfl ?_
  refine z_iload_n (j := 1) dX5_price_1 rfl rfl ?_
  refine z_ob (fun p1 ep1 lp1 kp1 => ?_)
  refine z_callV (As := [.int a1]) (rest := []) (rv2 := fun (x : Option Nat) => some (zrv G.2.1 x)) (h2 := fun (_ : Option Nat) => h) dX5_price_2 vX5_inLog (.inl zw190) (by decide) zkl6 lp1 kp1 rfl (by rw [ep1]; rfl) (by decide) (fun x hx => kX5_inLog G h (some p1) a1 hx) (fun r2 => ?_)
  try dsimp only [Option.toList, List.cons_append, List.nil_append]
  refine z_astore_n (i := 3) (lv' := [(3, zrv G.2.1 r2), (0, zrv G.2.1 this), (1, .int a1), (2, .int a2)]) dX5_price_5 rfl (by decide) rfl ?_
  refine z_aload_n (j := 1) dX5_price_6 rfl rfl ?_
  refine z_iload_n (j := 3) dX5_price_7 rfl rfl ?_
  refine z_ob (fun p3 ep3 lp3 kp3 => ?_)
  refine z_callV (As := [.int a2]) (rest := []) (rv2 := fun (x : Option Nat) => some (zrv G.2.1 x)) (h2 := fun (_ : Option Nat) => h) dX5_price_8 vX5_pieceAt (.inl zw194) (by decide) zkl6 lp3 kp3 rfl (by rw [ep3]; rfl) (by decide) (fun x hx => kX5_pieceAt G h (some p3) a2 hx) (fun r4 => ?_)
  try dsimp only [Option.toList, List.cons_append, List.nil_append]
  refine z_astore (i := 4) (lv' := [(4, zrv G.2.1 r4), (3, zrv G.2.1 r2), (0, zrv G.2.1 this), (1, .int a1), (2, .int a2)]) dX5_price_11 (by decide) (by simp [zcat1, zcI, zcJ]) ?_
  refine z_aload_n (j := 1) dX5_price_13 rfl rfl ?_
  refine z_ifnull (tgt := 22) dX5_price_14 (by decide) (fun _ => ?_) (fun _ => ?_)
  · refine z_iconst (v := -1) dX5_price_22 (by decide) ?_
    exact z_iret dX5_price_23 rfl rfl rfl rfl
  · refine z_aload (j := 0) dX5_price_17 rfl ?_
    refine z_ifnonnull (tgt := 24) dX5_price_19 (by decide) (fun _ => ?_) (fun _ => ?_)
    · refine z_iconst (v := -1) dX5_price_22 (by decide) ?_
      exact z_iret dX5_price_23 rfl rfl rfl rfl
    · refine z_aload_n (j := 2) dX5_price_24 rfl rfl ?_
      refine z_getP (k := 4) dX5_price_25 zkl6 (by decide) rfl (.inl zw152) (fun r5 => ?_)
      refine z_aload_n (j := 1) dX5_price_28 rfl rfl ?_
      refine z_aload (j := 0) dX5_price_29 rfl ?_
      refine z_ob (fun p6 ep6 lp6 kp6 => ?_)
      refine z_callV (As := [zrv G.2.1 r2, zrv G.2.1 r4]) (rest := []) (rv2 := fun (_ : Zh) => none) (h2 := fun (x : Zh) => x) dX5_price_31 vX1_lay (.inr ⟨_, zw198⟩) (by decide) zkl2 lp6 kp6 rfl (by rw [ep6]; rfl) (by decide) (fun x hx => kX1_lay G h (some p6) r2 r4 hx) (fun h7 => ?_)
      try dsimp only [Option.toList, List.cons_append, List.nil_append]
      refine z_aload_n (j := 2) dX5_price_34 rfl rfl ?_
      refine z_getP (k := 4) dX5_price_35 zkl6 (by decide) rfl (.inl zw152) (fun r8 => ?_)
      refine z_getI (k := 5) dX5_price_38 zkl2 (by decide) rfl (.inr ⟨_, zw83⟩) (fun x9 => ?_)
      exact z_iret dX5_price_41 rfl rfl rfl rfl
def fX5_both (h : Zh) (this : Option Nat) (a1 : Int32) (a2 : Int32) : Option (Int32 × Zh) :=
  (zob h this 7).bind fun p1 =>
  (fX5_inLog h (some p1) a1).bind fun r2 =>
  (zob h this 7).bind fun p3 =>
  (fX5_pieceAt h (some p3) a2).bind fun r4 =>
  if r2 = none then
    some ((-1 : Int32), h)
  else
    if r4 = none then
      some ((-1 : Int32), h)
    else
      (zfP h this 6 4).bind fun r5 =>
      (zob h r5 3).bind fun p6 =>
      (fX1_lay h (some p6) r2 r4).bind fun h7 =>
      (zfP h7 this 6 4).bind fun r8 =>
      (zfI h7 r8 2 6).bind fun x9 =>
      some (x9, h7)
set_option maxRecDepth 100000 in
set_option maxHeartbeats 4000000 in
theorem kX5_both (G : Zg) (h : Zh) (this : Option Nat) (a1 : Int32) (a2 : Int32) {x : Int32 × Zh} (hx : fX5_both h this a1 a2 = some x) : zCt G yX5_both cX5_both 5 (Option.some Jvm.ClassFile.FieldType.int) 69 [zrv G.2.1 this, .int a1, .int a2] h (some (.int x.1)) x.2 := by
  refine z_met (a := x) (rvf := fun (x : Int32 × Zh) => some (.int x.1)) (hff := fun (x : Int32 × Zh) => x.2) (lv := [(0, zrv G.2.1 this), (1, .int a1), (2, .int a2)]) (by decide +kernel) (by simp [lg_sl, zcat1, zcI, zcJ]) (by simp [lv_args, zcat1, zcI, zcJ]) ?_ hx
  unfold fX5_both
  refine z_aload_n (j := 0) dX5_both_0 rfl rfl ?_
  refine z_iload_n (j := 1) dX5_both_1 rfl rfl ?_
  refine z_ob (fun p1 ep1 lp1 kp1 => ?_)
  refine z_callV (As := [.int a1]) (rest := []) (rv2 := fun (x : Option Nat) => some (zrv G.2.1 x)) (h2 := fun (_ : Option Nat) => h) dX5_both_2 vX5_inLog (.inl zw190) (by decide) zkl6 lp1 kp1 rfl (by rw [ep1]; rfl) (by decide) (fun x hx => kX5_inLog G h (some p1) a1 hx) (fun r2 => ?_)
  try dsimp only [Option.toList, List.cons_append, List.nil_append]
  refine z_astore_n (i := 3) (lv' := [(3, zrv G.2.1 r2), (0, zrv G.2.1 this), (1, .int a1), (2, .int a2)]) dX5_both_5 rfl (by decide) rfl ?_
  refine z_aload_n (j := 1) dX5_both_6 rfl rfl ?_
  refine z_iload_n (j := 3) dX5_both_7 rfl rfl ?_
  refine z_ob (fun p3 ep3 lp3 kp3 => ?_)
  refine z_callV (As := [.int a2]) (rest := []) (rv2 := fun (x : Option Nat) => some (zrv G.2.1 x)) (h2 := fun (_ : Option Nat) => h) dX5_both_8 vX5_pieceAt (.inl zw194) (by decide) zkl6 lp3 kp3 rfl (by rw [ep3]; rfl) (by decide) (fun x hx => kX5_pieceAt G h (some p3) a2 hx) (fun r4 => ?_)
  try dsimp only [Option.toList, List.cons_append, List.nil_append]
  refine z_astore (i := 4) (lv' := [(4, zrv G.2.1 r4), (3, zrv G.2.1 r2), (0, zrv G.2.1 this), (1, .int a1), (2, .int a2)]) dX5_both_11 (by decide) (by simp [zcat1, zcI, zcJ]) ?_
  refine z_aload_n (j := 1) dX5_both_13 rfl rfl ?_
  refine z_ifnull (tgt := 22) dX5_both_14 (by decide) (fun _ => ?_) (fun _ => ?_)
  · refine z_iconst (v := -1) dX5_both_22 (by decide) ?_
    exact z_iret dX5_both_23 rfl rfl rfl rfl
  · refine z_aload (j := 0) dX5_both_17 rfl ?_
    refine z_ifnonnull (tgt := 24) dX5_both_19 (by decide) (fun _ => ?_) (fun _ => ?_)
    · refine z_iconst (v := -1) dX5_both_22 (by decide) ?_
      exact z_iret dX5_both_23 rfl rfl rfl rfl
    · refine z_aload_n (j := 2) dX5_both_24 rfl rfl ?_
      refine z_getP (k := 4) dX5_both_25 zkl6 (by decide) rfl (.inl zw152) (fun r5 => ?_)
      refine z_aload_n (j := 1) dX5_both_28 rfl rfl ?_
      refine z_aload (j := 0) dX5_both_29 rfl ?_
      refine z_ob (fun p6 ep6 lp6 kp6 => ?_)
      refine z_callV (As := [zrv G.2.1 r2, zrv G.2.1 r4]) (rest := []) (rv2 := fun (_ : Zh) => none) (h2 := fun (x : Zh) => x) dX5_both_31 vX1_lay (.inr ⟨_, zw198⟩) (by decide) zkl2 lp6 kp6 rfl (by rw [ep6]; rfl) (by decide) (fun x hx => kX1_lay G h (some p6) r2 r4 hx) (fun h7 => ?_)
      try dsimp only [Option.toList, List.cons_append, List.nil_append]
      refine z_aload_n (j := 2) dX5_both_34 rfl rfl ?_
      refine z_getP (k := 4) dX5_both_35 zkl6 (by decide) rfl (.inl zw152) (fun r8 => ?_)
      refine z_getI (k := 6) dX5_both_38 zkl2 (by decide) rfl (.inr ⟨_, zw85⟩) (fun x9 => ?_)
      exact z_iret dX5_both_41 rfl rfl rfl rfl
def fX5_shortest (h : Zh) (this : Option Nat) (a1 : Int32) : Option (Int32) :=
  (zob h this 7).bind fun p1 =>
  (fX5_pieceAt h (some p1) a1).bind fun r2 =>
  (if r2 = none then
    some (-1 : Int32)
  else
    (zfI h r2 3 4).bind fun x5 =>
    some x5).bind fun (v3 : Int32) =>
  some v3
set_option maxRecDepth 100000 in
set_option maxHeartbeats 4000000 in
theorem kX5_shortest (G : Zg) (h : Zh) (this : Option Nat) (a1 : Int32) {x : Int32} (hx : fX5_shortest h this a1 = some x) : zCt G yX5_shortest cX5_shortest 3 (Option.some Jvm.ClassFile.FieldType.int) 2 [zrv G.2.1 this, .int a1] h (some (.int x)) h := by
  refine z_met (a := x) (rvf := fun (x : Int32) => some (.int x)) (hff := fun (_ : Int32) => h) (lv := [(0, zrv G.2.1 this), (1, .int a1)]) (by decide +kernel) (by simp [lg_sl, zcat1, zcI, zcJ]) (by simp [lv_args, zcat1, zcI, zcJ]) ?_ hx
  unfold fX5_shortest
  refine z_aload_n (j := 0) dX5_shortest_0 rfl rfl ?_
  refine z_iload_n (j := 1) dX5_shortest_1 rfl rfl ?_
  refine z_ob (fun p1 ep1 lp1 kp1 => ?_)
  refine z_callV (As := [.int a1]) (rest := []) (rv2 := fun (x : Option Nat) => some (zrv G.2.1 x)) (h2 := fun (_ : Option Nat) => h) dX5_shortest_2 vX5_pieceAt (.inl zw194) (by decide) zkl6 lp1 kp1 rfl (by rw [ep1]; rfl) (by decide) (fun x hx => kX5_pieceAt G h (some p1) a1 hx) (fun r2 => ?_)
  try dsimp only [Option.toList, List.cons_append, List.nil_append]
  refine z_astore_n (i := 2) (lv' := [(2, zrv G.2.1 r2), (0, zrv G.2.1 this), (1, .int a1)]) dX5_shortest_5 rfl (by decide) rfl ?_
  refine z_aload_n (j := 0) dX5_shortest_6 rfl rfl ?_
  refine z_join (pc2 := 18) (lv2 := fun (q : Int32) => []) (st2 := fun (q : Int32) => [.int q]) (h2 := fun (q : Int32) => h) (fun q => ?_) (fun F4 kF4 => ?_)
  · obtain ⟨v3, e0⟩ : ∃ z, z = q := ⟨_, rfl⟩
    subst e0
    try dsimp only
    exact z_iret dX5_shortest_18 rfl rfl rfl rfl
  · refine z_itb ?_
    refine z_ifnonnull (tgt := 14) dX5_shortest_7 (by decide) (fun _ => ?_) (fun _ => ?_)
    · refine z_iconst (v := -1) dX5_shortest_10 (by decide) ?_
      refine z_goto (tgt := 18) dX5_shortest_11 (by decide) ?_
      refine z_sb ?_
      refine z_at [] rfl ?_
      exact kF4 (-1 : Int32)
    · refine z_aload_n (j := 0) dX5_shortest_14 rfl rfl ?_
      refine z_as ?_
      refine z_getI (k := 4) dX5_shortest_15 zkl3 (by decide) rfl (.inr ⟨_, zw388⟩) (fun x5 => ?_)
      refine z_sb ?_
      refine z_at [] rfl ?_
      exact kF4 x5
def fX5_deedsInLog (h : Zh) (this : Option Nat) : Option (Int32) :=
  (zloop (fun ((v1, v2) : Int32 × Int32) =>
    ((zfI h this 6 1).bind fun x6 =>
    if x6 ≤ v2 then
      some (.inr v1)
    else
      (zob h this 7).bind fun p7 =>
      (fX5_inLog h (some p7) v2).bind fun r8 =>
      (if r8 = none then
        some v1
      else
        (zfI h r8 1 1).bind fun x11 =>
        some (v1 + x11)).bind fun (v9 : Int32) =>
      some (.inl (v9, v2 + (1 : Int32))) : Option ((Int32 × Int32) ⊕ Int32))) zFU ((0 : Int32), (0 : Int32))).bind fun (w3 : Int32) =>
  some w3
set_option maxRecDepth 100000 in
set_option maxHeartbeats 4000000 in
theorem kX5_deedsInLog (G : Zg) (h : Zh) (this : Option Nat) {x : Int32} (hx : fX5_deedsInLog h this = some x) : zCt G yX5_deedsInLog cX5_deedsInLog 4 (Option.some Jvm.ClassFile.FieldType.int) 3 [zrv G.2.1 this] h (some (.int x)) h := by
  refine z_met (a := x) (rvf := fun (x : Int32) => some (.int x)) (hff := fun (_ : Int32) => h) (lv := [(0, zrv G.2.1 this)]) (by decide +kernel) (by simp [lg_sl, zcat1, zcI, zcJ]) (by simp [lv_args, zcat1, zcI, zcJ]) ?_ hx
  unfold fX5_deedsInLog
  refine z_iconst (v := 0) dX5_deedsInLog_0 (by decide) ?_
  refine z_istore_n (i := 1) (lv' := [(1, .int (0 : Int32)), (0, zrv G.2.1 this)]) dX5_deedsInLog_1 rfl (by decide) (by simp [zcat1, zcI, zcJ]) ?_
  refine z_iconst (v := 0) dX5_deedsInLog_2 (by decide) ?_
  refine z_istore_n (i := 2) (lv' := [(2, .int (0 : Int32)), (1, .int (0 : Int32)), (0, zrv G.2.1 this)]) dX5_deedsInLog_3 rfl (by decide) rfl ?_
  refine z_at [2, 1, 0] rfl ?_
  refine z_join (pc2 := 35) (lv2 := fun (q : Int32) => [(1, .int q)]) (st2 := fun _ => []) (h2 := fun (q : Int32) => h) (fun q => ?_) (fun F4 kF4 => ?_)
  · obtain ⟨w3, e0⟩ : ∃ z, z = q := ⟨_, rfl⟩
    subst e0
    try dsimp only
    refine z_iload_n (j := 0) dX5_deedsInLog_35 rfl rfl ?_
    exact z_iret dX5_deedsInLog_36 rfl rfl rfl rfl
  · refine z_loop (lvf := fun (q : Int32 × Int32) => [(0, zrv G.2.1 this), (1, .int q.1), (2, .int q.2)]) (hf2 := fun (q : Int32 × Int32) => h) (s0 := ((0 : Int32), (0 : Int32))) (fun K5 bK5 rK5 q => ?_)
    obtain ⟨v1, v2⟩ := q
    try dsimp only
    refine z_iload_n (j := 2) dX5_deedsInLog_4 rfl rfl ?_
    refine z_aload_n (j := 0) dX5_deedsInLog_5 rfl rfl ?_
    refine z_as ?_
    refine z_getI (k := 1) dX5_deedsInLog_6 zkl6 (by decide) rfl (.inl zw149) (fun x6 => ?_)
    refine z_itb ?_
    refine z_icmp_ge (tgt := 35) dX5_deedsInLog_9 (by decide) (fun _ => ?_) (fun _ => ?_)
    · refine z_sb ?_
      refine z_eq (rK5 _) ?_
      refine z_at [1] rfl ?_
      exact kF4 v1
    · refine z_aload_n (j := 0) dX5_deedsInLog_12 rfl rfl ?_
      refine z_iload_n (j := 2) dX5_deedsInLog_13 rfl rfl ?_
      refine z_as ?_
      refine z_ob (fun p7 ep7 lp7 kp7 => ?_)
      refine z_as ?_
      refine z_callV (As := [.int v2]) (rest := []) (rv2 := fun (x : Option Nat) => some (zrv G.2.1 x)) (h2 := fun (_ : Option Nat) => h) dX5_deedsInLog_14 vX5_inLog (.inl zw190) (by decide) zkl6 lp7 kp7 rfl (by rw [ep7]; rfl) (by decide) (fun x hx => kX5_inLog G h (some p7) v2 hx) (fun r8 => ?_)
      try dsimp only [Option.toList, List.cons_append, List.nil_append]
      refine z_astore_n (i := 3) (lv' := [(3, zrv G.2.1 r8), (0, zrv G.2.1 this), (1, .int v1), (2, .int v2)]) dX5_deedsInLog_17 rfl (by decide) rfl ?_
      refine z_aload_n (j := 0) dX5_deedsInLog_18 rfl rfl ?_
      refine z_as ?_
      refine z_join (pc2 := 29) (lv2 := fun (q : Int32) => [(0, zrv G.2.1 this), (1, .int q), (2, .int v2)]) (st2 := fun (q : Int32) => []) (h2 := fun (q : Int32) => h) (fun q => ?_) (fun F10 kF10 => ?_)
      · obtain ⟨v9, e0⟩ : ∃ z, z = q := ⟨_, rfl⟩
        subst e0
        try dsimp only
        refine z_iinc (j := 2) (v := v2 + (1 : Int32)) (lv' := [(2, .int (v2 + (1 : Int32))), (0, zrv G.2.1 this), (1, .int v9)]) dX5_deedsInLog_29 rfl rfl (by decide) rfl ?_
        refine z_goto (tgt := 4) dX5_deedsInLog_32 (by decide) ?_
        refine z_sb ?_
        refine z_at [1, 2, 0] rfl ?_
        exact bK5 (v9, v2 + (1 : Int32))
      · refine z_itb ?_
        refine z_ifnull (tgt := 29) dX5_deedsInLog_19 (by decide) (fun _ => ?_) (fun _ => ?_)
        · refine z_sb ?_
          refine z_at [1, 2, 3] rfl ?_
          exact kF10 v1
        · refine z_iload_n (j := 2) dX5_deedsInLog_22 rfl rfl ?_
          refine z_aload_n (j := 0) dX5_deedsInLog_23 rfl rfl ?_
          refine z_as ?_
          refine z_getI (k := 1) dX5_deedsInLog_24 zkl1 (by decide) rfl (.inr ⟨_, zw327⟩) (fun x11 => ?_)
          refine z_iadd dX5_deedsInLog_27 ?_
          refine z_istore_n (i := 1) (lv' := [(1, .int (v1 + x11)), (3, zrv G.2.1 r8), (0, zrv G.2.1 this), (2, .int v2)]) dX5_deedsInLog_28 rfl (by decide) (by simp [zcat1, zcI, zcJ]) ?_
          refine z_sb ?_
          refine z_at [2, 0, 3] rfl ?_
          exact kF10 (v1 + x11)
def fX5_trailsInLog (h : Zh) (this : Option Nat) : Option (Int32) :=
  (zloop (fun ((v1, v2) : Int32 × Int32) =>
    ((zfI h this 6 1).bind fun x6 =>
    if x6 ≤ v2 then
      some (.inr v1)
    else
      (zob h this 7).bind fun p7 =>
      (fX5_inLog h (some p7) v2).bind fun r8 =>
      (if r8 = none then
        some v1
      else
        some (v1 + (1 : Int32))).bind fun (v9 : Int32) =>
      some (.inl (v9, v2 + (1 : Int32))) : Option ((Int32 × Int32) ⊕ Int32))) zFU ((0 : Int32), (0 : Int32))).bind fun (w3 : Int32) =>
  some w3
set_option maxRecDepth 100000 in
set_option maxHeartbeats 4000000 in
theorem kX5_trailsInLog (G : Zg) (h : Zh) (this : Option Nat) {x : Int32} (hx : fX5_trailsInLog h this = some x) : zCt G yX5_trailsInLog cX5_trailsInLog 3 (Option.some Jvm.ClassFile.FieldType.int) 3 [zrv G.2.1 this] h (some (.int x)) h := by
  refine z_met (a := x) (rvf := fun (x : Int32) => some (.int x)) (hff := fun (_ : Int32) => h) (lv := [(0, zrv G.2.1 this)]) (by decide +kernel) (by simp [lg_sl, zcat1, zcI, zcJ]) (by simp [lv_args, zcat1, zcI, zcJ]) ?_ hx
  unfold fX5_trailsInLog
  refine z_iconst (v := 0) dX5_trailsInLog_0 (by decide) ?_
  refine z_istore_n (i := 1) (lv' := [(1, .int (0 : Int32)), (0, zrv G.2.1 this)]) dX5_trailsInLog_1 rfl (by decide) (by simp [zcat1, zcI, zcJ]) ?_
  refine z_iconst (v := 0) dX5_trailsInLog_2 (by decide) ?_
  refine z_istore_n (i := 2) (lv' := [(2, .int (0 : Int32)), (1, .int (0 : Int32)), (0, zrv G.2.1 this)]) dX5_trailsInLog_3 rfl (by decide) rfl ?_
  refine z_at [2, 1, 0] rfl ?_
  refine z_join (pc2 := 29) (lv2 := fun (q : Int32) => [(1, .int q)]) (st2 := fun _ => []) (h2 := fun (q : Int32) => h) (fun q => ?_) (fun F4 kF4 => ?_)
  · obtain ⟨w3, e0⟩ : ∃ z, z = q := ⟨_, rfl⟩
    subst e0
    try dsimp only
    refine z_iload_n (j := 0) dX5_trailsInLog_29 rfl rfl ?_
    exact z_iret dX5_trailsInLog_30 rfl rfl rfl rfl
  · refine z_loop (lvf := fun (q : Int32 × Int32) => [(0, zrv G.2.1 this), (1, .int q.1), (2, .int q.2)]) (hf2 := fun (q : Int32 × Int32) => h) (s0 := ((0 : Int32), (0 : Int32))) (fun K5 bK5 rK5 q => ?_)
    obtain ⟨v1, v2⟩ := q
    try dsimp only
    refine z_iload_n (j := 2) dX5_trailsInLog_4 rfl rfl ?_
    refine z_aload_n (j := 0) dX5_trailsInLog_5 rfl rfl ?_
    refine z_as ?_
    refine z_getI (k := 1) dX5_trailsInLog_6 zkl6 (by decide) rfl (.inl zw149) (fun x6 => ?_)
    refine z_itb ?_
    refine z_icmp_ge (tgt := 29) dX5_trailsInLog_9 (by decide) (fun _ => ?_) (fun _ => ?_)
    · refine z_sb ?_
      refine z_eq (rK5 _) ?_
      refine z_at [1] rfl ?_
      exact kF4 v1
    · refine z_aload_n (j := 0) dX5_trailsInLog_12 rfl rfl ?_
      refine z_iload_n (j := 2) dX5_trailsInLog_13 rfl rfl ?_
      refine z_as ?_
      refine z_ob (fun p7 ep7 lp7 kp7 => ?_)
      refine z_as ?_
      refine z_callV (As := [.int v2]) (rest := []) (rv2 := fun (x : Option Nat) => some (zrv G.2.1 x)) (h2 := fun (_ : Option Nat) => h) dX5_trailsInLog_14 vX5_inLog (.inl zw190) (by decide) zkl6 lp7 kp7 rfl (by rw [ep7]; rfl) (by decide) (fun x hx => kX5_inLog G h (some p7) v2 hx) (fun r8 => ?_)
      try dsimp only [Option.toList, List.cons_append, List.nil_append]
      refine z_as ?_
      refine z_join (pc2 := 23) (lv2 := fun (q : Int32) => [(0, zrv G.2.1 this), (1, .int q), (2, .int v2)]) (st2 := fun (q : Int32) => []) (h2 := fun (q : Int32) => h) (fun q => ?_) (fun F10 kF10 => ?_)
      · obtain ⟨v9, e0⟩ : ∃ z, z = q := ⟨_, rfl⟩
        subst e0
        try dsimp only
        refine z_iinc (j := 2) (v := v2 + (1 : Int32)) (lv' := [(2, .int (v2 + (1 : Int32))), (0, zrv G.2.1 this), (1, .int v9)]) dX5_trailsInLog_23 rfl rfl (by decide) rfl ?_
        refine z_goto (tgt := 4) dX5_trailsInLog_26 (by decide) ?_
        refine z_sb ?_
        refine z_at [1, 2, 0] rfl ?_
        exact bK5 (v9, v2 + (1 : Int32))
      · refine z_itb ?_
        refine z_ifnull (tgt := 23) dX5_trailsInLog_17 (by decide) (fun _ => ?_) (fun _ => ?_)
        · refine z_sb ?_
          refine z_at [0, 1, 2] rfl ?_
          exact kF10 v1
        · refine z_iinc (j := 1) (v := v1 + (1 : Int32)) (lv' := [(1, .int (v1 + (1 : Int32))), (0, zrv G.2.1 this), (2, .int v2)]) dX5_trailsInLog_20 rfl rfl (by decide) (by simp [zcat1, zcI, zcJ]) ?_
          refine z_sb ?_
          refine z_at [1, 0, 2] rfl ?_
          exact kF10 (v1 + (1 : Int32))
def fX5_fit (h : Zh) (this : Option Nat) (a1 : Int32) (a2 : Int32) : Option (Int32 × Zh) :=
  (zob h this 7).bind fun p1 =>
  (fX5_pieceAt h (some p1) a1).bind fun r2 =>
  if r2 = none then
    some ((-1 : Int32), h)
  else
    if a2 < 0 then
      some ((-1 : Int32), h)
    else
      if a2 ≤ (3 : Int32) then
        if a2 = (2 : Int32) then
          (zob h this 7).bind fun p3 =>
          (fX5_deedsInLog h (some p3)).bind fun x4 =>
          (zob h this 7).bind fun p5 =>
          (fX5_trailsInLog h (some p5)).bind fun x6 =>
          (zfI h r2 3 4).bind fun x7 =>
          some (x4 + (x6 * x7), h)
        else
          (zloop (fun ((v8, v9, v10, v11, v12, h13) : Int32 × Int32 × Int32 × Int32 × Int32 × Zh) =>
            ((zfI h13 this 6 1).bind fun x20 =>
            if x20 ≤ v12 then
              some (.inr (v8, v9, v10, h13))
            else
              (zob h13 this 7).bind fun p21 =>
              (fX5_inLog h13 (some p21) v12).bind fun r22 =>
              (if r22 = none then
                some (v8, v9, v10, v11, h13)
              else
                (zfP h13 this 6 4).bind fun r29 =>
                (zob h13 r29 3).bind fun p30 =>
                (fX1_lay h13 (some p30) r22 r2).bind fun h31 =>
                (zfP h31 this 6 4).bind fun r32 =>
                (zfI h31 r32 2 5).bind fun x33 =>
                (zfP h31 this 6 4).bind fun r34 =>
                (zfI h31 r34 2 5).bind fun x35 =>
                (if x35 = 0 then
                  some (v8 + (1 : Int32))
                else
                  some v8).bind fun (v36 : Int32) =>
                (zfP h31 this 6 4).bind fun r38 =>
                (zfI h31 r38 2 5).bind fun x39 =>
                if x39 ≤ v11 then
                  some (v36, v9 + x33, v10, v11, h31)
                else
                  (zfP h31 this 6 4).bind fun r40 =>
                  (zfI h31 r40 2 5).bind fun x41 =>
                  some (v36, v9 + x33, v12, x41, h31)).bind fun ((v23, v24, v25, v26, h27) : Int32 × Int32 × Int32 × Int32 × Zh) =>
              some (.inl (v23, v24, v25, v26, v12 + (1 : Int32), h27)) : Option ((Int32 × Int32 × Int32 × Int32 × Int32 × Zh) ⊕ (Int32 × Int32 × Int32 × Zh)))) zFU ((0 : Int32), (0 : Int32), (-3 : Int32), (-1 : Int32), (0 : Int32), h)).bind fun ((w14, w15, w16, h17) : Int32 × Int32 × Int32 × Zh) =>
          (if a2 = 0 then
            some w14
          else
            if a2 = (1 : Int32) then
              some w15
            else
              some w16).bind fun (v42 : Int32) =>
          some (v42, h17)
      else
        some ((-1 : Int32), h)
set_option maxRecDepth 100000 in
set_option maxHeartbeats 4000000 in
theorem kX5_fit (G : Zg) (h : Zh) (this : Option Nat) (a1 : Int32) (a2 : Int32) {x : Int32 × Zh} (hx : fX5_fit h this a1 a2 = some x) : zCt G yX5_fit cX5_fit 10 (Option.some Jvm.ClassFile.FieldType.int) 69 [zrv G.2.1 this, .int a1, .int a2] h (some (.int x.1)) x.2 := by
  refine z_met (a := x) (rvf := fun (x : Int32 × Zh) => some (.int x.1)) (hff := fun (x : Int32 × Zh) => x.2) (lv := [(0, zrv G.2.1 this), (1, .int a1), (2, .int a2)]) (by decide +kernel) (by simp [lg_sl, zcat1, zcI, zcJ]) (by simp [lv_args, zcat1, zcI, zcJ]) ?_ hx
  unfold fX5_fit
  refine z_aload_n (j := 0) dX5_fit_0 rfl rfl ?_
  refine z_iload_n (j := 1) dX5_fit_1 rfl rfl ?_
  refine z_ob (fun p1 ep1 lp1 kp1 => ?_)
  refine z_callV (As := [.int a1]) (rest := []) (rv2 := fun (x : Option Nat) => some (zrv G.2.1 x)) (h2 := fun (_ : Option Nat) => h) dX5_fit_2 vX5_pieceAt (.inl zw194) (by decide) zkl6 lp1 kp1 rfl (by rw [ep1]; rfl) (by decide) (fun x hx => kX5_pieceAt G h (some p1) a1 hx) (fun r2 => ?_)
  try dsimp only [Option.toList, List.cons_append, List.nil_append]
  refine z_astore_n (i := 3) (lv' := [(3, zrv G.2.1 r2), (0, zrv G.2.1 this), (1, .int a1), (2, .int a2)]) dX5_fit_5 rfl (by decide) rfl ?_
  refine z_aload_n (j := 0) dX5_fit_6 rfl rfl ?_
  refine z_ifnull (tgt := 19) dX5_fit_7 (by decide) (fun _ => ?_) (fun _ => ?_)
  · refine z_iconst (v := -1) dX5_fit_19 (by decide) ?_
    exact z_iret dX5_fit_20 rfl rfl rfl rfl
  · refine z_iload_n (j := 3) dX5_fit_10 rfl rfl ?_
    refine z_if_lt (tgt := 19) dX5_fit_11 (by decide) (fun _ => ?_) (fun _ => ?_)
    · refine z_iconst (v := -1) dX5_fit_19 (by decide) ?_
      exact z_iret dX5_fit_20 rfl rfl rfl rfl
    · refine z_iload_n (j := 3) dX5_fit_14 rfl rfl ?_
      refine z_iconst (v := 3) dX5_fit_15 (by decide) ?_
      refine z_icmp_le (tgt := 21) dX5_fit_16 (by decide) (fun _ => ?_) (fun _ => ?_)
      · refine z_iload_n (j := 3) dX5_fit_21 rfl rfl ?_
        refine z_iconst (v := 2) dX5_fit_22 (by decide) ?_
        refine z_icmp_ne (tgt := 41) dX5_fit_23 (by decide) (fun _ => ?_) (fun _ => ?_)
        · refine z_aload_n (j := 1) dX5_fit_26 rfl rfl ?_
          refine z_ob (fun p3 ep3 lp3 kp3 => ?_)
          refine z_callV (As := []) (rest := []) (rv2 := fun (x : Int32) => some (.int x)) (h2 := fun (_ : Int32) => h) dX5_fit_27 vX5_deedsInLog (.inl zw273) (by decide) zkl6 lp3 kp3 rfl (by rw [ep3]; rfl) (by decide) (fun x hx => kX5_deedsInLog G h (some p3) hx) (fun x4 => ?_)
          try dsimp only [Option.toList, List.cons_append, List.nil_append]
          refine z_aload_n (j := 1) dX5_fit_30 rfl rfl ?_
          refine z_ob (fun p5 ep5 lp5 kp5 => ?_)
          refine z_callV (As := []) (rest := [.int x4]) (rv2 := fun (x : Int32) => some (.int x)) (h2 := fun (_ : Int32) => h) dX5_fit_31 vX5_trailsInLog (.inl zw269) (by decide) zkl6 lp5 kp5 rfl (by rw [ep5]; rfl) (by simp [zcat1, zcI, zcJ]) (fun x hx => kX5_trailsInLog G h (some p5) hx) (fun x6 => ?_)
          try dsimp only [Option.toList, List.cons_append, List.nil_append]
          refine z_aload_n (j := 0) dX5_fit_34 rfl rfl ?_
          refine z_getI (k := 4) dX5_fit_35 zkl3 (by decide) rfl (.inr ⟨_, zw388⟩) (fun x7 => ?_)
          refine z_imul dX5_fit_38 ?_
          refine z_iadd dX5_fit_39 ?_
          exact z_iret dX5_fit_40 rfl rfl rfl rfl
        · refine z_iconst (v := 0) dX5_fit_41 (by decide) ?_
          refine z_istore (i := 4) (lv' := [(4, .int (0 : Int32)), (3, zrv G.2.1 r2), (0, zrv G.2.1 this), (1, .int a1), (2, .int a2)]) dX5_fit_42 (by decide) (by simp [zcat1, zcI, zcJ]) ?_
          refine z_iconst (v := 0) dX5_fit_44 (by decide) ?_
          refine z_istore (i := 5) (lv' := [(5, .int (0 : Int32)), (4, .int (0 : Int32)), (3, zrv G.2.1 r2), (0, zrv G.2.1 this), (1, .int a1), (2, .int a2)]) dX5_fit_45 (by decide) rfl ?_
          refine z_bipush (v := -3) dX5_fit_47 (by decide) ?_
          refine z_istore (i := 6) (lv' := [(6, .int (-3 : Int32)), (5, .int (0 : Int32)), (4, .int (0 : Int32)), (3, zrv G.2.1 r2), (0, zrv G.2.1 this), (1, .int a1), (2, .int a2)]) dX5_fit_49 (by decide) rfl ?_
          refine z_iconst (v := -1) dX5_fit_51 (by decide) ?_
          refine z_istore (i := 7) (lv' := [(7, .int (-1 : Int32)), (6, .int (-3 : Int32)), (5, .int (0 : Int32)), (4, .int (0 : Int32)), (3, zrv G.2.1 r2), (0, zrv G.2.1 this), (1, .int a1), (2, .int a2)]) dX5_fit_52 (by decide) rfl ?_
          refine z_iconst (v := 0) dX5_fit_54 (by decide) ?_
          refine z_istore (i := 8) (lv' := [(8, .int (0 : Int32)), (7, .int (-1 : Int32)), (6, .int (-3 : Int32)), (5, .int (0 : Int32)), (4, .int (0 : Int32)), (3, zrv G.2.1 r2), (0, zrv G.2.1 this), (1, .int a1), (2, .int a2)]) dX5_fit_55 (by decide) rfl ?_
          refine z_at [6, 8, 5, 4, 3, 2, 1, 0] rfl ?_
          refine z_join (pc2 := 148) (lv2 := fun (q : Int32 × Int32 × Int32 × Zh) => [(2, .int a2), (4, .int q.1), (5, .int q.2.1), (6, .int q.2.2.1)]) (st2 := fun _ => []) (h2 := fun (q : Int32 × Int32 × Int32 × Zh) => q.2.2.2) (fun q => ?_) (fun F18 kF18 => ?_)
          · obtain ⟨w14, w15, w16, h17⟩ := q
            try dsimp only
            refine z_iload_n (j := 0) dX5_fit_148 rfl rfl ?_
            refine z_join (pc2 := 169) (lv2 := fun (q : Int32) => []) (st2 := fun (q : Int32) => [.int q]) (h2 := fun (q : Int32) => h17) (fun q => ?_) (fun F43 kF43 => ?_)
            · obtain ⟨v42, e0⟩ : ∃ z, z = q := ⟨_, rfl⟩
              subst e0
              try dsimp only
              exact z_iret dX5_fit_169 rfl rfl rfl rfl
            · refine z_itb ?_
              refine z_if_ne (tgt := 157) dX5_fit_149 (by decide) (fun _ => ?_) (fun _ => ?_)
              · refine z_iload (j := 1) dX5_fit_152 rfl ?_
                refine z_goto (tgt := 169) dX5_fit_154 (by decide) ?_
                refine z_sb ?_
                refine z_at [] rfl ?_
                exact kF43 w14
              · refine z_iload_n (j := 0) dX5_fit_157 rfl rfl ?_
                refine z_iconst (v := 1) dX5_fit_158 (by decide) ?_
                refine z_itb ?_
                refine z_icmp_ne (tgt := 167) dX5_fit_159 (by decide) (fun _ => ?_) (fun _ => ?_)
                · refine z_iload (j := 2) dX5_fit_162 rfl ?_
                  refine z_goto (tgt := 169) dX5_fit_164 (by decide) ?_
                  refine z_sb ?_
                  refine z_at [] rfl ?_
                  exact kF43 w15
                · refine z_iload (j := 3) dX5_fit_167 rfl ?_
                  refine z_sb ?_
                  refine z_at [] rfl ?_
                  exact kF43 w16
          · refine z_loop (lvf := fun (q : Int32 × Int32 × Int32 × Int32 × Int32 × Zh) => [(0, zrv G.2.1 this), (2, .int a2), (3, zrv G.2.1 r2), (4, .int q.1), (5, .int q.2.1), (6, .int q.2.2.1), (7, .int q.2.2.2.1), (8, .int q.2.2.2.2.1)]) (hf2 := fun (q : Int32 × Int32 × Int32 × Int32 × Int32 × Zh) => q.2.2.2.2.2) (s0 := ((0 : Int32), (0 : Int32), (-3 : Int32), (-1 : Int32), (0 : Int32), h)) (fun K19 bK19 rK19 q => ?_)
            obtain ⟨v8, v9, v10, v11, v12, h13⟩ := q
            try dsimp only
            refine z_iload (j := 7) dX5_fit_57 rfl ?_
            refine z_aload_n (j := 0) dX5_fit_59 rfl rfl ?_
            refine z_as ?_
            refine z_getI (k := 1) dX5_fit_60 zkl6 (by decide) rfl (.inl zw149) (fun x20 => ?_)
            refine z_itb ?_
            refine z_icmp_ge (tgt := 148) dX5_fit_63 (by decide) (fun _ => ?_) (fun _ => ?_)
            · refine z_sb ?_
              refine z_eq (rK19 _) ?_
              refine z_at [1, 3, 4, 5] rfl ?_
              exact kF18 (v8, v9, v10, h13)
            · refine z_aload_n (j := 0) dX5_fit_66 rfl rfl ?_
              refine z_iload (j := 7) dX5_fit_67 rfl ?_
              refine z_as ?_
              refine z_ob (fun p21 ep21 lp21 kp21 => ?_)
              refine z_as ?_
              refine z_callV (As := [.int v12]) (rest := []) (rv2 := fun (x : Option Nat) => some (zrv G.2.1 x)) (h2 := fun (_ : Option Nat) => h13) dX5_fit_69 vX5_inLog (.inl zw190) (by decide) zkl6 lp21 kp21 rfl (by rw [ep21]; rfl) (by decide) (fun x hx => kX5_inLog G h13 (some p21) v12 hx) (fun r22 => ?_)
              try dsimp only [Option.toList, List.cons_append, List.nil_append]
              refine z_astore (i := 9) (lv' := [(9, zrv G.2.1 r22), (0, zrv G.2.1 this), (2, .int a2), (3, zrv G.2.1 r2), (4, .int v8), (5, .int v9), (6, .int v10), (7, .int v11), (8, .int v12)]) dX5_fit_72 (by decide) rfl ?_
              refine z_aload (j := 0) dX5_fit_74 rfl ?_
              refine z_as ?_
              refine z_join (pc2 := 142) (lv2 := fun (q : Int32 × Int32 × Int32 × Int32 × Zh) => [(0, zrv G.2.1 this), (2, .int a2), (3, zrv G.2.1 r2), (4, .int q.1), (5, .int q.2.1), (6, .int q.2.2.1), (7, .int q.2.2.2.1), (8, .int v12)]) (st2 := fun (q : Int32 × Int32 × Int32 × Int32 × Zh) => []) (h2 := fun (q : Int32 × Int32 × Int32 × Int32 × Zh) => q.2.2.2.2) (fun q => ?_) (fun F28 kF28 => ?_)
              · obtain ⟨v23, v24, v25, v26, h27⟩ := q
                try dsimp only
                refine z_iinc (j := 7) (v := v12 + (1 : Int32)) (lv' := [(8, .int (v12 + (1 : Int32))), (0, zrv G.2.1 this), (2, .int a2), (3, zrv G.2.1 r2), (4, .int v23), (5, .int v24), (6, .int v25), (7, .int v26)]) dX5_fit_142 rfl rfl (by decide) rfl ?_
                refine z_goto (tgt := 57) dX5_fit_145 (by decide) ?_
                refine z_sb ?_
                refine z_at [1, 2, 3, 4, 5, 6, 7, 0] rfl ?_
                exact bK19 (v23, v24, v25, v26, v12 + (1 : Int32), h27)
              · refine z_itb ?_
                refine z_ifnonnull (tgt := 82) dX5_fit_76 (by decide) (fun _ => ?_) (fun _ => ?_)
                · refine z_goto (tgt := 142) dX5_fit_79 (by decide) ?_
                  refine z_sb ?_
                  refine z_at [1, 2, 3, 4, 5, 6, 7, 8] rfl ?_
                  exact kF28 (v8, v9, v10, v11, h13)
                · refine z_aload_n (j := 1) dX5_fit_82 rfl rfl ?_
                  refine z_as ?_
                  refine z_getP (k := 4) dX5_fit_83 zkl6 (by decide) rfl (.inl zw152) (fun r29 => ?_)
                  refine z_aload (j := 0) dX5_fit_86 rfl ?_
                  refine z_aload_n (j := 3) dX5_fit_88 rfl rfl ?_
                  refine z_as ?_
                  refine z_ob (fun p30 ep30 lp30 kp30 => ?_)
                  refine z_as ?_
                  refine z_callV (As := [zrv G.2.1 r22, zrv G.2.1 r2]) (rest := []) (rv2 := fun (_ : Zh) => none) (h2 := fun (x : Zh) => x) dX5_fit_89 vX1_lay (.inr ⟨_, zw198⟩) (by decide) zkl2 lp30 kp30 rfl (by rw [ep30]; rfl) (by decide) (fun x hx => kX1_lay G h13 (some p30) r22 r2 hx) (fun h31 => ?_)
                  try dsimp only [Option.toList, List.cons_append, List.nil_append]
                  refine z_iload (j := 5) dX5_fit_92 rfl ?_
                  refine z_aload_n (j := 1) dX5_fit_94 rfl rfl ?_
                  refine z_as ?_
                  refine z_getP (k := 4) dX5_fit_95 zkl6 (by decide) rfl (.inl zw152) (fun r32 => ?_)
                  refine z_as ?_
                  refine z_getI (k := 5) dX5_fit_98 zkl2 (by decide) rfl (.inr ⟨_, zw83⟩) (fun x33 => ?_)
                  refine z_iadd dX5_fit_101 ?_
                  refine z_istore (i := 5) (lv' := [(5, .int (v9 + x33)), (9, zrv G.2.1 r22), (0, zrv G.2.1 this), (2, .int a2), (3, zrv G.2.1 r2), (4, .int v8), (6, .int v10), (7, .int v11), (8, .int v12)]) dX5_fit_102 (by decide) rfl ?_
                  refine z_aload_n (j := 2) dX5_fit_104 rfl rfl ?_
                  refine z_as ?_
                  refine z_getP (k := 4) dX5_fit_105 zkl6 (by decide) rfl (.inl zw152) (fun r34 => ?_)
                  refine z_as ?_
                  refine z_getI (k := 5) dX5_fit_108 zkl2 (by decide) rfl (.inr ⟨_, zw83⟩) (fun x35 => ?_)
                  refine z_as ?_
                  refine z_join (pc2 := 117) (lv2 := fun (q : Int32) => [(0, zrv G.2.1 this), (2, .int a2), (3, zrv G.2.1 r2), (4, .int q), (5, .int (v9 + x33)), (6, .int v10), (7, .int v11), (8, .int v12)]) (st2 := fun (q : Int32) => []) (h2 := fun (q : Int32) => h31) (fun q => ?_) (fun F37 kF37 => ?_)
                  · obtain ⟨v36, e0⟩ : ∃ z, z = q := ⟨_, rfl⟩
                    subst e0
                    try dsimp only
                    refine z_aload_n (j := 0) dX5_fit_117 rfl rfl ?_
                    refine z_as ?_
                    refine z_getP (k := 4) dX5_fit_118 zkl6 (by decide) rfl (.inl zw152) (fun r38 => ?_)
                    refine z_as ?_
                    refine z_getI (k := 5) dX5_fit_121 zkl2 (by decide) rfl (.inr ⟨_, zw83⟩) (fun x39 => ?_)
                    refine z_iload (j := 6) dX5_fit_124 rfl ?_
                    refine z_itb ?_
                    refine z_icmp_le (tgt := 142) dX5_fit_126 (by decide) (fun _ => ?_) (fun _ => ?_)
                    · refine z_sb ?_
                      refine z_at [0, 1, 2, 3, 4, 5, 6, 7] rfl ?_
                      exact kF28 (v36, v9 + x33, v10, v11, h31)
                    · refine z_aload_n (j := 0) dX5_fit_129 rfl rfl ?_
                      refine z_as ?_
                      refine z_getP (k := 4) dX5_fit_130 zkl6 (by decide) rfl (.inl zw152) (fun r40 => ?_)
                      refine z_as ?_
                      refine z_getI (k := 5) dX5_fit_133 zkl2 (by decide) rfl (.inr ⟨_, zw83⟩) (fun x41 => ?_)
                      refine z_istore (i := 7) (lv' := [(7, .int x41), (0, zrv G.2.1 this), (2, .int a2), (3, zrv G.2.1 r2), (4, .int v36), (5, .int (v9 + x33)), (6, .int v10), (8, .int v12)]) dX5_fit_136 (by decide) rfl ?_
                      refine z_iload (j := 7) dX5_fit_138 rfl ?_
                      refine z_istore (i := 6) (lv' := [(6, .int v12), (7, .int x41), (0, zrv G.2.1 this), (2, .int a2), (3, zrv G.2.1 r2), (4, .int v36), (5, .int (v9 + x33)), (8, .int v12)]) dX5_fit_140 (by decide) rfl ?_
                      refine z_sb ?_
                      refine z_at [2, 3, 4, 5, 6, 0, 1, 7] rfl ?_
                      exact kF28 (v36, v9 + x33, v12, x41, h31)
                  · refine z_itb ?_
                    refine z_if_ne (tgt := 117) dX5_fit_111 (by decide) (fun _ => ?_) (fun _ => ?_)
                    · refine z_iinc (j := 5) (v := v8 + (1 : Int32)) (lv' := [(4, .int (v8 + (1 : Int32))), (5, .int (v9 + x33)), (9, zrv G.2.1 r22), (0, zrv G.2.1 this), (2, .int a2), (3, zrv G.2.1 r2), (6, .int v10), (7, .int v11), (8, .int v12)]) dX5_fit_114 rfl rfl (by decide) (by simp [zcat1, zcI, zcJ]) ?_
                      refine z_sb ?_
                      refine z_at [3, 4, 5, 0, 1, 6, 7, 8] rfl ?_
                      exact kF37 (v8 + (1 : Int32))
                    · refine z_sb ?_
                      refine z_at [2, 3, 4, 5, 0, 6, 7, 8] rfl ?_
                      exact kF37 v8
      · refine z_iconst (v := -1) dX5_fit_19 (by decide) ?_
        exact z_iret dX5_fit_20 rfl rfl rfl rfl
def fX5_namesInLog (h : Zh) (this : Option Nat) : Option (Int32) :=
  (zloop (fun ((v1, v2) : Int32 × Int32) =>
    (if (12 : Int32) ≤ v2 then
      some (.inr v1)
    else
      (zob h this 7).bind fun p6 =>
      (fX5_stands h (some p6) v2 (2 : Int32)).bind fun x7 =>
      (if x7 ≤ 0 then
        some v1
      else
        some (v1 + (1 : Int32))).bind fun (v8 : Int32) =>
      some (.inl (v8, v2 + (1 : Int32))) : Option ((Int32 × Int32) ⊕ Int32))) zFU ((0 : Int32), (0 : Int32))).bind fun (w3 : Int32) =>
  some w3
set_option maxRecDepth 100000 in
set_option maxHeartbeats 4000000 in
theorem kX5_namesInLog (G : Zg) (h : Zh) (this : Option Nat) {x : Int32} (hx : fX5_namesInLog h this = some x) : zCt G yX5_namesInLog cX5_namesInLog 3 (Option.some Jvm.ClassFile.FieldType.int) 4 [zrv G.2.1 this] h (some (.int x)) h := by
  refine z_met (a := x) (rvf := fun (x : Int32) => some (.int x)) (hff := fun (_ : Int32) => h) (lv := [(0, zrv G.2.1 this)]) (by decide +kernel) (by simp [lg_sl, zcat1, zcI, zcJ]) (by simp [lv_args, zcat1, zcI, zcJ]) ?_ hx
  unfold fX5_namesInLog
  refine z_iconst (v := 0) dX5_namesInLog_0 (by decide) ?_
  refine z_istore_n (i := 1) (lv' := [(1, .int (0 : Int32)), (0, zrv G.2.1 this)]) dX5_namesInLog_1 rfl (by decide) (by simp [zcat1, zcI, zcJ]) ?_
  refine z_iconst (v := 0) dX5_namesInLog_2 (by decide) ?_
  refine z_istore_n (i := 2) (lv' := [(2, .int (0 : Int32)), (1, .int (0 : Int32)), (0, zrv G.2.1 this)]) dX5_namesInLog_3 rfl (by decide) rfl ?_
  refine z_at [2, 1, 0] rfl ?_
  refine z_join (pc2 := 28) (lv2 := fun (q : Int32) => [(1, .int q)]) (st2 := fun _ => []) (h2 := fun (q : Int32) => h) (fun q => ?_) (fun F4 kF4 => ?_)
  · obtain ⟨w3, e0⟩ : ∃ z, z = q := ⟨_, rfl⟩
    subst e0
    try dsimp only
    refine z_iload_n (j := 0) dX5_namesInLog_28 rfl rfl ?_
    exact z_iret dX5_namesInLog_29 rfl rfl rfl rfl
  · refine z_loop (lvf := fun (q : Int32 × Int32) => [(0, zrv G.2.1 this), (1, .int q.1), (2, .int q.2)]) (hf2 := fun (q : Int32 × Int32) => h) (s0 := ((0 : Int32), (0 : Int32))) (fun K5 bK5 rK5 q => ?_)
    obtain ⟨v1, v2⟩ := q
    try dsimp only
    refine z_iload_n (j := 2) dX5_namesInLog_4 rfl rfl ?_
    refine z_bipush (v := 12) dX5_namesInLog_5 (by decide) ?_
    refine z_itb ?_
    refine z_icmp_ge (tgt := 28) dX5_namesInLog_7 (by decide) (fun _ => ?_) (fun _ => ?_)
    · refine z_sb ?_
      refine z_eq (rK5 _) ?_
      refine z_at [1] rfl ?_
      exact kF4 v1
    · refine z_aload_n (j := 0) dX5_namesInLog_10 rfl rfl ?_
      refine z_iload_n (j := 2) dX5_namesInLog_11 rfl rfl ?_
      refine z_iconst (v := 2) dX5_namesInLog_12 (by decide) ?_
      refine z_as ?_
      refine z_ob (fun p6 ep6 lp6 kp6 => ?_)
      refine z_as ?_
      refine z_callV (As := [.int v2, .int (2 : Int32)]) (rest := []) (rv2 := fun (x : Int32) => some (.int x)) (h2 := fun (_ : Int32) => h) dX5_namesInLog_13 vX5_stands (.inl zw281) (by decide) zkl6 lp6 kp6 rfl (by rw [ep6]; rfl) (by decide) (fun x hx => kX5_stands G h (some p6) v2 (2 : Int32) hx) (fun x7 => ?_)
      try dsimp only [Option.toList, List.cons_append, List.nil_append]
      refine z_as ?_
      refine z_join (pc2 := 22) (lv2 := fun (q : Int32) => [(0, zrv G.2.1 this), (1, .int q), (2, .int v2)]) (st2 := fun (q : Int32) => []) (h2 := fun (q : Int32) => h) (fun q => ?_) (fun F9 kF9 => ?_)
      · obtain ⟨v8, e0⟩ : ∃ z, z = q := ⟨_, rfl⟩
        subst e0
        try dsimp only
        refine z_iinc (j := 2) (v := v2 + (1 : Int32)) (lv' := [(2, .int (v2 + (1 : Int32))), (0, zrv G.2.1 this), (1, .int v8)]) dX5_namesInLog_22 rfl rfl (by decide) rfl ?_
        refine z_goto (tgt := 4) dX5_namesInLog_25 (by decide) ?_
        refine z_sb ?_
        refine z_at [1, 2, 0] rfl ?_
        exact bK5 (v8, v2 + (1 : Int32))
      · refine z_itb ?_
        refine z_if_le (tgt := 22) dX5_namesInLog_16 (by decide) (fun _ => ?_) (fun _ => ?_)
        · refine z_sb ?_
          refine z_at [0, 1, 2] rfl ?_
          exact kF9 v1
        · refine z_iinc (j := 1) (v := v1 + (1 : Int32)) (lv' := [(1, .int (v1 + (1 : Int32))), (0, zrv G.2.1 this), (2, .int v2)]) dX5_namesInLog_19 rfl rfl (by decide) (by simp [zcat1, zcI, zcJ]) ?_
          refine z_sb ?_
          refine z_at [1, 0, 2] rfl ?_
          exact kF9 (v1 + (1 : Int32))
def fX5_stoodAhead (h : Zh) (this : Option Nat) (a1 : Int32) (a2 : Int32) : Option (Int32) :=
  (zloop (fun (v1 : Int32) =>
    (if a2 ≤ v1 then
      some (.inr (.inl ()))
    else
      (zob h this 7).bind fun p4 =>
      (fX5_inLog h (some p4) v1).bind fun r5 =>
      if r5 = none then
        some (.inl (v1 + (1 : Int32)))
      else
        (zob h r5 2).bind fun p6 =>
        (fX0_row h (some p6)).bind fun x7 =>
        if x7 = a1 then
          some (.inr (.inr (1 : Int32)))
        else
          some (.inl (v1 + (1 : Int32))) : Option (Int32 ⊕ (Unit ⊕ Int32)))) zFU (0 : Int32)).bind fun (q : (Unit ⊕ Int32)) => match q with
  | .inr t => some t
  | .inl u =>
    some (0 : Int32)
set_option maxRecDepth 100000 in
set_option maxHeartbeats 4000000 in
theorem kX5_stoodAhead (G : Zg) (h : Zh) (this : Option Nat) (a1 : Int32) (a2 : Int32) {x : Int32} (hx : fX5_stoodAhead h this a1 a2 = some x) : zCt G yX5_stoodAhead cX5_stoodAhead 5 (Option.some Jvm.ClassFile.FieldType.boolean) 3 [zrv G.2.1 this, .int a1, .int a2] h (some (.int x)) h := by
  refine z_met (a := x) (rvf := fun (x : Int32) => some (.int x)) (hff := fun (_ : Int32) => h) (lv := [(0, zrv G.2.1 this), (1, .int a1), (2, .int a2)]) (by decide +kernel) (by simp [lg_sl, zcat1, zcI, zcJ]) (by simp [lv_args, zcat1, zcI, zcJ]) ?_ hx
  unfold fX5_stoodAhead
  refine z_iconst (v := 0) dX5_stoodAhead_0 (by decide) ?_
  refine z_istore_n (i := 3) (lv' := [(3, .int (0 : Int32)), (0, zrv G.2.1 this), (1, .int a1), (2, .int a2)]) dX5_stoodAhead_1 rfl (by decide) rfl ?_
  refine z_at [1, 2, 3, 0] rfl ?_
  refine z_joinS (pc2 := 36) (lv2 := fun (q : Unit) => []) (st2 := fun _ => []) (h2 := fun (q : Unit) => h) (fun q => ?_) (fun _ => rfl) (fun F2 kF2 tF2 => ?_)
  · obtain ⟨u, e0⟩ : ∃ z, z = q := ⟨_, rfl⟩
    subst e0
    try dsimp only
    refine z_iconst (v := 0) dX5_stoodAhead_36 (by decide) ?_
    exact z_iret dX5_stoodAhead_37 rfl rfl rfl rfl
  · refine z_loop (lvf := fun (q : Int32) => [(0, zrv G.2.1 this), (1, .int a1), (2, .int a2), (3, .int q)]) (hf2 := fun (q : Int32) => h) (s0 := (0 : Int32)) (fun K3 bK3 rK3 q => ?_)
    obtain ⟨v1, e0⟩ : ∃ z, z = q := ⟨_, rfl⟩
    subst e0
    try dsimp only
    refine z_iload_n (j := 3) dX5_stoodAhead_2 rfl rfl ?_
    refine z_iload_n (j := 2) dX5_stoodAhead_3 rfl rfl ?_
    refine z_itb ?_
    refine z_icmp_ge (tgt := 36) dX5_stoodAhead_4 (by decide) (fun _ => ?_) (fun _ => ?_)
    · refine z_sb ?_
      refine z_eq (rK3 _) ?_
      refine z_at [] rfl ?_
      exact kF2 ()
    · refine z_aload_n (j := 0) dX5_stoodAhead_7 rfl rfl ?_
      refine z_iload_n (j := 3) dX5_stoodAhead_8 rfl rfl ?_
      refine z_as ?_
      refine z_ob (fun p4 ep4 lp4 kp4 => ?_)
      refine z_as ?_
      refine z_callV (As := [.int v1]) (rest := []) (rv2 := fun (x : Option Nat) => some (zrv G.2.1 x)) (h2 := fun (_ : Option Nat) => h) dX5_stoodAhead_9 vX5_inLog (.inl zw190) (by decide) zkl6 lp4 kp4 rfl (by rw [ep4]; rfl) (by decide) (fun x hx => kX5_inLog G h (some p4) v1 hx) (fun r5 => ?_)
      try dsimp only [Option.toList, List.cons_append, List.nil_append]
      refine z_astore (i := 4) (lv' := [(4, zrv G.2.1 r5), (0, zrv G.2.1 this), (1, .int a1), (2, .int a2), (3, .int v1)]) dX5_stoodAhead_12 (by decide) rfl ?_
      refine z_aload (j := 0) dX5_stoodAhead_14 rfl ?_
      refine z_itb ?_
      refine z_ifnull (tgt := 30) dX5_stoodAhead_16 (by decide) (fun _ => ?_) (fun _ => ?_)
      · refine z_iinc (j := 4) (v := v1 + (1 : Int32)) (lv' := [(3, .int (v1 + (1 : Int32))), (4, zrv G.2.1 r5), (0, zrv G.2.1 this), (1, .int a1), (2, .int a2)]) dX5_stoodAhead_30 rfl rfl (by decide) rfl ?_
        refine z_goto (tgt := 2) dX5_stoodAhead_33 (by decide) ?_
        refine z_sb ?_
        refine z_at [2, 3, 4, 0] rfl ?_
        exact bK3 (v1 + (1 : Int32))
      · refine z_aload (j := 0) dX5_stoodAhead_19 rfl ?_
        refine z_as ?_
        refine z_ob (fun p6 ep6 lp6 kp6 => ?_)
        refine z_as ?_
        refine z_callV (As := []) (rest := []) (rv2 := fun (x : Int32) => some (.int x)) (h2 := fun (_ : Int32) => h) dX5_stoodAhead_21 vX0_row (.inr ⟨_, zw297⟩) (by decide) zkl1 lp6 kp6 rfl (by rw [ep6]; rfl) (by decide) (fun x hx => kX0_row G h (some p6) hx) (fun x7 => ?_)
        try dsimp only [Option.toList, List.cons_append, List.nil_append]
        refine z_iload_n (j := 2) dX5_stoodAhead_24 rfl rfl ?_
        refine z_itb ?_
        refine z_icmp_ne (tgt := 30) dX5_stoodAhead_25 (by decide) (fun _ => ?_) (fun _ => ?_)
        · refine z_iconst (v := 1) dX5_stoodAhead_28 (by decide) ?_
          refine z_sb ?_
          refine z_eq (rK3 _) ?_
          refine z_eq (tF2 _) ?_
          exact z_iret dX5_stoodAhead_29 rfl rfl rfl rfl
        · refine z_iinc (j := 4) (v := v1 + (1 : Int32)) (lv' := [(3, .int (v1 + (1 : Int32))), (4, zrv G.2.1 r5), (0, zrv G.2.1 this), (1, .int a1), (2, .int a2)]) dX5_stoodAhead_30 rfl rfl (by decide) rfl ?_
          refine z_goto (tgt := 2) dX5_stoodAhead_33 (by decide) ?_
          refine z_sb ?_
          refine z_at [2, 3, 4, 0] rfl ?_
          exact bK3 (v1 + (1 : Int32))
def fX5_unlikeTrails (h : Zh) (this : Option Nat) : Option (Int32) :=
  (zloop (fun ((v1, v2) : Int32 × Int32) =>
    ((zfI h this 6 1).bind fun x6 =>
    if x6 ≤ v2 then
      some (.inr v1)
    else
      (zob h this 7).bind fun p7 =>
      (fX5_inLog h (some p7) v2).bind fun r8 =>
      (if r8 = none then
        some v1
      else
        (zob h r8 2).bind fun p11 =>
        (fX0_row h (some p11)).bind fun x12 =>
        (zob h this 7).bind fun p13 =>
        (fX5_stoodAhead h (some p13) x12 v2).bind fun x14 =>
        if x14 = 0 then
          some (v1 + (1 : Int32))
        else
          some v1).bind fun (v9 : Int32) =>
      some (.inl (v9, v2 + (1 : Int32))) : Option ((Int32 × Int32) ⊕ Int32))) zFU ((0 : Int32), (0 : Int32))).bind fun (w3 : Int32) =>
  some w3
set_option maxRecDepth 100000 in
set_option maxHeartbeats 4000000 in
theorem kX5_unlikeTrails (G : Zg) (h : Zh) (this : Option Nat) {x : Int32} (hx : fX5_unlikeTrails h this = some x) : zCt G yX5_unlikeTrails cX5_unlikeTrails 4 (Option.some Jvm.ClassFile.FieldType.int) 4 [zrv G.2.1 this] h (some (.int x)) h := by
  refine z_met (a := x) (rvf := fun (x : Int32) => some (.int x)) (hff := fun (_ : Int32) => h) (lv := [(0, zrv G.2.1 this)]) (by decide +kernel) (by simp [lg_sl, zcat1, zcI, zcJ]) (by simp [lv_args, zcat1, zcI, zcJ]) ?_ hx
  unfold fX5_unlikeTrails
  refine z_iconst (v := 0) dX5_unlikeTrails_0 (by decide) ?_
  refine z_istore_n (i := 1) (lv' := [(1, .int (0 : Int32)), (0, zrv G.2.1 this)]) dX5_unlikeTrails_1 rfl (by decide) (by simp [zcat1, zcI, zcJ]) ?_
  refine z_iconst (v := 0) dX5_unlikeTrails_2 (by decide) ?_
  refine z_istore_n (i := 2) (lv' := [(2, .int (0 : Int32)), (1, .int (0 : Int32)), (0, zrv G.2.1 this)]) dX5_unlikeTrails_3 rfl (by decide) rfl ?_
  refine z_at [2, 1, 0] rfl ?_
  refine z_join (pc2 := 43) (lv2 := fun (q : Int32) => [(1, .int q)]) (st2 := fun _ => []) (h2 := fun (q : Int32) => h) (fun q => ?_) (fun F4 kF4 => ?_)
  · obtain ⟨w3, e0⟩ : ∃ z, z = q := ⟨_, rfl⟩
    subst e0
    try dsimp only
    refine z_iload_n (j := 0) dX5_unlikeTrails_43 rfl rfl ?_
    exact z_iret dX5_unlikeTrails_44 rfl rfl rfl rfl
  · refine z_loop (lvf := fun (q : Int32 × Int32) => [(0, zrv G.2.1 this), (1, .int q.1), (2, .int q.2)]) (hf2 := fun (q : Int32 × Int32) => h) (s0 := ((0 : Int32), (0 : Int32))) (fun K5 bK5 rK5 q => ?_)
    obtain ⟨v1, v2⟩ := q
    try dsimp only
    refine z_iload_n (j := 2) dX5_unlikeTrails_4 rfl rfl ?_
    refine z_aload_n (j := 0) dX5_unlikeTrails_5 rfl rfl ?_
    refine z_as ?_
    refine z_getI (k := 1) dX5_unlikeTrails_6 zkl6 (by decide) rfl (.inl zw149) (fun x6 => ?_)
    refine z_itb ?_
    refine z_icmp_ge (tgt := 43) dX5_unlikeTrails_9 (by decide) (fun _ => ?_) (fun _ => ?_)
    · refine z_sb ?_
      refine z_eq (rK5 _) ?_
      refine z_at [1] rfl ?_
      exact kF4 v1
    · refine z_aload_n (j := 0) dX5_unlikeTrails_12 rfl rfl ?_
      refine z_iload_n (j := 2) dX5_unlikeTrails_13 rfl rfl ?_
      refine z_as ?_
      refine z_ob (fun p7 ep7 lp7 kp7 => ?_)
      refine z_as ?_
      refine z_callV (As := [.int v2]) (rest := []) (rv2 := fun (x : Option Nat) => some (zrv G.2.1 x)) (h2 := fun (_ : Option Nat) => h) dX5_unlikeTrails_14 vX5_inLog (.inl zw190) (by decide) zkl6 lp7 kp7 rfl (by rw [ep7]; rfl) (by decide) (fun x hx => kX5_inLog G h (some p7) v2 hx) (fun r8 => ?_)
      try dsimp only [Option.toList, List.cons_append, List.nil_append]
      refine z_astore_n (i := 3) (lv' := [(3, zrv G.2.1 r8), (0, zrv G.2.1 this), (1, .int v1), (2, .int v2)]) dX5_unlikeTrails_17 rfl (by decide) rfl ?_
      refine z_aload_n (j := 0) dX5_unlikeTrails_18 rfl rfl ?_
      refine z_as ?_
      refine z_join (pc2 := 37) (lv2 := fun (q : Int32) => [(0, zrv G.2.1 this), (1, .int q), (2, .int v2)]) (st2 := fun (q : Int32) => []) (h2 := fun (q : Int32) => h) (fun q => ?_) (fun F10 kF10 => ?_)
      · obtain ⟨v9, e0⟩ : ∃ z, z = q := ⟨_, rfl⟩
        subst e0
        try dsimp only
        refine z_iinc (j := 2) (v := v2 + (1 : Int32)) (lv' := [(2, .int (v2 + (1 : Int32))), (0, zrv G.2.1 this), (1, .int v9)]) dX5_unlikeTrails_37 rfl rfl (by decide) rfl ?_
        refine z_goto (tgt := 4) dX5_unlikeTrails_40 (by decide) ?_
        refine z_sb ?_
        refine z_at [1, 2, 0] rfl ?_
        exact bK5 (v9, v2 + (1 : Int32))
      · refine z_itb ?_
        refine z_ifnull (tgt := 37) dX5_unlikeTrails_19 (by decide) (fun _ => ?_) (fun _ => ?_)
        · refine z_sb ?_
          refine z_at [1, 2, 3] rfl ?_
          exact kF10 v1
        · refine z_aload_n (j := 1) dX5_unlikeTrails_22 rfl rfl ?_
          refine z_aload_n (j := 0) dX5_unlikeTrails_23 rfl rfl ?_
          refine z_as ?_
          refine z_ob (fun p11 ep11 lp11 kp11 => ?_)
          refine z_as ?_
          refine z_callV (As := []) (rest := [zrv G.2.1 this]) (rv2 := fun (x : Int32) => some (.int x)) (h2 := fun (_ : Int32) => h) dX5_unlikeTrails_24 vX0_row (.inr ⟨_, zw297⟩) (by decide) zkl1 lp11 kp11 rfl (by rw [ep11]; rfl) (by simp [zcat1, zcI, zcJ]) (fun x hx => kX0_row G h (some p11) hx) (fun x12 => ?_)
          try dsimp only [Option.toList, List.cons_append, List.nil_append]
          refine z_iload_n (j := 3) dX5_unlikeTrails_27 rfl rfl ?_
          refine z_as ?_
          refine z_ob (fun p13 ep13 lp13 kp13 => ?_)
          refine z_as ?_
          refine z_callV (As := [.int x12, .int v2]) (rest := []) (rv2 := fun (x : Int32) => some (.int x)) (h2 := fun (_ : Int32) => h) dX5_unlikeTrails_28 vX5_stoodAhead (.inl zw301) (by decide) zkl6 lp13 kp13 rfl (by rw [ep13]; rfl) (by decide) (fun x hx => kX5_stoodAhead G h (some p13) x12 v2 hx) (fun x14 => ?_)
          try dsimp only [Option.toList, List.cons_append, List.nil_append]
          refine z_itb ?_
          refine z_if_ne (tgt := 37) dX5_unlikeTrails_31 (by decide) (fun _ => ?_) (fun _ => ?_)
          · refine z_iinc (j := 2) (v := v1 + (1 : Int32)) (lv' := [(1, .int (v1 + (1 : Int32))), (3, zrv G.2.1 r8), (0, zrv G.2.1 this), (2, .int v2)]) dX5_unlikeTrails_34 rfl rfl (by decide) (by simp [zcat1, zcI, zcJ]) ?_
            refine z_sb ?_
            refine z_at [2, 0, 3] rfl ?_
            exact kF10 (v1 + (1 : Int32))
          · refine z_sb ?_
            refine z_at [1, 2, 3] rfl ?_
            exact kF10 v1
def fX5_count (h : Zh) (this : Option Nat) (a1 : Int32) : Option (Int32) :=
  if a1 = (0 : Int32) then
    (zfI h this 6 1).bind fun x1 =>
    some x1
  else if a1 = (1 : Int32) then
    (zob h this 7).bind fun p2 =>
    (fX5_trailsInLog h (some p2)).bind fun x3 =>
    some x3
  else if a1 = (2 : Int32) then
    (zob h this 7).bind fun p4 =>
    (fX5_deedsInLog h (some p4)).bind fun x5 =>
    some x5
  else if a1 = (3 : Int32) then
    (zob h this 7).bind fun p6 =>
    (fX5_namesInLog h (some p6)).bind fun x7 =>
    some x7
  else if a1 = (4 : Int32) then
    (zfI h this 6 3).bind fun x8 =>
    some x8
  else if a1 = (5 : Int32) then
    (zob h this 7).bind fun p9 =>
    (fX5_unlikeTrails h (some p9)).bind fun x10 =>
    some x10
  else some (-1 : Int32)
set_option maxRecDepth 100000 in
set_option maxHeartbeats 4000000 in
theorem kX5_count (G : Zg) (h : Zh) (this : Option Nat) (a1 : Int32) {x : Int32} (hx : fX5_count h this a1 = some x) : zCt G yX5_count cX5_count 2 (Option.some Jvm.ClassFile.FieldType.int) 5 [zrv G.2.1 this, .int a1] h (some (.int x)) h := by
  refine z_met (a := x) (rvf := fun (x : Int32) => some (.int x)) (hff := fun (_ : Int32) => h) (lv := [(0, zrv G.2.1 this), (1, .int a1)]) (by decide +kernel) (by simp [lg_sl, zcat1, zcI, zcJ]) (by simp [lv_args, zcat1, zcI, zcJ]) ?_ hx
  unfold fX5_count
  refine z_iload_n (j := 1) dX5_count_0 rfl rfl ?_
  refine z_cases (fun n0 => ?_) (fun n0 => ?_)
  · refine z_swIn (off := 39) (tgt := 40) dX5_count_1 (by rw [n0]; decide) (by rw [n0]; decide) (by rw [n0]; rfl) (by decide) ?_
    refine z_aload_n (j := 0) dX5_count_40 rfl rfl ?_
    refine z_getI (k := 1) dX5_count_41 zkl6 (by decide) rfl (.inl zw149) (fun x1 => ?_)
    exact z_iret dX5_count_44 rfl rfl rfl rfl
  · refine z_cases (fun n1 => ?_) (fun n1 => ?_)
    · refine z_swIn (off := 44) (tgt := 45) dX5_count_1 (by rw [n1]; decide) (by rw [n1]; decide) (by rw [n1]; rfl) (by decide) ?_
      refine z_aload_n (j := 0) dX5_count_45 rfl rfl ?_
      refine z_ob (fun p2 ep2 lp2 kp2 => ?_)
      refine z_callV (As := []) (rest := []) (rv2 := fun (x : Int32) => some (.int x)) (h2 := fun (_ : Int32) => h) dX5_count_46 vX5_trailsInLog (.inl zw269) (by decide) zkl6 lp2 kp2 rfl (by rw [ep2]; rfl) (by decide) (fun x hx => kX5_trailsInLog G h (some p2) hx) (fun x3 => ?_)
      try dsimp only [Option.toList, List.cons_append, List.nil_append]
      exact z_iret dX5_count_49 rfl rfl rfl rfl
    · refine z_cases (fun n2 => ?_) (fun n2 => ?_)
      · refine z_swIn (off := 49) (tgt := 50) dX5_count_1 (by rw [n2]; decide) (by rw [n2]; decide) (by rw [n2]; rfl) (by decide) ?_
        refine z_aload_n (j := 0) dX5_count_50 rfl rfl ?_
        refine z_ob (fun p4 ep4 lp4 kp4 => ?_)
        refine z_callV (As := []) (rest := []) (rv2 := fun (x : Int32) => some (.int x)) (h2 := fun (_ : Int32) => h) dX5_count_51 vX5_deedsInLog (.inl zw273) (by decide) zkl6 lp4 kp4 rfl (by rw [ep4]; rfl) (by decide) (fun x hx => kX5_deedsInLog G h (some p4) hx) (fun x5 => ?_)
        try dsimp only [Option.toList, List.cons_append, List.nil_append]
        exact z_iret dX5_count_54 rfl rfl rfl rfl
      · refine z_cases (fun n3 => ?_) (fun n3 => ?_)
        · refine z_swIn (off := 54) (tgt := 55) dX5_count_1 (by rw [n3]; decide) (by rw [n3]; decide) (by rw [n3]; rfl) (by decide) ?_
          refine z_aload_n (j := 0) dX5_count_55 rfl rfl ?_
          refine z_ob (fun p6 ep6 lp6 kp6 => ?_)
          refine z_callV (As := []) (rest := []) (rv2 := fun (x : Int32) => some (.int x)) (h2 := fun (_ : Int32) => h) dX5_count_56 vX5_namesInLog (.inl zw277) (by decide) zkl6 lp6 kp6 rfl (by rw [ep6]; rfl) (by decide) (fun x hx => kX5_namesInLog G h (some p6) hx) (fun x7 => ?_)
          try dsimp only [Option.toList, List.cons_append, List.nil_append]
          exact z_iret dX5_count_59 rfl rfl rfl rfl
        · refine z_cases (fun n4 => ?_) (fun n4 => ?_)
          · refine z_swIn (off := 59) (tgt := 60) dX5_count_1 (by rw [n4]; decide) (by rw [n4]; decide) (by rw [n4]; rfl) (by decide) ?_
            refine z_aload_n (j := 0) dX5_count_60 rfl rfl ?_
            refine z_getI (k := 3) dX5_count_61 zkl6 (by decide) rfl (.inl zw151) (fun x8 => ?_)
            exact z_iret dX5_count_64 rfl rfl rfl rfl
          · refine z_cases (fun n5 => ?_) (fun n5 => ?_)
            · refine z_swIn (off := 64) (tgt := 65) dX5_count_1 (by rw [n5]; decide) (by rw [n5]; decide) (by rw [n5]; rfl) (by decide) ?_
              refine z_aload_n (j := 0) dX5_count_65 rfl rfl ?_
              refine z_ob (fun p9 ep9 lp9 kp9 => ?_)
              refine z_callV (As := []) (rest := []) (rv2 := fun (x : Int32) => some (.int x)) (h2 := fun (_ : Int32) => h) dX5_count_66 vX5_unlikeTrails (.inl zw293) (by decide) zkl6 lp9 kp9 rfl (by rw [ep9]; rfl) (by decide) (fun x hx => kX5_unlikeTrails G h (some p9) hx) (fun x10 => ?_)
              try dsimp only [Option.toList, List.cons_append, List.nil_append]
              exact z_iret dX5_count_69 rfl rfl rfl rfl
            · refine z_swOut (tgt := 70) dX5_count_1 (zsw6 n0 n1 n2 n3 n4 n5) (by decide) ?_
              refine z_iconst (v := -1) dX5_count_70 (by decide) ?_
              exact z_iret dX5_count_71 rfl rfl rfl rfl
