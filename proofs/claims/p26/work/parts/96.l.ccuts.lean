/-! found on the class's side: parts in order -/
theorem cordr_eq {h : Zh} {S : Nat} {P : Nat → Prop} {R : Nat → Nat → Prop} (f : Shf h S) (hP : ∀ v, P v → v < 12) (sp : shP h S (xPt (A2 R) P)) (hs : ∀ u, u < 12 → sM (zi h (S + 5) u) (fun v => R u v)) :
    zS (fX3_orderByReach h (some S)) (fun h' => shP h' S (((ordR R (CN (A2 R) P) (rtL (A2 R) P)).reverse).map (CN (A2 R) P)) ∧ iO (fun u _ => u = S + 6) h h') := by
  have l12 := rtL_12 (A := A2 R) (S := P)
  obtain ⟨s1, s2, s3⟩ := sp
  have ex : (xPt (A2 R) P).length = (rtL (A2 R) P).length := List.length_map _
  rw [ex] at s2 s3
  have s4 : ∀ i, i < (rtL (A2 R) P).length → zi h (S + 6) i = mOf (CN (A2 R) P ((rtL (A2 R) P).getD i 0)) := fun i hi => by
    rw [s3 i hi]
    unfold xPt
    rw [mapP_gd _ _ 0 _ _ hi]
  have hC : ∀ r v, CN (A2 R) P r v → v < 12 := fun r v c => hP v c.s2
  clear s3 ex s1
  unfold fX3_orderByReach
  have memA : ∀ k y, y ∈ ordR R (CN (A2 R) P) ((rtL (A2 R) P).take k) → y < 12 ∧ isRt (A2 R) P y := fun k y hy => rtL_mem.mp (List.mem_of_mem_take ((ordR_perm _).subset hy))
  generalize eL : rtL (A2 R) P = L at *
  let val : Nat → Int32 := fun r => mOf (CN (A2 R) P r)
  have oS : ∀ k, k < L.length → ordR R (CN (A2 R) P) (L.take (k + 1)) = insR R (CN (A2 R) P) (L.getD k 0) (ordR R (CN (A2 R) P) (L.take k)) := fun k hk => by
    unfold ordR
    rw [take_gd hk, List.foldl_append]; rfl
  have oL : ∀ k, k ≤ L.length → (ordR R (CN (A2 R) P) (L.take k)).length = k := fun k hk => by
    rw [(ordR_perm _).length_eq, List.length_take]; omega
  refine zS.b (R1 := fun h' => OA (zi h' (S + 6)) val (ordR R (CN (A2 R) P) L) ∧ iO (fun u _ => u = S + 6) h h') ?_ (fun h' hh => ?_)
  · by_cases c0 : L.length = 0
    · have eL0 : L = [] := List.eq_nil_of_length_eq_zero c0
      refine zloop_inv (fun (_ : Nat) (q : Int32 × Zh) => q = (1, h)) _ ?_ 0 _ _ rfl (by rw [zFU_v]; omega)
      rintro n q rfl
      refine Or.inr ⟨h, ?_, by rw [eL0]; exact fun j hj => absurd hj (Nat.not_lt_zero _), iO.rf⟩
      show ((zfI h (some S) 4 10).bind _) = _
      rw [f.fI, Option.bind_some, s2, c0, if_pos (by decide)]
    · refine zS.up (fun k h' => k ≤ L.length ∧ OA (zi h' (S + 6)) val (ordR R (CN (A2 R) P) (L.take k)) ∧ (∀ i, k ≤ i → i < L.length → zi h' (S + 6) i = val (L.getD i 0)) ∧ iO (fun u _ => u = S + 6) h h') 1 L.length (fun k h' hk0 hk hJ => ?_) (fun h' hJ => ?_) (by omega) (by omega) ⟨by omega, ?_, fun i _ hi => s4 i hi, iO.rf⟩
      · obtain ⟨-, j1, j2, j3⟩ := hJ
        have lk := oL k (by omega)
        have f' := f.on j3
        generalize eA : ordR R (CN (A2 R) P) (L.take k) = acc at j1 lk
        have exk := j2 k (Nat.le_refl _) hk
        have eS := oS k hk
        rw [eA] at eS
        generalize L.getD k 0 = x at exk eS
        dsimp only
        rw [f'.fI, Option.bind_some, j3.2 S 10 (by omega), s2, if_neg (nI_nle' (by omega) hk), f'.p9, Option.bind_some, f'.a6 (by omega), Option.bind_some, exk]
        refine zS.b (R1 := fun q : Int32 × Zh => ∃ m, m ≤ k ∧ q.1 = nI (k - m) ∧ OI R (CN (A2 R) P) (zi q.2 (S + 6)) val acc x m ∧ (m = k ∨ (m < k ∧ ¬ rch R (CN (A2 R) P x) (CN (A2 R) P (acc.getD m 0)))) ∧ (∀ i, k + 1 ≤ i → zi q.2 (S + 6) i = zi h' (S + 6) i) ∧ iO (fun u _ => u = S + 6) h q.2) ?_ (fun q ⟨m, m1, m2, m3, m4, m5, m6⟩ => ?_)
        · refine zloop_inv (fun (n : Nat) (q : Int32 × Zh) => ∃ m, m ≤ k ∧ n = k - m ∧ q.1 = nI (k - m) ∧ OI R (CN (A2 R) P) (zi q.2 (S + 6)) val acc x m ∧ (∀ i, k + 1 ≤ i → zi q.2 (S + 6) i = zi h' (S + 6) i) ∧ iO (fun u _ => u = S + 6) h q.2) _ ?_ k _ _ ⟨0, Nat.zero_le _, rfl, rfl, OI_0 j1, fun _ _ => rfl, j3⟩ (by rw [zFU_v]; omega)
          rintro n ⟨w, h1⟩ ⟨m, m1, rfl, rfl, m3, m5, m6⟩
          dsimp only at m3 m5 m6
          by_cases c : m = k
          · subst c
            refine Or.inr ⟨(nI (m - m), h1), ?_, m, Nat.le_refl _, rfl, m3, Or.inl rfl, m5, m6⟩
            show (if nI (m - m) ≤ 0 then _ else _) = _
            rw [if_pos (by rw [Nat.sub_self]; decide)]
          · have mk : m < k := by omega
            have f1 := f.on m6
            have e1 : nI (k - m) - (1 : Int32) = nI (k - m - 1) := by
              have := nI_pred (k - m - 1)
              rw [Nat.sub_add_cancel (by omega)] at this
              exact this
            have e2 : nI (k - m) + (-1 : Int32) = nI (k - m - 1) := by
              have := nI_dec (k - m - 1)
              rw [Nat.sub_add_cancel (by omega)] at this
              exact this
            have eat := OI_at m3 (by omega)
            rw [lk] at eat
            obtain ⟨r, er, hr⟩ := creach_eq (x := val x) (y := val (acc.getD m 0)) f1 (mOf_s _) (mOf_s _) (hC x) (hC (acc.getD m 0)) (fun u hu => by rw [m6.2 (S + 5) u (by omega)]; exact hs u hu)
            have z6 : ∀ p, zi (zsetI h1 (S + 6) (k - m) (val (acc.getD m 0))) (S + 6) p = if p = k - m then val (acc.getD m 0) else zi h1 (S + 6) p := fun p => by
              rw [zi_sI]
              by_cases c : p = k - m
              · subst c; rw [u2_s, if_pos rfl]
              · rw [u2_n (fun z => c z.2), if_neg c]
            have o6 : iO (fun u _ => u = S + 6) h1 (zsetI h1 (S + 6) (k - m) (val (acc.getD m 0))) := iO.s rfl
            by_cases d : r = 0
            · refine Or.inr ⟨(nI (k - m), h1), ?_, m, m1, rfl, m3, Or.inr ⟨mk, hr.n d⟩, m5, m6⟩
              show (if nI (k - m) ≤ 0 then _ else _) = _
              rw [if_neg (nI_nle (by omega) (by omega)), f1.p9, Option.bind_some, e1, f1.a6 (by omega), Option.bind_some, f1.ob, Option.bind_some, eat, er, Option.bind_some, if_pos d]
            · refine Or.inl ⟨(nI (k - m - 1), zsetI h1 (S + 6) (k - m) (val (acc.getD m 0))), k - m - 1, ?_, by omega, m + 1, by omega, by omega, by rw [Nat.sub_add_eq], OI_s m3 (by omega) (hr.p d) (fun p => ?_), fun i hi => ?_, m6.tr o6⟩
              · show (if nI (k - m) ≤ 0 then _ else _) = _
                rw [if_neg (nI_nle (by omega) (by omega)), f1.p9, Option.bind_some, e1, f1.a6 (by omega), Option.bind_some, f1.ob, Option.bind_some, eat, er, Option.bind_some, if_neg d, Option.bind_some, Option.bind_some, f1.a6 (by omega), Option.bind_some, eat, f1.b6 (by omega), Option.bind_some, e2]
              · rw [lk, eat]
                exact z6 p
              · rw [z6 i, if_neg (by omega)]
                exact m5 i hi
        · obtain ⟨w, h1⟩ := q
          dsimp only at m2 m3 m5 m6 ⊢
          subst m2
          have f1 := f.on m6
          have z6 : ∀ p, zi (zsetI h1 (S + 6) (k - m) (val x)) (S + 6) p = if p = k - m then val x else zi h1 (S + 6) p := fun p => by
            rw [zi_sI]
            by_cases c : p = k - m
            · subst c; rw [u2_s, if_pos rfl]
            · rw [u2_n (fun z => c z.2), if_neg c]
          have o6 : iO (fun u _ => u = S + 6) h1 (zsetI h1 (S + 6) (k - m) (val x)) := iO.s rfl
          rw [f1.p9, Option.bind_some, f1.b6 (by omega), Option.bind_some]
          generalize zsetI h1 (S + 6) (k - m) (val x) = h2 at z6 o6 ⊢
          refine zS.s ⟨_, by rw [nI_1], by omega, ?_, fun i hi hl => ?_, m6.tr o6⟩
          · rw [eS]
            refine OI_e m3 (by rw [lk]; exact m4) (fun p => ?_)
            rw [lk]
            exact z6 p
          · rw [z6 i, if_neg (by omega), m5 i (by omega)]
            exact j2 i (by omega) hl
      · obtain ⟨-, j1, -, j3⟩ := hJ
        dsimp only
        rw [(f.on j3).fI, Option.bind_some, j3.2 S 10 (by omega), s2, if_pos (nI_le (Nat.le_refl _) (by omega))]
        rw [List.take_length] at j1
        exact zS.s ⟨_, rfl, j1, j3⟩
      · have e := oS 0 (by omega)
        rw [Nat.zero_add] at e
        rw [e]
        intro j hj
        have hj : j < 1 := hj
        have : j = 0 := by omega
        subst this
        exact s4 0 (by omega)
  · obtain ⟨j1, j2⟩ := hh
    have lo : (ordR R (CN (A2 R) P) L).length = L.length := (ordR_perm _).length_eq
    refine zS.s ⟨⟨by rw [List.length_map, List.length_reverse, lo]; exact l12, by rw [List.length_map, List.length_reverse, lo, j2.2 S 10 (by omega)]; exact s2, fun i hi => ?_⟩, j2⟩
    rw [List.length_map] at hi
    rw [OA_fw j1 hi, mapP_gd _ _ 0 _ _ hi]
theorem cloCN {A A' : Nat → Nat → Prop} {S : Nat → Prop} (H1 : ∀ a b, S a → A' a b → S b ∧ A a b) (H2 : ∀ a b, S a → S b → A a b → A' a b) {n : Nat} (hn : S n) (v : Nat) : (cloS A' (fun u => u = n) v ∧ S v) ↔ CN A S n v := by
  constructor
  · rintro ⟨c, -⟩
    exact c (CN A S n) (fun u e => by rw [e]; exact CN.rf hn) (fun a b ca ab => ca.st (H1 a b ca.s2 ab).1 (H1 a b ca.s2 ab).2)
  · intro c
    have := c.2 (fun x => S x ∧ cloS A' (fun u => u = n) x) ⟨hn, fun C h1 _ => h1 n rfl⟩ (fun a b ca sb ab => ⟨sb, fun C h1 h2 => h2 a b (ca.2 C h1 h2) (H2 a b ca.1 sb ab)⟩)
    exact ⟨this.2, this.1⟩
abbrev sCt (S u k : Nat) : Prop := (u = S ∧ k = 10) ∨ u = S + 4 ∨ u = S + 5 ∨ u = S + 6
theorem SL.ct {h h' : Zh} {S : Nat} {N B E : Nat → Prop} {G : Nat → Nat → Prop} (o : iO (sCt S) h h') (s : SL h S N B E G) : SL h' S N B E G := s.on o ⟨by omega, by omega, by omega⟩ (fun k => ⟨by omega, by omega⟩)
theorem gt1_B {n : Nat} (h : n ≤ 12) : isB (if nI n ≤ (1 : Int32) then (0 : Int32) else 1) (1 < n) := two_B h
section CCU
variable {h : Zh} {S : Nat} {l : Rw}
theorem cchoice_eq (ok : xOK l) (f : Shf h S) (s : SL h S (xN l) (xB l) (xE l) (xG l)) : zS (fX3_cutsToChoice h (some S)) (fun q => isB q.1 (1 < (rtL (xA1 l) (xN l)).length) ∧ shP q.2 S (xPt (xA1 l) (xN l)) ∧ iO (sCt S) h q.2) := by
  have g12 : ∀ a b, xA1 l a b → a < 12 ∧ b < 12 := fun a b z => z.elim (fun g => ⟨xN_12 ok (xG_N g).1, xN_12 ok (xG_N g).2⟩) (fun g => ⟨xN_12 ok (xG_N g).2, xN_12 ok (xG_N g).1⟩)
  unfold fX3_cutsToChoice
  refine zS.b (zS.up (fun k h' => (∀ u, u < k → sM (zi h' (S + 4) u) (fun v => xA1 l u v)) ∧ iO (fun u _ => u = S + 4) h h') 0 12 (fun k h' _ hk hJ => ?_) (fun h' hJ => ?_) (Nat.zero_le _) (by omega) ⟨fun u z => absurd z (Nat.not_lt_zero _), iO.rf⟩) (fun h1 hh => ?_) (R1 := fun h' => (∀ u, u < 12 → sM (zi h' (S + 4) u) (fun v => xA1 l u v)) ∧ iO (fun u _ => u = S + 4) h h')
  · obtain ⟨j1, o⟩ := hJ
    have f' := f.on o
    dsimp only
    rw [if_neg (k12 hk), f'.p7, Option.bind_some, f'.p5, Option.bind_some, f'.a2 hk, Option.bind_some, f'.p6, Option.bind_some, f'.a3 hk, Option.bind_some, f'.b4 hk, Option.bind_some]
    have o2 : iO (fun u j => u = S + 4 ∧ j = k) h' (zsetI h' (S + 4) k (zi h' (S + 2) k ||| zi h' (S + 3) k)) := iO.s ⟨rfl, rfl⟩
    have z2 : zi (zsetI h' (S + 4) k (zi h' (S + 2) k ||| zi h' (S + 3) k)) (S + 4) k = zi h' (S + 2) k ||| zi h' (S + 3) k := u2_s
    generalize zsetI h' (S + 4) k (zi h' (S + 2) k ||| zi h' (S + 3) k) = h2 at o2 z2 ⊢
    refine zS.s ⟨_, by rw [nI_1], fun u hu => ?_, o.tr (o2.mono (fun u j z => z.1))⟩
    by_cases c : u = k
    · subst c
      rw [z2, o.2 (S + 2) u (by omega), o.2 (S + 3) u (by omega)]
      exact (s.2.2.2.1 u hk).or (s.2.2.2.2 u hk)
    · rw [o2.2 (S + 4) u (by omega)]; exact j1 u (by omega)
  · dsimp only
    rw [if_pos e12]
    exact zS.s ⟨_, rfl, hJ⟩
  · obtain ⟨j1, o⟩ := hh
    have f1 := f.on o
    rw [f1.fI, Option.bind_some, f1.ob, Option.bind_some]
    refine zS.b (cpart_eq (P := xN l) (A := xA1 l) (A' := xA1 l) f1 (by rw [o.2 S 2 (by omega)]; exact s.1) (fun v => xN_12 ok) g12 j1 (fun n hn v => cloCN (fun a b _ ab => ⟨ab.elim (fun g => (xG_N g).2) (fun g => (xG_N g).1), ab⟩) (fun a b _ _ ab => ab) hn v)) (fun h2 ⟨p, o2⟩ => ?_)
    have f2 := f1.on o2
    have e : (xPt (xA1 l) (xN l)).length = (rtL (xA1 l) (xN l)).length := List.length_map _
    have g := gt1_B p.1
    rw [f2.fI, Option.bind_some, p.2.1]
    rw [e] at g ⊢
    refine zS.b (R1 := fun x => isB x (1 < (rtL (xA1 l) (xN l)).length)) ?_ (fun x hx => ?_)
    · by_cases c : nI (rtL (xA1 l) (xN l)).length ≤ (1 : Int32)
      · rw [if_pos c] at g ⊢; exact zS.s g
      · rw [if_neg c] at g ⊢; exact zS.s g
    · rw [zbo_B hx, Option.bind_some]
      exact zS.s ⟨hx, p, (o.mono (fun u k z => by omega)).tr (o2.mono (fun u k z => by omega))⟩
end CCU
