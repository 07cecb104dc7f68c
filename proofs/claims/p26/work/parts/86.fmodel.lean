/-! found: who is near whom -/
noncomputable def cB (p : Prop) : Bool := @decide p (Classical.propDecidable p)
theorem cB_t {p : Prop} : cB p = true ↔ p := @decide_eq_true_iff p (Classical.propDecidable p)
def CN (A : Nat → Nat → Prop) (S : Nat → Prop) (u v : Nat) : Prop := S u ∧ ∀ C : Nat → Prop, C u → (∀ a b, C a → S b → A a b → C b) → C v
def isRt (A : Nat → Nat → Prop) (S : Nat → Prop) (v : Nat) : Prop := S v ∧ ∀ u, u < v → ¬ CN A S u v
noncomputable def rtL (A : Nat → Nat → Prop) (S : Nat → Prop) : List Nat := (List.range 12).filter (fun v => cB (isRt A S v))
section CNS
variable {A : Nat → Nat → Prop} {S : Nat → Prop} {u v w a b r q : Nat}
theorem CN.rf (h : S u) : CN A S u u := ⟨h, fun _ h0 _ => h0⟩
theorem CN.st (c : CN A S u a) (hb : S b) (hab : A a b) : CN A S u b := ⟨c.1, fun C h0 hC => hC a b (c.2 C h0 hC) hb hab⟩
theorem CN.tr (c : CN A S u v) (d : CN A S v w) : CN A S u w := d.2 (CN A S u) c (fun _ _ h s x => h.st s x)
theorem CN.s2 (c : CN A S u v) : S v := c.2 S c.1 (fun _ _ _ s _ => s)
theorem CN.sy (hA : ∀ a b, A a b → A b a) (c : CN A S u v) : CN A S v u := c.2 (fun x => CN A S x u) (CN.rf c.1) (fun a b h s x => ((CN.rf s).st h.1 (hA _ _ x)).tr h)
theorem rt_ex : ∀ {u : Nat}, S u → ∃ r, r ≤ u ∧ isRt A S r ∧ CN A S r u := by
  intro u
  induction u using Nat.strongRecOn with
  | ind u ih =>
    intro h
    by_cases c : ∀ w, w < u → ¬ CN A S w u
    · exact ⟨u, Nat.le_refl _, ⟨h, c⟩, CN.rf h⟩
    · obtain ⟨w, c⟩ := Classical.not_forall.mp c
      obtain ⟨hw, c⟩ := Classical.not_imp.mp c
      have c := Classical.not_not.mp c
      obtain ⟨r, r1, r2, r3⟩ := ih w hw c.1
      exact ⟨r, by omega, r2, r3.tr c⟩
theorem rt_one (hA : ∀ a b, A a b → A b a) (hr : isRt A S r) (hq : isRt A S q) (c : CN A S r v) (d : CN A S q v) : r = q := by
  have e := c.tr (d.sy hA)
  rcases Nat.lt_trichotomy r q with h | h | h
  · exact (hq.2 r h e).elim
  · exact h
  · exact (hr.2 q h (e.sy hA)).elim
theorem rtL_mem : r ∈ rtL A S ↔ r < 12 ∧ isRt A S r := by
  unfold rtL
  rw [List.mem_filter, List.mem_range, cB_t]
theorem rtL_nd : (rtL A S).Nodup := List.Nodup.sublist List.filter_sublist List.nodup_range
end CNS
def TC (G : Nat → Nat → Prop) (u v : Nat) : Prop := ∀ C : Nat → Prop, (∀ b, G u b → C b) → (∀ a b, C a → G a b → C b) → C v
section TCS
variable {G : Nat → Nat → Prop} {u v w : Nat}
theorem TC.b (h : G u v) : TC G u v := fun _ h1 _ => h1 v h
theorem TC.tr (c : TC G u v) (d : TC G v w) : TC G u w := fun C h1 h2 => d C (fun b g => h2 v b (c C h1 h2) g) h2
theorem TC.le {T : Nat → Nat → Prop} (h1 : ∀ a b, G a b → T a b) (h2 : ∀ a b c, T a b → T b c → T a c) (c : TC G u v) : T u v := c (T u) (fun b g => h1 u b g) (fun a b x g => h2 u a b x (h1 a b g))
theorem TC.s {S : Nat → Prop} (h : ∀ a b, G a b → S a ∧ S b) (c : TC G u v) : S u ∧ S v := TC.le (T := fun a b => S a ∧ S b) h (fun _ _ _ x y => ⟨x.1, y.2⟩) c
end TCS
/-- near in a row: both reach one another, or neither -/
def A2 (R : Nat → Nat → Prop) (a b : Nat) : Prop := R a b ↔ R b a
def rch (R : Nat → Nat → Prop) (P Q : Nat → Prop) : Prop := ∃ a b, P a ∧ Q b ∧ R a b
section ROWS
variable {R : Nat → Nat → Prop} {S : Nat → Prop}
theorem A2.sy (a b : Nat) (h : A2 R a b) : A2 R b a := ⟨h.2, h.1⟩
end ROWS
/-! found: the model over rows of names -/
def gS {α : Type} (f : α → Nat) : List α → Nat
  | [] => 0
  | a :: l => f a + gS f l
theorem gS_app {α : Type} (f : α → Nat) (r : List α) : ∀ l, gS f (l ++ r) = gS f l + gS f r
  | [] => (Nat.zero_add _).symm
  | a :: l => by show f a + gS f (l ++ r) = f a + gS f l + gS f r; rw [gS_app f r l]; omega
theorem gS_le {α : Type} (f g : α → Nat) : ∀ l, (∀ a, a ∈ l → f a ≤ g a) → gS f l ≤ gS g l
  | [], _ => Nat.le_refl _
  | a :: l, h => by
    have h1 := h a List.mem_cons_self
    have h2 := gS_le f g l (fun b hb => h b (List.mem_cons_of_mem _ hb))
    show f a + gS f l ≤ g a + gS g l
    omega
abbrev Rw : Type := List (List Nat)
def xN (l : Rw) (v : Nat) : Prop := ∃ r, r ∈ l ∧ ∃ i, i < r.length ∧ r.getD i 0 = v
def xB (l : Rw) (v : Nat) : Prop := ∃ r, r ∈ l ∧ 0 < r.length ∧ r.getD 0 0 = v
def xE (l : Rw) (v : Nat) : Prop := ∃ r, r ∈ l ∧ ∃ i, i + 1 = r.length ∧ r.getD i 0 = v
def xG (l : Rw) (u v : Nat) : Prop := ∃ r, r ∈ l ∧ ∃ i, i + 1 < r.length ∧ r.getD i 0 = u ∧ r.getD (i + 1) 0 = v
def rOK (r : List Nat) : Prop := r.length ≤ 6 ∧ ∀ i, i < r.length → r.getD i 0 < 12
def xOK (l : Rw) : Prop := (∀ r, r ∈ l → rOK r) ∧ l.length ≤ 144 ∧ gS List.length l ≤ 144
def xA1 (l : Rw) (a b : Nat) : Prop := xG l a b ∨ xG l b a
def xA3 (l : Rw) (a b : Nat) : Prop := ¬ (xG l a b ∧ xG l b a)
def xS0 (l : Rw) (v : Nat) : Prop := xN l v ∧ ¬ (xB l v ∨ xE l v)
/-- the names from which one must come to the body, or go from it, otherwise than a loop does -/
def xGo (l : Rw) (v : Nat) : Prop := (∃ u, xG l u v ∧ (xB l u ∨ xE l u) ∧ ¬ xE l u) ∨ (∃ u, xG l v u ∧ (xB l u ∨ xE l u) ∧ ¬ xB l u) ∨
  ((∃ u, xE l u ∧ xG l u v) ∧ ¬ ∀ u, xE l u → xG l u v) ∨ ((∃ u, xB l u ∧ xG l v u) ∧ ¬ ∀ u, xB l u → xG l v u)
def xS1 (l : Rw) (v : Nat) : Prop := xS0 l v ∧ ¬ ∃ w, CN (xA1 l) (xS0 l) w v ∧ xGo l w
def xBd (l : Rw) (v : Nat) : Prop := xN l v ∧ ¬ xS1 l v
noncomputable def insR (R : Nat → Nat → Prop) (P : Nat → Nat → Prop) (x : Nat) : List Nat → List Nat
  | [] => [x]
  | y :: l => if cB (rch R (P x) (P y)) = true then y :: insR R P x l else x :: y :: l
noncomputable def ordR (R : Nat → Nat → Prop) (P : Nat → Nat → Prop) (l : List Nat) : List Nat := l.foldl (fun a x => insR R P x a) []
noncomputable def xPt (A : Nat → Nat → Prop) (S : Nat → Prop) : List (Nat → Prop) := (rtL A S).map (CN A S)
noncomputable def xP2 (l : Rw) : List (Nat → Prop) := ((ordR (TC (xG l)) (CN (A2 (TC (xG l))) (xN l)) (rtL (A2 (TC (xG l))) (xN l))).reverse).map (CN (A2 (TC (xG l))) (xN l))
noncomputable def xCut (l : Rw) : Nat × List (Nat → Prop) :=
  if 1 < (rtL (xA1 l) (xN l)).length then (3, xPt (xA1 l) (xN l))
  else if 1 < (rtL (A2 (TC (xG l))) (xN l)).length then (2, xP2 l)
  else if 1 < (rtL (xA3 l) (xN l)).length ∧ cB (∀ r, r ∈ rtL (xA3 l) (xN l) → (∃ v, CN (xA3 l) (xN l) r v ∧ xB l v) ∧ ∃ v, CN (xA3 l) (xN l) r v ∧ xE l v) = true then (4, xPt (xA3 l) (xN l))
  else if 0 < (rtL (xA1 l) (xS1 l)).length then (5, xBd l :: xPt (xA1 l) (xS1 l))
  else (0, [])
/-- the stretches of a row -/
noncomputable def xSt (P : Nat → Prop) : List Nat → List Nat → Rw
  | c, [] => if c = [] then [] else [c]
  | c, x :: r => if cB (P x) = true then xSt P (c ++ [x]) r else if c = [] then xSt P [] r else c :: xSt P [] r
noncomputable def xW (P : Nat → Prop) (r : List Nat) : List Nat := r.filter (fun x => cB (P x))
noncomputable def xTk1 (k : Nat) (P : Nat → Prop) (r : List Nat) : Rw := if k = 5 then xSt P [] r else if k = 3 ∧ xW P r = [] then [] else [xW P r]
noncomputable def xTake (k : Nat) (P : Nat → Prop) (l : Rw) : Rw := l.flatMap (xTk1 k P)
noncomputable def nmL (S : Nat → Prop) : List Nat := (List.range 12).filter (fun v => cB (S v))
noncomputable def xFlw (l : Rw) : Tr := tMk 16 [tMk 14 ((nmL (xN l)).map fun v => .var v), .var 12]
noncomputable def xOne (l : Rw) : Tr := if cB (∃ r, r ∈ l ∧ 1 < r.length) = true then tMk 16 [.var ((nmL (xN l)).getD 0 0), .var 12] else .var ((nmL (xN l)).getD 0 0)
noncomputable def xFull (n : Nat) (rec : Rw → Tr) (l : Rw) : Tr :=
  if (nmL (xN l)).length = 1 then xOne l
  else if (xCut l).1 = 0 ∨ n = 0 then xFlw l
  else tMk (11 + (xCut l).1) ((xCut l).2.map fun P => rec (xTake (xCut l).1 P l))
def xNe (l : Rw) : Rw := l.filter (fun r => !r.isEmpty)
noncomputable def xFnd : Nat → Rw → Tr
  | 0, _ => .var 12
  | n + 1, l => if (xNe l).length = 0 then .var 12 else if (xNe l).length < l.length then tMk 14 [.var 12, xFull n (xFnd n) (xNe l)] else xFull n (xFnd n) (xNe l)
/-! the parts of a cut -/
noncomputable def cN (P : Nat → Prop) : Nat := (nmL P).length
noncomputable def c1 (P : Nat → Prop) (v : Nat) : Nat := if cB (P v) = true then 1 else 0
theorem flt_len (P : Nat → Prop) : ∀ L : List Nat, (L.filter (fun v => cB (P v))).length = gS (c1 P) L
  | [] => rfl
  | a :: L => by
    have ih := flt_len P L
    show _ = c1 P a + gS (c1 P) L
    by_cases h : cB (P a) = true
    · rw [List.filter_cons_of_pos (p := fun v => cB (P v)) h, show c1 P a = 1 from if_pos h, List.length_cons, ih, Nat.add_comm]
    · rw [List.filter_cons_of_neg (p := fun v => cB (P v)) h, show c1 P a = 0 from if_neg h, ih, Nat.zero_add]
theorem gS_swap {α β : Type} (f : α → β → Nat) : ∀ (l : List α) (m : List β), gS (fun a => gS (f a) m) l = gS (fun b => gS (fun a => f a b) l) m
  | [], m => by
    show 0 = _
    induction m with
    | nil => rfl
    | cons b m ih => show 0 = 0 + gS _ m; rw [← ih]
  | a :: l, m => by
    show gS (f a) m + gS (fun a => gS (f a) m) l = _
    rw [gS_swap f l m]
    induction m with
    | nil => rfl
    | cons b m ih =>
      show f a b + gS (f a) m + (gS (fun a => f a b) l + gS (fun b => gS (fun a => f a b) l) m) = (f a b + gS (fun a => f a b) l) + gS (fun b => gS (fun a => f a b) (a :: l)) m
      have ih' : gS (f a) m + gS (fun b => gS (fun a => f a b) l) m = gS (fun b => gS (fun a => f a b) (a :: l)) m := ih
      omega
def dsj (ps : List (Nat → Prop)) : Prop := ps.Pairwise (fun P Q => ∀ v, P v → Q v → False)
theorem dsj_1 {S : Nat → Prop} {v : Nat} : ∀ ps : List (Nat → Prop), dsj ps → (∀ P, P ∈ ps → P v → S v) → gS (fun P => c1 P v) ps ≤ c1 S v
  | [], _, _ => Nat.zero_le _
  | P :: ps, d, h => by
    obtain ⟨d1, d2⟩ := List.pairwise_cons.mp d
    have ih := dsj_1 ps d2 (fun Q hQ => h Q (List.mem_cons_of_mem _ hQ))
    show c1 P v + _ ≤ _
    by_cases hp : P v
    · have e1 : c1 P v = 1 := if_pos (cB_t.mpr hp)
      have e2 : c1 S v = 1 := if_pos (cB_t.mpr (h P List.mem_cons_self hp))
      have e3 : gS (fun P => c1 P v) ps ≤ gS (fun _ => 0) ps := gS_le _ _ _ (fun Q hQ => by
        show c1 Q v ≤ 0
        unfold c1
        rw [if_neg (fun z => d1 Q hQ v hp (cB_t.mp z))]
        exact Nat.le_refl _)
      have e4 : gS (fun _ : Nat → Prop => 0) ps = 0 := by
        clear ih d d1 d2 h e3
        induction ps with
        | nil => rfl
        | cons a b ih => show 0 + gS _ b = 0; rw [ih]
      omega
    · have e1 : c1 P v = 0 := if_neg (fun z => hp (cB_t.mp z))
      omega
theorem dsj_sum {S : Nat → Prop} (ps : List (Nat → Prop)) (d : dsj ps) (h : ∀ P, P ∈ ps → ∀ v, P v → S v) : gS cN ps ≤ cN S := by
  have e1 : gS cN ps = gS (fun P => gS (c1 P) (List.range 12)) ps := by
    congr 1
    funext P
    exact flt_len P _
  have e2 : cN S = gS (c1 S) (List.range 12) := flt_len S _
  rw [e1, gS_swap, e2]
  exact gS_le _ _ _ (fun v _ => dsj_1 ps d (fun P hP => h P hP v))
theorem cN_pos {P : Nat → Prop} {v : Nat} (hv : v < 12) (h : P v) : 1 ≤ cN P := by
  have : v ∈ nmL P := List.mem_filter.mpr ⟨List.mem_range.mpr hv, cB_t.mpr h⟩
  exact List.length_pos_of_mem this
theorem cN_le {P Q : Nat → Prop} (h : ∀ v, P v → Q v) : cN P ≤ cN Q := by
  have e1 : cN P = gS (c1 P) (List.range 12) := flt_len P _
  have e2 : cN Q = gS (c1 Q) (List.range 12) := flt_len Q _
  rw [e1, e2]
  refine gS_le _ _ _ (fun v _ => ?_)
  unfold c1
  by_cases hp : P v
  · rw [if_pos (cB_t.mpr hp), if_pos (cB_t.mpr (h v hp))]; exact Nat.le_refl _
  · rw [if_neg (fun z => hp (cB_t.mp z))]; exact Nat.zero_le _
theorem cN_12 (P : Nat → Prop) : cN P ≤ 12 := by
  have := List.length_filter_le (fun v => cB (P v)) (List.range 12)
  rw [List.length_range] at this
  exact this
/-! found: what a cut gives -/
theorem mem_gd {r : List Nat} {v : Nat} : (∃ i, i < r.length ∧ r.getD i 0 = v) ↔ v ∈ r := by
  constructor
  · rintro ⟨i, h1, h2⟩
    rw [List.getD_eq_getElem?_getD, List.getElem?_eq_getElem h1] at h2
    exact h2 ▸ List.getElem_mem h1
  · intro h
    obtain ⟨i, h1, h2⟩ := List.getElem_of_mem h
    exact ⟨i, h1, by rw [List.getD_eq_getElem?_getD, List.getElem?_eq_getElem h1]; exact h2⟩
theorem xN_mem {l : Rw} {v : Nat} : xN l v ↔ ∃ r, r ∈ l ∧ v ∈ r :=
  ⟨fun ⟨r, h1, h2⟩ => ⟨r, h1, mem_gd.mp h2⟩, fun ⟨r, h1, h2⟩ => ⟨r, h1, mem_gd.mpr h2⟩⟩
theorem xN_12 {l : Rw} (ok : xOK l) {v : Nat} (h : xN l v) : v < 12 := by
  obtain ⟨r, h1, i, h2, h3⟩ := h
  rw [← h3]
  exact (ok.1 r h1).2 i h2
theorem xB_N {l : Rw} {v : Nat} (h : xB l v) : xN l v := by
  obtain ⟨r, h1, h2, h3⟩ := h
  exact ⟨r, h1, 0, h2, h3⟩
theorem xE_N {l : Rw} {v : Nat} (h : xE l v) : xN l v := by
  obtain ⟨r, h1, i, h2, h3⟩ := h
  exact ⟨r, h1, i, by omega, h3⟩
theorem xG_N {l : Rw} {u v : Nat} (h : xG l u v) : xN l u ∧ xN l v := by
  obtain ⟨r, h1, i, h2, h3, h4⟩ := h
  exact ⟨⟨r, h1, i, by omega, h3⟩, ⟨r, h1, i + 1, by omega, h4⟩⟩
theorem xA1_sy {l : Rw} (a b : Nat) (h : xA1 l a b) : xA1 l b a := h.elim Or.inr Or.inl
theorem xA3_sy {l : Rw} (a b : Nat) (h : xA3 l a b) : xA3 l b a := fun z => h ⟨z.2, z.1⟩
theorem insR_perm {R : Nat → Nat → Prop} {P : Nat → Nat → Prop} {x : Nat} : ∀ l, (insR R P x l).Perm (x :: l)
  | [] => List.Perm.refl _
  | y :: l => by
    unfold insR
    by_cases c : cB (rch R (P x) (P y)) = true
    · rw [if_pos c]
      exact ((insR_perm l).cons y).trans (List.Perm.swap x y l)
    · rw [if_neg c]
theorem ordR_perm {R : Nat → Nat → Prop} {P : Nat → Nat → Prop} (l : List Nat) : (ordR R P l).Perm l := by
  have key : ∀ (l a : List Nat), (l.foldl (fun a x => insR R P x a) a).Perm (a ++ l) := by
    intro l
    induction l with
    | nil => intro a; rw [List.append_nil]; exact List.Perm.refl _
    | cons x l ih =>
      intro a
      refine (ih _).trans ?_
      exact ((insR_perm a).append_right l).trans (List.perm_middle.symm)
  exact key l []
theorem parts_ok {A : Nat → Nat → Prop} {S : Nat → Prop} (hA : ∀ a b, A a b → A b a) (hS : ∀ v, S v → v < 12) {L : List Nat} (hL : L.Perm (rtL A S)) : dsj (L.map (CN A S)) ∧ ∀ P, P ∈ L.map (CN A S) → (∃ v, v < 12 ∧ P v) ∧ ∀ v, P v → S v := by
  constructor
  · have nd : L.Nodup := hL.nodup_iff.mpr rtL_nd
    refine List.pairwise_map.mpr ((List.Pairwise.imp_of_mem (R := fun a b => a ≠ b) (fun {a b} ha hb ne v h1 h2 => ?_) nd))
    exact ne (rt_one hA (rtL_mem.mp (hL.subset ha)).2 (rtL_mem.mp (hL.subset hb)).2 h1 h2)
  · intro P hP
    obtain ⟨r, h1, rfl⟩ := List.mem_map.mp hP
    obtain ⟨h2, h3⟩ := rtL_mem.mp (hL.subset h1)
    exact ⟨⟨r, h2, CN.rf h3.1⟩, fun v c => c.s2⟩
theorem xCut_ok {l : Rw} (ok : xOK l) (h0 : ∃ v, xB l v) (hk : (xCut l).1 ≠ 0) : 2 ≤ (xCut l).1 ∧ (xCut l).1 ≤ 5 ∧ 2 ≤ (xCut l).2.length ∧ (xCut l).2.length ≤ 12 ∧ dsj (xCut l).2 ∧ ∀ P, P ∈ (xCut l).2 → (∃ v, v < 12 ∧ P v) ∧ ∀ v, P v → xN l v := by
  have hS : ∀ v, xN l v → v < 12 := fun v h => xN_12 ok h
  have r12 : ∀ A S, (rtL A S).length ≤ 12 := fun A S => by
    have := List.length_filter_le (fun v => cB (isRt A S v)) (List.range 12)
    rw [List.length_range] at this
    exact this
  have d12 : ∀ ps : List (Nat → Prop), dsj ps → (∀ P, P ∈ ps → (∃ v, v < 12 ∧ P v) ∧ ∀ v, P v → xN l v) → ps.length ≤ 12 := fun ps d h => by
    have h1 := dsj_sum (S := xN l) ps d (fun P hP => (h P hP).2)
    have h2 : gS (fun _ => 1) ps ≤ gS cN ps := gS_le _ _ _ (fun P hP => by
      obtain ⟨⟨v, v1, v2⟩, -⟩ := h P hP
      exact cN_pos v1 v2)
    have h3 : gS (fun _ : Nat → Prop => 1) ps = ps.length := by
      clear d h h1 h2
      induction ps with
      | nil => rfl
      | cons a b ih => show 1 + gS _ b = b.length + 1; rw [ih]; omega
    have := cN_12 (xN l)
    omega
  revert hk
  unfold xCut
  by_cases c1 : 1 < (rtL (xA1 l) (xN l)).length
  · rw [if_pos c1]
    intro _
    obtain ⟨p1, p2⟩ := parts_ok xA1_sy hS (List.Perm.refl (rtL (xA1 l) (xN l)))
    exact ⟨by show 2 ≤ 3; omega, by show 3 ≤ 5; omega, by show 2 ≤ (List.map _ _).length; rw [List.length_map]; exact c1, d12 _ p1 p2, p1, p2⟩
  rw [if_neg c1]
  by_cases c2 : 1 < (rtL (A2 (TC (xG l))) (xN l)).length
  · rw [if_pos c2]
    intro _
    have pm : ((ordR (TC (xG l)) (CN (A2 (TC (xG l))) (xN l)) (rtL (A2 (TC (xG l))) (xN l))).reverse).Perm (rtL (A2 (TC (xG l))) (xN l)) := (List.reverse_perm _).trans (ordR_perm _)
    obtain ⟨p1, p2⟩ := parts_ok A2.sy hS pm
    exact ⟨by show 2 ≤ 2; omega, by show 2 ≤ 5; omega, by show 2 ≤ (List.map _ _).length; rw [List.length_map, pm.length_eq]; exact c2, d12 _ p1 p2, p1, p2⟩
  rw [if_neg c2]
  by_cases c3 : 1 < (rtL (xA3 l) (xN l)).length ∧ cB (∀ r, r ∈ rtL (xA3 l) (xN l) → (∃ v, CN (xA3 l) (xN l) r v ∧ xB l v) ∧ ∃ v, CN (xA3 l) (xN l) r v ∧ xE l v) = true
  · rw [if_pos c3]
    intro _
    obtain ⟨p1, p2⟩ := parts_ok xA3_sy hS (List.Perm.refl (rtL (xA3 l) (xN l)))
    exact ⟨by show 2 ≤ 4; omega, by show 4 ≤ 5; omega, by show 2 ≤ (List.map _ _).length; rw [List.length_map]; exact c3.1, d12 _ p1 p2, p1, p2⟩
  rw [if_neg c3]
  by_cases c4 : 0 < (rtL (xA1 l) (xS1 l)).length
  · rw [if_pos c4]
    intro _
    obtain ⟨p1, p2⟩ := parts_ok xA1_sy (S := xS1 l) (fun v h => hS v h.1.1) (List.Perm.refl (rtL (xA1 l) (xS1 l)))
    have q1 : dsj (xBd l :: xPt (xA1 l) (xS1 l)) := List.pairwise_cons.mpr ⟨fun P hP v h1 h2 => h1.2 ((p2 P hP).2 v h2), p1⟩
    have q2 : ∀ P, P ∈ xBd l :: xPt (xA1 l) (xS1 l) → (∃ v, v < 12 ∧ P v) ∧ ∀ v, P v → xN l v := fun P hP => by
      rcases List.mem_cons.mp hP with rfl | hP
      · obtain ⟨v, h⟩ := h0
        exact ⟨⟨v, hS v (xB_N h), xB_N h, fun z => z.1.2 (Or.inl h)⟩, fun v h => h.1⟩
      · exact ⟨(p2 P hP).1, fun v h => ((p2 P hP).2 v h).1.1⟩
    exact ⟨by show 2 ≤ 5; omega, by show 5 ≤ 5; omega, by show 2 ≤ (List.map _ _).length + 1; rw [List.length_map]; omega, d12 _ q1 q2, q1, q2⟩
  · rw [if_neg c4]
    intro z
    exact (z rfl).elim
theorem xSt_mem {P : Nat → Prop} : ∀ (r c s : List Nat), s ∈ xSt P c r → s ≠ [] ∧ s.length ≤ c.length + r.length ∧ ∀ x, x ∈ s → x ∈ c ∨ (x ∈ r ∧ P x)
  | [], c, s, h => by
    unfold xSt at h
    by_cases e : c = []
    · rw [if_pos e] at h; exact absurd h List.not_mem_nil
    · rw [if_neg e] at h
      rw [List.mem_singleton.mp h]
      exact ⟨e, Nat.le_refl _, fun x hx => Or.inl hx⟩
  | y :: r, c, s, h => by
    unfold xSt at h
    rw [List.length_cons]
    by_cases e : cB (P y) = true
    · rw [if_pos e] at h
      obtain ⟨h1, h2, h3⟩ := xSt_mem r (c ++ [y]) s h
      rw [List.length_append] at h2
      refine ⟨h1, by have : [y].length = 1 := rfl; omega, fun x hx => ?_⟩
      rcases h3 x hx with z | z
      · rcases List.mem_append.mp z with z | z
        · exact Or.inl z
        · rw [List.mem_singleton.mp z]; exact Or.inr ⟨List.mem_cons_self, cB_t.mp e⟩
      · exact Or.inr ⟨List.mem_cons_of_mem _ z.1, z.2⟩
    · rw [if_neg e] at h
      by_cases f : c = []
      · rw [if_pos f] at h
        obtain ⟨h1, h2, h3⟩ := xSt_mem r [] s h
        have : ([] : List Nat).length = 0 := rfl
        exact ⟨h1, by omega, fun x hx => (h3 x hx).elim (fun z => absurd z List.not_mem_nil) (fun z => Or.inr ⟨List.mem_cons_of_mem _ z.1, z.2⟩)⟩
      · rw [if_neg f] at h
        rcases List.mem_cons.mp h with rfl | h
        · exact ⟨f, by omega, fun x hx => Or.inl hx⟩
        · obtain ⟨h1, h2, h3⟩ := xSt_mem r [] s h
          have : ([] : List Nat).length = 0 := rfl
          exact ⟨h1, by omega, fun x hx => (h3 x hx).elim (fun z => absurd z List.not_mem_nil) (fun z => Or.inr ⟨List.mem_cons_of_mem _ z.1, z.2⟩)⟩
theorem xSt_sum {P : Nat → Prop} : ∀ (r c : List Nat), gS List.length (xSt P c r) ≤ c.length + r.length
  | [], c => by
    unfold xSt
    by_cases e : c = []
    · rw [if_pos e]; exact Nat.zero_le _
    · rw [if_neg e]; exact Nat.le_refl _
  | y :: r, c => by
    unfold xSt
    rw [List.length_cons]
    by_cases e : cB (P y) = true
    · rw [if_pos e]
      have := xSt_sum (P := P) r (c ++ [y])
      rw [List.length_append] at this
      have z : [y].length = 1 := rfl
      omega
    · rw [if_neg e]
      have := xSt_sum (P := P) r []
      have z : ([] : List Nat).length = 0 := rfl
      by_cases f : c = []
      · rw [if_pos f]; omega
      · rw [if_neg f]
        show c.length + gS List.length (xSt P [] r) ≤ _
        omega
theorem xTk1_mem {k : Nat} {P : Nat → Prop} {r s : List Nat} (h : s ∈ xTk1 k P r) : s.length ≤ r.length ∧ (∀ x, x ∈ s → x ∈ r ∧ P x) ∧ (k = 5 → s ≠ []) := by
  unfold xTk1 at h
  by_cases c : k = 5
  · rw [if_pos c] at h
    obtain ⟨h1, h2, h3⟩ := xSt_mem r [] s h
    have z : ([] : List Nat).length = 0 := rfl
    exact ⟨by omega, fun x hx => (h3 x hx).elim (fun z => absurd z List.not_mem_nil) id, fun _ => h1⟩
  · rw [if_neg c] at h
    have fin : s = xW P r → s.length ≤ r.length ∧ (∀ x, x ∈ s → x ∈ r ∧ P x) ∧ (k = 5 → s ≠ []) := fun e => by
      subst e
      exact ⟨List.length_filter_le _ _, fun x hx => ⟨(List.mem_filter.mp hx).1, cB_t.mp (List.mem_filter.mp hx).2⟩, fun z => (c z).elim⟩
    by_cases d : k = 3 ∧ xW P r = []
    · rw [if_pos d] at h; exact absurd h List.not_mem_nil
    · rw [if_neg d] at h
      exact fin (List.mem_singleton.mp h)
theorem xTk1_sum {k : Nat} {P : Nat → Prop} {r : List Nat} : gS List.length (xTk1 k P r) ≤ r.length ∧ (k ≠ 5 → (xTk1 k P r).length ≤ 1) := by
  unfold xTk1
  by_cases c : k = 5
  · rw [if_pos c]
    have := xSt_sum (P := P) r []
    have z : ([] : List Nat).length = 0 := rfl
    exact ⟨by omega, fun z => (z c).elim⟩
  · rw [if_neg c]
    by_cases d : k = 3 ∧ xW P r = []
    · rw [if_pos d]; exact ⟨Nat.zero_le _, fun _ => Nat.zero_le _⟩
    · rw [if_neg d]; exact ⟨List.length_filter_le _ _, fun _ => Nat.le_refl _⟩
theorem gS_flat {α β : Type} (f : β → Nat) (g : α → List β) : ∀ l, gS f (l.flatMap g) = gS (fun a => gS f (g a)) l
  | [] => rfl
  | a :: l => by rw [List.flatMap_cons, gS_app, gS_flat f g l]; rfl
theorem gS_one {α : Type} : ∀ l : List α, gS (fun _ => 1) l = l.length
  | [] => rfl
  | a :: l => by show 1 + gS _ l = l.length + 1; rw [gS_one l]; omega
theorem xTake_ok {k : Nat} {P : Nat → Prop} {l : Rw} (ok : xOK l) : xOK (xTake k P l) ∧ ∀ v, xN (xTake k P l) v → P v ∧ xN l v := by
  obtain ⟨o1, o2, o3⟩ := ok
  have g1 : gS List.length (xTake k P l) ≤ gS List.length l := by
    unfold xTake
    rw [gS_flat]
    exact gS_le _ _ _ (fun r _ => xTk1_sum.1)
  refine ⟨⟨fun s hs => ?_, ?_, by omega⟩, fun v hv => ?_⟩
  · obtain ⟨r, h1, h2⟩ := List.mem_flatMap.mp hs
    obtain ⟨m1, m2, -⟩ := xTk1_mem h2
    refine ⟨Nat.le_trans m1 (o1 r h1).1, fun i hi => ?_⟩
    have := (m2 _ (mem_gd.mp ⟨i, hi, rfl⟩)).1
    obtain ⟨j, j1, j2⟩ := mem_gd.mpr this
    rw [← j2]
    exact (o1 r h1).2 j j1
  · by_cases c : k = 5
    · have : gS (fun _ => 1) (xTake k P l) ≤ gS List.length (xTake k P l) := gS_le _ _ _ (fun s hs => by
        obtain ⟨r, h1, h2⟩ := List.mem_flatMap.mp hs
        have := (xTk1_mem h2).2.2 c
        exact List.length_pos_iff.mpr this)
      rw [gS_one] at this
      omega
    · have e : (xTake k P l).length = gS (fun _ => 1) (xTake k P l) := (gS_one _).symm
      have : gS (fun r => gS (fun _ => 1) (xTk1 k P r)) l ≤ gS (fun _ => 1) l := gS_le _ _ _ (fun r _ => by
        show gS (fun _ => 1) (xTk1 k P r) ≤ 1
        rw [gS_one]; exact xTk1_sum.2 c)
      rw [e]
      unfold xTake
      rw [gS_flat]
      rw [gS_one] at this
      omega
  · obtain ⟨s, hs, h⟩ := xN_mem.mp hv
    obtain ⟨r, h1, h2⟩ := List.mem_flatMap.mp hs
    obtain ⟨-, m2, -⟩ := xTk1_mem h2
    exact ⟨(m2 v h).2, xN_mem.mpr ⟨r, h1, (m2 v h).1⟩⟩
/-! found: a net, and not a large one -/
theorem tSum_map {α : Type} (f : α → Tr) : ∀ l : List α, tSum (l.map f) = gS (fun a => tSz (f a)) l
  | [] => rfl
  | a :: l => by rw [List.map_cons, tSum_cons, tSum_map f l]; rfl
theorem gS_k {α : Type} (f : α → Nat) (k : Nat) : ∀ l : List α, gS (fun a => f a + k) l = gS f l + k * l.length
  | [] => rfl
  | a :: l => by show f a + k + gS _ l = f a + gS f l + k * (l.length + 1); rw [gS_k f k l, Nat.mul_succ]; omega
theorem gS_m {α : Type} (f : α → Nat) (k : Nat) : ∀ l : List α, gS (fun a => k * f a) l = k * gS f l
  | [] => rfl
  | a :: l => by show k * f a + gS _ l = k * (f a + gS f l); rw [gS_m f k l, Nat.mul_add]
theorem xNe_mem {l : Rw} {r : List Nat} : r ∈ xNe l ↔ r ∈ l ∧ r ≠ [] := by
  unfold xNe
  rw [List.mem_filter]
  cases r with
  | nil => simp
  | cons a r => simp
theorem xNe_len (l : Rw) : (xNe l).length ≤ l.length := List.length_filter_le _ _
theorem gS_flt {α : Type} (f : α → Nat) (p : α → Bool) : ∀ l : List α, gS f (l.filter p) ≤ gS f l
  | [] => Nat.le_refl _
  | a :: l => by
    have := gS_flt f p l
    by_cases c : p a = true
    · rw [List.filter_cons_of_pos c]
      show f a + _ ≤ f a + _
      omega
    · rw [List.filter_cons_of_neg c]
      show _ ≤ f a + _
      omega
theorem xNe_ok {l : Rw} (ok : xOK l) : xOK (xNe l) := ⟨fun r h => ok.1 r (xNe_mem.mp h).1, Nat.le_trans (xNe_len l) ok.2.1, Nat.le_trans (gS_flt _ _ _) ok.2.2⟩
theorem xNe_N {l : Rw} {v : Nat} : xN (xNe l) v ↔ xN l v := by
  rw [xN_mem, xN_mem]
  constructor
  · rintro ⟨r, h1, h2⟩; exact ⟨r, (xNe_mem.mp h1).1, h2⟩
  · rintro ⟨r, h1, h2⟩; exact ⟨r, xNe_mem.mpr ⟨h1, List.ne_nil_of_mem h2⟩, h2⟩
/-- rows, none of them empty, and at least one -/
def xNz (l : Rw) : Prop := (∀ r, r ∈ l → 0 < r.length) ∧ 0 < l.length
theorem xNe_nz {l : Rw} (h : ¬ (xNe l).length = 0) : xNz (xNe l) := ⟨fun _ hr => List.length_pos_iff.mpr (xNe_mem.mp hr).2, by omega⟩
theorem xNz.b {l : Rw} (h : xNz l) : ∃ v, xB l v := by
  obtain ⟨r, hr⟩ := List.exists_mem_of_length_pos h.2
  exact ⟨_, r, hr, h.1 r hr, rfl⟩
theorem leaf_OK {v : Nat} (h : v ≤ 12) : tOK (.var v) := ⟨by show v ≤ 16; omega, fun z => by have : 13 ≤ v := z; omega⟩
theorem two_OK {k : Nat} {a b : Tr} (h1 : 13 ≤ k) (h2 : k ≤ 16) (ha : tOK a) (hb : tOK b) : tOK (tMk k [a, b]) := ⟨tMk_G k h1 h2 _ (fun t ht => by
  rcases List.mem_cons.mp ht with rfl | ht
  · exact ha
  · rw [List.mem_singleton.mp ht]; exact hb), fun _ => by rw [tMk_len]; exact Nat.le_refl 2⟩
theorem two_sz {k : Nat} {a b : Tr} : tSz (tMk k [a, b]) = 1 + tSz a + tSz b := by
  rw [tMk_sz, tSum_cons, tSum_cons]
  show 1 + (tSz a + (tSz b + 0)) = _
  omega
theorem nmL_mem {S : Nat → Prop} {v : Nat} : v ∈ nmL S ↔ v < 12 ∧ S v := by
  unfold nmL
  rw [List.mem_filter, List.mem_range, cB_t]
theorem xFlw_ok {l : Rw} (h : 2 ≤ (nmL (xN l)).length) : tOK (xFlw l) ∧ tSz (xFlw l) = (nmL (xN l)).length + 3 := by
  have a1 : tOK (tMk 14 ((nmL (xN l)).map fun v => .var v)) := ⟨tMk_G 14 (by omega) (by omega) _ (fun t ht => by
    obtain ⟨v, h1, rfl⟩ := List.mem_map.mp ht
    exact leaf_OK (Nat.le_of_lt (by have := (nmL_mem.mp h1).1; omega))), fun _ => by rw [tMk_len, List.length_map]; exact h⟩
  refine ⟨two_OK (by omega) (by omega) a1 (leaf_OK (Nat.le_refl _)), ?_⟩
  unfold xFlw
  rw [two_sz, tMk_sz, tSum_map]
  show 1 + (1 + gS (fun _ => 1) _) + 1 = _
  rw [gS_one]
  omega
theorem nmL_one {S : Nat → Prop} (h : (nmL S).length = 1) : (nmL S).getD 0 0 < 12 ∧ S ((nmL S).getD 0 0) := nmL_mem.mp (mem_gd.mp ⟨0, by omega, rfl⟩)
theorem xOne_ok {l : Rw} (h : (nmL (xN l)).length = 1) : tOK (xOne l) ∧ tSz (xOne l) ≤ 3 := by
  have h12 := (nmL_one h).1
  unfold xOne
  by_cases c : cB (∃ r, r ∈ l ∧ 1 < r.length) = true
  · rw [if_pos c]
    exact ⟨two_OK (by omega) (by omega) (leaf_OK (by omega)) (leaf_OK (Nat.le_refl _)), by rw [two_sz]; show 1 + 1 + 1 ≤ 3; omega⟩
  · rw [if_neg c]
    exact ⟨leaf_OK (by omega), by show 1 ≤ 3; omega⟩
theorem cN_take {k : Nat} {P : Nat → Prop} {l : Rw} (ok : xOK l) : cN (xN (xTake k P l)) ≤ cN P := cN_le (fun v h => ((xTake_ok ok).2 v h).1)
theorem xNm_pos {l : Rw} (ok : xOK l) (nz : xNz l) : 1 ≤ (nmL (xN l)).length := by
  obtain ⟨v, h⟩ := nz.b
  exact cN_pos (xN_12 ok (xB_N h)) (xB_N h)
theorem xFull_ok {n : Nat} {rec : Rw → Tr} {l : Rw} (ok : xOK l) (nz : xNz l) (hr : ∀ l', xOK l' → tOK (rec l') ∧ tSz (rec l') + 3 ≤ 8 * max 1 (cN (xN l'))) : tOK (xFull n rec l) ∧ tSz (xFull n rec l) + 5 ≤ 8 * cN (xN l) := by
  have p1 := xNm_pos ok nz
  have ec : cN (xN l) = (nmL (xN l)).length := rfl
  unfold xFull
  by_cases c1 : (nmL (xN l)).length = 1
  · rw [if_pos c1]
    have := xOne_ok c1
    exact ⟨this.1, by omega⟩
  · rw [if_neg c1]
    by_cases c2 : (xCut l).1 = 0 ∨ n = 0
    · rw [if_pos c2]
      have := xFlw_ok (l := l) (by omega)
      exact ⟨this.1, by omega⟩
    · rw [if_neg c2]
      obtain ⟨k1, k2, k3, k4, k5, k6⟩ := xCut_ok ok nz.b (fun z => c2 (Or.inl z))
      refine ⟨⟨tMk_G _ (by omega) (by omega) _ (fun t ht => ?_), fun _ => by rw [tMk_len, List.length_map]; exact k3⟩, ?_⟩
      · obtain ⟨P, hP, rfl⟩ := List.mem_map.mp ht
        exact (hr _ (xTake_ok ok).1).1
      · rw [tMk_sz, tSum_map]
        have s1 : gS (fun P => tSz (rec (xTake (xCut l).1 P l)) + 3) (xCut l).2 ≤ gS (fun P => 8 * cN P) (xCut l).2 := gS_le _ _ _ (fun P hP => by
          obtain ⟨⟨v, v1, v2⟩, -⟩ := k6 P hP
          have h1 := (hr _ (xTake_ok (k := (xCut l).1) (P := P) ok).1).2
          have h2 := cN_take (k := (xCut l).1) (P := P) ok
          have h3 := cN_pos v1 v2
          omega)
        rw [gS_k, gS_m] at s1
        have s2 := dsj_sum (S := xN l) _ k5 (fun P hP => (k6 P hP).2)
        omega
theorem xFnd_ok : ∀ (n : Nat) (l : Rw), xOK l → tOK (xFnd n l) ∧ tSz (xFnd n l) + 3 ≤ 8 * max 1 (cN (xN l))
  | 0, l, _ => ⟨leaf_OK (Nat.le_refl _), by show 1 + 3 ≤ _; omega⟩
  | n + 1, l, ok => by
    unfold xFnd
    by_cases c : (xNe l).length = 0
    · rw [if_pos c]
      exact ⟨leaf_OK (Nat.le_refl _), by show 1 + 3 ≤ _; omega⟩
    · rw [if_neg c]
      obtain ⟨f1, f2⟩ := xFull_ok (n := n) (xNe_ok ok) (xNe_nz c) (xFnd_ok n)
      have e : cN (xN (xNe l)) ≤ cN (xN l) := cN_le (fun v h => xNe_N.mp h)
      by_cases d : (xNe l).length < l.length
      · rw [if_pos d]
        refine ⟨two_OK (by omega) (by omega) (leaf_OK (Nat.le_refl _)) f1, ?_⟩
        rw [two_sz]
        show 1 + 1 + _ + 3 ≤ _
        omega
      · rw [if_neg d]
        exact ⟨f1, by omega⟩
theorem xFnd_93 {n : Nat} {l : Rw} (ok : xOK l) : tSz (xFnd n l) ≤ 93 := by
  have := (xFnd_ok n l ok).2
  have h := cN_12 (xN l)
  omega
