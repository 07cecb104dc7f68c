/-! trees: a node's label, and its parts one behind the other (no junk: each is just one tree) -/
abbrev Tr : Type := Lean.Data.AC.Expr
def tLab : Tr → Nat
  | .var x => x
  | .op t _ => tLab t
def tLen : Tr → Nat
  | .var _ => 0
  | .op t _ => tLen t + 1
def tSz : Tr → Nat
  | .var _ => 1
  | .op t k => tSz t + tSz k
def tHt : Tr → Nat
  | .var _ => 0
  | .op t k => max (tHt t) (tHt k + 1)
def tFw : Tr → Nat
  | .var x => if x < 12 then 1 else 0
  | .op t k => if tLen t = 0 then tFw k else if tLab t = 16 then tFw t else if tLab t = 14 then min (tFw t) (tFw k) else tFw t + tFw k
def tKd (x : Nat) : Nat := if x < 12 then 0 else x - 11
def tNm (x : Nat) : Int32 := if x < 12 then nI x else -3
def tLb (k : Nat) (x : Int32) : Nat := if k = 0 then x.toNatClampNeg else 11 + k
/-- each part stands where parts may stand, and those with parts have two -/
def tG : Tr → Prop
  | .var x => x ≤ 16
  | .op t k => 13 ≤ tLab t ∧ tG t ∧ tG k ∧ (13 ≤ tLab k → 2 ≤ tLen k)
def tOK (t : Tr) : Prop := tG t ∧ (13 ≤ tLab t → 2 ≤ tLen t)
theorem tG_lab : ∀ t : Tr, tG t → tLab t ≤ 16
  | .var _, h => h
  | .op t _, h => tG_lab t h.2.1
theorem tG_leaf : ∀ t : Tr, tG t → tLab t < 13 → tLen t = 0
  | .var _, _, _ => rfl
  | .op t _, h, h2 => absurd h.1 (Nat.not_le.mpr h2)
theorem tG_0 : ∀ t : Tr, tLen t = 0 → t = .var (tLab t)
  | .var _, _ => rfl
  | .op _ _, h => absurd h (Nat.succ_ne_zero _)
theorem tSz_1 : ∀ t : Tr, 1 + tLen t ≤ tSz t
  | .var _ => Nat.le_refl _
  | .op t k => by
    have h1 := tSz_1 t
    have h2 := tSz_1 k
    show 1 + (tLen t + 1) ≤ tSz t + tSz k
    omega
theorem tHt_sz : ∀ t : Tr, tG t → 2 * tHt t ≤ tSz t ∧ (tLen t ≠ 1 → 2 * tHt t + 1 ≤ tSz t)
  | .var _, _ => ⟨Nat.zero_le _, fun _ => Nat.le_refl _⟩
  | .op t k, h => by
    obtain ⟨h1, h2, h3, h4⟩ := h
    obtain ⟨a1, a2⟩ := tHt_sz t h2
    obtain ⟨b1, b2⟩ := tHt_sz k h3
    have s1 := tSz_1 t
    have s2 := tSz_1 k
    have b3 : 2 * tHt k + 1 ≤ tSz k := b2 (by
      intro z
      by_cases q : 13 ≤ tLab k
      · have := h4 q; omega
      · have := tG_leaf k h3 (by omega); omega)
    show 2 * max (tHt t) (tHt k + 1) ≤ tSz t + tSz k ∧ (tLen t + 1 ≠ 1 → 2 * max (tHt t) (tHt k + 1) + 1 ≤ tSz t + tSz k)
    rcases Nat.le_total (tHt t) (tHt k + 1) with q | q
    · rw [Nat.max_eq_right q]
      exact ⟨by omega, fun _ => by omega⟩
    · rw [Nat.max_eq_left q]
      exact ⟨by omega, fun _ => by omega⟩
theorem tOK_ht {t : Tr} (h : tOK t) : 2 * tHt t + 1 ≤ tSz t := by
  refine (tHt_sz t h.1).2 (fun z => ?_)
  by_cases q : 13 ≤ tLab t
  · have := h.2 q; omega
  · have := tG_leaf t h.1 (by omega); omega
theorem tFw_sz : ∀ t : Tr, tFw t ≤ tSz t
  | .var x => by
    show (if x < 12 then 1 else 0) ≤ 1
    split <;> omega
  | .op t k => by
    have h1 := tFw_sz t
    have h2 := tFw_sz k
    show (if tLen t = 0 then tFw k else if tLab t = 16 then tFw t else if tLab t = 14 then min (tFw t) (tFw k) else tFw t + tFw k) ≤ tSz t + tSz k
    split
    · omega
    · split
      · omega
      · split
        · exact Nat.le_trans (Nat.min_le_left _ _) (by omega)
        · omega
theorem tLb_kd {x : Nat} (h : x ≤ 16) : tLb (tKd x) (tNm x) = x := by
  unfold tLb tKd tNm
  by_cases q : x < 12
  · rw [if_pos q, if_pos q, if_pos rfl, nI_clamp (by omega)]
  · rw [if_neg q, if_neg q, if_neg (by omega)]
    omega
/-! pieces as trees -/
def tFold (x : Nat) (f : Nat → Tr) (l : List Nat) : Tr := l.foldl (fun t j => .op t (f j)) (.var x)
def pTf (p : Mp) : Nat → Nat → Tr
  | 0, q => .var (tLb (pkd p q) (pnm p q))
  | n + 1, q => tFold (tLb (pkd p q) (pnm p q)) (pTf p n) (ppt p q)
def pT (p : Mp) (q : Nat) : Tr := pTf p (q + 1) q
theorem tFold_app (x : Nat) (f : Nat → Tr) (l : List Nat) (j : Nat) : tFold x f (l ++ [j]) = .op (tFold x f l) (f j) := by
  unfold tFold
  rw [List.foldl_append]
  rfl
theorem foldl_op_congr (f g : Nat → Tr) : ∀ (l : List Nat) (t : Tr), (∀ j, j ∈ l → f j = g j) → l.foldl (fun t j => Lean.Data.AC.Expr.op t (f j)) t = l.foldl (fun t j => Lean.Data.AC.Expr.op t (g j)) t
  | [], _, _ => rfl
  | x :: l, t, h => by
    show l.foldl _ (Lean.Data.AC.Expr.op t (f x)) = l.foldl _ (Lean.Data.AC.Expr.op t (g x))
    rw [h x List.mem_cons_self]
    exact foldl_op_congr f g l _ (fun j hj => h j (List.mem_cons_of_mem _ hj))
theorem tFold_congr {x : Nat} {f g : Nat → Tr} {l : List Nat} (h : ∀ j, j ∈ l → f j = g j) : tFold x f l = tFold x g l := foldl_op_congr f g l _ h
/-- lists from behind -/
theorem snocInd {P : List Nat → Prop} (h0 : P []) (h1 : ∀ l x, P l → P (l ++ [x])) (l : List Nat) : P l := by
  have key : ∀ r : List Nat, P r.reverse := by
    intro r
    induction r with
    | nil => exact h0
    | cons x r ih => rw [List.reverse_cons]; exact h1 _ _ ih
  have := key l.reverse
  rwa [List.reverse_reverse] at this
theorem tFold_lab (x : Nat) (f : Nat → Tr) : ∀ l, tLab (tFold x f l) = x := by
  apply snocInd
  · rfl
  · intro l j ih
    rw [tFold_app]
    exact ih
theorem tFold_len (x : Nat) (f : Nat → Tr) : ∀ l, tLen (tFold x f l) = l.length := by
  apply snocInd
  · rfl
  · intro l j ih
    rw [tFold_app, List.length_append]
    show tLen (tFold x f l) + 1 = l.length + 1
    rw [ih]
theorem tFold_sz (x : Nat) (f : Nat → Tr) : ∀ l, tSz (tFold x f l) = 1 + pSum (fun j => tSz (f j)) l := by
  apply snocInd
  · rfl
  · intro l j ih
    rw [tFold_app, pSum_app]
    show tSz (tFold x f l) + tSz (f j) = _
    rw [ih]
    omega
theorem tFold_G (x : Nat) (f : Nat → Tr) (hx : x ≤ 16) (h13 : 13 ≤ x) : ∀ l, (∀ j, j ∈ l → tOK (f j)) → tG (tFold x f l) := by
  apply snocInd
  · intro _; exact hx
  · intro l j ih h
    rw [tFold_app]
    have hj := h j (by simp)
    exact ⟨by rw [tFold_lab]; exact h13, ih (fun i hi => h i (by simp [hi])), hj.1, hj.2⟩
theorem pTf_fuel {p : Mp} (ok : pOK p) : ∀ n m q, q < pn p → q < n → q < m → pTf p n q = pTf p m q := by
  intro n
  induction n with
  | zero => intro m q _ h _; omega
  | succ n ih =>
    intro m q hq h1 h2
    obtain ⟨m, rfl⟩ : ∃ z, m = z + 1 := ⟨m - 1, by omega⟩
    show tFold _ (pTf p n) (ppt p q) = tFold _ (pTf p m) (ppt p q)
    refine tFold_congr (fun j hj => ?_)
    have := (ok.2 q hq).2.1 j hj
    exact ih m j (by omega) (by omega) (by omega)
theorem pT_eq {p : Mp} (ok : pOK p) {q : Nat} (hq : q < pn p) : pT p q = tFold (tLb (pkd p q) (pnm p q)) (pT p) (ppt p q) := by
  show tFold _ (pTf p q) (ppt p q) = _
  refine tFold_congr (fun j hj => ?_)
  have := (ok.2 q hq).2.1 j hj
  exact pTf_fuel ok q (j + 1) j (by omega) this (by omega)
theorem pT_sz {p : Mp} (ok : pOK p) : ∀ q, q < pn p → tSz (pT p q) = psz p q := by
  intro q
  induction q using Nat.strongRecOn with
  | ind q ih =>
    intro hq
    rw [pT_eq ok hq, tFold_sz, (ok.2 q hq).2.2.1]
    congr 1
    refine pSum_congr _ _ _ (fun j hj => ?_)
    have := (ok.2 q hq).2.1 j hj
    exact ih j this (by omega)
theorem pT_lab {p : Mp} (ok : pOK p) {q : Nat} (hq : q < pn p) : tLab (pT p q) = tLb (pkd p q) (pnm p q) := by rw [pT_eq ok hq, tFold_lab]
theorem pT_len {p : Mp} (ok : pOK p) {q : Nat} (hq : q < pn p) : tLen (pT p q) = (ppt p q).length := by rw [pT_eq ok hq, tFold_len]
theorem plb_16 {p : Mp} (ok : pOK p) {q : Nat} (hq : q < pn p) : tLb (pkd p q) (pnm p q) ≤ 16 ∧ (13 ≤ tLb (pkd p q) (pnm p q) ↔ 2 ≤ pkd p q) ∧ tKd (tLb (pkd p q) (pnm p q)) = pkd p q ∧ tNm (tLb (pkd p q) (pnm p q)) = pnm p q := by
  obtain ⟨h1, -, -, -, h5⟩ := ok.2 q hq
  unfold tLb
  rcases h5 with ⟨a, b, c⟩ | ⟨a, b, c⟩ | ⟨a, b, c⟩
  · obtain ⟨e, l⟩ := mnm_nI b
    rw [a, if_pos rfl]
    generalize (pnm p q).toNatClampNeg = x at e l
    rw [e]
    refine ⟨by omega, by omega, ?_, ?_⟩
    · unfold tKd; rw [if_pos l]
    · unfold tNm; rw [if_pos l]
  · rw [a, if_neg (by omega), b]
    exact ⟨by omega, by omega, rfl, rfl⟩
  · rw [if_neg (by omega), b]
    refine ⟨by omega, by omega, ?_, ?_⟩
    · unfold tKd; rw [if_neg (by omega)]; omega
    · unfold tNm; rw [if_neg (by omega)]
theorem pT_OK {p : Mp} (ok : pOK p) : ∀ q, q < pn p → tOK (pT p q) := by
  intro q
  induction q using Nat.strongRecOn with
  | ind q ih =>
    intro hq
    obtain ⟨h1, h2, h3, -⟩ := plb_16 ok hq
    obtain ⟨-, g2, -, -, g5⟩ := ok.2 q hq
    rw [pT_eq ok hq]
    by_cases c : 13 ≤ tLb (pkd p q) (pnm p q)
    · refine ⟨tFold_G _ _ h1 c _ (fun j hj => ih j (g2 j hj) (by have := g2 j hj; omega)), fun _ => ?_⟩
      rw [tFold_len]
      rcases g5 with ⟨a, -⟩ | ⟨a, -⟩ | ⟨a, -, b⟩
      · have := h2.mp c; omega
      · have := h2.mp c; omega
      · exact b
    · have hl : ppt p q = [] := by
        rcases g5 with ⟨a, -, b⟩ | ⟨a, -, b⟩ | ⟨a, -, b⟩
        · exact b
        · exact b
        · exact absurd (h2.mpr a) c
      rw [hl]
      exact ⟨h1, fun z => absurd z c⟩
theorem pT_ht {p : Mp} (ok : pOK p) {q : Nat} (hq : q < pn p) : tHt (pT p q) ≤ 29 := by
  have h1 := tOK_ht (pT_OK ok q hq)
  rw [pT_sz ok q hq] at h1
  have := (ok.2 q hq).2.2.2.1
  omega
/-! one piece more -/
theorem pAdd_OK {p : Mp} (ok : pOK p) {k : Nat} {x : Int32} {l : List Nat} (hn : pn p < 200) (hk : k ≤ 5) (hl : ∀ j, j ∈ l → j < pn p) (hs : 1 + pSum (psz p) l ≤ 60)
    (h : (k = 0 ∧ mnm x 12 ∧ l = []) ∨ (k = 1 ∧ x = -3 ∧ l = []) ∨ (2 ≤ k ∧ x = -3 ∧ 2 ≤ l.length)) : pOK (pAdd p k x l) := by
  refine ⟨by show pn p + 1 ≤ 200; omega, fun q hq => ?_⟩
  have hq' : q < pn p + 1 := hq
  by_cases e : q = pn p
  · subst e
    rw [show pkd (pAdd p k x l) (pn p) = k from m1_s, show pnm (pAdd p k x l) (pn p) = x from m1_s, show ppt (pAdd p k x l) (pn p) = l from m1_s, show psz (pAdd p k x l) (pn p) = 1 + pSum (psz p) l from m1_s]
    refine ⟨hk, hl, ?_, hs, h⟩
    congr 1
    refine pSum_congr _ _ _ (fun j hj => ?_)
    have := hl j hj
    exact (m1_n (by omega)).symm
  · rw [show pkd (pAdd p k x l) q = pkd p q from m1_n e, show pnm (pAdd p k x l) q = pnm p q from m1_n e, show ppt (pAdd p k x l) q = ppt p q from m1_n e, show psz (pAdd p k x l) q = psz p q from m1_n e]
    obtain ⟨a1, a2, a3, a4, a5⟩ := ok.2 q (by omega)
    refine ⟨a1, a2, ?_, a4, a5⟩
    rw [a3]
    congr 1
    refine pSum_congr _ _ _ (fun j hj => ?_)
    have := a2 j hj
    exact (m1_n (by omega)).symm
theorem pAdd_Tf {p : Mp} (ok : pOK p) {k : Nat} {x : Int32} {l : List Nat} : ∀ n q, q < pn p → pTf (pAdd p k x l) n q = pTf p n q := by
  intro n
  induction n with
  | zero =>
    intro q hq
    show Lean.Data.AC.Expr.var _ = Lean.Data.AC.Expr.var _
    rw [show pkd (pAdd p k x l) q = pkd p q from m1_n (by omega), show pnm (pAdd p k x l) q = pnm p q from m1_n (by omega)]
  | succ n ih =>
    intro q hq
    show tFold _ _ _ = tFold _ _ _
    rw [show pkd (pAdd p k x l) q = pkd p q from m1_n (by omega), show pnm (pAdd p k x l) q = pnm p q from m1_n (by omega), show ppt (pAdd p k x l) q = ppt p q from m1_n (by omega)]
    refine tFold_congr (fun j hj => ih j ?_)
    have := (ok.2 q hq).2.1 j hj
    omega
theorem pAdd_T {p : Mp} (ok : pOK p) {k : Nat} {x : Int32} {l : List Nat} {q : Nat} (hq : q < pn p) : pT (pAdd p k x l) q = pT p q := pAdd_Tf ok _ _ hq
theorem pAdd_Tn {p : Mp} {k : Nat} {x : Int32} {l : List Nat} (ok' : pOK (pAdd p k x l)) (ok : pOK p) : pT (pAdd p k x l) (pn p) = tFold (tLb k x) (pT p) l := by
  have hlt : pn p < pn (pAdd p k x l) := Nat.lt_succ_self _
  have hl := (ok'.2 (pn p) hlt).2.1
  rw [pT_eq ok' hlt]
  rw [show ppt (pAdd p k x l) (pn p) = l from m1_s] at hl ⊢
  rw [show pkd (pAdd p k x l) (pn p) = k from m1_s, show pnm (pAdd p k x l) (pn p) = x from m1_s]
  exact tFold_congr (fun j hj => pAdd_T ok (hl j hj))
theorem pDeed_OK {p : Mp} (ok : pOK p) (a : Int32) : pOK (pDeed p a).2 := by
  have h200 := ok.1
  unfold pDeed
  by_cases c2 : a = -1
  · rw [if_pos c2]
    by_cases c3 : pn p = 200
    · rw [if_pos c3]; exact ok
    · rw [if_neg c3]
      exact pAdd_OK ok (by omega) (by decide) (fun j hj => absurd hj List.not_mem_nil) (show 1 + 0 ≤ 60 by omega) (Or.inr (Or.inl ⟨rfl, rfl, rfl⟩))
  · rw [if_neg c2]
    by_cases c1 : mnm a 12
    · rw [if_pos c1]
      by_cases c3 : pn p = 200
      · rw [if_pos c3]; exact ok
      · rw [if_neg c3]
        exact pAdd_OK ok (by omega) (by decide) (fun j hj => absurd hj List.not_mem_nil) (show 1 + 0 ≤ 60 by omega) (Or.inl ⟨rfl, c1, rfl⟩)
    · rw [if_neg c1]; exact ok
theorem pSum_2 (z : Nat → Nat) (a b : Nat) : pSum z [a, b] = z a + z b := by
  rw [pSum_cons, pSum_cons]
  rfl
theorem pJoin_OK {p : Mp} (ok : pOK p) (k a b : Int32) : pOK (pJoin p k a b).2 := by
  have h200 := ok.1
  unfold pJoin
  by_cases c : (2 ≤ k.toInt ∧ k.toInt ≤ 5) ∧ mnm a (pn p) ∧ mnm b (pn p)
  · rw [if_pos c]
    by_cases c3 : pn p = 200
    · rw [if_pos c3]; exact ok
    · rw [if_neg c3]
      by_cases c4 : psz p a.toNatClampNeg + psz p b.toNatClampNeg + 1 ≤ 60
      · rw [if_pos c4]
        have hk6 : mnm k 6 := ⟨by omega, by omega⟩
        obtain ⟨ek, lk⟩ := mnm_nI hk6
        obtain ⟨ea, la⟩ := mnm_nI c.2.1
        obtain ⟨eb, lb⟩ := mnm_nI c.2.2
        have k2 := c.1.1
        generalize k.toNatClampNeg = q at ek lk
        subst ek
        rw [nI_toInt (by omega)] at k2
        refine pAdd_OK ok (by omega) (by omega) (fun j hj => ?_) ?_ (Or.inr (Or.inr ⟨by omega, rfl, Nat.le_refl _⟩))
        · rcases List.mem_cons.mp hj with rfl | hj
          · exact la
          · rw [List.mem_singleton.mp hj]; exact lb
        · rw [pSum_2]; omega
      · rw [if_neg c4]; exact ok
  · rw [if_neg c]; exact ok
theorem pMore_OK {p : Mp} (ok : pOK p) (a b : Int32) : pOK (pMore p a b).2 := by
  have h200 := ok.1
  unfold pMore
  by_cases c : mnm a (pn p) ∧ mnm b (pn p)
  · rw [if_pos c]
    by_cases ck : 2 ≤ pkd p a.toNatClampNeg
    · rw [if_pos ck]
      by_cases c3 : pn p = 200
      · rw [if_pos c3]; exact ok
      · rw [if_neg c3]
        by_cases c4 : psz p a.toNatClampNeg + psz p b.toNatClampNeg ≤ 60
        · rw [if_pos c4]
          obtain ⟨-, la⟩ := mnm_nI c.1
          obtain ⟨-, lb⟩ := mnm_nI c.2
          obtain ⟨g1, g2, g3, g4, g5⟩ := ok.2 _ la
          refine pAdd_OK ok (by omega) g1 (fun j hj => ?_) ?_ (Or.inr (Or.inr ⟨ck, rfl, ?_⟩))
          · rcases List.mem_append.mp hj with hj | hj
            · have := g2 j hj; omega
            · rw [List.mem_singleton.mp hj]; exact lb
          · rw [pSum_app]; omega
          · rw [List.length_append]
            rcases g5 with ⟨z, -⟩ | ⟨z, -⟩ | ⟨-, -, z⟩
            · omega
            · omega
            · omega
        · rw [if_neg c4]; exact ok
    · rw [if_neg ck]; exact ok
  · rw [if_neg c]; exact ok
/-! parts of a tree -/
def tPre : Tr → Nat → Tr
  | .var x, _ => .var x
  | .op t k, j => if tLen t < j then .op t k else tPre t j
def tKid : Tr → Nat → Tr
  | .var x, _ => .var x
  | .op t k, j => if j = tLen t then k else tKid t j
theorem tPre_0 : ∀ t : Tr, tPre t 0 = .var (tLab t)
  | .var _ => rfl
  | .op t k => by
    show (if tLen t < 0 then _ else tPre t 0) = _
    rw [if_neg (Nat.not_lt_zero _), tPre_0 t]
    rfl
theorem tPre_all : ∀ t : Tr, tPre t (tLen t) = t
  | .var _ => rfl
  | .op t k => by
    show (if tLen t < tLen t + 1 then Lean.Data.AC.Expr.op t k else _) = _
    rw [if_pos (Nat.lt_succ_self _)]
theorem tPre_S : ∀ (t : Tr) (j : Nat), j < tLen t → tPre t (j + 1) = .op (tPre t j) (tKid t j)
  | .var _, _, h => absurd h (Nat.not_lt_zero _)
  | .op t k, j, h => by
    have h' : j < tLen t + 1 := h
    show (if tLen t < j + 1 then Lean.Data.AC.Expr.op t k else tPre t (j + 1)) = .op (if tLen t < j then _ else tPre t j) (if j = tLen t then k else tKid t j)
    rw [if_neg (show ¬ tLen t < j by omega)]
    by_cases e : j = tLen t
    · subst e
      rw [if_pos (Nat.lt_succ_self _), if_pos rfl, tPre_all]
    · rw [if_neg (by omega), if_neg e, tPre_S t j (by omega)]
theorem tPre_len : ∀ (t : Tr) (j : Nat), j ≤ tLen t → tLen (tPre t j) = j
  | t, 0, _ => by rw [tPre_0]; rfl
  | t, j + 1, h => by
    rw [tPre_S t j (by omega)]
    show tLen (tPre t j) + 1 = _
    rw [tPre_len t j (by omega)]
theorem tPre_lab : ∀ (t : Tr) (j : Nat), tLab (tPre t j) = tLab t
  | .var _, _ => rfl
  | .op t k, j => by
    show tLab (if tLen t < j then Lean.Data.AC.Expr.op t k else tPre t j) = tLab t
    by_cases e : tLen t < j
    · rw [if_pos e]; rfl
    · rw [if_neg e]; exact tPre_lab t j
theorem tPre_G : ∀ (t : Tr) (j : Nat), tG t → tG (tPre t j)
  | .var _, _, h => h
  | .op t k, j, h => by
    show tG (if tLen t < j then Lean.Data.AC.Expr.op t k else tPre t j)
    by_cases e : tLen t < j
    · rw [if_pos e]; exact h
    · rw [if_neg e]; exact tPre_G t j h.2.1
theorem tKid_OK : ∀ (t : Tr) (j : Nat), tG t → j < tLen t → tOK (tKid t j)
  | .var _, _, _, h => absurd h (Nat.not_lt_zero _)
  | .op t k, j, g, h => by
    have h' : j < tLen t + 1 := h
    show tOK (if j = tLen t then k else tKid t j)
    by_cases e : j = tLen t
    · rw [if_pos e]; exact ⟨g.2.2.1, g.2.2.2⟩
    · rw [if_neg e]; exact tKid_OK t j g.2.1 (by omega)
theorem tKid_ht : ∀ (t : Tr) (j : Nat), j < tLen t → tHt (tKid t j) < tHt t
  | .var _, _, h => absurd h (Nat.not_lt_zero _)
  | .op t k, j, h => by
    have h' : j < tLen t + 1 := h
    show tHt (if j = tLen t then k else tKid t j) < max (tHt t) (tHt k + 1)
    by_cases e : j = tLen t
    · rw [if_pos e]; exact Nat.lt_of_lt_of_le (Nat.lt_succ_self _) (Nat.le_max_right _ _)
    · rw [if_neg e]; exact Nat.lt_of_lt_of_le (tKid_ht t j (by omega)) (Nat.le_max_left _ _)
theorem tKid_sz : ∀ (t : Tr) (j : Nat), j < tLen t → tSz (tKid t j) < tSz t
  | .var _, _, h => absurd h (Nat.not_lt_zero _)
  | .op t k, j, h => by
    have h' : j < tLen t + 1 := h
    have h1 := tSz_1 t
    have h2 := tSz_1 k
    show tSz (if j = tLen t then k else tKid t j) < tSz t + tSz k
    by_cases e : j = tLen t
    · rw [if_pos e]; omega
    · rw [if_neg e]
      have := tKid_sz t j (by omega)
      omega
theorem tPre_sz : ∀ (t : Tr) (j : Nat), tSz (tPre t j) ≤ tSz t
  | .var _, _ => Nat.le_refl _
  | .op t k, j => by
    show tSz (if tLen t < j then Lean.Data.AC.Expr.op t k else tPre t j) ≤ tSz t + tSz k
    by_cases e : tLen t < j
    · rw [if_pos e]; exact Nat.le_refl _
    · rw [if_neg e]; exact Nat.le_trans (tPre_sz t j) (Nat.le_add_right _ _)
theorem tFold_kid (x : Nat) (f : Nat → Tr) : ∀ (l : List Nat) (j : Nat), j < l.length → tKid (tFold x f l) j = f (l.getD j 0) := by
  apply snocInd
  · intro j hj; exact absurd hj (Nat.not_lt_zero _)
  · intro l y ih j hj
    rw [tFold_app]
    show (if j = tLen (tFold x f l) then f y else tKid (tFold x f l) j) = _
    rw [tFold_len]
    by_cases e : j = l.length
    · subst e
      rw [if_pos rfl, getD_app2]
    · rw [List.length_append] at hj
      have hj' : j < l.length + 1 := hj
      rw [if_neg e, ih j (by omega), getD_app1 _ _ _ (by omega)]
