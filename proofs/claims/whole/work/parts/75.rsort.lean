/-! gathering, on the reference's side -/
def sg {α : Type} (nt : Nat → α) (g : Nat → Nat) (a : Nat) : Nat → List α
  | 0 => []
  | n + 1 => sg nt g a n ++ [nt (g (a + n))]
theorem sg_len {α : Type} (nt : Nat → α) (g : Nat → Nat) (a : Nat) : ∀ n, (sg nt g a n).length = n
  | 0 => rfl
  | n + 1 => by
    show (sg nt g a n ++ [nt (g (a + n))]).length = _
    rw [List.length_append, sg_len nt g a n]
    rfl
theorem sg_congr {α : Type} {nt nt' : Nat → α} {g g' : Nat → Nat} {a : Nat} : ∀ n, (∀ i, i < n → nt (g (a + i)) = nt' (g' (a + i))) → sg nt g a n = sg nt' g' a n
  | 0, _ => rfl
  | n + 1, h => by
    show sg nt g a n ++ [nt (g (a + n))] = sg nt' g' a n ++ [nt' (g' (a + n))]
    rw [sg_congr n (fun i hi => h i (by omega)), h n (by omega)]
theorem sg_cons {α : Type} (nt : Nat → α) (g : Nat → Nat) (a : Nat) : ∀ n, sg nt g a (n + 1) = nt (g a) :: sg nt g (a + 1) n
  | 0 => rfl
  | n + 1 => by
    show sg nt g a (n + 1) ++ [nt (g (a + (n + 1)))] = nt (g a) :: (sg nt g (a + 1) n ++ [nt (g (a + 1 + n))])
    rw [sg_cons nt g a n, show a + (n + 1) = a + 1 + n by omega]
    rfl
theorem sg_get (nt : Nat → Tr) (g : Nat → Nat) : ∀ (n a j : Nat), j < n → (sg nt g a n).getD j (.var 0) = nt (g (a + j))
  | 0, _, _, h => absurd h (Nat.not_lt_zero _)
  | n + 1, a, 0, _ => by rw [sg_cons]; rfl
  | n + 1, a, j + 1, h => by
    rw [sg_cons]
    show (sg nt g (a + 1) n).getD j (.var 0) = _
    rw [sg_get nt g n (a + 1) j (by omega), show a + 1 + j = a + (j + 1) by omega]
theorem sg_sum_le (nt : Nat → Tr) (g : Nat → Nat) {n j : Nat} (h : j < n) : tSz (nt (g j)) ≤ tSum (sg nt g 0 n) := by
  have key : ∀ m, j + m < n + m → tSz (nt (g j)) ≤ tSum (sg nt g 0 (j + 1 + m)) := by
    intro m
    induction m with
    | zero =>
      intro _
      show _ ≤ tSum (sg nt g 0 j ++ [nt (g (0 + j))])
      rw [tSum_app, tSum_cons, Nat.zero_add]
      omega
    | succ m ih =>
      intro _
      have := ih (by omega)
      show _ ≤ tSum (sg nt g 0 (j + 1 + m) ++ [nt (g (0 + (j + 1 + m)))])
      rw [tSum_app]
      omega
  have := key (n - (j + 1)) (by omega)
  rwa [show j + 1 + (n - (j + 1)) = n by omega] at this
abbrev gN (g : Nat → Nat) (len : Nat) : List Nat := sg (fun z => z) g 0 len
/-- the gathered nodes -/
def gl (V : Nat → Prop) (s : Zr) (N : Nat) (g : Nat → Nat) (len : Nat) : Prop := s 0 25 = nI len ∧ ∀ i, i < len → s 21 i = nI (g i) ∧ g i < N ∧ V (g i)
abbrev sGa (a k : Nat) : Prop := a = 19 ∨ a = 20 ∨ a = 21 ∨ (a = 0 ∧ k = 25)
theorem rg0_eq {V : Nat → Prop} {s : Zr} {N L : Nat} {nt : Nat → Tr} (st : nSq V s N L nt) (hN : N ≤ 200) (hL : L ≤ 20000) (hG : ∀ x, x < N → V x → tG (nt x)) {g : Nat → Nat} {len x lab : Nat} (G : gl V s N g len) (hx : x < N) (vx : V x) (h13 : 13 ≤ lab) (h16 : lab ≤ 16) (hz : tSum (sg nt g 0 len) < 190) :
    zS (fX6_gathers0 s (nI (tKd lab)) (nI x)) (fun s' => ∃ g' len', gl V s' N g' len' ∧ sg nt g' 0 len' = rG0 lab (sg nt g 0 len) (nt x) ∧ rOnly sGa s s' ∧ (gN g' len' = gN g len ∨ gN g' len' = gN g len ++ [x])) := by
  have hl := tSum_len (sg nt g 0 len)
  rw [sg_len] at hl
  unfold fX6_gathers0
  let hs : Nat → Prop := fun j => lab = 14 ∧ (sg nt g 0 j).any (fun a => tCmp a (nt x) == 0) = true
  have step : ∀ j, ((sg nt g 0 (j + 1)).any (fun a => tCmp a (nt x) == 0) = true) ↔ ((sg nt g 0 j).any (fun a => tCmp a (nt x) == 0) = true ∨ tCmp (nt (g j)) (nt x) = 0) := fun j => by
    show ((sg nt g 0 j ++ [nt (g (0 + j))]).any _ = true) ↔ _
    rw [Nat.zero_add, List.any_append]
    simp
  refine zS.b (R1 := fun r => r.1 = (if lab = 14 ∧ (sg nt g 0 len).any (fun a => tCmp a (nt x) == 0) = true then 1 else 0) ∧ rOnly sCp s r.2) ?_ (fun ⟨w, s1⟩ ⟨hw, o1⟩ => ?_)
  · refine zloop_inv (fun (n : Nat) (q : Int32 × Int32 × Zr) => ∃ j, n = len - j ∧ j ≤ len ∧ q.2.1 = nI j ∧ q.1 = (if lab = 14 ∧ (sg nt g 0 j).any (fun a => tCmp a (nt x) == 0) = true then 1 else 0) ∧ rOnly sCp s q.2.2) _ ?_ len _ _ ⟨0, rfl, Nat.zero_le _, rfl, (if_neg (fun z => by have := z.2; simp [sg] at this)).symm, rOnly.rf⟩ (by rw [zFU_v]; omega)
    rintro n ⟨v1, v2, s3⟩ ⟨j, hn, hj, e2, e1, o⟩
    dsimp only at e1 e2 o
    subst e2
    have n25 : s3 0 25 = nI len := (o 0 25 (by omega)).trans G.1
    by_cases z : j = len
    · subst z
      refine Or.inr ⟨(v1, s3), ?_, e1, o⟩
      show (if s3 0 25 ≤ nI j then _ else _) = _
      rw [if_pos (show s3 0 25 ≤ nI j by rw [n25]; exact nI_le (Nat.le_refl _) (by omega))]
    · have hj' : j < len := by omega
      obtain ⟨g1, g2, g3⟩ := G.2 j hj'
      refine Or.inl ?_
      show ∃ s' m, (if s3 0 25 ≤ nI j then _ else _) = _ ∧ _
      rw [if_neg (show ¬ s3 0 25 ≤ nI j by rw [n25]; exact nI_nle' (by omega) hj')]
      by_cases c1 : v1 = 0
      · have no : ¬ (lab = 14 ∧ (sg nt g 0 j).any (fun a => tCmp a (nt x) == 0) = true) := fun z => by rw [if_pos z] at e1; rw [e1] at c1; exact absurd c1 (by decide)
        rw [if_pos c1]
        by_cases c2 : lab = 14
        · rw [if_pos ((tKd_3 h16).mpr c2), rd21 (by omega), Option.bind_some, o 21 j (by omega), g1]
          obtain ⟨v, s4, q1, q2, q3⟩ := rcmpV_eq (nSq.only o st (by omega)) hN hL hG g2 hx g3 vx (by have := sg_sum_le nt g hj'; omega)
          rw [q1, Option.bind_some]
          by_cases c3 : tCmp (nt (g j)) (nt x) = 0
          · refine ⟨(1, nI (j + 1), s4), len - (j + 1), ?_, by omega, j + 1, rfl, by omega, rfl, ?_, o.tr q3⟩
            · show (Option.bind (if v = 0 then _ else _) _) = _
              rw [if_pos (q2.1.mpr c3), Option.bind_some, nI_1]
            · rw [if_pos ⟨c2, (step j).mpr (Or.inr c3)⟩]
          · refine ⟨(0, nI (j + 1), s4), len - (j + 1), ?_, by omega, j + 1, rfl, by omega, rfl, ?_, o.tr q3⟩
            · show (Option.bind (if v = 0 then _ else _) _) = _
              rw [if_neg (fun z => c3 (q2.1.mp z)), Option.bind_some, nI_1]
            · rw [if_neg (fun z => ((step j).mp z.2).elim (fun y => no ⟨c2, y⟩) c3)]
        · rw [if_neg (fun z => c2 ((tKd_3 h16).mp z)), Option.bind_some]
          exact ⟨(0, nI (j + 1), s3), len - (j + 1), by rw [nI_1], by omega, j + 1, rfl, by omega, rfl, by rw [if_neg (fun z => c2 z.1)], o⟩
      · have yes : lab = 14 ∧ (sg nt g 0 j).any (fun a => tCmp a (nt x) == 0) = true := by
          by_cases y : lab = 14 ∧ (sg nt g 0 j).any (fun a => tCmp a (nt x) == 0) = true
          · exact y
          · rw [if_neg y] at e1; exact absurd e1 c1
        rw [if_neg c1, Option.bind_some]
        exact ⟨(1, nI (j + 1), s3), len - (j + 1), by rw [nI_1], by omega, j + 1, rfl, by omega, rfl, by rw [if_pos ⟨yes.1, (step j).mpr (Or.inl yes.2)⟩], o⟩
  · have n25 : s1 0 25 = nI len := (o1 0 25 (by omega)).trans G.1
    have G1 : gl V s1 N g len := ⟨n25, fun i hi => ⟨(o1 21 i (by omega)).trans (G.2 i hi).1, (G.2 i hi).2⟩⟩
    have os : rOnly sGa s s1 := o1.mono (fun a k z => by omega)
    dsimp only at hw
    unfold rG0
    by_cases c : lab = 14 ∧ (sg nt g 0 len).any (fun a => tCmp a (nt x) == 0) = true
    · rw [if_pos c]
      rw [if_pos c] at hw
      refine ⟨s1, ?_, g, len, G1, rfl, os, Or.inl rfl⟩
      show (Option.bind (if w = 0 then _ else _) _) = _
      rw [if_neg (by rw [hw]; decide)]
      rfl
    · rw [if_neg c]
      rw [if_neg c] at hw
      refine ⟨u2 (u2 s1 21 len (nI x)) 0 25 (nI (len + 1)), ?_, m1 g len x, len + 1, ⟨u2_s, fun i hi => ?_⟩, ?_, (os.tr (rOnly.u (by omega))).tr (rOnly.u (by omega)), Or.inr ?_⟩
      · show (Option.bind (if w = 0 then _ else _) _) = _
        rw [if_pos hw, n25, wr21 (by omega), Option.bind_some, Option.bind_some, u2_a (by decide), n25, nI_1]
        rfl
      · rw [u2_a (by decide)]
        by_cases e : i = len
        · subst e; rw [u2_s, m1_s]; exact ⟨rfl, hx, vx⟩
        · rw [u2_n (by omega), m1_n e]; exact G1.2 i (by omega)
      · show sg nt (m1 g len x) 0 len ++ [nt (m1 g len x (0 + len))] = _
        rw [Nat.zero_add, m1_s]
        congr 1
        exact sg_congr len (fun i hi => by rw [m1_n (by omega)])
      · show sg (fun z => z) (m1 g len x) 0 len ++ [m1 g len x (0 + len)] = _
        rw [Nat.zero_add, m1_s]
        congr 1
        exact sg_congr len (fun i hi => by rw [m1_n (by omega)])
theorem tKids_S (t : Tr) (j : Nat) (h : j < tLen t) : tKids (tPre t (j + 1)) = tKids (tPre t j) ++ [tKid t j] := by rw [tPre_S t j h]; rfl
theorem tKids_0 (t : Tr) : tKids (tPre t 0) = [] := by rw [tPre_0]; rfl
theorem rG0_sum (lab : Nat) (G : List Tr) (u : Tr) : tSum (rG0 lab G u) ≤ tSum G + tSz u := by
  unfold rG0
  split
  · omega
  · rw [tSum_app, tSum_cons]; show tSum G + (tSz u + 0) ≤ _; omega
theorem rG0_fold (lab : Nat) : ∀ (us G : List Tr), tSum (us.foldl (rG0 lab) G) ≤ tSum G + tSum us
  | [], G => by show tSum G ≤ tSum G + 0; omega
  | u :: us, G => by
    have h1 := rG0_fold lab us (rG0 lab G u)
    have h2 := rG0_sum lab G u
    rw [tSum_cons]
    show tSum (us.foldl (rG0 lab) (rG0 lab G u)) ≤ _
    omega
theorem rTk_sum (lab : Nat) (G : List Tr) (u : Tr) : tSum (rTk lab G u) ≤ tSum G + tSz u := by
  unfold rTk
  split
  · omega
  · split
    · have := rG0_fold lab (tKids u) G
      have := tKids_sum u
      omega
    · exact rG0_sum lab G u
theorem tKids_pre_sum (t : Tr) (j : Nat) : tSum (tKids (tPre t j)) < tSz t := by
  have := tKids_sum (tPre t j)
  have := tPre_sz t j
  omega
def nk (s : Zr) (x j : Nat) : Nat := (s 17 ((s 15 x).toNatClampNeg + j)).toNatClampNeg
/-- the nodes of a node's parts -/
def nks (s : Zr) (x : Nat) : Nat → List Nat := sg (fun z => z) (nk s x) 0
theorem rgat_eq {V : Nat → Prop} {s : Zr} {N L : Nat} {nt : Nat → Tr} (st : nSq V s N L nt) (hN : N ≤ 200) (hL : L ≤ 20000) (hG : ∀ x, x < N → V x → tG (nt x)) {g : Nat → Nat} {len x lab : Nat} (G : gl V s N g len) (hx : x < N) (vx : V x) (h13 : 13 ≤ lab) (h16 : lab ≤ 16) (hz : tSum (sg nt g 0 len) + tSz (nt x) < 190) :
    zS (fX6_gathers s (nI (tKd lab)) (nI x)) (fun s' => ∃ g' len', gl V s' N g' len' ∧ sg nt g' 0 len' = rTk lab (sg nt g 0 len) (nt x) ∧ rOnly sGa s s' ∧ ∃ R, gN g' len' = gN g len ++ R ∧ (R.Sublist [x] ∨ R.Sublist (nks s x (tLen (nt x))))) := by
  obtain ⟨c1, c2, c3, f, c4, c5, c6⟩ := st x hx vx
  have labx := tG_lab _ (hG x hx vx)
  have hzx := tSz_1 (nt x)
  unfold fX6_gathers
  rw [rd13 (by omega), c1, Option.bind_some, Option.bind_some]
  refine zS.b (R1 := fun v => v = if (lab = 13 ∨ lab = 15) ∧ tLab (nt x) = 12 then 1 else 0) ?_ (fun v hv => ?_)
  · by_cases k5 : lab = 16
    · rw [if_pos ((tKd_5 h16).mpr k5), if_neg (by omega)]; exact zS.s rfl
    · rw [if_neg (fun z => k5 ((tKd_5 h16).mp z))]
      by_cases k3 : lab = 14
      · rw [if_pos ((tKd_3 h16).mpr k3), if_neg (by omega)]; exact zS.s rfl
      · rw [if_neg (fun z => k3 ((tKd_3 h16).mp z))]
        by_cases k1 : tLab (nt x) = 12
        · rw [if_pos ((tKd_1 labx).mpr k1), if_pos ⟨by omega, k1⟩]; exact zS.s rfl
        · rw [if_neg (fun z => k1 ((tKd_1 labx).mp z)), if_neg (fun z => k1 z.2)]; exact zS.s rfl
  · subst hv
    unfold rTk
    by_cases c : (lab = 13 ∨ lab = 15) ∧ tLab (nt x) = 12
    · rw [if_pos c, if_pos c, if_neg (by decide)]
      exact zS.s ⟨g, len, G, rfl, rOnly.rf, [], (List.append_nil _).symm, Or.inl (List.nil_sublist _)⟩
    · rw [if_neg c, if_neg c, if_pos rfl]
      refine zS.b (R1 := fun s' => ∃ g' len', gl V s' N g' len' ∧ sg nt g' 0 len' = (if tLab (nt x) = lab ∧ lab ≠ 16 then (tKids (nt x)).foldl (rG0 lab) (sg nt g 0 len) else rG0 lab (sg nt g 0 len) (nt x)) ∧ rOnly sGa s s' ∧ ∃ R, gN g' len' = gN g len ++ R ∧ (R.Sublist [x] ∨ R.Sublist (nks s x (tLen (nt x))))) ?_ (fun r hr => zS.s hr)
      by_cases k5 : lab = 16
      · rw [if_pos ((tKd_5 h16).mpr k5), if_neg (fun z => z.2 k5)]
        exact zS.b (rg0_eq st hN hL hG G hx vx h13 h16 (by omega)) (fun r ⟨g', len', q1, q2, q3, q4⟩ => zS.s ⟨g', len', q1, q2, q3, q4.elim (fun y => ⟨[], by rw [y, List.append_nil], Or.inl (List.nil_sublist _)⟩) (fun y => ⟨[x], y, Or.inl (List.Sublist.refl _)⟩)⟩)
      · rw [if_neg (fun z => k5 ((tKd_5 h16).mp z))]
        by_cases ke : tLab (nt x) = lab
        · rw [if_pos (show nI (tKd (tLab (nt x))) = nI (tKd lab) by rw [ke]), if_pos ⟨ke, k5⟩]
          refine zS.b (R1 := fun s' => ∃ g' len', gl V s' N g' len' ∧ sg nt g' 0 len' = (tKids (nt x)).foldl (rG0 lab) (sg nt g 0 len) ∧ rOnly sGa s s' ∧ ∃ R, gN g' len' = gN g len ++ R ∧ R.Sublist (nks s x (tLen (nt x)))) (zS.up (fun j s' => ∃ g' len', gl V s' N g' len' ∧ sg nt g' 0 len' = (tKids (tPre (nt x) j)).foldl (rG0 lab) (sg nt g 0 len) ∧ rOnly sGa s s' ∧ ∃ R, gN g' len' = gN g len ++ R ∧ R.Sublist (nks s x j)) 0 (tLen (nt x)) (fun j s' _ hj hJ => ?_) (fun s' hJ => ?_) (Nat.zero_le _) (by omega) ⟨g, len, G, by rw [tKids_0]; rfl, rOnly.rf, [], (List.append_nil _).symm, List.nil_sublist _⟩) (fun r ⟨g', len', q1, q2, q3, R, q4, q5⟩ => zS.s ⟨g', len', q1, q2, q3, R, q4, Or.inr q5⟩)
          · obtain ⟨g', len', j1, j2, j3, R, j4, j5⟩ := hJ
            obtain ⟨y, ⟨y1, y5⟩, y2, y3, y4⟩ := c6 j hj
            dsimp only
            have b1 := rG0_fold lab (tKids (tPre (nt x) j)) (sg nt g 0 len)
            have b2 := tKids_pre_sum (nt x) j
            rw [rd16 (by omega), Option.bind_some, j3 16 _ (by omega), c3, if_neg (nI_nle' (by omega) hj), rd15 (by omega), Option.bind_some, j3 15 _ (by omega), c4, nI_add, rd17 (by omega), Option.bind_some, j3 17 _ (by omega), y3]
            refine zS.b (rg0_eq (nSq.only j3 st (by omega)) hN hL hG j1 y2 y5 h13 h16 (by rw [j2]; omega)) (fun s2 ⟨g2, len2, q1, q2, q3, q4⟩ => zS.s ⟨_, by rw [nI_1], g2, len2, q1, ?_, j3.tr q3, ?_⟩)
            · rw [q2, j2, tKids_S _ j hj, List.foldl_append, y4]
              rfl
            · have ey : nk s x j = y := by
                unfold nk
                rw [c4, nI_clamp (by omega), y3, nI_clamp (by omega)]
              have es : nks s x (j + 1) = nks s x j ++ [y] := by
                show nks s x j ++ [nk s x (0 + j)] = _
                rw [Nat.zero_add, ey]
              rcases q4 with q4 | q4
              · exact ⟨R, by rw [q4, j4], by rw [es]; exact j5.trans (List.sublist_append_left _ _)⟩
              · exact ⟨R ++ [y], by rw [q4, j4, List.append_assoc], by rw [es]; exact j5.append (List.Sublist.refl _)⟩
          · obtain ⟨g', len', j1, j2, j3, j4⟩ := hJ
            dsimp only
            rw [rd16 (by omega), Option.bind_some, j3 16 _ (by omega), c3, if_pos (nI_le (Nat.le_refl _) (by omega))]
            rw [tPre_all] at j2
            exact zS.s ⟨_, rfl, g', len', j1, j2, j3, j4⟩
        · rw [if_neg (fun z => by
            rcases (tKd_eq labx h16).mp z with y | y
            · omega
            · exact ke y), if_neg (fun z => ke z.1)]
          exact zS.b (rg0_eq st hN hL hG G hx vx h13 h16 (by omega)) (fun r ⟨g', len', q1, q2, q3, q4⟩ => zS.s ⟨g', len', q1, q2, q3, q4.elim (fun y => ⟨[], by rw [y, List.append_nil], Or.inl (List.nil_sublist _)⟩) (fun y => ⟨[x], y, Or.inl (List.Sublist.refl _)⟩)⟩)
/-! sorting, on the reference's side -/
def shf (g : Nat → Nat) (k i x : Nat) : Nat → Nat := fun j => if j = k then x else if k < j ∧ j ≤ i then g (j - 1) else g j
theorem sg_shift {α : Type} (nt : Nat → α) (g : Nat → Nat) (x : Nat) : ∀ (n a k : Nat), a ≤ k → k ≤ a + n → sg nt (shf g k (a + n) x) a (n + 1) = (sg nt g a n).take (k - a) ++ nt x :: (sg nt g a n).drop (k - a)
  | n, a, k, h1, h2 => by
    by_cases e : k = a
    · subst e
      rw [Nat.sub_self, sg_cons]
      show nt (if k = k then x else _) :: _ = nt x :: sg nt g k n
      rw [if_pos rfl]
      congr 1
      have key : ∀ m, m ≤ n → sg nt (shf g k (k + n) x) (k + 1) m = sg nt g k m := by
        intro m
        induction m with
        | zero => intro _; rfl
        | succ m ih =>
          intro hm
          show sg nt (shf g k (k + n) x) (k + 1) m ++ [nt (if k + 1 + m = k then x else if k < k + 1 + m ∧ k + 1 + m ≤ k + n then g (k + 1 + m - 1) else _)] = sg nt g k m ++ [nt (g (k + m))]
          rw [ih (by omega), if_neg (by omega), if_pos (by omega), show k + 1 + m - 1 = k + m by omega]
      exact key n (Nat.le_refl _)
    · cases n with
      | zero => omega
      | succ n =>
        have ih := sg_shift nt g x n (a + 1) k (by omega) (by omega)
        rw [show a + 1 + n = a + (n + 1) by omega] at ih
        rw [sg_cons, ih, sg_cons, show k - a = (k - (a + 1)) + 1 by omega]
        show nt (if a = k then x else if k < a ∧ a ≤ a + (n + 1) then _ else g a) :: _ = nt (g a) :: _
        rw [if_neg (by omega), if_neg (by omega)]
        rfl
theorem sg_add {α : Type} (nt : Nat → α) (g : Nat → Nat) (a n : Nat) : ∀ m, sg nt g a (n + m) = sg nt g a n ++ sg nt g (a + n) m
  | 0 => (List.append_nil _).symm
  | m + 1 => by
    show sg nt g a (n + m) ++ [nt (g (a + (n + m)))] = sg nt g a n ++ (sg nt g (a + n) m ++ [nt (g (a + n + m))])
    rw [sg_add nt g a n m, List.append_assoc, show a + (n + m) = a + n + m by omega]
theorem shf_perm (g : Nat → Nat) {k i len : Nat} (hk : k ≤ i) (hi : i < len) : (gN (shf g k i (g i)) len).Perm (gN g len) := by
  have e1 := sg_add (fun z : Nat => z) (shf g k i (g i)) 0 (i + 1) (len - (i + 1))
  have e2 := sg_add (fun z : Nat => z) g 0 (i + 1) (len - (i + 1))
  rw [Nat.add_sub_of_le (by omega)] at e1 e2
  show (sg _ _ 0 len).Perm (sg _ _ 0 len)
  rw [e1, e2]
  refine List.Perm.append ?_ ?_
  · have sh := sg_shift (fun z : Nat => z) g (g i) i 0 k (Nat.zero_le _) (by omega)
    rw [Nat.zero_add] at sh
    rw [sh]
    show (List.take k (sg (fun z => z) g 0 i) ++ g i :: List.drop k (sg (fun z => z) g 0 i)).Perm (sg (fun z => z) g 0 i ++ [g (0 + i)])
    rw [Nat.zero_add]
    refine List.Perm.trans List.perm_middle ?_
    rw [List.take_append_drop]
    exact (List.perm_append_singleton _ _).symm
  · rw [sg_congr (nt := fun z : Nat => z) (nt' := fun z : Nat => z) (g := shf g k i (g i)) (g' := g) (len - (i + 1)) (fun j hj => by
      show (if 0 + (i + 1) + j = k then _ else if k < 0 + (i + 1) + j ∧ 0 + (i + 1) + j ≤ i then _ else _) = _
      rw [if_neg (by omega), if_neg (by omega)])]
theorem rsort_eq {V : Nat → Prop} {s : Zr} {N L : Nat} {nt : Nat → Tr} (st : nSq V s N L nt) (hN : N ≤ 200) (hL : L ≤ 20000) (hG : ∀ x, x < N → V x → tG (nt x)) {g : Nat → Nat} {len fr : Nat} (G : gl V s N g len) (hf : fr ≤ 1) (hz : tSum (sg nt g 0 len) < 190) :
    zS (fX6_sort s (nI fr)) (fun s' => ∃ g', gl V s' N g' len ∧ (∀ j, j < fr → g' j = g j) ∧ sg nt g' fr (len - fr) = tSort (sg nt g fr (len - fr)) ∧ rOnly sGa s s' ∧ (gN g' len).Perm (gN g len)) := by
  have hl := tSum_len (sg nt g 0 len)
  rw [sg_len] at hl
  have sz : ∀ j, j < len → tSz (nt (g j)) ≤ 190 := fun j hj => by have := sg_sum_le nt g hj; omega
  unfold fX6_sort
  rw [nI_1]
  by_cases c0 : len ≤ fr + 1
  · refine zS.b (R1 := fun s' => s' = s) ⟨s, ?_, rfl⟩ (fun r hr => ?_)
    · show ((if s 0 25 ≤ nI (fr + 1) then _ else _ : Option ((Int32 × Zr) ⊕ Zr)).bind _) = _
      rw [if_pos (show s 0 25 ≤ nI (fr + 1) by rw [G.1]; exact nI_le c0 (by omega))]
      rfl
    · subst hr
      refine zS.s ⟨g, G, fun _ _ => rfl, ?_, rOnly.rf, List.Perm.refl _⟩
      by_cases c1 : len ≤ fr
      · rw [show len - fr = 0 by omega]; rfl
      · rw [show len - fr = 1 by omega]; rfl
  · refine zS.b (R1 := fun s' => ∃ g', gl V s' N g' len ∧ (∀ j, j < fr → g' j = g j) ∧ sg nt g' fr (len - fr) = tSort (sg nt g fr (len - fr)) ∧ rOnly sGa s s' ∧ (gN g' len).Perm (gN g len)) (zS.up (fun i s' => ∃ g', gl V s' N g' len ∧ (∀ j, j < fr → g' j = g j) ∧ (∀ j, i ≤ j → j < len → g' j = g j) ∧ sg nt g' fr (i - fr) = tSort (sg nt g fr (i - fr)) ∧ rOnly sGa s s' ∧ (∀ j, j < len → ∃ j', j' < len ∧ g' j = g j') ∧ (gN g' len).Perm (gN g len)) (fr + 1) len (fun i s' hi1 hi hJ => ?_) (fun s' hJ => ?_) (by omega) (by omega) ⟨g, G, fun _ _ => rfl, fun _ _ _ => rfl, ?_, rOnly.rf, fun j hj => ⟨j, hj, rfl⟩, List.Perm.refl _⟩) (fun r hr => zS.s hr)
    · obtain ⟨g', j1, j2, j3, j4, j5, j6, j7⟩ := hJ
      dsimp only
      rw [if_neg (show ¬ s' 0 25 ≤ nI i by rw [j1.1]; exact nI_nle' (by omega) hi), rd21 (by omega), Option.bind_some, (j1.2 i hi).1]
      have xi := j3 i (Nat.le_refl _) hi
      refine zS.b (R1 := fun r => ∃ k, r.1 = nI k ∧ fr ≤ k ∧ k ≤ i ∧ (∀ j, j < len → j ≠ k → r.2 21 j = nI (shf g' k i (g' i) j)) ∧ (∀ j, k ≤ j → j < i → 0 < tCmp (nt (g' j)) (nt (g' i))) ∧ (k = fr ∨ tCmp (nt (g' (k - 1))) (nt (g' i)) ≤ 0) ∧ rOnly sGa s r.2 ∧ r.2 0 25 = nI len) ?_ (fun ⟨w, s2⟩ ⟨k, q1, q2, q3, q4, q5, q6, q7, q8⟩ => ?_)
      · refine zloop_inv (fun (n : Nat) (q : Int32 × Zr) => ∃ k, n = k ∧ q.1 = nI k ∧ fr ≤ k ∧ k ≤ i ∧ (∀ j, j < len → j ≠ k → q.2 21 j = nI (shf g' k i (g' i) j)) ∧ (∀ j, k ≤ j → j < i → 0 < tCmp (nt (g' j)) (nt (g' i))) ∧ rOnly sGa s q.2 ∧ q.2 0 25 = nI len) _ ?_ i _ _ ⟨i, rfl, rfl, by omega, Nat.le_refl _, fun j hj hn => ?_, fun j h1 h2 => by omega, j5, j1.1⟩ (by rw [zFU_v]; omega)
        · rintro n ⟨w, s8⟩ ⟨k, rfl, e1, k1, k2, k3, k4, k5, k6⟩
          dsimp only at e1 k3 k5 k6
          subst e1
          by_cases z : n = fr
          · subst z
            refine Or.inr ⟨(nI n, s8), ?_, n, rfl, k1, k2, k3, k4, Or.inl rfl, k5, k6⟩
            show (if nI n ≤ nI n then _ else _) = _
            rw [if_pos (nI_le (Nat.le_refl _) (by omega))]
          · have ek : s8 21 (n - 1) = nI (g' (n - 1)) := by
              rw [k3 (n - 1) (by omega) (by omega)]
              unfold shf
              rw [if_neg (by omega), if_neg (by omega)]
            obtain ⟨jn, jn1, jn2⟩ := j6 (n - 1) (by omega)
            obtain ⟨ji, ji1, ji2⟩ := j6 i hi
            obtain ⟨-, n1, n2⟩ := j1.2 (n - 1) (by omega)
            obtain ⟨-, x1, x2⟩ := j1.2 i hi
            have s1 := sz jn jn1
            obtain ⟨v, s9, r1, r2, r3⟩ := rcmpV_eq (nSq.only k5 st (by omega)) hN hL hG n1 x1 n2 x2 (by rw [jn2]; omega)
            show (∃ s' m, (if nI n ≤ nI fr then _ else _) = _ ∧ _) ∨ ∃ r, (if nI n ≤ nI fr then _ else _) = _ ∧ _
            rw [if_neg (nI_nle' (by omega) (by omega)), show nI n - (1 : Int32) = nI (n - 1) from pk_sub (b := 1) (by omega), rd21 (by omega), Option.bind_some]
            dsimp only
            rw [ek, r1, Option.bind_some]
            have f9 : ∀ j, s9 21 j = s8 21 j := fun j => r3 21 j (by omega)
            have o9 : rOnly sGa s s9 := k5.tr (r3.mono (fun a k z => by omega))
            have l9 : s9 0 25 = nI len := (r3 0 25 (by omega)).trans k6
            by_cases c : 0 < tCmp (nt (g' (n - 1))) (nt (g' i))
            · refine Or.inl ⟨(nI (n - 1), u2 s9 21 n (nI (g' (n - 1)))), n - 1, ?_, by omega, n - 1, rfl, rfl, by omega, by omega, fun j hj hn => ?_, fun j h1 h2 => ?_, o9.tr (rOnly.u (by omega)), by
                show u2 s9 21 n (nI (g' (n - 1))) 0 25 = nI len
                rw [u2_a (by decide)]
                exact l9⟩
              · show (if v ≤ 0 then _ else _) = _
                rw [if_neg (fun y => by have := r2.2.mpr c; exact absurd y (Int32.not_le.mpr this)), rd21 (by omega), Option.bind_some]
                dsimp only
                rw [f9, ek, wr21 (by omega), Option.bind_some]
                obtain ⟨n', rfl⟩ : ∃ n', n = n' + 1 := ⟨n - 1, by omega⟩
                rw [nI_dec, Nat.add_sub_cancel]
              · show u2 s9 21 n (nI (g' (n - 1))) 21 j = nI (if j = n - 1 then _ else if n - 1 < j ∧ j ≤ i then g' (j - 1) else g' j)
                rw [if_neg hn]
                by_cases y : j = n
                · subst y; rw [u2_s, if_pos (by omega)]
                · rw [u2_n (by omega), f9, k3 j hj y]
                  unfold shf
                  rw [if_neg y]
                  by_cases y2 : n < j ∧ j ≤ i
                  · rw [if_pos y2, if_pos (by omega)]
                  · rw [if_neg y2, if_neg (by omega)]
              · by_cases y : j = n - 1
                · subst y; exact c
                · exact k4 j (by omega) h2
            · refine Or.inr ⟨(nI n, s9), ?_, n, rfl, k1, k2, fun j hj hn => (f9 j).trans (k3 j hj hn), k4, Or.inr (by omega), o9, l9⟩
              show (if v ≤ 0 then _ else _) = _
              rw [if_pos (Int32.not_lt.mp (fun y => c (r2.2.mp y)))]
        · show s' 21 j = _
          rw [(j1.2 j hj).1]
          unfold shf
          rw [if_neg hn, if_neg (by omega)]
      · dsimp only at q1 q4 q7 q8
        subst q1
        refine zS.e (wr21 (by omega)) (zS.s ⟨_, by rw [nI_1], shf g' k i (g' i), ⟨by rw [u2_a (by decide)]; exact q8, fun j hj => ?_⟩, fun j hj => ?_, fun j h1 h2 => ?_, ?_, q7.tr (rOnly.u (by omega)), fun j hj => ?_, (shf_perm g' q3 hi).trans j7⟩)
        · have val : u2 s2 21 k (nI (g' i)) 21 j = nI (shf g' k i (g' i) j) := by
            by_cases y : j = k
            · subst y
              rw [u2_s]
              unfold shf
              rw [if_pos rfl]
            · rw [u2_n (by omega)]; exact q4 j hj y
          refine ⟨val, ?_⟩
          unfold shf
          by_cases y : j = k
          · rw [if_pos y]; exact (j1.2 i hi).2
          · rw [if_neg y]
            by_cases y2 : k < j ∧ j ≤ i
            · rw [if_pos y2]; exact (j1.2 (j - 1) (by omega)).2
            · rw [if_neg y2]; exact (j1.2 j hj).2
        · unfold shf
          rw [if_neg (by omega), if_neg (by omega)]
          exact j2 j hj
        · unfold shf
          rw [if_neg (by omega), if_neg (by omega)]
          exact j3 j (by omega) h2
        · have sh := sg_shift nt g' (g' i) (i - fr) fr k q2 (by omega)
          rw [Nat.add_sub_of_le (by omega)] at sh
          have at' := tIns_at (x := nt (g' i)) (sg nt g' fr (i - fr)) (k - fr) (by rw [j4]; exact tSort_sd _) (by rw [sg_len]; omega) (fun j h1 h2 => by
            rw [sg_len] at h2
            rw [sg_get nt g' _ _ _ h2]
            exact q5 _ (by omega) (by omega)) (by
            by_cases y : k = fr
            · exact Or.inl (by omega)
            · refine Or.inr ?_
              rw [sg_get nt g' _ _ _ (by omega), show fr + (k - fr - 1) = k - 1 by omega]
              exact q6.resolve_left y)
          rw [show i + 1 - fr = (i - fr) + 1 by omega, sh, ← at', j4, xi]
          show _ = tSort (sg nt g fr (i - fr) ++ [nt (g (fr + (i - fr)))])
          rw [tSort_app, Nat.add_sub_of_le (by omega)]
        · unfold shf
          by_cases y : j = k
          · rw [if_pos y]; exact j6 i hi
          · rw [if_neg y]
            by_cases y2 : k < j ∧ j ≤ i
            · rw [if_pos y2]; exact j6 (j - 1) (by omega)
            · rw [if_neg y2]; exact j6 j hj
    · obtain ⟨g', j1, j2, j3, j4, j5, j6, j7⟩ := hJ
      dsimp only
      rw [if_pos (show s' 0 25 ≤ nI len by rw [j1.1]; exact nI_le (Nat.le_refl _) (by omega))]
      exact zS.s ⟨_, rfl, g', j1, j2, j4, j5, j7⟩
    · rw [show fr + 1 - fr = 1 by omega]
      rfl
/-! the nodes of a tree, parts ahead -/
def nPs (s : Zr) : Nat → Nat → List Nat
  | 0, x => [x]
  | n + 1, x => (nks s x (s 16 x).toNatClampNeg).flatMap (nPs s n) ++ [x]
theorem nPs_S (s : Zr) (n x : Nat) : nPs s (n + 1) x = (nks s x (s 16 x).toNatClampNeg).flatMap (nPs s n) ++ [x] := rfl
def nF : Nat := 200
def nP (s : Zr) (x : Nat) : List Nat := nPs s nF x
theorem nk_at {s : Zr} {x f j y : Nat} (h1 : s 15 x = nI f) (h2 : s 17 (f + j) = nI y) (hf : f < 2 ^ 31) (hy : y < 2 ^ 31) : nk s x j = y := by
  unfold nk
  rw [h1, nI_clamp hf, h2, nI_clamp hy]
theorem nks_mem {s : Zr} {x z : Nat} : ∀ n, z ∈ nks s x n → ∃ j, j < n ∧ z = nk s x j
  | 0, h => absurd h List.not_mem_nil
  | n + 1, h => by
    rcases List.mem_append.mp (show z ∈ nks s x n ++ [nk s x (0 + n)] from h) with h | h
    · obtain ⟨j, h1, h2⟩ := nks_mem n h
      exact ⟨j, by omega, h2⟩
    · rw [Nat.zero_add] at h
      exact ⟨n, by omega, List.mem_singleton.mp h⟩
section NPOST
variable {V : Nat → Prop} {s s' : Zr} {N L : Nat} {nt : Nat → Tr}
theorem nSq.kid (st : nSq V s N L nt) (hN : N ≤ 200) (hL : L ≤ 20000) {x j : Nat} (hx : x < N) (vx : V x) (hj : j < tLen (nt x)) : x < nk s x j ∧ V (nk s x j) ∧ nk s x j < N ∧ nt (nk s x j) = tKid (nt x) j := by
  obtain ⟨-, -, -, f, c4, c5, c6⟩ := st x hx vx
  obtain ⟨y, ⟨y1, y2⟩, y3, y4, y5⟩ := c6 j hj
  rw [nk_at c4 y4 (by omega) (by omega)]
  exact ⟨y1, y2, y3, y5⟩
theorem nSq.len (st : nSq V s N L nt) (hN : N ≤ 200) (hL : L ≤ 20000) {x : Nat} (hx : x < N) (vx : V x) : (s 16 x).toNatClampNeg = tLen (nt x) := by
  obtain ⟨-, -, c3, f, c4, c5, c6⟩ := st x hx vx
  rw [c3, nI_clamp (by omega)]
theorem nPs_V (st : nSq V s N L nt) (hN : N ≤ 200) (hL : L ≤ 20000) : ∀ n x, x < N → V x → ∀ z, z ∈ nPs s n x → V z ∧ x ≤ z ∧ z < N := by
  intro n
  induction n with
  | zero =>
    intro x hx vx z hz
    rw [List.mem_singleton.mp hz]
    exact ⟨vx, Nat.le_refl _, hx⟩
  | succ n ih =>
    intro x hx vx z hz
    rcases List.mem_append.mp (show z ∈ (nks s x (s 16 x).toNatClampNeg).flatMap (nPs s n) ++ [x] from hz) with h | h
    · obtain ⟨y, h1, h2⟩ := List.mem_flatMap.mp h
      rw [st.len hN hL hx vx] at h1
      obtain ⟨j, h3, rfl⟩ := nks_mem _ h1
      obtain ⟨k1, k2, k3, -⟩ := st.kid hN hL hx vx h3
      obtain ⟨r1, r2, r3⟩ := ih _ k3 k2 z h2
      exact ⟨r1, by omega, r3⟩
    · rw [List.mem_singleton.mp h]
      exact ⟨vx, Nat.le_refl _, hx⟩
theorem flatMap_congr' {f g : Nat → List Nat} : ∀ l : List Nat, (∀ y, y ∈ l → f y = g y) → l.flatMap f = l.flatMap g
  | [], _ => rfl
  | a :: l, h => by
    rw [List.flatMap_cons, List.flatMap_cons, h a List.mem_cons_self, flatMap_congr' l (fun y hy => h y (List.mem_cons_of_mem _ hy))]
theorem nPs_fuel (st : nSq V s N L nt) (hN : N ≤ 200) (hL : L ≤ 20000) : ∀ n m x, x < N → V x → N - x ≤ n → N - x ≤ m → nPs s n x = nPs s m x := by
  intro n
  induction n with
  | zero => intro m x hx _ h _; omega
  | succ n ih =>
    intro m x hx vx h1 h2
    obtain ⟨m, rfl⟩ : ∃ z, m = z + 1 := ⟨m - 1, by omega⟩
    show (nks s x _).flatMap (nPs s n) ++ [x] = (nks s x _).flatMap (nPs s m) ++ [x]
    congr 1
    refine flatMap_congr' _ (fun y hy => ?_)
    rw [st.len hN hL hx vx] at hy
    obtain ⟨j, h3, rfl⟩ := nks_mem _ hy
    obtain ⟨k1, k2, k3, -⟩ := st.kid hN hL hx vx h3
    exact ih m _ k3 k2 (by omega) (by omega)
theorem nP_eq (st : nSq V s N L nt) (hN : N ≤ 200) (hL : L ≤ 20000) {x : Nat} (hx : x < N) (vx : V x) : nP s x = (nks s x (tLen (nt x))).flatMap (nP s) ++ [x] := by
  have hF : nF = 200 := rfl
  unfold nP
  rw [nPs_fuel st hN hL nF (nF + 1) x hx vx (by omega) (by omega), nPs_S, st.len hN hL hx vx]
theorem nPs_congr (st : nSq V s N L nt) (hN : N ≤ 200) (hL : L ≤ 20000) (e15 : ∀ y, y < N → V y → s' 15 y = s 15 y ∧ s' 16 y = s 16 y) (e17 : ∀ z, z < L → s' 17 z = s 17 z) : ∀ n x, x < N → V x → nPs s' n x = nPs s n x := by
  intro n
  induction n with
  | zero => intro x _ _; rfl
  | succ n ih =>
    intro x hx vx
    have en : ∀ m, m ≤ tLen (nt x) → nks s' x m = nks s x m := fun m hm => sg_congr m (fun i hi => by
      obtain ⟨-, -, -, f, c4, c5, c6⟩ := st x hx vx
      rw [Nat.zero_add]
      show nk s' x i = nk s x i
      unfold nk
      rw [(e15 x hx vx).1, c4, nI_clamp (by omega), e17 _ (by omega)])
    show (nks s' x (s' 16 x).toNatClampNeg).flatMap (nPs s' n) ++ [x] = (nks s x (s 16 x).toNatClampNeg).flatMap (nPs s n) ++ [x]
    rw [(e15 x hx vx).2, st.len hN hL hx vx, en _ (Nat.le_refl _)]
    congr 1
    refine flatMap_congr' _ (fun y hy => ?_)
    obtain ⟨j, h3, rfl⟩ := nks_mem _ hy
    obtain ⟨k1, k2, k3, -⟩ := st.kid hN hL hx vx h3
    exact ih _ k3 k2
end NPOST
/-- the ancestors of a node -/
def pI (par : Nat → Nat) : Nat → Nat → Nat
  | 0, z => z
  | n + 1, z => pI par n (par z)
theorem pI_add (par : Nat → Nat) : ∀ n m z, pI par (n + m) z = pI par m (pI par n z)
  | 0, m, z => by rw [Nat.zero_add]; rfl
  | n + 1, m, z => by
    rw [show n + 1 + m = (n + m) + 1 by omega]
    exact pI_add par n m (par z)
theorem pI_le {par : Nat → Nat} (h : ∀ z, par z ≤ z) : ∀ n z, pI par n z ≤ z
  | 0, _ => Nat.le_refl _
  | n + 1, z => Nat.le_trans (pI_le h n (par z)) (h z)
def pD (par : Nat → Nat) (z x : Nat) : Prop := ∃ n, pI par n z = x
theorem pD.le {par : Nat → Nat} (h : ∀ z, par z ≤ z) {z x : Nat} (d : pD par z x) : x ≤ z := by
  obtain ⟨n, rfl⟩ := d
  exact pI_le h n z
theorem pD.up {par : Nat → Nat} {z x : Nat} (d : pD par z x) : pD par z (par x) := by
  obtain ⟨n, rfl⟩ := d
  exact ⟨n + 1, pI_add par n 1 z⟩
theorem pD.one {par : Nat → Nat} (h : ∀ z, par z ≤ z) {z c x y : Nat} (d1 : pD par z x) (d2 : pD par z y) (hx : par x = c) (hy : par y = c) (cx : c < x) (cy : c < y) : x = y := by
  obtain ⟨n, h1⟩ := d1
  obtain ⟨m, h2⟩ := d2
  have key : ∀ n m x y, pI par n z = x → pI par m z = y → par x = c → c < y → n < m → False := by
    intro n m x y h1 h2 hx cy hlt
    have e := pI_add par n (m - n) z
    rw [Nat.add_sub_of_le (by omega), h2, h1, show m - n = (m - n - 1) + 1 by omega] at e
    have e' : y = pI par (m - n - 1) (par x) := e
    rw [hx] at e'
    have := pI_le h (m - n - 1) c
    omega
  rcases Nat.lt_trichotomy n m with q | q | q
  · exact (key n m x y h1 h2 hx cy q).elim
  · subst q; rw [← h1, ← h2]
  · exact (key m n y x h2 h1 hy cx q).elim
theorem sub_flat (f : Nat → List Nat) : ∀ {l r : List Nat}, l.Sublist r → (l.flatMap f).Sublist (r.flatMap f)
  | _, _, .slnil => List.Sublist.refl _
  | _, _, .cons a h => by
    rw [List.flatMap_cons]
    exact (sub_flat f h).trans (List.sublist_append_right _ _)
  | _, _, .cons_cons a h => by
    rw [List.flatMap_cons, List.flatMap_cons]
    exact (List.Sublist.refl _).append (sub_flat f h)
