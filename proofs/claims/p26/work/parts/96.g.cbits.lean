/-! sets of names as bits -/
def sB (x : Int32) (P : Nat → Prop) : Prop := ∀ v, v < 32 → (x.toBitVec.getLsbD v = true ↔ P v)
theorem sB.c {x : Int32} {P Q : Nat → Prop} (h : sB x P) (e : ∀ v, v < 32 → (P v ↔ Q v)) : sB x Q := fun v hv => (h v hv).trans (e v hv)
theorem sB.and {x y : Int32} {P Q : Nat → Prop} (hx : sB x P) (hy : sB y Q) : sB (x &&& y) (fun v => P v ∧ Q v) := fun v hv => by
  rw [Int32.toBitVec_and, BitVec.getLsbD_and, Bool.and_eq_true, hx v hv, hy v hv]
theorem sB.or {x y : Int32} {P Q : Nat → Prop} (hx : sB x P) (hy : sB y Q) : sB (x ||| y) (fun v => P v ∨ Q v) := fun v hv => by
  rw [Int32.toBitVec_or, BitVec.getLsbD_or, Bool.or_eq_true, hx v hv, hy v hv]
theorem sB_m1 : ∀ v, v < 32 → (-1 : Int32).toBitVec.getLsbD v = true := by decide
theorem sB.not {x : Int32} {P : Nat → Prop} (hx : sB x P) : sB (x ^^^ (-1 : Int32)) (fun v => ¬ P v) := fun v hv => by
  show _ ↔ ¬ P v
  rw [Int32.toBitVec_xor, BitVec.getLsbD_xor, sB_m1 v hv, Bool.xor_true, Bool.not_eq_true', ← hx v hv, Bool.not_eq_true]
theorem sB_0 : sB 0 (fun _ => False) := fun v hv => by
  have key : ∀ v, v < 32 → (0 : Int32).toBitVec.getLsbD v = false := by decide
  rw [key v hv]
  exact ⟨fun z => absurd z (by decide), fun z => z.elim⟩
theorem sB.eq {x y : Int32} {P Q : Nat → Prop} (hx : sB x P) (hy : sB y Q) : x = y ↔ ∀ v, v < 32 → (P v ↔ Q v) := by
  constructor
  · rintro rfl
    intro v hv
    exact (hx v hv).symm.trans (hy v hv)
  · intro h
    refine Int32.toBitVec_inj.mp (BitVec.eq_of_getLsbD_eq (fun i hi => ?_))
    exact Bool.eq_iff_iff.mpr ((hx i hi).trans ((h i hi).trans (hy i hi).symm))
theorem sB.z {x : Int32} {P : Nat → Prop} (hx : sB x P) : x = 0 ↔ ∀ v, v < 32 → ¬ P v := by
  rw [hx.eq sB_0]
  exact ⟨fun h v hv p => (h v hv).mp p, fun h v hv => ⟨fun p => h v hv p, fun z => z.elim⟩⟩
abbrev bI (v : Nat) : Int32 := (1 : Int32) <<< (nI v &&& 31)
theorem sB_bit0 : ∀ v, v < 12 → ∀ u, u < 32 → ((1 : Int32) <<< (nI v &&& 31)).toBitVec.getLsbD u = decide (u = v) := by decide +kernel
theorem sB_bit {v : Nat} (hv : v < 12) : sB (bI v) (fun u => u = v) := fun u hu => by
  rw [sB_bit0 v hv u hu]
  exact decide_eq_true_iff
def sM (x : Int32) (P : Nat → Prop) : Prop := sB x (fun v => v < 12 ∧ P v)
section SMS
variable {x y : Int32} {P Q : Nat → Prop}
theorem sM.c (h : sM x P) (e : ∀ v, v < 12 → (P v ↔ Q v)) : sM x Q := sB.c h (fun v _ => ⟨fun z => ⟨z.1, (e v z.1).mp z.2⟩, fun z => ⟨z.1, (e v z.1).mpr z.2⟩⟩)
theorem sM.and (hx : sM x P) (hy : sM y Q) : sM (x &&& y) (fun v => P v ∧ Q v) := sB.c (sB.and hx hy) (fun v _ => ⟨fun z => ⟨z.1.1, z.1.2, z.2.2⟩, fun z => ⟨⟨z.1, z.2.1⟩, z.1, z.2.2⟩⟩)
theorem sM.or (hx : sM x P) (hy : sM y Q) : sM (x ||| y) (fun v => P v ∨ Q v) := sB.c (sB.or hx hy) (fun v _ => ⟨fun z => z.elim (fun a => ⟨a.1, Or.inl a.2⟩) (fun a => ⟨a.1, Or.inr a.2⟩), fun z => z.2.elim (fun a => Or.inl ⟨z.1, a⟩) (fun a => Or.inr ⟨z.1, a⟩)⟩)
theorem sM.sub (hx : sM x P) (hy : sM y Q) : sM (x &&& (y ^^^ (-1 : Int32))) (fun v => P v ∧ ¬ Q v) := sB.c (sB.and hx (sB.not hy)) (fun v _ => ⟨fun z => ⟨z.1.1, z.1.2, fun q => z.2 ⟨z.1.1, q⟩⟩, fun z => ⟨⟨z.1, z.2.1⟩, fun q => z.2.2 q.2⟩⟩)
theorem sM_0 : sM 0 (fun _ => False) := sB.c sB_0 (fun v _ => ⟨fun z => z.elim, fun z => z.2.elim⟩)
theorem sM_bit {v : Nat} (hv : v < 12) : sM (bI v) (fun u => u = v) := sB.c (sB_bit hv) (fun u _ => ⟨fun z => ⟨by omega, z⟩, fun z => z.2⟩)
theorem sM.eq (hx : sM x P) (hy : sM y Q) : x = y ↔ ∀ v, v < 12 → (P v ↔ Q v) := by
  rw [sB.eq hx hy]
  exact ⟨fun h v hv => ⟨fun p => ((h v (by omega)).mp ⟨hv, p⟩).2, fun q => ((h v (by omega)).mpr ⟨hv, q⟩).2⟩, fun h v _ => ⟨fun z => ⟨z.1, (h v z.1).mp z.2⟩, fun z => ⟨z.1, (h v z.1).mpr z.2⟩⟩⟩
theorem sM.z (hx : sM x P) : x = 0 ↔ ∀ v, v < 12 → ¬ P v := by
  rw [hx.eq sM_0]
  exact ⟨fun h v hv p => (h v hv).mp p, fun h v hv => ⟨fun p => h v hv p, fun z => z.elim⟩⟩
theorem sM.at (hx : sM x P) {v : Nat} (hv : v < 12) : (x &&& bI v) = 0 ↔ ¬ P v := by
  rw [(hx.and (sM_bit hv)).z]
  exact ⟨fun h p => h v hv ⟨p, rfl⟩, fun h u hu z => h (by rw [← z.2]; exact z.1)⟩
end SMS
noncomputable def mOf (P : Nat → Prop) : Int32 := (nmL P).foldl (fun a v => a ||| bI v) 0
theorem mOf_s (P : Nat → Prop) : sM (mOf P) P := by
  have key : ∀ (L : List Nat) (a : Int32) (Q : Nat → Prop), (∀ v, v ∈ L → v < 12) → sM a Q → sM (L.foldl (fun a v => a ||| bI v) a) (fun v => Q v ∨ v ∈ L) := by
    intro L
    induction L with
    | nil => intro a Q _ h; exact h.c (fun v _ => ⟨Or.inl, fun z => z.elim id (fun y => absurd y List.not_mem_nil)⟩)
    | cons u L ih =>
      intro a Q hL h
      refine (ih (a ||| bI u) _ (fun v hv => hL v (List.mem_cons_of_mem _ hv)) (h.or (sM_bit (hL u List.mem_cons_self)))).c (fun v _ => ⟨fun z => ?_, fun z => ?_⟩)
      · rcases z with (z | z) | z
        · exact Or.inl z
        · exact Or.inr (by rw [z]; exact List.mem_cons_self)
        · exact Or.inr (List.mem_cons_of_mem _ z)
      · rcases z with z | z
        · exact Or.inl (Or.inl z)
        · rcases List.mem_cons.mp z with z | z
          · exact Or.inl (Or.inr z)
          · exact Or.inr z
  refine (key (nmL P) 0 _ (fun v hv => (nmL_mem.mp hv).1) sM_0).c (fun v hv => ⟨fun z => z.elim (fun y => y.elim) (fun y => (nmL_mem.mp y).2), fun z => Or.inr (nmL_mem.mpr ⟨hv, z⟩)⟩)
theorem sM.of {x : Int32} {P : Nat → Prop} (h : sM x P) : x = mOf P := (h.eq (mOf_s P)).mpr (fun _ _ => Iff.rfl)
/-! rows of names as numbers -/
def rwD (r : List Nat) (i : Nat) : Nat := if i < r.length then r.getD i 0 + 1 else 0
def rwN (r : List Nat) : Nat := mRow (rwD r) r.length
theorem rwD_lt {r : List Nat} (ok : rOK r) (i : Nat) : rwD r i < 16 := by
  unfold rwD
  by_cases c : i < r.length
  · rw [if_pos c]; have := ok.2 i c; omega
  · rw [if_neg c]; omega
theorem mRow_cg {f g : Nat → Nat} : ∀ n, (∀ i, i < n → f i = g i) → mRow f n = mRow g n
  | 0, _ => rfl
  | n + 1, h => by
    show mRow f n + f n * 16 ^ n = mRow g n + g n * 16 ^ n
    rw [mRow_cg n (fun i hi => h i (by omega)), h n (by omega)]
theorem mRow_dg : ∀ (n i : Nat) (f : Nat → Nat), (∀ j, f j < 16) → mRow f n / 16 ^ i % 16 = if i < n then f i else 0
  | 0, i, f, _ => by
    show 0 / 16 ^ i % 16 = _
    rw [Nat.zero_div, if_neg (Nat.not_lt_zero _)]
  | n + 1, 0, f, hf => by
    rw [mRow_hd, if_pos (by omega), Nat.pow_zero, Nat.div_one]
    have := hf 0
    omega
  | n + 1, i + 1, f, hf => by
    have h0 := hf 0
    have ih := mRow_dg n i (fun j => f (j + 1)) (fun j => hf (j + 1))
    rw [mRow_hd, Nat.pow_succ, Nat.mul_comm (16 ^ i) 16, ← Nat.div_div_eq_div_mul, show (f 0 + 16 * mRow (fun j => f (j + 1)) n) / 16 = mRow (fun j => f (j + 1)) n by omega, ih]
    by_cases c : i < n
    · rw [if_pos c, if_pos (by omega)]
    · rw [if_neg c, if_neg (by omega)]
theorem rwN_lt {r : List Nat} (ok : rOK r) : rwN r < 2 ^ 31 := by
  have h1 := mRow_lt (rwD_lt ok) r.length
  have h2 : 16 ^ r.length ≤ 16 ^ 6 := Nat.pow_le_pow_right (by omega) ok.1
  have h3 : (16 : Nat) ^ 6 < 2 ^ 31 := by decide
  show mRow (rwD r) r.length < _
  omega
theorem rwN_0 {r : List Nat} (ok : rOK r) : nI (rwN r) = 0 ↔ r = [] := by
  rw [← nI_0, nI_eq (rwN_lt ok) (by omega)]
  constructor
  · intro h
    cases r with
    | nil => rfl
    | cons a r =>
      have e : rwN (a :: r) = rwD (a :: r) 0 + 16 * mRow (fun i => rwD (a :: r) (i + 1)) r.length := mRow_hd r.length
      have e2 : rwD (a :: r) 0 = a + 1 := rfl
      omega
  · rintro rfl
    rfl
theorem rwN_app {r : List Nat} {v : Nat} (ok : rOK r) (h6 : r.length < 6) (hv : v < 12) : nI (rwN r) ||| ((nI v + (1 : Int32)) <<< ((nI r.length * (4 : Int32)) &&& 31)) = nI (rwN (r ++ [v])) := by
  have el : (r ++ [v]).length = r.length + 1 := by rw [List.length_append]; rfl
  rw [mRow_sh _ h6 _ hv, nI_or]
  have e1 : rwN (r ++ [v]) = mRow (rwD (r ++ [v])) r.length + rwD (r ++ [v]) r.length * 16 ^ r.length := by
    unfold rwN
    rw [el]; rfl
  have e2 : rwD (r ++ [v]) r.length = v + 1 := by
    unfold rwD
    rw [if_pos (by rw [el]; omega), List.getD_eq_getElem?_getD, List.getElem?_append_right (Nat.le_refl _), Nat.sub_self]; rfl
  have e3 : mRow (rwD (r ++ [v])) r.length = rwN r := mRow_cg _ (fun i hi => by
    unfold rwD
    rw [if_pos (by rw [el]; omega), if_pos hi, List.getD_eq_getElem?_getD, List.getD_eq_getElem?_getD, List.getElem?_append_left hi])
  have h16 : (16 : Nat) ^ r.length = 2 ^ (4 * r.length) := by rw [Nat.pow_mul]
  have lt : rwN r < 2 ^ (4 * r.length) := by rw [← h16]; exact mRow_lt (rwD_lt ok) r.length
  have := Nat.two_pow_add_eq_or_of_lt lt (v + 1)
  rw [e1, e2, e3, h16, Nat.or_comm, Nat.mul_comm (v + 1), ← this, Nat.add_comm]
theorem nI_and (a b : Nat) : nI a &&& nI b = nI (a &&& b) := by
  refine Int32.toBitVec_inj.mp ?_
  refine (Int32.toBitVec_and _ _).trans ?_
  show BitVec.ofNat 32 a &&& BitVec.ofNat 32 b = BitVec.ofNat 32 (a &&& b)
  exact BitVec.ofNat_and.symm
theorem sh4 : ∀ i, i < 6 → (((nI i * (4 : Int32)) &&& 31).toBitVec.smod 32).toNat = 4 * i := by decide +kernel
theorem cnmi_eq {h : Zh} {r : List Nat} (ok : rOK r) {i : Nat} (hi : i ≤ 6) : fX3_nameIn h (nI (rwN r)) (nI i) = some (if i < r.length then nI (r.getD i 0) else -3) := by
  have l6 := ok.1
  unfold fX3_nameIn
  rw [if_neg (nI_pos (by omega))]
  by_cases c6 : i = 6
  · subst c6
    rw [if_pos (show (6 : Int32) ≤ nI 6 by decide), Option.bind_some, if_pos (by decide), Option.bind_some, if_neg (by omega)]
  · have e : (nI (rwN r) >>> ((nI i * (4 : Int32)) &&& 31)) &&& (15 : Int32) = nI (rwD r i) := by
      rw [pk_shrN (rwN_lt ok) _ _ (sh4 i (by omega)), show (15 : Int32) = nI 15 from rfl, nI_and, show (15 : Nat) = 2 ^ 4 - 1 from rfl, Nat.and_two_pow_sub_one_eq_mod, Nat.pow_mul]
      show nI (mRow (rwD r) r.length / 16 ^ i % 16) = _
      rw [mRow_dg _ _ _ (rwD_lt ok)]
      unfold rwD
      by_cases c : i < r.length
      · rw [if_pos c]
      · rw [if_neg c]; rw [if_neg c]
    rw [if_neg (show ¬ (6 : Int32) ≤ nI i from nI_nle' (b := 6) (by omega) (by omega)), Option.bind_some, e]
    unfold rwD
    by_cases c : i < r.length
    · have r12 := ok.2 i c
      rw [if_pos c, if_pos c, if_neg (show ¬ nI (r.getD i 0 + 1) < (1 : Int32) from nI_nlt (b := 1) (by omega) (by omega)), if_neg (show ¬ (12 : Int32) < nI (r.getD i 0 + 1) from nI_nlt (a := 12) (by omega) (by omega)), show nI (r.getD i 0 + 1) - (1 : Int32) = nI (r.getD i 0) from nI_pred _]; rfl
    · rw [if_neg c, if_neg c, if_pos (show nI 0 < (1 : Int32) by decide)]; rfl
def pcI (a1 : Int32) : Int32 :=
  let v1 := (a1 - (((a1.toUInt32 >>> ((1 : Int32).toUInt32 &&& Int32.toUInt32 31)).toInt32) &&& (1431655765 : Int32)))
  let v2 := ((v1 &&& (858993459 : Int32)) + (((v1.toUInt32 >>> ((2 : Int32).toUInt32 &&& Int32.toUInt32 31)).toInt32) &&& (858993459 : Int32)))
  let v3 := ((v2 + ((v2.toUInt32 >>> ((4 : Int32).toUInt32 &&& Int32.toUInt32 31)).toInt32)) &&& (252645135 : Int32))
  let v4 := (v3 + ((v3.toUInt32 >>> ((8 : Int32).toUInt32 &&& Int32.toUInt32 31)).toInt32))
  let v5 := (v4 + ((v4.toUInt32 >>> ((16 : Int32).toUInt32 &&& Int32.toUInt32 31)).toInt32))
  v5 &&& (63 : Int32)
def pcN (n : Nat) : Nat := ((List.range 12).filter (fun v => n.testBit v)).length
theorem pc_1 : ∀ a, a < 64 → ∀ b, b < 64 → pcI (nI (64 * a + b)) = nI (pcN (64 * a + b)) := by decide +kernel
theorem pc_0 (n : Nat) (h : n < 4096) : pcI (nI n) = nI (pcN n) := by
  have := pc_1 (n / 64) (by omega) (n % 64) (by omega)
  rw [Nat.div_add_mod] at this
  exact this
theorem cbc_eq {h : Zh} {x : Int32} {P : Nat → Prop} (hx : sM x P) : fJ6_bitCount_0f7a4 h x = some (nI (nmL P).length) := by
  have lt : x.toBitVec.toNat < 2 ^ 12 := Nat.lt_pow_two_of_testBit _ (fun i hi => by
    by_cases c : i < 32
    · have := hx i c
      have q : x.toBitVec.getLsbD i = x.toBitVec.toNat.testBit i := rfl
      rw [← q]
      by_cases z : x.toBitVec.getLsbD i = true
      · have := (this.mp z).1; omega
      · rw [Bool.not_eq_true] at z; exact z
    · exact Nat.testBit_lt_two_pow (Nat.lt_of_lt_of_le x.toBitVec.isLt (Nat.pow_le_pow_right (by omega) (by omega))))
  have ex : x = nI x.toBitVec.toNat := Int32.toBitVec_inj.mp (by
    show x.toBitVec = BitVec.ofNat 32 x.toBitVec.toNat
    exact (BitVec.ofNat_toNat ..).symm ▸ (by simp))
  have e : (List.range 12).filter (fun v => x.toBitVec.toNat.testBit v) = nmL P := by
    unfold nmL
    refine List.filter_congr (fun v hv => ?_)
    have v12 := List.mem_range.mp hv
    have := hx v (by omega)
    have q : x.toBitVec.getLsbD v = x.toBitVec.toNat.testBit v := rfl
    rw [← q]
    exact Bool.eq_iff_iff.mpr (this.trans ⟨fun z => cB_t.mpr z.2, fun z => ⟨v12, cB_t.mp z⟩⟩)
  have k := pc_0 _ (show x.toBitVec.toNat < 4096 from lt)
  rw [← ex] at k
  show some (pcI x) = _
  rw [k]
  show some (nI ((List.range 12).filter (fun v => x.toBitVec.toNat.testBit v)).length) = _
  rw [e]
