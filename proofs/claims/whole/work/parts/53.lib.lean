/-! Small rows for the pure side: numbers as nI, reads behind writes, bits. -/
theorem lit (n : Nat) : (no_index (OfNat.ofNat n) : Int32) = nI n := Eq.trans (Eq.refl _) (Eq.refl _)
theorem hI_ne {h : Hp} {a k : Nat} {v : Int32} {x y : Nat} (q : ¬ (x = a ∧ y = k)) : hI (uI h a k v) x y = hI h x y := by rw [hI_uI, if_neg q]
theorem hI_at {h : Hp} {a k : Nat} {v : Int32} {x y : Nat} (q : x = a ∧ y = k) : hI (uI h a k v) x y = v := by rw [hI_uI, if_pos q]
theorem hJ_ne {h : Hp} {a k : Nat} {v : Int64} {x y : Nat} (q : ¬ (x = a ∧ y = k)) : hJ (uJ h a k v) x y = hJ h x y := by rw [hJ_uJ, if_neg q]
theorem hJ_at {h : Hp} {a k : Nat} {v : Int64} {x y : Nat} (q : x = a ∧ y = k) : hJ (uJ h a k v) x y = v := by rw [hJ_uJ, if_pos q]
theorem hR_ne {h : Hp} {a k : Nat} {v : Option Nat} {x y : Nat} (q : ¬ (x = a ∧ y = k)) : hR (uR h a k v) x y = hR h x y := by rw [hR_uR, if_neg q]
theorem hR_at {h : Hp} {a k : Nat} {v : Option Nat} {x y : Nat} (q : x = a ∧ y = k) : hR (uR h a k v) x y = v := by rw [hR_uR, if_pos q]
theorem bnd_some {α ρ : Type} (v : α) (h : Hp) (k : α → Hp → Option ρ) : bnd (some (v, h)) k = k v h := Eq.trans (Eq.refl _) (Eq.refl _)
theorem bind_some' {α ρ : Type} (v : α) (k : α → Option ρ) : (some v).bind k = k v := Eq.trans (Eq.refl _) (Eq.refl _)
theorem dref_of {h : Hp} {a k x : Nat} {q : Nat × Nat} (hr : hR h a k = some x) (hs : shp x = q) : dref shp h a k q = some x := by
  unfold dref; rw [hr]; simp [hs]
theorem ifP {α : Type} {c : Prop} [Decidable c] {a b : α} (h : c) : (if c then a else b) = a := if_pos h
theorem ifN {α : Type} {c : Prop} [Decidable c] {a b : α} (h : ¬ c) : (if c then a else b) = b := if_neg h
theorem inbN {j n : Nat} (h : j < n) (hn : n < 2 ^ 31) : (inb (nI j) n = true) = True := eq_true (inb_nI h hn)
theorem nI_lt0 {n : Nat} (h : n < 2 ^ 31) : (nI n < nI 0) = False := eq_false (fun q => by
  have := (nI_ltI h (by decide)).mp q
  omega)
theorem nI_leP {a b : Nat} (ha : a < 2 ^ 31) (hb : b < 2 ^ 31) : (nI a ≤ nI b) = (a ≤ b) := propext (nI_leI ha hb)
theorem nI_ltP {a b : Nat} (ha : a < 2 ^ 31) (hb : b < 2 ^ 31) : (nI a < nI b) = (a < b) := propext (nI_ltI ha hb)
theorem nI_eqP {a b : Nat} (ha : a < 2 ^ 31) (hb : b < 2 ^ 31) : (nI a = nI b) = (a = b) := propext (nI_eq ha hb)
theorem nI_inj {a b : Nat} (ha : a < 2 ^ 31) (hb : b < 2 ^ 31) (h : nI a = nI b) : a = b := (nI_eq ha hb).mp h
theorem ne_m1 {n : Nat} (h : n < 2 ^ 31) : (nI n = -nI 1) = False := eq_false (fun q => by
  have := congrArg Int32.toInt q
  rw [nI_toInt h, show (-nI 1).toInt = -1 by decide] at this
  omega)
theorem m1_ne {n : Nat} (h : n < 2 ^ 31) : (-nI 1 = nI n) = False := eq_false (fun q => of_eq_false (ne_m1 h) q.symm)
theorem m1_lt {n : Nat} (h : n < 2 ^ 31) : (-nI 1 < nI n) = True := eq_true (by
  rw [Int32.lt_iff_toInt_lt, nI_toInt h, show (-nI 1).toInt = -1 by decide]
  omega)
theorem lt_m1 {n : Nat} (h : n < 2 ^ 31) : (nI n < -nI 1) = False := eq_false (by
  rw [Int32.lt_iff_toInt_lt, nI_toInt h, show (-nI 1).toInt = -1 by decide]
  omega)
theorem m1_le {n : Nat} (h : n < 2 ^ 31) : (-nI 1 ≤ nI n) = True := eq_true (by
  rw [Int32.le_iff_toInt_le, nI_toInt h, show (-nI 1).toInt = -1 by decide]
  omega)
theorem le_m1 {n : Nat} (h : n < 2 ^ 31) : (nI n ≤ -nI 1) = False := eq_false (by
  rw [Int32.le_iff_toInt_le, nI_toInt h, show (-nI 1).toInt = -1 by decide]
  omega)
/-- an int that stands for a place below n -/
theorem in_of {x : Int32} {n : Nat} (hn : n < 2 ^ 31) (h0 : ¬ x < 0) (h1 : x < nI n) : ∃ j, j < n ∧ x = nI j := by
  obtain ⟨j, hj, rfl⟩ := nI_of h0
  exact ⟨j, (nI_ltI hj hn).mp h1, rfl⟩
theorem sh31 : ∀ n, n < 32 → ((nI n &&& nI 31).toBitVec.smod 32).toNat = n := by decide
/-- the bit of a number, as a number -/
def bn (n i : Nat) : Nat := if n.testBit i then 1 else 0
theorem bn_le (n i : Nat) : bn n i ≤ 1 := by unfold bn; split <;> omega
theorem bn_1 (n i : Nat) : (bn n i = 1) = (n.testBit i = true) := by unfold bn; split <;> simp [*]
theorem bn_0 (n i : Nat) : (bn n i = 0) = (n.testBit i = false) := by unfold bn; split <;> simp [*]
theorem shr1 {n i : Nat} (hn : n < 2 ^ 31) (hi : i < 32) : (nI n >>> (nI i &&& nI 31)) &&& nI 1 = nI (bn n i) := by
  rw [pk_shrN hn _ i (sh31 i hi), pk_andN (Nat.lt_of_le_of_lt (Nat.div_le_self _ _) (by omega)) 1 (by decide)]
  unfold bn
  rw [Nat.testBit_eq_decide_div_mod_eq]
  have := Nat.mod_lt (n / 2 ^ i) (show 0 < 2 by decide)
  by_cases q : n / 2 ^ i % 2 = 1
  · simp [q]
  · have q0 : n / 2 ^ i % 2 = 0 := by omega
    simp [q0]
theorem shl1 {i : Nat} (hi : i < 32) : nI 1 <<< (nI i &&& nI 31) = nI (2 ^ i) := by
  rw [pk_shlN _ i (sh31 i hi) (by rw [Nat.one_mul]; exact Nat.pow_lt_pow_right (by decide) hi), Nat.one_mul]
theorem nx_o (a b : Nat) : nI a ||| nI b = nI (a ||| b) := by
  apply Int32.toBitVec_inj.mp
  show BitVec.ofNat 32 a ||| BitVec.ofNat 32 b = BitVec.ofNat 32 (a ||| b)
  rw [BitVec.ofNat_or]
theorem nx_a (a b : Nat) : nI a &&& nI b = nI (a &&& b) := by
  apply Int32.toBitVec_inj.mp
  show BitVec.ofNat 32 a &&& BitVec.ofNat 32 b = BitVec.ofNat 32 (a &&& b)
  rw [BitVec.ofNat_and]
theorem nx_x (a b : Nat) : nI a ^^^ nI b = nI (a ^^^ b) := by
  apply Int32.toBitVec_inj.mp
  show BitVec.ofNat 32 a ^^^ BitVec.ofNat 32 b = BitVec.ofNat 32 (a ^^^ b)
  rw [BitVec.ofNat_xor]
theorem m1_N : (-nI 1 : Int32) = nI (2 ^ 32 - 1) := by decide
/-- what of a isn't of b -/
def nob (a b : Nat) : Nat := a &&& (b ^^^ (2 ^ 32 - 1))
theorem nob_tb {a b : Nat} (ha : a < 2 ^ 32) (i : Nat) : (nob a b).testBit i = (a.testBit i && !b.testBit i) := by
  unfold nob
  rw [Nat.testBit_and, Nat.testBit_xor, Nat.testBit_two_pow_sub_one]
  by_cases h : i < 32
  · simp [h]
  · have : a.testBit i = false := Nat.testBit_lt_two_pow (Nat.lt_of_lt_of_le ha (Nat.pow_le_pow_right (by decide) (by omega)))
    simp [this]
theorem nx_n (a b : Nat) : nI a &&& (nI b ^^^ -nI 1) = nI (nob a b) := by
  rw [m1_N, nx_x, nx_a]; rfl
theorem nob_le (a b : Nat) : nob a b ≤ a := Nat.and_le_left
theorem tb_lt {n k : Nat} (h : ∀ i, k ≤ i → n.testBit i = false) : n < 2 ^ k := by
  apply Nat.lt_of_not_le
  intro q
  obtain ⟨i, hi, hb⟩ := Nat.exists_ge_and_testBit_of_ge_two_pow q
  rw [h i hi] at hb
  cases hb
theorem lt_tb {n k i : Nat} (h : n < 2 ^ k) (hi : k ≤ i) : n.testBit i = false := Nat.testBit_lt_two_pow (Nat.lt_of_lt_of_le h (Nat.pow_le_pow_right (by decide) hi))
theorem tb_pow (i j : Nat) : (2 ^ i).testBit j = decide (i = j) := Nat.testBit_two_pow
theorem isZ0 : (isZ (nI 0) = true) = True := eq_true (by decide)
theorem isZ1 : (isZ (nI 1) = true) = True := eq_true (by decide)
theorem isZn {n : Nat} (h : n ≤ 1) : (isZ (nI n) = true) = True := by
  rcases (by omega : n = 0 ∨ n = 1) with rfl | rfl
  · exact isZ0
  · exact isZ1
theorem FUs : ∃ fu, FU = fu + 1 := ⟨99999, rfl⟩
theorem lgc_eq (x y : Int64) : (lg_cmp x y = nI 0) = (x = y) := by
  unfold lg_cmp
  by_cases h1 : x > y
  · rw [if_pos h1]
    have : x ≠ y := fun q => by subst q; exact Int64.lt_irrefl h1
    simp [this]; decide
  · rw [if_neg h1]
    by_cases h2 : x = y
    · simp [h2]; rfl
    · rw [if_neg h2]; simp [h2]; decide
theorem lgc_ge (x y : Int64) : (nI 0 ≤ lg_cmp x y) = (y ≤ x) := by
  unfold lg_cmp
  by_cases h1 : x > y
  · rw [if_pos h1]; exact propext ⟨fun _ => Int64.le_of_lt h1, fun _ => by decide⟩
  · rw [if_neg h1]
    by_cases h2 : x = y
    · subst h2; rw [if_pos rfl]; exact propext ⟨fun _ => Int64.le_refl _, fun _ => by decide⟩
    · rw [if_neg h2]
      refine propext ⟨fun q => absurd q (by decide), fun q => ?_⟩
      exact absurd (Int64.le_antisymm (Int64.not_lt.mp h1) q) h2
theorem lgc_le (x y : Int64) : (lg_cmp x y ≤ nI 0) = (x ≤ y) := by
  unfold lg_cmp
  by_cases h1 : x > y
  · rw [if_pos h1]; exact propext ⟨fun q => absurd q (by decide), fun q => absurd q (Int64.not_le.mpr h1)⟩
  · rw [if_neg h1]
    by_cases h2 : x = y
    · subst h2; rw [if_pos rfl]; exact propext ⟨fun _ => Int64.le_refl _, fun _ => by decide⟩
    · rw [if_neg h2]; exact propext ⟨fun _ => Int64.not_lt.mp h1, fun _ => by decide⟩
theorem lgc_gt (x y : Int64) : (nI 0 < lg_cmp x y) = (y < x) := by
  rw [← Int32.not_le, lgc_le, Int64.not_le]
theorem lgc_lt (x y : Int64) : (lg_cmp x y < nI 0) = (x < y) := by
  rw [← Int32.not_le, lgc_ge, Int64.not_le]
theorem leT {a b : Nat} (h : a ≤ b) (hb : b < 2 ^ 31) : (nI a ≤ nI b) = True := eq_true (nI_le h hb)
theorem leF {a b : Nat} (h : b < a) (ha : a < 2 ^ 31) : (nI a ≤ nI b) = False := eq_false (nI_ge h ha)
theorem ltT {a b : Nat} (h : a < b) (hb : b < 2 ^ 31) : (nI a < nI b) = True := eq_true (nI_lt h hb)
theorem ltF {a b : Nat} (h : b ≤ a) (ha : a < 2 ^ 31) : (nI a < nI b) = False := eq_false (nI_nlt h ha)
theorem eqT {a b : Nat} (h : a = b) : (nI a = nI b) = True := eq_true (congrArg nI h)
theorem eqF {a b : Nat} (h : a ≠ b) (ha : a < 2 ^ 31) (hb : b < 2 ^ 31) : (nI a = nI b) = False := eq_false (fun q => h (nI_inj ha hb q))
theorem dref_uJ (h : Hp) (a k : Nat) (v : Int64) (x y : Nat) (q : Nat × Nat) : dref shp (uJ h a k v) x y q = dref shp h x y q := Eq.trans (Eq.refl _) (Eq.refl _)
theorem dref_uI (h : Hp) (a k : Nat) (v : Int32) (x y : Nat) (q : Nat × Nat) : dref shp (uI h a k v) x y q = dref shp h x y q := Eq.trans (Eq.refl _) (Eq.refl _)
