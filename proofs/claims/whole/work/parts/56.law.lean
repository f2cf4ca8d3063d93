/-! A law's value: what both sides work out. -/
abbrev bd (x : Int64) : Prop := -1000000000000 ≤ x.toInt ∧ x.toInt ≤ 1000000000000
theorem bm {x : Int} (h : -2 ^ 63 ≤ x) (h2 : x < 2 ^ 63) : x.bmod (2 ^ 64) = x := Int.bmod_eq_of_le (by omega) (by omega)
theorem bd_add {a b : Int64} (ha : bd a) (hb : bd b) : (a + b).toInt = a.toInt + b.toInt := by
  obtain ⟨a1, a2⟩ := ha; obtain ⟨b1, b2⟩ := hb
  rw [Int64.toInt_add, bm (by omega) (by omega)]
theorem bd_sub {a b : Int64} (ha : bd a) (hb : bd b) : (a - b).toInt = a.toInt - b.toInt := by
  obtain ⟨a1, a2⟩ := ha; obtain ⟨b1, b2⟩ := hb
  rw [Int64.toInt_sub, bm (by omega) (by omega)]
theorem bd_neg {a : Int64} (ha : bd a) : (-a).toInt = -a.toInt := by
  obtain ⟨a1, a2⟩ := ha
  rw [Int64.toInt_neg, bm (by omega) (by omega)]
theorem bd_ne {a : Int64} (ha : bd a) : a ≠ Int64.minValue := by
  intro h
  have : a.toInt = -2 ^ 63 := by rw [h]; decide
  obtain ⟨a1, a2⟩ := ha
  omega
theorem bd_div {a b : Int64} (ha : bd a) : (a / b).toInt = a.toInt.tdiv b.toInt := Int64.toInt_div_of_ne_left _ _ (bd_ne ha)
theorem tdiv_le (a b : Int) : (a.tdiv b).natAbs ≤ a.natAbs := by
  rw [Int.natAbs_tdiv]; exact Nat.div_le_self _ _
theorem bd_divB {a b : Int64} (ha : bd a) : bd (a / b) := by
  unfold bd
  rw [bd_div ha]
  have := tdiv_le a.toInt b.toInt
  obtain ⟨a1, a2⟩ := ha
  omega
theorem i64_inj {a b : Int64} (h : a.toInt = b.toInt) : a = b := Int64.toInt_inj.mp h
theorem i64_0 {a : Int64} : a = 0 ↔ a.toInt = 0 := ⟨fun h => by rw [h]; rfl, fun h => i64_inj (by rw [h]; rfl)⟩
/-- two values joined; none: an error -/
def jn (c : Nat) (a b : Int64) : Option Int64 :=
  if c = 20000 then some (if a = 0 ∧ b = 0 then 0 else 1)
  else if c = 20001 then some (if a = 0 ∨ b = 0 then 0 else 1)
  else if c = 20003 then some (if b ≤ a then 0 else 1)
  else if c = 20004 then some (if b < a then 0 else 1)
  else if c = 20005 then some (if a = b then 1 else 0)
  else if c = 20006 then some (if a = b then 0 else 1)
  else if c = 20007 then some (if a < b then 0 else 1)
  else if c = 20008 then some (if a ≤ b then 0 else 1)
  else if c = 20009 then (if (a.toInt + b.toInt).natAbs ≤ 1000000000000 then some (a + b) else none)
  else if c = 20010 then (if (a.toInt - b.toInt).natAbs ≤ 1000000000000 then some (a - b) else none)
  else if c = 20011 then (if (a.toInt * b.toInt).natAbs ≤ 1000000000000 then some (a * b) else none)
  else if b = 0 then none else some (a / b)
theorem bd_1 : bd 1 := by unfold bd; decide
theorem bd_0 : bd 0 := by unfold bd; decide
theorem bd_ab {x : Int64} : bd x ↔ x.toInt.natAbs ≤ 1000000000000 := by unfold bd; omega
theorem mul_small {a b : Int64} (h : (a.toInt * b.toInt).natAbs ≤ 1000000000000) : (a * b).toInt = a.toInt * b.toInt := by
  rw [Int64.toInt_mul, bm (by omega) (by omega)]
theorem jn_bd {c : Nat} {a b v : Int64} (ha : bd a) (hb : bd b) (h : jn c a b = some v) : bd v := by
  have k : ∀ (q : Prop) [Decidable q] (v : Int64), some (if q then (0 : Int64) else 1) = some v → bd v := fun q _ v h => by cases h; split; exact bd_0; exact bd_1
  have k' : ∀ (q : Prop) [Decidable q] (v : Int64), some (if q then (1 : Int64) else 0) = some v → bd v := fun q _ v h => by cases h; split; exact bd_1; exact bd_0
  unfold jn at h
  by_cases c0 : c = 20000
  · rw [if_pos c0] at h; exact k _ _ h
  rw [if_neg c0] at h
  by_cases c1 : c = 20001
  · rw [if_pos c1] at h; exact k _ _ h
  rw [if_neg c1] at h
  by_cases c3 : c = 20003
  · rw [if_pos c3] at h; exact k _ _ h
  rw [if_neg c3] at h
  by_cases c4 : c = 20004
  · rw [if_pos c4] at h; exact k _ _ h
  rw [if_neg c4] at h
  by_cases c5 : c = 20005
  · rw [if_pos c5] at h; exact k' _ _ h
  rw [if_neg c5] at h
  by_cases c6 : c = 20006
  · rw [if_pos c6] at h; exact k _ _ h
  rw [if_neg c6] at h
  by_cases c7 : c = 20007
  · rw [if_pos c7] at h; exact k _ _ h
  rw [if_neg c7] at h
  by_cases c8 : c = 20008
  · rw [if_pos c8] at h; exact k _ _ h
  rw [if_neg c8] at h
  by_cases c9 : c = 20009
  · rw [if_pos c9] at h
    by_cases q : (a.toInt + b.toInt).natAbs ≤ 1000000000000
    · rw [if_pos q] at h; cases h; rw [bd_ab, bd_add ha hb]; exact q
    · rw [if_neg q] at h; cases h
  rw [if_neg c9] at h
  by_cases c10 : c = 20010
  · rw [if_pos c10] at h
    by_cases q : (a.toInt - b.toInt).natAbs ≤ 1000000000000
    · rw [if_pos q] at h; cases h; rw [bd_ab, bd_sub ha hb]; exact q
    · rw [if_neg q] at h; cases h
  rw [if_neg c10] at h
  by_cases c11 : c = 20011
  · rw [if_pos c11] at h
    by_cases q : (a.toInt * b.toInt).natAbs ≤ 1000000000000
    · rw [if_pos q] at h; cases h; rw [bd_ab, mul_small q]; exact q
    · rw [if_neg q] at h; cases h
  rw [if_neg c11] at h
  by_cases c12 : b = 0
  · rw [if_pos c12] at h; cases h
  · rw [if_neg c12] at h; cases h; exact bd_divB ha
/-- a product that a long can't hold doesn't divide back -/
theorem mul_back {a b : Int64} (ha : bd a) (hb : bd b) (h0 : a ≠ 0) (h : (a * b) / a = b) : (a * b).toInt = a.toInt * b.toInt := by
  by_cases h1 : a = -1
  · have e1 : a.toInt = -1 := by rw [h1]; decide
    obtain ⟨b1, b2⟩ := hb
    rw [Int64.toInt_mul, e1, bm (by omega) (by omega)]
  · have e := congrArg Int64.toInt h
    rw [Int64.toInt_div_of_ne_right _ _ h1] at e
    have hdm := Int.mul_tdiv_add_tmod (a * b).toInt a.toInt
    rw [e] at hdm
    have ha0 : a.toInt ≠ 0 := fun z => h0 (i64_0.mpr z)
    have hlt : ((a * b).toInt.tmod a.toInt).natAbs < a.toInt.natAbs := by
      rw [Int.natAbs_tmod]
      exact Nat.mod_lt _ (by omega)
    have ha9 : a.toInt.natAbs ≤ 1000000000000 := bd_ab.mp ha
    have hb1 := Int.bmod_emod (x := a.toInt * b.toInt) (m := 2 ^ 64)
    rw [← Int64.toInt_mul] at hb1
    omega
theorem lgt {a b : Int64} : a < b ↔ a.toInt < b.toInt := Int64.lt_iff_toInt_lt
theorem lge {a b : Int64} : a ≤ b ↔ a.toInt ≤ b.toInt := Int64.le_iff_toInt_le
theorem B12 : (1000000000000 : Int64).toInt = 1000000000000 := by decide
theorem B12n : (-1000000000000 : Int64).toInt = -1000000000000 := by decide
theorem bdP {x : Int64} : bd x ↔ ¬ (1000000000000 : Int64) < x ∧ (-1000000000000 : Int64) ≤ x := by
  rw [lgt, lge, B12, B12n]; unfold bd; omega
/-- what the class's joined answers -/
theorem x_joined {h : Hp} {c : Nat} {a b : Int64} (hc : 20000 ≤ c) (hc2 : c ≤ 20012) (hc3 : c ≠ 20002) (ha : bd a) (hb : bd b) : ∃ v, fX1_joined h (nI (c - 20000)) a b = some (v, h) ∧ (∀ w, jn c a b = some w → v = w ∧ bd v) ∧ (jn c a b = none → ¬ bd v) := by
  have hE : ¬ bd (-9223372036854775808 : Int64) := by unfold bd; decide
  have fin : ∀ v, fX1_joined h (nI (c - 20000)) a b = some (v, h) → jn c a b = some v → ∃ v, fX1_joined h (nI (c - 20000)) a b = some (v, h) ∧ (∀ w, jn c a b = some w → v = w ∧ bd v) ∧ (jn c a b = none → ¬ bd v) := by
    intro v h1 h2
    refine ⟨v, h1, fun w hw => ?_, fun hn => ?_⟩
    · rw [h2] at hw; cases hw; exact ⟨rfl, jn_bd ha hb h2⟩
    · rw [h2] at hn; cases hn
  have ino : ∀ k, k < 12 → (inT (nI k) 0 11 = true) = True := fun k hk => eq_true ((by decide : ∀ k, k < 12 → inT (nI k) 0 11 = true) k hk)
  have cs : c = 20000 ∨ c = 20001 ∨ c = 20003 ∨ c = 20004 ∨ c = 20005 ∨ c = 20006 ∨ c = 20007 ∨ c = 20008 ∨ c = 20009 ∨ c = 20010 ∨ c = 20011 ∨ c = 20012 := by omega
  rcases cs with rfl | rfl | rfl | rfl | rfl | rfl | rfl | rfl | rfl | rfl | rfl | rfl
  · refine fin (if a = 0 ∧ b = 0 then 0 else 1) ?_ rfl
    show fX1_joined h (nI 0) a b = _
    simp (disch := omega) only [fX1_joined, lit, ino, if_true, nI_eqP, ifP, ifN, lgc_eq, lgc_ge, lgc_gt, lgc_lt, lgc_le]
    by_cases q : a = 0 <;> by_cases q2 : b = 0 <;> simp [q, q2]
  · refine fin (if a = 0 ∨ b = 0 then 0 else 1) ?_ rfl
    show fX1_joined h (nI 1) a b = _
    simp (disch := omega) only [fX1_joined, lit, ino, if_true, nI_eqP, ifP, ifN, lgc_eq, lgc_ge, lgc_gt, lgc_lt, lgc_le]
    by_cases q : a = 0 <;> by_cases q2 : b = 0 <;> simp [q, q2]
  · refine fin (if b ≤ a then 0 else 1) ?_ rfl
    show fX1_joined h (nI 3) a b = _
    simp (disch := omega) only [fX1_joined, lit, ino, if_true, nI_eqP, ifP, ifN, lgc_eq, lgc_ge, lgc_gt, lgc_lt, lgc_le]
    by_cases q : b ≤ a <;> simp [q]
  · refine fin (if b < a then 0 else 1) ?_ rfl
    show fX1_joined h (nI 4) a b = _
    simp (disch := omega) only [fX1_joined, lit, ino, if_true, nI_eqP, ifP, ifN, lgc_eq, lgc_ge, lgc_gt, lgc_lt, lgc_le]
    by_cases q : b < a <;> simp [q]
  · refine fin (if a = b then 1 else 0) ?_ rfl
    show fX1_joined h (nI 5) a b = _
    simp (disch := omega) only [fX1_joined, lit, ino, if_true, nI_eqP, ifP, ifN, lgc_eq, lgc_ge, lgc_gt, lgc_lt, lgc_le]
    by_cases q : a = b <;> simp [q]
  · refine fin (if a = b then 0 else 1) ?_ rfl
    show fX1_joined h (nI 6) a b = _
    simp (disch := omega) only [fX1_joined, lit, ino, if_true, nI_eqP, ifP, ifN, lgc_eq, lgc_ge, lgc_gt, lgc_lt, lgc_le]
    by_cases q : a = b <;> simp [q]
  · refine fin (if a < b then 0 else 1) ?_ rfl
    show fX1_joined h (nI 7) a b = _
    simp (disch := omega) only [fX1_joined, lit, ino, if_true, nI_eqP, ifP, ifN, lgc_eq, lgc_ge, lgc_gt, lgc_lt, lgc_le]
    by_cases q : a < b <;> simp [q]
  · refine fin (if a ≤ b then 0 else 1) ?_ rfl
    show fX1_joined h (nI 8) a b = _
    simp (disch := omega) only [fX1_joined, lit, ino, if_true, nI_eqP, ifP, ifN, lgc_eq, lgc_ge, lgc_gt, lgc_lt, lgc_le]
    by_cases q : a ≤ b <;> simp [q]
  · have e : fX1_joined h (nI (20009 - 20000)) a b = some (a + b, h) := by
      show fX1_joined h (nI 9) a b = _
      simp (disch := omega) only [fX1_joined, lit, ino, if_true, nI_eqP, ifP, ifN]
    have ej : jn 20009 a b = if (a.toInt + b.toInt).natAbs ≤ 1000000000000 then some (a + b) else none := rfl
    by_cases q : (a.toInt + b.toInt).natAbs ≤ 1000000000000
    · exact fin _ e (by rw [ej, if_pos q])
    · refine ⟨_, e, fun w hw => ?_, fun _ => ?_⟩
      · rw [ej, if_neg q] at hw; cases hw
      · rw [bd_ab, bd_add ha hb]; exact q
  · have e : fX1_joined h (nI (20010 - 20000)) a b = some (a - b, h) := by
      show fX1_joined h (nI 10) a b = _
      simp (disch := omega) only [fX1_joined, lit, ino, if_true, nI_eqP, ifP, ifN]
    have ej : jn 20010 a b = if (a.toInt - b.toInt).natAbs ≤ 1000000000000 then some (a - b) else none := rfl
    by_cases q : (a.toInt - b.toInt).natAbs ≤ 1000000000000
    · exact fin _ e (by rw [ej, if_pos q])
    · refine ⟨_, e, fun w hw => ?_, fun _ => ?_⟩
      · rw [ej, if_neg q] at hw; cases hw
      · rw [bd_ab, bd_sub ha hb]; exact q
  · have ej : jn 20011 a b = if (a.toInt * b.toInt).natAbs ≤ 1000000000000 then some (a * b) else none := rfl
    have e0 : fX1_joined h (nI (20011 - 20000)) a b = if a = 0 then some (a * b, h) else if (a * b) / a = b then some (a * b, h) else some ((-9223372036854775808 : Int64), h) := by
      show fX1_joined h (nI 11) a b = _
      simp (disch := omega) only [fX1_joined, fX1_joined_202, lit, ino, if_true, nI_eqP, ifP, ifN, lgc_eq]
    by_cases qa : a = 0
    · rw [if_pos qa] at e0
      have q : (a.toInt * b.toInt).natAbs ≤ 1000000000000 := by rw [i64_0.mp qa]; simp
      exact fin _ e0 (by rw [ej, if_pos q])
    · rw [if_neg qa] at e0
      by_cases qd : (a * b) / a = b
      · rw [if_pos qd] at e0
        have hm := mul_back ha hb qa qd
        by_cases q : (a.toInt * b.toInt).natAbs ≤ 1000000000000
        · exact fin _ e0 (by rw [ej, if_pos q])
        · refine ⟨_, e0, fun w hw => ?_, fun _ => ?_⟩
          · rw [ej, if_neg q] at hw; cases hw
          · rw [bd_ab, hm]; exact q
      · rw [if_neg qd] at e0
        refine ⟨_, e0, fun w hw => ?_, fun _ => hE⟩
        exfalso
        rw [ej] at hw
        by_cases q : (a.toInt * b.toInt).natAbs ≤ 1000000000000
        · apply qd
          apply i64_inj
          have hm := mul_small q
          rw [bd_div (bd_ab.mpr (by rw [hm]; exact q)), hm, Int.mul_tdiv_cancel_left _ (fun z => qa (i64_0.mpr z))]
        · rw [if_neg q] at hw; cases hw
  · have ej : jn 20012 a b = if b = 0 then none else some (a / b) := rfl
    have e0 : fX1_joined h (nI (20012 - 20000)) a b = if b = 0 then some ((-9223372036854775808 : Int64), h) else some (a / b, h) := by
      show fX1_joined h (nI 12) a b = _
      have hT : (inT (nI 12) 0 11 = true) = False := eq_false (by decide)
      simp only [fX1_joined, fX1_joined_206, lit, hT, if_false, lgc_eq]
      by_cases q : b = 0 <;> simp [q]
    by_cases q : b = 0
    · rw [if_pos q] at e0
      refine ⟨_, e0, fun w hw => ?_, fun _ => hE⟩
      rw [ej, if_pos q] at hw; cases hw
    · rw [if_neg q] at e0
      exact fin _ e0 (by rw [ej, if_neg q])
