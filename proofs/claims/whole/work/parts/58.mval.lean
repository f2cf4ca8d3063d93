/-! The reference's value of a law. -/
abbrev F59 (h h' : Hp) : Prop := Fr (fun a i => a = 107 ∧ i = 59) (fun _ _ => False) h h'
theorem F59_u {h : Hp} {v : Int32} : F59 h (uI h 107 59 v) := Fr.uI Fr.rf ⟨rfl, rfl⟩
/-- an answer of the reference's sums: with an error 0 -/
def mAns (h : Hp) (o : Option (Int64 × Hp)) (r : Option Int64) : Prop := ∃ v h', o = some (v, h') ∧ F59 h h' ∧ (∀ w, r = some w → v = w ∧ hI h' 107 59 = nI 0) ∧ (r = none → hI h' 107 59 = nI 1)
theorem mAns_ok {h h' : Hp} {o : Option (Int64 × Hp)} {r : Option Int64} {v : Int64} (h1 : o = some (v, h')) (h2 : F59 h h') (h3 : r = some v) (h4 : hI h' 107 59 = nI 0) : mAns h o r :=
  ⟨v, h', h1, h2, fun w hw => by rw [h3] at hw; cases hw; exact ⟨rfl, h4⟩, fun hn => by rw [h3] at hn; cases hn⟩
theorem mAns_er {h h' : Hp} {o : Option (Int64 × Hp)} {r : Option Int64} {v : Int64} (h1 : o = some (v, h')) (h2 : F59 h h') (h3 : r = none) (h4 : hI h' 107 59 = nI 1) : mAns h o r :=
  ⟨v, h', h1, h2, fun w hw => absurd (h3.symm.trans hw) (by simp), fun _ => h4⟩
theorem m_bounded {h : Hp} {x : Int64} (h0 : hI h 107 59 = nI 0) : mAns h (fX10_bounded h x) (if bd x then some x else none) := by
  unfold fX10_bounded fX10_bounded_24 fX10_bounded_29
  simp only [lit, h0, lgc_gt, lgc_ge, if_true]
  by_cases q : bd x
  · obtain ⟨q1, q2⟩ := bdP.mp q
    rw [if_neg q1, if_pos q2, if_pos (of_eq_true isZ0), hI_at ⟨rfl, rfl⟩, if_pos rfl, if_pos q]
    exact mAns_ok rfl F59_u rfl (hI_at ⟨rfl, rfl⟩)
  · rw [if_neg q]
    have e1 : (if isZ (nI 1) = true then (if hI (uI h 107 59 (nI 1)) 107 59 = nI 0 then some (x, uI h 107 59 (nI 1)) else some ((0 : Int64), uI h 107 59 (nI 1))) else none) = some ((0 : Int64), uI h 107 59 (nI 1)) := by
      rw [if_pos (of_eq_true isZ1), hI_at ⟨rfl, rfl⟩, if_neg (by decide)]
    rw [e1]
    by_cases q1 : (1000000000000 : Int64) < x
    · rw [if_pos q1]; exact mAns_er rfl F59_u rfl (hI_at ⟨rfl, rfl⟩)
    · rw [if_neg q1, if_neg (fun z => q (bdP.mpr ⟨q1, z⟩))]; exact mAns_er rfl F59_u rfl (hI_at ⟨rfl, rfl⟩)
theorem i64_abs {a : Int64} (ha : bd a) : (if 0 ≤ a then a else -a).toInt = (a.toInt.natAbs : Int) := by
  by_cases q : 0 ≤ a
  · rw [if_pos q]; have := lge.mp q; rw [show (0 : Int64).toInt = 0 from rfl] at this; omega
  · rw [if_neg q, bd_neg ha]; have := mt lge.mpr q; rw [show (0 : Int64).toInt = 0 from rfl] at this; omega
theorem m_times {h : Hp} {a b : Int64} (h0 : hI h 107 59 = nI 0) (ha : bd a) (hb : bd b) : mAns h (fX10_times h a b) (if (a.toInt * b.toInt).natAbs ≤ 1000000000000 then some (a * b) else none) := by
  have k0 : fX10_times_49 h a b (nI 0) = some (a * b, uI h 107 59 (nI 0)) := by
    unfold fX10_times_49 fX10_times_69
    simp only [lit, h0, if_true]
    rw [if_pos (of_eq_true isZ0), hI_at ⟨rfl, rfl⟩, if_pos rfl]
  have k1 : fX10_times_49 h a b (nI 1) = some ((0 : Int64), uI h 107 59 (nI 1)) := by
    unfold fX10_times_49 fX10_times_64 fX10_times_69
    simp only [lit, h0, if_true]
    rw [if_neg (by decide), if_pos (of_eq_true isZ1), hI_at ⟨rfl, rfl⟩, if_neg (by decide)]
  unfold fX10_times fX10_times_24 fX10_times_39 fX10_times_48
  simp only [lit, lgc_eq, lgc_ge, lgc_le]
  by_cases qa : a = 0
  · rw [if_pos qa, k0]
    have q : (a.toInt * b.toInt).natAbs ≤ 1000000000000 := by rw [i64_0.mp qa]; simp
    rw [if_pos q]
    exact mAns_ok rfl F59_u rfl (hI_at ⟨rfl, rfl⟩)
  · rw [if_neg qa]
    by_cases qb : b = 0
    · rw [if_pos qb, k0]
      have q : (a.toInt * b.toInt).natAbs ≤ 1000000000000 := by rw [i64_0.mp qb]; simp
      rw [if_pos q]
      exact mAns_ok rfl F59_u rfl (hI_at ⟨rfl, rfl⟩)
    · rw [if_neg qb]
      have e : ∀ s0 s2 : Int64, s0.toInt = (b.toInt.natAbs : Int) → s2.toInt = (a.toInt.natAbs : Int) → (if s2 = 0 then none else if s0 ≤ 1000000000000 / s2 then fX10_times_49 h a b (nI 0) else fX10_times_49 h a b (nI 1)) = if (a.toInt * b.toInt).natAbs ≤ 1000000000000 then some (a * b, uI h 107 59 (nI 0)) else some ((0 : Int64), uI h 107 59 (nI 1)) := by
        intro s0 s2 e0 e2
        have ha0 : a.toInt ≠ 0 := fun z => qa (i64_0.mpr z)
        have hs2 : s2 ≠ 0 := fun z => by
          have := i64_0.mp z
          omega
        rw [if_neg hs2, k0, k1]
        have hd : (1000000000000 / s2 : Int64).toInt = ((1000000000000 / a.toInt.natAbs : Nat) : Int) := by
          rw [bd_div (by decide), B12, e2]
          exact (Int.ofNat_tdiv 1000000000000 a.toInt.natAbs).symm
        have hc : (s0 ≤ 1000000000000 / s2) ↔ (a.toInt * b.toInt).natAbs ≤ 1000000000000 := by
          rw [lge, hd, e0, Int.natAbs_mul, Int.ofNat_le, Nat.le_div_iff_mul_le (by omega), Nat.mul_comm]
        by_cases q : (a.toInt * b.toInt).natAbs ≤ 1000000000000
        · rw [if_pos (hc.mpr q), if_pos q]
        · rw [if_neg (fun z => q (hc.mp z)), if_neg q]
      have e' : ∀ s0 : Int64, s0.toInt = (b.toInt.natAbs : Int) → (if 0 ≤ a then (if a = 0 then none else if s0 ≤ 1000000000000 / a then fX10_times_49 h a b (nI 0) else fX10_times_49 h a b (nI 1)) else (if -a = 0 then none else if s0 ≤ 1000000000000 / -a then fX10_times_49 h a b (nI 0) else fX10_times_49 h a b (nI 1))) = if (a.toInt * b.toInt).natAbs ≤ 1000000000000 then some (a * b, uI h 107 59 (nI 0)) else some ((0 : Int64), uI h 107 59 (nI 1)) := by
        intro s0 e0
        have := i64_abs ha
        by_cases q : 0 ≤ a
        · rw [if_pos q] at this; rw [if_pos q, e s0 a e0 this]
        · rw [if_neg q] at this; rw [if_neg q, e s0 (-a) e0 this]
      have hbabs := i64_abs hb
      have fin : (if 0 ≤ b then (if 0 ≤ a then (if a = 0 then none else if b ≤ 1000000000000 / a then fX10_times_49 h a b (nI 0) else fX10_times_49 h a b (nI 1)) else (if -a = 0 then none else if b ≤ 1000000000000 / -a then fX10_times_49 h a b (nI 0) else fX10_times_49 h a b (nI 1))) else (if 0 ≤ a then (if a = 0 then none else if -b ≤ 1000000000000 / a then fX10_times_49 h a b (nI 0) else fX10_times_49 h a b (nI 1)) else (if -a = 0 then none else if -b ≤ 1000000000000 / -a then fX10_times_49 h a b (nI 0) else fX10_times_49 h a b (nI 1)))) = if (a.toInt * b.toInt).natAbs ≤ 1000000000000 then some (a * b, uI h 107 59 (nI 0)) else some ((0 : Int64), uI h 107 59 (nI 1)) := by
        by_cases q : 0 ≤ b
        · rw [if_pos q] at hbabs; rw [if_pos q, e' b hbabs]
        · rw [if_neg q] at hbabs; rw [if_neg q, e' (-b) hbabs]
      rw [fin]
      by_cases q : (a.toInt * b.toInt).natAbs ≤ 1000000000000
      · rw [if_pos q, if_pos q]
        exact mAns_ok rfl F59_u rfl (hI_at ⟨rfl, rfl⟩)
      · rw [if_neg q, if_neg q]
        exact mAns_er rfl F59_u rfl (hI_at ⟨rfl, rfl⟩)
theorem inT_in (k : Nat) (h : k < 15) (h2 : 3 ≤ k) : (inT (nI k) 3 14 = true) = True := eq_true ((by decide : ∀ k, k < 15 → 3 ≤ k → inT (nI k) 3 14 = true) k h h2)
theorem inT_c (k : Nat) (h : k < 10) (h2 : 5 ≤ k) : (inT (nI k) 5 9 = true) = True := eq_true ((by decide : ∀ k, k < 10 → 5 ≤ k → inT (nI k) 5 9 = true) k h h2)
theorem inT_c10 : (inT (nI 10) 5 9 = true) = False := eq_false (by decide)
theorem m_vbin {h : Hp} {q c ia ib : Nat} (hq : q < 64) (hc : 20000 ≤ c) (hc2 : c ≤ 20012) (hc3 : c ≠ 20002) (hk : hI h 130 q = nI (mkd c)) (h1 : hI h 131 q = nI ia) (h2 : hI h 132 q = nI ib) (hia : ia < 64) (hib : ib < 64) (h0 : hI h 107 59 = nI 0) {a b : Int64} (ea : hJ h 136 ia = a) (eb : hJ h 136 ib = b) (ha : bd a) (hb : bd b) : mAns h (fX10_valueOf h (nI q)) (jn c a b) := by
  have cs : c = 20000 ∨ c = 20001 ∨ c = 20003 ∨ c = 20004 ∨ c = 20005 ∨ c = 20006 ∨ c = 20007 ∨ c = 20008 ∨ c = 20009 ∨ c = 20010 ∨ c = 20011 ∨ c = 20012 := by omega
  rcases cs with rfl | rfl | rfl | rfl | rfl | rfl | rfl | rfl | rfl | rfl | rfl | rfl
  · have hk : hI h 130 q = nI 4 := hk
    have hT := inT_in 4 (by decide) (by decide)
    refine mAns_ok (v := if a = 0 ∧ b = 0 then 0 else 1) (h' := h) ?_ Fr.rf rfl h0
    simp (disch := omega) only [fX10_valueOf, lit, hk, h1, h2, inbN, if_true, nI_clamp, ↓reduceIte, leT, leF, ltT, ltF, eqT, eqF, hT, ea, eb, lgc_eq]
    by_cases q1 : a = 0 <;> by_cases q2 : b = 0 <;> simp [q1, q2]
  · have hk : hI h 130 q = nI 3 := hk
    have hT := inT_in 3 (by decide) (by decide)
    refine mAns_ok (v := if a = 0 ∨ b = 0 then 0 else 1) (h' := h) ?_ Fr.rf rfl h0
    simp (disch := omega) only [fX10_valueOf, lit, hk, h1, h2, inbN, if_true, nI_clamp, ↓reduceIte, leT, leF, ltT, ltF, eqT, eqF, hT, ea, eb, lgc_eq]
    by_cases q1 : a = 0 <;> by_cases q2 : b = 0 <;> simp [q1, q2]
  · have hk : hI h 130 q = nI 5 := hk
    have hT := inT_in 5 (by decide) (by decide)
    refine mAns_ok (v := if b ≤ a then 0 else 1) (h' := h) ?_ Fr.rf rfl h0
    have hC := inT_c 5 (by decide) (by decide)
    simp (disch := omega) only [fX10_valueOf, lit, hk, h1, h2, inbN, if_true, nI_clamp, ↓reduceIte, leT, leF, ltT, ltF, eqT, eqF, hT, ea, eb, fX10_valueOf_259, fX10_compares, hC, lgc_eq, lgc_ge, lgc_gt, lgc_lt, lgc_le, if_false]
    by_cases q1 : b ≤ a <;> simp only [q1, if_true, if_false, bnd_some] <;> simp (disch := omega) only [↓reduceIte, leT, leF, ltT, ltF, eqT, eqF]
  · have hk : hI h 130 q = nI 6 := hk
    have hT := inT_in 6 (by decide) (by decide)
    refine mAns_ok (v := if b < a then 0 else 1) (h' := h) ?_ Fr.rf rfl h0
    have hC := inT_c 6 (by decide) (by decide)
    simp (disch := omega) only [fX10_valueOf, lit, hk, h1, h2, inbN, if_true, nI_clamp, ↓reduceIte, leT, leF, ltT, ltF, eqT, eqF, hT, ea, eb, fX10_valueOf_259, fX10_compares, hC, lgc_eq, lgc_ge, lgc_gt, lgc_lt, lgc_le, if_false]
    by_cases q1 : b < a <;> simp only [q1, if_true, if_false, bnd_some] <;> simp (disch := omega) only [↓reduceIte, leT, leF, ltT, ltF, eqT, eqF]
  · have hk : hI h 130 q = nI 7 := hk
    have hT := inT_in 7 (by decide) (by decide)
    refine mAns_ok (v := if a = b then 1 else 0) (h' := h) ?_ Fr.rf rfl h0
    have hC := inT_c 7 (by decide) (by decide)
    simp (disch := omega) only [fX10_valueOf, lit, hk, h1, h2, inbN, if_true, nI_clamp, ↓reduceIte, leT, leF, ltT, ltF, eqT, eqF, hT, ea, eb, fX10_valueOf_259, fX10_compares, hC, lgc_eq, lgc_ge, lgc_gt, lgc_lt, lgc_le, if_false]
    by_cases q1 : a = b <;> simp only [q1, if_true, if_false, bnd_some] <;> simp (disch := omega) only [↓reduceIte, leT, leF, ltT, ltF, eqT, eqF]
  · have hk : hI h 130 q = nI 8 := hk
    have hT := inT_in 8 (by decide) (by decide)
    refine mAns_ok (v := if a = b then 0 else 1) (h' := h) ?_ Fr.rf rfl h0
    have hC := inT_c 8 (by decide) (by decide)
    simp (disch := omega) only [fX10_valueOf, lit, hk, h1, h2, inbN, if_true, nI_clamp, ↓reduceIte, leT, leF, ltT, ltF, eqT, eqF, hT, ea, eb, fX10_valueOf_259, fX10_compares, hC, lgc_eq, lgc_ge, lgc_gt, lgc_lt, lgc_le, if_false]
    by_cases q1 : a = b <;> simp only [q1, if_true, if_false, bnd_some] <;> simp (disch := omega) only [↓reduceIte, leT, leF, ltT, ltF, eqT, eqF]
  · have hk : hI h 130 q = nI 9 := hk
    have hT := inT_in 9 (by decide) (by decide)
    refine mAns_ok (v := if a < b then 0 else 1) (h' := h) ?_ Fr.rf rfl h0
    have hC := inT_c 9 (by decide) (by decide)
    simp (disch := omega) only [fX10_valueOf, lit, hk, h1, h2, inbN, if_true, nI_clamp, ↓reduceIte, leT, leF, ltT, ltF, eqT, eqF, hT, ea, eb, fX10_valueOf_259, fX10_compares, hC, lgc_eq, lgc_ge, lgc_gt, lgc_lt, lgc_le, if_false]
    by_cases q1 : a < b <;> simp only [q1, if_true, if_false, bnd_some] <;> simp (disch := omega) only [↓reduceIte, leT, leF, ltT, ltF, eqT, eqF]
  · have hk : hI h 130 q = nI 10 := hk
    have hT := inT_in 10 (by decide) (by decide)
    refine mAns_ok (v := if a ≤ b then 0 else 1) (h' := h) ?_ Fr.rf rfl h0
    have hC := inT_c10
    simp (disch := omega) only [fX10_valueOf, lit, hk, h1, h2, inbN, if_true, nI_clamp, ↓reduceIte, leT, leF, ltT, ltF, eqT, eqF, hT, ea, eb, fX10_valueOf_259, fX10_compares, hC, lgc_eq, lgc_ge, lgc_gt, lgc_lt, lgc_le, if_false]
    by_cases q1 : a ≤ b <;> simp only [q1, if_true, if_false, bnd_some] <;> simp (disch := omega) only [↓reduceIte, leT, leF, ltT, ltF, eqT, eqF]
  · have hk : hI h 130 q = nI 11 := hk
    have hT := inT_in 11 (by decide) (by decide)
    have ej : jn 20009 a b = if bd (a + b) then some (a + b) else none := by
      have : jn 20009 a b = if (a.toInt + b.toInt).natAbs ≤ 1000000000000 then some (a + b) else none := rfl
      rw [this, ← bd_add ha hb]
      by_cases q1 : bd (a + b)
      · rw [if_pos q1, if_pos (bd_ab.mp q1)]
      · rw [if_neg q1, if_neg (fun z => q1 (bd_ab.mpr z))]
    have e : fX10_valueOf h (nI q) = fX10_bounded h (a + b) := by
      simp (disch := omega) only [fX10_valueOf, lit, hk, h1, h2, inbN, if_true, nI_clamp, ↓reduceIte, leT, leF, ltT, ltF, eqT, eqF, hT, ea, eb]
      cases fX10_bounded h (a + b) <;> rfl
    rw [ej, e]; exact m_bounded h0
  · have hk : hI h 130 q = nI 12 := hk
    have hT := inT_in 12 (by decide) (by decide)
    have ej : jn 20010 a b = if bd (a - b) then some (a - b) else none := by
      have : jn 20010 a b = if (a.toInt - b.toInt).natAbs ≤ 1000000000000 then some (a - b) else none := rfl
      rw [this, ← bd_sub ha hb]
      by_cases q1 : bd (a - b)
      · rw [if_pos q1, if_pos (bd_ab.mp q1)]
      · rw [if_neg q1, if_neg (fun z => q1 (bd_ab.mpr z))]
    have e : fX10_valueOf h (nI q) = fX10_bounded h (a - b) := by
      simp (disch := omega) only [fX10_valueOf, lit, hk, h1, h2, inbN, if_true, nI_clamp, ↓reduceIte, leT, leF, ltT, ltF, eqT, eqF, hT, ea, eb]
      cases fX10_bounded h (a - b) <;> rfl
    rw [ej, e]; exact m_bounded h0
  · have hk : hI h 130 q = nI 13 := hk
    have hT := inT_in 13 (by decide) (by decide)
    have e : fX10_valueOf h (nI q) = fX10_times h a b := by
      simp (disch := omega) only [fX10_valueOf, lit, hk, h1, h2, inbN, if_true, nI_clamp, ↓reduceIte, leT, leF, ltT, ltF, eqT, eqF, hT, ea, eb]
      cases fX10_times h a b <;> rfl
    rw [e]; exact m_times h0 ha hb
  · have hk : hI h 130 q = nI 14 := hk
    have hT := inT_in 14 (by decide) (by decide)
    have ej : jn 20012 a b = if b = 0 then none else some (a / b) := rfl
    rw [ej]
    by_cases q1 : b = 0
    · have e : fX10_valueOf h (nI q) = some ((0 : Int64), uI h 107 59 (nI 1)) := by
        simp (disch := omega) only [fX10_valueOf, lit, hk, h1, h2, inbN, if_true, nI_clamp, ↓reduceIte, leT, leF, ltT, ltF, eqT, eqF, hT, ea, eb, h0, lgc_eq, q1, fX10_valueOf_235, fX10_valueOf_240, isZ1, hI_at (show (107 : Nat) = 107 ∧ (59 : Nat) = 59 from ⟨rfl, rfl⟩)]
      rw [if_pos q1]
      exact mAns_er e F59_u rfl (hI_at ⟨rfl, rfl⟩)
    · have e : fX10_valueOf h (nI q) = some (a / b, uI h 107 59 (nI 0)) := by
        simp (disch := omega) only [fX10_valueOf, lit, hk, h1, h2, inbN, if_true, nI_clamp, ↓reduceIte, leT, leF, ltT, ltF, eqT, eqF, hT, ea, eb, h0, lgc_eq, q1, if_false, fX10_valueOf_240, isZ0, hI_at (show (107 : Nat) = 107 ∧ (59 : Nat) = 59 from ⟨rfl, rfl⟩)]
      rw [if_neg q1]
      exact mAns_ok e F59_u rfl (hI_at ⟨rfl, rfl⟩)
/-- with an error it stays one -/
theorem m_verr {h : Hp} {q k ia ib : Nat} (hq : q < 64) (hk : hI h 130 q = nI k) (hk2 : k < 15) (h1 : hI h 131 q = nI ia) (h17 : k = 1 → ia < 7) (hia : 2 ≤ k → ia < 64) (h2 : 3 ≤ k → hI h 132 q = nI ib ∧ ib < 64) (h0 : hI h 107 59 = nI 1) : ∃ v h', fX10_valueOf h (nI q) = some (v, h') ∧ F59 h h' ∧ hI h' 107 59 = nI 1 := by
  have ok : ∀ v : Int64, fX10_valueOf h (nI q) = some (v, h) → ∃ v h', fX10_valueOf h (nI q) = some (v, h') ∧ F59 h h' ∧ hI h' 107 59 = nI 1 := fun v e => ⟨v, h, e, Fr.rf, h0⟩
  have ok1 : ∀ v : Int64, fX10_valueOf h (nI q) = some (v, uI h 107 59 (nI 1)) → ∃ v h', fX10_valueOf h (nI q) = some (v, h') ∧ F59 h h' ∧ hI h' 107 59 = nI 1 := fun v e => ⟨v, _, e, F59_u, hI_at ⟨rfl, rfl⟩⟩
  have h59 : ∀ v : Int32, hI (uI h 107 59 v) 107 59 = v := fun v => hI_at ⟨rfl, rfl⟩
  by_cases k0 : k = 0
  · subst k0
    exact ok _ (by simp (disch := omega) only [fX10_valueOf, lit, hk, h1, inbN, if_true, nI_clamp, ↓reduceIte, leT, leF, ltT, ltF, eqT, eqF]; rfl)
  by_cases k1 : k = 1
  · subst k1
    have := h17 rfl
    exact ok _ (by simp (disch := omega) only [fX10_valueOf, lit, hk, h1, inbN, if_true, nI_clamp, ↓reduceIte, leT, leF, ltT, ltF, eqT, eqF]; rfl)
  have hia := hia (by omega)
  by_cases k2 : k = 2
  · subst k2
    by_cases q1 : hJ h 136 ia = 0
    · exact ok 1 (by simp (disch := omega) only [fX10_valueOf, lit, hk, h1, inbN, if_true, nI_clamp, ↓reduceIte, leT, leF, ltT, ltF, eqT, eqF, lgc_eq, q1])
    · exact ok 0 (by simp (disch := omega) only [fX10_valueOf, lit, hk, h1, inbN, if_true, nI_clamp, ↓reduceIte, leT, leF, ltT, ltF, eqT, eqF, lgc_eq, q1, if_false])
  obtain ⟨h2, hib⟩ := h2 (by omega)
  have cs : k = 3 ∨ k = 4 ∨ k = 5 ∨ k = 6 ∨ k = 7 ∨ k = 8 ∨ k = 9 ∨ k = 10 ∨ k = 11 ∨ k = 12 ∨ k = 13 ∨ k = 14 := by omega
  have hT := inT_in k hk2 (by omega)
  rcases cs with rfl | rfl | rfl | rfl | rfl | rfl | rfl | rfl | rfl | rfl | rfl | rfl
  · by_cases q1 : hJ h 136 ia = 0 <;> by_cases q2 : hJ h 136 ib = 0 <;> exact ok _ (by simp (disch := omega) only [fX10_valueOf, lit, hk, h1, h2, inbN, if_true, nI_clamp, ↓reduceIte, leT, leF, ltT, ltF, eqT, eqF, hT, lgc_eq, q1, q2, if_false]; rfl)
  · by_cases q1 : hJ h 136 ia = 0 <;> by_cases q2 : hJ h 136 ib = 0 <;> exact ok _ (by simp (disch := omega) only [fX10_valueOf, lit, hk, h1, h2, inbN, if_true, nI_clamp, ↓reduceIte, leT, leF, ltT, ltF, eqT, eqF, hT, lgc_eq, q1, q2, if_false]; rfl)
  · have hC := inT_c 5 (by decide) (by decide)
    by_cases q1 : hJ h 136 ib ≤ hJ h 136 ia <;> exact ok _ (by simp (disch := omega) only [fX10_valueOf, lit, hk, h1, h2, inbN, if_true, nI_clamp, ↓reduceIte, leT, leF, ltT, ltF, eqT, eqF, hT, fX10_valueOf_259, fX10_compares, hC, lgc_eq, lgc_ge, lgc_gt, lgc_lt, lgc_le, if_false, q1, bnd_some]; rfl)
  · have hC := inT_c 6 (by decide) (by decide)
    by_cases q1 : hJ h 136 ib < hJ h 136 ia <;> exact ok _ (by simp (disch := omega) only [fX10_valueOf, lit, hk, h1, h2, inbN, if_true, nI_clamp, ↓reduceIte, leT, leF, ltT, ltF, eqT, eqF, hT, fX10_valueOf_259, fX10_compares, hC, lgc_eq, lgc_ge, lgc_gt, lgc_lt, lgc_le, if_false, q1, bnd_some]; rfl)
  · have hC := inT_c 7 (by decide) (by decide)
    by_cases q1 : hJ h 136 ia = hJ h 136 ib <;> exact ok _ (by simp (disch := omega) only [fX10_valueOf, lit, hk, h1, h2, inbN, if_true, nI_clamp, ↓reduceIte, leT, leF, ltT, ltF, eqT, eqF, hT, fX10_valueOf_259, fX10_compares, hC, lgc_eq, lgc_ge, lgc_gt, lgc_lt, lgc_le, if_false, q1, bnd_some]; rfl)
  · have hC := inT_c 8 (by decide) (by decide)
    by_cases q1 : hJ h 136 ia = hJ h 136 ib <;> exact ok _ (by simp (disch := omega) only [fX10_valueOf, lit, hk, h1, h2, inbN, if_true, nI_clamp, ↓reduceIte, leT, leF, ltT, ltF, eqT, eqF, hT, fX10_valueOf_259, fX10_compares, hC, lgc_eq, lgc_ge, lgc_gt, lgc_lt, lgc_le, if_false, q1, bnd_some]; rfl)
  · have hC := inT_c 9 (by decide) (by decide)
    by_cases q1 : hJ h 136 ia < hJ h 136 ib <;> exact ok _ (by simp (disch := omega) only [fX10_valueOf, lit, hk, h1, h2, inbN, if_true, nI_clamp, ↓reduceIte, leT, leF, ltT, ltF, eqT, eqF, hT, fX10_valueOf_259, fX10_compares, hC, lgc_eq, lgc_ge, lgc_gt, lgc_lt, lgc_le, if_false, q1, bnd_some]; rfl)
  · have hC := inT_c10
    by_cases q1 : hJ h 136 ia ≤ hJ h 136 ib <;> exact ok _ (by simp (disch := omega) only [fX10_valueOf, lit, hk, h1, h2, inbN, if_true, nI_clamp, ↓reduceIte, leT, leF, ltT, ltF, eqT, eqF, hT, fX10_valueOf_259, fX10_compares, hC, lgc_eq, lgc_ge, lgc_gt, lgc_lt, lgc_le, if_false, q1, bnd_some]; rfl)
  · exact ok1 0 (by simp (disch := omega) only [fX10_valueOf, lit, hk, h1, h2, inbN, if_true, nI_clamp, ↓reduceIte, leT, leF, ltT, ltF, eqT, eqF, hT, fX10_bounded, fX10_bounded_24, fX10_bounded_29, h0, h59, isZ1, bnd_some])
  · exact ok1 0 (by simp (disch := omega) only [fX10_valueOf, lit, hk, h1, h2, inbN, if_true, nI_clamp, ↓reduceIte, leT, leF, ltT, ltF, eqT, eqF, hT, fX10_bounded, fX10_bounded_24, fX10_bounded_29, h0, h59, isZ1, bnd_some])
  · have kk : fX10_times_48 h (hJ h 136 ia) (hJ h 136 ib) = some ((0 : Int64), uI h 107 59 (nI 1)) := by
      simp (disch := omega) only [fX10_times_48, fX10_times_49, fX10_times_64, fX10_times_69, lit, h0, ↓reduceIte, leT, leF, ltT, ltF, eqT, eqF, h59, isZ1, if_true]
    have k9 : ∀ s, fX10_times_49 h (hJ h 136 ia) (hJ h 136 ib) s = some ((0 : Int64), uI h 107 59 (nI 1)) := by
      intro s
      simp (disch := omega) only [fX10_times_49, fX10_times_64, fX10_times_69, lit, h0, ↓reduceIte, leT, leF, ltT, ltF, eqT, eqF, h59, isZ1, if_true]
    have e : ∃ v, fX10_times h (hJ h 136 ia) (hJ h 136 ib) = some (v, uI h 107 59 (nI 1)) := by
      refine ⟨0, ?_⟩
      unfold fX10_times fX10_times_24 fX10_times_39
      simp only [kk, k9, lit, lgc_eq, lgc_ge]
      by_cases qa : hJ h 136 ia = 0
      · rw [if_pos qa]
      · have qn : ¬ (-hJ h 136 ia) = 0 := fun z => qa (by have := congrArg (fun t => -t) z; simpa using this)
        simp [qa, qn]
    obtain ⟨v, e⟩ := e
    exact ok1 v (by simp (disch := omega) only [fX10_valueOf, lit, hk, h1, h2, inbN, if_true, nI_clamp, ↓reduceIte, leT, leF, ltT, ltF, eqT, eqF, hT, e, bnd_some])
  · exact ok1 0 (by simp (disch := omega) only [fX10_valueOf, lit, hk, h1, h2, inbN, if_true, nI_clamp, ↓reduceIte, leT, leF, ltT, ltF, eqT, eqF, hT, h0, fX10_valueOf_235, fX10_valueOf_240, h59, isZ1])
