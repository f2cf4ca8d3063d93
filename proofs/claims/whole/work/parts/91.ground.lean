/-! The ground: by rounds. -/
def gK (T : Tx) (x y : Int32) (n i : Nat) : Nat := orB (fun k => decide (T 4 k = i ∧ nI k ≠ x ∧ nI k ≠ y)) (T 5) n
def fK (T : Tx) (x y : Int32) (n i : Nat) : Nat := orB (fun k => decide (T 5 k = i ∧ nI k ≠ x ∧ nI k ≠ y)) (T 4) n
def gB (T : Tx) (x y : Int32) (i : Nat) : Nat := gK T x y (T 0 1) i
theorem fK_B (T : Tx) (x y : Int32) (i : Nat) : fK T x y (T 0 1) i = foesB T i x y := rfl
theorem gB_lt {T : Tx} (F : WFT T) (x y : Int32) (i : Nat) : gB T x y i < 2 ^ T 0 0 := orB_lt (fun k hk => (F.2.2.1 k hk).2.1)
theorem fB_lt {T : Tx} (F : WFT T) (x y : Int32) (i : Nat) : foesB T i x y < 2 ^ T 0 0 := orB_lt (fun k hk => (F.2.2.1 k hk).1)
theorem gf_sym {T : Tx} {x y : Int32} {a b : Nat} : ((gB T x y a).testBit b = true) ↔ ((foesB T b x y).testBit a = true) := by
  unfold gB gK foesB
  rw [orB_tb, orB_tb]
  constructor
  · rintro ⟨k, h1, h2, h3⟩
    have h2 := of_decide_eq_true h2
    exact ⟨k, h1, decide_eq_true ⟨h3, h2.2⟩, h2.1⟩
  · rintro ⟨k, h1, h2, h3⟩
    have h2 := of_decide_eq_true h2
    exact ⟨k, h1, decide_eq_true ⟨h3, h2.2⟩, h2.1⟩
/-- a round -/
def FN (T : Tx) (x y : Int32) (b : Nat) : Nat := orB (fun k => decide (nob (foesB T k x y) (orF b (gB T x y) 8) = 0)) (fun k => k) (T 0 0)
def itN (T : Tx) (x y : Int32) : Nat → Nat
  | 0 => 0
  | j + 1 => FN T x y (itN T x y j)
theorem FN_lt (T : Tx) (x y : Int32) (b : Nat) : FN T x y b < 2 ^ T 0 0 := orB_lt (fun k hk => hk)
theorem itN_lt (T : Tx) (x y : Int32) : ∀ j, itN T x y j < 2 ^ T 0 0
  | 0 => Nat.two_pow_pos _
  | j + 1 => FN_lt T x y _
theorem nob0 {a b : Nat} (ha : a < 2 ^ 32) : (nob a b = 0) ↔ ∀ i, a.testBit i = true → b.testBit i = true := by
  constructor
  · intro h i hi
    have := congrArg (fun n => n.testBit i) h
    simp only [nob_tb ha, hi, Nat.zero_testBit, Bool.true_and, Bool.not_eq_false'] at this
    exact this
  · intro h
    apply Nat.eq_of_testBit_eq
    intro i
    rw [nob_tb ha, Nat.zero_testBit]
    by_cases q : a.testBit i = true
    · rw [h i q]; simp
    · rw [Bool.not_eq_true] at q; rw [q]; rfl
theorem FN_mono {T : Tx} (F : WFT T) {x y : Int32} {a b : Nat} (h : ∀ i, a.testBit i = true → b.testBit i = true) : ∀ i, (FN T x y a).testBit i = true → (FN T x y b).testBit i = true := by
  intro i
  unfold FN
  rw [orB_tb, orB_tb]
  rintro ⟨k, k1, k2, k3⟩
  refine ⟨k, k1, decide_eq_true ?_, k3⟩
  have k2 := of_decide_eq_true k2
  have hl := p8 (fB_lt F x y k) F.1.1
  rw [nob0 (by omega)] at k2 ⊢
  intro j hj
  obtain ⟨m, m1, m2, m3⟩ := orF_tb.mp (k2 j hj)
  exact orF_tb.mpr ⟨m, m1, h m m2, m3⟩
theorem itN_mono {T : Tx} (F : WFT T) {x y : Int32} : ∀ j i, (itN T x y j).testBit i = true → (itN T x y (j + 1)).testBit i = true
  | 0, i, h => by rw [itN, Nat.zero_testBit] at h; cases h
  | j + 1, i, h => FN_mono F (itN_mono F j) i h
theorem itN_or {T : Tx} (F : WFT T) {x y : Int32} (j : Nat) : itN T x y j ||| FN T x y (itN T x y j) = itN T x y (j + 1) := by
  apply Nat.eq_of_testBit_eq
  intro i
  rw [Nat.testBit_or]
  by_cases q : (itN T x y j).testBit i = true
  · rw [itN_mono F j i q, q]; rfl
  · rw [Bool.not_eq_true] at q; rw [q]; rfl
theorem itN_fix {T : Tx} {x y : Int32} {j : Nat} (h : itN T x y (j + 1) = itN T x y j) : ∀ d, itN T x y (j + d) = itN T x y j
  | 0 => rfl
  | d + 1 => by
    show FN T x y (itN T x y (j + d)) = _
    rw [itN_fix h d]; exact h
/-- what the reference's first half finds -/
theorem D_eq {T : Tx} (F : WFT T) {x y : Int32} {b : Nat} (hb : b < 2 ^ T 0 0) : orB (fun k => decide (¬ (foesB T k x y &&& b = 0))) (fun k => k) (T 0 0) = orF b (gB T x y) 8 := by
  have h8 := F.1.1
  apply Nat.eq_of_testBit_eq
  intro i
  rw [Bool.eq_iff_iff, orB_tb, orF_tb]
  constructor
  · rintro ⟨k, k1, k2, rfl⟩
    obtain ⟨m, m1, m2⟩ := and_ne.mp (of_decide_eq_true k2)
    exact ⟨m, by have := in_n hb m2; omega, m2, gf_sym.mpr m1⟩
  · rintro ⟨m, m1, m2, m3⟩
    exact ⟨i, in_n (gB_lt F x y m) m3, decide_eq_true (and_ne.mpr ⟨m, gf_sym.mp m3, m2⟩), rfl⟩
section V
variable {hc hm : Hp} {S : Nat} {T : Tx}
def PG (S a _ : Nat) : Prop := a = S + 10 ∨ a = S + 11
def PN (_ _ : Nat) : Prop := False
theorem RSc_PG (hS : isS S) (R : RSc hc S T) {h' : Hp} (f : Fr (PG S) PN hc h') : RSc h' S T :=
  RSc_ag hS R (fun a i q => f.1 a i (fun z => by unfold relA at q; unfold PG at z; rcases hS with rfl | rfl <;> omega)) (fun a i _ => f.2.2 a i)
def KW (h : Hp) (S : Nat) (g f : Nat → Nat) : Prop := ∀ i, i < 8 → hI h (S + 10) i = nI (g i) ∧ hI h (S + 11) i = nI (f i)
theorem x_kw2 (hS : isS S) (R : RSc hc S T) (F : WFT T) (x y : Int32) : ∀ (d k fu : Nat) (h : Hp), k + d = T 0 1 → d < fu → Fr (PG S) PN hc h → KW h S (gK T x y k) (fK T x y k) → ∃ h', fX0_keepWithout_30 fu (S + 1) h x y (nI k) = some h' ∧ Fr (PG S) PN hc h' ∧ KW h' S (gB T x y) (fun i => foesB T i x y)
  | 0, k, fu + 1, h, hk, _, f, kw => by
    have e : k = T 0 1 := by omega
    subst e
    have := F.1.2.1
    refine ⟨h, ?_, f, kw⟩
    rw [fX0_keepWithout_30]; simp (disch := omega) only [lit, (RSc_PG hS R f).1.2.1, ↓reduceIte, leT]
  | d + 1, k, fu + 1, h, hk, hf, f, kw => by
    have ih := fun h => x_kw2 hS R F x y d (k + 1) fu h (by omega) (by omega)
    have R' := RSc_PG hS R f
    have h16 := F.1.2.1
    have h8 := F.1.1
    obtain ⟨r4, r5⟩ := R'.2.2.2.1 k (by omega)
    obtain ⟨f4, f5, -⟩ := F.2.2.1 k (by omega)
    have eg : ∀ i, gK T x y (k + 1) i = gK T x y k i ||| (if decide (T 4 k = i ∧ nI k ≠ x ∧ nI k ≠ y) = true then 2 ^ T 5 k else 0) := fun i => rfl
    have ef : ∀ i, fK T x y (k + 1) i = fK T x y k i ||| (if decide (T 5 k = i ∧ nI k ≠ x ∧ nI k ≠ y) = true then 2 ^ T 4 k else 0) := fun i => rfl
    rw [fX0_keepWithout_30]
    by_cases qx : nI k = x
    · subst qx
      obtain ⟨h', a1, a2⟩ := ih h f (fun i hi => by
        rw [eg, ef, if_neg (by simp), if_neg (by simp), Nat.or_zero, Nat.or_zero]; exact kw i hi)
      refine ⟨h', ?_, a2⟩
      simp (disch := omega) only [lit, R'.1.2.1, ↓reduceIte, leF, inbN, fX0_keepWithout_116, nI_add]
      exact a1
    · by_cases qy : nI k = y
      · obtain ⟨h', a1, a2⟩ := ih h f (fun i hi => by
          rw [eg, ef, if_neg (by simp [qy]), if_neg (by simp [qy]), Nat.or_zero, Nat.or_zero]; exact kw i hi)
        refine ⟨h', ?_, a2⟩
        simp (disch := omega) only [lit, R'.1.2.1, ↓reduceIte, leF, inbN, fX0_keepWithout_116, nI_add, qx]
        rw [if_pos qy]
        exact a1
      · have f1 : Fr (PG S) PN hc (uI (uI h (S + 10) (T 4 k) (nI (gK T x y k (T 4 k) ||| 2 ^ T 5 k))) (S + 11) (T 5 k) (nI (fK T x y k (T 5 k) ||| 2 ^ T 4 k))) := (f.uI (Or.inl rfl)).uI (Or.inr rfl)
        obtain ⟨h', a1, a2⟩ := ih _ f1 (fun i hi => by
          constructor
          · rw [hI_ne (by omega), eg]
            by_cases z : T 4 k = i
            · rw [hI_at ⟨rfl, z.symm⟩, if_pos (by simp [z, qx, qy]), z]
            · rw [hI_ne (by omega), if_neg (by simp [z]), Nat.or_zero]; exact (kw i hi).1
          · rw [ef]
            by_cases z : T 5 k = i
            · rw [hI_at ⟨rfl, z.symm⟩, if_pos (by simp [z, qx, qy]), z]
            · rw [hI_ne (by omega), hI_ne (by omega), if_neg (by simp [z]), Nat.or_zero]; exact (kw i hi).2)
        refine ⟨h', ?_, a2⟩
        have k1 := (kw (T 4 k) (by omega)).1
        have k2 := (kw (T 5 k) (by omega)).2
        simp (disch := omega) only [lit, R'.1.2.1, ↓reduceIte, leF, inbN, nI_clamp, rC6 hS, rC7 hS, r4, r5, qx, qy, fX0_isOne, ltF, rC0 hS, R'.1.1, bnd_some, eqF, rC8 hS, rC9 hS, k1, shl1, nx_o, hI_ne, k2, fX0_keepWithout_116, nI_add]
        exact a1
theorem x_kw1 (hS : isS S) (R : RSc hc S T) (F : WFT T) (x y : Int32) : ∀ (d k fu : Nat) (h : Hp), k + d = 8 → d < fu → Fr (PG S) PN hc h → (∀ i, i < k → hI h (S + 10) i = nI 0 ∧ hI h (S + 11) i = nI 0) → ∃ h', fX0_keepWithout_2 fu (S + 1) h x y (nI k) = some h' ∧ Fr (PG S) PN hc h' ∧ KW h' S (gB T x y) (fun i => foesB T i x y)
  | 0, k, fu + 1, h, hk, _, f, kw => by
    have e : k = 8 := by omega
    subst e
    obtain ⟨h', a1, a2⟩ := x_kw2 hS R F x y (T 0 1) 0 FU h (by omega) (Nat.lt_of_le_of_lt F.1.2.1 (by decide)) f (fun i hi => kw i hi)
    refine ⟨h', ?_, a2⟩
    rw [fX0_keepWithout_2]; simp (disch := omega) only [lit, ↓reduceIte, leT]
    exact a1
  | d + 1, k, fu + 1, h, hk, hf, f, kw => by
    have f1 : Fr (PG S) PN hc (uI (uI h (S + 10) k (nI 0)) (S + 11) k (nI 0)) := (f.uI (Or.inl rfl)).uI (Or.inr rfl)
    obtain ⟨h', a1, a2⟩ := x_kw1 hS R F x y d (k + 1) fu _ (by omega) (by omega) f1 (fun i hi => by
      by_cases z : i = k
      · subst z; exact ⟨by rw [hI_ne (by omega), hI_at ⟨rfl, rfl⟩], hI_at ⟨rfl, rfl⟩⟩
      · exact ⟨by rw [hI_ne (by omega), hI_ne (by omega)]; exact (kw i (by omega)).1, by rw [hI_ne (by omega), hI_ne (by omega)]; exact (kw i (by omega)).2⟩)
    refine ⟨h', ?_, a2⟩
    rw [fX0_keepWithout_2]
    simp (disch := omega) only [lit, ↓reduceIte, leF, inbN, nI_clamp, rC8 hS, rC9 hS, nI_add]
    exact a1
theorem x_keep (hS : isS S) (R : RSc hc S T) (F : WFT T) (x y : Int32) : ∃ h', fX0_keepWithout (S + 1) hc x y = some h' ∧ Fr (PG S) PN hc h' ∧ KW h' S (gB T x y) (fun i => foesB T i x y) := by
  unfold fX0_keepWithout
  exact x_kw1 hS R F x y 8 0 FU hc rfl (by decide) Fr.rf (fun i hi => by omega)
theorem x_db2 (hS : isS S) (R : RSc hc S T) (F : WFT T) {x y : Int32} (kw : KW hc S (gB T x y) (fun i => foesB T i x y)) (b : Nat) : ∀ (d k fu : Nat), k + d = T 0 0 → d < fu → fX0_defendedBy_39 fu (S + 1) hc (nI (orF b (gB T x y) 8)) (nI (orB (fun k => decide (nob (foesB T k x y) (orF b (gB T x y) 8) = 0)) (fun k => k) k)) (nI k) = some (nI (FN T x y b), hc)
  | 0, k, fu + 1, hk, _ => by
    have e : k = T 0 0 := by omega
    subst e
    have := F.1.1
    rw [fX0_defendedBy_39]; simp (disch := omega) only [lit, rC0 hS, R.1.1, ↓reduceIte, leT]; rfl
  | d + 1, k, fu + 1, hk, hf => by
    have ih := x_db2 hS R F kw b d (k + 1) fu (by omega) (by omega)
    have h8 := F.1.1
    have k2 := (kw k (by omega)).2
    have hl := p8 (fB_lt F x y k) h8
    have hn := nob_le (foesB T k x y) (orF b (gB T x y) 8)
    rw [orB] at ih
    rw [fX0_defendedBy_39]
    by_cases q : nob (foesB T k x y) (orF b (gB T x y) 8) = 0
    · rw [if_pos (decide_eq_true q)] at ih
      simp (disch := omega) only [lit, rC0 hS, R.1.1, ↓reduceIte, leF, inbN, nI_clamp, rC9 hS, k2, nx_n, q, shl1, nx_o, fX0_defendedBy_79, nI_add]
      exact ih
    · rw [if_neg (by simpa using q), Nat.or_zero] at ih
      simp (disch := omega) only [lit, rC0 hS, R.1.1, ↓reduceIte, leF, inbN, nI_clamp, rC9 hS, k2, nx_n, eqF, fX0_defendedBy_79, nI_add]
      exact ih
theorem x_db1 (hS : isS S) (R : RSc hc S T) (F : WFT T) {x y : Int32} (kw : KW hc S (gB T x y) (fun i => foesB T i x y)) {b : Nat} (hb : b < 256) : ∀ (d k fu : Nat), k + d = 8 → d < fu → fX0_defendedBy_4 fu (S + 1) hc (nI b) (nI (orF b (gB T x y) k)) (nI k) = some (nI (FN T x y b), hc)
  | 0, k, fu + 1, hk, _ => by
    have e : k = 8 := by omega
    subst e
    rw [fX0_defendedBy_4]; simp (disch := omega) only [lit, ↓reduceIte, leT]
    exact x_db2 hS R F kw b (T 0 0) 0 FU (by omega) (Nat.lt_of_le_of_lt F.1.1 (by decide))
  | d + 1, k, fu + 1, hk, hf => by
    have ih := x_db1 hS R F kw hb d (k + 1) fu (by omega) (by omega)
    have k1 := (kw k (by omega)).1
    have eo : orF b (gB T x y) (k + 1) = orF b (gB T x y) k ||| (if b.testBit k = true then gB T x y k else 0) := rfl
    rw [fX0_defendedBy_4]
    by_cases q : b.testBit k = true
    · rw [if_pos q] at eo
      simp (disch := omega) only [lit, ↓reduceIte, leF, shr1T, q, inbN, nI_clamp, rC8 hS, k1, fX0_defendedBy_28, nx_o, nI_add]
      rw [← eo]; exact ih
    · rw [if_neg q, Nat.or_zero] at eo
      simp (disch := omega) only [lit, ↓reduceIte, leF, shr1T, q, Bool.false_eq_true, fX0_defendedBy_28, nI_add]
      rw [← eo]; exact ih
theorem x_db (hS : isS S) (R : RSc hc S T) (F : WFT T) {x y : Int32} (kw : KW hc S (gB T x y) (fun i => foesB T i x y)) {b : Nat} (hb : b < 256) : fX0_defendedBy (S + 1) hc (nI b) = some (nI (FN T x y b), hc) := by
  unfold fX0_defendedBy; exact x_db1 hS R F kw hb 8 0 FU rfl (by decide)
theorem x_gr1 (hS : isS S) (R : RSc hc S T) (F : WFT T) {x y : Int32} (kw : KW hc S (gB T x y) (fun i => foesB T i x y)) : ∀ (d j fu : Nat), j + d = 8 → d < fu → fX0_groundWithout_18 fu (S + 1) hc (nI (itN T x y j)) (nI (itN T x y (j + 1))) (nI j) = some (nI (itN T x y 8), hc)
  | 0, j, fu + 1, hk, _ => by
    have e : j = 8 := by omega
    subst e
    rw [fX0_groundWithout_18]; simp (disch := omega) only [lit, ↓reduceIte, leT]
  | d + 1, j, fu + 1, hk, hf => by
    have ih := x_gr1 hS R F kw d (j + 1) fu (by omega) (by omega)
    have l1 := p8 (itN_lt T x y j) F.1.1
    have l2 := p8 (itN_lt T x y (j + 1)) F.1.1
    rw [fX0_groundWithout_18]
    by_cases q : itN T x y (j + 1) = itN T x y j
    · simp (disch := omega) only [lit, ↓reduceIte, leF, q]
      rw [← itN_fix q (d + 1), hk]
    · simp (disch := omega) only [lit, ↓reduceIte, leF, eqF, x_db hS R F kw, bnd_some, nI_add]
      exact ih
theorem x_ground (hS : isS S) (R : RSc hc S T) (F : WFT T) (x y : Int32) : ∃ h', fX0_groundWithout (S + 1) hc x y = some (nI (itN T x y 8), h') ∧ Fr (PG S) PN hc h' := by
  obtain ⟨h', a1, a2, a3⟩ := x_keep hS R F x y
  have R' := RSc_PG hS R a2
  refine ⟨h', ?_, a2⟩
  have g := x_gr1 hS R' F a3 8 0 FU rfl (by decide)
  unfold fX0_groundWithout
  simp (disch := omega) only [lit, a1, bind_some', x_db hS R' F a3, bnd_some]
  exact g
theorem m_gr2 (R : RSm hm T) (F : WFT T) (x y : Int32) (rec5 : Hp → Int32 → Int32 → Int32 → Int32 → Option (Int32 × Hp)) {D b : Nat} (j : Nat) (hj : j < 8) (hb : b < 2 ^ T 0 0) : ∀ (d k fu : Nat), k + d = T 0 0 → d < fu → fX10_groundOf_62 fu rec5 hm x y (nI (b ||| orB (fun k => decide (nob (foesB T k x y) D = 0)) (fun k => k) k)) (nI j) (nI D) (nI k) = rec5 hm x y (nI (b ||| orB (fun k => decide (nob (foesB T k x y) D = 0)) (fun k => k) (T 0 0))) (nI (j + 1))
  | 0, k, fu + 1, hk, _ => by
    have e : k = T 0 0 := by omega
    subst e
    have := F.1.1
    rw [fX10_groundOf_62]; simp (disch := omega) only [lit, R.1.1, ↓reduceIte, leT, nI_add]
  | d + 1, k, fu + 1, hk, hf => by
    have ih := m_gr2 R F x y rec5 (D := D) j hj hb d (k + 1) fu (by omega) (by omega)
    have h8 := F.1.1
    have hl := p8 (fB_lt F x y k) h8
    have hn := nob_le (foesB T k x y) D
    rw [orB] at ih
    rw [fX10_groundOf_62]
    by_cases q : nob (foesB T k x y) D = 0
    · rw [if_pos (decide_eq_true q), ← Nat.or_assoc] at ih
      simp (disch := omega) only [lit, R.1.1, ↓reduceIte, leF, m_againstIt R F, bnd_some, nx_n, q, shl1, nx_o, fX10_groundOf_96, nI_add]
      exact ih
    · rw [if_neg (by simpa using q), Nat.or_zero] at ih
      simp (disch := omega) only [lit, R.1.1, ↓reduceIte, leF, m_againstIt R F, bnd_some, nx_n, eqF, nx_o, Nat.or_zero, fX10_groundOf_96, nI_add]
      exact ih
theorem m_gr1 (R : RSm hm T) (F : WFT T) (x y : Int32) (rec5 : Hp → Int32 → Int32 → Int32 → Int32 → Option (Int32 × Hp)) {b : Nat} (j : Nat) (hj : j < 8) (hb : b < 2 ^ T 0 0) : ∀ (d k fu : Nat), k + d = T 0 0 → d < fu → fX10_groundOf_18 fu rec5 hm x y (nI b) (nI j) (nI (orB (fun k => decide (¬ (foesB T k x y &&& b = 0))) (fun k => k) k)) (nI k) = rec5 hm x y (nI (b ||| FN T x y b)) (nI (j + 1))
  | 0, k, fu + 1, hk, _ => by
    have e : k = T 0 0 := by omega
    subst e
    have := F.1.1
    have g := m_gr2 R F x y rec5 (D := orF b (gB T x y) 8) j hj hb (T 0 0) 0 FU (by omega) (Nat.lt_of_le_of_lt F.1.1 (by decide))
    rw [orB, Nat.or_zero] at g
    rw [fX10_groundOf_18]; simp (disch := omega) only [lit, R.1.1, ↓reduceIte, leT]
    rw [D_eq F hb]
    exact g
  | d + 1, k, fu + 1, hk, hf => by
    have ih := m_gr1 R F x y rec5 j hj hb d (k + 1) fu (by omega) (by omega)
    have h8 := F.1.1
    have hl := p8 (fB_lt F x y k) h8
    have ha := Nat.and_le_left (n := foesB T k x y) (m := b)
    rw [orB] at ih
    rw [fX10_groundOf_18]
    by_cases q : foesB T k x y &&& b = 0
    · rw [if_neg (by simp [q]), Nat.or_zero] at ih
      simp (disch := omega) only [lit, R.1.1, ↓reduceIte, leF, m_againstIt R F, bnd_some, nx_a, q, nx_o, Nat.or_zero, fX10_groundOf_50, nI_add]
      exact ih
    · rw [if_pos (decide_eq_true q)] at ih
      simp (disch := omega) only [lit, R.1.1, ↓reduceIte, leF, m_againstIt R F, bnd_some, shl1]
      simp (disch := omega) only [nx_a, ↓reduceIte, eqF, nx_o, fX10_groundOf_50, lit, nI_add]
      exact ih
theorem m_gr0 (R : RSm hm T) (F : WFT T) (x y : Int32) : ∀ (d j fu : Nat), j + d = 8 → d < fu → fX10_groundOf_5 fu hm x y (nI (itN T x y j)) (nI j) = some (nI (itN T x y 8), hm)
  | 0, j, fu + 1, hk, _ => by
    have e : j = 8 := by omega
    subst e
    rw [fX10_groundOf_5]; simp (disch := omega) only [lit, ↓reduceIte, leT]
  | d + 1, j, fu + 1, hk, hf => by
    have ih := m_gr0 R F x y d (j + 1) fu (by omega) (by omega)
    have g := m_gr1 R F x y (fX10_groundOf_5 fu) j (by omega) (itN_lt T x y j) (T 0 0) 0 FU (by omega) (Nat.lt_of_le_of_lt F.1.1 (by decide))
    rw [fX10_groundOf_5]
    simp (disch := omega) only [lit, ↓reduceIte, leF]
    rw [itN_or F] at g
    exact g.trans ih
theorem m_ground (R : RSm hm T) (F : WFT T) (x y : Int32) : fX10_groundOf hm x y = some (nI (itN T x y 8), hm) := by
  unfold fX10_groundOf; exact m_gr0 R F x y 8 0 FU rfl (by decide)
theorem s_ground (s : R2 hc hm S T) : Ok2 hc hm (fX9_ground hc) (fX10_ground hm) := by
  have s0 := R2_thr s (nI 0)
  obtain ⟨hS, t1, -, F, Rc, Rm, -⟩ := s0.1
  have e0 := dref_of (q := (7, 20)) t1 (sS hS)
  obtain ⟨h', a1, a2⟩ := x_ground hS Rc F (-nI 1) (-nI 1)
  refine ok_askF (v := nI (itN T (-nI 1) (-nI 1) 8)) (hc' := h') (hm' := uI hm 107 2 (nI 0)) (QI := fun a i => a = 107 ∧ i = 2) (QJ := PN) s ?_ ?_ a2 (Fr.rf.uI ⟨rfl, rfl⟩) ?_ ?_ ?_ ?_
  · unfold fX9_ground; simp only [lit, e0, bind_some', rS0 hS, a1, bnd_some]
  · unfold fX10_ground; simp only [lit, m_ground Rm F, bnd_some]
  · intro a i q; unfold PG at q; unfold irC; rcases hS with rfl | rfl <;> omega
  · intro a i q; exact q.elim
  · intro a i q; unfold irM; omega
  · intro a i q; exact q.elim
end V
