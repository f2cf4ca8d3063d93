/-! Sets of claims: calm, standing, defended; set, standing, stand, largest. -/
/-- the bits of f over the members of s -/
def orF (s : Nat) (f : Nat → Nat) : Nat → Nat
  | 0 => 0
  | k + 1 => orF s f k ||| (if s.testBit k = true then f k else 0)
theorem orF_tb {s : Nat} {f : Nat → Nat} {b : Nat} : ∀ {n : Nat}, ((orF s f n).testBit b = true) ↔ ∃ k, k < n ∧ s.testBit k = true ∧ (f k).testBit b = true
  | 0 => by simp [orF]
  | n + 1 => by
    rw [orF, Nat.testBit_or, Bool.or_eq_true, orF_tb (n := n)]
    constructor
    · rintro (⟨k, hk, a⟩ | q)
      · exact ⟨k, by omega, a⟩
      · by_cases hp : s.testBit n = true
        · rw [if_pos hp] at q
          exact ⟨n, by omega, hp, q⟩
        · rw [if_neg hp] at q; simp at q
    · rintro ⟨k, hk, hp, e⟩
      rcases (by omega : k < n ∨ k = n) with q | rfl
      · exact Or.inl ⟨k, q, hp, e⟩
      · exact Or.inr (by rw [if_pos hp]; exact e)
theorem orF_lt {s : Nat} {f : Nat → Nat} {n c : Nat} (h : ∀ k, k < n → f k < 2 ^ c) : orF s f n < 2 ^ c := by
  apply tb_lt
  intro i hi
  rw [← Bool.not_eq_true, orF_tb]
  rintro ⟨k, hk, -, e⟩
  rw [lt_tb (h k hk) hi] at e; cases e
def hitS (T : Tx) (s : Nat) : Nat := orF s (hitsT T) 8
def foeS (T : Tx) (s : Nat) : Nat := orF s (foesT T) 8
theorem hitS_lt {T : Tx} (F : WFT T) (s : Nat) : hitS T s < 2 ^ T 0 0 := orF_lt (fun k _ => hits_lt F k)
theorem foeS_lt {T : Tx} (F : WFT T) (s : Nat) : foeS T s < 2 ^ T 0 0 := orF_lt (fun k _ => foes_lt F k)
theorem and_ne {a b : Nat} : ¬ (a &&& b = 0) ↔ ∃ i, a.testBit i = true ∧ b.testBit i = true := by
  constructor
  · intro h
    apply Classical.byContradiction
    intro q
    apply h
    apply Nat.eq_of_testBit_eq
    intro i
    rw [Nat.testBit_and, Nat.zero_testBit]
    cases qa : a.testBit i <;> cases qb : b.testBit i <;> first | rfl | exact absurd ⟨i, qa, qb⟩ q
  · rintro ⟨i, h1, h2⟩ z
    have := congrArg (fun n => n.testBit i) z
    simp only [Nat.testBit_and, h1, h2, Nat.zero_testBit] at this
    cases this
theorem hf_sym {T : Tx} {a b : Nat} : ((hitsT T a).testBit b = true) ↔ ((foesT T b).testBit a = true) := by
  rw [hits_tb, foes_tb]
  constructor
  · rintro ⟨k, h1, h2, h3⟩; exact ⟨k, h1, h3, h2⟩
  · rintro ⟨k, h1, h2, h3⟩; exact ⟨k, h1, h3, h2⟩
theorem in_n {s n i : Nat} (hs : s < 2 ^ n) (h : s.testBit i = true) : i < n := by
  apply Nat.lt_of_not_le
  intro q
  rw [lt_tb hs q] at h; cases h
def calmB (T : Tx) (s : Nat) : Bool := decide (hitS T s &&& s = 0)
def stdB (T : Tx) (s : Nat) : Bool := calmB T s && decide (hitS T s ||| s = 2 ^ T 0 0 - 1)
def dfB (T : Tx) (s : Nat) : Bool := calmB T s && decide (nob (foeS T s) (hitS T s) = 0)
theorem calm_iff {T : Tx} (F : WFT T) {s : Nat} (hs : s < 2 ^ T 0 0) : calmB T s = true ↔ ∀ i, i < T 0 0 → s.testBit i = true → hitsT T i &&& s = 0 := by
  have h8 := F.1.1
  unfold calmB
  rw [decide_eq_true_eq]
  constructor
  · intro h i hi hb
    apply Classical.byContradiction
    intro q
    obtain ⟨b, b1, b2⟩ := and_ne.mp q
    exact and_ne.mpr ⟨b, orF_tb.mpr ⟨i, by omega, hb, b1⟩, b2⟩ h
  · intro h
    apply Classical.byContradiction
    intro q
    obtain ⟨b, b1, b2⟩ := and_ne.mp q
    obtain ⟨k, k1, k2, k3⟩ := orF_tb.mp b1
    exact and_ne.mpr ⟨b, k3, b2⟩ (h k (in_n hs k2) k2)
theorem hitS_tb {T : Tx} (F : WFT T) {s k : Nat} (hs : s < 2 ^ T 0 0) : (hitS T s).testBit k = true ↔ ¬ (foesT T k &&& s = 0) := by
  have h8 := F.1.1
  unfold hitS
  rw [orF_tb, and_ne]
  constructor
  · rintro ⟨i, i1, i2, i3⟩; exact ⟨i, hf_sym.mp i3, i2⟩
  · rintro ⟨i, i1, i2⟩; exact ⟨i, by have := in_n hs i2; omega, i2, hf_sym.mpr i1⟩
theorem foeS_tb {T : Tx} (F : WFT T) {s k : Nat} (hs : s < 2 ^ T 0 0) : (foeS T s).testBit k = true ↔ ¬ (hitsT T k &&& s = 0) := by
  have h8 := F.1.1
  unfold foeS
  rw [orF_tb, and_ne]
  constructor
  · rintro ⟨i, i1, i2, i3⟩; exact ⟨i, hf_sym.mpr i3, i2⟩
  · rintro ⟨i, i1, i2⟩; exact ⟨i, by have := in_n hs i2; omega, i2, hf_sym.mp i1⟩
theorem st_iff {T : Tx} (F : WFT T) {s : Nat} (hs : s < 2 ^ T 0 0) : (hitS T s ||| s = 2 ^ T 0 0 - 1) ↔ ∀ i, i < T 0 0 → ¬ s.testBit i = true → ¬ (foesT T i &&& s = 0) := by
  constructor
  · intro h i hi hb
    have := congrArg (fun n => n.testBit i) h
    simp only [Nat.testBit_or, Nat.testBit_two_pow_sub_one, hi, decide_true, Bool.or_eq_true, hb, Bool.false_eq_true, or_false] at this
    exact (hitS_tb F hs).mp this
  · intro h
    apply Nat.eq_of_testBit_eq
    intro i
    rw [Nat.testBit_or, Nat.testBit_two_pow_sub_one]
    by_cases hi : i < T 0 0
    · rw [decide_eq_true hi, Bool.or_eq_true]
      by_cases hb : s.testBit i = true
      · exact Or.inr hb
      · exact Or.inl ((hitS_tb F hs).mpr (h i hi hb))
    · rw [decide_eq_false hi, lt_tb (hitS_lt F s) (by omega), lt_tb hs (by omega)]; rfl
theorem df_iff {T : Tx} (F : WFT T) {s : Nat} (hs : s < 2 ^ T 0 0) : (nob (foeS T s) (hitS T s) = 0) ↔ ∀ i, i < T 0 0 → ¬ (hitsT T i &&& s = 0) → ¬ (foesT T i &&& s = 0) := by
  have h8 := F.1.1
  have hl := p8 (foeS_lt F s) h8
  constructor
  · intro h i hi hb
    have h1 := (foeS_tb F hs).mpr hb
    have := congrArg (fun n => n.testBit i) h
    simp only [nob_tb (show foeS T s < 2 ^ 32 by omega), h1, Nat.zero_testBit, Bool.true_and, Bool.not_eq_false'] at this
    exact (hitS_tb F hs).mp this
  · intro h
    apply Nat.eq_of_testBit_eq
    intro i
    rw [nob_tb (by omega), Nat.zero_testBit]
    by_cases q : (foeS T s).testBit i = true
    · rw [(hitS_tb F hs).mpr (h i (in_n (foeS_lt F s) q) ((foeS_tb F hs).mp q))]; simp
    · rw [Bool.not_eq_true] at q; rw [q]; rfl
section V
variable {hc hm : Hp} {S : Nat} {T : Tx}
theorem x_hs1 (hS : isS S) (R : RSc hc S T) {s : Nat} (hs : s < 2 ^ 31) : ∀ (d k fu : Nat), k + d = 8 → d < fu → fX0_hitByAny_4 fu (S + 1) hc (nI s) (nI (orF s (hitsT T) k)) (nI k) = some (nI (hitS T s), hc)
  | 0, k, fu + 1, hk, _ => by
    have e : k = 8 := by omega
    subst e
    rw [fX0_hitByAny_4]; simp (disch := omega) only [lit, ↓reduceIte, leT]; rfl
  | d + 1, k, fu + 1, hk, hf => by
    have ih := x_hs1 hS R hs d (k + 1) fu (by omega) (by omega)
    obtain ⟨r6, r7⟩ := R.2.2.1 k (by omega)
    have eo : orF s (hitsT T) (k + 1) = orF s (hitsT T) k ||| (if s.testBit k = true then hitsT T k else 0) := rfl
    rw [fX0_hitByAny_4]
    by_cases q : s.testBit k = true
    · rw [if_pos q] at eo
      simp (disch := omega) only [lit, ↓reduceIte, leF, shr1T, q, inbN, nI_clamp, rC3 hS, r6, fX0_hitByAny_28, nx_o, nI_add]
      rw [← eo]; exact ih
    · rw [if_neg q, Nat.or_zero] at eo
      simp (disch := omega) only [lit, ↓reduceIte, leF, shr1T, q, Bool.false_eq_true, fX0_hitByAny_28, nI_add]
      rw [← eo]; exact ih
theorem x_fs1 (hS : isS S) (R : RSc hc S T) {s : Nat} (hs : s < 2 ^ 31) : ∀ (d k fu : Nat), k + d = 8 → d < fu → fX0_foesOfAny_4 fu (S + 1) hc (nI s) (nI (orF s (foesT T) k)) (nI k) = some (nI (foeS T s), hc)
  | 0, k, fu + 1, hk, _ => by
    have e : k = 8 := by omega
    subst e
    rw [fX0_foesOfAny_4]; simp (disch := omega) only [lit, ↓reduceIte, leT]; rfl
  | d + 1, k, fu + 1, hk, hf => by
    have ih := x_fs1 hS R hs d (k + 1) fu (by omega) (by omega)
    obtain ⟨r6, r7⟩ := R.2.2.1 k (by omega)
    have eo : orF s (foesT T) (k + 1) = orF s (foesT T) k ||| (if s.testBit k = true then foesT T k else 0) := rfl
    rw [fX0_foesOfAny_4]
    by_cases q : s.testBit k = true
    · rw [if_pos q] at eo
      simp (disch := omega) only [lit, ↓reduceIte, leF, shr1T, q, inbN, nI_clamp, rC4 hS, r7, fX0_foesOfAny_28, nx_o, nI_add]
      rw [← eo]; exact ih
    · rw [if_neg q, Nat.or_zero] at eo
      simp (disch := omega) only [lit, ↓reduceIte, leF, shr1T, q, Bool.false_eq_true, fX0_foesOfAny_28, nI_add]
      rw [← eo]; exact ih
theorem x_hitS (hS : isS S) (R : RSc hc S T) {s : Nat} (hs : s < 2 ^ 31) : fX0_hitByAny (S + 1) hc (nI s) = some (nI (hitS T s), hc) := by
  unfold fX0_hitByAny; exact x_hs1 hS R hs 8 0 FU rfl (by decide)
theorem x_foeS (hS : isS S) (R : RSc hc S T) {s : Nat} (hs : s < 2 ^ 31) : fX0_foesOfAny (S + 1) hc (nI s) = some (nI (foeS T s), hc) := by
  unfold fX0_foesOfAny; exact x_fs1 hS R hs 8 0 FU rfl (by decide)
theorem pow8 {n : Nat} (h : n ≤ 8) : 1 ≤ 2 ^ n ∧ 2 ^ n ≤ 256 := ⟨Nat.one_le_two_pow, Nat.pow_le_pow_right (n := 2) (by decide) h⟩
theorem x_all (hS : isS S) (R : RSc hc S T) (F : WFT T) : fX0_all (S + 1) hc = some (nI (2 ^ T 0 0 - 1), hc) := by
  have h8 := F.1.1
  have := pow8 h8
  unfold fX0_all
  simp (disch := omega) only [lit, rC0 hS, R.1.1, shl1, pk_sub]
theorem x_calm (hS : isS S) (R : RSc hc S T) (F : WFT T) {s : Nat} (hs : s < 256) : fX0_isCalm (S + 1) hc (nI s) = some (nI (b2n (calmB T s)), hc) := by
  have hl := p8 (hitS_lt F s) F.1.1
  have ha := Nat.and_le_left (n := hitS T s) (m := s)
  unfold fX0_isCalm calmB
  simp (disch := omega) only [x_hitS hS R, bnd_some, nx_a, lit, nI_eqP]
  by_cases q : hitS T s &&& s = 0
  · simp only [q, ↓reduceIte, decide_true]; rfl
  · simp only [q, ↓reduceIte, decide_false]; rfl
theorem x_st (hS : isS S) (R : RSc hc S T) (F : WFT T) {s : Nat} (hs : s < 256) : fX0_isStanding (S + 1) hc (nI s) = some (nI (b2n (stdB T s)), hc) := by
  have h8 := F.1.1
  have hp := pow8 h8
  have hl := p8 (hitS_lt F s) h8
  have ha := Nat.and_le_left (n := hitS T s) (m := s)
  have ho : hitS T s ||| s < 2 ^ 8 := Nat.or_lt_two_pow (by omega) (by omega)
  unfold fX0_isStanding stdB calmB
  simp (disch := omega) only [x_hitS hS R, x_all hS R F, bnd_some, nx_a, nx_o, lit, nI_eqP]
  by_cases q : hitS T s &&& s = 0
  · by_cases q2 : hitS T s ||| s = 2 ^ T 0 0 - 1
    · simp only [q, q2, ↓reduceIte, decide_true]; rfl
    · simp only [q, q2, ↓reduceIte, decide_true, decide_false]; rfl
  · simp only [q, ↓reduceIte, decide_false]; rfl
theorem x_df (hS : isS S) (R : RSc hc S T) (F : WFT T) {s : Nat} (hs : s < 256) : fX0_isDefended (S + 1) hc (nI s) = some (nI (b2n (dfB T s)), hc) := by
  have h8 := F.1.1
  have hl := p8 (hitS_lt F s) h8
  have hl2 := p8 (foeS_lt F s) h8
  have ha := Nat.and_le_left (n := hitS T s) (m := s)
  have hn := nob_le (foeS T s) (hitS T s)
  unfold fX0_isDefended dfB calmB
  simp (disch := omega) only [x_hitS hS R, x_foeS hS R, bnd_some, nx_a, nx_n, lit, nI_eqP]
  by_cases q : hitS T s &&& s = 0
  · by_cases q2 : nob (foeS T s) (hitS T s) = 0
    · simp only [q, q2, ↓reduceIte, decide_true]; rfl
    · simp only [q, q2, ↓reduceIte, decide_true, decide_false]; rfl
  · simp only [q, ↓reduceIte, decide_false]; rfl
theorem m_isT {h : Hp} {s k : Nat} (q : s.testBit k = true) (hs : s < 2 ^ 31) (hk : k < 32) : fX10_isOf h (nI s) (nI k) = some (nI 1, h) := by
  unfold fX10_isOf
  simp (disch := omega) only [lit, shr1T, q, ↓reduceIte]
theorem m_isF {h : Hp} {s k : Nat} (q : ¬ s.testBit k = true) (hs : s < 2 ^ 31) (hk : k < 32) : fX10_isOf h (nI s) (nI k) = some (nI 0, h) := by
  unfold fX10_isOf
  simp (disch := omega) only [lit, shr1T, q, Bool.false_eq_true, ↓reduceIte]
theorem m_calm1 (R : RSm hm T) (F : WFT T) {s : Nat} (hs : s < 2 ^ T 0 0) : ∀ (d k fu : Nat), k + d = T 0 0 → d < fu → (∀ i, i < k → s.testBit i = true → hitsT T i &&& s = 0) → fX10_isCalm_2 fu hm (nI s) (nI k) = some (nI (b2n (calmB T s)), hm)
  | 0, k, fu + 1, hk, _, hp => by
    have e : k = T 0 0 := by omega
    subst e
    have h8 := F.1.1
    rw [fX10_isCalm_2]; simp (disch := omega) only [lit, R.1.1, ↓reduceIte, leT]
    rw [(calm_iff F hs).mpr hp]; rfl
  | d + 1, k, fu + 1, hk, hf, hp => by
    have ih := m_calm1 R F hs d (k + 1) fu (by omega) (by omega)
    have h8 := F.1.1
    have hl := p8 hs h8
    have hh := p8 (hits_lt F k) h8
    have ha := Nat.and_le_left (n := hitsT T k) (m := s)
    rw [fX10_isCalm_2]
    by_cases q : s.testBit k = true
    · by_cases q2 : hitsT T k &&& s = 0
      · simp (disch := omega) only [lit, R.1.1, ↓reduceIte, leF, m_isT q, bnd_some, eqF, m_againstBy R F, nx_a, eqT, q2, fX10_isCalm_30, nI_add]
        refine ih (fun i hi hb => ?_)
        rcases (by omega : i < k ∨ i = k) with z | rfl
        · exact hp i z hb
        · exact q2
      · simp (disch := omega) only [lit, R.1.1, ↓reduceIte, leF, m_isT q, bnd_some, eqF, m_againstBy R F, nx_a]
        have : calmB T s = false := by
          rw [← Bool.not_eq_true]
          exact fun z => q2 ((calm_iff F hs).mp z k (by omega) q)
        rw [this]; rfl
    · simp (disch := omega) only [lit, R.1.1, ↓reduceIte, leF, m_isF q, bnd_some, eqT, fX10_isCalm_30, nI_add]
      refine ih (fun i hi hb => ?_)
      rcases (by omega : i < k ∨ i = k) with z | rfl
      · exact hp i z hb
      · exact absurd hb q
theorem m_calm (R : RSm hm T) (F : WFT T) {s : Nat} (hs : s < 2 ^ T 0 0) : fX10_isCalm hm (nI s) = some (nI (b2n (calmB T s)), hm) := by
  unfold fX10_isCalm
  exact m_calm1 R F hs (T 0 0) 0 FU (by omega) (Nat.lt_of_le_of_lt F.1.1 (by decide)) (fun i hi => by omega)
theorem m_st1 (R : RSm hm T) (F : WFT T) {s : Nat} (hs : s < 2 ^ T 0 0) : ∀ (d k fu : Nat), k + d = T 0 0 → d < fu → (∀ i, i < k → ¬ s.testBit i = true → ¬ (foesT T i &&& s = 0)) → fX10_isStanding_12 fu hm (nI s) (nI k) = some (nI (if hitS T s ||| s = 2 ^ T 0 0 - 1 then 1 else 0), hm)
  | 0, k, fu + 1, hk, _, hp => by
    have e : k = T 0 0 := by omega
    subst e
    have h8 := F.1.1
    rw [fX10_isStanding_12]; simp (disch := omega) only [lit, R.1.1, ↓reduceIte, leT]
    rw [if_pos ((st_iff F hs).mpr hp)]
  | d + 1, k, fu + 1, hk, hf, hp => by
    have ih := m_st1 R F hs d (k + 1) fu (by omega) (by omega)
    have h8 := F.1.1
    have hl := p8 hs h8
    have hh := p8 (foes_lt F k) h8
    have ha := Nat.and_le_left (n := foesT T k) (m := s)
    rw [fX10_isStanding_12]
    by_cases q : s.testBit k = true
    · simp (disch := omega) only [lit, R.1.1, ↓reduceIte, leF, m_isT q, bnd_some, eqF, fX10_isStanding_42, nI_add]
      refine ih (fun i hi hb => ?_)
      rcases (by omega : i < k ∨ i = k) with z | rfl
      · exact hp i z hb
      · exact absurd q hb
    · by_cases q2 : foesT T k &&& s = 0
      · simp (disch := omega) only [lit, R.1.1, ↓reduceIte, leF, m_isF q, bnd_some, eqT, m_againstIt R F, foesB_n F, nx_a, q2]
        rw [if_neg (fun z => (st_iff F hs).mp z k (by omega) q q2)]
      · simp (disch := omega) only [lit, R.1.1, ↓reduceIte, leF, m_isF q, bnd_some, eqF, m_againstIt R F, foesB_n F, nx_a, fX10_isStanding_42, nI_add]
        refine ih (fun i hi hb => ?_)
        rcases (by omega : i < k ∨ i = k) with z | rfl
        · exact hp i z hb
        · exact q2
theorem m_st (R : RSm hm T) (F : WFT T) {s : Nat} (hs : s < 2 ^ T 0 0) : fX10_isStanding hm (nI s) = some (nI (b2n (stdB T s)), hm) := by
  have e := m_st1 R F hs (T 0 0) 0 FU (by omega) (Nat.lt_of_le_of_lt F.1.1 (by decide)) (fun i hi => by omega)
  unfold fX10_isStanding stdB
  simp only [lit, m_calm R F hs, bnd_some, e]
  cases calmB T s
  · rfl
  · rw [if_neg (by decide)]
    by_cases q : hitS T s ||| s = 2 ^ T 0 0 - 1
    · simp only [q, ↓reduceIte, decide_true]; rfl
    · simp only [q, ↓reduceIte, decide_false]; rfl
theorem m_df1 (R : RSm hm T) (F : WFT T) {s : Nat} (hs : s < 2 ^ T 0 0) : ∀ (d k fu : Nat), k + d = T 0 0 → d < fu → (∀ i, i < k → ¬ (hitsT T i &&& s = 0) → ¬ (foesT T i &&& s = 0)) → fX10_isDefended_12 fu hm (nI s) (nI k) = some (nI (if nob (foeS T s) (hitS T s) = 0 then 1 else 0), hm)
  | 0, k, fu + 1, hk, _, hp => by
    have e : k = T 0 0 := by omega
    subst e
    have h8 := F.1.1
    rw [fX10_isDefended_12]; simp (disch := omega) only [lit, R.1.1, ↓reduceIte, leT]
    rw [if_pos ((df_iff F hs).mpr hp)]
  | d + 1, k, fu + 1, hk, hf, hp => by
    have ih := m_df1 R F hs d (k + 1) fu (by omega) (by omega)
    have h8 := F.1.1
    have hl := p8 hs h8
    have hh := p8 (foes_lt F k) h8
    have hh2 := p8 (hits_lt F k) h8
    have ha := Nat.and_le_left (n := foesT T k) (m := s)
    have ha2 := Nat.and_le_left (n := hitsT T k) (m := s)
    rw [fX10_isDefended_12]
    by_cases q : hitsT T k &&& s = 0
    · simp (disch := omega) only [lit, R.1.1, ↓reduceIte, leF, bnd_some, m_againstBy R F, nx_a, q, fX10_isDefended_44, nI_add]
      refine ih (fun i hi hb => ?_)
      rcases (by omega : i < k ∨ i = k) with z | rfl
      · exact hp i z hb
      · exact absurd q hb
    · by_cases q2 : foesT T k &&& s = 0
      · simp (disch := omega) only [lit, R.1.1, ↓reduceIte, leF, bnd_some, m_againstBy R F, eqF, m_againstIt R F, foesB_n F, nx_a, q2]
        rw [if_neg (fun z => (df_iff F hs).mp z k (by omega) q q2)]
      · simp (disch := omega) only [lit, R.1.1, ↓reduceIte, leF, bnd_some, m_againstBy R F, eqF, m_againstIt R F, foesB_n F, nx_a, fX10_isDefended_44, nI_add]
        refine ih (fun i hi hb => ?_)
        rcases (by omega : i < k ∨ i = k) with z | rfl
        · exact hp i z hb
        · exact q2
theorem m_df (R : RSm hm T) (F : WFT T) {s : Nat} (hs : s < 2 ^ T 0 0) : fX10_isDefended hm (nI s) = some (nI (b2n (dfB T s)), hm) := by
  have e := m_df1 R F hs (T 0 0) 0 FU (by omega) (Nat.lt_of_le_of_lt F.1.1 (by decide)) (fun i hi => by omega)
  unfold fX10_isDefended dfB
  simp only [lit, m_calm R F hs, bnd_some, e]
  cases calmB T s
  · rfl
  · rw [if_neg (by decide)]
    by_cases q : nob (foeS T s) (hitS T s) = 0
    · simp only [q, ↓reduceIte, decide_true]; rfl
    · simp only [q, ↓reduceIte, decide_false]; rfl
end V
