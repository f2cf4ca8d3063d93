/-! text: how reading begins, how a text is kept. -/
def T0 : Tx := fun _ _ => 0
theorem WFT_0 : WFT T0 := by
  refine ⟨⟨Nat.zero_le _, Nat.zero_le _, Nat.zero_le _, Nat.zero_le _, Nat.zero_le _, Nat.zero_le _, Nat.zero_le _, Nat.zero_le _, Nat.zero_le _⟩, fun i hi => absurd hi (Nat.not_lt_zero _), fun i hi => absurd hi (Nat.not_lt_zero _), fun i hi => absurd hi (Nat.not_lt_zero _), fun i hi => Nat.one_pos, fun i hi => absurd hi (Nat.not_lt_zero _), fun i hi => rfl, fun i hi => absurd hi (Nat.not_lt_zero _), fun i hi => absurd hi (Nat.not_lt_zero _), fun w hw => ⟨Nat.zero_le _, fun z => absurd z (by show ¬ 0 = 1; decide)⟩⟩
theorem x_cl0 {X : Nat} (hS : isS X) : ∀ (d k fu : Nat) (h : Hp), k + d = 8 → d < fu → ∃ h', fX0_clear_15 fu (X + 1) h (nI k) = some h' ∧ (∀ i, k ≤ i → i < 8 → hI h' (X + 6) i = nI 0 ∧ hI h' (X + 7) i = nI 0) ∧ Fr (fun a i => (a = X + 6 ∨ a = X + 7) ∧ k ≤ i) (fun _ _ => False) h h'
  | 0, k, fu + 1, h, hk, _ => by
    refine ⟨h, ?_, fun i h1 h2 => by omega, Fr.rf⟩
    rw [fX0_clear_15]; simp (disch := omega) only [lit, leT, ↓reduceIte]
  | d + 1, k, fu + 1, h, hk, hf => by
    obtain ⟨h', a1, a2, a3⟩ := x_cl0 hS d (k + 1) fu (uI (uI h (X + 6) k (nI 0)) (X + 7) k (nI 0)) (by omega) (by omega)
    refine ⟨h', ?_, fun i h1 h2 => ?_, Fr.tr ((Fr.rf.uI (by omega)).uI (by omega)) (a3.mono (fun a i q => by omega) (fun _ _ q => q))⟩
    · rw [fX0_clear_15]
      simp (disch := omega) only [lit, leF, ↓reduceIte, inbN, nI_clamp, rC3 hS, rC4 hS, nI_add]
      exact a1
    · by_cases z : i = k
      · subst z
        rw [a3.1 _ _ (by omega), a3.1 _ _ (by omega), hI_ne (by omega), hI_at ⟨rfl, rfl⟩, hI_at ⟨rfl, rfl⟩]
        exact ⟨rfl, rfl⟩
      · exact a2 i (by omega) h2
theorem x_cl7 {X : Nat} (hS : isS X) : ∀ (d k fu : Nat) (h : Hp), k + d = 3 → d < fu → (∀ w, w < 3 → hR h (X + 24) w = some (X + 25 + 3 * w)) → ∃ h', fX7_clear_55 fu X h (nI k) = some h' ∧ (∀ w, k ≤ w → w < 3 → hI h' (X + 25 + 3 * w) 0 = nI 0 ∧ hI h' (X + 25 + 3 * w) 1 = nI 0) ∧ hI h' X 18 = nI 0 ∧ hI h' X 19 = nI 0 ∧ Fr (fun a i => (a = X ∧ (i = 18 ∨ i = 19)) ∨ (X + 25 + 3 * k ≤ a ∧ a < X + 34)) (fun _ _ => False) h h'
  | 0, k, fu + 1, h, hk, _, _ => by
    refine ⟨uI (uI h X 18 (nI 0)) X 19 (nI 0), ?_, fun w h1 h2 => by omega, by rw [hI_ne (by omega), hI_at ⟨rfl, rfl⟩], hI_at ⟨rfl, rfl⟩, (Fr.rf.uI (by omega)).uI (by omega)⟩
    rw [fX7_clear_55]; simp (disch := omega) only [lit, leT, ↓reduceIte]
  | d + 1, k, fu + 1, h, hk, hf, hr => by
    obtain ⟨h', a1, a2, a3, a4, a5⟩ := x_cl7 hS d (k + 1) fu (uI (uI h (X + 25 + 3 * k) 0 (nI 0)) (X + 25 + 3 * k) 1 (nI 0)) (by omega) (by omega) hr
    refine ⟨h', ?_, fun w h1 h2 => ?_, a3, a4, Fr.tr ((Fr.rf.uI (by omega)).uI (by omega)) (a5.mono (fun a i q => by omega) (fun _ _ q => q))⟩
    · rw [fX7_clear_55]
      have dr : dref shp h (X + 24) k (1, 4) = some (X + 25 + 3 * k) := dref_of (hr k (by omega)) (sL hS (by omega))
      simp (disch := omega) only [lit, leF, ↓reduceIte, inbN, nI_clamp, rS17 hS, dr, bind_some', fX1_clear, nI_add]
      exact a1
    · by_cases z : w = k
      · subst z
        rw [a5.1 _ _ (by rcases hS with rfl | rfl <;> omega), a5.1 _ _ (by rcases hS with rfl | rfl <;> omega), hI_ne (by omega), hI_at ⟨rfl, rfl⟩, hI_at ⟨rfl, rfl⟩]
        exact ⟨rfl, rfl⟩
      · exact a2 w (by omega) h2
/-- a script is cleared -/
theorem x_clr {X : Nat} {h : Hp} (hS : isS X) (hr : ∀ w, w < 3 → hR h (X + 24) w = some (X + 25 + 3 * w)) : ∃ h', fX7_clear X h = some h' ∧ RSc h' X T0 ∧ hI h' X 14 = nI 0 ∧ hI h' X 16 = nI 0 ∧ (∀ w, w < 3 → hI h' (X + 25 + 3 * w) 1 = nI 0) ∧ hI h' X 19 = nI 0 ∧ Fr (fun a i => X ≤ a ∧ a < X + 34 ∧ ¬ (i = 1 ∧ (a = X + 2 ∨ a = X + 12 ∨ a = X + 16))) (fun _ _ => False) h h' := by
  obtain ⟨h1, a1, a2, a3⟩ := x_cl0 hS 8 0 FU (uI (uI h (X + 2) 2 (nI 0)) (X + 1) 5 (nI 0)) rfl (by decide)
  generalize hg : uI (uI (uI (uI (uI (uI (uI (uI h1 (X + 12) 2 (nI 0)) (X + 16) 2 (nI 0)) X 6 (nI 0)) X 10 (nI 0)) X 13 (nI 0)) X 14 (nI 0)) X 15 (nI 0)) X 16 (nI 0) = g
  have g0 : Fr (fun a i => X ≤ a ∧ a < X + 34 ∧ ¬ (i = 1 ∧ (a = X + 2 ∨ a = X + 12 ∨ a = X + 16))) (fun _ _ => False) h h1 := Fr.tr ((Fr.rf.uI (by omega)).uI (by omega)) (a3.mono (fun a i q => by omega) (fun _ _ q => q))
  have gf : Fr (fun a i => X ≤ a ∧ a < X + 34 ∧ ¬ (i = 1 ∧ (a = X + 2 ∨ a = X + 12 ∨ a = X + 16))) (fun _ _ => False) h g := by
    rw [← hg]
    exact (((((((g0.uI (by omega)).uI (by omega)).uI (by omega)).uI (by omega)).uI (by omega)).uI (by omega)).uI (by omega)).uI (by omega)
  obtain ⟨h2, b1, b2, b3, b4, b5⟩ := x_cl7 hS 3 0 FU g rfl (by decide) (fun w hw => by rw [gf.2.2]; exact hr w hw)
  have e1 : ∀ a i, ¬ ((a = X ∧ (i = 18 ∨ i = 19)) ∨ (X + 25 ≤ a ∧ a < X + 34)) → hI h2 a i = hI g a i := fun a i z => b5.1 _ _ (by omega)
  have gc : ∀ a i, (a = X + 2 ∧ i = 2) ∨ (a = X + 1 ∧ i = 5) ∨ (a = X + 12 ∧ i = 2) ∨ (a = X + 16 ∧ i = 2) ∨ (a = X ∧ (i = 6 ∨ i = 10 ∨ i = 13 ∨ i = 14 ∨ i = 15 ∨ i = 16)) → hI h2 a i = nI 0 := fun a i z => by
    rw [e1 _ _ (by omega), ← hg]
    rcases z with ⟨rfl, rfl⟩ | ⟨rfl, rfl⟩ | ⟨rfl, rfl⟩ | ⟨rfl, rfl⟩ | ⟨rfl, rfl | rfl | rfl | rfl | rfl | rfl⟩
    · simp (disch := omega) only [hI_ne]; rw [a3.1 _ _ (by omega)]; simp (disch := omega) only [hI_ne, hI_at]
    · simp (disch := omega) only [hI_ne]; rw [a3.1 _ _ (by omega)]; simp (disch := omega) only [hI_at]
    · simp (disch := omega) only [hI_ne, hI_at]
    · simp (disch := omega) only [hI_ne, hI_at]
    · simp (disch := omega) only [hI_ne, hI_at]
    · simp (disch := omega) only [hI_ne, hI_at]
    · simp (disch := omega) only [hI_ne, hI_at]
    · simp (disch := omega) only [hI_ne, hI_at]
    · simp (disch := omega) only [hI_ne, hI_at]
    · simp (disch := omega) only [hI_at]
  refine ⟨h2, ?_, ⟨⟨gc _ _ (by omega), gc _ _ (by omega), gc _ _ (by omega), gc _ _ (by omega), gc _ _ (by omega), gc _ _ (by omega), b3, gc _ _ (by omega), gc _ _ (by omega)⟩, fun i hi => absurd hi (Nat.not_lt_zero _), fun i hi => ?_, fun i hi => absurd hi (Nat.not_lt_zero _), fun i hi => absurd hi (Nat.not_lt_zero _), fun i hi => absurd hi (Nat.not_lt_zero _), fun i hi => absurd hi (Nat.not_lt_zero _), fun i hi => absurd hi (Nat.not_lt_zero _), fun w hw => ⟨?_, (b2 w (Nat.zero_le _) hw).1, fun z => absurd z (by show ¬ 0 = 1; decide)⟩⟩, gc _ _ (by omega), gc _ _ (by omega), fun w hw => (b2 w (Nat.zero_le _) hw).2, b4, Fr.tr gf (b5.mono (fun a i q => by omega) (fun _ _ q => q))⟩
  · have e0 : fX0_clear (X + 1) h = some h1 := by
      unfold fX0_clear
      rw [rC0 hS]
      exact a1
    unfold fX7_clear
    rw [rS0 hS, e0, bind_some', rS1 hS, rS4 hS, ← b1, ← hg]
    simp only [lit]
  · have z : ∀ a, a = X + 6 ∨ a = X + 7 → hI h2 a i = hI h1 a i := fun a z => by
      rw [e1 _ _ (by omega), ← hg]; simp (disch := omega) only [hI_ne]
    rw [z _ (Or.inl rfl), z _ (Or.inr rfl)]
    exact a2 i (Nat.zero_le _) hi
  · rw [b5.2.2, gf.2.2]; exact hr w hw
theorem m_pl9 : ∀ (d k fu : Nat) (h : Hp), k + d = 6 → d < fu → ∃ h', fX10_plain_92 fu h (nI k) = some h' ∧ (∀ i, k ≤ i → i < 6 → hI h' 127 i = nI 0) ∧ Fr (fun a i => a = 127 ∧ k ≤ i) (fun _ _ => False) h h'
  | 0, k, fu + 1, h, hk, _ => by
    refine ⟨h, ?_, fun i h1 h2 => by omega, Fr.rf⟩
    rw [fX10_plain_92]; simp (disch := omega) only [lit, leT, ↓reduceIte]
  | d + 1, k, fu + 1, h, hk, hf => by
    obtain ⟨h', a1, a2, a3⟩ := m_pl9 d (k + 1) fu (uI h 127 k (nI 0)) (by omega) (by omega)
    refine ⟨h', ?_, fun i h1 h2 => ?_, Fr.tr (Fr.rf.uI (by omega)) (a3.mono (fun a i q => by omega) (fun _ _ q => q))⟩
    · rw [fX10_plain_92]
      simp (disch := omega) only [lit, leF, ↓reduceIte, inbN, nI_clamp, nI_add]
      exact a1
    · by_cases z : i = k
      · subst z; rw [a3.1 _ _ (by omega), hI_at ⟨rfl, rfl⟩]
      · exact a2 i (by omega) h2
theorem m_pl7 : ∀ (d k fu : Nat) (h : Hp), k + d = 10 → d < fu → ∃ h', fX10_plain_71 fu h (nI k) = some h' ∧ (∀ i, k ≤ i → i < 10 → hI h' 121 i = nI 0) ∧ (∀ i, 3 ≤ i → i < 6 → hI h' 127 i = nI 0) ∧ Fr (fun a i => (a = 127 ∧ 3 ≤ i) ∨ (a = 121 ∧ k ≤ i)) (fun _ _ => False) h h'
  | 0, k, fu + 1, h, hk, _ => by
    obtain ⟨h', a1, a2, a3⟩ := m_pl9 3 3 FU h rfl (by decide)
    refine ⟨h', ?_, fun i h1 h2 => by omega, a2, a3.mono (fun a i q => by omega) (fun _ _ q => q)⟩
    rw [fX10_plain_71]; simp (disch := omega) only [lit, leT, ↓reduceIte]; exact a1
  | d + 1, k, fu + 1, h, hk, hf => by
    obtain ⟨h', a1, a2, a2', a3⟩ := m_pl7 d (k + 1) fu (uI h 121 k (nI 0)) (by omega) (by omega)
    refine ⟨h', ?_, fun i h1 h2 => ?_, a2', Fr.tr (Fr.rf.uI (by omega)) (a3.mono (fun a i q => by omega) (fun _ _ q => q))⟩
    · rw [fX10_plain_71]
      simp (disch := omega) only [lit, leF, ↓reduceIte, inbN, nI_clamp, nI_add]
      exact a1
    · by_cases z : i = k
      · subst z; rw [a3.1 _ _ (by omega), hI_at ⟨rfl, rfl⟩]
      · exact a2 i (by omega) h2
theorem m_pl4 : ∀ (d k fu : Nat) (h : Hp), k + d = 2 → d < fu → ∃ h', fX10_plain_42 fu h (nI k) = some h' ∧ (∀ i, k ≤ i → i < 2 → hI h' 110 i = nI 0 ∧ hI h' 111 (2 + i) = nI 0) ∧ (∀ i, 5 ≤ i → i < 10 → hI h' 121 i = nI 0) ∧ (∀ i, 3 ≤ i → i < 6 → hI h' 127 i = nI 0) ∧ Fr (fun a i => (a = 127 ∧ 3 ≤ i) ∨ (a = 121 ∧ 5 ≤ i) ∨ (a = 110 ∧ k ≤ i) ∨ (a = 111 ∧ 2 + k ≤ i)) (fun _ _ => False) h h'
  | 0, k, fu + 1, h, hk, _ => by
    obtain ⟨h', a1, a2, a2', a3⟩ := m_pl7 5 5 FU h rfl (by decide)
    refine ⟨h', ?_, fun i h1 h2 => by omega, a2, a2', a3.mono (fun a i q => by omega) (fun _ _ q => q)⟩
    rw [fX10_plain_42]; simp (disch := omega) only [lit, leT, ↓reduceIte]; exact a1
  | d + 1, k, fu + 1, h, hk, hf => by
    obtain ⟨h', a1, a2, a2', a2'', a3⟩ := m_pl4 d (k + 1) fu (uI (uI h 110 k (nI 0)) 111 (2 + k) (nI 0)) (by omega) (by omega)
    refine ⟨h', ?_, fun i h1 h2 => ?_, a2', a2'', Fr.tr ((Fr.rf.uI (by omega)).uI (by omega)) (a3.mono (fun a i q => by omega) (fun _ _ q => q))⟩
    · rw [fX10_plain_42]
      simp (disch := omega) only [lit, leF, ↓reduceIte, nI_add, inbN, nI_clamp]
      exact a1
    · by_cases z : i = k
      · subst z; rw [a3.1 _ _ (by omega), a3.1 _ _ (by omega), hI_ne (by omega), hI_at ⟨rfl, rfl⟩, hI_at ⟨rfl, rfl⟩]; exact ⟨rfl, rfl⟩
      · exact a2 i (by omega) h2
/-- the reference begins to read -/
theorem m_plainT (h : Hp) : ∃ h', fX10_plain h = some h' ∧ RSm (hup h') T0 ∧ hI h' 110 0 = nI 0 ∧ hI h' 110 1 = nI 0 ∧ hI h' 107 54 = nI 0 ∧ Fr (fun a i => fmX a i ∧ ¬ (a = 107 ∧ i < 12)) (fun _ _ => False) h h' := by
  generalize hg : uI (uI (uI (uI (uI (uI (uI (uI h 107 19 (nI 0)) 107 20 (nI 0)) 107 21 (nI 0)) 107 22 (nI 0)) 107 23 (nI 0)) 107 24 (nI 0)) 107 25 (nI 0)) 107 54 (nI 0) = g
  obtain ⟨h', a1, a2, a3, a4, a5⟩ := m_pl4 2 0 FU g rfl (by decide)
  have z : ∀ i, (19 ≤ i ∧ i ≤ 25) ∨ i = 54 → hI h' 107 i = nI 0 := fun i hi => by
    rw [a5.1 _ _ (by omega), ← hg]
    rcases (by omega : i = 19 ∨ i = 20 ∨ i = 21 ∨ i = 22 ∨ i = 23 ∨ i = 24 ∨ i = 25 ∨ i = 54) with rfl | rfl | rfl | rfl | rfl | rfl | rfl | rfl <;> simp (disch := omega) only [hI_ne, hI_at]
  refine ⟨h', ?_, ⟨⟨z 19 (by omega), z 20 (by omega), z 21 (by omega), z 22 (by omega), z 23 (by omega), z 24 (by omega), z 25 (by omega), (a2 0 (by decide) (by decide)).2, (a2 1 (by decide) (by decide)).2⟩, fun i hi => absurd hi (Nat.not_lt_zero _), fun i hi => absurd hi (Nat.not_lt_zero _), fun i hi => absurd hi (Nat.not_lt_zero _), fun i hi => absurd hi (Nat.not_lt_zero _), fun i hi => a3 (5 + i) (by omega) (by omega), fun i hi => absurd hi (Nat.not_lt_zero _), fun i hi => absurd hi (Nat.not_lt_zero _), fun w hw => ⟨a4 (3 + w) (by omega) (by omega), fun z => absurd z (by show ¬ 0 = 1; decide)⟩⟩, (a2 0 (by decide) (by decide)).1, (a2 1 (by decide) (by decide)).1, z 54 (by omega), ?_⟩
  · unfold fX10_plain
    rw [← a1, ← hg]
    simp only [lit]
  · have g1 : Fr (fun a i => fmX a i ∧ ¬ (a = 107 ∧ i < 12)) (fun _ _ => False) h g := by
      rw [← hg]
      exact (((((((((Fr.rf).uI ⟨fm7 (by omega), by omega⟩).uI ⟨fm7 (by omega), by omega⟩).uI ⟨fm7 (by omega), by omega⟩).uI ⟨fm7 (by omega), by omega⟩).uI ⟨fm7 (by omega), by omega⟩).uI ⟨fm7 (by omega), by omega⟩).uI ⟨fm7 (by omega), by omega⟩).uI ⟨fm7 (by omega), by omega⟩)
    refine Fr.tr g1 (a5.mono (fun a i q => ?_) (fun _ _ q => q))
    rcases q with ⟨rfl, q⟩ | ⟨rfl, q⟩ | ⟨rfl, q⟩ | ⟨rfl, q⟩
    · exact ⟨fmR (by decide) (by decide) q, by omega⟩
    · exact ⟨fmR (by decide) (by decide) q, by omega⟩
    · exact ⟨Or.inr (Or.inl rfl), by omega⟩
    · exact ⟨fmR (by decide) (by decide) (by show 2 ≤ i; omega), by omega⟩
/-- rows up to A are copied down -/
def KT (h h' : Hp) (A : Nat) : Prop := (∀ a i, 111 ≤ a → a < A → i < uof a → hI h' a i = hI h a (uof a + i)) ∧ (∀ a i, ¬ (111 ≤ a ∧ a < A ∧ i < uof a) → hI h' a i = hI h a i) ∧ (∀ a i, hJ h' a i = hJ h a i) ∧ ∀ a i, hR h' a i = hR h a i
theorem m_cp {h : Hp} {A N n0 : Nat} (hn : 2 * N ≤ n0) (h0 : n0 < 1000) : ∀ (d k fu : Nat) (h1 : Hp), k + d = N → d < fu → (∀ i, i < k → hI h1 A i = hI h A (N + i)) → (∀ a i, ¬ (a = A ∧ i < k) → hI h1 a i = hI h a i) → (∀ a i, hJ h1 a i = hJ h a i) → (∀ a i, hR h1 a i = hR h a i) → ∃ h', fX10_copies_2 fu A n0 h1 (nI N) (nI k) = some h' ∧ (∀ i, i < N → hI h' A i = hI h A (N + i)) ∧ (∀ a i, ¬ (a = A ∧ i < N) → hI h' a i = hI h a i) ∧ (∀ a i, hJ h' a i = hJ h a i) ∧ ∀ a i, hR h' a i = hR h a i
  | 0, k, fu + 1, h1, hk, _, e1, e2, e3, e4 => by
    have : k = N := by omega
    subst this
    refine ⟨h1, ?_, e1, e2, e3, e4⟩
    rw [fX10_copies_2]; simp (disch := omega) only [leT, ↓reduceIte]
  | d + 1, k, fu + 1, h1, hk, hf, e1, e2, e3, e4 => by
    rw [fX10_copies_2]
    simp (disch := omega) only [lit, leF, ↓reduceIte, nI_add, inbN, nI_clamp]
    refine m_cp hn h0 d (k + 1) fu _ (by omega) (by omega) (fun i hi => ?_) (fun a i z => ?_) e3 e4
    · by_cases z : i = k
      · subst z; rw [hI_at ⟨rfl, rfl⟩, e2 _ _ (by omega)]
      · rw [hI_ne (by omega)]; exact e1 i (by omega)
    · rw [hI_ne (by omega)]; exact e2 _ _ (by omega)
theorem m_kt {h h1 : Hp} {A N n0 : Nat} (K : KT h h1 A) (hN : uof A = N) (hA : 111 ≤ A) (hn : 2 * N ≤ n0) (h0 : n0 < 1000) : ∃ h2, fX10_copies A n0 h1 (nI N) = some h2 ∧ KT h h2 (A + 1) := by
  obtain ⟨k1, k2, k3, k4⟩ := K
  obtain ⟨h2, a1, a2, a3, a4, a5⟩ := m_cp (h := h1) (A := A) hn h0 N 0 FU h1 (by omega) (by unfold FU; omega) (fun i hi => by omega) (fun _ _ _ => rfl) (fun _ _ => rfl) (fun _ _ => rfl)
  refine ⟨h2, a1, fun a i q1 q2 q3 => ?_, fun a i q => ?_, fun a i => (a4 a i).trans (k3 a i), fun a i => (a5 a i).trans (k4 a i)⟩
  · by_cases z : a = A
    · subst z
      rw [hN] at q3 ⊢
      rw [a2 i q3, k2 _ _ (by omega)]
    · rw [a3 _ _ (by omega)]; exact k1 a i q1 (by omega) q3
  · by_cases z : a = A
    · subst z
      rw [hN] at q
      rw [a3 _ _ (by omega), k2 _ _ (by omega)]
    · rw [a3 _ _ (by omega), k2 _ _ (by omega)]
theorem m_k127 {h : Hp} {t : Nat → Nat} (ht : ∀ w, w < 3 → hI h 127 (3 + w) = nI (t w) ∧ t w ≤ 1) : ∀ (d k fu : Nat) (h1 : Hp), k + d = 3 → d < fu → (∀ a i, 111 ≤ a → a < 127 → i < uof a → hI h1 a i = hI h a (uof a + i)) → (∀ i, i < k → hI h1 127 i = hI h 127 (3 + i)) → (∀ a i, ¬ (111 ≤ a ∧ a < 127 ∧ i < uof a) → ¬ (a = 127 ∧ i < k) → hI h1 a i = hI h a i) → (∀ a i, hJ h1 a i = hJ h a i) → (∀ a i, hR h1 a i = hR h a i) → ∃ h2 fu', fX10_keepText_196 fu h1 (nI k) = fX10_keepText_196 (fu' + 1) h2 (nI 3) ∧ KT h h2 128
  | 0, k, fu + 1, h1, hk, _, e0, e1, e2, e3, e4 => by
    have : k = 3 := by omega
    subst this
    refine ⟨h1, fu, rfl, fun a i q1 q2 q3 => ?_, fun a i q => ?_, e3, e4⟩
    · by_cases z : a = 127
      · subst z; exact e1 i q3
      · exact e0 a i q1 (by omega) q3
    · by_cases z : a = 127
      · subst z
        have q' : ¬ i < 3 := fun y => q ⟨by decide, by decide, y⟩
        exact e2 _ _ (by omega) (by omega)
      · exact e2 _ _ (by omega) (by omega)
  | d + 1, k, fu + 1, h1, hk, hf, e0, e1, e2, e3, e4 => by
    have tk := ht k (by omega)
    have r3 : hI h1 127 (3 + k) = nI (t k) := (e2 _ _ (by omega) (by omega)).trans tk.1
    have iz : (isZ (nI (t k)) = true) = True := isZn tk.2
    obtain ⟨h2, fu', a1, a2⟩ := m_k127 ht d (k + 1) fu (uI h1 127 k (nI (t k))) (by omega) (by omega) (fun a i q1 q2 q3 => by rw [hI_ne (by omega)]; exact e0 a i q1 q2 q3) (fun i hi => by
      by_cases z : i = k
      · subst z; rw [hI_at ⟨rfl, rfl⟩, tk.1]
      · rw [hI_ne (by omega)]; exact e1 i (by omega)) (fun a i q1 q2 => by rw [hI_ne (by omega)]; exact e2 a i q1 (by omega)) e3 e4
    refine ⟨h2, fu', ?_, a2⟩
    rw [fX10_keepText_196]
    simp (disch := omega) only [lit, leF, ↓reduceIte, nI_add, inbN, nI_clamp, r3, iz]
    exact a1
/-- the counts are kept -/
def kh0 (h : Hp) : Hp := uI (uI (uI (uI (uI (uI (uI h 107 12 (hI h 107 19)) 107 13 (hI h 107 20)) 107 14 (hI h 107 21)) 107 15 (hI h 107 22)) 107 16 (hI h 107 23)) 107 17 (hI h 107 24)) 107 18 (hI h 107 25)
theorem kh0_o {h : Hp} {a i : Nat} (q : ¬ (a = 107 ∧ 12 ≤ i ∧ i ≤ 18)) : hI (kh0 h) a i = hI h a i := by unfold kh0; simp (disch := omega) only [hI_ne]
theorem kh0_c {h : Hp} {i : Nat} (h1 : 12 ≤ i) (h2 : i ≤ 18) : hI (kh0 h) 107 i = hI h 107 (i + 7) := by
  unfold kh0
  rcases (by omega : i = 12 ∨ i = 13 ∨ i = 14 ∨ i = 15 ∨ i = 16 ∨ i = 17 ∨ i = 18) with rfl | rfl | rfl | rfl | rfl | rfl | rfl <;> simp (disch := omega) only [hI_ne, hI_at]
theorem m_keep {h : Hp} {T : Tx} (F : WFT T) (R : RSm (hup h) T) : ∃ h', fX10_keepText h = (fX10_begin h').bind (fun h_45 => some h_45) ∧ KT (kh0 h) h' 133 := by
  have k0 : KT (kh0 h) (kh0 h) 111 := ⟨fun a i q1 q2 _ => by omega, fun _ _ _ => rfl, fun _ _ => rfl, fun _ _ => rfl⟩
  obtain ⟨g1, a1, b1⟩ := m_kt (n0 := 4) k0 (N := 2) rfl (by decide) (by decide) (by decide)
  obtain ⟨g2, a2, b2⟩ := m_kt (n0 := 16) b1 (N := 8) rfl (by decide) (by decide) (by decide)
  obtain ⟨g3, a3, b3⟩ := m_kt (n0 := 16) b2 (N := 8) rfl (by decide) (by decide) (by decide)
  obtain ⟨g4, a4, b4⟩ := m_kt (n0 := 16) b3 (N := 8) rfl (by decide) (by decide) (by decide)
  obtain ⟨g5, a5, b5⟩ := m_kt (n0 := 32) b4 (N := 16) rfl (by decide) (by decide) (by decide)
  obtain ⟨g6, a6, b6⟩ := m_kt (n0 := 32) b5 (N := 16) rfl (by decide) (by decide) (by decide)
  obtain ⟨g7, a7, b7⟩ := m_kt (n0 := 10) b6 (N := 5) rfl (by decide) (by decide) (by decide)
  obtain ⟨g8, a8, b8⟩ := m_kt (n0 := 10) b7 (N := 5) rfl (by decide) (by decide) (by decide)
  obtain ⟨g9, a9, b9⟩ := m_kt (n0 := 10) b8 (N := 5) rfl (by decide) (by decide) (by decide)
  obtain ⟨g10, a10, b10⟩ := m_kt (n0 := 10) b9 (N := 5) rfl (by decide) (by decide) (by decide)
  obtain ⟨g11, a11, b11⟩ := m_kt (n0 := 10) b10 (N := 5) rfl (by decide) (by decide) (by decide)
  obtain ⟨g12, a12, b12⟩ := m_kt (n0 := 24) b11 (N := 12) rfl (by decide) (by decide) (by decide)
  obtain ⟨g13, a13, b13⟩ := m_kt (n0 := 24) b12 (N := 12) rfl (by decide) (by decide) (by decide)
  obtain ⟨g14, a14, b14⟩ := m_kt (n0 := 24) b13 (N := 12) rfl (by decide) (by decide) (by decide)
  obtain ⟨g15, a15, b15⟩ := m_kt (n0 := 12) b14 (N := 6) rfl (by decide) (by decide) (by decide)
  obtain ⟨g16, a16, b16⟩ := m_kt (n0 := 12) b15 (N := 6) rfl (by decide) (by decide) (by decide)
  obtain ⟨g17, fu', a17, b17⟩ := m_k127 (h := kh0 h) (t := T 16) (fun w hw => ⟨by rw [kh0_o (by omega)]; exact (R.2.2.2.2.2.2.2.2 w hw).1, (F.2.2.2.2.2.2.2.2.2 w hw).1⟩) 3 0 FU g16 rfl (by decide) b16.1 (fun i hi => by omega) (fun a i q1 _ => b16.2.1 a i q1) b16.2.2.1 b16.2.2.2
  obtain ⟨g18, a18, b18⟩ := m_kt (n0 := 6) b17 (N := 3) rfl (by decide) (by decide) (by decide)
  obtain ⟨g19, a19, b19⟩ := m_kt (n0 := 6) b18 (N := 3) rfl (by decide) (by decide) (by decide)
  obtain ⟨g20, a20, b20⟩ := m_kt (n0 := 128) b19 (N := 64) rfl (by decide) (by decide) (by decide)
  obtain ⟨g21, a21, b21⟩ := m_kt (n0 := 128) b20 (N := 64) rfl (by decide) (by decide) (by decide)
  obtain ⟨g22, a22, b22⟩ := m_kt (n0 := 128) b21 (N := 64) rfl (by decide) (by decide) (by decide)
  refine ⟨g22, ?_, b22⟩
  have e196 : fX10_keepText_196 FU g16 (nI 0) = (fX10_begin g22).bind (fun h_45 => some h_45) := by
    rw [a17, fX10_keepText_196]
    simp (disch := omega) only [lit, leT, ↓reduceIte, a18, a19, a20, a21, a22, bind_some']
  have e0 : fX10_keepText h = (fX10_copies 111 4 (kh0 h) 2).bind (fun h_2 => (fX10_copies 112 16 h_2 8).bind (fun h_4 => (fX10_copies 113 16 h_4 8).bind (fun h_6 => (fX10_copies 114 16 h_6 8).bind (fun h_8 => (fX10_copies 115 32 h_8 16).bind (fun h_10 => (fX10_copies 116 32 h_10 16).bind (fun h_12 => (fX10_copies 117 10 h_12 5).bind (fun h_14 => (fX10_copies 118 10 h_14 5).bind (fun h_16 => (fX10_copies 119 10 h_16 5).bind (fun h_18 => (fX10_copies 120 10 h_18 5).bind (fun h_20 => (fX10_copies 121 10 h_20 5).bind (fun h_22 => (fX10_copies 122 24 h_22 12).bind (fun h_24 => (fX10_copies 123 24 h_24 12).bind (fun h_26 => (fX10_copies 124 24 h_26 12).bind (fun h_28 => (fX10_copies 125 12 h_28 6).bind (fun h_30 => (fX10_copies 126 12 h_30 6).bind (fun h_32 => fX10_keepText_196 FU h_32 0)))))))))))))))) := by
    unfold fX10_keepText kh0
    simp (disch := omega) only [hI_ne]
  rw [e0]
  simp only [lit, a1, a2, a3, a4, a5, a6, a7, a8, a9, a10, a11, a12, a13, a14, a15, a16, bind_some']
  exact e196
theorem KT_rel {h h' : Hp} {T : Tx} (F : WFT T) (K : KT (kh0 h) h' 133) : ∀ a i, mrel T 64 a i → hI h' a i = hI (hup h) a i := by
  obtain ⟨k1, k2, -, -⟩ := K
  obtain ⟨f1, f2, f3, f4, f5, f6, -⟩ := F.1
  intro a i q
  rw [hup_I]
  by_cases z : a = 107
  · subst z
    rw [if_pos rfl, k2 _ _ (by omega)]
    exact kh0_c (by unfold mrel at q; omega) (by unfold mrel at q; omega)
  · rw [if_neg z]
    have hr : 111 ≤ a ∧ a < 133 := by unfold mrel at q; omega
    have hu : i < uof a := by
      unfold mrel at q
      unfold uof
      rcases q with q | q | q | q | q | q | q | q | q | q | q
      · omega
      · rw [if_pos q.1]; omega
      · rw [if_neg (by omega), if_pos (by omega)]; omega
      · rw [if_neg (by omega), if_neg (by omega), if_pos (by omega)]; omega
      · rw [if_neg (by omega), if_neg (by omega), if_neg (by omega), if_pos (by omega)]; omega
      · rw [if_neg (by omega), if_neg (by omega), if_neg (by omega), if_pos (by omega)]; omega
      · rw [if_neg (by omega), if_neg (by omega), if_neg (by omega), if_pos (by omega)]; omega
      · rw [if_neg (by omega), if_neg (by omega), if_neg (by omega), if_neg (by omega), if_pos (by omega)]; omega
      · rw [if_neg (by omega), if_neg (by omega), if_neg (by omega), if_neg (by omega), if_neg (by omega), if_pos (by omega)]; omega
      · rw [if_neg (by omega), if_neg (by omega), if_neg (by omega), if_neg (by omega), if_neg (by omega), if_neg (by omega), if_pos (by omega)]; omega
      · rw [if_neg (by omega), if_neg (by omega), if_neg (by omega), if_neg (by omega), if_neg (by omega), if_neg (by omega), if_neg (by omega)]; omega
    rw [k1 a i hr.1 hr.2 hu]
    exact kh0_o (by omega)
