/-! The past, both sides. -/
theorem x_rec29 {h : Hp} {m q n : Nat} {y fv : Int32} (hm : m < 5) (hq : q < 20) (hn : n ≤ 20) (h0 : hI h 90 0 = nI n) (hfv : ∀ g : Hp, (∀ i, hI g 73 i = hI h 73 i) → fX8_fullOf 72 g y = some (fv, g)) : fX4_record_29 72 h (nI m) y (nI q) = some (uI (uI (uI (uI (uI (uI (uI (uI h 90 1 (nI q)) 91 q (nI m)) 92 q y) 93 q (hI h 74 m)) 94 q (hI h 75 m)) 95 q (hI h 76 m)) 96 q fv) 90 0 (nI (min (n + 1) 20))) := by
  have hW : isW 72 := Or.inl rfl
  have mn : (if nI 20 < nI n + nI 1 then nI 20 else nI n + nI 1) = nI (min (n + 1) 20) := by
    rw [nI_add]
    by_cases q : n + 1 ≤ 20
    · rw [if_neg (nI_nlt q (by decide)), Nat.min_eq_left q]
    · rw [if_pos (nI_lt (by omega) (by omega)), Nat.min_eq_right (by omega)]
  unfold fX4_record_29
  simp (disch := omega) only [lit, hI_at, inbN, nI_clamp, ↓reduceIte, hI_ne, fX8_holdsOf, fX8_wonBy, fX8_beatenOf, ltF, leF, rW6 hW, rW7 hW, rW8 hW, bnd_some]
  rw [hfv _ (fun i => by simp (disch := omega) only [hI_ne])]
  simp (disch := omega) only [lit, bnd_some, hI_at, inbN, nI_clamp, ↓reduceIte, hI_ne, h0, mn]
/-- what the class records -/
def RecC (h h' : Hp) (m q n : Nat) (y fv : Int32) : Prop := hI h' 90 0 = nI (min (n + 1) 20) ∧ hI h' 90 1 = nI q ∧ hI h' 91 q = nI m ∧ hI h' 92 q = y ∧ hI h' 93 q = hI h 74 m ∧ hI h' 94 q = hI h 75 m ∧ hI h' 95 q = hI h 76 m ∧ hI h' 96 q = fv ∧ Fr (fun a i => (a = 90 ∧ i ≤ 1) ∨ (91 ≤ a ∧ a ≤ 96 ∧ i = q)) (fun _ _ => False) h h'
theorem x_record {h : Hp} {m p n : Nat} {y fv : Int32} (hm : m < 5) (hp : p < 20) (hn : n ≤ 20) (h0 : hI h 90 0 = nI n) (h1 : hI h 90 1 = nI p) (hfv : ∀ g : Hp, (∀ i, hI g 73 i = hI h 73 i) → fX8_fullOf 72 g y = some (fv, g)) : ∃ h', fX4_record 72 h (nI m) y = some h' ∧ RecC h h' m ((p + 1) % 20) n y fv := by
  have hq : (p + 1) % 20 < 20 := Nat.mod_lt _ (by decide)
  have e := x_rec29 hm hq hn h0 hfv
  refine ⟨uI (uI (uI (uI (uI (uI (uI (uI h 90 1 (nI ((p + 1) % 20))) 91 ((p + 1) % 20) (nI m)) 92 ((p + 1) % 20) y) 93 ((p + 1) % 20) (hI h 74 m)) 94 ((p + 1) % 20) (hI h 75 m)) 95 ((p + 1) % 20) (hI h 76 m)) 96 ((p + 1) % 20) fv) 90 0 (nI (min (n + 1) 20)), ?_, ?_⟩
  · unfold fX4_record fX4_record_28
    by_cases q : p = 19
    · subst q
      simp (disch := omega) only [lit, h1, nI_add, ↓reduceIte, leT]
      exact e
    · have ep : (p + 1) % 20 = p + 1 := Nat.mod_eq_of_lt (by omega)
      rw [ep] at e ⊢
      simp (disch := omega) only [lit, h1, nI_add, ↓reduceIte, leF, ltF]
      exact e
  · generalize (p + 1) % 20 = q at hq
    refine ⟨?_, ?_, ?_, ?_, ?_, ?_, ?_, ?_, ?_⟩
    · simp (disch := omega) only [hI_at]
    · simp (disch := omega) only [hI_ne, hI_at]
    · simp (disch := omega) only [hI_ne, hI_at]
    · simp (disch := omega) only [hI_ne, hI_at]
    · simp (disch := omega) only [hI_ne, hI_at]
    · simp (disch := omega) only [hI_ne, hI_at]
    · simp (disch := omega) only [hI_ne, hI_at]
    · simp (disch := omega) only [hI_ne, hI_at]
    · exact Fr.uI (Fr.uI (Fr.uI (Fr.uI (Fr.uI (Fr.uI (Fr.uI (Fr.uI Fr.rf (by omega)) (by omega)) (by omega)) (by omega)) (by omega)) (by omega)) (by omega)) (by omega)
theorem m_put1 {r N x : Nat} (hr : r = 149 ∨ r = 150) (hx : x + 20 ≤ N) (hN : N ≤ 400) : ∀ (d k fu : Nat) (h : Hp), k + d = 5 → d < fu → ∃ h', fX10_put_2 fu r N h (nI x) (nI k) = some h' ∧ (∀ i, k ≤ i → i < 5 → hI h' r (x + i) = hI h 137 i ∧ hI h' r (x + 5 + i) = hI h 139 i ∧ hI h' r (x + 10 + i) = hI h 140 i ∧ hI h' r (x + 15 + i) = hI h 141 i) ∧ Fr (fun a i => a = r ∧ x + k ≤ i ∧ i < x + 20 ∧ ((x + k ≤ i ∧ i < x + 5) ∨ (x + 5 + k ≤ i ∧ i < x + 10) ∨ (x + 10 + k ≤ i ∧ i < x + 15) ∨ x + 15 + k ≤ i)) (fun _ _ => False) h h'
  | 0, k, fu + 1, h, hk, _ => by
    have e : k = 5 := by omega
    subst e
    refine ⟨h, ?_, fun i h1 h2 => by omega, Fr.rf⟩
    rw [fX10_put_2]; simp (disch := omega) only [lit, ↓reduceIte, leT]
  | d + 1, k, fu + 1, h, hk, hf => by
    obtain ⟨h', a1, a2, a3⟩ := m_put1 hr hx hN d (k + 1) fu (uI (uI (uI (uI h r (x + k) (hI h 137 k)) r (x + 5 + k) (hI h 139 k)) r (x + 10 + k) (hI h 140 k)) r (x + 15 + k) (hI h 141 k)) (by omega) (by omega)
    refine ⟨h', ?_, fun i h1 h2 => ?_, ?_⟩
    · rw [fX10_put_2]
      simp (disch := omega) only [lit, ↓reduceIte, leF, nI_add, inbN, nI_clamp, hI_ne]
      exact a1
    · by_cases q : i = k
      · subst q
        rw [a3.1 _ _ (by omega), a3.1 _ _ (by omega), a3.1 _ _ (by omega), a3.1 _ _ (by omega)]
        simp (disch := omega) only [hI_ne, hI_at, and_self]
      · obtain ⟨b1, b2, b3, b4⟩ := a2 i (by omega) h2
        rw [b1, b2, b3, b4]
        simp (disch := omega) only [hI_ne, and_self]
    · exact Fr.tr (Fr.uI (Fr.uI (Fr.uI (Fr.uI Fr.rf (by omega)) (by omega)) (by omega)) (by omega)) (a3.mono (fun a i q => by omega) (fun _ _ q => q))
theorem m_put {h : Hp} {r N x : Nat} (hr : r = 149 ∨ r = 150) (hx : x + 20 ≤ N) (hN : N ≤ 400) : ∃ h', fX10_put r N h (nI x) = some h' ∧ (∀ i, i < 5 → hI h' r (x + i) = hI h 137 i ∧ hI h' r (x + 5 + i) = hI h 139 i ∧ hI h' r (x + 10 + i) = hI h 140 i ∧ hI h' r (x + 15 + i) = hI h 141 i) ∧ Fr (fun a i => a = r ∧ x ≤ i ∧ i < x + 20) (fun _ _ => False) h h' := by
  obtain ⟨h', a1, a2, a3⟩ := m_put1 hr hx hN 5 0 FU h rfl (by decide)
  refine ⟨h', ?_, fun i hi => a2 i (by omega) hi, a3.mono (fun a i q => by omega) (fun _ _ q => q)⟩
  unfold fX10_put; simp only [lit]; exact a1
theorem m_shift : ∀ (d k fu : Nat) (h : Hp), k + d = 380 → d < fu → ∃ h', fX10_remember_11 fu h (nI k) = fX10_remember_49 (uI h' 107 80 (hI h' 107 80 - nI 1)) ∧ (∀ i, k ≤ i → i < 380 → hI h' 149 i = hI h 149 (i + 20)) ∧ (∀ i, i < k → hI h' 149 i = hI h 149 i) ∧ Fr (fun a i => a = 149 ∧ k ≤ i ∧ i < 380) (fun _ _ => False) h h'
  | 0, k, fu + 1, h, hk, _ => by
    have e : k = 380 := by omega
    subst e
    refine ⟨h, ?_, fun i h1 h2 => by omega, fun _ _ => rfl, Fr.rf⟩
    rw [fX10_remember_11]; simp (disch := omega) only [lit, ↓reduceIte, leT]
  | d + 1, k, fu + 1, h, hk, hf => by
    obtain ⟨h', a1, a2, a3, a4⟩ := m_shift d (k + 1) fu (uI h 149 k (hI h 149 (k + 20))) (by omega) (by omega)
    refine ⟨h', ?_, fun i h1 h2 => ?_, fun i h1 => ?_, Fr.tr (Fr.uI Fr.rf (by omega)) (a4.mono (fun a i q => by omega) (fun _ _ q => q))⟩
    · rw [fX10_remember_11]
      simp (disch := omega) only [lit, ↓reduceIte, leF, nI_add, inbN, nI_clamp]
      exact a1
    · by_cases q : i = k
      · subst q; rw [a3 i (by omega), hI_at ⟨rfl, rfl⟩]
      · rw [a2 i (by omega) h2, hI_ne (by omega)]
    · rw [a3 i (by omega), hI_ne (by omega)]
/-- what the reference remembers -/
theorem m_remember {h : Hp} {n : Nat} (hn : n ≤ 20) (h0 : hI h 107 80 = nI n) : ∃ h', fX10_remember h = some h' ∧ hI h' 107 80 = nI (min (n + 1) 20) ∧ (∀ i, i < 5 → hI h' 149 (20 * (min (n + 1) 20 - 1) + i) = hI h 137 i ∧ hI h' 149 (20 * (min (n + 1) 20 - 1) + 5 + i) = hI h 139 i ∧ hI h' 149 (20 * (min (n + 1) 20 - 1) + 10 + i) = hI h 140 i ∧ hI h' 149 (20 * (min (n + 1) 20 - 1) + 15 + i) = hI h 141 i) ∧ (∀ j i, j + 1 < min (n + 1) 20 → i < 20 → hI h' 149 (20 * (min (n + 1) 20 - 1 - (j + 1)) + i) = hI h 149 (20 * (n - 1 - j) + i)) ∧ Fr (fun a i => a = 149 ∨ (a = 107 ∧ i = 80)) (fun _ _ => False) h h' := by
  have r49 : ∀ (g : Hp) (k : Nat), k < 20 → hI g 107 80 = nI k → ∃ h', fX10_remember_49 g = some h' ∧ hI h' 107 80 = nI (k + 1) ∧ (∀ i, i < 5 → hI h' 149 (20 * k + i) = hI g 137 i ∧ hI h' 149 (20 * k + 5 + i) = hI g 139 i ∧ hI h' 149 (20 * k + 10 + i) = hI g 140 i ∧ hI h' 149 (20 * k + 15 + i) = hI g 141 i) ∧ Fr (fun a i => (a = 149 ∧ 20 * k ≤ i ∧ i < 20 * k + 20) ∨ (a = 107 ∧ i = 80)) (fun _ _ => False) g h' := by
    intro g k hk h1
    obtain ⟨h', a1, a2, a3⟩ := m_put (h := g) (r := 149) (N := 400) (x := 20 * k) (Or.inl rfl) (by omega) (by decide)
    have e : hI h' 107 80 = nI k := by rw [a3.1 _ _ (by omega)]; exact h1
    refine ⟨uI h' 107 80 (nI (k + 1)), ?_, hI_at ⟨rfl, rfl⟩, fun i hi => ?_, Fr.uI (a3.mono (fun a i q => Or.inl q) (fun _ _ q => q)) (by omega)⟩
    · unfold fX10_remember_49
      simp only [lit, h1, pk_mul, a1, bind_some', e, nI_add]
    · simp (disch := omega) only [hI_ne]; exact a2 i hi
  by_cases q : n = 20
  · subst q
    obtain ⟨h1, a1, a2, a3, a4⟩ := m_shift 380 0 FU h rfl (by decide)
    have e1 : hI (uI h1 107 80 (nI 19)) 107 80 = nI 19 := hI_at ⟨rfl, rfl⟩
    obtain ⟨h', b1, b2, b3, b4⟩ := r49 (uI h1 107 80 (nI 19)) 19 (by decide) e1
    have e2 : hI h1 107 80 - nI 1 = nI 19 := by rw [a4.1 _ _ (by omega), h0]; exact pk_sub (by decide)
    refine ⟨h', ?_, b2, fun i hi => ?_, fun j i h2 h3 => ?_, ?_⟩
    · unfold fX10_remember
      simp (disch := omega) only [lit, h0, ↓reduceIte]
      rw [a1, e2, b1]
    · obtain ⟨c1, c2, c3, c4⟩ := b3 i hi
      show hI h' 149 (20 * 19 + i) = _ ∧ _
      rw [c1, hI_ne (by omega), a4.1 _ _ (by omega)]
      refine ⟨rfl, ?_, ?_, ?_⟩
      · show hI h' 149 (20 * 19 + 5 + i) = _; rw [c2, hI_ne (by omega), a4.1 _ _ (by omega)]
      · show hI h' 149 (20 * 19 + 10 + i) = _; rw [c3, hI_ne (by omega), a4.1 _ _ (by omega)]
      · show hI h' 149 (20 * 19 + 15 + i) = _; rw [c4, hI_ne (by omega), a4.1 _ _ (by omega)]
    · have hj : j + 1 < 20 := h2
      show hI h' 149 (20 * (19 - (j + 1)) + i) = hI h 149 (20 * (19 - j) + i)
      rw [b4.1 _ _ (by omega), hI_ne (by omega), a2 _ (by omega) (by omega)]
      exact congrArg (hI h 149) (by omega)
    · exact Fr.tr (Fr.uI (a4.mono (fun a i q => Or.inl q.1) (fun _ _ q => q)) (Or.inr ⟨rfl, rfl⟩)) (b4.mono (fun a i q => by omega) (fun _ _ q => q))
  · have hm : min (n + 1) 20 = n + 1 := Nat.min_eq_left (by omega)
    obtain ⟨h', b1, b2, b3, b4⟩ := r49 h n (by omega) h0
    rw [hm]
    refine ⟨h', ?_, b2, fun i hi => ?_, fun j i h2 h3 => ?_, b4.mono (fun a i q => by omega) (fun _ _ q => q)⟩
    · unfold fX10_remember
      simp (disch := omega) only [lit, h0, ↓reduceIte, eqF]
      exact b1
    · rw [show n + 1 - 1 = n by omega]; exact b3 i hi
    · rw [show n + 1 - 1 - (j + 1) = n - 1 - j by omega, b4.1 _ _ (by omega)]
theorem m_bring1 {r N x : Nat} (hr : r = 149 ∨ r = 150) (hx : x + 20 ≤ N) (hN : N ≤ 400) : ∀ (d k fu : Nat) (h : Hp), k + d = 5 → d < fu → ∃ h', fX10_bringBack_2 fu r N h (nI x) (nI k) = some h' ∧ (∀ i, k ≤ i → i < 5 → hI h' 137 i = hI h r (x + i) ∧ hI h' 139 i = hI h r (x + 5 + i) ∧ hI h' 140 i = hI h r (x + 10 + i) ∧ hI h' 141 i = hI h r (x + 15 + i)) ∧ Fr (fun a i => (a = 137 ∨ a = 139 ∨ a = 140 ∨ a = 141) ∧ k ≤ i ∧ i < 5) (fun _ _ => False) h h'
  | 0, k, fu + 1, h, hk, _ => by
    have e : k = 5 := by omega
    subst e
    refine ⟨h, ?_, fun i h1 h2 => by omega, Fr.rf⟩
    rw [fX10_bringBack_2]; simp (disch := omega) only [lit, ↓reduceIte, leT]
  | d + 1, k, fu + 1, h, hk, hf => by
    obtain ⟨h', a1, a2, a3⟩ := m_bring1 hr hx hN d (k + 1) fu (uI (uI (uI (uI h 137 k (hI h r (x + k))) 139 k (hI h r (x + 5 + k))) 140 k (hI h r (x + 10 + k))) 141 k (hI h r (x + 15 + k))) (by omega) (by omega)
    refine ⟨h', ?_, fun i h1 h2 => ?_, ?_⟩
    · rw [fX10_bringBack_2]
      simp (disch := omega) only [lit, ↓reduceIte, leF, nI_add, inbN, nI_clamp, hI_ne]
      exact a1
    · by_cases q : i = k
      · subst q
        rw [a3.1 137 _ (by omega), a3.1 139 _ (by omega), a3.1 140 _ (by omega), a3.1 141 _ (by omega)]
        simp (disch := omega) only [hI_ne, hI_at, and_self]
      · obtain ⟨b1, b2, b3, b4⟩ := a2 i (by omega) h2
        rw [b1, b2, b3, b4]
        simp (disch := omega) only [hI_ne, and_self]
    · exact Fr.tr (Fr.uI (Fr.uI (Fr.uI (Fr.uI Fr.rf (by omega)) (by omega)) (by omega)) (by omega)) (a3.mono (fun a i q => by omega) (fun _ _ q => q))
theorem m_bring {h : Hp} {r N x : Nat} (hr : r = 149 ∨ r = 150) (hx : x + 20 ≤ N) (hN : N ≤ 400) : ∃ h', fX10_bringBack r N h (nI x) = some h' ∧ (∀ i, i < 5 → hI h' 137 i = hI h r (x + i) ∧ hI h' 139 i = hI h r (x + 5 + i) ∧ hI h' 140 i = hI h r (x + 10 + i) ∧ hI h' 141 i = hI h r (x + 15 + i)) ∧ Fr (fun a i => (a = 137 ∨ a = 139 ∨ a = 140 ∨ a = 141) ∧ i < 5) (fun _ _ => False) h h' := by
  obtain ⟨h', a1, a2, a3⟩ := m_bring1 hr hx hN 5 0 FU h rfl (by decide)
  refine ⟨h', ?_, fun i hi => a2 i (by omega) hi, a3.mono (fun a i q => by omega) (fun _ _ q => q)⟩
  unfold fX10_bringBack; simp only [lit]; exact a1
