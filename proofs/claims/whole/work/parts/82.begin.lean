/-! A world begins by the text. -/
section V
variable {S W : Nat} {T : Tx}
theorem x_beg2 (hS : isS S) (hW : isW W) (F : WFT T) : ∀ (d k fu : Nat) (h : Hp), k + d = 5 → d < fu → RSc h S T → ∃ h', fX8_begin_70 fu W S h (nI k) = some h' ∧ plainW h' W ∧ (∀ i, i ≤ 4 → hI h' W i = hI h W i) ∧ (∀ i, hI h' (W + 1) i = hI h (W + 1) i) ∧ (∀ i, k ≤ i → i < 5 → hI h' (W + 2) i = nI (T 10 i) ∧ hI h' (W + 3) i = nI 0 ∧ hI h' (W + 4) i = nI 0) ∧ (∀ i, i < k → hI h' (W + 2) i = hI h (W + 2) i ∧ hI h' (W + 3) i = hI h (W + 3) i ∧ hI h' (W + 4) i = hI h (W + 4) i) ∧ Fo W h h' ∧ hR h' W 0 = hR h W 0
  | 0, k, fu + 1, h, hk, _, R => by
    have e : k = 5 := by omega
    subst e
    refine ⟨uI (uI (uI (uI (uI h W 10 (nI 1)) W 11 (nI 0)) W 12 (nI 0)) W 13 (nI 0)) W 14 (-nI 1), ?_, ⟨?_, ?_, ?_, ?_, ?_⟩, ?_, ?_, ?_, ?_, ?_, rfl⟩
    · rw [fX8_begin_70]
      simp (disch := omega) only [lit, ↓reduceIte, leT, fX8_goPlainly, bind_some']
    · simp (disch := omega) only [hI_ne, hI_at]
    · simp (disch := omega) only [hI_ne, hI_at]
    · simp (disch := omega) only [hI_ne, hI_at]
    · simp (disch := omega) only [hI_ne, hI_at]
    · simp (disch := omega) only [hI_ne, hI_at]
    · intro i hi; simp (disch := omega) only [hI_ne]
    · intro i; simp (disch := omega) only [hI_ne]
    · intro i h1 h2; omega
    · intro i h1; simp (disch := omega) only [hI_ne, and_self]
    · exact Fo.uI (Fo.uI (Fo.uI (Fo.uI (Fo.uI Fo.rf (by omega)) (by omega)) (by omega)) (by omega)) (by omega)
  | d + 1, k, fu + 1, h, hk, hf, R => by
    have hW' := Wge hW
    have h5m := F.1.2.2.2.1
    have f1 : Fo W h (uI (uI (uI h (W + 2) k (nI (T 10 k))) (W + 3) k (nI 0)) (W + 4) k (nI 0)) := Fo.uI (Fo.uI (Fo.uI Fo.rf (by omega)) (by omega)) (by omega)
    obtain ⟨h', a1, a2, a3, a4, a5, a6, a7, a8⟩ := x_beg2 hS hW F d (k + 1) fu (uI (uI (uI h (W + 2) k (nI (T 10 k))) (W + 3) k (nI 0)) (W + 4) k (nI 0)) (by omega) (by omega) (Fo_RSc hS hW R f1)
    refine ⟨h', ?_, a2, ?_, ?_, ?_, ?_, Fo.tr f1 a7, by rw [a8]; rfl⟩
    · rw [fX8_begin_70]
      by_cases q : k < T 0 3
      · obtain ⟨-, r⟩ := R.2.2.2.2.2.1 k q
        simp (disch := omega) only [lit, ↓reduceIte, leF, rS4 hS, R.1.2.2.2.1, inbN, nI_clamp, rS5 hS, r, fX8_begin_101, rW6 hW, rW7 hW, rW8 hW, nI_add]
        exact a1
      · have e : T 10 k = 0 := F.2.2.2.2.2.2.1 k (by omega)
        rw [e] at a1
        simp (disch := omega) only [lit, ↓reduceIte, leF, leT, rS4 hS, R.1.2.2.2.1, inbN, nI_clamp, fX8_begin_101, rW6 hW, rW7 hW, rW8 hW, nI_add]
        exact a1
    · intro i hi; rw [a3 i hi]; simp (disch := omega) only [hI_ne]
    · intro i; rw [a4 i]; simp (disch := omega) only [hI_ne]
    · intro i h1 h2
      by_cases q : i = k
      · subst q
        obtain ⟨b1, b2, b3⟩ := a6 i (by omega)
        rw [b1, b2, b3]
        simp (disch := omega) only [hI_ne, hI_at, and_self]
      · exact a5 i (by omega) h2
    · intro i h1
      obtain ⟨b1, b2, b3⟩ := a6 i (by omega)
      rw [b1, b2, b3]
      simp (disch := omega) only [hI_ne, and_self]
theorem x_beg1 (hS : isS S) (hW : isW W) (F : WFT T) : ∀ (d k fu : Nat) (h : Hp), k + d = 5 → d < fu → RSc h S T → ∃ h', fX8_begin_30 fu W S h (nI k) = fX8_begin_70 FU W S h' (nI 0) ∧ (∀ i, hI h' W i = hI h W i) ∧ (∀ i, k ≤ i → i < 5 → hI h' (W + 1) i = if i < T 0 2 then nI (T 8 i) else nI 0) ∧ (∀ i, i < k → hI h' (W + 1) i = hI h (W + 1) i) ∧ Fo W h h' ∧ hR h' W 0 = hR h W 0
  | 0, k, fu + 1, h, hk, _, R => by
    have e : k = 5 := by omega
    subst e
    refine ⟨h, ?_, fun _ => rfl, fun i h1 h2 => by omega, fun _ _ => rfl, Fo.rf, rfl⟩
    rw [fX8_begin_30]; simp (disch := omega) only [lit, ↓reduceIte, leT]
  | d + 1, k, fu + 1, h, hk, hf, R => by
    have hW' := Wge hW
    have h5 := F.1.2.2.1
    have go : ∀ v, (if k < T 0 2 then nI (T 8 k) else nI 0) = v → ∃ h', fX8_begin_30 fu W S (uI h (W + 1) k v) (nI (k + 1)) = fX8_begin_70 FU W S h' (nI 0) ∧ (∀ i, hI h' W i = hI h W i) ∧ (∀ i, k ≤ i → i < 5 → hI h' (W + 1) i = if i < T 0 2 then nI (T 8 i) else nI 0) ∧ (∀ i, i < k → hI h' (W + 1) i = hI h (W + 1) i) ∧ Fo W h h' ∧ hR h' W 0 = hR h W 0 := by
      intro v hv
      have f1 : Fo W h (uI h (W + 1) k v) := Fo.uI Fo.rf (by omega)
      obtain ⟨h', a1, a2, a3, a4, a5, a6⟩ := x_beg1 hS hW F d (k + 1) fu (uI h (W + 1) k v) (by omega) (by omega) (Fo_RSc hS hW R f1)
      refine ⟨h', a1, ?_, ?_, ?_, Fo.tr f1 a5, by rw [a6]; rfl⟩
      · intro i; rw [a2 i, hI_ne (by omega)]
      · intro i h1 h2
        by_cases q : i = k
        · subst q; rw [a4 i (by omega), hI_at ⟨rfl, rfl⟩, hv]
        · exact a3 i (by omega) h2
      · intro i h1; rw [a4 i (by omega), hI_ne (by omega)]
    rw [fX8_begin_30]
    by_cases q : k < T 0 2
    · obtain ⟨-, -, r⟩ := R.2.2.2.2.1 k q
      obtain ⟨h', a1, a2⟩ := go _ (if_pos q)
      refine ⟨h', ?_, a2⟩
      simp (disch := omega) only [lit, ↓reduceIte, leF, rS1 hS, R.1.2.2.1, inbN, nI_clamp, rS3 hS, r, fX8_begin_61, rW5 hW, nI_add]
      exact a1
    · obtain ⟨h', a1, a2⟩ := go _ (if_neg q)
      refine ⟨h', ?_, a2⟩
      simp (disch := omega) only [lit, ↓reduceIte, leF, leT, rS1 hS, R.1.2.2.1, inbN, nI_clamp, fX8_begin_61, rW5 hW, nI_add]
      exact a1
theorem x_begin {h : Hp} (hS : isS S) (hW : isW W) (F : WFT T) (R : RSc h S T) : ∃ h', fX8_begin W S h = some h' ∧ hR h' W 0 = some S ∧ plainW h' W ∧ hI h' W 1 = nI 0 ∧ hI h' W 2 = nI 0 ∧ hI h' W 3 = nI 0 ∧ hI h' W 4 = nI (T 0 8) ∧ (∀ i, i < 5 → hI h' (W + 1) i = (if i < T 0 2 then nI (T 8 i) else nI 0) ∧ hI h' (W + 2) i = nI (T 10 i) ∧ hI h' (W + 3) i = nI 0 ∧ hI h' (W + 4) i = nI 0) ∧ Fo W h h' := by
  have hW' := Wge hW
  have hS' : 1 ≤ S ∧ S ≤ 35 := by rcases hS with rfl | rfl <;> omega
  let g : Hp := uI (uI (uI (uI (uR h W 0 (some S)) W 1 (nI 0)) W 2 (nI 0)) W 3 (nI 0)) W 4 (nI (T 0 8))
  have hg : Fo W h g := Fo.uI (Fo.uI (Fo.uI (Fo.uI (Fo.uR Fo.rf) (by omega)) (by omega)) (by omega)) (by omega)
  have Rg := Fo_RSc hS hW R hg
  obtain ⟨h1, a1, a2, a3, a4, a5, a6⟩ := x_beg1 hS hW F 5 0 FU g rfl (by decide) Rg
  obtain ⟨h2, b1, b2, b3, b4, b5, b6, b7, b8⟩ := x_beg2 hS hW F 5 0 FU h1 rfl (by decide) (Fo_RSc hS hW Rg a5)
  refine ⟨h2, ?_, ?_, b2, ?_, ?_, ?_, ?_, ?_, Fo.tr hg (Fo.tr a5 b7)⟩
  · unfold fX8_begin
    have e : hI h S 15 = nI (T 0 8) := R.1.2.2.2.2.2.2.2.2
    simp (disch := omega) only [lit, hI_ne, hI_uR, e]
    rw [show uI (uI (uI (uI (uR h W 0 (some S)) W 1 (nI 0)) W 2 (nI 0)) W 3 (nI 0)) W 4 (nI (T 0 8)) = g from rfl, a1, b1]
  · rw [b8, a6]; exact hR_at ⟨rfl, rfl⟩
  · rw [b3 1 (by omega), a2]; simp (disch := omega) only [g, hI_ne, hI_at]
  · rw [b3 2 (by omega), a2]; simp (disch := omega) only [g, hI_ne, hI_at]
  · rw [b3 3 (by omega), a2]; simp (disch := omega) only [g, hI_ne, hI_at]
  · rw [b3 4 (by omega), a2]; simp (disch := omega) only [g, hI_ne, hI_at]
  · intro i hi
    obtain ⟨c1, c2, c3⟩ := b5 i (by omega) hi
    exact ⟨by rw [b4 i, a3 i (by omega) hi], c1, c2, c3⟩
theorem m_first1 {b : Nat} (hb : b ≤ 1) : ∀ (d k fu : Nat) (h : Hp), k + d = 5 → d < fu → ∃ h', fX10_atFirst_2 fu h (nI b) (nI k) = some h' ∧ hI h' 142 b = nI 0 ∧ hI h' 143 b = nI 0 ∧ (∀ i, k ≤ i → i < 5 → hI h' 137 (5 * b + i) = hI h 119 i ∧ hI h' 138 (5 * b + i) = nI 0 ∧ hI h' 139 (5 * b + i) = hI h 121 i ∧ hI h' 140 (5 * b + i) = nI 0 ∧ hI h' 141 (5 * b + i) = nI 0) ∧ Fr (fun a i => (137 ≤ a ∧ a ≤ 141 ∧ 5 * b + k ≤ i ∧ i < 5 * b + 5) ∨ ((a = 142 ∨ a = 143) ∧ i = b)) (fun _ _ => False) h h'
  | 0, k, fu + 1, h, hk, _ => by
    have e : k = 5 := by omega
    subst e
    refine ⟨uI (uI h 142 b (nI 0)) 143 b (nI 0), ?_, by rw [hI_ne (by omega), hI_at ⟨rfl, rfl⟩], hI_at ⟨rfl, rfl⟩, fun i h1 h2 => by omega, Fr.uI (Fr.uI Fr.rf (by omega)) (by omega)⟩
    rw [fX10_atFirst_2]; simp (disch := omega) only [lit, ↓reduceIte, leT, inbN, nI_clamp]
  | d + 1, k, fu + 1, h, hk, hf => by
    obtain ⟨h', a1, a2, a3, a4, a5⟩ := m_first1 hb d (k + 1) fu (uI (uI (uI (uI (uI h 137 (5 * b + k) (hI h 119 k)) 138 (5 * b + k) (nI 0)) 139 (5 * b + k) (hI h 121 k)) 140 (5 * b + k) (nI 0)) 141 (5 * b + k) (nI 0)) (by omega) (by omega)
    refine ⟨h', ?_, a2, a3, fun i h1 h2 => ?_, Fr.tr (Fr.uI (Fr.uI (Fr.uI (Fr.uI (Fr.uI Fr.rf (by omega)) (by omega)) (by omega)) (by omega)) (by omega)) (a5.mono (fun a i q => by omega) (fun _ _ q => q))⟩
    · rw [fX10_atFirst_2]
      simp (disch := omega) only [lit, ↓reduceIte, leF, pk_mul, nI_add, inbN, nI_clamp, hI_ne]
      exact a1
    · by_cases q : i = k
      · subst q
        rw [a5.1 137 _ (by omega), a5.1 138 _ (by omega), a5.1 139 _ (by omega), a5.1 140 _ (by omega), a5.1 141 _ (by omega)]
        simp (disch := omega) only [hI_ne, hI_at, and_self]
      · obtain ⟨b1, b2, b3, b4, b5⟩ := a4 i (by omega) h2
        rw [b1, b2, b3, b4, b5]
        simp (disch := omega) only [hI_ne, and_self]
theorem m_first {h : Hp} {b : Nat} (hb : b ≤ 1) : ∃ h', fX10_atFirst h (nI b) = some h' ∧ hI h' 142 b = nI 0 ∧ hI h' 143 b = nI 0 ∧ (∀ i, i < 5 → hI h' 137 (5 * b + i) = hI h 119 i ∧ hI h' 138 (5 * b + i) = nI 0 ∧ hI h' 139 (5 * b + i) = hI h 121 i ∧ hI h' 140 (5 * b + i) = nI 0 ∧ hI h' 141 (5 * b + i) = nI 0) ∧ Fr (fun a i => (137 ≤ a ∧ a ≤ 141 ∧ 5 * b ≤ i ∧ i < 5 * b + 5) ∨ ((a = 142 ∨ a = 143) ∧ i = b)) (fun _ _ => False) h h' := by
  obtain ⟨h', a1, a2, a3, a4, a5⟩ := m_first1 hb 5 0 FU h rfl (by decide)
  refine ⟨h', ?_, a2, a3, fun i hi => a4 i (by omega) hi, a5.mono (fun a i q => by omega) (fun _ _ q => q)⟩
  unfold fX10_atFirst; simp only [lit]; exact a1
/-- both begin -/
theorem s_begin {hc hm : Hp} {b : Nat} (hS : isS S) (hW : isW W) (hb : b ≤ 1) (F : WFT T) (Rc : RSc hc S T) (Rm : RSm hm T) : ∃ hc' hm', fX8_begin W S hc = some hc' ∧ fX10_atFirst hm (nI b) = some hm' ∧ RW hc' hm' S W b T ∧ plainW hc' W ∧ hI hc' W 1 = nI 0 ∧ hI hc' W 4 = nI (T 0 8) ∧ Fo W hc hc' ∧ Fr (fun a i => (137 ≤ a ∧ a ≤ 141 ∧ 5 * b ≤ i ∧ i < 5 * b + 5) ∨ ((a = 142 ∨ a = 143) ∧ i = b)) (fun _ _ => False) hm hm' := by
  have h5 := F.1.2.2.1
  obtain ⟨hc', a1, a2, a3, a4, a5, a6, a7, a8, a9⟩ := x_begin hS hW F Rc
  obtain ⟨hm', b1, b2, b3, b4, b5⟩ := m_first (h := hm) hb
  refine ⟨hc', hm', a1, b1, ⟨a2, ?_, ?_, ?_, ?_, ⟨0, Nat.pow_pos (by decide), a5, ?_⟩, ?_, ?_⟩, a3, a4, a7, a9, b5⟩
  · intro i hi
    refine ⟨T 8 i, (F.2.2.2.1 i hi).2.2.2, ?_, ?_⟩
    · rw [(a8 i (by omega)).1, if_pos hi]
    · rw [(b4 i (by omega)).1]; exact (Rm.2.2.2.1 i hi).2.2
  · intro i hi h2; rw [(a8 i hi).1, if_neg (by omega)]
  · intro i hi
    refine ⟨T 10 i, ?_, (a8 i hi).2.1, ?_⟩
    · unfold hB
      by_cases q : i < T 0 3
      · rw [if_pos q]; exact F.2.2.2.2.1 i hi
      · rw [if_neg q, F.2.2.2.2.2.2.1 i (by omega)]; decide
    · rw [(b4 i hi).2.2.1]; exact Rm.2.2.2.2.2.1 i hi
  · intro i hi
    rw [(a8 i hi).2.2.1, (a8 i hi).2.2.2, (b4 i hi).2.2.2.1, (b4 i hi).2.2.2.2]; exact ⟨rfl, rfl⟩
  · intro i hi
    rw [(b4 i hi).2.1]
    unfold bn; simp
  · rw [a4, b3]
  · rw [a6, b2]
end V
