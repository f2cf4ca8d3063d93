/-- feed: both answer the same, the tapes stay the same -/
theorem r_feed {h : Hp} (R : RT h) (x1 x2 x3 x4 x5 : Int32) : ∃ v h2 h4, fX9_feed h x1 x2 x3 x4 x5 = some (v, h2) ∧ fX10_feed h2 x1 x2 x3 x4 x5 = some (v, h4) ∧ RT h4 ∧ Sm (fun a i => a = 70 ∨ a = 108 ∨ (a = 69 ∧ i = 1) ∨ (a = 107 ∧ (i = 1 ∨ i = 2))) h h4 := by
  obtain ⟨k, hk7, c1, m1, tp⟩ := R
  by_cases hk : k + 20 ≤ 700
  · obtain ⟨h2, e1, e2, e3, e4⟩ := x_feed (x1 := x1) (x2 := x2) (x3 := x3) (x4 := x4) (x5 := x5) c1 hk
    have m2 : hI (uI h2 107 2 (0 : Int32)) 107 1 = nI k := by
      rw [hI_uI, if_neg (by omega), e4.1 107 1 (by omega), m1]
    obtain ⟨h4, f1, f2, f3, f4⟩ := m_feedL (x1 := x1) (x2 := x2) (x3 := x3) (x4 := x4) (x5 := x5) hk 20 0 FU (uI h2 107 2 (0 : Int32)) rfl (by decide) m2
    have s4 : Sm (fun a i => a = 70 ∨ a = 108 ∨ (a = 69 ∧ i = 1) ∨ (a = 107 ∧ (i = 1 ∨ i = 2))) (uI h2 107 2 (0 : Int32)) h4 := f4.mono (fun a i q => by omega)
    have s2 : Sm (fun a i => a = 70 ∨ a = 108 ∨ (a = 69 ∧ i = 1) ∨ (a = 107 ∧ (i = 1 ∨ i = 2))) h h2 := e4.mono (fun a i q => by omega)
    refine ⟨nI (k + 20), h2, h4, e1, ?_, ⟨k + 20, hk, ?_, f2, ?_⟩, (s2.uI (by omega)).tr s4⟩
    · unfold fX10_feed
      rw [m2, show (20 : Int32) = nI 20 by decide, nI_add, if_pos (show nI (k + 20) ≤ (700 : Int32) from nI_le hk (by decide))]
      exact f1
    · rw [f4.1 69 1 (by omega), hI_uI, if_neg (by omega), e2]
    · intro i hi
      by_cases hik : i < k
      · obtain ⟨b, hb, b1, b2⟩ := tp i hik
        refine ⟨b, hb, ?_, ?_⟩
        · rw [f4.1 108 i (by omega), hI_uI, if_neg (by omega), e4.1 108 i (by omega), b1]
        · rw [f4.1 70 i (by omega), hI_uI, if_neg (by omega), e4.1 70 i (by omega), b2]
      · obtain ⟨j, rfl⟩ : ∃ j, i = k + j := ⟨i - k, by omega⟩
        obtain ⟨b, hb, b1, b2⟩ := by_both x1 x2 x3 x4 x5 (j := j) (by omega)
        refine ⟨b, hb, ?_, ?_⟩
        · rw [f3 j (by omega) (by omega), b1]
        · rw [f4.1 70 (k + j) (by omega), hI_uI, if_neg (by omega), e3 j (by omega), b2]
  · have c : ¬ nI (k + 20) ≤ (700 : Int32) := by
      have : nI (700 : Nat) < nI (k + 20) := nI_lt (by omega) (by omega)
      exact Int32.not_le.mpr this
    have s1 : Sm (fun a i => a = 70 ∨ a = 108 ∨ (a = 69 ∧ i = 1) ∨ (a = 107 ∧ (i = 1 ∨ i = 2))) h (uI h 107 2 (0 : Int32)) := Sm.rf.uI (by omega)
    refine ⟨-1, h, uI h 107 2 (0 : Int32), ?_, ?_, ⟨k, hk7, ?_, ?_, fun i hi => ?_⟩, s1⟩
    · unfold fX9_feed
      rw [c1, show (20 : Int32) = nI 20 by decide, nI_add, if_neg c]
    · unfold fX10_feed
      have m2 : hI (uI h 107 2 (0 : Int32)) 107 1 = nI k := by rw [hI_uI, if_neg (by omega), m1]
      rw [m2, show (20 : Int32) = nI 20 by decide, nI_add, if_neg c]
    · rw [hI_uI, if_neg (by omega), c1]
    · rw [hI_uI, if_neg (by omega), m1]
    · obtain ⟨b, hb, b1, b2⟩ := tp i hi
      exact ⟨b, hb, by rw [hI_uI, if_neg (by omega), b1], by rw [hI_uI, if_neg (by omega), b2]⟩
