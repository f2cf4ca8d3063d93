/-! feed: both sides. -/
/-- the word of the k-th byte, and the byte, as the reference keeps it -/
def wd5 (x1 x2 x3 x4 x5 : Int32) (j : Nat) : Int32 := if j < 4 then x1 else if j < 8 then x2 else if j < 12 then x3 else if j < 16 then x4 else x5
def mby (x1 x2 x3 x4 x5 : Int32) (j : Nat) : Int32 := (wd5 x1 x2 x3 x4 x5 j >>> (((24 : Int32) - ((8 : Int32) * (nI j - nI j / (4 : Int32) * (4 : Int32)))) &&& 31)) &&& (255 : Int32)
theorem m_feed1 {h : Hp} {x1 x2 x3 x4 x5 : Int32} {k j fu : Nat} (hk : hI h 107 1 = nI k) (hk20 : k + 20 ≤ 700) (hj : j < 20) : fX10_feed_23 (fu + 1) h x1 x2 x3 x4 x5 (nI j) = fX10_feed_23 fu (uI h 108 (k + j) (mby x1 x2 x3 x4 x5 j)) x1 x2 x3 x4 x5 (nI (j + 1)) := by
  have c20 : ¬ (20 : Int32) ≤ nI j := nI_ge hj (by decide)
  have e4 : ((4 : Int32) ≤ nI j) = (4 ≤ j) := propext (nI_leI (a := 4) (by decide) (by omega))
  have e8 : ((8 : Int32) ≤ nI j) = (8 ≤ j) := propext (nI_leI (a := 8) (by decide) (by omega))
  have e12 : ((12 : Int32) ≤ nI j) = (12 ≤ j) := propext (nI_leI (a := 12) (by decide) (by omega))
  have e16 : ((16 : Int32) ≤ nI j) = (16 ≤ j) := propext (nI_leI (a := 16) (by decide) (by omega))
  have h76 : ∀ w : Int32, fX10_feed_76 (fX10_feed_23 fu) h x1 x2 x3 x4 x5 (nI j) w = fX10_feed_23 fu (uI h 108 (k + j) ((w >>> (((24 : Int32) - ((8 : Int32) * (nI j - nI j / (4 : Int32) * (4 : Int32)))) &&& 31)) &&& (255 : Int32))) x1 x2 x3 x4 x5 (nI (j + 1)) := by
    intro w
    unfold fX10_feed_76
    rw [hk, nI_add, if_pos (inb_nI (by omega) (by decide)), nI_clamp (by omega), nI_1]
  rw [fX10_feed_23, if_neg c20]
  simp only [h76, e4, e8, e12, e16]
  unfold mby wd5
  by_cases q4 : 4 ≤ j
  · by_cases q8 : 8 ≤ j
    · by_cases q12 : 12 ≤ j
      · by_cases q16 : 16 ≤ j
        · simp [q4, q8, q12, q16, Nat.not_lt.mpr q4, Nat.not_lt.mpr q8, Nat.not_lt.mpr q12, Nat.not_lt.mpr q16]
        · simp [q4, q8, q12, q16, Nat.not_lt.mpr q4, Nat.not_lt.mpr q8, Nat.not_lt.mpr q12, Nat.not_le.mp q16]
      · simp [q4, q8, q12, Nat.not_lt.mpr q4, Nat.not_lt.mpr q8, Nat.not_le.mp q12]
    · simp [q4, q8, Nat.not_lt.mpr q4, Nat.not_le.mp q8]
  · simp [q4, Nat.not_le.mp q4]
/-- the reference's loop: twenty bytes come behind the tape, nothing else changes -/
theorem m_feedL {x1 x2 x3 x4 x5 : Int32} {k : Nat} (hk20 : k + 20 ≤ 700) : ∀ (d j fu : Nat) (h : Hp), j + d = 20 → d < fu → hI h 107 1 = nI k → ∃ h', fX10_feed_23 fu h x1 x2 x3 x4 x5 (nI j) = some (nI (k + 20), h') ∧ hI h' 107 1 = nI (k + 20) ∧ (∀ i, j ≤ i → i < 20 → hI h' 108 (k + i) = mby x1 x2 x3 x4 x5 i) ∧ Sm (fun a i => (a = 108 ∧ k + j ≤ i ∧ i < k + 20) ∨ (a = 107 ∧ i = 1)) h h'
  | 0, j, fu + 1, h, hj, _, hk => by
    have hj : j = 20 := by omega
    subst hj
    refine ⟨uI h 107 1 (nI (k + 20)), ?_, ?_, fun i h1 h2 => by omega, Sm.rf.uI (Or.inr ⟨rfl, rfl⟩)⟩
    · rw [fX10_feed_23, if_pos (by decide), hk, show (20 : Int32) = nI 20 by decide, nI_add, hI_uI, if_pos ⟨rfl, rfl⟩]
    · rw [hI_uI, if_pos ⟨rfl, rfl⟩]
  | d + 1, j, fu + 1, h, hj, hf, hk => by
    rw [m_feed1 hk hk20 (by omega)]
    obtain ⟨h', e1, e2, e3, e4⟩ := m_feedL (x1 := x1) (x2 := x2) (x3 := x3) (x4 := x4) (x5 := x5) hk20 d (j + 1) fu (uI h 108 (k + j) (mby x1 x2 x3 x4 x5 j)) (by omega) (by omega) (by rw [hI_uI, if_neg (by omega)]; exact hk)
    refine ⟨h', e1, e2, fun i h1 h2 => ?_, (Sm.rf.uI (Or.inl ⟨rfl, by omega, by omega⟩)).tr (e4.mono (fun a i q => ?_))⟩
    · by_cases hi : i = j
      · subst hi
        rw [e4.1 108 (k + i) (by omega), hI_uI, if_pos ⟨rfl, rfl⟩]
      · exact e3 i (by omega) h2
    · omega
