/-! text: numbers are read the same way. -/
theorem uI_4 (h : Hp) (a k l : Nat) (hk : k ≠ l) (u v w x : Int32) : uI (uI (uI (uI h a k u) a l v) a k w) a l x = uI (uI h a k w) a l x := by
  unfold uI
  simp only
  congr 1
  funext y z
  by_cases q : y = a ∧ z = l
  · simp [q]
  · by_cases q2 : y = a ∧ z = k
    · simp [q2]
    · simp [q, q2]
theorem sxd : ∀ b, b < 256 → ((nI b).toInt8.toInt32 < nI 48) = (b < 48 ∨ 128 ≤ b) := by
  have : ∀ b, b < 256 → ((nI b).toInt8.toInt32 < nI 48 ↔ (b < 48 ∨ 128 ≤ b)) := by decide +kernel
  exact fun b h => propext (this b h)
theorem sxe : ∀ b, b < 256 → (nI 57 < (nI b).toInt8.toInt32) = (57 < b ∧ b < 128) := by
  have : ∀ b, b < 256 → (nI 57 < (nI b).toInt8.toInt32 ↔ (57 < b ∧ b < 128)) := by decide +kernel
  exact fun b h => propext (this b h)
theorem sxi : ∀ b, b < 128 → (nI b).toInt8.toInt32 = nI b := by decide +kernel
/-- digits from p on: where they end, and their number -/
def nmr (b : Nat → Nat) : Nat → Nat → Nat → Nat × Nat
  | 0, p, v => (p, v)
  | d + 1, p, v => if 48 ≤ b p ∧ b p ≤ 57 then nmr b d (p + 1) (if 100000 ≤ v then v else v * 10 + (b p - 48)) else (p, v)
theorem x_nmr {b : Nat → Nat} {n : Nat} : ∀ (d p v fu : Nat) (h : Hp), p + d = n → d < fu → v < 2000000 → TPc h b n → hI h 69 3 = nI n → hI h 69 6 = nI p → hI h 69 12 = nI v → fX5_readNumber_10 fu h = some (uI (uI h 69 12 (nI (nmr b d p v).2)) 69 6 (nI (nmr b d p v).1))
  | 0, p, v, fu + 1, h, hk, _, hv, tp, h3, h6, h12 => by
    have := tp.1
    rw [fX5_readNumber_10, nmr, uI_self h12, uI_self h6]
    simp (disch := omega) only [lit, h3, h6, ↓reduceIte, leT]
  | d + 1, p, v, fu + 1, h, hk, hf, hv, tp, h3, h6, h12 => by
    have h7 := tp.1
    obtain ⟨b1, b2⟩ := tp.2 p (by omega)
    rw [fX5_readNumber_10, nmr]
    by_cases q : 48 ≤ b p ∧ b p ≤ 57
    · rw [if_pos q]
      have c1 : ¬ (b p < 48 ∨ 128 ≤ b p) := by omega
      have c2 : ¬ (57 < b p ∧ b p < 128) := by omega
      have nx : ∀ w, w < 2000000 → fX5_readNumber_96 (fX5_readNumber_10 fu) h (nI w) = some (uI (uI h 69 12 (nI (nmr b d (p + 1) w).2)) 69 6 (nI (nmr b d (p + 1) w).1)) := by
        intro w hw
        have ih := x_nmr (b := b) d (p + 1) w fu (uI (uI h 69 12 (nI w)) 69 6 (nI (p + 1))) (by omega) (by omega) hw ⟨h7, fun i hi => by rw [hI_ne (by omega), hI_ne (by omega)]; exact tp.2 i hi⟩ (by rw [hI_ne (by omega), hI_ne (by omega)]; exact h3) (hI_at ⟨rfl, rfl⟩) (by rw [hI_ne (by omega), hI_at ⟨rfl, rfl⟩])
        rw [uI_4 h 69 12 6 (by decide)] at ih
        have e6 : hI (uI h 69 12 (nI w)) 69 6 = nI p := (hI_ne (by omega)).trans h6
        unfold fX5_readNumber_96
        simp only [lit, e6, nI_add]
        exact ih
      by_cases z : 100000 ≤ v
      · rw [if_pos z, ← nx v hv]
        simp (disch := omega) only [lit, h3, h6, h12, ↓reduceIte, leF, leT, inbN, nI_clamp, b2, sxd, sxe, c1, c2]
      · rw [if_neg z, ← nx _ (by omega)]
        simp (disch := omega) only [lit, h3, h6, h12, ↓reduceIte, leF, inbN, nI_clamp, b2, sxd, sxe, c1, c2]
        simp (disch := omega) only [sxi, pk_sub, pk_mul, nI_add]
    · rw [if_neg q, uI_self h12, uI_self h6]
      by_cases c1 : b p < 48 ∨ 128 ≤ b p
      · simp (disch := omega) only [lit, h3, h6, ↓reduceIte, leF, inbN, nI_clamp, b2, sxd, c1]
      · have c2 : 57 < b p ∧ b p < 128 := by omega
        simp (disch := omega) only [lit, h3, h6, ↓reduceIte, leF, inbN, nI_clamp, b2, sxd, sxe, c1]
        rw [if_pos c2]
theorem m_nmr {b : Nat → Nat} {n : Nat} : ∀ (d p v fu : Nat) (h : Hp), p + d = n → d < fu → v < 2000000 → TPm h b n → hI h 107 6 = nI n → hI h 107 7 = nI p → hI h 107 9 = nI v → fX10_token_213 fu h = some (uI (uI h 107 9 (nI (nmr b d p v).2)) 107 7 (nI (nmr b d p v).1))
  | 0, p, v, fu + 1, h, hk, _, hv, tp, h3, h6, h12 => by
    have := tp.1
    rw [fX10_token_213, nmr, uI_self h12, uI_self h6]
    simp (disch := omega) only [lit, fX10_isDigit, h3, h6, ↓reduceIte, leT, bnd_some]
  | d + 1, p, v, fu + 1, h, hk, hf, hv, tp, h3, h6, h12 => by
    have h7 := tp.1
    obtain ⟨b1, b2⟩ := tp.2 p (by omega)
    rw [fX10_token_213, nmr]
    by_cases q : 48 ≤ b p ∧ b p ≤ 57
    · rw [if_pos q]
      have nx : ∀ w, w < 2000000 → fX10_token_261 (fX10_token_213 fu) h (nI w) = some (uI (uI h 107 9 (nI (nmr b d (p + 1) w).2)) 107 7 (nI (nmr b d (p + 1) w).1)) := by
        intro w hw
        have ih := m_nmr (b := b) d (p + 1) w fu (uI (uI h 107 9 (nI w)) 107 7 (nI (p + 1))) (by omega) (by omega) hw ⟨h7, fun i hi => by rw [hI_ne (by omega), hI_ne (by omega)]; exact tp.2 i hi⟩ (by rw [hI_ne (by omega), hI_ne (by omega)]; exact h3) (hI_at ⟨rfl, rfl⟩) (by rw [hI_ne (by omega), hI_at ⟨rfl, rfl⟩])
        rw [uI_4 h 107 9 7 (by decide)] at ih
        have e6 : hI (uI h 107 9 (nI w)) 107 7 = nI p := (hI_ne (by omega)).trans h6
        unfold fX10_token_261
        simp only [lit, e6, nI_add]
        exact ih
      by_cases z : 100000 ≤ v
      · rw [if_pos z, ← nx v hv]
        simp (disch := omega) only [lit, fX10_isDigit, h3, h6, h12, ↓reduceIte, leF, ltF, inbN, nI_clamp, b2, bnd_some, eqF]
      · rw [if_neg z, ← nx _ (by omega)]
        simp (disch := omega) only [lit, fX10_isDigit, h3, h6, h12, ↓reduceIte, leF, leT, ltF, inbN, nI_clamp, b2, bnd_some, eqF, pk_mul, nI_add, pk_sub]
        rw [show 10 * v + b p - 48 = v * 10 + (b p - 48) by omega]
    · rw [if_neg q, uI_self h12, uI_self h6]
      by_cases c1 : b p < 48
      · simp (disch := omega) only [lit, fX10_isDigit, h3, h6, ↓reduceIte, leF, ltT, inbN, nI_clamp, b2, bnd_some]
      · simp (disch := omega) only [lit, fX10_isDigit, h3, h6, ↓reduceIte, leF, ltF, ltT, inbN, nI_clamp, b2, bnd_some]
