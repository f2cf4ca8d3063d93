/-! text: where a word ends, and its packed letters, by the class. -/
theorem sxl : ∀ b, b < 256 → ((nI b).toInt8.toInt32 < nI 97) = (b < 97 ∨ 128 ≤ b) := by
  have : ∀ b, b < 256 → ((nI b).toInt8.toInt32 < nI 97 ↔ (b < 97 ∨ 128 ≤ b)) := by decide +kernel
  exact fun b h => propext (this b h)
theorem sxm : ∀ b, b < 256 → (nI 122 < (nI b).toInt8.toInt32) = (122 < b ∧ b < 128) := by
  have : ∀ b, b < 256 → (nI 122 < (nI b).toInt8.toInt32 ↔ (122 < b ∧ b < 128)) := by decide +kernel
  exact fun b h => propext (this b h)
def wdp (b : Nat → Nat) : Nat → Nat → Nat → Nat → Nat × Nat
  | 0, p, _, acc => (p, acc)
  | d + 1, p, j, acc => if 97 ≤ b p ∧ b p ≤ 122 then wdp b d (p + 1) (j + 1) (if j < 6 then acc ||| (b p - 96) * 2 ^ (25 - 5 * j) else acc) else (p, acc)
theorem wdp_ge (b : Nat → Nat) : ∀ d p j acc, p ≤ (wdp b d p j acc).1
  | 0, p, _, _ => Nat.le_refl _
  | d + 1, p, j, acc => by
    rw [wdp]
    split
    · have := wdp_ge b d (p + 1) (j + 1) (if j < 6 then acc ||| (b p - 96) * 2 ^ (25 - 5 * j) else acc)
      omega
    · exact Nat.le_refl _
theorem x_j5 (j : Nat) : nI 25 - nI (5 * j) + -nI 5 = nI 25 - nI (5 * (j + 1)) := by
  rw [show 5 * (j + 1) = 5 * j + 5 by omega, ← nI_add, Int32.sub_eq_add_neg, Int32.sub_eq_add_neg, Int32.neg_add, Int32.sub_eq_add_neg, Int32.add_assoc]
theorem x_j0 {j : Nat} (hj : j ≤ 800) : (nI 25 - nI (5 * j) < nI 0) = (6 ≤ j) := by
  rw [Int32.lt_iff_toInt_lt, pk_sub_toInt (by omega) (by omega), nI_toInt (by omega)]
  exact propext ⟨fun h => by omega, fun h => by omega⟩
theorem sh25 : ∀ j, j < 6 → (((nI 25 - nI (5 * j)) &&& nI 31).toBitVec.smod 32).toNat = 25 - 5 * j := by decide
theorem x_wdp {b : Nat → Nat} {n : Nat} : ∀ (d p j acc fu : Nat) (h : Hp), p + d = n → d < fu → j ≤ p → TPc h b n → hI h 69 3 = nI n → hI h 69 6 = nI p → hI h 69 10 = nI acc → fX5_readWord_8 fu h (nI 25 - nI (5 * j)) = fX5_readWord_102 (uI (uI h 69 10 (nI (wdp b d p j acc).2)) 69 6 (nI (wdp b d p j acc).1)) (nI 25 - nI (5 * (j + ((wdp b d p j acc).1 - p))))
  | 0, p, j, acc, fu + 1, h, hk, _, hj, tp, h3, h6, h10 => by
    have := tp.1
    rw [fX5_readWord_8, wdp, uI_self h10, uI_self h6, Nat.sub_self, Nat.add_zero]
    simp (disch := omega) only [lit, h3, h6, ↓reduceIte, leT]
  | d + 1, p, j, acc, fu + 1, h, hk, hf, hj, tp, h3, h6, h10 => by
    have h7 := tp.1
    obtain ⟨b1, b2⟩ := tp.2 p (by omega)
    rw [fX5_readWord_8, wdp]
    by_cases q : 97 ≤ b p ∧ b p ≤ 122
    · rw [if_pos q]
      have c1 : ¬ (b p < 97 ∨ 128 ≤ b p) := by omega
      have c2 : ¬ (122 < b p ∧ b p < 128) := by omega
      have nx : ∀ w, fX5_readWord_86 (fX5_readWord_8 fu) (uI h 69 10 (nI w)) (nI 25 - nI (5 * j)) = fX5_readWord_102 (uI (uI h 69 10 (nI (wdp b d (p + 1) (j + 1) w).2)) 69 6 (nI (wdp b d (p + 1) (j + 1) w).1)) (nI 25 - nI (5 * (j + ((wdp b d (p + 1) (j + 1) w).1 - p)))) := by
        intro w
        have ih := x_wdp (b := b) d (p + 1) (j + 1) w fu (uI (uI h 69 10 (nI w)) 69 6 (nI (p + 1))) (by omega) (by omega) (by omega) ⟨h7, fun i hi => by rw [hI_ne (by omega), hI_ne (by omega)]; exact tp.2 i hi⟩ (by rw [hI_ne (by omega), hI_ne (by omega)]; exact h3) (hI_at ⟨rfl, rfl⟩) (by rw [hI_ne (by omega), hI_at ⟨rfl, rfl⟩])
        have g := wdp_ge b d (p + 1) (j + 1) w
        rw [uI_4 h 69 10 6 (by decide), show j + 1 + ((wdp b d (p + 1) (j + 1) w).1 - (p + 1)) = j + ((wdp b d (p + 1) (j + 1) w).1 - p) by omega] at ih
        have e6 : hI (uI h 69 10 (nI w)) 69 6 = nI p := (hI_ne (by omega)).trans h6
        unfold fX5_readWord_86
        simp only [lit, e6, nI_add, x_j5]
        exact ih
      by_cases z : j < 6
      · rw [if_pos z, ← nx _]
        have z' : ¬ 6 ≤ j := by omega
        have sx := sxi (b p) (by omega)
        have shf : nI (b p - 96) <<< ((nI 25 - nI (5 * j)) &&& nI 31) = nI ((b p - 96) * 2 ^ (25 - 5 * j)) := pk_shlN _ _ (sh25 j z) (by
          have : 2 ^ (25 - 5 * j) ≤ 2 ^ 25 := Nat.pow_le_pow_right (by decide) (by omega)
          have : (b p - 96) * 2 ^ (25 - 5 * j) ≤ 26 * 2 ^ 25 := Nat.mul_le_mul (by omega) this
          omega)
        simp (disch := omega) only [lit, h3, h6, h10, ↓reduceIte, leF, inbN, nI_clamp, b2, sxl, sxm, c1, c2, x_j0, z']
        have sb : nI (b p) - nI 97 = nI (b p - 97) := pk_sub (by omega)
        simp (disch := omega) only [sx, sb, nI_add]
        rw [show b p - 97 + 1 = b p - 96 by omega, shf, nx_o]
      · rw [if_neg z, ← nx _, uI_self h10]
        have z' : 6 ≤ j := by omega
        simp (disch := omega) only [lit, h3, h6, ↓reduceIte, leF, inbN, nI_clamp, b2, sxl, sxm, c1, c2, x_j0, z']
    · rw [if_neg q, uI_self h10, uI_self h6, Nat.sub_self, Nat.add_zero]
      by_cases c1 : b p < 97 ∨ 128 ≤ b p
      · simp (disch := omega) only [lit, h3, h6, ↓reduceIte, leF, inbN, nI_clamp, b2, sxl, c1]
      · have c2 : 122 < b p ∧ b p < 128 := by omega
        simp (disch := omega) only [lit, h3, h6, ↓reduceIte, leF, inbN, nI_clamp, b2, sxl, sxm, c1]
        rw [if_pos c2]
