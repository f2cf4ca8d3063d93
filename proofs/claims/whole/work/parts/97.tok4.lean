/-! text: where a word ends, by the reference. -/
theorem m_smT {h : Hp} {b : Nat → Nat} {n p : Nat} (tp : TPm h b n) (h6 : hI h 107 6 = nI n) (hp : p < n) (q : 97 ≤ b p ∧ b p ≤ 122) : fX10_isSmall h (nI p) = some (nI 1, h) := by
  have h7 := tp.1
  obtain ⟨b1, b2⟩ := tp.2 p hp
  unfold fX10_isSmall
  simp (disch := omega) only [lit, h6, ↓reduceIte, leF, ltF, inbN, nI_clamp, b2]
theorem m_smF {h : Hp} {b : Nat → Nat} {n p : Nat} (tp : TPm h b n) (h6 : hI h 107 6 = nI n) (hp : p ≤ n) (q : p < n → ¬ (97 ≤ b p ∧ b p ≤ 122)) : fX10_isSmall h (nI p) = some (nI 0, h) := by
  have h7 := tp.1
  unfold fX10_isSmall
  by_cases e : p = n
  · simp (disch := omega) only [lit, h6, ↓reduceIte, leT]
  · obtain ⟨b1, b2⟩ := tp.2 p (by omega)
    have q := q (by omega)
    by_cases c : b p < 97
    · simp (disch := omega) only [lit, h6, ↓reduceIte, leF, ltT, inbN, nI_clamp, b2]
    · simp (disch := omega) only [lit, h6, ↓reduceIte, leF, ltF, ltT, inbN, nI_clamp, b2]
theorem m_wde {b : Nat → Nat} {n : Nat} : ∀ (d p j acc fu : Nat) (h : Hp), p + d = n → d < fu → TPm h b n → hI h 107 6 = nI n → hI h 107 7 = nI p → ∃ fu', fX10_token_90 fu h = fX10_token_90 (fu' + 1) (uI h 107 7 (nI (wdp b d p j acc).1)) ∧ fX10_isSmall (uI h 107 7 (nI (wdp b d p j acc).1)) (nI (wdp b d p j acc).1) = some (nI 0, uI h 107 7 (nI (wdp b d p j acc).1))
  | 0, p, j, acc, fu + 1, h, hk, _, tp, h6, h7 => by
    rw [wdp, uI_self h7]
    exact ⟨fu, rfl, m_smF tp h6 (by omega) (fun z => by omega)⟩
  | d + 1, p, j, acc, fu + 1, h, hk, hf, tp, h6, h7 => by
    rw [wdp]
    by_cases q : 97 ≤ b p ∧ b p ≤ 122
    · rw [if_pos q]
      obtain ⟨fu', a1, a2⟩ := m_wde (b := b) d (p + 1) (j + 1) (if j < 6 then acc ||| (b p - 96) * 2 ^ (25 - 5 * j) else acc) fu (uI h 107 7 (nI (p + 1))) (by omega) (by omega) ⟨tp.1, fun i hi => by rw [hI_ne (by omega)]; exact tp.2 i hi⟩ (by rw [hI_ne (by omega)]; exact h6) (hI_at ⟨rfl, rfl⟩)
      rw [uI_uI] at a1 a2
      refine ⟨fu', ?_, a2⟩
      rw [← a1, fX10_token_90]
      simp (disch := omega) only [lit, h7, m_smT tp h6 (show p < n by omega) q, bnd_some, ↓reduceIte, eqF, nI_add]
    · rw [if_neg q, uI_self h7]
      exact ⟨fu, rfl, m_smF tp h6 (by omega) (fun _ => q)⟩
