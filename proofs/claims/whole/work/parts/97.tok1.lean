/-! text: white space is passed over the same way. -/
theorem uI_uI (h : Hp) (a k : Nat) (v w : Int32) : uI (uI h a k v) a k w = uI h a k w := by
  unfold uI
  simp only
  congr 1
  funext x y
  by_cases q : x = a ∧ y = k
  · simp [q]
  · simp [q]
theorem uI_self {h : Hp} {a k : Nat} {v : Int32} (e : hI h a k = v) : uI h a k v = h := by
  unfold uI
  have : (fun x y => if x = a ∧ y = k then v else h.1 x y) = h.1 := by
    funext x y
    by_cases q : x = a ∧ y = k
    · obtain ⟨rfl, rfl⟩ := q
      simp only [and_self, ↓reduceIte]; exact e.symm
    · simp [q]
  rw [this]
theorem sx10 : ∀ b, b < 256 → ((nI b).toInt8.toInt32 = nI 10) = (b = 10) := by
  have : ∀ b, b < 256 → ((nI b).toInt8.toInt32 = nI 10 ↔ b = 10) := by decide +kernel
  exact fun b h => propext (this b h)
theorem sx32 : ∀ b, b < 256 → ((nI b).toInt8.toInt32 = nI 32) = (b = 32) := by
  have : ∀ b, b < 256 → ((nI b).toInt8.toInt32 = nI 32 ↔ b = 32) := by decide +kernel
  exact fun b h => propext (this b h)
/-- the first place from p on that isn't white, of d places -/
def skp (b : Nat → Nat) : Nat → Nat → Nat
  | 0, p => p
  | d + 1, p => if b p = 10 ∨ b p = 32 then skp b d (p + 1) else p
theorem skp_le (b : Nat → Nat) : ∀ d p, p ≤ skp b d p ∧ skp b d p ≤ p + d
  | 0, p => ⟨Nat.le_refl _, Nat.le_refl _⟩
  | d + 1, p => by
    have := skp_le b d (p + 1)
    rw [skp]; split <;> omega
def TPc (h : Hp) (b : Nat → Nat) (n : Nat) : Prop := n ≤ 700 ∧ ∀ i, i < n → b i < 256 ∧ hI h 70 i = (nI (b i)).toInt8.toInt32
def TPm (h : Hp) (b : Nat → Nat) (n : Nat) : Prop := n ≤ 700 ∧ ∀ i, i < n → b i < 256 ∧ hI h 108 i = nI (b i)
theorem x_skp {b : Nat → Nat} {n : Nat} : ∀ (d p fu : Nat) (h : Hp), p + d = n → d < fu → TPc h b n → hI h 69 3 = nI n → hI h 69 6 = nI p → fX5_next_8 fu h = fX5_next_70 (uI h 69 6 (nI (skp b d p)))
  | 0, p, fu + 1, h, hk, _, tp, h3, h6 => by
    have := tp.1
    rw [fX5_next_8, skp, uI_self h6]
    simp (disch := omega) only [lit, h3, h6, ↓reduceIte, leT]
  | d + 1, p, fu + 1, h, hk, hf, tp, h3, h6 => by
    have h7 := tp.1
    obtain ⟨b1, b2⟩ := tp.2 p (by omega)
    have ih := x_skp (b := b) d (p + 1) fu (uI h 69 6 (nI (p + 1))) (by omega) (by omega) ⟨h7, fun i hi => by rw [hI_ne (by omega)]; exact tp.2 i hi⟩ (by rw [hI_ne (by omega)]; exact h3) (hI_at ⟨rfl, rfl⟩)
    rw [uI_uI] at ih
    rw [fX5_next_8, skp]
    by_cases q : b p = 10
    · rw [if_pos (Or.inl q), ← ih]
      simp (disch := omega) only [lit, h3, h6, ↓reduceIte, leF, inbN, nI_clamp, b2, sx10, q, fX5_next_57, nI_add]
    · by_cases q2 : b p = 32
      · rw [if_pos (Or.inr q2), ← ih]
        simp (disch := omega) only [lit, h3, h6, ↓reduceIte, leF, inbN, nI_clamp, b2, sx10, sx32, q, q2, fX5_next_57, nI_add]
        simp (disch := omega) only [show ¬ (32 : Nat) = 10 by decide, ↓reduceIte]
      · rw [if_neg (show ¬ (b p = 10 ∨ b p = 32) by omega), uI_self h6]
        simp (disch := omega) only [lit, h3, h6, ↓reduceIte, leF, inbN, nI_clamp, b2, sx10, sx32, q, q2]
theorem m_skp {b : Nat → Nat} {n : Nat} : ∀ (d p fu : Nat) (h : Hp), p + d = n → d < fu → TPm h b n → hI h 107 6 = nI n → hI h 107 7 = nI p → fX10_token_0 fu h = fX10_token_52 (uI h 107 7 (nI (skp b d p)))
  | 0, p, fu + 1, h, hk, _, tp, h3, h6 => by
    have := tp.1
    rw [fX10_token_0, skp, uI_self h6]
    simp (disch := omega) only [lit, h3, h6, ↓reduceIte, leT]
  | d + 1, p, fu + 1, h, hk, hf, tp, h3, h6 => by
    have h7 := tp.1
    obtain ⟨b1, b2⟩ := tp.2 p (by omega)
    have ih := m_skp (b := b) d (p + 1) fu (uI h 107 7 (nI (p + 1))) (by omega) (by omega) ⟨h7, fun i hi => by rw [hI_ne (by omega)]; exact tp.2 i hi⟩ (by rw [hI_ne (by omega)]; exact h3) (hI_at ⟨rfl, rfl⟩)
    rw [uI_uI] at ih
    rw [fX10_token_0, skp]
    by_cases q : b p = 10
    · rw [if_pos (Or.inl q), ← ih]
      simp (disch := omega) only [lit, h3, h6, ↓reduceIte, leF, inbN, nI_clamp, b2, q, fX10_token_39, nI_add]
    · by_cases q2 : b p = 32
      · rw [if_pos (Or.inr q2), ← ih]
        simp (disch := omega) only [lit, h3, h6, ↓reduceIte, leF, inbN, nI_clamp, b2, q2, eqF, fX10_token_39, nI_add]
      · rw [if_neg (show ¬ (b p = 10 ∨ b p = 32) by omega), uI_self h6]
        simp (disch := omega) only [lit, h3, h6, ↓reduceIte, leF, inbN, nI_clamp, b2, eqF]
