/-! text: a name's packed letters, by the reference. -/
def hrN (b : Nat → Nat) (s e : Nat) : Nat → Nat
  | 0 => 0
  | k + 1 => hrN b s e k * 32 + (if s + k < e then b (s + k) - 96 else 0)
theorem hrN_lt {b : Nat → Nat} {s e : Nat} (hl : ∀ i, s ≤ i → i < e → 97 ≤ b i ∧ b i ≤ 122) : ∀ k, hrN b s e k < 32 ^ k
  | 0 => show 0 < 1 by decide
  | k + 1 => by
    have := hrN_lt hl k
    rw [hrN, Nat.pow_succ]
    split
    · rename_i q
      have := hl (s + k) (by omega) q
      omega
    · omega
theorem or5 {a c : Nat} (h : c < 32) : a * 32 ||| c = a * 32 + c := by
  have := Nat.two_pow_add_eq_or_of_lt (i := 5) h a
  rw [Nat.mul_comm]; exact this.symm
theorem m_pk {h : Hp} {b : Nat → Nat} {n s e : Nat} (tp : TPm h b n) (he : e ≤ n) (hs : s ≤ n) (hl : ∀ i, s ≤ i → i < e → 97 ≤ b i ∧ b i ≤ 122) : ∀ (d k fu : Nat), k + d = 6 → d < fu → fX10_packed_5 fu h (nI s) (nI e) (nI (hrN b s e k)) (nI (s + k)) = some (nI (hrN b s e 6), h)
  | 0, k, fu + 1, hk, _ => by
    have e6 : k = 6 := by omega
    subst e6
    have h7 := tp.1
    rw [fX10_packed_5]; simp (disch := omega) only [lit, nI_add, ↓reduceIte, leT]
  | d + 1, k, fu + 1, hk, hf => by
    have h7 := tp.1
    have ih := m_pk tp he hs hl d (k + 1) fu (by omega) (by omega)
    have l1 := hrN_lt hl k
    have l2 : 32 ^ k ≤ 32 ^ 5 := Nat.pow_le_pow_right (by decide) (by omega)
    have shf : nI (hrN b s e k) <<< (nI 5 &&& nI 31) = nI (hrN b s e k * 2 ^ 5) := pk_shlN _ 5 (sh31 5 (by decide)) (by omega)
    rw [hrN] at ih
    rw [fX10_packed_5]
    by_cases q : s + k < e
    · have q2 := hl (s + k) (by omega) q
      obtain ⟨b1, b2⟩ := tp.2 (s + k) (by omega)
      rw [if_pos q, ← or5 (by omega)] at ih
      simp (disch := omega) only [lit, nI_add, ↓reduceIte, leF, inbN, nI_clamp, b2, shf, pk_sub, fX10_packed_37, nx_o]
      exact ih
    · rw [if_neg q, ← or5 (by omega)] at ih
      simp (disch := omega) only [lit, nI_add, ↓reduceIte, leF, leT, shf, fX10_packed_37, nx_o]
      exact ih
theorem m_packed {h : Hp} {b : Nat → Nat} {n s e : Nat} (tp : TPm h b n) (he : e ≤ n) (hs : s ≤ n) (hl : ∀ i, s ≤ i → i < e → 97 ≤ b i ∧ b i ≤ 122) : fX10_packed h (nI s) (nI e) = some (nI (hrN b s e 6), h) := by
  unfold fX10_packed
  have := m_pk tp he hs hl 6 0 FU rfl (by decide)
  rw [Nat.add_zero] at this
  exact this
