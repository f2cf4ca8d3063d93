/-! text: packed letters are the same on both sides; the words of the language. -/
theorem wdp_le (b : Nat → Nat) : ∀ d p j acc, (wdp b d p j acc).1 ≤ p + d
  | 0, p, _, _ => Nat.le_refl _
  | d + 1, p, j, acc => by
    rw [wdp]
    split
    · have := wdp_le b d (p + 1) (j + 1) (if j < 6 then acc ||| (b p - 96) * 2 ^ (25 - 5 * j) else acc)
      omega
    · exact Nat.le_add_right _ _
theorem wdp_l (b : Nat → Nat) : ∀ d p j acc i, p ≤ i → i < (wdp b d p j acc).1 → 97 ≤ b i ∧ b i ≤ 122
  | 0, p, _, _, i, h1, h2 => by rw [wdp] at h2; exact absurd h2 (by simp only; omega)
  | d + 1, p, j, acc, i, h1, h2 => by
    rw [wdp] at h2
    by_cases q : 97 ≤ b p ∧ b p ≤ 122
    · rw [if_pos q] at h2
      by_cases e : i = p
      · rw [e]; exact q
      · exact wdp_l b d (p + 1) (j + 1) _ i (by omega) h2
    · rw [if_neg q] at h2
      exact absurd h2 (by simp only; omega)
theorem hrN_z {b : Nat → Nat} {s e k : Nat} (h : e ≤ s + k) : ∀ m, hrN b s e (k + m) = hrN b s e k * 32 ^ m
  | 0 => by rw [Nat.add_zero, Nat.pow_zero, Nat.mul_one]
  | m + 1 => by
    rw [← Nat.add_assoc, hrN, hrN_z h m, if_neg (by omega), Nat.add_zero, Nat.pow_succ, Nat.mul_assoc]
theorem hrN_e {b : Nat → Nat} {s e j : Nat} (h : e ≤ s + j) (hj : j ≤ 6) : hrN b s e 6 = hrN b s e j * 2 ^ (30 - 5 * j) := by
  have := hrN_z (b := b) h (6 - j)
  rw [show j + (6 - j) = 6 by omega] at this
  rw [this, show (32 : Nat) = 2 ^ 5 by decide, ← Nat.pow_mul, show 5 * (6 - j) = 30 - 5 * j by omega]
theorem or_sh (a c m : Nat) : a * 2 ^ m ||| c * 2 ^ m = (a ||| c) * 2 ^ m := by
  have e := Nat.shiftLeft_or_distrib (a := a) (b := c) (i := m)
  rw [Nat.shiftLeft_eq, Nat.shiftLeft_eq, Nat.shiftLeft_eq] at e
  exact e.symm
theorem wdp_hr {b : Nat → Nat} {s E : Nat} (h6 : E ≤ s + 6) : ∀ d p j acc, p = s + j → (wdp b d p j acc).1 = E → acc = hrN b s E j * 2 ^ (30 - 5 * j) → (wdp b d p j acc).2 = hrN b s E 6
  | 0, p, j, acc, hp, hE, ha => by
    rw [wdp] at hE ⊢
    simp only at hE ⊢
    exact ha.trans (hrN_e (by omega) (by omega)).symm
  | d + 1, p, j, acc, hp, hE, ha => by
    rw [wdp] at hE ⊢
    by_cases q : 97 ≤ b p ∧ b p ≤ 122
    · rw [if_pos q] at hE ⊢
      have g := wdp_ge b d (p + 1) (j + 1) (if j < 6 then acc ||| (b p - 96) * 2 ^ (25 - 5 * j) else acc)
      refine wdp_hr h6 d (p + 1) (j + 1) _ (by omega) hE ?_
      rw [if_pos (by omega), hrN, if_pos (by omega), ha, hp, show 30 - 5 * j = 5 + (25 - 5 * j) by omega, show 30 - 5 * (j + 1) = 25 - 5 * j by omega, Nat.pow_add, ← Nat.mul_assoc, or_sh, show 2 ^ 5 = 32 by decide, or5 (by rw [← hp]; omega)]
    · rw [if_neg q] at hE ⊢
      simp only at hE ⊢
      exact ha.trans (hrN_e (by omega) (by omega)).symm
/-- the words as the reference has them: lengths, where they begin -/
def wlL : List Nat := [5, 6, 5, 6, 5, 6, 5, 4, 4, 3, 4, 4, 4, 3, 2, 3, 6, 6, 4, 5, 4, 4, 5]
def wl (k : Nat) : Nat := wlL.getD k 0
def wo : Nat → Nat
  | 0 => 0
  | k + 1 => wo k + wl k + 1
def swp (k : Nat) : Nat := if k = 13 then 14 else if k = 14 then 13 else k
def wdg (k j : Nat) : Nat := if j < wl k then wordN (wo k + j) - 96 else 0
theorem wf1 : ∀ k, k < 23 → (∀ n, n < wl k → 97 ≤ wordN (wo k + n) ∧ wordN (wo k + n) ≤ 122) ∧ wordN (wo k + wl k) = 32 ∧ wl k ≤ 6 ∧ 1 ≤ wl k ∧ wo k + wl k < 126 := by decide +kernel
theorem wf2 : ∀ k, k < 23 → langN (swp k) = (((((0 * 32 + wdg k 0) * 32 + wdg k 1) * 32 + wdg k 2) * 32 + wdg k 3) * 32 + wdg k 4) * 32 + wdg k 5 := by decide +kernel
theorem wf3 : wo 23 = 126 := by decide +kernel
theorem lgN_lt : ∀ k, k < 23 → langN k < 2 ^ 31 := by decide +kernel
theorem lgN_ne : ∀ j, j < 23 → ∀ k, k < 23 → langN j = langN k → j = k := by decide +kernel
theorem swp_lt : ∀ k, k < 23 → swp k < 23 ∧ swp (swp k) = k := by decide +kernel
theorem hor6 (D W : Nat → Nat) (d1 : ∀ j, D j < 32) (d2 : ∀ j, W j < 32) (h : (((((0 * 32 + D 0) * 32 + D 1) * 32 + D 2) * 32 + D 3) * 32 + D 4) * 32 + D 5 = (((((0 * 32 + W 0) * 32 + W 1) * 32 + W 2) * 32 + W 3) * 32 + W 4) * 32 + W 5) : ∀ j, j < 6 → D j = W j := by
  have a0 := d1 0; have a1 := d1 1; have a2 := d1 2; have a3 := d1 3; have a4 := d1 4; have a5 := d1 5
  have c0 := d2 0; have c1 := d2 1; have c2 := d2 2; have c3 := d2 3; have c4 := d2 4; have c5 := d2 5
  intro j hj
  rcases (by omega : j = 0 ∨ j = 1 ∨ j = 2 ∨ j = 3 ∨ j = 4 ∨ j = 5) with rfl | rfl | rfl | rfl | rfl | rfl <;> omega
def mtw (b : Nat → Nat) (s e k : Nat) : Prop := wl k = e - s ∧ ∀ i, i < wl k → wordN (wo k + i) = b (s + i)
theorem mt_iff {b : Nat → Nat} {s e k : Nat} (hk : k < 23) (hl : ∀ i, s ≤ i → i < e → 97 ≤ b i ∧ b i ≤ 122) (h6 : e - s ≤ 6) : mtw b s e k ↔ hrN b s e 6 = langN (swp k) := by
  obtain ⟨w1, w2, w3, w4, w5⟩ := wf1 k hk
  rw [wf2 k hk]
  have hh : hrN b s e 6 = (((((0 * 32 + (if s + 0 < e then b (s + 0) - 96 else 0)) * 32 + (if s + 1 < e then b (s + 1) - 96 else 0)) * 32 + (if s + 2 < e then b (s + 2) - 96 else 0)) * 32 + (if s + 3 < e then b (s + 3) - 96 else 0)) * 32 + (if s + 4 < e then b (s + 4) - 96 else 0)) * 32 + (if s + 5 < e then b (s + 5) - 96 else 0) := rfl
  rw [hh]
  constructor
  · rintro ⟨h1, h2⟩
    have dj : ∀ j, j < 6 → (if s + j < e then b (s + j) - 96 else 0) = wdg k j := fun j hj => by
      unfold wdg
      by_cases q : j < wl k
      · rw [if_pos q, if_pos (by omega), h2 j q]
      · rw [if_neg q, if_neg (by omega)]
    rw [dj 0 (by decide), dj 1 (by decide), dj 2 (by decide), dj 3 (by decide), dj 4 (by decide), dj 5 (by decide)]
  · intro h
    have d1 : ∀ j, (if s + j < e then b (s + j) - 96 else 0) < 32 := fun j => by
      split
      · have := hl (s + j) (by omega) (by assumption); omega
      · decide
    have d2 : ∀ j, wdg k j < 32 := fun j => by
      unfold wdg
      split
      · have := w1 j (by assumption); omega
      · decide
    have dj : ∀ j, j < 6 → (if s + j < e then b (s + j) - 96 else 0) = wdg k j := hor6 (fun j => if s + j < e then b (s + j) - 96 else 0) (wdg k) d1 d2 h
    have dl : e - s = wl k := by
      have p1 : ¬ (e - s < wl k) := fun q => by
        have := dj (e - s) (by omega)
        rw [if_neg (by omega)] at this
        unfold wdg at this
        rw [if_pos q] at this
        have := w1 _ q
        omega
      have p2 : ¬ (wl k < e - s) := fun q => by
        have := dj (wl k) (by omega)
        rw [if_pos (by omega)] at this
        unfold wdg at this
        rw [if_neg (by omega)] at this
        have := hl (s + wl k) (by omega) (by omega)
        omega
      omega
    refine ⟨dl.symm, fun i hi => ?_⟩
    have := dj i (by omega)
    rw [if_pos (by omega)] at this
    unfold wdg at this
    rw [if_pos hi] at this
    have := hl (s + i) (by omega) (by omega)
    have := w1 i hi
    omega
