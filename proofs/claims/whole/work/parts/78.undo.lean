/-! debate, take, drop, undo. -/
section V
variable {S : Nat} {T : Tx}
theorem RU_step {hc hm hc1 hm1 hc2 hm2 : Hp} {m p n : Nat} {y fv : Int32} (F : WFT T) (w : RW hc hm S 72 0 T) (hm5 : m < T 0 3) (hn : n ≤ 20) (hp : p < 20)
    (n6 : ∀ j, j < n → (∃ m, m < T 0 3 ∧ hI hc 91 ((p + 20 - j) % 20) = nI m) ∧ (hI hc 92 ((p + 20 - j) % 20) = -nI 1 ∨ ∃ s, s < T 0 2 ∧ hI hc 92 ((p + 20 - j) % 20) = nI s))
    (n7 : ∀ j, j < n → (∀ i, i < T 0 2 → ∃ x, x ≤ 99 ∧ Xs hc p (j + 1) 0 i = nI x ∧ hI hm 149 (20 * (n - 1 - j) + i) = nI x) ∧ (∀ i, i < 5 → ∃ x, x < 2 ^ hB T i ∧ Xs hc p (j + 1) 1 i = nI x ∧ hI hm 149 (20 * (n - 1 - j) + 5 + i) = nI x) ∧ (∀ i, i < 5 → Xs hc p (j + 1) 2 i = hI hm 149 (20 * (n - 1 - j) + 10 + i) ∧ Xs hc p (j + 1) 3 i = hI hm 149 (20 * (n - 1 - j) + 15 + i)))
    (rc : RecC hc hc1 m ((p + 1) % 20) n y fv) (r1 : hI hm1 107 80 = nI (min (n + 1) 20)) (r2 : ∀ i, i < 5 → hI hm1 149 (20 * (min (n + 1) 20 - 1) + i) = hI hm 137 i ∧ hI hm1 149 (20 * (min (n + 1) 20 - 1) + 5 + i) = hI hm 139 i ∧ hI hm1 149 (20 * (min (n + 1) 20 - 1) + 10 + i) = hI hm 140 i ∧ hI hm1 149 (20 * (min (n + 1) 20 - 1) + 15 + i) = hI hm 141 i) (r3 : ∀ j i, j + 1 < min (n + 1) 20 → i < 20 → hI hm1 149 (20 * (min (n + 1) 20 - 1 - (j + 1)) + i) = hI hm 149 (20 * (n - 1 - j) + i))
    (hy : y = -nI 1 ∨ ∃ s, s < T 0 2 ∧ y = nI s ∧ fv = hI hc 73 s)
    (c2 : ∀ a i, 90 ≤ a ∧ a ≤ 96 → hI hc2 a i = hI hc1 a i) (c3 : ∀ r i, r < 4 → i < 5 → ¬ (r = 0 ∧ y = nI i) → ¬ (1 ≤ r ∧ i = m) → hI hc2 (73 + r) i = hI hc (73 + r) i) (m2 : hI hm2 107 80 = hI hm1 107 80) (m3 : ∀ i, hI hm2 149 i = hI hm1 149 i) : RU hc2 hm2 T := by
  have h5 := F.1.2.2.1
  have h5m := F.1.2.2.2.1
  obtain ⟨e0, e1, e2, e3, e4, e5, e6, e7, fr⟩ := rc
  have hq : (p + 1) % 20 < 20 := Nat.mod_lt _ (by decide)
  have old : ∀ a j, 91 ≤ a → a ≤ 96 → j < 19 → hI hc2 a ((p + 20 - j) % 20) = hI hc a ((p + 20 - j) % 20) := by
    intro a j h1 h2 h3
    rw [c2 _ _ (by omega), fr.1 _ _ (by omega)]
  have X0 : ∀ r i, r < 4 → i < 5 → Xs hc2 ((p + 1) % 20) 1 r i = hI hc (73 + r) i := by
    intro r i hr hi
    show unS hc2 (((p + 1) % 20 + 20 - 0) % 20) (fun r i => hI hc2 (73 + r) i) r i = _
    rw [show ((p + 1) % 20 + 20 - 0) % 20 = (p + 1) % 20 by omega]
    unfold unS
    rw [c2 92 _ (by omega), c2 96 _ (by omega), c2 91 _ (by omega), e3, e7, e2]
    by_cases q : r = 0
    · subst q
      rw [if_pos rfl]
      rcases hy with hy | ⟨s, hs, hy, hf⟩
      · rw [if_neg (by rw [hy]; exact of_eq_false (m1_ne (by omega)))]
        exact c3 0 i (by decide) hi (fun z => of_eq_false (m1_ne (n := i) (by omega)) (hy.symm.trans z.2)) (fun z => by omega)
      · by_cases qi : i = s
        · subst qi; rw [if_pos hy, hf]
        · have hne : ¬ y = nI i := fun z => qi (nI_inj (by omega) (by omega) (hy.symm.trans z)).symm
          rw [if_neg hne]
          exact c3 0 i (by decide) hi (fun z => hne z.2) (fun z => by omega)
    · rw [if_neg q, c2 (92 + r) _ (by omega)]
      by_cases qi : i = m
      · subst qi
        rw [if_pos rfl]
        have cr : r = 1 ∨ r = 2 ∨ r = 3 := by omega
        rcases cr with rfl | rfl | rfl
        · exact e4
        · exact e5
        · exact e6
      · rw [if_neg (fun z => qi (nI_inj (by omega) (by omega) z).symm)]
        exact c3 r i hr hi (fun z => q z.1) (fun z => qi z.2)
  have X : ∀ j, j ≤ 19 → ∀ r i, r < 4 → i < 5 → Xs hc2 ((p + 1) % 20) (j + 1) r i = Xs hc p j r i := by
    intro j
    induction j with
    | zero => intro _ r i hr hi; rw [X0 r i hr hi]; rfl
    | succ j ih =>
      intro hj r i hr hi
      show unS hc2 (((p + 1) % 20 + 20 - (j + 1)) % 20) (Xs hc2 ((p + 1) % 20) (j + 1)) r i = unS hc ((p + 20 - j) % 20) (Xs hc p j) r i
      rw [show ((p + 1) % 20 + 20 - (j + 1)) % 20 = (p + 20 - j) % 20 by omega]
      unfold unS
      rw [old 92 j (by omega) (by omega) (by omega), old 96 j (by omega) (by omega) (by omega), old 91 j (by omega) (by omega) (by omega), old (92 + r) j (by omega) (by omega) (by omega), ih (by omega) 0 i (by decide) hi, ih (by omega) r i hr hi]
  obtain ⟨w1, w2, w3, w4, w5, -, -, -⟩ := w
  refine ⟨min (n + 1) 20, (p + 1) % 20, Nat.min_le_right _ _, hq, ?_, ?_, ?_, ?_, ?_⟩
  · rw [c2 _ _ (by omega)]; exact e0
  · rw [c2 _ _ (by omega)]; exact e1
  · rw [m2]; exact r1
  · intro j hj
    rcases j with _ | j
    · rw [show ((p + 1) % 20 + 20 - 0) % 20 = (p + 1) % 20 by omega, c2 91 _ (by omega), c2 92 _ (by omega), e2, e3]
      refine ⟨⟨m, hm5, rfl⟩, ?_⟩
      rcases hy with hy | ⟨s, hs, hy, -⟩
      · exact Or.inl hy
      · exact Or.inr ⟨s, hs, hy⟩
    · rw [show ((p + 1) % 20 + 20 - (j + 1)) % 20 = (p + 20 - j) % 20 by omega, old 91 j (by omega) (by omega) (by omega), old 92 j (by omega) (by omega) (by omega)]
      exact n6 j (by omega)
  · intro j hj
    rcases j with _ | j
    · refine ⟨fun i hi => ?_, fun i hi => ?_, fun i hi => ?_⟩
      · obtain ⟨x, x1, x2, x3⟩ := w2 i hi
        rw [show 5 * 0 + i = i by omega] at x3
        exact ⟨x, x1, by rw [X0 0 i (by decide) (by omega)]; exact x2, by rw [m3, Nat.sub_zero, (r2 i (by omega)).1]; exact x3⟩
      · obtain ⟨x, x1, x2, x3⟩ := w4 i hi
        rw [show 5 * 0 + i = i by omega] at x3
        exact ⟨x, x1, by rw [X0 1 i (by decide) hi]; exact x2, by rw [m3, Nat.sub_zero, (r2 i hi).2.1]; exact x3⟩
      · obtain ⟨x2, x3⟩ := w5 i hi
        rw [show 5 * 0 + i = i by omega] at x2 x3
        exact ⟨by rw [X0 2 i (by decide) hi, m3, Nat.sub_zero, (r2 i hi).2.2.1]; exact x2, by rw [X0 3 i (by decide) hi, m3, Nat.sub_zero, (r2 i hi).2.2.2]; exact x3⟩
    · obtain ⟨b1, b2, b3⟩ := n7 j (by omega)
      refine ⟨fun i hi => ?_, fun i hi => ?_, fun i hi => ?_⟩
      · rw [X (j + 1) (by omega) 0 i (by decide) (by omega), m3, r3 j i hj (by omega)]; exact b1 i hi
      · rw [X (j + 1) (by omega) 1 i (by decide) hi, m3, Nat.add_assoc, r3 j (5 + i) hj (by omega), ← Nat.add_assoc]; exact b2 i hi
      · rw [X (j + 1) (by omega) 2 i (by decide) hi, X (j + 1) (by omega) 3 i (by decide) hi, m3, m3, Nat.add_assoc, Nat.add_assoc, r3 j (10 + i) hj (by omega), r3 j (15 + i) hj (by omega), ← Nat.add_assoc, ← Nat.add_assoc]; exact b3 i hi
end V
