/-! text: what is told grows (printed by gen_grow.py). -/
theorem RSc9_lo {h h' : Hp} {X : Nat} {T U : Tx} (s : ∀ w, w < 3 → hR h (X + 24) w = some (X + 25 + 3 * w) ∧ hI h (X + 25 + 3 * w) 0 = nI (T 16 w) ∧ (T 16 w = 1 → hI h (X + 25 + 3 * w) 1 = nI (T 17 w) ∧ ∀ j, j < T 17 w → hI h (X + 26 + 3 * w) j = nI (T (18 + w) j))) (e : ∀ a i, X + 25 ≤ a → hI h' a i = hI h a i) (er : ∀ a i, hR h' a i = hR h a i) (u : ∀ r, 16 ≤ r → U r = T r) : ∀ w, w < 3 → hR h' (X + 24) w = some (X + 25 + 3 * w) ∧ hI h' (X + 25 + 3 * w) 0 = nI (U 16 w) ∧ (U 16 w = 1 → hI h' (X + 25 + 3 * w) 1 = nI (U 17 w) ∧ ∀ j, j < U 17 w → hI h' (X + 26 + 3 * w) j = nI (U (18 + w) j)) := by
  intro w hw
  rw [er, e _ _ (by omega), e _ _ (by omega), u 16 (by decide), u 17 (by decide), u (18 + w) (by omega)]
  refine ⟨(s w hw).1, (s w hw).2.1, fun ht => ⟨((s w hw).2.2 ht).1, fun j hj => ?_⟩⟩
  rw [e _ _ (by omega)]
  exact ((s w hw).2.2 ht).2 j hj
theorem RSm9_lo {h h' : Hp} {T U : Tx} (s : ∀ w, w < 3 → hI h 127 w = nI (T 16 w) ∧ (T 16 w = 1 → ∃ f, hI h 128 w = nI f ∧ hI h 129 w = nI (f + T 17 w) ∧ f + T 17 w ≤ 64 ∧ MLk h f (T (18 + w)) (T 17 w))) (e : ∀ a i, 127 ≤ a → hI h' a i = hI h a i) (u : ∀ r, 16 ≤ r → U r = T r) : ∀ w, w < 3 → hI h' 127 w = nI (U 16 w) ∧ (U 16 w = 1 → ∃ f, hI h' 128 w = nI f ∧ hI h' 129 w = nI (f + U 17 w) ∧ f + U 17 w ≤ 64 ∧ MLk h' f (U (18 + w)) (U 17 w)) := by
  intro w hw
  rw [e _ _ (by omega), e _ _ (by omega), e _ _ (by omega), u 16 (by decide), u 17 (by decide), u (18 + w) (by omega)]
  refine ⟨(s w hw).1, fun ht => ?_⟩
  obtain ⟨f, d1, d2, d3, d4⟩ := (s w hw).2 ht
  exact ⟨f, d1, d2, d3, MLk_ext d4 (fun a i h1 h2 => e a i (by omega))⟩
theorem hup_107 {h : Hp} {j : Nat} {v : Int32} {a i : Nat} : hI (hup (uI h 107 j v)) a i = if a = 107 ∧ i + 7 = j then v else hI (hup h) a i := by
  rw [hup_I, hup_I]
  by_cases q : a = 107
  · rw [if_pos q, if_pos q, hI_uI]
    by_cases z : i + 7 = j
    · rw [if_pos ⟨rfl, z⟩, if_pos ⟨q, z⟩]
    · rw [if_neg (fun y => z y.2), if_neg (fun y => z y.2)]
  · rw [if_neg q, if_neg q, if_neg (fun y => q y.1), hI_ne (fun y => q y.1)]
theorem RSc_cl {h h' : Hp} {X N v1 v2 v3 : Nat} {T U : Tx} (R : RSc h X T) (hN : T 0 0 = N) (u0 : ∀ k, k ≠ 0 → U 0 k = T 0 k) (u0c : U 0 0 = N + 1) (u1 : ∀ i, i ≠ N → U 1 i = T 1 i) (u1N : U 1 N = v1) (u2 : ∀ i, i ≠ N → U 2 i = T 2 i) (u2N : U 2 N = v2) (u3 : ∀ i, i ≠ N → U 3 i = T 3 i) (u3N : U 3 N = v3) (ur : ∀ r, r ≠ 0 → r ≠ 1 → r ≠ 2 → r ≠ 3 → U r = T r) (e : ∀ a i, ¬ ((a = (X + 3) ∧ i = N) ∨ (a = (X + 4) ∧ i = N) ∨ (a = (X + 5) ∧ i = N) ∨ (a = (X + 2) ∧ i = 2)) → hI h' a i = hI h a i) (er : ∀ a i, hR h' a i = hR h a i) (vc : hI h' (X + 2) 2 = nI (N + 1)) (w1 : hI h' (X + 3) N = nI v1) (w2 : hI h' (X + 4) N = nI v2) (w3 : hI h' (X + 5) N = nI v3) : RSc h' X U := by
  obtain ⟨⟨n0, n1, n2, n3, n4, n5, n6, n7, n8⟩, a2, a3, a4, a5, a6, a7, a8, a9⟩ := R
  refine ⟨⟨?_, ?_, ?_, ?_, ?_, ?_, ?_, ?_, ?_⟩, ?_, ?_, ?_, ?_, ?_, ?_, ?_, ?_⟩
  · rw [u0c]; exact vc
  · rw [e _ _ (by omega), u0 1 (by decide)]; exact n1
  · rw [e _ _ (by omega), u0 2 (by decide)]; exact n2
  · rw [e _ _ (by omega), u0 3 (by decide)]; exact n3
  · rw [e _ _ (by omega), u0 4 (by decide)]; exact n4
  · rw [e _ _ (by omega), u0 5 (by decide)]; exact n5
  · rw [e _ _ (by omega), u0 6 (by decide)]; exact n6
  · rw [e _ _ (by omega), u0 7 (by decide)]; exact n7
  · rw [e _ _ (by omega), u0 8 (by decide)]; exact n8
  · intro i hi
    rw [u0c] at hi
    by_cases z : i = N
    · subst z
      rw [u1N, u2N, u3N]
      exact ⟨w1, w2, w3⟩
    · rw [u1 i z, u2 i z, u3 i z, e _ _ (by omega), e _ _ (by omega), e _ _ (by omega)]
      exact a2 i (by omega)
  · intro i hi
    unfold hitsT foesT
    rw [e _ _ (by omega), e _ _ (by omega), u0 1 (by decide), ur 4 (by decide) (by decide) (by decide) (by decide), ur 5 (by decide) (by decide) (by decide) (by decide)]
    exact a3 i hi
  · intro i hi
    rw [u0 1 (by decide)] at hi
    rw [e _ _ (by omega), e _ _ (by omega), ur 4 (by decide) (by decide) (by decide) (by decide), ur 5 (by decide) (by decide) (by decide) (by decide)]
    exact a4 i hi
  · intro i hi
    rw [u0 2 (by decide)] at hi
    rw [e _ _ (by omega), e _ _ (by omega), e _ _ (by omega), ur 6 (by decide) (by decide) (by decide) (by decide), ur 7 (by decide) (by decide) (by decide) (by decide), ur 8 (by decide) (by decide) (by decide) (by decide)]
    exact a5 i hi
  · intro i hi
    rw [u0 3 (by decide)] at hi
    rw [e _ _ (by omega), e _ _ (by omega), ur 9 (by decide) (by decide) (by decide) (by decide), ur 10 (by decide) (by decide) (by decide) (by decide)]
    exact a6 i hi
  · intro i hi
    rw [u0 4 (by decide)] at hi
    rw [e _ _ (by omega), e _ _ (by omega), e _ _ (by omega), ur 11 (by decide) (by decide) (by decide) (by decide), ur 12 (by decide) (by decide) (by decide) (by decide), ur 13 (by decide) (by decide) (by decide) (by decide)]
    exact a7 i hi
  · intro i hi
    rw [u0 5 (by decide)] at hi
    rw [e _ _ (by omega), e _ _ (by omega), ur 14 (by decide) (by decide) (by decide) (by decide), ur 15 (by decide) (by decide) (by decide) (by decide)]
    exact a8 i hi
  · exact RSc9_lo a9 (fun a i q => e _ _ (by omega)) er (fun r q => ur r (by omega) (by omega) (by omega) (by omega))
theorem RSm_cl {h h' : Hp} {N v1 v2 v3 : Nat} {T U : Tx} (R : RSm h T) (hN : T 0 0 = N) (u0 : ∀ k, k ≠ 0 → U 0 k = T 0 k) (u0c : U 0 0 = N + 1) (u1 : ∀ i, i ≠ N → U 1 i = T 1 i) (u1N : U 1 N = v1) (u2 : ∀ i, i ≠ N → U 2 i = T 2 i) (u2N : U 2 N = v2) (u3 : ∀ i, i ≠ N → U 3 i = T 3 i) (u3N : U 3 N = v3) (ur : ∀ r, r ≠ 0 → r ≠ 1 → r ≠ 2 → r ≠ 3 → U r = T r) (e : ∀ a i, ¬ (a = 107 ∧ i = 12) → hI h' a i = hI h a i) (vc : hI h' 107 12 = nI (N + 1)) (w1 : hI h 112 N = nI v1) (w2 : hI h 113 N = nI v2) (w3 : hI h 114 N = nI v3) : RSm h' U := by
  obtain ⟨⟨n0, n1, n2, n3, n4, n5, n6, n7, n8⟩, a2, a3, a4, a5, a6, a7, a8, a9⟩ := R
  refine ⟨⟨?_, ?_, ?_, ?_, ?_, ?_, ?_, ?_, ?_⟩, ?_, ?_, ?_, ?_, ?_, ?_, ?_, ?_⟩
  · rw [u0c]; exact vc
  · rw [e _ _ (by omega), u0 1 (by decide)]; exact n1
  · rw [e _ _ (by omega), u0 2 (by decide)]; exact n2
  · rw [e _ _ (by omega), u0 3 (by decide)]; exact n3
  · rw [e _ _ (by omega), u0 4 (by decide)]; exact n4
  · rw [e _ _ (by omega), u0 5 (by decide)]; exact n5
  · rw [e _ _ (by omega), u0 6 (by decide)]; exact n6
  · rw [e _ _ (by omega), u0 7 (by decide)]; exact n7
  · rw [e _ _ (by omega), u0 8 (by decide)]; exact n8
  · intro i hi
    rw [u0c] at hi
    by_cases z : i = N
    · subst z
      rw [u1N, u2N, u3N, e _ _ (by omega), e _ _ (by omega), e _ _ (by omega)]
      exact ⟨w1, w2, w3⟩
    · rw [u1 i z, u2 i z, u3 i z, e _ _ (by omega), e _ _ (by omega), e _ _ (by omega)]
      exact a2 i (by omega)
  · intro i hi
    rw [u0 1 (by decide)] at hi
    rw [e _ _ (by omega), e _ _ (by omega), ur 4 (by decide) (by decide) (by decide) (by decide), ur 5 (by decide) (by decide) (by decide) (by decide)]
    exact a3 i hi
  · intro i hi
    rw [u0 2 (by decide)] at hi
    rw [e _ _ (by omega), e _ _ (by omega), e _ _ (by omega), ur 6 (by decide) (by decide) (by decide) (by decide), ur 7 (by decide) (by decide) (by decide) (by decide), ur 8 (by decide) (by decide) (by decide) (by decide)]
    exact a4 i hi
  · intro i hi
    rw [u0 3 (by decide)] at hi
    rw [e _ _ (by omega), ur 9 (by decide) (by decide) (by decide) (by decide)]
    exact a5 i hi
  · intro i hi
    rw [e _ _ (by omega), ur 10 (by decide) (by decide) (by decide) (by decide)]
    exact a6 i hi
  · intro i hi
    rw [u0 4 (by decide)] at hi
    rw [e _ _ (by omega), e _ _ (by omega), e _ _ (by omega), ur 11 (by decide) (by decide) (by decide) (by decide), ur 12 (by decide) (by decide) (by decide) (by decide), ur 13 (by decide) (by decide) (by decide) (by decide)]
    exact a7 i hi
  · intro i hi
    rw [u0 5 (by decide)] at hi
    rw [e _ _ (by omega), e _ _ (by omega), ur 14 (by decide) (by decide) (by decide) (by decide), ur 15 (by decide) (by decide) (by decide) (by decide)]
    exact a8 i hi
  · exact RSm9_lo a9 (fun a i q => e _ _ (by omega)) (fun r q => ur r (by omega) (by omega) (by omega) (by omega))
theorem RSc_co {h h' : Hp} {X N v4 v5 : Nat} {T U : Tx} (R : RSc h X T) (hN : T 0 1 = N) (u0 : ∀ k, k ≠ 1 → U 0 k = T 0 k) (u0c : U 0 1 = N + 1) (u4 : ∀ i, i ≠ N → U 4 i = T 4 i) (u4N : U 4 N = v4) (u5 : ∀ i, i ≠ N → U 5 i = T 5 i) (u5N : U 5 N = v5) (ur : ∀ r, r ≠ 0 → r ≠ 4 → r ≠ 5 → U r = T r) (e : ∀ a i, ¬ ((a = (X + 8) ∧ i = N) ∨ (a = (X + 9) ∧ i = N) ∨ (a = (X + 1) ∧ i = 5) ∨ a = X + 6 ∨ a = X + 7) → hI h' a i = hI h a i) (er : ∀ a i, hR h' a i = hR h a i) (vc : hI h' (X + 1) 5 = nI (N + 1)) (w4 : hI h' (X + 8) N = nI v4) (w5 : hI h' (X + 9) N = nI v5) (w6 : ∀ i, i < 8 → hI h' (X + 6) i = nI (hitsT U i) ∧ hI h' (X + 7) i = nI (foesT U i)) : RSc h' X U := by
  obtain ⟨⟨n0, n1, n2, n3, n4, n5, n6, n7, n8⟩, a2, a3, a4, a5, a6, a7, a8, a9⟩ := R
  refine ⟨⟨?_, ?_, ?_, ?_, ?_, ?_, ?_, ?_, ?_⟩, ?_, ?_, ?_, ?_, ?_, ?_, ?_, ?_⟩
  · rw [e _ _ (by omega), u0 0 (by decide)]; exact n0
  · rw [u0c]; exact vc
  · rw [e _ _ (by omega), u0 2 (by decide)]; exact n2
  · rw [e _ _ (by omega), u0 3 (by decide)]; exact n3
  · rw [e _ _ (by omega), u0 4 (by decide)]; exact n4
  · rw [e _ _ (by omega), u0 5 (by decide)]; exact n5
  · rw [e _ _ (by omega), u0 6 (by decide)]; exact n6
  · rw [e _ _ (by omega), u0 7 (by decide)]; exact n7
  · rw [e _ _ (by omega), u0 8 (by decide)]; exact n8
  · intro i hi
    rw [u0 0 (by decide)] at hi
    rw [e _ _ (by omega), e _ _ (by omega), e _ _ (by omega), ur 1 (by decide) (by decide) (by decide), ur 2 (by decide) (by decide) (by decide), ur 3 (by decide) (by decide) (by decide)]
    exact a2 i hi
  · exact w6
  · intro i hi
    rw [u0c] at hi
    by_cases z : i = N
    · subst z
      rw [u4N, u5N]
      exact ⟨w4, w5⟩
    · rw [u4 i z, u5 i z, e _ _ (by omega), e _ _ (by omega)]
      exact a4 i (by omega)
  · intro i hi
    rw [u0 2 (by decide)] at hi
    rw [e _ _ (by omega), e _ _ (by omega), e _ _ (by omega), ur 6 (by decide) (by decide) (by decide), ur 7 (by decide) (by decide) (by decide), ur 8 (by decide) (by decide) (by decide)]
    exact a5 i hi
  · intro i hi
    rw [u0 3 (by decide)] at hi
    rw [e _ _ (by omega), e _ _ (by omega), ur 9 (by decide) (by decide) (by decide), ur 10 (by decide) (by decide) (by decide)]
    exact a6 i hi
  · intro i hi
    rw [u0 4 (by decide)] at hi
    rw [e _ _ (by omega), e _ _ (by omega), e _ _ (by omega), ur 11 (by decide) (by decide) (by decide), ur 12 (by decide) (by decide) (by decide), ur 13 (by decide) (by decide) (by decide)]
    exact a7 i hi
  · intro i hi
    rw [u0 5 (by decide)] at hi
    rw [e _ _ (by omega), e _ _ (by omega), ur 14 (by decide) (by decide) (by decide), ur 15 (by decide) (by decide) (by decide)]
    exact a8 i hi
  · exact RSc9_lo a9 (fun a i q => e _ _ (by omega)) er (fun r q => ur r (by omega) (by omega) (by omega))
theorem RSm_co {h h' : Hp} {N v4 v5 : Nat} {T U : Tx} (R : RSm h T) (hN : T 0 1 = N) (u0 : ∀ k, k ≠ 1 → U 0 k = T 0 k) (u0c : U 0 1 = N + 1) (u4 : ∀ i, i ≠ N → U 4 i = T 4 i) (u4N : U 4 N = v4) (u5 : ∀ i, i ≠ N → U 5 i = T 5 i) (u5N : U 5 N = v5) (ur : ∀ r, r ≠ 0 → r ≠ 4 → r ≠ 5 → U r = T r) (e : ∀ a i, ¬ (a = 107 ∧ i = 13) → hI h' a i = hI h a i) (vc : hI h' 107 13 = nI (N + 1)) (w4 : hI h 115 N = nI v4) (w5 : hI h 116 N = nI v5) : RSm h' U := by
  obtain ⟨⟨n0, n1, n2, n3, n4, n5, n6, n7, n8⟩, a2, a3, a4, a5, a6, a7, a8, a9⟩ := R
  refine ⟨⟨?_, ?_, ?_, ?_, ?_, ?_, ?_, ?_, ?_⟩, ?_, ?_, ?_, ?_, ?_, ?_, ?_, ?_⟩
  · rw [e _ _ (by omega), u0 0 (by decide)]; exact n0
  · rw [u0c]; exact vc
  · rw [e _ _ (by omega), u0 2 (by decide)]; exact n2
  · rw [e _ _ (by omega), u0 3 (by decide)]; exact n3
  · rw [e _ _ (by omega), u0 4 (by decide)]; exact n4
  · rw [e _ _ (by omega), u0 5 (by decide)]; exact n5
  · rw [e _ _ (by omega), u0 6 (by decide)]; exact n6
  · rw [e _ _ (by omega), u0 7 (by decide)]; exact n7
  · rw [e _ _ (by omega), u0 8 (by decide)]; exact n8
  · intro i hi
    rw [u0 0 (by decide)] at hi
    rw [e _ _ (by omega), e _ _ (by omega), e _ _ (by omega), ur 1 (by decide) (by decide) (by decide), ur 2 (by decide) (by decide) (by decide), ur 3 (by decide) (by decide) (by decide)]
    exact a2 i hi
  · intro i hi
    rw [u0c] at hi
    by_cases z : i = N
    · subst z
      rw [u4N, u5N, e _ _ (by omega), e _ _ (by omega)]
      exact ⟨w4, w5⟩
    · rw [u4 i z, u5 i z, e _ _ (by omega), e _ _ (by omega)]
      exact a3 i (by omega)
  · intro i hi
    rw [u0 2 (by decide)] at hi
    rw [e _ _ (by omega), e _ _ (by omega), e _ _ (by omega), ur 6 (by decide) (by decide) (by decide), ur 7 (by decide) (by decide) (by decide), ur 8 (by decide) (by decide) (by decide)]
    exact a4 i hi
  · intro i hi
    rw [u0 3 (by decide)] at hi
    rw [e _ _ (by omega), ur 9 (by decide) (by decide) (by decide)]
    exact a5 i hi
  · intro i hi
    rw [e _ _ (by omega), ur 10 (by decide) (by decide) (by decide)]
    exact a6 i hi
  · intro i hi
    rw [u0 4 (by decide)] at hi
    rw [e _ _ (by omega), e _ _ (by omega), e _ _ (by omega), ur 11 (by decide) (by decide) (by decide), ur 12 (by decide) (by decide) (by decide), ur 13 (by decide) (by decide) (by decide)]
    exact a7 i hi
  · intro i hi
    rw [u0 5 (by decide)] at hi
    rw [e _ _ (by omega), e _ _ (by omega), ur 14 (by decide) (by decide) (by decide), ur 15 (by decide) (by decide) (by decide)]
    exact a8 i hi
  · exact RSm9_lo a9 (fun a i q => e _ _ (by omega)) (fun r q => ur r (by omega) (by omega) (by omega))
theorem RSc_st {h h' : Hp} {X N v6 v7 v8 : Nat} {T U : Tx} (R : RSc h X T) (hN : T 0 2 = N) (u0 : ∀ k, k ≠ 2 → U 0 k = T 0 k) (u0c : U 0 2 = N + 1) (u6 : ∀ i, i ≠ N → U 6 i = T 6 i) (u6N : U 6 N = v6) (u7 : ∀ i, i ≠ N → U 7 i = T 7 i) (u7N : U 7 N = v7) (u8 : ∀ i, i ≠ N → U 8 i = T 8 i) (u8N : U 8 N = v8) (ur : ∀ r, r ≠ 0 → r ≠ 6 → r ≠ 7 → r ≠ 8 → U r = T r) (e : ∀ a i, ¬ ((a = (X + 13) ∧ i = N) ∨ (a = (X + 14) ∧ i = N) ∨ (a = (X + 15) ∧ i = N) ∨ (a = (X + 12) ∧ i = 2)) → hI h' a i = hI h a i) (er : ∀ a i, hR h' a i = hR h a i) (vc : hI h' (X + 12) 2 = nI (N + 1)) (w6 : hI h' (X + 13) N = nI v6) (w7 : hI h' (X + 14) N = nI v7) (w8 : hI h' (X + 15) N = nI v8) : RSc h' X U := by
  obtain ⟨⟨n0, n1, n2, n3, n4, n5, n6, n7, n8⟩, a2, a3, a4, a5, a6, a7, a8, a9⟩ := R
  refine ⟨⟨?_, ?_, ?_, ?_, ?_, ?_, ?_, ?_, ?_⟩, ?_, ?_, ?_, ?_, ?_, ?_, ?_, ?_⟩
  · rw [e _ _ (by omega), u0 0 (by decide)]; exact n0
  · rw [e _ _ (by omega), u0 1 (by decide)]; exact n1
  · rw [u0c]; exact vc
  · rw [e _ _ (by omega), u0 3 (by decide)]; exact n3
  · rw [e _ _ (by omega), u0 4 (by decide)]; exact n4
  · rw [e _ _ (by omega), u0 5 (by decide)]; exact n5
  · rw [e _ _ (by omega), u0 6 (by decide)]; exact n6
  · rw [e _ _ (by omega), u0 7 (by decide)]; exact n7
  · rw [e _ _ (by omega), u0 8 (by decide)]; exact n8
  · intro i hi
    rw [u0 0 (by decide)] at hi
    rw [e _ _ (by omega), e _ _ (by omega), e _ _ (by omega), ur 1 (by decide) (by decide) (by decide) (by decide), ur 2 (by decide) (by decide) (by decide) (by decide), ur 3 (by decide) (by decide) (by decide) (by decide)]
    exact a2 i hi
  · intro i hi
    unfold hitsT foesT
    rw [e _ _ (by omega), e _ _ (by omega), u0 1 (by decide), ur 4 (by decide) (by decide) (by decide) (by decide), ur 5 (by decide) (by decide) (by decide) (by decide)]
    exact a3 i hi
  · intro i hi
    rw [u0 1 (by decide)] at hi
    rw [e _ _ (by omega), e _ _ (by omega), ur 4 (by decide) (by decide) (by decide) (by decide), ur 5 (by decide) (by decide) (by decide) (by decide)]
    exact a4 i hi
  · intro i hi
    rw [u0c] at hi
    by_cases z : i = N
    · subst z
      rw [u6N, u7N, u8N]
      exact ⟨w6, w7, w8⟩
    · rw [u6 i z, u7 i z, u8 i z, e _ _ (by omega), e _ _ (by omega), e _ _ (by omega)]
      exact a5 i (by omega)
  · intro i hi
    rw [u0 3 (by decide)] at hi
    rw [e _ _ (by omega), e _ _ (by omega), ur 9 (by decide) (by decide) (by decide) (by decide), ur 10 (by decide) (by decide) (by decide) (by decide)]
    exact a6 i hi
  · intro i hi
    rw [u0 4 (by decide)] at hi
    rw [e _ _ (by omega), e _ _ (by omega), e _ _ (by omega), ur 11 (by decide) (by decide) (by decide) (by decide), ur 12 (by decide) (by decide) (by decide) (by decide), ur 13 (by decide) (by decide) (by decide) (by decide)]
    exact a7 i hi
  · intro i hi
    rw [u0 5 (by decide)] at hi
    rw [e _ _ (by omega), e _ _ (by omega), ur 14 (by decide) (by decide) (by decide) (by decide), ur 15 (by decide) (by decide) (by decide) (by decide)]
    exact a8 i hi
  · exact RSc9_lo a9 (fun a i q => e _ _ (by omega)) er (fun r q => ur r (by omega) (by omega) (by omega) (by omega))
theorem RSm_st {h h' : Hp} {N v6 v7 v8 : Nat} {T U : Tx} (R : RSm h T) (hN : T 0 2 = N) (u0 : ∀ k, k ≠ 2 → U 0 k = T 0 k) (u0c : U 0 2 = N + 1) (u6 : ∀ i, i ≠ N → U 6 i = T 6 i) (u6N : U 6 N = v6) (u7 : ∀ i, i ≠ N → U 7 i = T 7 i) (u7N : U 7 N = v7) (u8 : ∀ i, i ≠ N → U 8 i = T 8 i) (u8N : U 8 N = v8) (ur : ∀ r, r ≠ 0 → r ≠ 6 → r ≠ 7 → r ≠ 8 → U r = T r) (e : ∀ a i, ¬ (a = 107 ∧ i = 14) → hI h' a i = hI h a i) (vc : hI h' 107 14 = nI (N + 1)) (w6 : hI h 117 N = nI v6) (w7 : hI h 118 N = nI v7) (w8 : hI h 119 N = nI v8) : RSm h' U := by
  obtain ⟨⟨n0, n1, n2, n3, n4, n5, n6, n7, n8⟩, a2, a3, a4, a5, a6, a7, a8, a9⟩ := R
  refine ⟨⟨?_, ?_, ?_, ?_, ?_, ?_, ?_, ?_, ?_⟩, ?_, ?_, ?_, ?_, ?_, ?_, ?_, ?_⟩
  · rw [e _ _ (by omega), u0 0 (by decide)]; exact n0
  · rw [e _ _ (by omega), u0 1 (by decide)]; exact n1
  · rw [u0c]; exact vc
  · rw [e _ _ (by omega), u0 3 (by decide)]; exact n3
  · rw [e _ _ (by omega), u0 4 (by decide)]; exact n4
  · rw [e _ _ (by omega), u0 5 (by decide)]; exact n5
  · rw [e _ _ (by omega), u0 6 (by decide)]; exact n6
  · rw [e _ _ (by omega), u0 7 (by decide)]; exact n7
  · rw [e _ _ (by omega), u0 8 (by decide)]; exact n8
  · intro i hi
    rw [u0 0 (by decide)] at hi
    rw [e _ _ (by omega), e _ _ (by omega), e _ _ (by omega), ur 1 (by decide) (by decide) (by decide) (by decide), ur 2 (by decide) (by decide) (by decide) (by decide), ur 3 (by decide) (by decide) (by decide) (by decide)]
    exact a2 i hi
  · intro i hi
    rw [u0 1 (by decide)] at hi
    rw [e _ _ (by omega), e _ _ (by omega), ur 4 (by decide) (by decide) (by decide) (by decide), ur 5 (by decide) (by decide) (by decide) (by decide)]
    exact a3 i hi
  · intro i hi
    rw [u0c] at hi
    by_cases z : i = N
    · subst z
      rw [u6N, u7N, u8N, e _ _ (by omega), e _ _ (by omega), e _ _ (by omega)]
      exact ⟨w6, w7, w8⟩
    · rw [u6 i z, u7 i z, u8 i z, e _ _ (by omega), e _ _ (by omega), e _ _ (by omega)]
      exact a4 i (by omega)
  · intro i hi
    rw [u0 3 (by decide)] at hi
    rw [e _ _ (by omega), ur 9 (by decide) (by decide) (by decide) (by decide)]
    exact a5 i hi
  · intro i hi
    rw [e _ _ (by omega), ur 10 (by decide) (by decide) (by decide) (by decide)]
    exact a6 i hi
  · intro i hi
    rw [u0 4 (by decide)] at hi
    rw [e _ _ (by omega), e _ _ (by omega), e _ _ (by omega), ur 11 (by decide) (by decide) (by decide) (by decide), ur 12 (by decide) (by decide) (by decide) (by decide), ur 13 (by decide) (by decide) (by decide) (by decide)]
    exact a7 i hi
  · intro i hi
    rw [u0 5 (by decide)] at hi
    rw [e _ _ (by omega), e _ _ (by omega), ur 14 (by decide) (by decide) (by decide) (by decide), ur 15 (by decide) (by decide) (by decide) (by decide)]
    exact a8 i hi
  · exact RSm9_lo a9 (fun a i q => e _ _ (by omega)) (fun r q => ur r (by omega) (by omega) (by omega) (by omega))
theorem RSc_me {h h' : Hp} {X N v9 v10 : Nat} {T U : Tx} (R : RSc h X T) (hN : T 0 3 = N) (u0 : ∀ k, k ≠ 3 → U 0 k = T 0 k) (u0c : U 0 3 = N + 1) (u9 : ∀ i, i ≠ N → U 9 i = T 9 i) (u9N : U 9 N = v9) (u10 : ∀ i, i ≠ N → U 10 i = T 10 i) (u10N : U 10 N = v10) (ur : ∀ r, r ≠ 0 → r ≠ 9 → r ≠ 10 → U r = T r) (e : ∀ a i, ¬ ((a = (X + 17) ∧ i = N) ∨ (a = (X + 18) ∧ i = N) ∨ (a = (X + 16) ∧ i = 2)) → hI h' a i = hI h a i) (er : ∀ a i, hR h' a i = hR h a i) (vc : hI h' (X + 16) 2 = nI (N + 1)) (w9 : hI h' (X + 17) N = nI v9) (w10 : hI h' (X + 18) N = nI v10) : RSc h' X U := by
  obtain ⟨⟨n0, n1, n2, n3, n4, n5, n6, n7, n8⟩, a2, a3, a4, a5, a6, a7, a8, a9⟩ := R
  refine ⟨⟨?_, ?_, ?_, ?_, ?_, ?_, ?_, ?_, ?_⟩, ?_, ?_, ?_, ?_, ?_, ?_, ?_, ?_⟩
  · rw [e _ _ (by omega), u0 0 (by decide)]; exact n0
  · rw [e _ _ (by omega), u0 1 (by decide)]; exact n1
  · rw [e _ _ (by omega), u0 2 (by decide)]; exact n2
  · rw [u0c]; exact vc
  · rw [e _ _ (by omega), u0 4 (by decide)]; exact n4
  · rw [e _ _ (by omega), u0 5 (by decide)]; exact n5
  · rw [e _ _ (by omega), u0 6 (by decide)]; exact n6
  · rw [e _ _ (by omega), u0 7 (by decide)]; exact n7
  · rw [e _ _ (by omega), u0 8 (by decide)]; exact n8
  · intro i hi
    rw [u0 0 (by decide)] at hi
    rw [e _ _ (by omega), e _ _ (by omega), e _ _ (by omega), ur 1 (by decide) (by decide) (by decide), ur 2 (by decide) (by decide) (by decide), ur 3 (by decide) (by decide) (by decide)]
    exact a2 i hi
  · intro i hi
    unfold hitsT foesT
    rw [e _ _ (by omega), e _ _ (by omega), u0 1 (by decide), ur 4 (by decide) (by decide) (by decide), ur 5 (by decide) (by decide) (by decide)]
    exact a3 i hi
  · intro i hi
    rw [u0 1 (by decide)] at hi
    rw [e _ _ (by omega), e _ _ (by omega), ur 4 (by decide) (by decide) (by decide), ur 5 (by decide) (by decide) (by decide)]
    exact a4 i hi
  · intro i hi
    rw [u0 2 (by decide)] at hi
    rw [e _ _ (by omega), e _ _ (by omega), e _ _ (by omega), ur 6 (by decide) (by decide) (by decide), ur 7 (by decide) (by decide) (by decide), ur 8 (by decide) (by decide) (by decide)]
    exact a5 i hi
  · intro i hi
    rw [u0c] at hi
    by_cases z : i = N
    · subst z
      rw [u9N, u10N]
      exact ⟨w9, w10⟩
    · rw [u9 i z, u10 i z, e _ _ (by omega), e _ _ (by omega)]
      exact a6 i (by omega)
  · intro i hi
    rw [u0 4 (by decide)] at hi
    rw [e _ _ (by omega), e _ _ (by omega), e _ _ (by omega), ur 11 (by decide) (by decide) (by decide), ur 12 (by decide) (by decide) (by decide), ur 13 (by decide) (by decide) (by decide)]
    exact a7 i hi
  · intro i hi
    rw [u0 5 (by decide)] at hi
    rw [e _ _ (by omega), e _ _ (by omega), ur 14 (by decide) (by decide) (by decide), ur 15 (by decide) (by decide) (by decide)]
    exact a8 i hi
  · exact RSc9_lo a9 (fun a i q => e _ _ (by omega)) er (fun r q => ur r (by omega) (by omega) (by omega))
theorem RSm_me {h h' : Hp} {N v9 v10 : Nat} {T U : Tx} (R : RSm h T) (hN : T 0 3 = N) (u0 : ∀ k, k ≠ 3 → U 0 k = T 0 k) (u0c : U 0 3 = N + 1) (u9 : ∀ i, i ≠ N → U 9 i = T 9 i) (u9N : U 9 N = v9) (u10 : ∀ i, i ≠ N → U 10 i = T 10 i) (u10N : U 10 N = v10) (ur : ∀ r, r ≠ 0 → r ≠ 9 → r ≠ 10 → U r = T r) (e : ∀ a i, ¬ (a = 107 ∧ i = 15) → hI h' a i = hI h a i) (vc : hI h' 107 15 = nI (N + 1)) (w9 : hI h 120 N = nI v9) (w10 : hI h 121 N = nI v10) : RSm h' U := by
  obtain ⟨⟨n0, n1, n2, n3, n4, n5, n6, n7, n8⟩, a2, a3, a4, a5, a6, a7, a8, a9⟩ := R
  refine ⟨⟨?_, ?_, ?_, ?_, ?_, ?_, ?_, ?_, ?_⟩, ?_, ?_, ?_, ?_, ?_, ?_, ?_, ?_⟩
  · rw [e _ _ (by omega), u0 0 (by decide)]; exact n0
  · rw [e _ _ (by omega), u0 1 (by decide)]; exact n1
  · rw [e _ _ (by omega), u0 2 (by decide)]; exact n2
  · rw [u0c]; exact vc
  · rw [e _ _ (by omega), u0 4 (by decide)]; exact n4
  · rw [e _ _ (by omega), u0 5 (by decide)]; exact n5
  · rw [e _ _ (by omega), u0 6 (by decide)]; exact n6
  · rw [e _ _ (by omega), u0 7 (by decide)]; exact n7
  · rw [e _ _ (by omega), u0 8 (by decide)]; exact n8
  · intro i hi
    rw [u0 0 (by decide)] at hi
    rw [e _ _ (by omega), e _ _ (by omega), e _ _ (by omega), ur 1 (by decide) (by decide) (by decide), ur 2 (by decide) (by decide) (by decide), ur 3 (by decide) (by decide) (by decide)]
    exact a2 i hi
  · intro i hi
    rw [u0 1 (by decide)] at hi
    rw [e _ _ (by omega), e _ _ (by omega), ur 4 (by decide) (by decide) (by decide), ur 5 (by decide) (by decide) (by decide)]
    exact a3 i hi
  · intro i hi
    rw [u0 2 (by decide)] at hi
    rw [e _ _ (by omega), e _ _ (by omega), e _ _ (by omega), ur 6 (by decide) (by decide) (by decide), ur 7 (by decide) (by decide) (by decide), ur 8 (by decide) (by decide) (by decide)]
    exact a4 i hi
  · intro i hi
    rw [u0c] at hi
    by_cases z : i = N
    · subst z
      rw [u9N, e _ _ (by omega)]
      exact w9
    · rw [u9 i z, e _ _ (by omega)]
      exact a5 i (by omega)
  · intro i hi
    by_cases z : i = N
    · subst z
      rw [u10N, e _ _ (by omega)]; exact w10
    · rw [u10 i z, e _ _ (by omega)]
      exact a6 i hi
  · intro i hi
    rw [u0 4 (by decide)] at hi
    rw [e _ _ (by omega), e _ _ (by omega), e _ _ (by omega), ur 11 (by decide) (by decide) (by decide), ur 12 (by decide) (by decide) (by decide), ur 13 (by decide) (by decide) (by decide)]
    exact a7 i hi
  · intro i hi
    rw [u0 5 (by decide)] at hi
    rw [e _ _ (by omega), e _ _ (by omega), ur 14 (by decide) (by decide) (by decide), ur 15 (by decide) (by decide) (by decide)]
    exact a8 i hi
  · exact RSm9_lo a9 (fun a i q => e _ _ (by omega)) (fun r q => ur r (by omega) (by omega) (by omega))
theorem RSc_de {h h' : Hp} {X N v11 v12 v13 : Nat} {T U : Tx} (R : RSc h X T) (hN : T 0 4 = N) (u0 : ∀ k, k ≠ 4 → U 0 k = T 0 k) (u0c : U 0 4 = N + 1) (u11 : ∀ i, i ≠ N → U 11 i = T 11 i) (u11N : U 11 N = v11) (u12 : ∀ i, i ≠ N → U 12 i = T 12 i) (u12N : U 12 N = v12) (u13 : ∀ i, i ≠ N → U 13 i = T 13 i) (u13N : U 13 N = v13) (ur : ∀ r, r ≠ 0 → r ≠ 11 → r ≠ 12 → r ≠ 13 → U r = T r) (e : ∀ a i, ¬ ((a = (X + 19) ∧ i = N) ∨ (a = (X + 20) ∧ i = N) ∨ (a = (X + 21) ∧ i = N) ∨ (a = X ∧ i = 6)) → hI h' a i = hI h a i) (er : ∀ a i, hR h' a i = hR h a i) (vc : hI h' X 6 = nI (N + 1)) (w11 : hI h' (X + 19) N = nI v11) (w12 : hI h' (X + 20) N = nI v12) (w13 : hI h' (X + 21) N = nI v13) : RSc h' X U := by
  obtain ⟨⟨n0, n1, n2, n3, n4, n5, n6, n7, n8⟩, a2, a3, a4, a5, a6, a7, a8, a9⟩ := R
  refine ⟨⟨?_, ?_, ?_, ?_, ?_, ?_, ?_, ?_, ?_⟩, ?_, ?_, ?_, ?_, ?_, ?_, ?_, ?_⟩
  · rw [e _ _ (by omega), u0 0 (by decide)]; exact n0
  · rw [e _ _ (by omega), u0 1 (by decide)]; exact n1
  · rw [e _ _ (by omega), u0 2 (by decide)]; exact n2
  · rw [e _ _ (by omega), u0 3 (by decide)]; exact n3
  · rw [u0c]; exact vc
  · rw [e _ _ (by omega), u0 5 (by decide)]; exact n5
  · rw [e _ _ (by omega), u0 6 (by decide)]; exact n6
  · rw [e _ _ (by omega), u0 7 (by decide)]; exact n7
  · rw [e _ _ (by omega), u0 8 (by decide)]; exact n8
  · intro i hi
    rw [u0 0 (by decide)] at hi
    rw [e _ _ (by omega), e _ _ (by omega), e _ _ (by omega), ur 1 (by decide) (by decide) (by decide) (by decide), ur 2 (by decide) (by decide) (by decide) (by decide), ur 3 (by decide) (by decide) (by decide) (by decide)]
    exact a2 i hi
  · intro i hi
    unfold hitsT foesT
    rw [e _ _ (by omega), e _ _ (by omega), u0 1 (by decide), ur 4 (by decide) (by decide) (by decide) (by decide), ur 5 (by decide) (by decide) (by decide) (by decide)]
    exact a3 i hi
  · intro i hi
    rw [u0 1 (by decide)] at hi
    rw [e _ _ (by omega), e _ _ (by omega), ur 4 (by decide) (by decide) (by decide) (by decide), ur 5 (by decide) (by decide) (by decide) (by decide)]
    exact a4 i hi
  · intro i hi
    rw [u0 2 (by decide)] at hi
    rw [e _ _ (by omega), e _ _ (by omega), e _ _ (by omega), ur 6 (by decide) (by decide) (by decide) (by decide), ur 7 (by decide) (by decide) (by decide) (by decide), ur 8 (by decide) (by decide) (by decide) (by decide)]
    exact a5 i hi
  · intro i hi
    rw [u0 3 (by decide)] at hi
    rw [e _ _ (by omega), e _ _ (by omega), ur 9 (by decide) (by decide) (by decide) (by decide), ur 10 (by decide) (by decide) (by decide) (by decide)]
    exact a6 i hi
  · intro i hi
    rw [u0c] at hi
    by_cases z : i = N
    · subst z
      rw [u11N, u12N, u13N]
      exact ⟨w11, w12, w13⟩
    · rw [u11 i z, u12 i z, u13 i z, e _ _ (by omega), e _ _ (by omega), e _ _ (by omega)]
      exact a7 i (by omega)
  · intro i hi
    rw [u0 5 (by decide)] at hi
    rw [e _ _ (by omega), e _ _ (by omega), ur 14 (by decide) (by decide) (by decide) (by decide), ur 15 (by decide) (by decide) (by decide) (by decide)]
    exact a8 i hi
  · exact RSc9_lo a9 (fun a i q => e _ _ (by omega)) er (fun r q => ur r (by omega) (by omega) (by omega) (by omega))
theorem RSm_de {h h' : Hp} {N v11 v12 v13 : Nat} {T U : Tx} (R : RSm h T) (hN : T 0 4 = N) (u0 : ∀ k, k ≠ 4 → U 0 k = T 0 k) (u0c : U 0 4 = N + 1) (u11 : ∀ i, i ≠ N → U 11 i = T 11 i) (u11N : U 11 N = v11) (u12 : ∀ i, i ≠ N → U 12 i = T 12 i) (u12N : U 12 N = v12) (u13 : ∀ i, i ≠ N → U 13 i = T 13 i) (u13N : U 13 N = v13) (ur : ∀ r, r ≠ 0 → r ≠ 11 → r ≠ 12 → r ≠ 13 → U r = T r) (e : ∀ a i, ¬ (a = 107 ∧ i = 16) → hI h' a i = hI h a i) (vc : hI h' 107 16 = nI (N + 1)) (w11 : hI h 122 N = nI v11) (w12 : hI h 123 N = nI v12) (w13 : hI h 124 N = nI v13) : RSm h' U := by
  obtain ⟨⟨n0, n1, n2, n3, n4, n5, n6, n7, n8⟩, a2, a3, a4, a5, a6, a7, a8, a9⟩ := R
  refine ⟨⟨?_, ?_, ?_, ?_, ?_, ?_, ?_, ?_, ?_⟩, ?_, ?_, ?_, ?_, ?_, ?_, ?_, ?_⟩
  · rw [e _ _ (by omega), u0 0 (by decide)]; exact n0
  · rw [e _ _ (by omega), u0 1 (by decide)]; exact n1
  · rw [e _ _ (by omega), u0 2 (by decide)]; exact n2
  · rw [e _ _ (by omega), u0 3 (by decide)]; exact n3
  · rw [u0c]; exact vc
  · rw [e _ _ (by omega), u0 5 (by decide)]; exact n5
  · rw [e _ _ (by omega), u0 6 (by decide)]; exact n6
  · rw [e _ _ (by omega), u0 7 (by decide)]; exact n7
  · rw [e _ _ (by omega), u0 8 (by decide)]; exact n8
  · intro i hi
    rw [u0 0 (by decide)] at hi
    rw [e _ _ (by omega), e _ _ (by omega), e _ _ (by omega), ur 1 (by decide) (by decide) (by decide) (by decide), ur 2 (by decide) (by decide) (by decide) (by decide), ur 3 (by decide) (by decide) (by decide) (by decide)]
    exact a2 i hi
  · intro i hi
    rw [u0 1 (by decide)] at hi
    rw [e _ _ (by omega), e _ _ (by omega), ur 4 (by decide) (by decide) (by decide) (by decide), ur 5 (by decide) (by decide) (by decide) (by decide)]
    exact a3 i hi
  · intro i hi
    rw [u0 2 (by decide)] at hi
    rw [e _ _ (by omega), e _ _ (by omega), e _ _ (by omega), ur 6 (by decide) (by decide) (by decide) (by decide), ur 7 (by decide) (by decide) (by decide) (by decide), ur 8 (by decide) (by decide) (by decide) (by decide)]
    exact a4 i hi
  · intro i hi
    rw [u0 3 (by decide)] at hi
    rw [e _ _ (by omega), ur 9 (by decide) (by decide) (by decide) (by decide)]
    exact a5 i hi
  · intro i hi
    rw [e _ _ (by omega), ur 10 (by decide) (by decide) (by decide) (by decide)]
    exact a6 i hi
  · intro i hi
    rw [u0c] at hi
    by_cases z : i = N
    · subst z
      rw [u11N, u12N, u13N, e _ _ (by omega), e _ _ (by omega), e _ _ (by omega)]
      exact ⟨w11, w12, w13⟩
    · rw [u11 i z, u12 i z, u13 i z, e _ _ (by omega), e _ _ (by omega), e _ _ (by omega)]
      exact a7 i (by omega)
  · intro i hi
    rw [u0 5 (by decide)] at hi
    rw [e _ _ (by omega), e _ _ (by omega), ur 14 (by decide) (by decide) (by decide) (by decide), ur 15 (by decide) (by decide) (by decide) (by decide)]
    exact a8 i hi
  · exact RSm9_lo a9 (fun a i q => e _ _ (by omega)) (fun r q => ur r (by omega) (by omega) (by omega) (by omega))
theorem RSc_sf {h h' : Hp} {X N v14 v15 : Nat} {T U : Tx} (R : RSc h X T) (hN : T 0 5 = N) (u0 : ∀ k, k ≠ 5 → U 0 k = T 0 k) (u0c : U 0 5 = N + 1) (u14 : ∀ i, i ≠ N → U 14 i = T 14 i) (u14N : U 14 N = v14) (u15 : ∀ i, i ≠ N → U 15 i = T 15 i) (u15N : U 15 N = v15) (ur : ∀ r, r ≠ 0 → r ≠ 14 → r ≠ 15 → U r = T r) (e : ∀ a i, ¬ ((a = (X + 22) ∧ i = N) ∨ (a = (X + 23) ∧ i = N) ∨ (a = X ∧ i = 10)) → hI h' a i = hI h a i) (er : ∀ a i, hR h' a i = hR h a i) (vc : hI h' X 10 = nI (N + 1)) (w14 : hI h' (X + 22) N = nI v14) (w15 : hI h' (X + 23) N = nI v15) : RSc h' X U := by
  obtain ⟨⟨n0, n1, n2, n3, n4, n5, n6, n7, n8⟩, a2, a3, a4, a5, a6, a7, a8, a9⟩ := R
  refine ⟨⟨?_, ?_, ?_, ?_, ?_, ?_, ?_, ?_, ?_⟩, ?_, ?_, ?_, ?_, ?_, ?_, ?_, ?_⟩
  · rw [e _ _ (by omega), u0 0 (by decide)]; exact n0
  · rw [e _ _ (by omega), u0 1 (by decide)]; exact n1
  · rw [e _ _ (by omega), u0 2 (by decide)]; exact n2
  · rw [e _ _ (by omega), u0 3 (by decide)]; exact n3
  · rw [e _ _ (by omega), u0 4 (by decide)]; exact n4
  · rw [u0c]; exact vc
  · rw [e _ _ (by omega), u0 6 (by decide)]; exact n6
  · rw [e _ _ (by omega), u0 7 (by decide)]; exact n7
  · rw [e _ _ (by omega), u0 8 (by decide)]; exact n8
  · intro i hi
    rw [u0 0 (by decide)] at hi
    rw [e _ _ (by omega), e _ _ (by omega), e _ _ (by omega), ur 1 (by decide) (by decide) (by decide), ur 2 (by decide) (by decide) (by decide), ur 3 (by decide) (by decide) (by decide)]
    exact a2 i hi
  · intro i hi
    unfold hitsT foesT
    rw [e _ _ (by omega), e _ _ (by omega), u0 1 (by decide), ur 4 (by decide) (by decide) (by decide), ur 5 (by decide) (by decide) (by decide)]
    exact a3 i hi
  · intro i hi
    rw [u0 1 (by decide)] at hi
    rw [e _ _ (by omega), e _ _ (by omega), ur 4 (by decide) (by decide) (by decide), ur 5 (by decide) (by decide) (by decide)]
    exact a4 i hi
  · intro i hi
    rw [u0 2 (by decide)] at hi
    rw [e _ _ (by omega), e _ _ (by omega), e _ _ (by omega), ur 6 (by decide) (by decide) (by decide), ur 7 (by decide) (by decide) (by decide), ur 8 (by decide) (by decide) (by decide)]
    exact a5 i hi
  · intro i hi
    rw [u0 3 (by decide)] at hi
    rw [e _ _ (by omega), e _ _ (by omega), ur 9 (by decide) (by decide) (by decide), ur 10 (by decide) (by decide) (by decide)]
    exact a6 i hi
  · intro i hi
    rw [u0 4 (by decide)] at hi
    rw [e _ _ (by omega), e _ _ (by omega), e _ _ (by omega), ur 11 (by decide) (by decide) (by decide), ur 12 (by decide) (by decide) (by decide), ur 13 (by decide) (by decide) (by decide)]
    exact a7 i hi
  · intro i hi
    rw [u0c] at hi
    by_cases z : i = N
    · subst z
      rw [u14N, u15N]
      exact ⟨w14, w15⟩
    · rw [u14 i z, u15 i z, e _ _ (by omega), e _ _ (by omega)]
      exact a8 i (by omega)
  · exact RSc9_lo a9 (fun a i q => e _ _ (by omega)) er (fun r q => ur r (by omega) (by omega) (by omega))
theorem RSm_sf {h h' : Hp} {N v14 v15 : Nat} {T U : Tx} (R : RSm h T) (hN : T 0 5 = N) (u0 : ∀ k, k ≠ 5 → U 0 k = T 0 k) (u0c : U 0 5 = N + 1) (u14 : ∀ i, i ≠ N → U 14 i = T 14 i) (u14N : U 14 N = v14) (u15 : ∀ i, i ≠ N → U 15 i = T 15 i) (u15N : U 15 N = v15) (ur : ∀ r, r ≠ 0 → r ≠ 14 → r ≠ 15 → U r = T r) (e : ∀ a i, ¬ (a = 107 ∧ i = 17) → hI h' a i = hI h a i) (vc : hI h' 107 17 = nI (N + 1)) (w14 : hI h 125 N = nI v14) (w15 : hI h 126 N = nI v15) : RSm h' U := by
  obtain ⟨⟨n0, n1, n2, n3, n4, n5, n6, n7, n8⟩, a2, a3, a4, a5, a6, a7, a8, a9⟩ := R
  refine ⟨⟨?_, ?_, ?_, ?_, ?_, ?_, ?_, ?_, ?_⟩, ?_, ?_, ?_, ?_, ?_, ?_, ?_, ?_⟩
  · rw [e _ _ (by omega), u0 0 (by decide)]; exact n0
  · rw [e _ _ (by omega), u0 1 (by decide)]; exact n1
  · rw [e _ _ (by omega), u0 2 (by decide)]; exact n2
  · rw [e _ _ (by omega), u0 3 (by decide)]; exact n3
  · rw [e _ _ (by omega), u0 4 (by decide)]; exact n4
  · rw [u0c]; exact vc
  · rw [e _ _ (by omega), u0 6 (by decide)]; exact n6
  · rw [e _ _ (by omega), u0 7 (by decide)]; exact n7
  · rw [e _ _ (by omega), u0 8 (by decide)]; exact n8
  · intro i hi
    rw [u0 0 (by decide)] at hi
    rw [e _ _ (by omega), e _ _ (by omega), e _ _ (by omega), ur 1 (by decide) (by decide) (by decide), ur 2 (by decide) (by decide) (by decide), ur 3 (by decide) (by decide) (by decide)]
    exact a2 i hi
  · intro i hi
    rw [u0 1 (by decide)] at hi
    rw [e _ _ (by omega), e _ _ (by omega), ur 4 (by decide) (by decide) (by decide), ur 5 (by decide) (by decide) (by decide)]
    exact a3 i hi
  · intro i hi
    rw [u0 2 (by decide)] at hi
    rw [e _ _ (by omega), e _ _ (by omega), e _ _ (by omega), ur 6 (by decide) (by decide) (by decide), ur 7 (by decide) (by decide) (by decide), ur 8 (by decide) (by decide) (by decide)]
    exact a4 i hi
  · intro i hi
    rw [u0 3 (by decide)] at hi
    rw [e _ _ (by omega), ur 9 (by decide) (by decide) (by decide)]
    exact a5 i hi
  · intro i hi
    rw [e _ _ (by omega), ur 10 (by decide) (by decide) (by decide)]
    exact a6 i hi
  · intro i hi
    rw [u0 4 (by decide)] at hi
    rw [e _ _ (by omega), e _ _ (by omega), e _ _ (by omega), ur 11 (by decide) (by decide) (by decide), ur 12 (by decide) (by decide) (by decide), ur 13 (by decide) (by decide) (by decide)]
    exact a7 i hi
  · intro i hi
    rw [u0c] at hi
    by_cases z : i = N
    · subst z
      rw [u14N, u15N, e _ _ (by omega), e _ _ (by omega)]
      exact ⟨w14, w15⟩
    · rw [u14 i z, u15 i z, e _ _ (by omega), e _ _ (by omega)]
      exact a8 i (by omega)
  · exact RSm9_lo a9 (fun a i q => e _ _ (by omega)) (fun r q => ur r (by omega) (by omega) (by omega))
theorem WFT_cl {N v1 v2 v3 : Nat} {T U : Tx} (F : WFT T) (hN : T 0 0 = N) (hb : N < 8) (u0 : ∀ k, k ≠ 0 → U 0 k = T 0 k) (u0c : U 0 0 = N + 1) (u1 : ∀ i, i ≠ N → U 1 i = T 1 i) (u1N : U 1 N = v1) (u2 : ∀ i, i ≠ N → U 2 i = T 2 i) (u2N : U 2 N = v2) (u3 : ∀ i, i ≠ N → U 3 i = T 3 i) (u3N : U 3 N = v3) (ur : ∀ r, r ≠ 0 → r ≠ 1 → r ≠ 2 → r ≠ 3 → U r = T r) (b1 : v1 < 2 ^ 30) (b2 : v2 ≤ 99) (b3 : v3 ≤ 9) : WFT U := by
  obtain ⟨⟨n0, n1, n2, n3, n4, n5, n6, n7, n8⟩, a2, a3, a4, a5, a6, a7, a8, a9, a10⟩ := F
  have k0 := u0c
  have k1 := u0 1 (by decide)
  have k2 := u0 2 (by decide)
  have k3 := u0 3 (by decide)
  have k4 := u0 4 (by decide)
  have k5 := u0 5 (by decide)
  have k6 := u0 6 (by decide)
  have k7 := u0 7 (by decide)
  have k8 := u0 8 (by decide)
  refine ⟨⟨by omega, by omega, by omega, by omega, by omega, by omega, by omega, by omega, by omega⟩, ?_, ?_, ?_, ?_, ?_, ?_, ?_, ?_, ?_⟩
  · intro i hi
    by_cases z : i = N
    · subst z
      rw [u1N, u2N, u3N]
      exact ⟨b1, b2, b3⟩
    · have := a2 i (by omega)
      rw [u1 i z, u2 i z, u3 i z]
      exact this
  · intro i hi
    have := a3 i (by omega)
    rw [ur 4 (by decide) (by decide) (by decide) (by decide), ur 5 (by decide) (by decide) (by decide) (by decide)]
    exact ⟨by omega, by omega, this.2.2⟩
  · intro i hi
    have := a4 i (by omega)
    rw [ur 6 (by decide) (by decide) (by decide) (by decide), ur 7 (by decide) (by decide) (by decide) (by decide), ur 8 (by decide) (by decide) (by decide) (by decide)]
    exact ⟨this.1, by omega, this.2.2⟩
  · intro i hi
    have h1 := a5 i hi
    have h2 : 2 ^ T 0 0 ≤ 2 ^ U 0 0 := Nat.pow_le_pow_right (by decide) (by omega)
    rw [ur 10 (by decide) (by decide) (by decide) (by decide)]; exact Nat.lt_of_lt_of_le h1 h2
  · intro i hi
    have := a6 i (by omega)
    rw [ur 9 (by decide) (by decide) (by decide) (by decide)]
    exact this
  · intro i hi
    rw [ur 10 (by decide) (by decide) (by decide) (by decide)]; exact a7 i (by omega)
  · intro i hi
    have := a8 i (by omega)
    rw [ur 11 (by decide) (by decide) (by decide) (by decide), ur 12 (by decide) (by decide) (by decide) (by decide), ur 13 (by decide) (by decide) (by decide) (by decide)]
    exact ⟨by omega, by omega, this.2.2⟩
  · intro i hi
    have := a9 i (by omega)
    rw [ur 14 (by decide) (by decide) (by decide) (by decide), ur 15 (by decide) (by decide) (by decide) (by decide)]
    exact ⟨by omega, this.2⟩
  · intro w hw
    rw [ur 16 (by decide) (by decide) (by decide) (by decide), ur 17 (by decide) (by decide) (by decide) (by decide), ur (18 + w) (by omega) (by omega) (by omega) (by omega)]
    exact a10 w hw
theorem WFT_co {N v4 v5 : Nat} {T U : Tx} (F : WFT T) (hN : T 0 1 = N) (hb : N < 16) (u0 : ∀ k, k ≠ 1 → U 0 k = T 0 k) (u0c : U 0 1 = N + 1) (u4 : ∀ i, i ≠ N → U 4 i = T 4 i) (u4N : U 4 N = v4) (u5 : ∀ i, i ≠ N → U 5 i = T 5 i) (u5N : U 5 N = v5) (ur : ∀ r, r ≠ 0 → r ≠ 4 → r ≠ 5 → U r = T r) (b4 : v4 < T 0 0) (b5 : v5 < T 0 0) (b6 : v4 ≠ v5) : WFT U := by
  obtain ⟨⟨n0, n1, n2, n3, n4, n5, n6, n7, n8⟩, a2, a3, a4, a5, a6, a7, a8, a9, a10⟩ := F
  have k0 := u0 0 (by decide)
  have k1 := u0c
  have k2 := u0 2 (by decide)
  have k3 := u0 3 (by decide)
  have k4 := u0 4 (by decide)
  have k5 := u0 5 (by decide)
  have k6 := u0 6 (by decide)
  have k7 := u0 7 (by decide)
  have k8 := u0 8 (by decide)
  refine ⟨⟨by omega, by omega, by omega, by omega, by omega, by omega, by omega, by omega, by omega⟩, ?_, ?_, ?_, ?_, ?_, ?_, ?_, ?_, ?_⟩
  · intro i hi
    have := a2 i (by omega)
    rw [ur 1 (by decide) (by decide) (by decide), ur 2 (by decide) (by decide) (by decide), ur 3 (by decide) (by decide) (by decide)]
    exact this
  · intro i hi
    by_cases z : i = N
    · subst z
      rw [u4N, u5N]
      exact ⟨by omega, by omega, b6⟩
    · have := a3 i (by omega)
      rw [u4 i z, u5 i z]
      exact ⟨by omega, by omega, this.2.2⟩
  · intro i hi
    have := a4 i (by omega)
    rw [ur 6 (by decide) (by decide) (by decide), ur 7 (by decide) (by decide) (by decide), ur 8 (by decide) (by decide) (by decide)]
    exact ⟨this.1, by omega, this.2.2⟩
  · intro i hi
    have h1 := a5 i hi
    have h2 : 2 ^ T 0 0 ≤ 2 ^ U 0 0 := Nat.pow_le_pow_right (by decide) (by omega)
    rw [ur 10 (by decide) (by decide) (by decide)]; exact Nat.lt_of_lt_of_le h1 h2
  · intro i hi
    have := a6 i (by omega)
    rw [ur 9 (by decide) (by decide) (by decide)]
    exact this
  · intro i hi
    rw [ur 10 (by decide) (by decide) (by decide)]; exact a7 i (by omega)
  · intro i hi
    have := a8 i (by omega)
    rw [ur 11 (by decide) (by decide) (by decide), ur 12 (by decide) (by decide) (by decide), ur 13 (by decide) (by decide) (by decide)]
    exact ⟨by omega, by omega, this.2.2⟩
  · intro i hi
    have := a9 i (by omega)
    rw [ur 14 (by decide) (by decide) (by decide), ur 15 (by decide) (by decide) (by decide)]
    exact ⟨by omega, this.2⟩
  · intro w hw
    rw [ur 16 (by decide) (by decide) (by decide), ur 17 (by decide) (by decide) (by decide), ur (18 + w) (by omega) (by omega) (by omega)]
    exact a10 w hw
theorem WFT_st {N v6 v7 v8 : Nat} {T U : Tx} (F : WFT T) (hN : T 0 2 = N) (hb : N < 5) (u0 : ∀ k, k ≠ 2 → U 0 k = T 0 k) (u0c : U 0 2 = N + 1) (u6 : ∀ i, i ≠ N → U 6 i = T 6 i) (u6N : U 6 N = v6) (u7 : ∀ i, i ≠ N → U 7 i = T 7 i) (u7N : U 7 N = v7) (u8 : ∀ i, i ≠ N → U 8 i = T 8 i) (u8N : U 8 N = v8) (ur : ∀ r, r ≠ 0 → r ≠ 6 → r ≠ 7 → r ≠ 8 → U r = T r) (b6 : v6 < 2 ^ 30) (b7 : v7 < T 0 0) (b8 : 1 ≤ v8) (b9 : v8 ≤ 99) : WFT U := by
  obtain ⟨⟨n0, n1, n2, n3, n4, n5, n6, n7, n8⟩, a2, a3, a4, a5, a6, a7, a8, a9, a10⟩ := F
  have k0 := u0 0 (by decide)
  have k1 := u0 1 (by decide)
  have k2 := u0c
  have k3 := u0 3 (by decide)
  have k4 := u0 4 (by decide)
  have k5 := u0 5 (by decide)
  have k6 := u0 6 (by decide)
  have k7 := u0 7 (by decide)
  have k8 := u0 8 (by decide)
  refine ⟨⟨by omega, by omega, by omega, by omega, by omega, by omega, by omega, by omega, by omega⟩, ?_, ?_, ?_, ?_, ?_, ?_, ?_, ?_, ?_⟩
  · intro i hi
    have := a2 i (by omega)
    rw [ur 1 (by decide) (by decide) (by decide) (by decide), ur 2 (by decide) (by decide) (by decide) (by decide), ur 3 (by decide) (by decide) (by decide) (by decide)]
    exact this
  · intro i hi
    have := a3 i (by omega)
    rw [ur 4 (by decide) (by decide) (by decide) (by decide), ur 5 (by decide) (by decide) (by decide) (by decide)]
    exact ⟨by omega, by omega, this.2.2⟩
  · intro i hi
    by_cases z : i = N
    · subst z
      rw [u6N, u7N, u8N]
      exact ⟨b6, by omega, b8, b9⟩
    · have := a4 i (by omega)
      rw [u6 i z, u7 i z, u8 i z]
      exact ⟨this.1, by omega, this.2.2⟩
  · intro i hi
    have h1 := a5 i hi
    have h2 : 2 ^ T 0 0 ≤ 2 ^ U 0 0 := Nat.pow_le_pow_right (by decide) (by omega)
    rw [ur 10 (by decide) (by decide) (by decide) (by decide)]; exact Nat.lt_of_lt_of_le h1 h2
  · intro i hi
    have := a6 i (by omega)
    rw [ur 9 (by decide) (by decide) (by decide) (by decide)]
    exact this
  · intro i hi
    rw [ur 10 (by decide) (by decide) (by decide) (by decide)]; exact a7 i (by omega)
  · intro i hi
    have := a8 i (by omega)
    rw [ur 11 (by decide) (by decide) (by decide) (by decide), ur 12 (by decide) (by decide) (by decide) (by decide), ur 13 (by decide) (by decide) (by decide) (by decide)]
    exact ⟨by omega, by omega, this.2.2⟩
  · intro i hi
    have := a9 i (by omega)
    rw [ur 14 (by decide) (by decide) (by decide) (by decide), ur 15 (by decide) (by decide) (by decide) (by decide)]
    exact ⟨by omega, this.2⟩
  · intro w hw
    rw [ur 16 (by decide) (by decide) (by decide) (by decide), ur 17 (by decide) (by decide) (by decide) (by decide), ur (18 + w) (by omega) (by omega) (by omega) (by omega)]
    exact a10 w hw
theorem WFT_me {N v9 v10 : Nat} {T U : Tx} (F : WFT T) (hN : T 0 3 = N) (hb : N < 5) (u0 : ∀ k, k ≠ 3 → U 0 k = T 0 k) (u0c : U 0 3 = N + 1) (u9 : ∀ i, i ≠ N → U 9 i = T 9 i) (u9N : U 9 N = v9) (u10 : ∀ i, i ≠ N → U 10 i = T 10 i) (u10N : U 10 N = v10) (ur : ∀ r, r ≠ 0 → r ≠ 9 → r ≠ 10 → U r = T r) (b9 : v9 < 2 ^ 30) (b10 : v10 = 0) : WFT U := by
  obtain ⟨⟨n0, n1, n2, n3, n4, n5, n6, n7, n8⟩, a2, a3, a4, a5, a6, a7, a8, a9, a10⟩ := F
  have k0 := u0 0 (by decide)
  have k1 := u0 1 (by decide)
  have k2 := u0 2 (by decide)
  have k3 := u0c
  have k4 := u0 4 (by decide)
  have k5 := u0 5 (by decide)
  have k6 := u0 6 (by decide)
  have k7 := u0 7 (by decide)
  have k8 := u0 8 (by decide)
  refine ⟨⟨by omega, by omega, by omega, by omega, by omega, by omega, by omega, by omega, by omega⟩, ?_, ?_, ?_, ?_, ?_, ?_, ?_, ?_, ?_⟩
  · intro i hi
    have := a2 i (by omega)
    rw [ur 1 (by decide) (by decide) (by decide), ur 2 (by decide) (by decide) (by decide), ur 3 (by decide) (by decide) (by decide)]
    exact this
  · intro i hi
    have := a3 i (by omega)
    rw [ur 4 (by decide) (by decide) (by decide), ur 5 (by decide) (by decide) (by decide)]
    exact ⟨by omega, by omega, this.2.2⟩
  · intro i hi
    have := a4 i (by omega)
    rw [ur 6 (by decide) (by decide) (by decide), ur 7 (by decide) (by decide) (by decide), ur 8 (by decide) (by decide) (by decide)]
    exact ⟨this.1, by omega, this.2.2⟩
  · intro i hi
    have h1 := a5 i hi
    have h2 : 2 ^ T 0 0 ≤ 2 ^ U 0 0 := Nat.pow_le_pow_right (by decide) (by omega)
    by_cases z : i = N
    · subst z; rw [u10N, b10]; exact Nat.pow_pos (by decide)
    · rw [u10 i z]; exact Nat.lt_of_lt_of_le h1 h2
  · intro i hi
    by_cases z : i = N
    · subst z
      rw [u9N]
      exact b9
    · have := a6 i (by omega)
      rw [u9 i z]
      exact this
  · intro i hi
    rw [u10 i (by omega)]; exact a7 i (by omega)
  · intro i hi
    have := a8 i (by omega)
    rw [ur 11 (by decide) (by decide) (by decide), ur 12 (by decide) (by decide) (by decide), ur 13 (by decide) (by decide) (by decide)]
    exact ⟨by omega, by omega, this.2.2⟩
  · intro i hi
    have := a9 i (by omega)
    rw [ur 14 (by decide) (by decide) (by decide), ur 15 (by decide) (by decide) (by decide)]
    exact ⟨by omega, this.2⟩
  · intro w hw
    rw [ur 16 (by decide) (by decide) (by decide), ur 17 (by decide) (by decide) (by decide), ur (18 + w) (by omega) (by omega) (by omega)]
    exact a10 w hw
theorem WFT_de {N v11 v12 v13 : Nat} {T U : Tx} (F : WFT T) (hN : T 0 4 = N) (hb : N < 12) (u0 : ∀ k, k ≠ 4 → U 0 k = T 0 k) (u0c : U 0 4 = N + 1) (u11 : ∀ i, i ≠ N → U 11 i = T 11 i) (u11N : U 11 N = v11) (u12 : ∀ i, i ≠ N → U 12 i = T 12 i) (u12N : U 12 N = v12) (u13 : ∀ i, i ≠ N → U 13 i = T 13 i) (u13N : U 13 N = v13) (ur : ∀ r, r ≠ 0 → r ≠ 11 → r ≠ 12 → r ≠ 13 → U r = T r) (b11 : v11 < T 0 3) (b12 : v12 < T 0 2) (b13 : v13 ≤ 99) : WFT U := by
  obtain ⟨⟨n0, n1, n2, n3, n4, n5, n6, n7, n8⟩, a2, a3, a4, a5, a6, a7, a8, a9, a10⟩ := F
  have k0 := u0 0 (by decide)
  have k1 := u0 1 (by decide)
  have k2 := u0 2 (by decide)
  have k3 := u0 3 (by decide)
  have k4 := u0c
  have k5 := u0 5 (by decide)
  have k6 := u0 6 (by decide)
  have k7 := u0 7 (by decide)
  have k8 := u0 8 (by decide)
  refine ⟨⟨by omega, by omega, by omega, by omega, by omega, by omega, by omega, by omega, by omega⟩, ?_, ?_, ?_, ?_, ?_, ?_, ?_, ?_, ?_⟩
  · intro i hi
    have := a2 i (by omega)
    rw [ur 1 (by decide) (by decide) (by decide) (by decide), ur 2 (by decide) (by decide) (by decide) (by decide), ur 3 (by decide) (by decide) (by decide) (by decide)]
    exact this
  · intro i hi
    have := a3 i (by omega)
    rw [ur 4 (by decide) (by decide) (by decide) (by decide), ur 5 (by decide) (by decide) (by decide) (by decide)]
    exact ⟨by omega, by omega, this.2.2⟩
  · intro i hi
    have := a4 i (by omega)
    rw [ur 6 (by decide) (by decide) (by decide) (by decide), ur 7 (by decide) (by decide) (by decide) (by decide), ur 8 (by decide) (by decide) (by decide) (by decide)]
    exact ⟨this.1, by omega, this.2.2⟩
  · intro i hi
    have h1 := a5 i hi
    have h2 : 2 ^ T 0 0 ≤ 2 ^ U 0 0 := Nat.pow_le_pow_right (by decide) (by omega)
    rw [ur 10 (by decide) (by decide) (by decide) (by decide)]; exact Nat.lt_of_lt_of_le h1 h2
  · intro i hi
    have := a6 i (by omega)
    rw [ur 9 (by decide) (by decide) (by decide) (by decide)]
    exact this
  · intro i hi
    rw [ur 10 (by decide) (by decide) (by decide) (by decide)]; exact a7 i (by omega)
  · intro i hi
    by_cases z : i = N
    · subst z
      rw [u11N, u12N, u13N]
      exact ⟨by omega, by omega, b13⟩
    · have := a8 i (by omega)
      rw [u11 i z, u12 i z, u13 i z]
      exact ⟨by omega, by omega, this.2.2⟩
  · intro i hi
    have := a9 i (by omega)
    rw [ur 14 (by decide) (by decide) (by decide) (by decide), ur 15 (by decide) (by decide) (by decide) (by decide)]
    exact ⟨by omega, this.2⟩
  · intro w hw
    rw [ur 16 (by decide) (by decide) (by decide) (by decide), ur 17 (by decide) (by decide) (by decide) (by decide), ur (18 + w) (by omega) (by omega) (by omega) (by omega)]
    exact a10 w hw
theorem WFT_sf {N v14 v15 : Nat} {T U : Tx} (F : WFT T) (hN : T 0 5 = N) (hb : N < 6) (u0 : ∀ k, k ≠ 5 → U 0 k = T 0 k) (u0c : U 0 5 = N + 1) (u14 : ∀ i, i ≠ N → U 14 i = T 14 i) (u14N : U 14 N = v14) (u15 : ∀ i, i ≠ N → U 15 i = T 15 i) (u15N : U 15 N = v15) (ur : ∀ r, r ≠ 0 → r ≠ 14 → r ≠ 15 → U r = T r) (b14 : v14 < T 0 2) (b15 : v15 ≤ 99) : WFT U := by
  obtain ⟨⟨n0, n1, n2, n3, n4, n5, n6, n7, n8⟩, a2, a3, a4, a5, a6, a7, a8, a9, a10⟩ := F
  have k0 := u0 0 (by decide)
  have k1 := u0 1 (by decide)
  have k2 := u0 2 (by decide)
  have k3 := u0 3 (by decide)
  have k4 := u0 4 (by decide)
  have k5 := u0c
  have k6 := u0 6 (by decide)
  have k7 := u0 7 (by decide)
  have k8 := u0 8 (by decide)
  refine ⟨⟨by omega, by omega, by omega, by omega, by omega, by omega, by omega, by omega, by omega⟩, ?_, ?_, ?_, ?_, ?_, ?_, ?_, ?_, ?_⟩
  · intro i hi
    have := a2 i (by omega)
    rw [ur 1 (by decide) (by decide) (by decide), ur 2 (by decide) (by decide) (by decide), ur 3 (by decide) (by decide) (by decide)]
    exact this
  · intro i hi
    have := a3 i (by omega)
    rw [ur 4 (by decide) (by decide) (by decide), ur 5 (by decide) (by decide) (by decide)]
    exact ⟨by omega, by omega, this.2.2⟩
  · intro i hi
    have := a4 i (by omega)
    rw [ur 6 (by decide) (by decide) (by decide), ur 7 (by decide) (by decide) (by decide), ur 8 (by decide) (by decide) (by decide)]
    exact ⟨this.1, by omega, this.2.2⟩
  · intro i hi
    have h1 := a5 i hi
    have h2 : 2 ^ T 0 0 ≤ 2 ^ U 0 0 := Nat.pow_le_pow_right (by decide) (by omega)
    rw [ur 10 (by decide) (by decide) (by decide)]; exact Nat.lt_of_lt_of_le h1 h2
  · intro i hi
    have := a6 i (by omega)
    rw [ur 9 (by decide) (by decide) (by decide)]
    exact this
  · intro i hi
    rw [ur 10 (by decide) (by decide) (by decide)]; exact a7 i (by omega)
  · intro i hi
    have := a8 i (by omega)
    rw [ur 11 (by decide) (by decide) (by decide), ur 12 (by decide) (by decide) (by decide), ur 13 (by decide) (by decide) (by decide)]
    exact ⟨by omega, by omega, this.2.2⟩
  · intro i hi
    by_cases z : i = N
    · subst z
      rw [u14N, u15N]
      exact ⟨by omega, b15⟩
    · have := a9 i (by omega)
      rw [u14 i z, u15 i z]
      exact ⟨by omega, this.2⟩
  · intro w hw
    rw [ur 16 (by decide) (by decide) (by decide), ur 17 (by decide) (by decide) (by decide), ur (18 + w) (by omega) (by omega) (by omega)]
    exact a10 w hw
theorem orB_two {p q : Nat → Bool} {t z : Nat → Nat} : ∀ {n : Nat}, (∀ k, k < n → p k = q k) → (∀ k, k < n → t k = z k) → orB p t n = orB q z n
  | 0, _, _ => rfl
  | n + 1, h1, h2 => by rw [orB, orB, orB_two (fun k hk => h1 k (by omega)) (fun k hk => h2 k (by omega)), h1 n (by omega), h2 n (by omega)]
theorem RD_cl {hc hm : Hp} {X : Nat} {T : Tx} {b : Nat → Nat} {n v1 v2 v3 : Nat} (R : RD hc hm X T b n) (hN : T 0 0 < 8) (b1 : v1 < 2 ^ 30) (b2 : v2 ≤ 99) (b3 : v3 ≤ 9) (m1 : hI hm 112 (8 + T 0 0) = nI v1) (m2 : hI hm 113 (8 + T 0 0) = nI v2) (m3 : hI hm 114 (8 + T 0 0) = nI v3) : ∃ T', RD (uI (uI (uI (uI hc (X + 4) (T 0 0) (nI v2)) (X + 5) (T 0 0) (nI v3)) (X + 3) (T 0 0) (nI v1)) (X + 2) 2 (nI (T 0 0 + 1))) (uI hm 107 19 (nI (T 0 0 + 1))) X T' b n := by
  obtain ⟨⟨r1, r2, r3, r4⟩, ⟨r5, r6, r7⟩, ⟨r8, r9, r10⟩, r11, r12⟩ := R
  have x0 : X = 1 ∨ X = 35 := r1
  generalize hU : tU (tU (tU (tU T 0 0 (T 0 0 + 1)) 1 (T 0 0) v1) 2 (T 0 0) v2) 3 (T 0 0) v3 = U
  have u0 : ∀ k, k ≠ 0 → U 0 k = T 0 k := fun k q => by rw [← hU]; simp (disch := omega) only [tU_ne]
  have u0c : U 0 0 = T 0 0 + 1 := by rw [← hU]; simp (disch := omega) only [tU_ne, tU_at]
  have u1 : ∀ i, i ≠ (T 0 0) → U 1 i = T 1 i := fun k q => by rw [← hU]; simp (disch := omega) only [tU_ne]
  have u1N : U 1 (T 0 0) = v1 := by rw [← hU]; simp (disch := omega) only [tU_ne, tU_at]
  have u2 : ∀ i, i ≠ (T 0 0) → U 2 i = T 2 i := fun k q => by rw [← hU]; simp (disch := omega) only [tU_ne]
  have u2N : U 2 (T 0 0) = v2 := by rw [← hU]; simp (disch := omega) only [tU_ne, tU_at]
  have u3 : ∀ i, i ≠ (T 0 0) → U 3 i = T 3 i := fun k q => by rw [← hU]; simp (disch := omega) only [tU_ne]
  have u3N : U 3 (T 0 0) = v3 := by rw [← hU]; simp (disch := omega) only [tU_ne, tU_at]
  have ur : ∀ r, r ≠ 0 → r ≠ 1 → r ≠ 2 → r ≠ 3 → U r = T r := fun r _ _ _ _ => by rw [← hU]; simp (disch := omega) only [tU_row]
  clear hU
  have eh : ∀ x i, ¬ (x = 107 ∧ i = 12) → hI (hup (uI hm 107 19 (nI (T 0 0 + 1)))) x i = hI (hup hm) x i := fun x i q => by rw [hup_107, if_neg (by omega)]
  refine ⟨U, ⟨r1, r2, ?_, by simp (disch := omega) only [hI_ne]; exact r4⟩, ⟨WFT_cl r5 rfl hN u0 u0c u1 u1N u2 u2N u3 u3N ur b1 b2 b3, ?_, ?_⟩, ⟨?_, ?_, ?_⟩, ?_, ?_⟩
  · exact RTp_fr r3 (fun i hi => by simp (disch := omega) only [hI_ne]) (fun i => by simp (disch := omega) only [hI_ne]) (fun i => by simp (disch := omega) only [hI_ne]) (fun i hi => by simp (disch := omega) only [hI_ne]) (fun i => by simp (disch := omega) only [hI_ne]) (fun i => by simp (disch := omega) only [hI_ne])
  · refine RSc_cl r6 rfl u0 u0c u1 u1N u2 u2N u3 u3N ur (fun x i q => by simp (disch := omega) only [hI_ne]) (fun _ _ => rfl) (by simp (disch := omega) only [hI_ne, hI_at]) (by simp (disch := omega) only [hI_ne, hI_at]) (by simp (disch := omega) only [hI_ne, hI_at]) (by simp (disch := omega) only [hI_ne, hI_at])
  · exact RSm_cl r7 rfl u0 u0c u1 u1N u2 u2N u3 u3N ur eh (by rw [hup_107, if_pos (by omega)]) m1 m2 m3
  · simp (disch := omega) only [hI_ne]; exact r8
  · simp (disch := omega) only [hI_ne]; exact r9
  · simp (disch := omega) only [hI_ne]; exact r10
  · rw [u0 6 (by decide)]; simp (disch := omega) only [hI_ne]; exact r11
  · rw [u0 6 (by decide), ur 16 (by decide) (by decide) (by decide) (by decide), ur 17 (by decide) (by decide) (by decide) (by decide)]
    intro x hx ht f hf hl
    rw [eh _ _ (by omega)] at hf
    exact r12 x hx ht f hf hl
theorem RD_co {hc hm : Hp} {X : Nat} {T : Tx} {b : Nat → Nat} {n v4 v5 : Nat} (R : RD hc hm X T b n) (hN : T 0 1 < 16) (b4 : v4 < T 0 0) (b5 : v5 < T 0 0) (b6 : v4 ≠ v5) (m4 : hI hm 115 (16 + T 0 1) = nI v4) (m5 : hI hm 116 (16 + T 0 1) = nI v5) : ∃ T', RD (uI (uI (uI (uI (uI hc (X + 8) (T 0 1) (nI v4)) (X + 9) (T 0 1) (nI v5)) (X + 1) 5 (nI (T 0 1 + 1))) (X + 6) v4 (nI (hitsT T v4 ||| 2 ^ v5))) (X + 7) v5 (nI (foesT T v5 ||| 2 ^ v4))) (uI hm 107 20 (nI (T 0 1 + 1))) X T' b n := by
  obtain ⟨⟨r1, r2, r3, r4⟩, ⟨r5, r6, r7⟩, ⟨r8, r9, r10⟩, r11, r12⟩ := R
  have x0 : X = 1 ∨ X = 35 := r1
  generalize hU : tU (tU (tU T 0 1 (T 0 1 + 1)) 4 (T 0 1) v4) 5 (T 0 1) v5 = U
  have u0 : ∀ k, k ≠ 1 → U 0 k = T 0 k := fun k q => by rw [← hU]; simp (disch := omega) only [tU_ne]
  have u0c : U 0 1 = T 0 1 + 1 := by rw [← hU]; simp (disch := omega) only [tU_ne, tU_at]
  have u4 : ∀ i, i ≠ (T 0 1) → U 4 i = T 4 i := fun k q => by rw [← hU]; simp (disch := omega) only [tU_ne]
  have u4N : U 4 (T 0 1) = v4 := by rw [← hU]; simp (disch := omega) only [tU_ne, tU_at]
  have u5 : ∀ i, i ≠ (T 0 1) → U 5 i = T 5 i := fun k q => by rw [← hU]; simp (disch := omega) only [tU_ne]
  have u5N : U 5 (T 0 1) = v5 := by rw [← hU]; simp (disch := omega) only [tU_ne, tU_at]
  have ur : ∀ r, r ≠ 0 → r ≠ 4 → r ≠ 5 → U r = T r := fun r _ _ _ => by rw [← hU]; simp (disch := omega) only [tU_row]
  clear hU
  have eh : ∀ x i, ¬ (x = 107 ∧ i = 13) → hI (hup (uI hm 107 20 (nI (T 0 1 + 1)))) x i = hI (hup hm) x i := fun x i q => by rw [hup_107, if_neg (by omega)]
  refine ⟨U, ⟨r1, r2, ?_, by simp (disch := omega) only [hI_ne]; exact r4⟩, ⟨WFT_co r5 rfl hN u0 u0c u4 u4N u5 u5N ur b4 b5 b6, ?_, ?_⟩, ⟨?_, ?_, ?_⟩, ?_, ?_⟩
  · exact RTp_fr r3 (fun i hi => by simp (disch := omega) only [hI_ne]) (fun i => by simp (disch := omega) only [hI_ne]) (fun i => by simp (disch := omega) only [hI_ne]) (fun i hi => by simp (disch := omega) only [hI_ne]) (fun i => by simp (disch := omega) only [hI_ne]) (fun i => by simp (disch := omega) only [hI_ne])
  · refine RSc_co r6 rfl u0 u0c u4 u4N u5 u5N ur (fun x i q => by simp (disch := omega) only [hI_ne]) (fun _ _ => rfl) (by simp (disch := omega) only [hI_ne, hI_at]) (by simp (disch := omega) only [hI_ne, hI_at]) (by simp (disch := omega) only [hI_ne, hI_at]) ?_
    intro i hi
    have ho := (r6.2.2.1 i hi)
    unfold hitsT foesT
    rw [u0c, orB, orB, u4N, u5N, orB_two (p := fun k => decide (U 4 k = i)) (q := fun k => decide (T 4 k = i)) (t := U 5) (z := T 5) (fun k hk => by rw [u4 k (by omega)]) (fun k hk => u5 k (by omega)), orB_two (p := fun k => decide (U 5 k = i)) (q := fun k => decide (T 5 k = i)) (t := U 4) (z := T 4) (fun k hk => by rw [u5 k (by omega)]) (fun k hk => u4 k (by omega))]
    constructor
    · by_cases z : v4 = i
      · subst z
        rw [hI_ne (by omega), hI_at ⟨rfl, rfl⟩]
        simp only [decide_true, ↓reduceIte]
      · rw [hI_ne (by omega), hI_ne (by omega), hI_ne (by omega), hI_ne (by omega), hI_ne (by omega), ho.1]
        simp only [z, decide_false, Bool.false_eq_true, ↓reduceIte, Nat.or_zero]; rfl
    · by_cases z : v5 = i
      · subst z
        rw [hI_at ⟨rfl, rfl⟩]
        simp only [decide_true, ↓reduceIte]
      · rw [hI_ne (by omega), hI_ne (by omega), hI_ne (by omega), hI_ne (by omega), hI_ne (by omega), ho.2]
        simp only [z, decide_false, Bool.false_eq_true, ↓reduceIte, Nat.or_zero]; rfl
  · exact RSm_co r7 rfl u0 u0c u4 u4N u5 u5N ur eh (by rw [hup_107, if_pos (by omega)]) m4 m5
  · simp (disch := omega) only [hI_ne]; exact r8
  · simp (disch := omega) only [hI_ne]; exact r9
  · simp (disch := omega) only [hI_ne]; exact r10
  · rw [u0 6 (by decide)]; simp (disch := omega) only [hI_ne]; exact r11
  · rw [u0 6 (by decide), ur 16 (by decide) (by decide) (by decide), ur 17 (by decide) (by decide) (by decide)]
    intro x hx ht f hf hl
    rw [eh _ _ (by omega)] at hf
    exact r12 x hx ht f hf hl
theorem RD_st {hc hm : Hp} {X : Nat} {T : Tx} {b : Nat → Nat} {n v6 v7 v8 : Nat} (R : RD hc hm X T b n) (hN : T 0 2 < 5) (b6 : v6 < 2 ^ 30) (b7 : v7 < T 0 0) (b8 : 1 ≤ v8) (b9 : v8 ≤ 99) (m6 : hI hm 117 (5 + T 0 2) = nI v6) (m7 : hI hm 118 (5 + T 0 2) = nI v7) (m8 : hI hm 119 (5 + T 0 2) = nI v8) : ∃ T', RD (uI (uI (uI (uI hc (X + 14) (T 0 2) (nI v7)) (X + 15) (T 0 2) (nI v8)) (X + 13) (T 0 2) (nI v6)) (X + 12) 2 (nI (T 0 2 + 1))) (uI hm 107 21 (nI (T 0 2 + 1))) X T' b n := by
  obtain ⟨⟨r1, r2, r3, r4⟩, ⟨r5, r6, r7⟩, ⟨r8, r9, r10⟩, r11, r12⟩ := R
  have x0 : X = 1 ∨ X = 35 := r1
  generalize hU : tU (tU (tU (tU T 0 2 (T 0 2 + 1)) 6 (T 0 2) v6) 7 (T 0 2) v7) 8 (T 0 2) v8 = U
  have u0 : ∀ k, k ≠ 2 → U 0 k = T 0 k := fun k q => by rw [← hU]; simp (disch := omega) only [tU_ne]
  have u0c : U 0 2 = T 0 2 + 1 := by rw [← hU]; simp (disch := omega) only [tU_ne, tU_at]
  have u6 : ∀ i, i ≠ (T 0 2) → U 6 i = T 6 i := fun k q => by rw [← hU]; simp (disch := omega) only [tU_ne]
  have u6N : U 6 (T 0 2) = v6 := by rw [← hU]; simp (disch := omega) only [tU_ne, tU_at]
  have u7 : ∀ i, i ≠ (T 0 2) → U 7 i = T 7 i := fun k q => by rw [← hU]; simp (disch := omega) only [tU_ne]
  have u7N : U 7 (T 0 2) = v7 := by rw [← hU]; simp (disch := omega) only [tU_ne, tU_at]
  have u8 : ∀ i, i ≠ (T 0 2) → U 8 i = T 8 i := fun k q => by rw [← hU]; simp (disch := omega) only [tU_ne]
  have u8N : U 8 (T 0 2) = v8 := by rw [← hU]; simp (disch := omega) only [tU_ne, tU_at]
  have ur : ∀ r, r ≠ 0 → r ≠ 6 → r ≠ 7 → r ≠ 8 → U r = T r := fun r _ _ _ _ => by rw [← hU]; simp (disch := omega) only [tU_row]
  clear hU
  have eh : ∀ x i, ¬ (x = 107 ∧ i = 14) → hI (hup (uI hm 107 21 (nI (T 0 2 + 1)))) x i = hI (hup hm) x i := fun x i q => by rw [hup_107, if_neg (by omega)]
  refine ⟨U, ⟨r1, r2, ?_, by simp (disch := omega) only [hI_ne]; exact r4⟩, ⟨WFT_st r5 rfl hN u0 u0c u6 u6N u7 u7N u8 u8N ur b6 b7 b8 b9, ?_, ?_⟩, ⟨?_, ?_, ?_⟩, ?_, ?_⟩
  · exact RTp_fr r3 (fun i hi => by simp (disch := omega) only [hI_ne]) (fun i => by simp (disch := omega) only [hI_ne]) (fun i => by simp (disch := omega) only [hI_ne]) (fun i hi => by simp (disch := omega) only [hI_ne]) (fun i => by simp (disch := omega) only [hI_ne]) (fun i => by simp (disch := omega) only [hI_ne])
  · refine RSc_st r6 rfl u0 u0c u6 u6N u7 u7N u8 u8N ur (fun x i q => by simp (disch := omega) only [hI_ne]) (fun _ _ => rfl) (by simp (disch := omega) only [hI_ne, hI_at]) (by simp (disch := omega) only [hI_ne, hI_at]) (by simp (disch := omega) only [hI_ne, hI_at]) (by simp (disch := omega) only [hI_ne, hI_at])
  · exact RSm_st r7 rfl u0 u0c u6 u6N u7 u7N u8 u8N ur eh (by rw [hup_107, if_pos (by omega)]) m6 m7 m8
  · simp (disch := omega) only [hI_ne]; exact r8
  · simp (disch := omega) only [hI_ne]; exact r9
  · simp (disch := omega) only [hI_ne]; exact r10
  · rw [u0 6 (by decide)]; simp (disch := omega) only [hI_ne]; exact r11
  · rw [u0 6 (by decide), ur 16 (by decide) (by decide) (by decide) (by decide), ur 17 (by decide) (by decide) (by decide) (by decide)]
    intro x hx ht f hf hl
    rw [eh _ _ (by omega)] at hf
    exact r12 x hx ht f hf hl
theorem RD_me {hc hm : Hp} {X : Nat} {T : Tx} {b : Nat → Nat} {n v9 : Nat} (R : RD hc hm X T b n) (hN : T 0 3 < 5) (b9 : v9 < 2 ^ 30)  (m9 : hI hm 120 (5 + T 0 3) = nI v9) : ∃ T', RD (uI (uI (uI hc (X + 18) (T 0 3) (nI 0)) (X + 17) (T 0 3) (nI v9)) (X + 16) 2 (nI (T 0 3 + 1))) (uI hm 107 22 (nI (T 0 3 + 1))) X T' b n := by
  obtain ⟨⟨r1, r2, r3, r4⟩, ⟨r5, r6, r7⟩, ⟨r8, r9, r10⟩, r11, r12⟩ := R
  have x0 : X = 1 ∨ X = 35 := r1
  generalize hU : tU (tU (tU T 0 3 (T 0 3 + 1)) 9 (T 0 3) v9) 10 (T 0 3) 0 = U
  have u0 : ∀ k, k ≠ 3 → U 0 k = T 0 k := fun k q => by rw [← hU]; simp (disch := omega) only [tU_ne]
  have u0c : U 0 3 = T 0 3 + 1 := by rw [← hU]; simp (disch := omega) only [tU_ne, tU_at]
  have u9 : ∀ i, i ≠ (T 0 3) → U 9 i = T 9 i := fun k q => by rw [← hU]; simp (disch := omega) only [tU_ne]
  have u9N : U 9 (T 0 3) = v9 := by rw [← hU]; simp (disch := omega) only [tU_ne, tU_at]
  have u10 : ∀ i, i ≠ (T 0 3) → U 10 i = T 10 i := fun k q => by rw [← hU]; simp (disch := omega) only [tU_ne]
  have u10N : U 10 (T 0 3) = 0 := by rw [← hU]; simp (disch := omega) only [tU_ne, tU_at]
  have ur : ∀ r, r ≠ 0 → r ≠ 9 → r ≠ 10 → U r = T r := fun r _ _ _ => by rw [← hU]; simp (disch := omega) only [tU_row]
  clear hU
  have eh : ∀ x i, ¬ (x = 107 ∧ i = 15) → hI (hup (uI hm 107 22 (nI (T 0 3 + 1)))) x i = hI (hup hm) x i := fun x i q => by rw [hup_107, if_neg (by omega)]
  refine ⟨U, ⟨r1, r2, ?_, by simp (disch := omega) only [hI_ne]; exact r4⟩, ⟨WFT_me r5 rfl hN u0 u0c u9 u9N u10 u10N ur b9 rfl, ?_, ?_⟩, ⟨?_, ?_, ?_⟩, ?_, ?_⟩
  · exact RTp_fr r3 (fun i hi => by simp (disch := omega) only [hI_ne]) (fun i => by simp (disch := omega) only [hI_ne]) (fun i => by simp (disch := omega) only [hI_ne]) (fun i hi => by simp (disch := omega) only [hI_ne]) (fun i => by simp (disch := omega) only [hI_ne]) (fun i => by simp (disch := omega) only [hI_ne])
  · refine RSc_me r6 rfl u0 u0c u9 u9N u10 u10N ur (fun x i q => by simp (disch := omega) only [hI_ne]) (fun _ _ => rfl) (by simp (disch := omega) only [hI_ne, hI_at]) (by simp (disch := omega) only [hI_ne, hI_at]) (by simp (disch := omega) only [hI_ne, hI_at])
  · exact RSm_me r7 rfl u0 u0c u9 u9N u10 u10N ur eh (by rw [hup_107, if_pos (by omega)]) m9 ((r7.2.2.2.2.2.1 (T 0 3) (by omega)).trans (congrArg nI (r5.2.2.2.2.2.2.1 (T 0 3) (Nat.le_refl _))))
  · simp (disch := omega) only [hI_ne]; exact r8
  · simp (disch := omega) only [hI_ne]; exact r9
  · simp (disch := omega) only [hI_ne]; exact r10
  · rw [u0 6 (by decide)]; simp (disch := omega) only [hI_ne]; exact r11
  · rw [u0 6 (by decide), ur 16 (by decide) (by decide) (by decide), ur 17 (by decide) (by decide) (by decide)]
    intro x hx ht f hf hl
    rw [eh _ _ (by omega)] at hf
    exact r12 x hx ht f hf hl
theorem RD_de {hc hm : Hp} {X : Nat} {T : Tx} {b : Nat → Nat} {n v11 v12 v13 : Nat} (R : RD hc hm X T b n) (hN : T 0 4 < 12) (b11 : v11 < T 0 3) (b12 : v12 < T 0 2) (b13 : v13 ≤ 99) (m11 : hI hm 122 (12 + T 0 4) = nI v11) (m12 : hI hm 123 (12 + T 0 4) = nI v12) (m13 : hI hm 124 (12 + T 0 4) = nI v13) : ∃ T', RD (uI (uI (uI (uI hc (X + 19) (T 0 4) (nI v11)) (X + 20) (T 0 4) (nI v12)) (X + 21) (T 0 4) (nI v13)) X 6 (nI (T 0 4 + 1))) (uI hm 107 23 (nI (T 0 4 + 1))) X T' b n := by
  obtain ⟨⟨r1, r2, r3, r4⟩, ⟨r5, r6, r7⟩, ⟨r8, r9, r10⟩, r11, r12⟩ := R
  have x0 : X = 1 ∨ X = 35 := r1
  generalize hU : tU (tU (tU (tU T 0 4 (T 0 4 + 1)) 11 (T 0 4) v11) 12 (T 0 4) v12) 13 (T 0 4) v13 = U
  have u0 : ∀ k, k ≠ 4 → U 0 k = T 0 k := fun k q => by rw [← hU]; simp (disch := omega) only [tU_ne]
  have u0c : U 0 4 = T 0 4 + 1 := by rw [← hU]; simp (disch := omega) only [tU_ne, tU_at]
  have u11 : ∀ i, i ≠ (T 0 4) → U 11 i = T 11 i := fun k q => by rw [← hU]; simp (disch := omega) only [tU_ne]
  have u11N : U 11 (T 0 4) = v11 := by rw [← hU]; simp (disch := omega) only [tU_ne, tU_at]
  have u12 : ∀ i, i ≠ (T 0 4) → U 12 i = T 12 i := fun k q => by rw [← hU]; simp (disch := omega) only [tU_ne]
  have u12N : U 12 (T 0 4) = v12 := by rw [← hU]; simp (disch := omega) only [tU_ne, tU_at]
  have u13 : ∀ i, i ≠ (T 0 4) → U 13 i = T 13 i := fun k q => by rw [← hU]; simp (disch := omega) only [tU_ne]
  have u13N : U 13 (T 0 4) = v13 := by rw [← hU]; simp (disch := omega) only [tU_ne, tU_at]
  have ur : ∀ r, r ≠ 0 → r ≠ 11 → r ≠ 12 → r ≠ 13 → U r = T r := fun r _ _ _ _ => by rw [← hU]; simp (disch := omega) only [tU_row]
  clear hU
  have eh : ∀ x i, ¬ (x = 107 ∧ i = 16) → hI (hup (uI hm 107 23 (nI (T 0 4 + 1)))) x i = hI (hup hm) x i := fun x i q => by rw [hup_107, if_neg (by omega)]
  refine ⟨U, ⟨r1, r2, ?_, by simp (disch := omega) only [hI_ne]; exact r4⟩, ⟨WFT_de r5 rfl hN u0 u0c u11 u11N u12 u12N u13 u13N ur b11 b12 b13, ?_, ?_⟩, ⟨?_, ?_, ?_⟩, ?_, ?_⟩
  · exact RTp_fr r3 (fun i hi => by simp (disch := omega) only [hI_ne]) (fun i => by simp (disch := omega) only [hI_ne]) (fun i => by simp (disch := omega) only [hI_ne]) (fun i hi => by simp (disch := omega) only [hI_ne]) (fun i => by simp (disch := omega) only [hI_ne]) (fun i => by simp (disch := omega) only [hI_ne])
  · refine RSc_de r6 rfl u0 u0c u11 u11N u12 u12N u13 u13N ur (fun x i q => by simp (disch := omega) only [hI_ne]) (fun _ _ => rfl) (by simp (disch := omega) only [hI_ne, hI_at]) (by simp (disch := omega) only [hI_ne, hI_at]) (by simp (disch := omega) only [hI_ne, hI_at]) (by simp (disch := omega) only [hI_ne, hI_at])
  · exact RSm_de r7 rfl u0 u0c u11 u11N u12 u12N u13 u13N ur eh (by rw [hup_107, if_pos (by omega)]) m11 m12 m13
  · simp (disch := omega) only [hI_ne]; exact r8
  · simp (disch := omega) only [hI_ne]; exact r9
  · simp (disch := omega) only [hI_ne]; exact r10
  · rw [u0 6 (by decide)]; simp (disch := omega) only [hI_ne]; exact r11
  · rw [u0 6 (by decide), ur 16 (by decide) (by decide) (by decide) (by decide), ur 17 (by decide) (by decide) (by decide) (by decide)]
    intro x hx ht f hf hl
    rw [eh _ _ (by omega)] at hf
    exact r12 x hx ht f hf hl
theorem RD_sf {hc hm : Hp} {X : Nat} {T : Tx} {b : Nat → Nat} {n v14 v15 : Nat} (R : RD hc hm X T b n) (hN : T 0 5 < 6) (b14 : v14 < T 0 2) (b15 : v15 ≤ 99) (m14 : hI hm 125 (6 + T 0 5) = nI v14) (m15 : hI hm 126 (6 + T 0 5) = nI v15) : ∃ T', RD (uI (uI (uI hc (X + 22) (T 0 5) (nI v14)) (X + 23) (T 0 5) (nI v15)) X 10 (nI (T 0 5 + 1))) (uI hm 107 24 (nI (T 0 5 + 1))) X T' b n := by
  obtain ⟨⟨r1, r2, r3, r4⟩, ⟨r5, r6, r7⟩, ⟨r8, r9, r10⟩, r11, r12⟩ := R
  have x0 : X = 1 ∨ X = 35 := r1
  generalize hU : tU (tU (tU T 0 5 (T 0 5 + 1)) 14 (T 0 5) v14) 15 (T 0 5) v15 = U
  have u0 : ∀ k, k ≠ 5 → U 0 k = T 0 k := fun k q => by rw [← hU]; simp (disch := omega) only [tU_ne]
  have u0c : U 0 5 = T 0 5 + 1 := by rw [← hU]; simp (disch := omega) only [tU_ne, tU_at]
  have u14 : ∀ i, i ≠ (T 0 5) → U 14 i = T 14 i := fun k q => by rw [← hU]; simp (disch := omega) only [tU_ne]
  have u14N : U 14 (T 0 5) = v14 := by rw [← hU]; simp (disch := omega) only [tU_ne, tU_at]
  have u15 : ∀ i, i ≠ (T 0 5) → U 15 i = T 15 i := fun k q => by rw [← hU]; simp (disch := omega) only [tU_ne]
  have u15N : U 15 (T 0 5) = v15 := by rw [← hU]; simp (disch := omega) only [tU_ne, tU_at]
  have ur : ∀ r, r ≠ 0 → r ≠ 14 → r ≠ 15 → U r = T r := fun r _ _ _ => by rw [← hU]; simp (disch := omega) only [tU_row]
  clear hU
  have eh : ∀ x i, ¬ (x = 107 ∧ i = 17) → hI (hup (uI hm 107 24 (nI (T 0 5 + 1)))) x i = hI (hup hm) x i := fun x i q => by rw [hup_107, if_neg (by omega)]
  refine ⟨U, ⟨r1, r2, ?_, by simp (disch := omega) only [hI_ne]; exact r4⟩, ⟨WFT_sf r5 rfl hN u0 u0c u14 u14N u15 u15N ur b14 b15, ?_, ?_⟩, ⟨?_, ?_, ?_⟩, ?_, ?_⟩
  · exact RTp_fr r3 (fun i hi => by simp (disch := omega) only [hI_ne]) (fun i => by simp (disch := omega) only [hI_ne]) (fun i => by simp (disch := omega) only [hI_ne]) (fun i hi => by simp (disch := omega) only [hI_ne]) (fun i => by simp (disch := omega) only [hI_ne]) (fun i => by simp (disch := omega) only [hI_ne])
  · refine RSc_sf r6 rfl u0 u0c u14 u14N u15 u15N ur (fun x i q => by simp (disch := omega) only [hI_ne]) (fun _ _ => rfl) (by simp (disch := omega) only [hI_ne, hI_at]) (by simp (disch := omega) only [hI_ne, hI_at]) (by simp (disch := omega) only [hI_ne, hI_at])
  · exact RSm_sf r7 rfl u0 u0c u14 u14N u15 u15N ur eh (by rw [hup_107, if_pos (by omega)]) m14 m15
  · simp (disch := omega) only [hI_ne]; exact r8
  · simp (disch := omega) only [hI_ne]; exact r9
  · simp (disch := omega) only [hI_ne]; exact r10
  · rw [u0 6 (by decide)]; simp (disch := omega) only [hI_ne]; exact r11
  · rw [u0 6 (by decide), ur 16 (by decide) (by decide) (by decide), ur 17 (by decide) (by decide) (by decide)]
    intro x hx ht f hf hl
    rw [eh _ _ (by omega)] at hf
    exact r12 x hx ht f hf hl
