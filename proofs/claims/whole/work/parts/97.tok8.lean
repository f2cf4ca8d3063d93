/-! text: which word it is, by the reference. -/
theorem wordN_lt : ∀ i, i < 126 → wordN i < 2 ^ 31 := by decide +kernel
theorem m_w57F {h : Hp} {b : Nat → Nat} {n s e k m : Nat} {rec5 : Hp → Int32 → Int32 → Int32 → Int32 → Option (Int32 × Hp)} (tp : TPm h b n) (km : RKm h) (he : e ≤ n) (hm : m = e - s) (hk : k + m < 126) : ∀ (d i fu : Nat), i + d = m → d + 1 < fu → (∃ j, i ≤ j ∧ j < m ∧ wordN (k + j) ≠ b (s + j)) → ∀ x3, fX10_wordAt_57 fu rec5 h (nI s) (nI e) x3 (nI k) (nI m) (nI 1) (nI i) = rec5 h (nI s) (nI e) (x3 + nI 1) (nI (k + (m + 1)))
  | 0, i, fu, hi, _, ⟨j, j1, j2, _⟩, _ => by omega
  | d + 1, i, fu + 1, hi, hf, ⟨j, j1, j2, j3⟩, x3 => by
    have h7 := tp.1
    obtain ⟨b1, b2⟩ := tp.2 (s + i) (by omega)
    have w1 := wordN_lt (k + i) (by omega)
    have w2 := km (k + i) (by omega)
    rw [fX10_wordAt_57]
    by_cases q : wordN (k + i) = b (s + i)
    · have ij : i ≠ j := fun z => j3 (z ▸ q)
      simp (disch := omega) only [lit, ↓reduceIte, leF, eqF, nI_add, inbN, nI_clamp, w2, b2, q, fX10_wordAt_96]
      exact m_w57F tp km he hm hk d (i + 1) fu (by omega) (by omega) ⟨j, by omega, j2, j3⟩ x3
    · obtain ⟨fu', rfl⟩ : ∃ fu', fu = fu' + 1 := ⟨fu - 1, by omega⟩
      simp (disch := omega) only [lit, ↓reduceIte, leF, eqF, nI_add, inbN, nI_clamp, w2, b2, fX10_wordAt_96, fX10_wordAt_57, fX10_wordAt_104]
      by_cases z : m ≤ i + 1
      · simp (disch := omega) only [↓reduceIte, leT]
      · simp (disch := omega) only [↓reduceIte, leF]
theorem m_w57T {h : Hp} {b : Nat → Nat} {n s e k m : Nat} {rec5 : Hp → Int32 → Int32 → Int32 → Int32 → Option (Int32 × Hp)} (tp : TPm h b n) (km : RKm h) (he : e ≤ n) (hm : m = e - s) (hk : k + m < 126) : ∀ (d i fu : Nat), i + d = m → d < fu → (∀ j, i ≤ j → j < m → wordN (k + j) = b (s + j)) → ∀ x3, fX10_wordAt_57 fu rec5 h (nI s) (nI e) x3 (nI k) (nI m) (nI 1) (nI i) = some (x3, h)
  | 0, i, fu + 1, hi, _, _, x3 => by
    rw [fX10_wordAt_57]
    have h7 := tp.1
    simp (disch := omega) only [lit, ↓reduceIte, leT, fX10_wordAt_104, eqF]
  | d + 1, i, fu + 1, hi, hf, al, x3 => by
    have h7 := tp.1
    obtain ⟨b1, b2⟩ := tp.2 (s + i) (by omega)
    have w2 := km (k + i) (by omega)
    have q := al i (Nat.le_refl _) (by omega)
    rw [fX10_wordAt_57]
    simp (disch := omega) only [lit, ↓reduceIte, leF, eqF, nI_add, inbN, nI_clamp, w2, b2, q, fX10_wordAt_96]
    exact m_w57T tp km he hm hk d (i + 1) fu (by omega) (by omega) (fun j h1 h2 => al j (by omega) h2) x3
theorem m_w18 {h : Hp} {s e k : Nat} {rec5 : Hp → Int32 → Int32 → Int32 → Int32 → Option (Int32 × Hp)} (km : RKm h) (hk : k < 23) (he : e ≤ 700) (hs : s ≤ e) {x3 : Int32} : ∀ (d i fu : Nat), i + d = wl k → d < fu → fX10_wordAt_18 fu rec5 h (nI s) (nI e) x3 (nI (wo k)) (nI i) = fX10_wordAt_52 rec5 h (nI s) (nI e) x3 (nI (wo k)) (nI (wl k)) (if wl k = e - s then nI 1 else nI 0)
  | 0, i, fu + 1, hi, _ => by
    obtain ⟨w1, w2, w3, w4, w5⟩ := wf1 k hk
    have hi : i = wl k := by omega
    subst hi
    have w6 := km (wo k + wl k) (by omega)
    have sb : nI e - nI s = nI (e - s) := pk_sub (by omega)
    rw [fX10_wordAt_18]
    simp (disch := omega) only [lit, nI_add, inbN, nI_clamp, w6, w2, ↓reduceIte, sb]
    by_cases q : wl k = e - s
    · rw [if_pos q, if_pos (congrArg nI q)]
    · rw [if_neg q, if_neg (fun z => q (nI_inj (by omega) (by omega) z))]
  | d + 1, i, fu + 1, hi, hf => by
    obtain ⟨w1, w2, w3, w4, w5⟩ := wf1 k hk
    have w6 := km (wo k + i) (by omega)
    have w7 := w1 i (by omega)
    rw [fX10_wordAt_18]
    simp (disch := omega) only [lit, nI_add, inbN, nI_clamp, w6, ↓reduceIte, eqF]
    exact m_w18 km hk he hs d (i + 1) fu (by omega) (by omega)
theorem m_waF {h : Hp} {b : Nat → Nat} {n s e k fu : Nat} (tp : TPm h b n) (km : RKm h) (he : e ≤ n) (hs : s ≤ e) (hk : k < 23) (hn : ¬ mtw b s e k) : fX10_wordAt_5 (fu + 1) h (nI s) (nI e) (nI k) (nI (wo k)) = fX10_wordAt_5 fu h (nI s) (nI e) (nI (k + 1)) (nI (wo (k + 1))) := by
  obtain ⟨w1, w2, w3, w4, w5⟩ := wf1 k hk
  have h7 := tp.1
  rw [fX10_wordAt_5]
  simp (disch := omega) only [lit, ↓reduceIte, leF]
  rw [m_w18 km hk (by omega) hs (wl k) 0 FU (by omega) (by unfold FU; omega)]
  unfold fX10_wordAt_52
  by_cases q : wl k = e - s
  · rw [if_pos q]
    have ex : ∃ j, 0 ≤ j ∧ j < wl k ∧ wordN (wo k + j) ≠ b (s + j) := by
      apply Classical.byContradiction
      intro z
      exact hn ⟨q, fun i hi => Classical.byContradiction (fun y => z ⟨i, Nat.zero_le _, hi, y⟩)⟩
    simp only [lit]
    rw [m_w57F tp km he q (by omega) (wl k) 0 FU (by omega) (by unfold FU; omega) ex (nI k), nI_add]
    rfl
  · rw [if_neg q]
    obtain ⟨fu', hfu⟩ := FUs
    rw [hfu, fX10_wordAt_57]
    simp (disch := omega) only [lit, ↓reduceIte, leF, fX10_wordAt_104, nI_add]
    rfl
theorem m_waT {h : Hp} {b : Nat → Nat} {n s e k fu : Nat} (tp : TPm h b n) (km : RKm h) (he : e ≤ n) (hs : s ≤ e) (hk : k < 23) (hn : mtw b s e k) : fX10_wordAt_5 (fu + 1) h (nI s) (nI e) (nI k) (nI (wo k)) = some (nI k, h) := by
  obtain ⟨w1, w2, w3, w4, w5⟩ := wf1 k hk
  have h7 := tp.1
  rw [fX10_wordAt_5]
  simp (disch := omega) only [lit, ↓reduceIte, leF]
  rw [m_w18 km hk (by omega) hs (wl k) 0 FU (by omega) (by unfold FU; omega)]
  unfold fX10_wordAt_52
  rw [if_pos hn.1]
  simp only [lit]
  exact m_w57T tp km he hn.1 (by omega) (wl k) 0 FU (by omega) (by unfold FU; omega) (fun j _ h2 => hn.2 j h2) (nI k)
theorem m_waL {h : Hp} {b : Nat → Nat} {n s e : Nat} (tp : TPm h b n) (km : RKm h) (he : e ≤ n) (hs : s ≤ e) : ∀ (d k fu : Nat), k + d ≤ 23 → (∀ j, k ≤ j → j < k + d → ¬ mtw b s e j) → d < fu → ∃ fu', fX10_wordAt_5 fu h (nI s) (nI e) (nI k) (nI (wo k)) = fX10_wordAt_5 (fu' + 1) h (nI s) (nI e) (nI (k + d)) (nI (wo (k + d)))
  | 0, k, fu + 1, _, _, _ => ⟨fu, rfl⟩
  | d + 1, k, fu + 1, hk, al, hf => by
    rw [m_waF tp km he hs (by omega) (al k (Nat.le_refl _) (by omega))]
    obtain ⟨fu', a⟩ := m_waL tp km he hs d (k + 1) fu (by omega) (fun j h1 h2 => al j (by omega) (by omega)) (by omega)
    rw [show k + 1 + d = k + (d + 1) by omega] at a
    exact ⟨fu', a⟩
theorem m_wordT {h : Hp} {b : Nat → Nat} {n s e k : Nat} (tp : TPm h b n) (km : RKm h) (he : e ≤ n) (hs : s ≤ e) (hk : k < 23) (hn : mtw b s e k) (al : ∀ j, j < k → ¬ mtw b s e j) : fX10_wordAt h (nI s) (nI e) = some (nI k, h) := by
  obtain ⟨fu', a⟩ := m_waL tp km he hs k 0 FU (by omega) (fun j _ h2 => al j (by omega)) (by unfold FU; omega)
  rw [Nat.zero_add] at a
  unfold fX10_wordAt
  exact a.trans (m_waT tp km he hs hk hn)
theorem m_wordF {h : Hp} {b : Nat → Nat} {n s e : Nat} (tp : TPm h b n) (km : RKm h) (he : e ≤ n) (hs : s ≤ e) (al : ∀ j, j < 23 → ¬ mtw b s e j) : fX10_wordAt h (nI s) (nI e) = some (-nI 1, h) := by
  obtain ⟨fu', a⟩ := m_waL tp km he hs 23 0 FU (by omega) (fun j _ h2 => al j (by omega)) (by decide)
  rw [Nat.zero_add] at a
  unfold fX10_wordAt
  refine a.trans ?_
  rw [fX10_wordAt_5, wf3]
  simp (disch := omega) only [lit, ↓reduceIte, leT]
/-- a word's number, by the reference: packed letters w -/
theorem m_wordAt {h : Hp} {b : Nat → Nat} {n s : Nat} (tp : TPm h b n) (km : RKm h) (hs : s < n) : fX10_wordAt h (nI s) (nI (wdp b (n - s) s 0 0).1) = some (if 6 < (wdp b (n - s) s 0 0).1 - s then -nI 1 else if wix (wdp b (n - s) s 0 0).2 < 23 then nI (swp (wix (wdp b (n - s) s 0 0).2)) else -nI 1, h) := by
  have g1 := wdp_ge b (n - s) s 0 0
  have g2 := wdp_le b (n - s) s 0 0
  have gl := wdp_l b (n - s) s 0 0
  have hr : (wdp b (n - s) s 0 0).1 ≤ s + 6 → (wdp b (n - s) s 0 0).2 = hrN b s (wdp b (n - s) s 0 0).1 6 := fun q => wdp_hr q (n - s) s 0 0 rfl rfl (by rw [hrN, Nat.zero_mul])
  generalize wdp b (n - s) s 0 0 = r at *
  obtain ⟨e, w⟩ := r
  simp only at *
  by_cases q : 6 < e - s
  · rw [if_pos q]
    exact m_wordF tp km (by omega) g1 (fun j hj z => by
      have := (wf1 j hj).2.2.1
      have := z.1
      omega)
  · rw [if_neg q]
    have mt : ∀ j, j < 23 → (mtw b s e j ↔ w = langN (swp j)) := fun j hj => by rw [hr (by omega)]; exact mt_iff hj gl (by omega)
    by_cases z : wix w < 23
    · rw [if_pos z]
      obtain ⟨s1, s2⟩ := swp_lt _ z
      refine m_wordT tp km (by omega) g1 s1 ((mt _ s1).mpr (by rw [s2]; exact (wix_lt z).symm)) (fun j hj y => ?_)
      have y := (mt j (by omega)).mp y
      have s3 := swp_lt j (by omega)
      have := lgN_ne _ z _ s3.1 ((wix_lt z).trans y)
      rw [this, s3.2] at hj
      omega
    · rw [if_neg z]
      exact m_wordF tp km (by omega) g1 (fun j hj y => wix_ge z _ (swp_lt j hj).1 ((mt j hj).mp y).symm)
