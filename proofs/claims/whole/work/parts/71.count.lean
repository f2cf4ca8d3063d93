/-! Sums; count; claim. -/
def sm (f : Nat → Int32) : Nat → Int32
  | 0 => nI 0
  | k + 1 => sm f k + f k
theorem sm_congr {f g : Nat → Int32} : ∀ {n : Nat}, (∀ i, i < n → f i = g i) → sm f n = sm g n
  | 0, _ => rfl
  | n + 1, h => by rw [sm, sm, sm_congr (fun i hi => h i (by omega)), h n (by omega)]
theorem sm_zero {f : Nat → Int32} {n : Nat} : ∀ {d : Nat}, (∀ i, n ≤ i → i < n + d → f i = nI 0) → sm f (n + d) = sm f n
  | 0, _ => rfl
  | d + 1, h => by
    show sm f (n + d) + f (n + d) = sm f n
    rw [sm_zero (fun i h1 h2 => h i h1 (by omega)), h (n + d) (by omega) (by omega)]
    exact Int32.add_zero _
theorem x_won1 {h : Hp} {W : Nat} (hW : isW W) : ∀ (d k fu : Nat), k + d = 5 → d < fu → fX8_wonByAll_4 fu W h (sm (fun i => hI h (W + 3) i) k) (nI k) = some (sm (fun i => hI h (W + 3) i) 5, h)
  | 0, k, fu + 1, hk, _ => by
    have e : k = 5 := by omega
    subst e
    rw [fX8_wonByAll_4]; simp (disch := omega) only [lit, ↓reduceIte, leT]
  | d + 1, k, fu + 1, hk, hf => by
    have ih := x_won1 (h := h) hW d (k + 1) fu (by omega) (by omega)
    rw [fX8_wonByAll_4]
    simp (disch := omega) only [lit, ↓reduceIte, leF, inbN, nI_clamp, rW7 hW, nI_add]
    exact ih
theorem x_won {h : Hp} {W : Nat} (hW : isW W) : fX8_wonByAll W h = some (sm (fun i => hI h (W + 3) i) 5, h) := by
  unfold fX8_wonByAll; exact x_won1 hW 5 0 FU rfl (by decide)
theorem x_bea1 {h : Hp} {W : Nat} (hW : isW W) : ∀ (d k fu : Nat), k + d = 5 → d < fu → fX8_beatenByAll_4 fu W h (sm (fun i => hI h (W + 4) i) k) (nI k) = some (sm (fun i => hI h (W + 4) i) 5, h)
  | 0, k, fu + 1, hk, _ => by
    have e : k = 5 := by omega
    subst e
    rw [fX8_beatenByAll_4]; simp (disch := omega) only [lit, ↓reduceIte, leT]
  | d + 1, k, fu + 1, hk, hf => by
    have ih := x_bea1 (h := h) hW d (k + 1) fu (by omega) (by omega)
    rw [fX8_beatenByAll_4]
    simp (disch := omega) only [lit, ↓reduceIte, leF, inbN, nI_clamp, rW8 hW, nI_add]
    exact ih
theorem x_bea {h : Hp} {W : Nat} (hW : isW W) : fX8_beatenByAll W h = some (sm (fun i => hI h (W + 4) i) 5, h) := by
  unfold fX8_beatenByAll; exact x_bea1 hW 5 0 FU rfl (by decide)
theorem x_ful1 {h : Hp} {W : Nat} (hW : isW W) : ∀ (d k fu : Nat), k + d = 5 → d < fu → fX8_fullOfAll_4 fu W h (sm (fun i => hI h (W + 1) i) k) (nI k) = some (sm (fun i => hI h (W + 1) i) 5, h)
  | 0, k, fu + 1, hk, _ => by
    have e : k = 5 := by omega
    subst e
    rw [fX8_fullOfAll_4]; simp (disch := omega) only [lit, ↓reduceIte, leT]
  | d + 1, k, fu + 1, hk, hf => by
    have ih := x_ful1 (h := h) hW d (k + 1) fu (by omega) (by omega)
    rw [fX8_fullOfAll_4]
    simp (disch := omega) only [lit, ↓reduceIte, leF, inbN, nI_clamp, rW5 hW, nI_add]
    exact ih
theorem x_ful {h : Hp} {W : Nat} (hW : isW W) : fX8_fullOfAll W h = some (sm (fun i => hI h (W + 1) i) 5, h) := by
  unfold fX8_fullOfAll; exact x_ful1 hW 5 0 FU rfl (by decide)
theorem m_sum1 {h : Hp} {r b : Nat} (hb : b ≤ 1) : ∀ (d k fu : Nat), k + d = 5 → d < fu → fX10_sumOf_4 fu r 10 h (nI b) (sm (fun i => hI h r (5 * b + i)) k) (nI k) = some (sm (fun i => hI h r (5 * b + i)) 5, h)
  | 0, k, fu + 1, hk, _ => by
    have e : k = 5 := by omega
    subst e
    rw [fX10_sumOf_4]; simp (disch := omega) only [lit, ↓reduceIte, leT]
  | d + 1, k, fu + 1, hk, hf => by
    have ih := m_sum1 (h := h) (r := r) hb d (k + 1) fu (by omega) (by omega)
    rw [fX10_sumOf_4]
    simp (disch := omega) only [lit, ↓reduceIte, leF, pk_mul, nI_add, inbN, nI_clamp]
    exact ih
theorem m_sum {h : Hp} {r b : Nat} (hb : b ≤ 1) : fX10_sumOf r 10 h (nI b) = some (sm (fun i => hI h r (5 * b + i)) 5, h) := by
  unfold fX10_sumOf; exact m_sum1 hb 5 0 FU rfl (by decide)
/-- how many are in the shed -/
theorem m_shed1 {h : Hp} {b sh nS : Nat} (hb : b ≤ 1) (h5 : nS ≤ 5) (hn : hI h 107 14 = nI nS) (hs : ∀ i, i < nS → hI h 138 (5 * b + i) = nI (bn sh i)) : ∀ (d k fu : Nat), k + d = nS → d < fu → fX10_shedMany_4 fu h (nI b) (nI (popN sh k)) (nI k) = some (nI (popN sh nS), h)
  | 0, k, fu + 1, hk, _ => by
    have e : k = nS := by omega
    subst e
    rw [fX10_shedMany_4]; simp (disch := omega) only [lit, hn, ↓reduceIte, leT]
  | d + 1, k, fu + 1, hk, hf => by
    have ih := m_shed1 hb h5 hn hs d (k + 1) fu (by omega) (by omega)
    have e := hs k (by omega)
    have ep : popN sh (k + 1) = popN sh k + bn sh k := rfl
    rw [fX10_shedMany_4]
    by_cases q : bn sh k = 0
    · rw [q] at e ep
      simp (disch := omega) only [lit, hn, ↓reduceIte, leF, pk_mul, nI_add, inbN, nI_clamp, e, fX10_shedMany_31]
      rw [← ep]; exact ih
    · have q1 : bn sh k = 1 := by have := bn_le sh k; omega
      rw [q1] at e ep
      simp (disch := omega) only [lit, hn, ↓reduceIte, leF, eqF, pk_mul, nI_add, inbN, nI_clamp, e, fX10_shedMany_31]
      rw [← ep]; exact ih
theorem popN_hi {n k : Nat} (h : n < 2 ^ k) : ∀ {d : Nat}, popN n (k + d) = popN n k
  | 0 => rfl
  | d + 1 => by
    show popN n (k + d) + bn n (k + d) = popN n k
    rw [popN_hi h]
    unfold bn
    rw [lt_tb h (by omega)]; simp
theorem pop_hi {n k : Nat} (h : n < 2 ^ k) (hk : k ≤ 9) : pop n = popN n k := by
  unfold pop
  have := popN_hi h (d := 9 - k)
  rwa [show k + (9 - k) = 9 by omega] at this
section V
variable {hc hm : Hp} {S : Nat} {T : Tx}
theorem s_won {W b : Nat} (hW : isW W) (hb : b ≤ 1) (w : RW hc hm S W b T) : fX8_wonByAll W hc = some (sm (fun i => hI hc (W + 3) i) 5, hc) ∧ fX10_sumOf 140 10 hm (nI b) = some (sm (fun i => hI hc (W + 3) i) 5, hm) :=
  ⟨x_won hW, by rw [m_sum hb, sm_congr (fun i hi => (w.2.2.2.2.1 i hi).1.symm)]⟩
theorem s_bea {W b : Nat} (hW : isW W) (hb : b ≤ 1) (w : RW hc hm S W b T) : fX8_beatenByAll W hc = some (sm (fun i => hI hc (W + 4) i) 5, hc) ∧ fX10_sumOf 141 10 hm (nI b) = some (sm (fun i => hI hc (W + 4) i) 5, hm) :=
  ⟨x_bea hW, by rw [m_sum hb, sm_congr (fun i hi => (w.2.2.2.2.1 i hi).2.symm)]⟩
theorem s_shedn {W b : Nat} (hb : b ≤ 1) (F : WFT T) (Rm : RSm hm T) (w : RW hc hm S W b T) : ∃ v, fJ6_bitCount_0f7a4 hc (hI hc W 2) = some (v, hc) ∧ fX10_shedMany hm (nI b) = some (v, hm) := by
  obtain ⟨sh, w6, w7, w8⟩ := w.2.2.2.2.2.1
  have h5 := F.1.2.2.1
  refine ⟨nI (pop sh), ?_, ?_⟩
  · rw [w7, x_bc (p8 w6 (by omega))]
  · unfold fX10_shedMany
    simp only [lit]
    rw [pop_hi w6 (by omega)]
    exact m_shed1 hb h5 Rm.1.2.2.1 (fun i hi => w8 i (by omega)) (T 0 2) 0 FU (by omega) (Nat.lt_of_le_of_lt h5 (by decide))
theorem x_held1 {h : Hp} {W : Nat} (hW : isW W) {g : Nat → Nat} (hg : ∀ i, i < 5 → g i < 256 ∧ hI h (W + 2) i = nI (g i)) : ∀ (d k fu : Nat), k + d = 5 → d < fu → fX8_heldByAll_4 fu W h (sm (fun i => nI (pop (g i))) k) (nI k) = some (sm (fun i => nI (pop (g i))) 5, h)
  | 0, k, fu + 1, hk, _ => by
    have e : k = 5 := by omega
    subst e
    rw [fX8_heldByAll_4]; simp (disch := omega) only [lit, ↓reduceIte, leT]
  | d + 1, k, fu + 1, hk, hf => by
    have ih := x_held1 hW hg d (k + 1) fu (by omega) (by omega)
    obtain ⟨g1, g2⟩ := hg k (by omega)
    rw [fX8_heldByAll_4]
    simp (disch := omega) only [lit, ↓reduceIte, leF, inbN, nI_clamp, rW6 hW, g2, x_bc, bnd_some, nI_add]
    exact ih
theorem m_held1 {h : Hp} {nM : Nat} (h5 : nM ≤ 5) (hn : hI h 107 15 = nI nM) {g : Nat → Nat} (hg : ∀ i, i < 5 → g i < 256 ∧ hI h 139 i = nI (g i)) : ∀ (d k fu : Nat), k + d = nM → d < fu → fX10_count_185 fu h (sm (fun i => nI (pop (g i))) k) (nI k) = some (sm (fun i => nI (pop (g i))) nM, h)
  | 0, k, fu + 1, hk, _ => by
    have e : k = nM := by omega
    subst e
    rw [fX10_count_185]; simp (disch := omega) only [lit, hn, ↓reduceIte, leT]
  | d + 1, k, fu + 1, hk, hf => by
    have ih := m_held1 h5 hn hg d (k + 1) fu (by omega) (by omega)
    obtain ⟨g1, g2⟩ := hg k (by omega)
    rw [fX10_count_185]
    simp (disch := omega) only [lit, hn, ↓reduceIte, leF, inbN, nI_clamp, g2, m_many, bnd_some, nI_add]
    exact ih
theorem m_full1 {h : Hp} {nS : Nat} (h5 : nS ≤ 5) (hn : hI h 107 14 = nI nS) : ∀ (d k fu : Nat), k + d = nS → d < fu → fX10_count_158 fu h (sm (fun i => hI h 137 i) k) (nI k) = some (sm (fun i => hI h 137 i) nS, h)
  | 0, k, fu + 1, hk, _ => by
    have e : k = nS := by omega
    subst e
    rw [fX10_count_158]; simp (disch := omega) only [lit, hn, ↓reduceIte, leT]
  | d + 1, k, fu + 1, hk, hf => by
    have ih := m_full1 h5 hn d (k + 1) fu (by omega) (by omega)
    rw [fX10_count_158]
    simp (disch := omega) only [lit, hn, ↓reduceIte, leF, inbN, nI_clamp, nI_add]
    exact ih
theorem pop_0 : pop 0 = 0 := by decide
theorem inT_6 : ∀ n, n < 16 → (inT (nI n) 6 15 = true ↔ 6 ≤ n) ∧ (inT (nI n) 0 5 = true ↔ n ≤ 5) := by decide
theorem s_count (s : R2 hc hm S T) (x : Int32) : Ok2 hc hm (fX9_count hc x) (fX10_count hm x) := by
  have s0 := R2_thr s (nI 0)
  obtain ⟨hS, t1, -, F, Rc, Rm, -⟩ := s0.1
  have e0 := dref_of (q := (7, 20)) t1 (sS hS)
  have hW : isW 72 := Or.inl rfl
  have h5 := F.1.2.2.1
  have h5m := F.1.2.2.2.1
  obtain ⟨c0, c1, c2, c3, c4, c5, c6, -⟩ := Rc.1
  obtain ⟨m0, m1, m2, m3, m4, m5, m6, -⟩ := Rm.1
  have w := s0.2.1.1
  have ge : ∀ n, n < 16 → 6 ≤ n → ∀ v, fX9_countNow hc (nI n) = some (v, hc) → fX10_count hm (nI n) = some (v, uI hm 107 2 (nI 0)) → Ok2 hc hm (fX9_count hc (nI n)) (fX10_count hm (nI n)) := by
    intro n h1 h2 v a b
    refine ok_same s (v := v) (x := nI 0) ?_ b
    unfold fX9_count
    simp (disch := omega) only [lit, ↓reduceIte, leT, a, bnd_some]
  have lo : ∀ n, n ≤ 5 → ∀ v, fX9_countTold hc (nI n) = some (v, hc) → fX10_count hm (nI n) = some (v, uI hm 107 2 (nI 0)) → Ok2 hc hm (fX9_count hc (nI n)) (fX10_count hm (nI n)) := by
    intro n h1 v a b
    refine ok_same s (v := v) (x := nI 0) ?_ b
    unfold fX9_count
    simp (disch := omega) only [lit, ↓reduceIte, leF, a, bnd_some]
  by_cases q : inT x 0 15 = true
  · obtain ⟨n, hn, rfl, -⟩ := inT_ex q
    have hn : n < 16 := by omega
    obtain ⟨i6, i5⟩ := inT_6 n hn
    have cn : n = 0 ∨ n = 1 ∨ n = 2 ∨ n = 3 ∨ n = 4 ∨ n = 5 ∨ n = 6 ∨ n = 7 ∨ n = 8 ∨ n = 9 ∨ n = 10 ∨ n = 11 ∨ n = 12 ∨ n = 13 ∨ n = 14 ∨ n = 15 := by omega
    rcases cn with rfl | rfl | rfl | rfl | rfl | rfl | rfl | rfl | rfl | rfl | rfl | rfl | rfl | rfl | rfl | rfl
    · have i := i5.mpr (by decide)
      refine lo 0 (by decide) (nI (T 0 0)) ?_ ?_
      · unfold fX9_countTold; simp (disch := omega) only [lit, i, ↓reduceIte, eqF, e0, bind_some', rS0 hS, rC0 hS, c0]
      · unfold fX10_count; simp (disch := omega) only [lit, q, ↓reduceIte, eqF, m0]
    · have i := i5.mpr (by decide)
      refine lo 1 (by decide) (nI (T 0 1)) ?_ ?_
      · unfold fX9_countTold; simp (disch := omega) only [lit, i, ↓reduceIte, eqF, e0, bind_some', rS0 hS, c1]
      · unfold fX10_count; simp (disch := omega) only [lit, q, ↓reduceIte, eqF, m1]
    · have i := i5.mpr (by decide)
      refine lo 2 (by decide) (nI (T 0 2)) ?_ ?_
      · unfold fX9_countTold; simp (disch := omega) only [lit, i, ↓reduceIte, eqF, e0, bind_some', rS1 hS, c2]
      · unfold fX10_count; simp (disch := omega) only [lit, q, ↓reduceIte, eqF, m2]
    · have i := i5.mpr (by decide)
      refine lo 3 (by decide) (nI (T 0 3)) ?_ ?_
      · unfold fX9_countTold; simp (disch := omega) only [lit, i, ↓reduceIte, eqF, e0, bind_some', rS4 hS, c3]
      · unfold fX10_count; simp (disch := omega) only [lit, q, ↓reduceIte, eqF, m3]
    · have i := i5.mpr (by decide)
      refine lo 4 (by decide) (nI (T 0 4)) ?_ ?_
      · unfold fX9_countTold; simp (disch := omega) only [lit, i, ↓reduceIte, eqF, e0, bind_some', c4]
      · unfold fX10_count; simp (disch := omega) only [lit, q, ↓reduceIte, eqF, m4]
    · have i := i5.mpr (by decide)
      refine lo 5 (by decide) (nI (T 0 6)) ?_ ?_
      · unfold fX9_countTold; simp (disch := omega) only [lit, i, ↓reduceIte, eqF, e0, bind_some', c6]
      · unfold fX10_count; simp (disch := omega) only [lit, q, ↓reduceIte, eqF, m6]
    · have i := i6.mpr (by decide)
      refine ge 6 (by decide) (by decide) (hI hc 72 1) ?_ ?_
      · unfold fX9_countNow; simp (disch := omega) only [lit, i, ↓reduceIte, eqF]
      · unfold fX10_count; simp (disch := omega) only [lit, q, ↓reduceIte, eqF, inbN, nI_clamp]; rw [← w.2.2.2.2.2.2.1]
    · have i := i6.mpr (by decide)
      obtain ⟨a, b⟩ := s_won hW (by decide : 0 ≤ 1) w
      refine ge 7 (by decide) (by decide) (sm (fun i => hI hc (72 + 3) i) 5) ?_ ?_
      · unfold fX9_countNow; simp (disch := omega) only [lit, i, ↓reduceIte, eqF, a, bnd_some]
      · unfold fX10_count; simp (disch := omega) only [lit, q, ↓reduceIte, eqF, b, bnd_some]
    · have i := i6.mpr (by decide)
      obtain ⟨a, b⟩ := s_bea hW (by decide : 0 ≤ 1) w
      refine ge 8 (by decide) (by decide) (sm (fun i => hI hc (72 + 4) i) 5) ?_ ?_
      · unfold fX9_countNow; simp (disch := omega) only [lit, i, ↓reduceIte, eqF, a, bnd_some]
      · unfold fX10_count; simp (disch := omega) only [lit, q, ↓reduceIte, eqF, b, bnd_some]
    · have i := i6.mpr (by decide)
      obtain ⟨v, a, b⟩ := s_shedn (by decide : 0 ≤ 1) F Rm w
      refine ge 9 (by decide) (by decide) v ?_ ?_
      · unfold fX9_countNow; simp (disch := omega) only [lit, i, ↓reduceIte, eqF, a, bnd_some]
      · unfold fX10_count; simp (disch := omega) only [lit, q, ↓reduceIte, eqF, b, bnd_some]
    · have i := i6.mpr (by decide)
      refine ge 10 (by decide) (by decide) (hI hc 72 3) ?_ ?_
      · unfold fX9_countNow; simp (disch := omega) only [lit, i, ↓reduceIte, eqF]
      · unfold fX10_count; simp (disch := omega) only [lit, q, ↓reduceIte, eqF, inbN, nI_clamp]; rw [← w.2.2.2.2.2.2.2]
    · have i := i6.mpr (by decide)
      refine ge 11 (by decide) (by decide) (sm (fun i => hI hc (72 + 1) i) 5) ?_ ?_
      · unfold fX9_countNow; simp (disch := omega) only [lit, i, ↓reduceIte, eqF, x_ful hW, bnd_some]
      · unfold fX10_count; simp (disch := omega) only [lit, q, ↓reduceIte, eqF]
        have a : fX10_count_158 FU (uI hm 107 2 (nI 0)) (nI 0) (nI 0) = some (sm (fun i => hI (uI hm 107 2 (nI 0)) 137 i) (T 0 2), uI hm 107 2 (nI 0)) := m_full1 (h := uI hm 107 2 (nI 0)) h5 m2 (T 0 2) 0 FU (by omega) (Nat.lt_of_le_of_lt h5 (by decide))
        rw [a]
        have e1 : sm (fun i => hI hc (72 + 1) i) 5 = sm (fun i => hI hc (72 + 1) i) (T 0 2) := by
          have := sm_zero (f := fun i => hI hc (72 + 1) i) (n := T 0 2) (d := 5 - T 0 2) (fun i h1 h2 => w.2.2.1 i (by omega) h1)
          rw [show T 0 2 + (5 - T 0 2) = 5 by omega] at this
          exact this
        rw [e1, sm_congr (fun i hi => ?_)]
        obtain ⟨n, n1, n2, n3⟩ := w.2.1 i hi
        rw [show 5 * 0 + i = i by omega] at n3
        rw [n2, n3]
    · have i := i6.mpr (by decide)
      have hg : ∀ i, i < 5 → (hI hc (72 + 2) i).toNatClampNeg < 2 ^ hB T i ∧ hI hc (72 + 2) i = nI (hI hc (72 + 2) i).toNatClampNeg ∧ hI (uI hm 107 2 (nI 0)) 139 i = nI (hI hc (72 + 2) i).toNatClampNeg := by
        intro i hi
        obtain ⟨n, n1, n2, n3⟩ := w.2.2.2.1 i hi
        have := p8 (hB_w n1) F.1.1
        rw [show 5 * 0 + i = i by omega] at n3
        rw [n2, nI_clamp (by omega)]; exact ⟨n1, rfl, n3⟩
      have a : fX8_heldByAll 72 hc = some (sm (fun i => nI (pop (hI hc (72 + 2) i).toNatClampNeg)) 5, hc) := by
        unfold fX8_heldByAll
        exact x_held1 hW (g := fun i => (hI hc (72 + 2) i).toNatClampNeg) (fun i hi => ⟨p8 (hB_w (hg i hi).1) F.1.1, (hg i hi).2.1⟩) 5 0 FU rfl (by decide)
      have b : fX10_count_185 FU (uI hm 107 2 (nI 0)) (nI 0) (nI 0) = some (sm (fun i => nI (pop (hI hc (72 + 2) i).toNatClampNeg)) (T 0 3), uI hm 107 2 (nI 0)) := m_held1 h5m m3 (g := fun i => (hI hc (72 + 2) i).toNatClampNeg) (fun i hi => ⟨p8 (hB_w (hg i hi).1) F.1.1, (hg i hi).2.2⟩) (T 0 3) 0 FU (by omega) (Nat.lt_of_le_of_lt h5m (by decide))
      have e1 : sm (fun i => nI (pop (hI hc (72 + 2) i).toNatClampNeg)) 5 = sm (fun i => nI (pop (hI hc (72 + 2) i).toNatClampNeg)) (T 0 3) := by
        have := sm_zero (f := fun i => nI (pop (hI hc (72 + 2) i).toNatClampNeg)) (n := T 0 3) (d := 5 - T 0 3) (fun i h1 h2 => by
          have h3 := (hg i (by omega)).1
          unfold hB at h3
          rw [if_neg (by omega)] at h3
          show nI (pop (hI hc (72 + 2) i).toNatClampNeg) = nI 0
          rw [show (hI hc (72 + 2) i).toNatClampNeg = 0 by omega, pop_0])
        rw [show T 0 3 + (5 - T 0 3) = 5 by omega] at this
        exact this
      refine ge 12 (by decide) (by decide) (sm (fun i => nI (pop (hI hc (72 + 2) i).toNatClampNeg)) (T 0 3)) ?_ ?_
      · unfold fX9_countNow; simp (disch := omega) only [lit, i, ↓reduceIte, eqF, a, bnd_some]; rw [e1]
      · unfold fX10_count; simp (disch := omega) only [lit, q, ↓reduceIte, eqF, b, bnd_some]
    · have i := i6.mpr (by decide)
      obtain ⟨n, n1, n2, n3, -⟩ := s0.2.2.2.2
      refine ge 13 (by decide) (by decide) (nI n) ?_ ?_
      · unfold fX9_countNow; simp (disch := omega) only [lit, i, ↓reduceIte, eqF, n2]
      · unfold fX10_count; simp (disch := omega) only [lit, q, ↓reduceIte, eqF, n3]
    · have i := i6.mpr (by decide)
      obtain ⟨n, n1, n2, n3, n4, n5, -⟩ := s0.2.2.2.2
      rcases n5 with n5 | ⟨k, k1, k2⟩
      · refine ge 14 (by decide) (by decide) (nI n) ?_ ?_
        · unfold fX9_countNow fX2_knownLimit; simp (disch := omega) only [lit, i, ↓reduceIte, eqF, n5, n2, bnd_some]
        · rw [n5] at n4
          unfold fX10_count fX10_knownBy; simp (disch := omega) only [lit, q, ↓reduceIte, eqF, ← n4, n3, le_m1, bnd_some]
          try rfl
      · refine ge 14 (by decide) (by decide) (nI k) ?_ ?_
        · unfold fX9_countNow fX2_knownLimit; simp (disch := omega) only [lit, i, ↓reduceIte, eqF, k2, ne_m1, bnd_some]
        · rw [k2] at n4
          unfold fX10_count fX10_knownBy; simp (disch := omega) only [lit, q, ↓reduceIte, eqF, ← n4, leT, bnd_some]
    · have i := i6.mpr (by decide)
      obtain ⟨n, p, n1, n2, n3, n4, n5, -⟩ := s0.2.2.1
      refine ge 15 (by decide) (by decide) (nI n) ?_ ?_
      · unfold fX9_countNow; simp (disch := omega) only [lit, i, ↓reduceIte, eqF, n3]
      · unfold fX10_count; simp (disch := omega) only [lit, q, ↓reduceIte, eqF, n5]
  · refine ok_same s (v := -nI 1) (x := nI 0) ?_ ?_
    · have a : ¬ inT x 6 15 = true := fun z => q (by unfold inT at z ⊢; have := of_decide_eq_true z; exact decide_eq_true (by omega))
      have b : ¬ inT x 0 5 = true := fun z => q (by unfold inT at z ⊢; have := of_decide_eq_true z; exact decide_eq_true (by omega))
      unfold fX9_count fX9_countNow fX9_countTold
      simp only [lit, if_neg a, if_neg b, bnd_some]
      split <;> rfl
    · unfold fX10_count
      simp only [lit, if_neg q]
end V
