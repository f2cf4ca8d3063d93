/-! held. -/
def allB (f : Nat → Bool) (k : Nat) : Nat → Bool
  | 0 => true
  | d + 1 => f k && allB f (k + 1) d
theorem allB_all {f : Nat → Bool} : ∀ {d k : Nat}, (∀ t, k ≤ t → t < k + d → f t = true) → allB f k d = true
  | 0, k, _ => rfl
  | d + 1, k, h => by rw [allB, h k (by omega) (by omega), allB_all (fun t h1 h2 => h t (by omega) (by omega))]; rfl
theorem allB_app {f : Nat → Bool} : ∀ {d e k : Nat}, allB f k (d + e) = (allB f k d && allB f (k + d) e)
  | 0, e, k => by simp [allB]
  | d + 1, e, k => by rw [show d + 1 + e = (d + e) + 1 by omega, allB, allB, allB_app, show k + 1 + d = k + (d + 1) by omega, Bool.and_assoc]
def b2n (b : Bool) : Nat := if b then 1 else 0
theorem b2n_le (b : Bool) : b2n b ≤ 1 := by unfold b2n; split <;> omega
def okB (x w a : Int32) : Bool := decide ((if x < w then nI 0 else nI 1) = a)
/-- what entry t says of night n, by a row of wins -/
def fB (h : Hp) (wn : Nat → Int32) (K n t : Nat) : Bool := if K.testBit t = true ∧ hI h 98 t = nI n then okB (wn (hI h 99 t).toNatClampNeg) (hI h 100 t) (hI h 101 t) else true
theorem mj (j : Nat) : nI j + -nI 1 = nI j - nI 1 := (Int32.sub_eq_add_neg ..).symm
theorem mj1 (j : Nat) : nI (j + 1) - nI 1 = nI j := nI_pred j
/-- the known ones: entries that aren't struck -/
def KnF (hc hm : Hp) (L K G : Nat) : Prop := (∀ t, t < L → hI hm 148 t = nI (if G.testBit t then 0 else 1)) ∧ (∀ t, K.testBit t = true ↔ (t < L ∧ G.testBit t = false ∧ hI hc 102 t = -nI 1))
section V
variable {hc : Hp} {S : Nat} {T : Tx}
/-- the entries of the memory -/
def EnM (hc hm : Hp) (T : Tx) (k : Nat) : Prop := (hI hc 102 k = -nI 1 ∧ (∃ t, 1 ≤ t ∧ t ≤ 60 ∧ hI hc 98 k = nI t ∧ hI hm 147 (4 * k) = nI t) ∧ (∃ m, m < T 0 3 ∧ hI hc 99 k = nI m ∧ hI hm 147 (4 * k + 1) = nI m) ∧ (∃ x, x ≤ 12 ∧ hI hc 100 k = nI x ∧ hI hm 147 (4 * k + 2) = nI x) ∧ ∃ a, a ≤ 1 ∧ hI hc 101 k = nI a ∧ hI hm 147 (4 * k + 3) = nI a) ∨ (∃ t, t < k ∧ hI hc 102 k = nI t ∧ hI hm 147 (4 * k) = -nI 1 ∧ hI hm 147 (4 * k + 1) = nI t)
theorem s_kn {L : Nat} (hL : L ≤ 24) (x1 : Int32) : ∀ (j fu fu' G K : Nat) (hm : Hp), j ≤ L → j < fu → j < fu' → (∀ k, k < L → EnM hc hm T k) → (∀ t, G.testBit t = true → t < 24) → (∀ t, t < L → hI hm 148 t = nI (if G.testBit t then 0 else 1)) → (∀ t, K.testBit t = true ↔ (j ≤ t ∧ t < L ∧ G.testBit t = false ∧ hI hc 102 t = -nI 1)) → ∃ G' K' hm', K' < 2 ^ 24 ∧ fX2_knownOnes_16 fu hc (nI G) (nI K) (nI j - nI 1) = some (nI K', hc) ∧ fX10_heldBits_30 fu' hm x1 (nI j - nI 1) = fX10_heldBits_80 FU hm' x1 (nI 0) (nI 0) ∧ KnF hc hm' L K' G' ∧ Fr (fun a _ => a = 148) (fun _ _ => False) hm hm'
  | 0, fu + 1, fu' + 1, G, K, hm, hj, _, _, hE, hG, hC, hK => by
    refine ⟨G, K, hm, ?_, ?_, ?_, ⟨hC, fun t => ?_⟩, Fr.rf⟩
    · apply tb_lt
      intro i hi
      rw [← Bool.not_eq_true, hK i]
      omega
    · rw [fX2_knownOnes_16, if_pos (by decide)]
    · rw [fX10_heldBits_30, if_pos (by decide)]; rfl
    · rw [hK t]; exact ⟨fun z => z.2, fun z => ⟨by omega, z⟩⟩
  | j + 1, fu + 1, fu' + 1, G, K, hm, hj, h1, h2, hE, hG, hC, hK => by
    have hG31 : G < 2 ^ 31 := Nat.lt_of_lt_of_le (tb_lt (k := 24) (fun i hi => by
      cases e : G.testBit i with
      | false => rfl
      | true => have := hG i e; omega)) (by decide)
    have hCj := hC j (by omega)
    rw [fX2_knownOnes_16, fX10_heldBits_30, mj1]
    by_cases qg : G.testBit j = true
    · obtain ⟨G', K', hm', a0, a1, a2, a3, a4⟩ := s_kn hL x1 j fu fu' G K hm (by omega) (by omega) (by omega) hE hG hC (fun t => by
        rw [hK t]
        constructor
        · rintro ⟨z1, z2⟩; exact ⟨by omega, z2⟩
        · rintro ⟨z1, z2, z3, z4⟩
          refine ⟨?_, z2, z3, z4⟩
          by_cases e : t = j
          · subst e; rw [qg] at z3; cases z3
          · omega)
      rw [if_pos qg] at hCj
      refine ⟨G', K', hm', a0, ?_, ?_, a3, a4⟩
      · simp (disch := omega) only [lit, ↓reduceIte, ltF, shr1F, qg, Bool.true_eq_false, fX2_knownOnes_58, mj]; exact a1
      · simp (disch := omega) only [lit, ↓reduceIte, ltF, inbN, nI_clamp, hCj, fX10_heldBits_70, mj]; exact a2
    · have qg' : G.testBit j = false := by simpa using qg
      rw [if_neg qg] at hCj
      rcases hE j (by omega) with ⟨e1, ⟨t, t1, t2, t3, t4⟩, -⟩ | ⟨t, t1, t2, t3, t4⟩
      · obtain ⟨G', K', hm', a0, a1, a2, a3, a4⟩ := s_kn hL x1 j fu fu' G (K ||| 2 ^ j) hm (by omega) (by omega) (by omega) hE hG hC (fun t => by
          rw [Nat.testBit_or, Bool.or_eq_true, hK t, tb_pow, decide_eq_true_eq]
          constructor
          · rintro (⟨z1, z2⟩ | rfl)
            · exact ⟨by omega, z2⟩
            · exact ⟨Nat.le_refl _, by omega, qg', e1⟩
          · rintro ⟨z1, z2, z3, z4⟩
            by_cases e : j = t
            · exact Or.inr e
            · exact Or.inl ⟨by omega, z2, z3, z4⟩)
        refine ⟨G', K', hm', a0, ?_, ?_, a3, a4⟩
        · simp (disch := omega) only [lit, ↓reduceIte, ltF, shr1F, qg', inbN, nI_clamp, e1, fX2_knownOnes_58, shl1, nx_o, mj]; exact a1
        · simp (disch := omega) only [lit, ↓reduceIte, ltF, inbN, nI_clamp, hCj, eqF, pk_mul, t4, leT, fX10_heldBits_70, mj]; exact a2
      · have hm1 : Fr (fun a _ => a = 148) (fun _ _ => False) hm (uI hm 148 t (nI 0)) := Fr.uI Fr.rf rfl
        have e1 : ¬ hI hc 102 j = -nI 1 := by rw [t2]; exact of_eq_false (ne_m1 (by omega))
        obtain ⟨G', K', hm', a0, a1, a2, a3, a4⟩ := s_kn hL x1 j fu fu' (G ||| 2 ^ t) K (uI hm 148 t (nI 0)) (by omega) (by omega) (by omega) (fun k hk => by
            have := hE k hk
            unfold EnM at this ⊢
            simp (disch := omega) only [hI_ne]
            exact this) (fun i hi => by
            rw [Nat.testBit_or, Bool.or_eq_true, tb_pow, decide_eq_true_eq] at hi
            rcases hi with hi | rfl
            · exact hG i hi
            · omega) (fun i hi => by
            by_cases e : i = t
            · subst e
              rw [hI_at ⟨rfl, rfl⟩, Nat.testBit_or, tb_pow]; simp
            · have e' : ¬ t = i := fun z => e z.symm
              rw [hI_ne (by omega), hC i hi, Nat.testBit_or, tb_pow]; simp [e']) (fun i => by
            rw [hK i, Nat.testBit_or, tb_pow]
            constructor
            · rintro ⟨z1, z2, z3, z4⟩
              have : ¬ t = i := by omega
              exact ⟨by omega, z2, by simp [z3, this], z4⟩
            · rintro ⟨z1, z2, z3, z4⟩
              have e' : i ≠ j := fun z => by subst z; exact e1 z4
              have : G.testBit i = false := by
                cases e : G.testBit i with
                | false => rfl
                | true => rw [e] at z3; simp at z3
              exact ⟨by omega, z2, this, z4⟩)
        refine ⟨G', K', hm', a0, ?_, ?_, a3, hm1.tr a4⟩
        · have e2 : (nI t = -nI 1) = False := ne_m1 (by omega)
          simp (disch := omega) only [lit, ↓reduceIte, ltF, shr1F, qg', inbN, nI_clamp, t2, e2, fX2_knownOnes_58, shl1, nx_o, mj]; exact a1
        · have e2 : (nI 0 ≤ -nI 1) = False := le_m1 (by omega)
          simp (disch := omega) only [lit, ↓reduceIte, ltF, inbN, nI_clamp, hCj, eqF, pk_mul, t3, e2, nI_add, t4, fX10_heldBits_70, mj]; exact a2
/-- all count at first -/
theorem m_cn {L : Nat} (hL : L ≤ 24) {x1 : Int32} : ∀ (d k fu : Nat) (hm : Hp), k + d = L → d < fu → (∀ g : Hp, (∀ i, hI g 107 i = hI hm 107 i) → fX10_knownBy g = some (nI L, g)) → ∃ hm', fX10_heldBits_2 fu hm x1 (nI k) = fX10_heldBits_30 FU hm' x1 (nI L - nI 1) ∧ (∀ t, k ≤ t → t < L → hI hm' 148 t = nI 1) ∧ Fr (fun a i => a = 148 ∧ k ≤ i) (fun _ _ => False) hm hm'
  | 0, k, fu + 1, hm, hk, _, hb => by
    have e : k = L := by omega
    subst e
    refine ⟨hm, ?_, fun t h1 h2 => by omega, Fr.rf⟩
    rw [fX10_heldBits_2]
    simp (disch := omega) only [lit, hb hm (fun _ => rfl), bnd_some, ↓reduceIte, leT]
  | d + 1, k, fu + 1, hm, hk, hf, hb => by
    obtain ⟨hm', a1, a2, a3⟩ := m_cn hL (x1 := x1) d (k + 1) fu (uI hm 148 k (nI 1)) (by omega) (by omega) (fun g hg => hb g (fun i => by rw [hg i, hI_ne (by omega)]))
    refine ⟨hm', ?_, fun t h1 h2 => ?_, Fr.tr (Fr.uI Fr.rf (by omega)) (a3.mono (fun a i q => by omega) (fun _ _ q => q))⟩
    · rw [fX10_heldBits_2]
      simp (disch := omega) only [lit, hb hm (fun _ => rfl), bnd_some, ↓reduceIte, leF, inbN, nI_clamp, nI_add]
      exact a1
    · by_cases q : t = k
      · subst q; rw [a3.1 _ _ (by omega), hI_at ⟨rfl, rfl⟩]
      · exact a2 t (by omega) h2
theorem x_late1 {h : Hp} {K : Nat} (hK : K < 2 ^ 24) {nn : Nat → Nat} (hn : ∀ t, K.testBit t = true → nn t ≤ 60 ∧ hI h 98 t = nI (nn t)) : ∀ (d k fu : Nat), k + d = 24 → d < fu → fX2_latestNight_4 fu h (nI K) (nI (mwN nn K k)) (nI k) = some (nI (mwN nn K 24), h)
  | 0, k, fu + 1, hk, _ => by
    have e : k = 24 := by omega
    subst e
    rw [fX2_latestNight_4]; simp (disch := omega) only [lit, ↓reduceIte, leT]
  | d + 1, k, fu + 1, hk, hf => by
    have ih := x_late1 hK hn d (k + 1) fu (by omega) (by omega)
    have hb : mwN nn K k ≤ 99 := mwN_le (fun j hj => by have := (hn j hj).1; omega)
    rw [fX2_latestNight_4]
    by_cases q : K.testBit k = true
    · obtain ⟨n1, n2⟩ := hn k q
      by_cases q2 : nn k ≤ mwN nn K k
      · have e : mwN nn K (k + 1) = mwN nn K k := by rw [mwN, if_neg (fun z => by omega)]
        rw [e] at ih
        simp (disch := omega) only [lit, ↓reduceIte, leF, leT, shr1T, q, inbN, nI_clamp, n2, fX2_latestNight_36, nI_add]
        exact ih
      · have e : mwN nn K (k + 1) = nn k := by rw [mwN, if_pos ⟨q, by omega⟩]
        rw [e] at ih
        simp (disch := omega) only [lit, ↓reduceIte, leF, leT, shr1T, q, inbN, nI_clamp, n2, fX2_latestNight_36, nI_add]
        exact ih
    · have e : mwN nn K (k + 1) = mwN nn K k := by rw [mwN, if_neg (fun z => q z.1)]
      rw [e] at ih
      simp (disch := omega) only [lit, ↓reduceIte, leF, shr1T, q, Bool.false_eq_true, fX2_latestNight_36, nI_add]
      exact ih
/-- what the class checks of a night -/
theorem x_bo1 {h : Hp} {K n : Nat} (hK : K < 2 ^ 24) (hn : n < 2 ^ 31) (hnt : hI h 84 1 = nI n) (hE : ∀ t, K.testBit t = true → ∃ m, m < 5 ∧ hI h 99 t = nI m) : ∀ (d k fu : Nat), k + d = 24 → d < fu → fX2_isBorneOut_2 fu 84 h (nI K) (nI k) = some (nI (b2n (allB (fB h (fun i => hI h 87 i) K n) k d)), h)
  | 0, k, fu + 1, hk, _ => by
    have e : k = 24 := by omega
    subst e
    rw [fX2_isBorneOut_2]; simp (disch := omega) only [lit, ↓reduceIte, leT]; rfl
  | d + 1, k, fu + 1, hk, hf => by
    have ih := x_bo1 hK hn hnt hE d (k + 1) fu (by omega) (by omega)
    have hW4 : isW 84 := Or.inr (Or.inr rfl)
    rw [fX2_isBorneOut_2, allB]
    by_cases q : K.testBit k = true
    · obtain ⟨m, hm, e99⟩ := hE k q
      by_cases q2 : hI h 98 k = nI n
      · have ef : fB h (fun i => hI h 87 i) K n k = okB (hI h 87 m) (hI h 100 k) (hI h 101 k) := by unfold fB; rw [if_pos ⟨q, q2⟩, e99, nI_clamp (by omega)]
        rw [ef]
        have w87 : hI h (84 + 3) m = hI h 87 m := rfl
        unfold okB
        by_cases q3 : hI h 87 m < hI h 100 k
        · by_cases q4 : nI 0 = hI h 101 k
          · rw [if_pos q3, decide_eq_true q4, Bool.true_and, ← ih]
            simp (disch := omega) only [lit, ↓reduceIte, leF, ltF, shr1T, q, inbN, nI_clamp, q2, hnt, e99, fX8_wonBy, rW7 hW4, w87, bnd_some, q3, fX2_isBorneOut_54, fX2_isBorneOut_65, nI_add]
            rw [if_pos q4]
          · rw [if_pos q3, decide_eq_false q4, Bool.false_and]
            simp (disch := omega) only [lit, ↓reduceIte, leF, ltF, shr1T, q, inbN, nI_clamp, q2, hnt, e99, fX8_wonBy, rW7 hW4, w87, bnd_some, q3, fX2_isBorneOut_54, fX2_isBorneOut_65, nI_add]
            rw [if_neg q4]; rfl
        · by_cases q4 : nI 1 = hI h 101 k
          · rw [if_neg q3, decide_eq_true q4, Bool.true_and, ← ih]
            simp (disch := omega) only [lit, ↓reduceIte, leF, ltF, shr1T, q, inbN, nI_clamp, q2, hnt, e99, fX8_wonBy, rW7 hW4, w87, bnd_some, q3, fX2_isBorneOut_54, fX2_isBorneOut_65, nI_add]
            rw [if_pos q4]
          · rw [if_neg q3, decide_eq_false q4, Bool.false_and]
            simp (disch := omega) only [lit, ↓reduceIte, leF, ltF, shr1T, q, inbN, nI_clamp, q2, hnt, e99, fX8_wonBy, rW7 hW4, w87, bnd_some, q3, fX2_isBorneOut_54, fX2_isBorneOut_65, nI_add]
            rw [if_neg q4]; rfl
      · have ef : fB h (fun i => hI h 87 i) K n k = true := by unfold fB; rw [if_neg (fun z => q2 z.2)]
        rw [ef, Bool.true_and, ← ih]
        simp (disch := omega) only [lit, ↓reduceIte, leF, shr1T, q, inbN, nI_clamp, q2, hnt, fX2_isBorneOut_65, nI_add]
    · have ef : fB h (fun i => hI h 87 i) K n k = true := by unfold fB; rw [if_neg (fun z => q z.1)]
      rw [ef, Bool.true_and, ← ih]
      simp (disch := omega) only [lit, ↓reduceIte, leF, shr1T, q, Bool.false_eq_true, fX2_isBorneOut_65, nI_add]
/-- what the reference checks of a night -/
theorem m_so1 {hm : Hp} {L K G n : Nat} (hL : L ≤ 24) (hM5 : T 0 3 ≤ 5) (hn1 : n < 2 ^ 31) (hE : ∀ k, k < L → EnM hc hm T k) (hF : KnF hc hm L K G) (hb : fX10_knownBy hm = some (nI L, hm)) (hw : ∀ i, i < 5 → hI hc 87 i = hI hm 140 (5 + i)) : ∀ (d k fu : Nat), k + d = L → d < fu → fX10_isSo_2 fu hm (nI n) (nI k) = some (nI (b2n (allB (fB hc (fun i => hI hc 87 i) K n) k d)), hm)
  | 0, k, fu + 1, hk, _ => by
    have e : k = L := by omega
    subst e
    rw [fX10_isSo_2]; simp (disch := omega) only [lit, hb, bnd_some, ↓reduceIte, leT]; rfl
  | d + 1, k, fu + 1, hk, hf => by
    have ih := m_so1 hL hM5 hn1 hE hF hb hw d (k + 1) fu (by omega) (by omega)
    have hC := hF.1 k (by omega)
    have hKk := hF.2 k
    rw [fX10_isSo_2, allB]
    by_cases qg : G.testBit k = true
    · rw [if_pos qg] at hC
      have hK0 : ¬ K.testBit k = true := by rw [hKk, qg]; rintro ⟨-, z, -⟩; cases z
      have ef : fB hc (fun i => hI hc 87 i) K n k = true := by unfold fB; rw [if_neg (fun z => hK0 z.1)]
      rw [ef, Bool.true_and, ← ih]
      simp (disch := omega) only [lit, hb, bnd_some, ↓reduceIte, leF, inbN, nI_clamp, hC, fX10_isSo_93, nI_add]
    · have qg' : G.testBit k = false := by simpa using qg
      rw [if_neg qg] at hC
      rcases hE k (by omega) with ⟨e1, ⟨t, t1, t2, t3, t4⟩, ⟨m, m1, m2, m3⟩, ⟨x, y1, y2, y3⟩, ⟨a, a1, a2, a3⟩⟩ | ⟨t, t1, t2, t3, t4⟩
      · have hK1 : K.testBit k = true := hKk.mpr ⟨by omega, qg', e1⟩
        by_cases q2 : t = n
        · subst q2
          have ef : fB hc (fun i => hI hc 87 i) K t k = okB (hI hc 87 m) (nI x) (nI a) := by unfold fB; rw [if_pos ⟨hK1, t3⟩, m2, nI_clamp (by omega), y2, a2]
          rw [ef]
          have w := hw m (by omega)
          have s1 : ∀ s0 : Nat, s0 ≤ 1 → fX10_isSo_69 (fX10_isSo_2 fu) hm (nI t) (nI k) (nI s0) = if s0 = a then fX10_isSo_2 fu hm (nI t) (nI (k + 1)) else some (nI 0, hm) := by
            intro s0 hs0
            unfold fX10_isSo_69 fX10_isSo_88 fX10_isSo_93
            by_cases qa : a = 1
            · subst qa
              simp (disch := omega) only [lit, pk_mul, nI_add, inbN, nI_clamp, ↓reduceIte, a3, nI_eqP]
            · have : a = 0 := by omega
              subst this
              simp (disch := omega) only [lit, pk_mul, nI_add, inbN, nI_clamp, ↓reduceIte, a3, eqF, nI_eqP]
          unfold okB
          by_cases q3 : hI hc 87 m < nI x
          · have q3' : hI hm 140 (5 + m) < nI x := by rw [← w]; exact q3
            simp (disch := omega) only [lit, hb, bnd_some, ↓reduceIte, leF, inbN, nI_clamp, hC, eqF, pk_mul, nI_add, t4, m3, y3, q3', s1, q3]
            by_cases q4 : 0 = a
            · subst q4; simp only [decide_true, Bool.true_and, ← ih, ↓reduceIte]
            · rw [if_neg q4, decide_eq_false (fun z => q4 (nI_inj (by omega) (by omega) z))]; rfl
          · have q3' : ¬ hI hm 140 (5 + m) < nI x := by rw [← w]; exact q3
            simp (disch := omega) only [lit, hb, bnd_some, ↓reduceIte, leF, inbN, nI_clamp, hC, eqF, pk_mul, nI_add, t4, m3, y3, q3', s1, q3]
            by_cases q4 : 1 = a
            · subst q4; simp only [decide_true, Bool.true_and, ← ih, ↓reduceIte]
            · rw [if_neg q4, decide_eq_false (fun z => q4 (nI_inj (by omega) (by omega) z))]; rfl
        · have ef : fB hc (fun i => hI hc 87 i) K n k = true := by unfold fB; rw [if_neg (fun z => q2 (nI_inj (by omega) (by omega) (t3.symm.trans z.2)))]
          rw [ef, Bool.true_and, ← ih]
          simp (disch := omega) only [lit, hb, bnd_some, ↓reduceIte, leF, inbN, nI_clamp, hC, eqF, pk_mul, t4, fX10_isSo_93, nI_add]
      · have hK0 : ¬ K.testBit k = true := by rw [hKk]; rintro ⟨-, -, z⟩; rw [t2] at z; exact of_eq_false (ne_m1 (n := t) (by omega)) z
        have ef : fB hc (fun i => hI hc 87 i) K n k = true := by unfold fB; rw [if_neg (fun z => hK0 z.1)]
        have e2 : (-nI 1 = nI n) = False := m1_ne hn1
        rw [ef, Bool.true_and, ← ih]
        simp (disch := omega) only [lit, hb, bnd_some, ↓reduceIte, leF, inbN, nI_clamp, hC, eqF, pk_mul, t3, e2, fX10_isSo_93, nI_add]
end V
