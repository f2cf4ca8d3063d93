/-! A night, both sides: debates of the night, damp. -/
theorem RW_off {hc hm : Hp} {S W b : Nat} {T : Tx} (hW : isW W) (w : RW hc hm S W b T) : RW (uI hc W 3 (hI hc W 3 + nI 1)) (uI hm 142 b (hI hm 142 b + nI 1)) S W b T := by
  have hW' := Wge hW
  obtain ⟨w1, w2, w3, w4, w5, ⟨sh, w6, w7, w8⟩, w9, w10⟩ := w
  refine ⟨w1, ?_, ?_, ?_, ?_, ⟨sh, w6, ?_, ?_⟩, ?_, ?_⟩
  · intro i hi
    rw [hI_ne (by omega), hI_ne (by omega)]; exact w2 i hi
  · intro i hi h2
    rw [hI_ne (by omega)]; exact w3 i hi h2
  · intro i hi
    rw [hI_ne (by omega), hI_ne (by omega)]; exact w4 i hi
  · intro i hi
    rw [hI_ne (by omega), hI_ne (by omega), hI_ne (by omega), hI_ne (by omega)]; exact w5 i hi
  · rw [hI_ne (by omega)]; exact w7
  · intro i hi; rw [hI_ne (by omega)]; exact w8 i hi
  · rw [hI_ne (by omega), hI_ne (by omega)]; exact w9
  · rw [hI_at ⟨rfl, rfl⟩, hI_at ⟨rfl, rfl⟩, w10]
theorem s_debates {S W b : Nat} {T : Tx} (hS : isS S) (hW : isW W) (hb : b ≤ 1) (F : WFT T) : ∀ (d k fu fu' : Nat) (hc hm : Hp), k + d = T 0 4 → d < fu → d < fu' → RSc hc S T → RSm hm T → RW hc hm S W b T → RG hc hm W → ∃ hc' hm', fX8_passNight_15 fu W hc (nI k) = fX8_passNight_85 W hc' ∧ fX10_nightGoes_69 fu' hm (nI b) (nI k) = fX10_nightGoes_165 FU hm' (nI b) (nI 0) ∧ RW hc' hm' S W b T ∧ FC1 W hc hc' ∧ FM1 b hm hm'
  | 0, k, fu + 1, fu' + 1, hc, hm, hk, _, _, Rc, Rm, w, _ => by
    have e : k = T 0 4 := by omega
    have h6 := F.1.2.2.2.2.1
    refine ⟨hc, hm, ?_, ?_, w, Fr.rf, Fr.rf⟩
    · rw [fX8_passNight_15, dref_of w.1 (sS hS)]
      simp (disch := omega) only [bind_some', Rc.1.2.2.2.2.1, ↓reduceIte, leT, leF]
    · rw [fX10_nightGoes_69]
      simp (disch := omega) only [lit, Rm.1.2.2.2.2.1, ↓reduceIte, leT, leF]
  | d + 1, k, fu + 1, fu' + 1, hc, hm, hk, hf, hf', Rc, Rm, w, g => by
    have h6 := F.1.2.2.2.2.1
    have hs5 := F.1.2.2.1
    have hm5 := F.1.2.2.2.1
    have hW' := Wge hW
    have hkl : k < T 0 4 := by omega
    obtain ⟨c1, c2, c3⟩ := Rc.2.2.2.2.2.2.1 k hkl
    obtain ⟨m1, m2, m3⟩ := Rm.2.2.2.2.2.2.1 k hkl
    obtain ⟨f1, f2, f3⟩ := F.2.2.2.2.2.2.2.1 k hkl
    have e0 := dref_of (q := (7, 20)) w.1 (sS hS)
    have hn : hI hc W 1 = hI hm 143 b := w.2.2.2.2.2.2.1
    have hab : hI hc W 14 = hI hm 107 72 := g.2.2.2.2
    have skip : (∃ hc' hm', fX8_passNight_15 fu W hc (nI (k + 1)) = fX8_passNight_85 W hc' ∧ fX10_nightGoes_69 fu' hm (nI b) (nI (k + 1)) = fX10_nightGoes_165 FU hm' (nI b) (nI 0) ∧ RW hc' hm' S W b T ∧ FC1 W hc hc' ∧ FM1 b hm hm') := s_debates hS hW hb F d (k + 1) fu fu' hc hm (by omega) (by omega) (by omega) Rc Rm w g
    rw [fX8_passNight_15, fX10_nightGoes_69]
    by_cases q : nI (T 13 k) = hI hm 143 b
    · have q' : nI (T 13 k) = hI hc W 1 := by rw [hn]; exact q
      by_cases qa : nI (T 11 k) = hI hm 107 72
      · have qa' : nI (T 11 k) = hI hc W 14 := by rw [hab]; exact qa
        obtain ⟨hc', hm', a1, a2, a3⟩ := skip
        refine ⟨hc', hm', ?_, ?_, a3⟩
        · simp (disch := omega) only [lit, e0, bind_some', Rc.1.2.2.2.2.1, ↓reduceIte, leT, leF, ltT, ltF, eqT, eqF, inbN, nI_clamp, rS9 hS, rS7 hS, c1, c3, q', fX8_takesPlace, qa', bnd_some, fX8_passNight_79, nI_add]
          exact a1
        · simp (disch := omega) only [lit, Rm.1.2.2.2.2.1, ↓reduceIte, leT, leF, inbN, nI_clamp, m1, m3, q, qa, fX10_nightGoes_157, nI_add]
          exact a2
      · have qa' : ¬ nI (T 11 k) = hI hc W 14 := by rw [hab]; exact qa
        have w0 := w
        obtain ⟨w1, w2, w3, w4, w5, ⟨sh, w6, w7, w8⟩, w9, w10⟩ := w0
        have hsh : sh < 2 ^ 31 := Nat.lt_of_lt_of_le w6 (Nat.pow_le_pow_right (by decide) (by omega))
        have w8' := w8 (T 12 k) (by omega)
        by_cases qs : sh.testBit (T 12 k) = true
        · have hb1 : bn sh (T 12 k) = 1 := by unfold bn; rw [if_pos qs]
          rw [hb1] at w8'
          have x1 : FC1 W hc (uI hc W 3 (hI hc W 3 + nI 1)) := Fr.uI Fr.rf (by unfold PcK; omega)
          have x2 : FM1 b hm (uI hm 142 b (hI hm 142 b + nI 1)) := Fr.uI Fr.rf (by unfold PmK; omega)
          obtain ⟨hc', hm', a1, a2, a3, a4, a5⟩ := s_debates hS hW hb F d (k + 1) fu fu' _ _ (by omega) (by omega) (by omega) (FC1_RSc hS hW Rc x1) (FM1_RSm Rm x2) (RW_off hW w) (RG_1 g x1 x2)
          refine ⟨hc', hm', ?_, ?_, a3, Fr.tr x1 a4, Fr.tr x2 a5⟩
          · simp (disch := omega) only [lit, e0, bind_some', Rc.1.2.2.2.2.1, ↓reduceIte, leT, leF, ltT, ltF, eqT, eqF, inbN, nI_clamp, rS9 hS, rS7 hS, rS8 hS, c1, c2, c3, q', fX8_takesPlace, qa', fX8_inShed, w7, shr1T, qs, bnd_some, fX8_takesPlace_56, fX8_passNight_79, nI_add]
            exact a1
          · simp (disch := omega) only [lit, Rm.1.2.2.2.2.1, ↓reduceIte, leT, leF, eqF, inbN, nI_clamp, m1, m2, m3, q, qa, pk_mul, nI_add, w8', fX10_nightGoes_157]
            exact a2
        · have hb0 : bn sh (T 12 k) = 0 := by unfold bn; rw [if_neg qs]
          rw [hb0] at w8'
          obtain ⟨win, hc1, hm1, b0, b1, b2, b3, b4, b5⟩ := s_contend hS hW hb Rc Rm F w g f1 f2
          have x1 := Pd_FC1 b4
          have x2 := Pe_FM1 (show T 11 k < 5 by omega) (show T 12 k < 5 by omega) b5
          obtain ⟨hc', hm', a1, a2, a3, a4, a5⟩ := s_debates hS hW hb F d (k + 1) fu fu' _ _ (by omega) (by omega) (by omega) (FC1_RSc hS hW Rc x1) (FM1_RSm Rm x2) b3 (RG_1 g x1 x2)
          refine ⟨hc', hm', ?_, ?_, a3, Fr.tr x1 a4, Fr.tr x2 a5⟩
          · simp (disch := omega) only [lit, e0, bind_some', Rc.1.2.2.2.2.1, ↓reduceIte, leT, leF, ltT, ltF, eqT, eqF, inbN, nI_clamp, rS9 hS, rS7 hS, rS8 hS, c1, c2, c3, q', fX8_takesPlace, qa', fX8_inShed, w7, shr1T, qs, Bool.false_eq_true, bnd_some, fX8_takesPlace_56, b1, fX8_passNight_79, nI_add]
            exact a1
          · simp (disch := omega) only [lit, Rm.1.2.2.2.2.1, ↓reduceIte, leT, leF, eqT, eqF, inbN, nI_clamp, m1, m2, m3, q, qa, pk_mul, nI_add, w8', b2, bnd_some, fX10_nightGoes_157]
            exact a2
    · have q' : ¬ nI (T 13 k) = hI hc W 1 := by rw [hn]; exact q
      obtain ⟨hc', hm', a1, a2, a3⟩ := skip
      refine ⟨hc', hm', ?_, ?_, a3⟩
      · simp (disch := omega) only [lit, e0, bind_some', Rc.1.2.2.2.2.1, ↓reduceIte, leT, leF, inbN, nI_clamp, rS9 hS, c3, q', fX8_passNight_79, nI_add]
        exact a1
      · simp (disch := omega) only [lit, Rm.1.2.2.2.2.1, ↓reduceIte, leT, leF, inbN, nI_clamp, m3, q, fX10_nightGoes_157, nI_add]
        exact a2
/-- late nights: nothing is told of them -/
theorem m_late1 {b : Nat} {T : Tx} (hb : b ≤ 1) (F : WFT T) {hm : Hp} (Rm : RSm hm T) (hn : nI 99 < hI hm 143 b) : ∀ (d k fu : Nat), k + d = T 0 5 → d < fu → fX10_nightGoes_2 fu hm (nI b) (nI k) = fX10_nightGoes_69 FU hm (nI b) (nI 0)
  | 0, k, fu + 1, hk, _ => by
    have e : k = T 0 5 := by omega
    have h6 := F.1.2.2.2.2.2.1
    rw [fX10_nightGoes_2]
    simp (disch := omega) only [lit, Rm.1.2.2.2.2.2.1, ↓reduceIte, leT, leF]
  | d + 1, k, fu + 1, hk, hf => by
    have h6 := F.1.2.2.2.2.2.1
    have hkl : k < T 0 5 := by omega
    obtain ⟨m1, m2⟩ := Rm.2.2.2.2.2.2.2.1 k hkl
    obtain ⟨f1, f2⟩ := F.2.2.2.2.2.2.2.2.1 k hkl
    have q : ¬ nI (T 15 k) = hI hm 143 b := fun z => by
      rw [← z] at hn
      have := (nI_ltI (by omega) (by omega)).mp hn
      omega
    rw [fX10_nightGoes_2]
    simp (disch := omega) only [lit, Rm.1.2.2.2.2.2.1, ↓reduceIte, leT, leF, inbN, nI_clamp, m2, q, nI_add, fX10_nightGoes_61]
    exact m_late1 hb F Rm hn d (k + 1) fu (by omega) (by omega)
theorem m_late2 {b : Nat} {T : Tx} (hb : b ≤ 1) (F : WFT T) {hm : Hp} (Rm : RSm hm T) (hn : nI 99 < hI hm 143 b) : ∀ (d k fu : Nat), k + d = T 0 4 → d < fu → fX10_nightGoes_69 fu hm (nI b) (nI k) = fX10_nightGoes_165 FU hm (nI b) (nI 0)
  | 0, k, fu + 1, hk, _ => by
    have e : k = T 0 4 := by omega
    have h6 := F.1.2.2.2.2.1
    rw [fX10_nightGoes_69]
    simp (disch := omega) only [lit, Rm.1.2.2.2.2.1, ↓reduceIte, leT, leF]
  | d + 1, k, fu + 1, hk, hf => by
    have h6 := F.1.2.2.2.2.1
    have hkl : k < T 0 4 := by omega
    obtain ⟨m1, m2, m3⟩ := Rm.2.2.2.2.2.2.1 k hkl
    obtain ⟨f1, f2, f3⟩ := F.2.2.2.2.2.2.2.1 k hkl
    have q : ¬ nI (T 13 k) = hI hm 143 b := fun z => by
      rw [← z] at hn
      have := (nI_ltI (by omega) (by omega)).mp hn
      omega
    rw [fX10_nightGoes_69]
    simp (disch := omega) only [lit, Rm.1.2.2.2.2.1, ↓reduceIte, leT, leF, inbN, nI_clamp, m3, q, nI_add, fX10_nightGoes_157]
    exact m_late2 hb F Rm hn d (k + 1) fu (by omega) (by omega)
