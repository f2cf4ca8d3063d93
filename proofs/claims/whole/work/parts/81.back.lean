/-! back; see, strike, known. -/
theorem m_back1 : ∀ (d k fu : Nat) (h : Hp), k + d = 5 → d < fu → (∀ i, i < 5 → isZ (hI h 151 i) = true) → ∃ h', fX10_back_25 fu h (nI k) = some (hI h 107 86, h') ∧ (∀ i, k ≤ i → i < 5 → hI h' 138 i = hI h 151 i) ∧ hI h' 142 0 = hI h 107 85 ∧ hI h' 143 0 = hI h 107 86 ∧ hJ h' 107 67 = hJ h 107 87 ∧ hI h' 107 80 = nI 0 ∧ Fr (fun a i => (a = 138 ∧ k ≤ i ∧ i < 5) ∨ ((a = 142 ∨ a = 143) ∧ i = 0) ∨ (a = 107 ∧ i = 80)) (fun a i => a = 107 ∧ i = 67) h h'
  | 0, k, fu + 1, h, hk, _, _ => by
    have e : k = 5 := by omega
    subst e
    refine ⟨uI (uJ (uI (uI h 142 0 (hI h 107 85)) 143 0 (hI h 107 86)) 107 67 (hJ h 107 87)) 107 80 (nI 0), ?_, fun i h1 h2 => by omega, ?_, ?_, ?_, hI_at ⟨rfl, rfl⟩, Fr.uI (Fr.uJ (Fr.uI (Fr.uI Fr.rf (by omega)) (by omega)) ⟨rfl, rfl⟩) (by omega)⟩
    · rw [fX10_back_25]; simp (disch := omega) only [lit, ↓reduceIte, leT, inbN, nI_clamp, hI_ne, hI_at, hI_uJ', hJ_uI]
    · rw [hI_ne (by omega), hI_uJ', hI_ne (by omega), hI_at ⟨rfl, rfl⟩]
    · rw [hI_ne (by omega), hI_uJ', hI_at ⟨rfl, rfl⟩]
    · rw [hJ_uI, hJ_at ⟨rfl, rfl⟩]
  | d + 1, k, fu + 1, h, hk, hf, hz => by
    have hzk := eq_true (hz k (by omega))
    obtain ⟨h', a1, a2, a3, a4, a5, a6, a7⟩ := m_back1 d (k + 1) fu (uI h 138 k (hI h 151 k)) (by omega) (by omega) (fun i hi => by rw [hI_ne (by omega)]; exact hz i hi)
    refine ⟨h', ?_, fun i h1 h2 => ?_, ?_, ?_, ?_, a6, Fr.tr (Fr.uI Fr.rf (by omega)) (a7.mono (fun a i q => by omega) (fun _ _ q => q))⟩
    · rw [hI_ne (by omega)] at a1
      rw [fX10_back_25]; simp (disch := omega) only [lit, ↓reduceIte, leF, inbN, nI_clamp, hzk, nI_add]; exact a1
    · by_cases q : i = k
      · subst q; rw [a7.1 _ _ (by omega), hI_at ⟨rfl, rfl⟩]
      · rw [a2 i (by omega) h2, hI_ne (by omega)]
    · rw [a3, hI_ne (by omega)]
    · rw [a4, hI_ne (by omega)]
    · rw [a5]; rfl
section V
variable {hc hm : Hp} {S : Nat} {T : Tx}
theorem s_back (s : R2 hc hm S T) : Ok2 hc hm (fX9_back hc) (fX10_back hm) := by
  have s0 := R2_thr s (nI 0)
  obtain ⟨hS, t1, t2, F, -⟩ := s0.1
  have h5 := F.1.2.2.1
  obtain ⟨f, f1, f2, f3, f4⟩ := s0.2.2.2.1
  by_cases q : f = 0
  · subst q
    refine ok_same s (v := -nI 1) (x := nI 0) ?_ ?_
    · unfold fX9_back; simp (disch := omega) only [lit, f2, ↓reduceIte]
    · unfold fX10_back; simp (disch := omega) only [lit, f3, ↓reduceIte]
  · have q1 : f = 1 := by omega
    obtain ⟨w1, w2, w3, w4, w5, ⟨sh, w6, w7, w8⟩, w9, w10, l, l1, l2, l3⟩ := f4 q1
    subst q1
    have e5 : ∀ i, 5 * 0 + i = i := fun i => by omega
    obtain ⟨hc1, a1, a2, a3, a4, a5, a6⟩ := x_copy (W := 72) (V := 78) hS (Or.inl rfl) (Or.inr (Or.inl rfl)) (by omega) w1
    let hc2 : Hp := uI hc1 90 0 (nI 0)
    have ec : ∀ a i, ¬ (a = 90 ∧ i = 0) → a < 72 ∨ 76 < a → hI hc2 a i = hI hc a i := fun a i q z => by
      show hI (uI hc1 90 0 _) a i = _
      rw [hI_ne q, a6.1 _ _ (by omega)]
    have ec1 : ∀ a i, a ≠ 90 → hI hc2 a i = hI hc1 a i := fun a i q => hI_ne (by omega)
    obtain ⟨hm1, b1, b2, b3⟩ := m_bring (h := uI hm 107 2 (nI 0)) (r := 150) (N := 20) (x := 0) (Or.inr rfl) (by omega) (by decide)
    obtain ⟨hm2, c1, c2, c3, c4, c5, c6, c7⟩ := m_back1 5 0 FU hm1 rfl (by decide) (fun i hi => by
      rw [b3.1 _ _ (by omega), w8 i hi]; exact bn_z _ _)
    have em : ∀ a i, ¬ ((137 ≤ a ∧ a ≤ 141 ∧ i < 5) ∨ ((a = 142 ∨ a = 143) ∧ i = 0) ∨ (a = 107 ∧ i = 80)) → hI hm2 a i = hI (uI hm 107 2 (nI 0)) a i := fun a i z => by rw [c7.1 _ _ (by omega), b3.1 _ _ (by omega)]
    have w : RW hc2 hm2 S 72 0 T := by
      refine ⟨a2, ?_, ?_, ?_, ?_, ⟨sh, w6, ?_, ?_⟩, ?_, ?_⟩
      · intro i hi
        obtain ⟨n, n1, n2, n3⟩ := w2 i hi
        have t := (b2 i (by omega)).1
        rw [Nat.zero_add] at t
        exact ⟨n, n1, by rw [ec1 _ _ (by omega), (a5 i (by omega)).1]; exact n2, by rw [e5, c7.1 _ _ (by omega), t]; exact n3⟩
      · intro i hi h2; rw [ec1 _ _ (by omega), (a5 i hi).1]; exact w3 i hi h2
      · intro i hi
        obtain ⟨n, n1, n2, n3⟩ := w4 i hi
        have t := (b2 i hi).2.1
        rw [Nat.zero_add] at t
        exact ⟨n, n1, by rw [ec1 _ _ (by omega), (a5 i hi).2.1]; exact n2, by rw [e5, c7.1 _ _ (by omega), t]; exact n3⟩
      · intro i hi
        have t2 := (b2 i hi).2.2.1
        have t3 := (b2 i hi).2.2.2
        rw [Nat.zero_add] at t2 t3
        rw [e5, ec1 _ _ (by omega), ec1 _ _ (by omega), (a5 i hi).2.2.1, (a5 i hi).2.2.2, c7.1 _ _ (by omega), c7.1 _ _ (by omega), t2, t3]; exact w5 i hi
      · rw [ec1 _ _ (by omega), a4 2 (by omega) (by omega)]; exact w7
      · intro i hi; rw [e5, c2 i (by omega) hi, b3.1 _ _ (by omega)]; exact w8 i hi
      · rw [ec1 _ _ (by omega), a4 1 (by omega) (by omega), c4, b3.1 _ _ (by omega)]; exact w9
      · rw [ec1 _ _ (by omega), a4 3 (by omega) (by omega), c3, b3.1 _ _ (by omega)]; exact w10
    have pl : plainW hc2 72 := by
      obtain ⟨k1, k2, k3, k4, k5⟩ := a3
      exact ⟨by rw [ec1 _ _ (by omega)]; exact k1, by rw [ec1 _ _ (by omega)]; exact k2, by rw [ec1 _ _ (by omega)]; exact k3, by rw [ec1 _ _ (by omega)]; exact k4, by rw [ec1 _ _ (by omega)]; exact k5⟩
    have er : ∀ a i, ¬ (a = 72 ∧ i = 0) → hR hc2 a i = hR hc a i := fun a i z => a6.2.2 a i z
    obtain ⟨j, p, j1, j2, j3, j4, j5, -, -⟩ := s0.2.2.1
    refine ⟨hI hm1 107 86, hc2, hm2, ?_, ?_, ⟨S, T, StA_ag s0.1 (fun a i q => ec a i (by unfold relA at q; omega) (by unfold relA at q; omega)) (fun a i q => er a i (by omega)) (fun a i q => em a i (by unfold relMA at q; omega)), ⟨w, pl, l, l1, ?_, ?_⟩, ⟨0, p, by omega, j2, hI_at ⟨rfl, rfl⟩, ?_, c6, fun j hj => by omega, fun j hj => by omega⟩, RI_ag s0.2.2.2.1 (fun a i q => ec a i (by omega) (by omega)) (er _ _ (by omega)) (fun a i q => em a i (by omega)) ?_, RM_ag s0.2.2.2.2 (fun a i q => ec a i (by omega) (by omega)) (fun a i q => em a i (by omega))⟩, ?_, ?_⟩
    · unfold fX9_back fX4_clear
      simp (disch := omega) only [lit, f2, ↓reduceIte, eqF, a1, bind_some']
      rw [show uI hc1 90 0 (nI 0) = hc2 from rfl, ec1 _ _ (by omega), a4 1 (by omega) (by omega), w9, b3.1 _ _ (by omega)]
    · unfold fX10_back
      simp (disch := omega) only [lit, f3, ↓reduceIte, eqF, b1, bind_some']
      exact c1
    · rw [ec1 _ _ (by omega), a4 4 (by omega) (by omega)]; exact l2
    · rw [c5, b3.2.1 _ _ (fun z => z)]; exact l3
    · rw [ec _ _ (by omega) (by omega)]; exact j4
    · rw [c7.2.1 _ _ (by omega), b3.2.1 _ _ (fun z => z)]
    · exact FCl_uI ⟨fun a i q => a6.1 _ _ (by omega), fun a i _ => a6.2.1 a i, fun a i q => a6.2.2 a i (by omega)⟩ (by omega)
    · exact FMo.tr (FMo_uI FMo.rf (by omega)) (FMo.tr (FMo_Fr b3 (fun a i z => by omega) (fun _ _ z => z.elim)) (FMo_Fr c7 (fun a i z => by omega) (fun a i z => by omega)))
/-- only the memory changes -/
theorem R2_mem {hc' hm' : Hp} (s : R2 hc hm S T) (r : RM hc' hm' T) (fi : ∀ a i, ¬ (97 ≤ a ∧ a ≤ 102) → hI hc' a i = hI hc a i) (fr : ∀ a i, hR hc' a i = hR hc a i) (mi : ∀ a i, ¬ (a = 147 ∨ (a = 107 ∧ (i = 2 ∨ i = 76 ∨ i = 77))) → hI hm' a i = hI hm a i) (mj : ∀ i, i = 67 ∨ i = 87 → hJ hm' 107 i = hJ hm 107 i) : R2 hc' hm' S T := by
  obtain ⟨a, b, c, d, e⟩ := s
  exact ⟨StA_ag a (fun x i q => fi x i (by unfold relA at q; omega)) (fun x i q => fr x i) (fun x i q => mi x i (by unfold relMA at q; omega)), StW_ag a.2.2.2.1 b (fun x i h1 h2 => fi x i (by omega)) (fr _ _) (fun x i q => mi x i (by omega)) (mj _ (by omega)), RU_ag c (fun x i q => fi x i (by omega)) (fun x i q => mi x i (by omega)), RI_ag d (fun x i q => fi x i (by omega)) (fr _ _) (fun x i q => mi x i (by omega)) (mj _ (by omega)), r⟩
theorem m_noted {h : Hp} {n : Nat} {x1 x2 x3 x4 : Int32} (hn : n < 24) (h0 : hI h 107 76 = nI n) : fX10_noted h x1 x2 x3 x4 = some (nI n, uI (uI (uI (uI (uI h 147 (4 * n) x1) 147 (4 * n + 1) x2) 147 (4 * n + 2) x3) 147 (4 * n + 3) x4) 107 76 (nI (n + 1))) := by
  unfold fX10_noted
  simp (disch := omega) only [lit, h0, hI_ne, hI_at, pk_mul, nI_add, inbN, nI_clamp, ↓reduceIte, pk_sub, Nat.add_sub_cancel]
theorem x_addSeen {h : Hp} {n : Nat} {x1 x2 x3 x4 : Int32} (hn : n < 24) (h0 : hI h 97 0 = nI n) (hz : isZ x4 = true) : fX2_addSeen h x1 x2 x3 x4 = some (nI n, uI (uI (uI (uI (uI (uI h 98 n x1) 99 n x2) 100 n x3) 101 n x4) 102 n (-nI 1)) 97 0 (nI (n + 1))) := by
  have hz := eq_true hz
  unfold fX2_addSeen
  simp (disch := omega) only [lit, h0, hI_ne, hI_at, ltF, ltT, inbN, nI_clamp, ↓reduceIte, hz, nI_add, pk_sub, Nat.add_sub_cancel]
theorem x_addSeen24 {h : Hp} {x1 x2 x3 x4 : Int32} (h0 : hI h 97 0 = nI 24) : fX2_addSeen h x1 x2 x3 x4 = some (-nI 1, h) := by
  unfold fX2_addSeen
  rw [if_neg (by rw [h0]; decide), if_neg (by rw [h0]; decide)]; rfl
theorem s_see (s : R2 hc hm S T) (x y z : Int32) (a : Nat) (ha : a ≤ 1) : Ok2 hc hm (fX9_see hc x y z (nI a)) (fX10_see hm x y z (nI a)) := by
  have s0 := R2_thr s (nI 0)
  have no : fX9_see hc x y z (nI a) = some (-nI 1, hc) → fX10_see hm x y z (nI a) = some (-nI 1, uI hm 107 2 (nI 0)) → Ok2 hc hm (fX9_see hc x y z (nI a)) (fX10_see hm x y z (nI a)) := fun h1 h2 => ok_same s h1 h2
  obtain ⟨n, n1, n2, n3, n4, n5, n6⟩ := s0.2.2.2.2
  rcases v_in (h := uI hm 107 2 (nI 0)) x 1 60 (by decide) (by decide) with ⟨t, ht1, ht2, rfl, e0⟩ | ⟨q, e0⟩
  · rcases v_member s0.1 y with ⟨m, hmM, rfl, e1, e2⟩ | ⟨e1, e2⟩
    · rcases v_in (h := uI hm 107 2 (nI 0)) z 0 12 (by decide) (by decide) with ⟨w, -, hw2, rfl, e3⟩ | ⟨q, e3⟩
      · have h5m := s0.1.2.2.2.1.1.2.2.2.1
        by_cases q24 : n = 24
        · subst q24
          refine no ?_ ?_
          · unfold fX9_see
            simp (disch := omega) only [lit, ↓reduceIte, ltF, leT, e1, bnd_some, eqF, x_addSeen24 n2]
          · unfold fX10_see
            simp (disch := omega) only [lit, n3, ↓reduceIte]
        · have hz : isZ (nI a) = true := of_eq_true (isZn ha)
          have e4 := x_addSeen (h := hc) (x1 := nI t) (x2 := nI m) (x3 := nI w) (show n < 24 by omega) n2 hz
          have e5 := m_noted (h := uI hm 107 2 (nI 0)) (x1 := nI t) (x2 := nI m) (x3 := nI w) (x4 := nI a) (show n < 24 by omega) n3
          refine ⟨nI n, uI (uI (uI (uI (uI (uI hc 98 n (nI t)) 99 n (nI m)) 100 n (nI w)) 101 n (nI a)) 102 n (-nI 1)) 97 0 (nI (n + 1)), uI (uI (uI (uI (uI (uI hm 107 2 (nI 0)) 147 (4 * n) (nI t)) 147 (4 * n + 1) (nI m)) 147 (4 * n + 2) (nI w)) 147 (4 * n + 3) (nI a)) 107 76 (nI (n + 1)), ?_, ?_, ⟨S, T, R2_mem s0 ⟨n + 1, by omega, hI_at ⟨rfl, rfl⟩, hI_at ⟨rfl, rfl⟩, ?_, ?_, ?_⟩ (fun a i q => ?_) (fun a i => rfl) (fun a i q => ?_) (fun i hi => rfl)⟩, ?_, ?_⟩
          · unfold fX9_see
            simp (disch := omega) only [lit, ↓reduceIte, ltF, leT, e1, bnd_some, eqF, e4]
          · unfold fX10_see
            simp (disch := omega) only [lit, n3, ↓reduceIte, eqF, e0, e2, e3, bnd_some]
            by_cases qa : a = 0
            · subst qa; simp only [↓reduceIte, e5, bnd_some]
            · have : a = 1 := by omega
              subst this
              rw [if_neg (by decide), e5]; rfl
          · simp (disch := omega) only [hI_ne]; exact n4
          · simp (disch := omega) only [hI_ne]
            rcases n5 with n5 | ⟨k, k1, k2⟩
            · exact Or.inl n5
            · exact Or.inr ⟨k, by omega, k2⟩
          · intro k hk
            by_cases qk : k = n
            · subst qk
              left
              refine ⟨?_, ⟨t, ht1, ht2, ?_, ?_⟩, ⟨m, hmM, ?_, ?_⟩, ⟨w, hw2, ?_, ?_⟩, ⟨a, ha, ?_, ?_⟩⟩ <;> simp (disch := omega) only [hI_ne, hI_at]
            · have := n6 k (by omega)
              simp (disch := omega) only [hI_ne]
              simp (disch := omega) only [hI_ne] at this
              exact this
          · simp (disch := omega) only [hI_ne]
          · simp (disch := omega) only [hI_ne]
          · exact FCl_uI (FCl_uI (FCl_uI (FCl_uI (FCl_uI (FCl_uI FCl.rf (by omega)) (by omega)) (by omega)) (by omega)) (by omega)) (by omega)
          · exact FMo_uI (FMo_uI (FMo_uI (FMo_uI (FMo_uI (FMo_uI FMo.rf (by omega)) (by omega)) (by omega)) (by omega)) (by omega)) (by omega)
      · refine no ?_ ?_
        · unfold fX9_see
          simp (disch := omega) only [lit, ↓reduceIte, ltF, e1, bnd_some, eqF]
          rcases q with q | q
          · rw [if_pos q]
          · rw [if_neg (ltI_hi 12 0 (by decide) (by decide) q).1, if_neg (Int32.not_le.mpr q)]
        · unfold fX10_see
          simp (disch := omega) only [lit, e0, e2, e3, bnd_some, ↓reduceIte, eqF]
          split <;> rfl
    · refine no ?_ ?_
      · unfold fX9_see; simp (disch := omega) only [lit, ↓reduceIte, ltF, e1, bnd_some]
      · unfold fX10_see
        simp (disch := omega) only [lit, e0, e2, bnd_some, ↓reduceIte, eqF]
        split <;> rfl
  · refine no ?_ ?_
    · unfold fX9_see
      simp only [lit]
      rcases q with q | q
      · rw [if_pos q]
      · rw [if_neg (ltI_hi 60 1 (by decide) (by decide) q).1, if_pos q]
    · unfold fX10_see
      simp (disch := omega) only [lit, e0, bnd_some, ↓reduceIte]
      split <;> rfl
theorem s_strike (s : R2 hc hm S T) (x : Int32) : Ok2 hc hm (fX9_strike hc x) (fX10_strike hm x) := by
  have s0 := R2_thr s (nI 0)
  have no : fX9_strike hc x = some (-nI 1, hc) → fX10_strike hm x = some (-nI 1, uI hm 107 2 (nI 0)) → Ok2 hc hm (fX9_strike hc x) (fX10_strike hm x) := fun h1 h2 => ok_same s h1 h2
  obtain ⟨n, n1, n2, n3, n4, n5, n6⟩ := s0.2.2.2.2
  by_cases q24 : n = 24
  · subst q24
    refine no ?_ ?_
    · unfold fX9_strike fX2_addStrike; simp (disch := omega) only [lit, n2, ↓reduceIte, ltF, leT, bnd_some]
    · unfold fX10_strike; simp (disch := omega) only [lit, n3, ↓reduceIte]
  · rcases pk_ix x (show n < 2 ^ 31 by omega) with q | q | ⟨t, ht, rfl⟩
    · have q : x < nI 0 := q
      refine no ?_ ?_
      · unfold fX9_strike fX2_addStrike; simp (disch := omega) only [lit, n2, ↓reduceIte, ltF, leF, q, bnd_some]
      · unfold fX10_strike; simp (disch := omega) only [lit, n3, ↓reduceIte, eqF, q]
    · have q0 : ¬ x < nI 0 := by
        rw [Int32.lt_iff_toInt_lt]
        have := Int32.le_iff_toInt_le.mp q
        rw [nI_toInt (by omega)] at this
        rw [nI_toInt (by omega)]; omega
      have q1 : ¬ x < nI n := Int32.not_lt.mpr q
      refine no ?_ ?_
      · unfold fX9_strike fX2_addStrike; simp (disch := omega) only [lit, n2, ↓reduceIte, ltF, leF, q0, q1, bnd_some]
      · unfold fX10_strike; simp (disch := omega) only [lit, n3, ↓reduceIte, eqF, q0, q1]
    · have e5 := m_noted (h := uI hm 107 2 (nI 0)) (x1 := -nI 1) (x2 := nI t) (x3 := nI 0) (x4 := nI 0) (show n < 24 by omega) n3
      refine ⟨nI n, uI (uI hc 102 n (nI t)) 97 0 (nI (n + 1)), uI (uI (uI (uI (uI (uI hm 107 2 (nI 0)) 147 (4 * n) (-nI 1)) 147 (4 * n + 1) (nI t)) 147 (4 * n + 2) (nI 0)) 147 (4 * n + 3) (nI 0)) 107 76 (nI (n + 1)), ?_, ?_, ⟨S, T, R2_mem s0 ⟨n + 1, by omega, hI_at ⟨rfl, rfl⟩, hI_at ⟨rfl, rfl⟩, ?_, ?_, ?_⟩ (fun a i q => ?_) (fun a i => rfl) (fun a i q => ?_) (fun i hi => rfl)⟩, ?_, ?_⟩
      · unfold fX9_strike fX2_addStrike
        simp (disch := omega) only [lit, n2, ↓reduceIte, ltF, ltT, leF, inbN, nI_clamp, hI_ne, hI_at, nI_add, pk_sub, Nat.add_sub_cancel, bnd_some]
      · unfold fX10_strike
        simp (disch := omega) only [lit, n3, ↓reduceIte, eqF, ltF, ltT, e5, bnd_some]
      · simp (disch := omega) only [hI_ne]; exact n4
      · simp (disch := omega) only [hI_ne]
        rcases n5 with n5 | ⟨k, k1, k2⟩
        · exact Or.inl n5
        · exact Or.inr ⟨k, by omega, k2⟩
      · intro k hk
        by_cases qk : k = n
        · subst qk
          right
          refine ⟨t, ht, ?_, ?_, ?_⟩ <;> simp (disch := omega) only [hI_ne, hI_at]
        · have := n6 k (by omega)
          simp (disch := omega) only [hI_ne]
          simp (disch := omega) only [hI_ne] at this
          exact this
      · simp (disch := omega) only [hI_ne]
      · simp (disch := omega) only [hI_ne]
      · exact FCl_uI (FCl_uI FCl.rf (by omega)) (by omega)
      · exact FMo_uI (FMo_uI (FMo_uI (FMo_uI (FMo_uI (FMo_uI FMo.rf (by omega)) (by omega)) (by omega)) (by omega)) (by omega)) (by omega)
theorem s_known (s : R2 hc hm S T) (x : Int32) : Ok2 hc hm (fX9_known hc x) (fX10_known hm x) := by
  have s0 := R2_thr s (nI 0)
  obtain ⟨n, n1, n2, n3, n4, n5, n6⟩ := s0.2.2.2.2
  unfold fX9_known fX10_known fX10_isIn
  simp only [lit, n2, n3]
  by_cases q : x < -nI 1
  · refine ok_same s (v := nI 0) (x := nI 0) ?_ ?_
    · simp only [if_pos q]
    · simp only [if_pos q, bnd_some, ↓reduceIte]
  · by_cases q1 : nI n < x
    · refine ok_same s (v := nI 0) (x := nI 0) ?_ ?_
      · simp only [if_neg q, if_neg (Int32.not_le.mpr q1)]
      · simp only [if_neg q, if_pos q1, bnd_some, ↓reduceIte]
    · refine ⟨nI 1, uI hc 97 1 x, uI (uI hm 107 2 (nI 0)) 107 77 x, ?_, ?_, ⟨S, T, R2_mem s0 ⟨n, n1, ?_, ?_, ?_, ?_, ?_⟩ (fun a i q => ?_) (fun a i => rfl) (fun a i q => ?_) (fun i hi => rfl)⟩, FCl_uI FCl.rf (by omega), FMo_uI (FMo_uI FMo.rf (by omega)) (by omega)⟩
      · simp only [if_neg q, if_pos (Int32.not_lt.mp q1)]
      · simp only [if_neg q, if_neg q1, bnd_some]; rw [if_neg (by decide)]
      · rw [hI_ne (by omega)]; exact n2
      · rw [hI_ne (by omega)]; exact n3
      · rw [hI_at ⟨rfl, rfl⟩, hI_at ⟨rfl, rfl⟩]
      · rw [hI_at ⟨rfl, rfl⟩]
        by_cases q0 : x < nI 0
        · left
          apply Int32.toInt_inj.mp
          rw [Int32.lt_iff_toInt_lt, nI_toInt (by omega)] at q0
          rw [Int32.lt_iff_toInt_lt, show (-nI 1).toInt = -1 by decide] at q
          rw [show (-nI 1).toInt = -1 by decide]; omega
        · right
          obtain ⟨k, hk, rfl⟩ := nI_of (show ¬ x < 0 from q0)
          exact ⟨k, Nat.le_of_not_lt (fun z => q1 (nI_lt z hk)), rfl⟩
      · intro k hk
        have := n6 k hk
        simp (disch := omega) only [hI_ne]
        simp (disch := omega) only [hI_ne] at this
        exact this
      · simp (disch := omega) only [hI_ne]
      · simp (disch := omega) only [hI_ne]
end V
