/-! text: plain lines that add a row (printed by gen_lines.py). -/
section V
variable {hc hm : Hp} {X : Nat} {T : Tx} {b : Nat → Nat} {n k v s p : Nat}
theorem l_claim (R : RD hc hm X T b n) (K : TK hc hm n 3 v s p) : ∃ hc' y hm', fX5_claimLine hc = some hc' ∧ fX10_claimLine hm = some (y, hm') ∧ LO hc hm hc' y hm' X b n p := by
  have hS := R.1.1
  have x0 : X = 1 ∨ X = 35 := hS
  obtain ⟨N0, N1, N2, N3, N4, N5, -⟩ := R.2.1.1.1
  obtain ⟨cn0, cn1, cn2, cn3, cn4, cn5, -⟩ := R.2.1.2.1.1
  have cm : hI hm 107 19 = nI (T 0 0) := R.2.1.2.2.1.1
  unfold fX5_claimLine fX10_claimLine
  by_cases q : T 0 0 = 8
  · obtain ⟨b1, b2, b3⟩ := bad_here R.1.2.2.2 K.1.2.1 K.2.1.2.1 (e := 2) (by decide) (by decide)
    have I := R.idle b1 b2
    obtain ⟨e, q1, q2, q3⟩ := I.2.2.1
    obtain ⟨nn0, nn0a, nn0b⟩ := I.2.2.2.1
    obtain ⟨xx0, xx0a⟩ := x_freshI q3 q1 q2 nn0a (rN0 hS) nn0b
    refine ⟨_, nI 0, _, ?_, ?_, b2.X, b3.M, Or.inr ⟨rfl, b1⟩⟩
    · simp (disch := omega) only [R.dref, bind_some', rS0 hS, rC0 hS, rS1 hS, rS4 hS, x_roomF R.2.2.1.1 cn0 (by omega) (by omega), bnd_some, lit, x_pwF R K (show 1 ≤ 2 by decide) (by decide), dref_of I.1 (sS hS), x_numI q3 q1 q2, q3, eqF, ↓reduceIte, xx0a]
    · simp only [lit, cm, q, ↓reduceIte, m_wrong, bnd_some, isZ0, K.2.1.2.1]
  · obtain ⟨hc1, hm1, a1, a2, a3, a4, k1, v1, s1, p1, K1, R1, -, g1⟩ := s_adv R K
    have l0 := K.2.2.2.1
    have l1 := K1.2.2.2.1
    obtain ⟨m10, m11, m12, m13, m14, m15, -⟩ := id R1.2.1.2.2.1
    have m10 : hI hm1 107 19 = nI (T 0 0) := m10
    have m11 : hI hm1 107 20 = nI (T 0 1) := m11
    have m12 : hI hm1 107 21 = nI (T 0 2) := m12
    have m13 : hI hm1 107 22 = nI (T 0 3) := m13
    have m14 : hI hm1 107 23 = nI (T 0 4) := m14
    have m15 : hI hm1 107 24 = nI (T 0 5) := m15
    simp (disch := omega) only [R.dref, bind_some', rS0 hS, rC0 hS, rS1 hS, rS4 hS, x_roomT R.2.2.1.1 cn0 (show T 0 0 < 8 by omega) (by omega), bnd_some, lit, x_pwT R K, a1, R1.dref, cm, eqF, ↓reduceIte, a2, m10, m11, m12, m13, m14, m15]
    obtain ⟨x2, hc2, y2, hm2, e2, d2, ⟨rfl, ⟨w2, w2a, rfl, w2c⟩, f2, f2m, k2, v2, s2, p2, K2, R2, -, g2⟩ | ⟨rfl, B, f2, f2m⟩⟩ := s_fresh R1 K1 R1.roC (show 8 + T 0 0 < 16 by omega) (by unfold mfr; omega) (by decide)
    · have l2 := K2.2.2.2.1
      obtain ⟨m20, m21, m22, m23, m24, m25, -⟩ := id R2.2.1.2.2.1
      have m20 : hI hm2 107 19 = nI (T 0 0) := m20
      have m21 : hI hm2 107 20 = nI (T 0 1) := m21
      have m22 : hI hm2 107 21 = nI (T 0 2) := m22
      have m23 : hI hm2 107 22 = nI (T 0 3) := m23
      have m24 : hI hm2 107 23 = nI (T 0 4) := m24
      have m25 : hI hm2 107 24 = nI (T 0 5) := m25
      simp (disch := omega) only [e2, d2, bnd_some, bind_some', R2.dref, rS0 hS, rC0 hS, rS1 hS, rS4 hS, eqF, ↓reduceIte, lit, nI_add, inbN, nI_clamp, m20, m21, m22, m23, m24, m25]
      obtain ⟨x3, hc3, y3, hm3, e3, d3, ⟨rfl, ⟨w3, w3a, w3b, rfl, w3c⟩, f3, f3m, k3, v3, s3, p3, K3, R3, -, g3⟩ | ⟨rfl, B, f3, f3m⟩⟩ := s_num R2 K2 (show 0 ≤ 99 by decide) (by decide)
      · have l3 := K3.2.2.2.1
        have K3 : TK hc3 (uI hm3 113 (8 + T 0 0) (nI w3)) n k3 v3 s3 p3 := TK_m K3 (fun i h1 h2 => hI_ne (by omega))
        have R3 : RD hc3 (uI hm3 113 (8 + T 0 0) (nI w3)) X T b n := RD_fr R3 Fr.rf (Fr.rf.uI (by unfold mfr; omega))
        obtain ⟨m30, m31, m32, m33, m34, m35, -⟩ := id R3.2.1.2.2.1
        have m30 : hI (uI hm3 113 (8 + T 0 0) (nI w3)) 107 19 = nI (T 0 0) := m30
        have m31 : hI (uI hm3 113 (8 + T 0 0) (nI w3)) 107 20 = nI (T 0 1) := m31
        have m32 : hI (uI hm3 113 (8 + T 0 0) (nI w3)) 107 21 = nI (T 0 2) := m32
        have m33 : hI (uI hm3 113 (8 + T 0 0) (nI w3)) 107 22 = nI (T 0 3) := m33
        have m34 : hI (uI hm3 113 (8 + T 0 0) (nI w3)) 107 23 = nI (T 0 4) := m34
        have m35 : hI (uI hm3 113 (8 + T 0 0) (nI w3)) 107 24 = nI (T 0 5) := m35
        simp (disch := omega) only [e3, d3, bnd_some, bind_some', R3.dref, rS0 hS, rC0 hS, rS1 hS, rS4 hS, eqF, ↓reduceIte, lit, nI_add, inbN, nI_clamp, w3c, m30, m31, m32, m33, m34, m35]
        obtain ⟨x4, hc4, y4, hm4, e4, d4, ⟨rfl, ⟨w4, w4a, w4b, rfl, w4c⟩, f4, f4m, k4, v4, s4, p4, K4, R4, -, g4⟩ | ⟨rfl, B, f4, f4m⟩⟩ := s_num R3 K3 (show 0 ≤ 9 by decide) (by decide)
        · have l4 := K4.2.2.2.1
          have K4 : TK hc4 (uI hm4 114 (8 + T 0 0) (nI w4)) n k4 v4 s4 p4 := TK_m K4 (fun i h1 h2 => hI_ne (by omega))
          have R4 : RD hc4 (uI hm4 114 (8 + T 0 0) (nI w4)) X T b n := RD_fr R4 Fr.rf (Fr.rf.uI (by unfold mfr; omega))
          obtain ⟨m40, m41, m42, m43, m44, m45, -⟩ := id R4.2.1.2.2.1
          have m40 : hI (uI hm4 114 (8 + T 0 0) (nI w4)) 107 19 = nI (T 0 0) := m40
          have m41 : hI (uI hm4 114 (8 + T 0 0) (nI w4)) 107 20 = nI (T 0 1) := m41
          have m42 : hI (uI hm4 114 (8 + T 0 0) (nI w4)) 107 21 = nI (T 0 2) := m42
          have m43 : hI (uI hm4 114 (8 + T 0 0) (nI w4)) 107 22 = nI (T 0 3) := m43
          have m44 : hI (uI hm4 114 (8 + T 0 0) (nI w4)) 107 23 = nI (T 0 4) := m44
          have m45 : hI (uI hm4 114 (8 + T 0 0) (nI w4)) 107 24 = nI (T 0 5) := m45
          have h14 := R4.1.2.2.2
          obtain ⟨U, RU⟩ := RD_cl R4 (by omega) w2a w3b w4b (by rw [hI_ne (by omega), f4m.1 _ _ (by omega), hI_ne (by omega), f3m.1 _ _ (by omega)]; exact w2c) (by rw [hI_ne (by omega), f4m.1 _ _ (by omega), hI_at ⟨rfl, rfl⟩]) (by rw [hI_at ⟨rfl, rfl⟩])
          refine ⟨_, nI 1, _, ?_, ?_, ?_, ?_, Or.inl ⟨rfl, U, k4, v4, s4, p4, ?_, RU, by omega, ?_, fun rq => RQ_fr rq ?_ ?_ ?_ ?_⟩⟩
          · obtain ⟨cf0, cf1, cf2, cf3, cf4, cf5, -⟩ := R4.2.1.2.1.1
            have ra := x_radd (h := (uI (uI hc4 (X + 4) (T 0 0) (nI w3)) (X + 5) (T 0 0) (nI w4))) (rN0 hS) (show X + 3 ≠ X + 2 by omega) (by simp (disch := omega) only [hI_ne]; exact R4.2.2.1.1) (show hI (uI (uI hc4 (X + 4) (T 0 0) (nI w3)) (X + 5) (T 0 0) (nI w4)) (X + 2) 2 = nI (T 0 0) by simp (disch := omega) only [hI_ne]; exact cf0) (by omega) (by decide)
            simp (disch := omega) only [e4, bnd_some, h14, ↓reduceIte, R4.dref, bind_some', rS0 hS, rC0 hS, rS1 hS, rS4 hS, fX0_add, rC1 hS, rC2 hS, x_roomT R4.2.2.1.1 cf0 (show T 0 0 < 8 by omega) (by decide), lit, eqF, leF, hI_ne, cf0, inbN, nI_clamp, ra]
          · simp (disch := omega) only [d4, bnd_some, eqF, ↓reduceIte, lit, nI_add, inbN, nI_clamp, w4c, m40]
          · have f0 : FNc hc hc4 := (((a3.tr f2).tr f3).tr f4)
            exact FXc.of (PI := fcX X) (((((f0.mono (fun a i q => by unfold fcX; omega) (fun _ _ q => q)).uI (by unfold fcX; omega)).uI (by unfold fcX; omega)).uI (by unfold fcX; omega)).uI (by unfold fcX; omega)) (fun _ _ q => q)
          · exact (((((a4.M.tr (FFm f2m (by decide) (by decide) (by show 8 ≤ _; omega))).tr f3m.M).uI (fmR (by decide) (by decide) (by show 8 ≤ _; omega))).tr f4m.M).uI (fmR (by decide) (by decide) (by show 8 ≤ _; omega))).uI (fm7 (by omega))
          · exact TK_c (TK_m K4 (fun i h1 h2 => hI_ne (by omega))) (fun i => by simp (disch := omega) only [hI_ne])
          · simp (disch := omega) only [hI_ne]; rw [f4.1 _ _ (by omega), f3.1 _ _ (by omega), f2.1 _ _ (by omega), a3.1 _ _ (by omega)]
          · simp (disch := omega) only [hI_ne]; rw [f4.1 _ _ (by omega), f3.1 _ _ (by omega), f2.1 _ _ (by omega), a3.1 _ _ (by omega)]
          · simp (disch := omega) only [hI_ne]; rw [f4.1 _ _ (by omega), f3.1 _ _ (by omega), f2.1 _ _ (by omega), a3.1 _ _ (by omega)]
          · intro i
            rw [hI_ne (by omega)]
            rw [hI_ne (by omega), f4m.1 _ _ (by omega), hI_ne (by omega), f3m.1 _ _ (by omega), f2m.1 _ _ (by omega), a4.1 _ _ (by omega)]
          · intro x i hx
            simp (disch := omega) only [hI_ne]; rw [f4.1 _ _ (by omega), f3.1 _ _ (by omega), f2.1 _ _ (by omega), a3.1 _ _ (by omega)]
        · have I := R3.idle B f4
          obtain ⟨e, q1, q2, q3⟩ := I.2.2.1
          refine ⟨hc4, nI 0, hm4, ?_, ?_, (FNc.X ((a3.tr f2).tr f3)).tr f4.X, (((a4.M.tr (FFm f2m (by decide) (by decide) (by show 8 ≤ _; omega))).tr f3m.M).uI (fmR (by decide) (by decide) (by show 8 ≤ _; omega))).tr f4m.M, Or.inr ⟨rfl, B⟩⟩
          · simp (disch := omega) only [e4, bnd_some, bind_some', dref_of I.1 (sS hS), rS0 hS, rC0 hS, rS1 hS, rS4 hS, lit, x_numI q3 q1 q2, q3, eqF, ↓reduceIte]
          · simp only [d4, bnd_some, ↓reduceIte, lit]
      · have I := R2.idle B f3
        obtain ⟨e, q1, q2, q3⟩ := I.2.2.1
        refine ⟨hc3, nI 0, hm3, ?_, ?_, (FNc.X (a3.tr f2)).tr f3.X, (a4.M.tr (FFm f2m (by decide) (by decide) (by show 8 ≤ _; omega))).tr f3m.M, Or.inr ⟨rfl, B⟩⟩
        · simp (disch := omega) only [e3, bnd_some, bind_some', dref_of I.1 (sS hS), rS0 hS, rC0 hS, rS1 hS, rS4 hS, lit, x_numI q3 q1 q2, q3, eqF, ↓reduceIte]
        · simp only [d3, bnd_some, ↓reduceIte, lit]
    · have I := R1.idle B f2
      obtain ⟨e, q1, q2, q3⟩ := I.2.2.1
      refine ⟨hc2, nI 0, hm2, ?_, ?_, (FNc.X a3).tr f2.X, a4.M.tr f2m.M, Or.inr ⟨rfl, B⟩⟩
      · simp (disch := omega) only [e2, bnd_some, bind_some', dref_of I.1 (sS hS), rS0 hS, rC0 hS, rS1 hS, rS4 hS, lit, x_numI q3 q1 q2, q3, eqF, ↓reduceIte]
      · simp only [d2, bnd_some, ↓reduceIte, lit]
theorem l_straw (R : RD hc hm X T b n) (K : TK hc hm n 3 v s p) : ∃ hc' y hm', fX5_strawLine hc = some hc' ∧ fX10_strawLine hm = some (y, hm') ∧ LO hc hm hc' y hm' X b n p := by
  have hS := R.1.1
  have x0 : X = 1 ∨ X = 35 := hS
  obtain ⟨N0, N1, N2, N3, N4, N5, -⟩ := R.2.1.1.1
  obtain ⟨cn0, cn1, cn2, cn3, cn4, cn5, -⟩ := R.2.1.2.1.1
  have cm : hI hm 107 21 = nI (T 0 2) := R.2.1.2.2.1.2.2.1
  unfold fX5_strawLine fX10_strawLine
  by_cases q : T 0 2 = 5
  · obtain ⟨b1, b2, b3⟩ := bad_here R.1.2.2.2 K.1.2.1 K.2.1.2.1 (e := 2) (by decide) (by decide)
    have I := R.idle b1 b2
    obtain ⟨e, q1, q2, q3⟩ := I.2.2.1
    obtain ⟨nn0, nn0a, nn0b⟩ := I.2.2.2.2.1
    obtain ⟨xx0, xx0a⟩ := x_freshI q3 q1 q2 nn0a (rN12 hS) nn0b
    obtain ⟨nn1, nn1a, nn1b⟩ := I.2.2.2.1
    obtain ⟨xx1, xx1a, -⟩ := x_toldI q3 q1 q2 nn1a (rN0 hS) nn1b
    refine ⟨_, nI 0, _, ?_, ?_, b2.X, b3.M, Or.inr ⟨rfl, b1⟩⟩
    · simp (disch := omega) only [R.dref, bind_some', rS0 hS, rC0 hS, rS1 hS, rS4 hS, x_roomF R.2.2.1.2.1 cn2 (by omega) (by omega), bnd_some, lit, x_pwF R K (show 1 ≤ 2 by decide) (by decide), dref_of I.1 (sS hS), x_numI q3 q1 q2, q3, eqF, ↓reduceIte, xx0a, xx1a]
    · simp only [lit, cm, q, ↓reduceIte, m_wrong, bnd_some, isZ0, K.2.1.2.1]
  · obtain ⟨hc1, hm1, a1, a2, a3, a4, k1, v1, s1, p1, K1, R1, -, g1⟩ := s_adv R K
    have l0 := K.2.2.2.1
    have l1 := K1.2.2.2.1
    obtain ⟨m10, m11, m12, m13, m14, m15, -⟩ := id R1.2.1.2.2.1
    have m10 : hI hm1 107 19 = nI (T 0 0) := m10
    have m11 : hI hm1 107 20 = nI (T 0 1) := m11
    have m12 : hI hm1 107 21 = nI (T 0 2) := m12
    have m13 : hI hm1 107 22 = nI (T 0 3) := m13
    have m14 : hI hm1 107 23 = nI (T 0 4) := m14
    have m15 : hI hm1 107 24 = nI (T 0 5) := m15
    simp (disch := omega) only [R.dref, bind_some', rS0 hS, rC0 hS, rS1 hS, rS4 hS, x_roomT R.2.2.1.2.1 cn2 (show T 0 2 < 5 by omega) (by omega), bnd_some, lit, x_pwT R K, a1, R1.dref, cm, eqF, ↓reduceIte, a2, m10, m11, m12, m13, m14, m15]
    obtain ⟨x2, hc2, y2, hm2, e2, d2, ⟨rfl, ⟨w2, w2a, rfl, w2c⟩, f2, f2m, k2, v2, s2, p2, K2, R2, -, g2⟩ | ⟨rfl, B, f2, f2m⟩⟩ := s_fresh R1 K1 R1.roS (show 5 + T 0 2 < 10 by omega) (by unfold mfr; omega) (by decide)
    · have l2 := K2.2.2.2.1
      obtain ⟨m20, m21, m22, m23, m24, m25, -⟩ := id R2.2.1.2.2.1
      have m20 : hI hm2 107 19 = nI (T 0 0) := m20
      have m21 : hI hm2 107 20 = nI (T 0 1) := m21
      have m22 : hI hm2 107 21 = nI (T 0 2) := m22
      have m23 : hI hm2 107 22 = nI (T 0 3) := m23
      have m24 : hI hm2 107 23 = nI (T 0 4) := m24
      have m25 : hI hm2 107 24 = nI (T 0 5) := m25
      simp (disch := omega) only [e2, d2, bnd_some, bind_some', R2.dref, rS0 hS, rC0 hS, rS1 hS, rS4 hS, eqF, ↓reduceIte, lit, nI_add, inbN, nI_clamp, m20, m21, m22, m23, m24, m25]
      obtain ⟨x3, hc3, y3, hm3, e3, d3, ⟨rfl, ⟨w3, w3a, rfl, w3c⟩, f3, f3m, k3, v3, s3, p3, K3, R3, -, g3⟩ | ⟨rfl, -, B, f3, f3m⟩⟩ := s_told R2 K2 R2.roC
      · have l3 := K3.2.2.2.1
        have K3 : TK hc3 (uI hm3 118 (5 + T 0 2) (nI w3)) n k3 v3 s3 p3 := TK_m K3 (fun i h1 h2 => hI_ne (by omega))
        have R3 : RD hc3 (uI hm3 118 (5 + T 0 2) (nI w3)) X T b n := RD_fr R3 Fr.rf (Fr.rf.uI (by unfold mfr; omega))
        obtain ⟨m30, m31, m32, m33, m34, m35, -⟩ := id R3.2.1.2.2.1
        have m30 : hI (uI hm3 118 (5 + T 0 2) (nI w3)) 107 19 = nI (T 0 0) := m30
        have m31 : hI (uI hm3 118 (5 + T 0 2) (nI w3)) 107 20 = nI (T 0 1) := m31
        have m32 : hI (uI hm3 118 (5 + T 0 2) (nI w3)) 107 21 = nI (T 0 2) := m32
        have m33 : hI (uI hm3 118 (5 + T 0 2) (nI w3)) 107 22 = nI (T 0 3) := m33
        have m34 : hI (uI hm3 118 (5 + T 0 2) (nI w3)) 107 23 = nI (T 0 4) := m34
        have m35 : hI (uI hm3 118 (5 + T 0 2) (nI w3)) 107 24 = nI (T 0 5) := m35
        simp (disch := omega) only [e3, d3, bnd_some, bind_some', R3.dref, rS0 hS, rC0 hS, rS1 hS, rS4 hS, eqF, ↓reduceIte, lit, nI_add, inbN, nI_clamp, w3c, m30, m31, m32, m33, m34, m35]
        obtain ⟨x4, hc4, y4, hm4, e4, d4, ⟨rfl, ⟨w4, w4a, w4b, rfl, w4c⟩, f4, f4m, k4, v4, s4, p4, K4, R4, -, g4⟩ | ⟨rfl, B, f4, f4m⟩⟩ := s_num R3 K3 (show 1 ≤ 99 by decide) (by decide)
        · have l4 := K4.2.2.2.1
          have K4 : TK hc4 (uI hm4 119 (5 + T 0 2) (nI w4)) n k4 v4 s4 p4 := TK_m K4 (fun i h1 h2 => hI_ne (by omega))
          have R4 : RD hc4 (uI hm4 119 (5 + T 0 2) (nI w4)) X T b n := RD_fr R4 Fr.rf (Fr.rf.uI (by unfold mfr; omega))
          obtain ⟨m40, m41, m42, m43, m44, m45, -⟩ := id R4.2.1.2.2.1
          have m40 : hI (uI hm4 119 (5 + T 0 2) (nI w4)) 107 19 = nI (T 0 0) := m40
          have m41 : hI (uI hm4 119 (5 + T 0 2) (nI w4)) 107 20 = nI (T 0 1) := m41
          have m42 : hI (uI hm4 119 (5 + T 0 2) (nI w4)) 107 21 = nI (T 0 2) := m42
          have m43 : hI (uI hm4 119 (5 + T 0 2) (nI w4)) 107 22 = nI (T 0 3) := m43
          have m44 : hI (uI hm4 119 (5 + T 0 2) (nI w4)) 107 23 = nI (T 0 4) := m44
          have m45 : hI (uI hm4 119 (5 + T 0 2) (nI w4)) 107 24 = nI (T 0 5) := m45
          have h14 := R4.1.2.2.2
          obtain ⟨U, RU⟩ := RD_st R4 (by omega) w2a w3a w4a w4b (by rw [hI_ne (by omega), f4m.1 _ _ (by omega), hI_ne (by omega), f3m.1 _ _ (by omega)]; exact w2c) (by rw [hI_ne (by omega), f4m.1 _ _ (by omega), hI_at ⟨rfl, rfl⟩]) (by rw [hI_at ⟨rfl, rfl⟩])
          refine ⟨_, nI 1, _, ?_, ?_, ?_, ?_, Or.inl ⟨rfl, U, k4, v4, s4, p4, ?_, RU, by omega, ?_, fun rq => RQ_fr rq ?_ ?_ ?_ ?_⟩⟩
          · obtain ⟨cf0, cf1, cf2, cf3, cf4, cf5, -⟩ := R4.2.1.2.1.1
            have ra := x_radd (h := (uI (uI hc4 (X + 14) (T 0 2) (nI w3)) (X + 15) (T 0 2) (nI w4))) (rN12 hS) (show X + 13 ≠ X + 12 by omega) (by simp (disch := omega) only [hI_ne]; exact R4.2.2.1.2.1) (show hI (uI (uI hc4 (X + 14) (T 0 2) (nI w3)) (X + 15) (T 0 2) (nI w4)) (X + 12) 2 = nI (T 0 2) by simp (disch := omega) only [hI_ne]; exact cf2) (by omega) (by decide)
            simp (disch := omega) only [e4, bnd_some, h14, ↓reduceIte, R4.dref, bind_some', rS0 hS, rC0 hS, rS1 hS, rS4 hS, fX7_addStraw, rS2 hS, rS3 hS, x_roomT R4.2.2.1.2.1 cf2 (show T 0 2 < 5 by omega) (by decide), lit, eqF, leF, hI_ne, cf2, inbN, nI_clamp, ra]
          · simp (disch := omega) only [d4, bnd_some, eqF, ↓reduceIte, lit, nI_add, inbN, nI_clamp, w4c, m42]
          · have f0 : FNc hc hc4 := (((a3.tr f2).tr f3).tr f4)
            exact FXc.of (PI := fcX X) (((((f0.mono (fun a i q => by unfold fcX; omega) (fun _ _ q => q)).uI (by unfold fcX; omega)).uI (by unfold fcX; omega)).uI (by unfold fcX; omega)).uI (by unfold fcX; omega)) (fun _ _ q => q)
          · exact (((((a4.M.tr (FFm f2m (by decide) (by decide) (by show 5 ≤ _; omega))).tr f3m.M).uI (fmR (by decide) (by decide) (by show 5 ≤ _; omega))).tr f4m.M).uI (fmR (by decide) (by decide) (by show 5 ≤ _; omega))).uI (fm7 (by omega))
          · exact TK_c (TK_m K4 (fun i h1 h2 => hI_ne (by omega))) (fun i => by simp (disch := omega) only [hI_ne])
          · simp (disch := omega) only [hI_ne]; rw [f4.1 _ _ (by omega), f3.1 _ _ (by omega), f2.1 _ _ (by omega), a3.1 _ _ (by omega)]
          · simp (disch := omega) only [hI_ne]; rw [f4.1 _ _ (by omega), f3.1 _ _ (by omega), f2.1 _ _ (by omega), a3.1 _ _ (by omega)]
          · simp (disch := omega) only [hI_ne]; rw [f4.1 _ _ (by omega), f3.1 _ _ (by omega), f2.1 _ _ (by omega), a3.1 _ _ (by omega)]
          · intro i
            rw [hI_ne (by omega)]
            rw [hI_ne (by omega), f4m.1 _ _ (by omega), hI_ne (by omega), f3m.1 _ _ (by omega), f2m.1 _ _ (by omega), a4.1 _ _ (by omega)]
          · intro x i hx
            simp (disch := omega) only [hI_ne]; rw [f4.1 _ _ (by omega), f3.1 _ _ (by omega), f2.1 _ _ (by omega), a3.1 _ _ (by omega)]
        · have I := R3.idle B f4
          obtain ⟨e, q1, q2, q3⟩ := I.2.2.1
          refine ⟨hc4, nI 0, hm4, ?_, ?_, (FNc.X ((a3.tr f2).tr f3)).tr f4.X, (((a4.M.tr (FFm f2m (by decide) (by decide) (by show 5 ≤ _; omega))).tr f3m.M).uI (fmR (by decide) (by decide) (by show 5 ≤ _; omega))).tr f4m.M, Or.inr ⟨rfl, B⟩⟩
          · simp (disch := omega) only [e4, bnd_some, bind_some', dref_of I.1 (sS hS), rS0 hS, rC0 hS, rS1 hS, rS4 hS, lit, x_numI q3 q1 q2, q3, eqF, ↓reduceIte]
          · simp only [d4, bnd_some, ↓reduceIte, lit]
      · have I := R2.idle B f3
        obtain ⟨e, q1, q2, q3⟩ := I.2.2.1
        refine ⟨hc3, nI 0, hm3, ?_, ?_, (FNc.X (a3.tr f2)).tr f3.X, (a4.M.tr (FFm f2m (by decide) (by decide) (by show 5 ≤ _; omega))).tr f3m.M, Or.inr ⟨rfl, B⟩⟩
        · simp (disch := omega) only [e3, bnd_some, bind_some', dref_of I.1 (sS hS), rS0 hS, rC0 hS, rS1 hS, rS4 hS, lit, x_numI q3 q1 q2, q3, eqF, ↓reduceIte]
        · simp only [d3, bnd_some, ↓reduceIte, lit]
    · have I := R1.idle B f2
      obtain ⟨e, q1, q2, q3⟩ := I.2.2.1
      obtain ⟨nn0, nn0a, nn0b⟩ := I.2.2.2.1
      obtain ⟨xx0, xx0a, -⟩ := x_toldI q3 q1 q2 nn0a (rN0 hS) nn0b
      refine ⟨hc2, nI 0, hm2, ?_, ?_, (FNc.X a3).tr f2.X, a4.M.tr f2m.M, Or.inr ⟨rfl, B⟩⟩
      · simp (disch := omega) only [e2, bnd_some, bind_some', dref_of I.1 (sS hS), rS0 hS, rC0 hS, rS1 hS, rS4 hS, lit, x_numI q3 q1 q2, q3, eqF, ↓reduceIte, xx0a]
      · simp only [d2, bnd_some, ↓reduceIte, lit]
theorem l_member (R : RD hc hm X T b n) (K : TK hc hm n 3 v s p) : ∃ hc' y hm', fX5_memberLine hc = some hc' ∧ fX10_memberLine hm = some (y, hm') ∧ LO hc hm hc' y hm' X b n p := by
  have hS := R.1.1
  have x0 : X = 1 ∨ X = 35 := hS
  obtain ⟨N0, N1, N2, N3, N4, N5, -⟩ := R.2.1.1.1
  obtain ⟨cn0, cn1, cn2, cn3, cn4, cn5, -⟩ := R.2.1.2.1.1
  have cm : hI hm 107 22 = nI (T 0 3) := R.2.1.2.2.1.2.2.2.1
  unfold fX5_memberLine fX10_memberLine
  by_cases q : T 0 3 = 5
  · obtain ⟨b1, b2, b3⟩ := bad_here R.1.2.2.2 K.1.2.1 K.2.1.2.1 (e := 2) (by decide) (by decide)
    have I := R.idle b1 b2
    obtain ⟨e, q1, q2, q3⟩ := I.2.2.1
    obtain ⟨nn0, nn0a, nn0b⟩ := I.2.2.2.2.2
    obtain ⟨xx0, xx0a⟩ := x_freshI q3 q1 q2 nn0a (rN16 hS) nn0b
    refine ⟨_, nI 0, _, ?_, ?_, b2.X, b3.M, Or.inr ⟨rfl, b1⟩⟩
    · simp (disch := omega) only [R.dref, bind_some', rS0 hS, rC0 hS, rS1 hS, rS4 hS, x_roomF R.2.2.1.2.2 cn3 (by omega) (by omega), bnd_some, lit, x_pwF R K (show 1 ≤ 2 by decide) (by decide), dref_of I.1 (sS hS), x_numI q3 q1 q2, q3, eqF, ↓reduceIte, xx0a]
    · simp only [lit, cm, q, ↓reduceIte, m_wrong, bnd_some, isZ0, K.2.1.2.1]
  · obtain ⟨hc1, hm1, a1, a2, a3, a4, k1, v1, s1, p1, K1, R1, -, g1⟩ := s_adv R K
    have l0 := K.2.2.2.1
    have l1 := K1.2.2.2.1
    obtain ⟨m10, m11, m12, m13, m14, m15, -⟩ := id R1.2.1.2.2.1
    have m10 : hI hm1 107 19 = nI (T 0 0) := m10
    have m11 : hI hm1 107 20 = nI (T 0 1) := m11
    have m12 : hI hm1 107 21 = nI (T 0 2) := m12
    have m13 : hI hm1 107 22 = nI (T 0 3) := m13
    have m14 : hI hm1 107 23 = nI (T 0 4) := m14
    have m15 : hI hm1 107 24 = nI (T 0 5) := m15
    simp (disch := omega) only [R.dref, bind_some', rS0 hS, rC0 hS, rS1 hS, rS4 hS, x_roomT R.2.2.1.2.2 cn3 (show T 0 3 < 5 by omega) (by omega), bnd_some, lit, x_pwT R K, a1, R1.dref, cm, eqF, ↓reduceIte, a2, m10, m11, m12, m13, m14, m15]
    obtain ⟨x2, hc2, y2, hm2, e2, d2, ⟨rfl, ⟨w2, w2a, rfl, w2c⟩, f2, f2m, k2, v2, s2, p2, K2, R2, -, g2⟩ | ⟨rfl, B, f2, f2m⟩⟩ := s_fresh R1 K1 R1.roM (show 5 + T 0 3 < 10 by omega) (by unfold mfr; omega) (by decide)
    · have l2 := K2.2.2.2.1
      obtain ⟨m20, m21, m22, m23, m24, m25, -⟩ := id R2.2.1.2.2.1
      have m20 : hI hm2 107 19 = nI (T 0 0) := m20
      have m21 : hI hm2 107 20 = nI (T 0 1) := m21
      have m22 : hI hm2 107 21 = nI (T 0 2) := m22
      have m23 : hI hm2 107 22 = nI (T 0 3) := m23
      have m24 : hI hm2 107 23 = nI (T 0 4) := m24
      have m25 : hI hm2 107 24 = nI (T 0 5) := m25
      have h14 := R2.1.2.2.2
      obtain ⟨U, RU⟩ := RD_me R2 (by omega) w2a w2c
      refine ⟨_, nI 1, _, ?_, ?_, ?_, ?_, Or.inl ⟨rfl, U, k2, v2, s2, p2, ?_, RU, by omega, ?_, fun rq => RQ_fr rq ?_ ?_ ?_ ?_⟩⟩
      · obtain ⟨cf0, cf1, cf2, cf3, cf4, cf5, -⟩ := R2.2.1.2.1.1
        have ra := x_radd (h := (uI hc2 (X + 18) (T 0 3) (nI 0))) (rN16 hS) (show X + 17 ≠ X + 16 by omega) (by simp (disch := omega) only [hI_ne]; exact R2.2.2.1.2.2) (show hI (uI hc2 (X + 18) (T 0 3) (nI 0)) (X + 16) 2 = nI (T 0 3) by simp (disch := omega) only [hI_ne]; exact cf3) (by omega) (by decide)
        simp (disch := omega) only [e2, bnd_some, h14, ↓reduceIte, R2.dref, bind_some', rS0 hS, rC0 hS, rS1 hS, rS4 hS, fX7_addMember, rS5 hS, x_roomT R2.2.2.1.2.2 cf3 (show T 0 3 < 5 by omega) (by decide), lit, eqF, leF, hI_ne, cf3, inbN, nI_clamp, ra]
      · simp (disch := omega) only [d2, bnd_some, eqF, ↓reduceIte, lit, nI_add, inbN, nI_clamp, m23]
      · have f0 : FNc hc hc2 := (a3.tr f2)
        exact FXc.of (PI := fcX X) ((((f0.mono (fun a i q => by unfold fcX; omega) (fun _ _ q => q)).uI (by unfold fcX; omega)).uI (by unfold fcX; omega)).uI (by unfold fcX; omega)) (fun _ _ q => q)
      · exact (a4.M.tr (FFm f2m (by decide) (by decide) (by show 5 ≤ _; omega))).uI (fm7 (by omega))
      · exact TK_c (TK_m K2 (fun i h1 h2 => hI_ne (by omega))) (fun i => by simp (disch := omega) only [hI_ne])
      · simp (disch := omega) only [hI_ne]; rw [f2.1 _ _ (by omega), a3.1 _ _ (by omega)]
      · simp (disch := omega) only [hI_ne]; rw [f2.1 _ _ (by omega), a3.1 _ _ (by omega)]
      · simp (disch := omega) only [hI_ne]; rw [f2.1 _ _ (by omega), a3.1 _ _ (by omega)]
      · intro i
        rw [hI_ne (by omega)]
        rw [f2m.1 _ _ (by omega), a4.1 _ _ (by omega)]
      · intro x i hx
        simp (disch := omega) only [hI_ne]; rw [f2.1 _ _ (by omega), a3.1 _ _ (by omega)]
    · have I := R1.idle B f2
      obtain ⟨e, q1, q2, q3⟩ := I.2.2.1
      refine ⟨hc2, nI 0, hm2, ?_, ?_, (FNc.X a3).tr f2.X, a4.M.tr f2m.M, Or.inr ⟨rfl, B⟩⟩
      · simp (disch := omega) only [e2, bnd_some, bind_some', dref_of I.1 (sS hS), rS0 hS, rC0 hS, rS1 hS, rS4 hS, lit, x_numI q3 q1 q2, q3, eqF, ↓reduceIte]
      · simp only [d2, bnd_some, ↓reduceIte, lit]
theorem l_debate (R : RD hc hm X T b n) (K : TK hc hm n 3 v s p) : ∃ hc' y hm', fX5_debateLine hc = some hc' ∧ fX10_debateLine hm = some (y, hm') ∧ LO hc hm hc' y hm' X b n p := by
  have hS := R.1.1
  have x0 : X = 1 ∨ X = 35 := hS
  obtain ⟨N0, N1, N2, N3, N4, N5, -⟩ := R.2.1.1.1
  obtain ⟨cn0, cn1, cn2, cn3, cn4, cn5, -⟩ := R.2.1.2.1.1
  have cm : hI hm 107 23 = nI (T 0 4) := R.2.1.2.2.1.2.2.2.2.1
  unfold fX5_debateLine fX10_debateLine
  by_cases q : T 0 4 = 12
  · obtain ⟨b1, b2, b3⟩ := bad_here R.1.2.2.2 K.1.2.1 K.2.1.2.1 (e := 2) (by decide) (by decide)
    have I := R.idle b1 b2
    obtain ⟨e, q1, q2, q3⟩ := I.2.2.1
    obtain ⟨nn0, nn0a, nn0b⟩ := I.2.2.2.2.2
    obtain ⟨xx0, xx0a, -⟩ := x_toldI q3 q1 q2 nn0a (rN16 hS) nn0b
    obtain ⟨nn1, nn1a, nn1b⟩ := I.2.2.2.2.1
    obtain ⟨xx1, xx1a, -⟩ := x_toldI q3 q1 q2 nn1a (rN12 hS) nn1b
    refine ⟨_, nI 0, _, ?_, ?_, b2.X, b3.M, Or.inr ⟨rfl, b1⟩⟩
    · simp (disch := omega) only [R.dref, bind_some', rS0 hS, rC0 hS, rS1 hS, rS4 hS, cn4, leT, fX5_debateLine_18, bnd_some, lit, x_pwF R K (show 1 ≤ 2 by decide) (by decide), dref_of I.1 (sS hS), x_numI q3 q1 q2, q3, eqF, ↓reduceIte, xx0a, xx1a]
    · simp only [lit, cm, q, ↓reduceIte, m_wrong, bnd_some, isZ0, K.2.1.2.1]
  · obtain ⟨hc1, hm1, a1, a2, a3, a4, k1, v1, s1, p1, K1, R1, -, g1⟩ := s_adv R K
    have l0 := K.2.2.2.1
    have l1 := K1.2.2.2.1
    obtain ⟨m10, m11, m12, m13, m14, m15, -⟩ := id R1.2.1.2.2.1
    have m10 : hI hm1 107 19 = nI (T 0 0) := m10
    have m11 : hI hm1 107 20 = nI (T 0 1) := m11
    have m12 : hI hm1 107 21 = nI (T 0 2) := m12
    have m13 : hI hm1 107 22 = nI (T 0 3) := m13
    have m14 : hI hm1 107 23 = nI (T 0 4) := m14
    have m15 : hI hm1 107 24 = nI (T 0 5) := m15
    simp (disch := omega) only [R.dref, bind_some', rS0 hS, rC0 hS, rS1 hS, rS4 hS, cn4, leF, fX5_debateLine_18, bnd_some, lit, x_pwT R K, a1, R1.dref, cm, eqF, ↓reduceIte, a2, m10, m11, m12, m13, m14, m15]
    obtain ⟨x2, hc2, y2, hm2, e2, d2, ⟨rfl, ⟨w2, w2a, rfl, w2c⟩, f2, f2m, k2, v2, s2, p2, K2, R2, -, g2⟩ | ⟨rfl, -, B, f2, f2m⟩⟩ := s_told R1 K1 R1.roM
    · have l2 := K2.2.2.2.1
      have K2 : TK hc2 (uI hm2 122 (12 + T 0 4) (nI w2)) n k2 v2 s2 p2 := TK_m K2 (fun i h1 h2 => hI_ne (by omega))
      have R2 : RD hc2 (uI hm2 122 (12 + T 0 4) (nI w2)) X T b n := RD_fr R2 Fr.rf (Fr.rf.uI (by unfold mfr; omega))
      obtain ⟨m20, m21, m22, m23, m24, m25, -⟩ := id R2.2.1.2.2.1
      have m20 : hI (uI hm2 122 (12 + T 0 4) (nI w2)) 107 19 = nI (T 0 0) := m20
      have m21 : hI (uI hm2 122 (12 + T 0 4) (nI w2)) 107 20 = nI (T 0 1) := m21
      have m22 : hI (uI hm2 122 (12 + T 0 4) (nI w2)) 107 21 = nI (T 0 2) := m22
      have m23 : hI (uI hm2 122 (12 + T 0 4) (nI w2)) 107 22 = nI (T 0 3) := m23
      have m24 : hI (uI hm2 122 (12 + T 0 4) (nI w2)) 107 23 = nI (T 0 4) := m24
      have m25 : hI (uI hm2 122 (12 + T 0 4) (nI w2)) 107 24 = nI (T 0 5) := m25
      simp (disch := omega) only [e2, d2, bnd_some, bind_some', R2.dref, rS0 hS, rC0 hS, rS1 hS, rS4 hS, eqF, ↓reduceIte, lit, nI_add, inbN, nI_clamp, w2c, m20, m21, m22, m23, m24, m25]
      obtain ⟨x3, hc3, y3, hm3, e3, d3, ⟨rfl, ⟨w3, w3a, rfl, w3c⟩, f3, f3m, k3, v3, s3, p3, K3, R3, -, g3⟩ | ⟨rfl, -, B, f3, f3m⟩⟩ := s_told R2 K2 R2.roS
      · have l3 := K3.2.2.2.1
        have K3 : TK hc3 (uI hm3 123 (12 + T 0 4) (nI w3)) n k3 v3 s3 p3 := TK_m K3 (fun i h1 h2 => hI_ne (by omega))
        have R3 : RD hc3 (uI hm3 123 (12 + T 0 4) (nI w3)) X T b n := RD_fr R3 Fr.rf (Fr.rf.uI (by unfold mfr; omega))
        obtain ⟨m30, m31, m32, m33, m34, m35, -⟩ := id R3.2.1.2.2.1
        have m30 : hI (uI hm3 123 (12 + T 0 4) (nI w3)) 107 19 = nI (T 0 0) := m30
        have m31 : hI (uI hm3 123 (12 + T 0 4) (nI w3)) 107 20 = nI (T 0 1) := m31
        have m32 : hI (uI hm3 123 (12 + T 0 4) (nI w3)) 107 21 = nI (T 0 2) := m32
        have m33 : hI (uI hm3 123 (12 + T 0 4) (nI w3)) 107 22 = nI (T 0 3) := m33
        have m34 : hI (uI hm3 123 (12 + T 0 4) (nI w3)) 107 23 = nI (T 0 4) := m34
        have m35 : hI (uI hm3 123 (12 + T 0 4) (nI w3)) 107 24 = nI (T 0 5) := m35
        simp (disch := omega) only [e3, d3, bnd_some, bind_some', R3.dref, rS0 hS, rC0 hS, rS1 hS, rS4 hS, eqF, ↓reduceIte, lit, nI_add, inbN, nI_clamp, w3c, m30, m31, m32, m33, m34, m35]
        obtain ⟨x4, hc4, y4, hm4, e4, d4, ⟨rfl, ⟨w4, w4a, w4b, rfl, w4c⟩, f4, f4m, k4, v4, s4, p4, K4, R4, -, g4⟩ | ⟨rfl, B, f4, f4m⟩⟩ := s_num R3 K3 (show 0 ≤ 99 by decide) (by decide)
        · have l4 := K4.2.2.2.1
          have K4 : TK hc4 (uI hm4 124 (12 + T 0 4) (nI w4)) n k4 v4 s4 p4 := TK_m K4 (fun i h1 h2 => hI_ne (by omega))
          have R4 : RD hc4 (uI hm4 124 (12 + T 0 4) (nI w4)) X T b n := RD_fr R4 Fr.rf (Fr.rf.uI (by unfold mfr; omega))
          obtain ⟨m40, m41, m42, m43, m44, m45, -⟩ := id R4.2.1.2.2.1
          have m40 : hI (uI hm4 124 (12 + T 0 4) (nI w4)) 107 19 = nI (T 0 0) := m40
          have m41 : hI (uI hm4 124 (12 + T 0 4) (nI w4)) 107 20 = nI (T 0 1) := m41
          have m42 : hI (uI hm4 124 (12 + T 0 4) (nI w4)) 107 21 = nI (T 0 2) := m42
          have m43 : hI (uI hm4 124 (12 + T 0 4) (nI w4)) 107 22 = nI (T 0 3) := m43
          have m44 : hI (uI hm4 124 (12 + T 0 4) (nI w4)) 107 23 = nI (T 0 4) := m44
          have m45 : hI (uI hm4 124 (12 + T 0 4) (nI w4)) 107 24 = nI (T 0 5) := m45
          have h14 := R4.1.2.2.2
          obtain ⟨U, RU⟩ := RD_de R4 (by omega) w2a w3a w4b (by rw [hI_ne (by omega), f4m.1 _ _ (by omega), hI_ne (by omega), f3m.1 _ _ (by omega), hI_at ⟨rfl, rfl⟩]) (by rw [hI_ne (by omega), f4m.1 _ _ (by omega), hI_at ⟨rfl, rfl⟩]) (by rw [hI_at ⟨rfl, rfl⟩])
          refine ⟨_, nI 1, _, ?_, ?_, ?_, ?_, Or.inl ⟨rfl, U, k4, v4, s4, p4, ?_, RU, by omega, ?_, fun rq => RQ_fr rq ?_ ?_ ?_ ?_⟩⟩
          · obtain ⟨cf0, cf1, cf2, cf3, cf4, cf5, -⟩ := R4.2.1.2.1.1
            simp (disch := omega) only [e4, bnd_some, h14, ↓reduceIte, R4.dref, bind_some', fX7_addDebate, rS7 hS, rS8 hS, rS9 hS, lit, leF, hI_ne, cf4, inbN, nI_clamp, nI_add]
          · simp (disch := omega) only [d4, bnd_some, eqF, ↓reduceIte, lit, nI_add, inbN, nI_clamp, w4c, m44]
          · have f0 : FNc hc hc4 := (((a3.tr f2).tr f3).tr f4)
            exact FXc.of (PI := fcX X) (((((f0.mono (fun a i q => by unfold fcX; omega) (fun _ _ q => q)).uI (by unfold fcX; omega)).uI (by unfold fcX; omega)).uI (by unfold fcX; omega)).uI (by unfold fcX; omega)) (fun _ _ q => q)
          · exact ((((((a4.M.tr f2m.M).uI (fmR (by decide) (by decide) (by show 12 ≤ _; omega))).tr f3m.M).uI (fmR (by decide) (by decide) (by show 12 ≤ _; omega))).tr f4m.M).uI (fmR (by decide) (by decide) (by show 12 ≤ _; omega))).uI (fm7 (by omega))
          · exact TK_c (TK_m K4 (fun i h1 h2 => hI_ne (by omega))) (fun i => by simp (disch := omega) only [hI_ne])
          · simp (disch := omega) only [hI_ne]; rw [f4.1 _ _ (by omega), f3.1 _ _ (by omega), f2.1 _ _ (by omega), a3.1 _ _ (by omega)]
          · simp (disch := omega) only [hI_ne]; rw [f4.1 _ _ (by omega), f3.1 _ _ (by omega), f2.1 _ _ (by omega), a3.1 _ _ (by omega)]
          · simp (disch := omega) only [hI_ne]; rw [f4.1 _ _ (by omega), f3.1 _ _ (by omega), f2.1 _ _ (by omega), a3.1 _ _ (by omega)]
          · intro i
            rw [hI_ne (by omega)]
            rw [hI_ne (by omega), f4m.1 _ _ (by omega), hI_ne (by omega), f3m.1 _ _ (by omega), hI_ne (by omega), f2m.1 _ _ (by omega), a4.1 _ _ (by omega)]
          · intro x i hx
            simp (disch := omega) only [hI_ne]; rw [f4.1 _ _ (by omega), f3.1 _ _ (by omega), f2.1 _ _ (by omega), a3.1 _ _ (by omega)]
        · have I := R3.idle B f4
          obtain ⟨e, q1, q2, q3⟩ := I.2.2.1
          refine ⟨hc4, nI 0, hm4, ?_, ?_, (FNc.X ((a3.tr f2).tr f3)).tr f4.X, ((((a4.M.tr f2m.M).uI (fmR (by decide) (by decide) (by show 12 ≤ _; omega))).tr f3m.M).uI (fmR (by decide) (by decide) (by show 12 ≤ _; omega))).tr f4m.M, Or.inr ⟨rfl, B⟩⟩
          · simp (disch := omega) only [e4, bnd_some, bind_some', dref_of I.1 (sS hS), rS0 hS, rC0 hS, rS1 hS, rS4 hS, lit, x_numI q3 q1 q2, q3, eqF, ↓reduceIte]
          · simp only [d4, bnd_some, ↓reduceIte, lit]
      · have I := R2.idle B f3
        obtain ⟨e, q1, q2, q3⟩ := I.2.2.1
        refine ⟨hc3, nI 0, hm3, ?_, ?_, (FNc.X (a3.tr f2)).tr f3.X, ((a4.M.tr f2m.M).uI (fmR (by decide) (by decide) (by show 12 ≤ _; omega))).tr f3m.M, Or.inr ⟨rfl, B⟩⟩
        · simp (disch := omega) only [e3, bnd_some, bind_some', dref_of I.1 (sS hS), rS0 hS, rC0 hS, rS1 hS, rS4 hS, lit, x_numI q3 q1 q2, q3, eqF, ↓reduceIte]
        · simp only [d3, bnd_some, ↓reduceIte, lit]
    · have I := R1.idle B f2
      obtain ⟨e, q1, q2, q3⟩ := I.2.2.1
      obtain ⟨nn0, nn0a, nn0b⟩ := I.2.2.2.2.1
      obtain ⟨xx0, xx0a, -⟩ := x_toldI q3 q1 q2 nn0a (rN12 hS) nn0b
      refine ⟨hc2, nI 0, hm2, ?_, ?_, (FNc.X a3).tr f2.X, a4.M.tr f2m.M, Or.inr ⟨rfl, B⟩⟩
      · simp (disch := omega) only [e2, bnd_some, bind_some', dref_of I.1 (sS hS), rS0 hS, rC0 hS, rS1 hS, rS4 hS, lit, x_numI q3 q1 q2, q3, eqF, ↓reduceIte, xx0a]
      · simp only [d2, bnd_some, ↓reduceIte, lit]
theorem l_stuff (R : RD hc hm X T b n) (K : TK hc hm n 3 v s p) : ∃ hc' y hm', fX5_stuffLine hc = some hc' ∧ fX10_stuffLine hm = some (y, hm') ∧ LO hc hm hc' y hm' X b n p := by
  have hS := R.1.1
  have x0 : X = 1 ∨ X = 35 := hS
  obtain ⟨N0, N1, N2, N3, N4, N5, -⟩ := R.2.1.1.1
  obtain ⟨cn0, cn1, cn2, cn3, cn4, cn5, -⟩ := R.2.1.2.1.1
  have cm : hI hm 107 24 = nI (T 0 5) := R.2.1.2.2.1.2.2.2.2.2.1
  unfold fX5_stuffLine fX10_stuffLine
  by_cases q : T 0 5 = 6
  · obtain ⟨b1, b2, b3⟩ := bad_here R.1.2.2.2 K.1.2.1 K.2.1.2.1 (e := 2) (by decide) (by decide)
    have I := R.idle b1 b2
    obtain ⟨e, q1, q2, q3⟩ := I.2.2.1
    obtain ⟨nn0, nn0a, nn0b⟩ := I.2.2.2.2.1
    obtain ⟨xx0, xx0a, -⟩ := x_toldI q3 q1 q2 nn0a (rN12 hS) nn0b
    refine ⟨_, nI 0, _, ?_, ?_, b2.X, b3.M, Or.inr ⟨rfl, b1⟩⟩
    · simp (disch := omega) only [R.dref, bind_some', rS0 hS, rC0 hS, rS1 hS, rS4 hS, cn5, leT, fX5_stuffLine_18, bnd_some, lit, x_pwF R K (show 1 ≤ 2 by decide) (by decide), dref_of I.1 (sS hS), x_numI q3 q1 q2, q3, eqF, ↓reduceIte, xx0a]
    · simp only [lit, cm, q, ↓reduceIte, m_wrong, bnd_some, isZ0, K.2.1.2.1]
  · obtain ⟨hc1, hm1, a1, a2, a3, a4, k1, v1, s1, p1, K1, R1, -, g1⟩ := s_adv R K
    have l0 := K.2.2.2.1
    have l1 := K1.2.2.2.1
    obtain ⟨m10, m11, m12, m13, m14, m15, -⟩ := id R1.2.1.2.2.1
    have m10 : hI hm1 107 19 = nI (T 0 0) := m10
    have m11 : hI hm1 107 20 = nI (T 0 1) := m11
    have m12 : hI hm1 107 21 = nI (T 0 2) := m12
    have m13 : hI hm1 107 22 = nI (T 0 3) := m13
    have m14 : hI hm1 107 23 = nI (T 0 4) := m14
    have m15 : hI hm1 107 24 = nI (T 0 5) := m15
    simp (disch := omega) only [R.dref, bind_some', rS0 hS, rC0 hS, rS1 hS, rS4 hS, cn5, leF, fX5_stuffLine_18, bnd_some, lit, x_pwT R K, a1, R1.dref, cm, eqF, ↓reduceIte, a2, m10, m11, m12, m13, m14, m15]
    obtain ⟨x2, hc2, y2, hm2, e2, d2, ⟨rfl, ⟨w2, w2a, rfl, w2c⟩, f2, f2m, k2, v2, s2, p2, K2, R2, -, g2⟩ | ⟨rfl, -, B, f2, f2m⟩⟩ := s_told R1 K1 R1.roS
    · have l2 := K2.2.2.2.1
      have K2 : TK hc2 (uI hm2 125 (6 + T 0 5) (nI w2)) n k2 v2 s2 p2 := TK_m K2 (fun i h1 h2 => hI_ne (by omega))
      have R2 : RD hc2 (uI hm2 125 (6 + T 0 5) (nI w2)) X T b n := RD_fr R2 Fr.rf (Fr.rf.uI (by unfold mfr; omega))
      obtain ⟨m20, m21, m22, m23, m24, m25, -⟩ := id R2.2.1.2.2.1
      have m20 : hI (uI hm2 125 (6 + T 0 5) (nI w2)) 107 19 = nI (T 0 0) := m20
      have m21 : hI (uI hm2 125 (6 + T 0 5) (nI w2)) 107 20 = nI (T 0 1) := m21
      have m22 : hI (uI hm2 125 (6 + T 0 5) (nI w2)) 107 21 = nI (T 0 2) := m22
      have m23 : hI (uI hm2 125 (6 + T 0 5) (nI w2)) 107 22 = nI (T 0 3) := m23
      have m24 : hI (uI hm2 125 (6 + T 0 5) (nI w2)) 107 23 = nI (T 0 4) := m24
      have m25 : hI (uI hm2 125 (6 + T 0 5) (nI w2)) 107 24 = nI (T 0 5) := m25
      simp (disch := omega) only [e2, d2, bnd_some, bind_some', R2.dref, rS0 hS, rC0 hS, rS1 hS, rS4 hS, eqF, ↓reduceIte, lit, nI_add, inbN, nI_clamp, w2c, m20, m21, m22, m23, m24, m25]
      obtain ⟨x3, hc3, y3, hm3, e3, d3, ⟨rfl, ⟨w3, w3a, w3b, rfl, w3c⟩, f3, f3m, k3, v3, s3, p3, K3, R3, -, g3⟩ | ⟨rfl, B, f3, f3m⟩⟩ := s_num R2 K2 (show 0 ≤ 99 by decide) (by decide)
      · have l3 := K3.2.2.2.1
        have K3 : TK hc3 (uI hm3 126 (6 + T 0 5) (nI w3)) n k3 v3 s3 p3 := TK_m K3 (fun i h1 h2 => hI_ne (by omega))
        have R3 : RD hc3 (uI hm3 126 (6 + T 0 5) (nI w3)) X T b n := RD_fr R3 Fr.rf (Fr.rf.uI (by unfold mfr; omega))
        obtain ⟨m30, m31, m32, m33, m34, m35, -⟩ := id R3.2.1.2.2.1
        have m30 : hI (uI hm3 126 (6 + T 0 5) (nI w3)) 107 19 = nI (T 0 0) := m30
        have m31 : hI (uI hm3 126 (6 + T 0 5) (nI w3)) 107 20 = nI (T 0 1) := m31
        have m32 : hI (uI hm3 126 (6 + T 0 5) (nI w3)) 107 21 = nI (T 0 2) := m32
        have m33 : hI (uI hm3 126 (6 + T 0 5) (nI w3)) 107 22 = nI (T 0 3) := m33
        have m34 : hI (uI hm3 126 (6 + T 0 5) (nI w3)) 107 23 = nI (T 0 4) := m34
        have m35 : hI (uI hm3 126 (6 + T 0 5) (nI w3)) 107 24 = nI (T 0 5) := m35
        have h14 := R3.1.2.2.2
        obtain ⟨U, RU⟩ := RD_sf R3 (by omega) w2a w3b (by rw [hI_ne (by omega), f3m.1 _ _ (by omega), hI_at ⟨rfl, rfl⟩]) (by rw [hI_at ⟨rfl, rfl⟩])
        refine ⟨_, nI 1, _, ?_, ?_, ?_, ?_, Or.inl ⟨rfl, U, k3, v3, s3, p3, ?_, RU, by omega, ?_, fun rq => RQ_fr rq ?_ ?_ ?_ ?_⟩⟩
        · obtain ⟨cf0, cf1, cf2, cf3, cf4, cf5, -⟩ := R3.2.1.2.1.1
          simp (disch := omega) only [e3, bnd_some, h14, ↓reduceIte, R3.dref, bind_some', fX7_addStuff, rS11 hS, rS12 hS, lit, leF, hI_ne, cf5, inbN, nI_clamp, nI_add]
        · simp (disch := omega) only [d3, bnd_some, eqF, ↓reduceIte, lit, nI_add, inbN, nI_clamp, w3c, m35]
        · have f0 : FNc hc hc3 := ((a3.tr f2).tr f3)
          exact FXc.of (PI := fcX X) ((((f0.mono (fun a i q => by unfold fcX; omega) (fun _ _ q => q)).uI (by unfold fcX; omega)).uI (by unfold fcX; omega)).uI (by unfold fcX; omega)) (fun _ _ q => q)
        · exact ((((a4.M.tr f2m.M).uI (fmR (by decide) (by decide) (by show 6 ≤ _; omega))).tr f3m.M).uI (fmR (by decide) (by decide) (by show 6 ≤ _; omega))).uI (fm7 (by omega))
        · exact TK_c (TK_m K3 (fun i h1 h2 => hI_ne (by omega))) (fun i => by simp (disch := omega) only [hI_ne])
        · simp (disch := omega) only [hI_ne]; rw [f3.1 _ _ (by omega), f2.1 _ _ (by omega), a3.1 _ _ (by omega)]
        · simp (disch := omega) only [hI_ne]; rw [f3.1 _ _ (by omega), f2.1 _ _ (by omega), a3.1 _ _ (by omega)]
        · simp (disch := omega) only [hI_ne]; rw [f3.1 _ _ (by omega), f2.1 _ _ (by omega), a3.1 _ _ (by omega)]
        · intro i
          rw [hI_ne (by omega)]
          rw [hI_ne (by omega), f3m.1 _ _ (by omega), hI_ne (by omega), f2m.1 _ _ (by omega), a4.1 _ _ (by omega)]
        · intro x i hx
          simp (disch := omega) only [hI_ne]; rw [f3.1 _ _ (by omega), f2.1 _ _ (by omega), a3.1 _ _ (by omega)]
      · have I := R2.idle B f3
        obtain ⟨e, q1, q2, q3⟩ := I.2.2.1
        refine ⟨hc3, nI 0, hm3, ?_, ?_, (FNc.X (a3.tr f2)).tr f3.X, ((a4.M.tr f2m.M).uI (fmR (by decide) (by decide) (by show 6 ≤ _; omega))).tr f3m.M, Or.inr ⟨rfl, B⟩⟩
        · simp (disch := omega) only [e3, bnd_some, bind_some', dref_of I.1 (sS hS), rS0 hS, rC0 hS, rS1 hS, rS4 hS, lit, x_numI q3 q1 q2, q3, eqF, ↓reduceIte]
        · simp only [d3, bnd_some, ↓reduceIte, lit]
    · have I := R1.idle B f2
      obtain ⟨e, q1, q2, q3⟩ := I.2.2.1
      refine ⟨hc2, nI 0, hm2, ?_, ?_, (FNc.X a3).tr f2.X, a4.M.tr f2m.M, Or.inr ⟨rfl, B⟩⟩
      · simp (disch := omega) only [e2, bnd_some, bind_some', dref_of I.1 (sS hS), rS0 hS, rC0 hS, rS1 hS, rS4 hS, lit, x_numI q3 q1 q2, q3, eqF, ↓reduceIte]
      · simp only [d2, bnd_some, ↓reduceIte, lit]
end V
