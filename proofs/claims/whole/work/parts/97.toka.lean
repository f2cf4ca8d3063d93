/-! text: the next token, on both sides. -/
theorem nmr_le (b : Nat → Nat) : ∀ d p v, v < 2000000 → p ≤ (nmr b d p v).1 ∧ (nmr b d p v).1 ≤ p + d ∧ (nmr b d p v).2 < 2000000
  | 0, p, v, h => ⟨Nat.le_refl _, Nat.le_refl _, h⟩
  | d + 1, p, v, h => by
    rw [nmr]
    by_cases q : 48 ≤ b p ∧ b p ≤ 57
    · rw [if_pos q]
      have := nmr_le b d (p + 1) (if 100000 ≤ v then v else v * 10 + (b p - 48)) (by split <;> omega)
      omega
    · rw [if_neg q]
      exact ⟨Nat.le_refl _, by simp only; omega, h⟩
def nxK (b : Nat → Nat) (n s : Nat) : Nat := if n ≤ s then 0 else if 97 ≤ b s ∧ b s ≤ 122 then (if 6 < (wdp b (n - s) s 0 0).1 - s then 1 else wkk (wdp b (n - s) s 0 0).2) else if 48 ≤ b s ∧ b s ≤ 57 then 4 else sgk (b s)
def nxV (b : Nat → Nat) (n s : Nat) : Nat := if n ≤ s then 0 else if 97 ≤ b s ∧ b s ≤ 122 then (if 6 < (wdp b (n - s) s 0 0).1 - s then 0 else wkv (wdp b (n - s) s 0 0).2) else if 48 ≤ b s ∧ b s ≤ 57 then (nmr b (n - s) s 0).2 else sgv (b s) (nx2 b n s)
def nxP (b : Nat → Nat) (n s : Nat) : Nat := if n ≤ s then s else if 97 ≤ b s ∧ b s ≤ 122 then (wdp b (n - s) s 0 0).1 else if 48 ≤ b s ∧ b s ≤ 57 then (nmr b (n - s) s 0).1 else s + sgl (b s) (nx2 b n s)
theorem x_next {h : Hp} {b : Nat → Nat} {n p : Nat} (tp : TPc h b n) (h3 : hI h 69 3 = nI n) (h6 : hI h 69 6 = nI p) (hp : p ≤ n) (kc : ∀ i, i < 23 → hI h 71 i = nI (langN i)) : ∃ h', fX5_next h = some h' ∧ FNc h h' ∧ hI h' 69 9 = hI h 69 8 ∧ TKc h' (nxK b n (skp b (n - p) p)) (nxV b n (skp b (n - p) p)) (skp b (n - p) p) (nxP b n (skp b (n - p) p)) := by
  have hn := tp.1
  have sl := skp_le b (n - p) p
  have e1 := x_skp (b := b) (n := n) (n - p) p FU (uI h 69 9 (hI h 69 8)) (by omega) (by unfold FU; omega) ⟨hn, fun i hi => by rw [hI_ne (by omega)]; exact tp.2 i hi⟩ (by rw [hI_ne (by omega)]; exact h3) (by rw [hI_ne (by omega)]; exact h6)
  generalize skp b (n - p) p = s at *
  have e0 : fX5_next h = fX5_next_70 (uI (uI h 69 9 (hI h 69 8)) 69 6 (nI s)) := by rw [← e1]; rfl
  rw [e0]
  have e6 : hI (uI (uI h 69 9 (hI h 69 8)) 69 6 (nI s)) 69 6 = nI s := hI_at ⟨rfl, rfl⟩
  unfold fX5_next_70
  simp only [lit, e6]
  generalize hg : uI (uI (uI (uI (uI h 69 9 (hI h 69 8)) 69 6 (nI s)) 69 8 (nI s)) 69 13 (-nI 1)) 69 11 (-nI 1) = g
  have fg : FNc h g := by rw [← hg]; exact ((((Fr.rf.uI (by omega)).uI (by omega)).uI (by omega)).uI (by omega)).uI (by omega)
  have o : ∀ a i, ¬ (a = 69 ∧ (i = 9 ∨ i = 6 ∨ i = 8 ∨ i = 13 ∨ i = 11)) → hI g a i = hI h a i := fun a i q => by
    rw [← hg]; simp (disch := omega) only [hI_ne]
  have g3 : hI g 69 3 = nI n := by rw [o _ _ (by omega)]; exact h3
  have g6 : hI g 69 6 = nI s := by rw [← hg]; simp (disch := omega) only [hI_ne, hI_at]
  have g8 : hI g 69 8 = nI s := by rw [← hg]; simp (disch := omega) only [hI_ne, hI_at]
  have g9 : hI g 69 9 = hI h 69 8 := by rw [← hg]; simp (disch := omega) only [hI_ne, hI_at]
  have g11 : hI g 69 11 = -nI 1 := by rw [← hg]; simp (disch := omega) only [hI_ne, hI_at]
  have g13 : hI g 69 13 = -nI 1 := by rw [← hg]; simp (disch := omega) only [hI_ne, hI_at]
  have gt : TPc g b n := ⟨hn, fun i hi => by rw [o _ _ (by omega)]; exact tp.2 i hi⟩
  have gk : ∀ i, i < 23 → hI g 71 i = nI (langN i) := fun i hi => by rw [o _ _ (by omega)]; exact kc i hi
  clear hg e1 e0 e6
  unfold nxK nxV nxP
  by_cases q : n ≤ s
  · simp (disch := omega) only [g3, g6, leT, ↓reduceIte, fX5_next_109, lit, q]
    exact ⟨_, rfl, fg.uI (by omega), by rw [hI_ne (by omega)]; exact g9, hI_at ⟨rfl, rfl⟩, by rw [hI_ne (by omega)]; exact g8, by rw [hI_ne (by omega)]; exact g6, fun y => absurd y (by decide), fun y => absurd y (by decide), fun y => absurd y (by decide), fun y => absurd y (by decide)⟩
  · obtain ⟨b1, b2⟩ := gt.2 s (by omega)
    rw [if_neg q, if_neg q, if_neg q]
    have n97 : (nI (b s)).toInt8.toInt32 < nI 97 ↔ (b s < 97 ∨ 128 ≤ b s) := by rw [sxl _ b1]
    by_cases l : 97 ≤ b s ∧ b s ≤ 122
    · have c1 : ¬ (b s < 97 ∨ 128 ≤ b s) := by omega
      have c2 : ¬ (122 < b s ∧ b s < 128) := by omega
      rw [if_pos l, if_pos l, if_pos l]
      simp (disch := omega) only [g3, g6, leF, ltT, ↓reduceIte, inbN, nI_clamp, b2, sxl, sxm, c1, c2]
      obtain ⟨h', a1, a2, a3, a4⟩ := x_word gt g3 g6 (by omega) gk g11 g8
      rw [a1]
      exact ⟨h', rfl, fg.tr a2, a3.trans g9, a4⟩
    · rw [if_neg l, if_neg l, if_neg l]
      have t152 : ∃ h', fX5_next_152 g = some h' ∧ FNc g h' ∧ hI h' 69 9 = hI g 69 9 ∧ TKc h' (if 48 ≤ b s ∧ b s ≤ 57 then 4 else sgk (b s)) (if 48 ≤ b s ∧ b s ≤ 57 then (nmr b (n - s) s 0).2 else sgv (b s) (nx2 b n s)) s (if 48 ≤ b s ∧ b s ≤ 57 then (nmr b (n - s) s 0).1 else s + sgl (b s) (nx2 b n s)) := by
        unfold fX5_next_152
        by_cases z : 48 ≤ b s ∧ b s ≤ 57
        · have c1 : ¬ (b s < 48 ∨ 128 ≤ b s) := by omega
          have c2 : ¬ (57 < b s ∧ b s < 128) := by omega
          rw [if_pos z, if_pos z, if_pos z]
          simp (disch := omega) only [lit, g6, ↓reduceIte, inbN, nI_clamp, b2, sxd, sxe, c1, c2, fX5_readNumber]
          rw [x_nmr (b := b) (n := n) (n - s) s 0 FU (uI (uI g 69 7 (nI 4)) 69 12 (nI 0)) (by omega) (by unfold FU; omega) (by decide) ⟨hn, fun i hi => by rw [hI_ne (by omega), hI_ne (by omega)]; exact gt.2 i hi⟩ (by rw [hI_ne (by omega), hI_ne (by omega)]; exact g3) (by rw [hI_ne (by omega), hI_ne (by omega)]; exact g6) (hI_at ⟨rfl, rfl⟩)]
          refine ⟨_, rfl, (((Fr.rf.uI (by omega)).uI (by omega)).uI (by omega)).uI (by omega), by simp (disch := omega) only [hI_ne], by simp (disch := omega) only [hI_ne, hI_at], by simp (disch := omega) only [hI_ne]; exact g8, hI_at ⟨rfl, rfl⟩, fun y => absurd y (by decide), fun y => absurd y (by decide), fun _ => by simp (disch := omega) only [hI_ne, hI_at], fun y => absurd y (by decide)⟩
        · rw [if_neg z, if_neg z, if_neg z]
          obtain ⟨h', a1, a2, a3, a4, a5, a6, a7⟩ := x_sign gt g3 g6 (by omega) z g13
          have nk : sgk (b s) ≠ 2 ∧ sgk (b s) ≠ 3 ∧ sgk (b s) ≠ 4 := by unfold sgk; split <;> (try split) <;> (try split) <;> (try split) <;> (try split) <;> (try split) <;> (try split) <;> (try split) <;> (try split) <;> (try split) <;> decide
          refine ⟨h', ?_, a2, a3, a5, a4.trans g8, a6, fun y => absurd y nk.1, fun y => absurd y nk.2.1, fun y => absurd y nk.2.2, a7⟩
          have t187 : fX5_next_187 g = some h' := by
            unfold fX5_next_187
            simp (disch := omega) only [g6, ↓reduceIte, inbN, nI_clamp, b2, a1, bind_some']
          by_cases c1 : b s < 48 ∨ 128 ≤ b s
          · simp (disch := omega) only [lit, g6, ↓reduceIte, inbN, nI_clamp, b2, sxd, c1]
            exact t187
          · have c2 : 57 < b s ∧ b s < 128 := by omega
            simp (disch := omega) only [lit, g6, ↓reduceIte, inbN, nI_clamp, b2, sxd, sxe, c1]
            rw [if_pos c2]
            exact t187
      obtain ⟨h', a1, a2, a3, a4⟩ := t152
      refine ⟨h', ?_, fg.tr a2, a3.trans g9, a4⟩
      by_cases c1 : b s < 97 ∨ 128 ≤ b s
      · simp (disch := omega) only [g3, g6, leF, ltT, ↓reduceIte, inbN, nI_clamp, b2, sxl, c1]
        exact a1
      · have c2 : 122 < b s ∧ b s < 128 := by omega
        simp (disch := omega) only [g3, g6, leF, ltT, ↓reduceIte, inbN, nI_clamp, b2, sxl, sxm, c1]
        rw [if_pos c2]
        exact a1
theorem m_dgT {h : Hp} {b : Nat → Nat} {n p : Nat} (tp : TPm h b n) (h6 : hI h 107 6 = nI n) (hp : p < n) (q : 48 ≤ b p ∧ b p ≤ 57) : fX10_isDigit h (nI p) = some (nI 1, h) := by
  have h7 := tp.1
  obtain ⟨b1, b2⟩ := tp.2 p hp
  unfold fX10_isDigit
  simp (disch := omega) only [lit, h6, ↓reduceIte, leF, ltF, inbN, nI_clamp, b2]
theorem m_dgF {h : Hp} {b : Nat → Nat} {n p : Nat} (tp : TPm h b n) (h6 : hI h 107 6 = nI n) (hp : p < n) (q : ¬ (48 ≤ b p ∧ b p ≤ 57)) : fX10_isDigit h (nI p) = some (nI 0, h) := by
  have h7 := tp.1
  obtain ⟨b1, b2⟩ := tp.2 p hp
  unfold fX10_isDigit
  by_cases c : b p < 48
  · simp (disch := omega) only [lit, h6, ↓reduceIte, leF, ltT, inbN, nI_clamp, b2]
  · simp (disch := omega) only [lit, h6, ↓reduceIte, leF, ltF, ltT, inbN, nI_clamp, b2]
theorem m_word {h : Hp} {b : Nat → Nat} {n s : Nat} (tp : TPm h b n) (km : RKm h) (h6 : hI h 107 6 = nI n) (h7 : hI h 107 7 = nI s) (h10 : hI h 107 10 = nI s) (hs : s < n) : ∃ h', fX10_token_90 FU h = some h' ∧ FNm h h' ∧ TKm h' (if 6 < (wdp b (n - s) s 0 0).1 - s then 1 else wkk (wdp b (n - s) s 0 0).2) (if 6 < (wdp b (n - s) s 0 0).1 - s then 0 else wkv (wdp b (n - s) s 0 0).2) s (wdp b (n - s) s 0 0).1 := by
  have hn := tp.1
  have g1 := wdp_ge b (n - s) s 0 0
  have g2 := wdp_le b (n - s) s 0 0
  have gl := wdp_l b (n - s) s 0 0
  have hr : (wdp b (n - s) s 0 0).1 ≤ s + 6 → (wdp b (n - s) s 0 0).2 = hrN b s (wdp b (n - s) s 0 0).1 6 := fun q => wdp_hr q (n - s) s 0 0 rfl rfl (by rw [hrN, Nat.zero_mul])
  obtain ⟨fu, a1, a2⟩ := m_wde (b := b) (n := n) (n - s) s 0 0 FU h (by omega) (by unfold FU; omega) tp h6 h7
  have wa := m_wordAt (h := uI h 107 7 (nI (wdp b (n - s) s 0 0).1)) (b := b) (n := n) (s := s) ⟨hn, fun i hi => by rw [hI_ne (by omega)]; exact tp.2 i hi⟩ (fun i hi => by rw [hI_ne (by omega)]; exact km i hi) hs
  rw [a1]
  generalize wdp b (n - s) s 0 0 = r at *
  obtain ⟨e, w⟩ := r
  simp only at *
  have k7 : hI (uI h 107 7 (nI e)) 107 7 = nI e := hI_at ⟨rfl, rfl⟩
  have k10 : hI (uI h 107 7 (nI e)) 107 10 = nI s := by rw [hI_ne (by omega)]; exact h10
  have kt : TPm (uI h 107 7 (nI e)) b n := ⟨hn, fun i hi => by rw [hI_ne (by omega)]; exact tp.2 i hi⟩
  have kf : FNm h (uI h 107 7 (nI e)) := Fr.rf.uI (by omega)
  generalize uI h 107 7 (nI e) = g at *
  rw [fX10_token_90]
  simp only [k7, k10, a2, bnd_some, lit, ↓reduceIte, wa]
  have sb : nI e - nI s = nI (e - s) := pk_sub (by omega)
  have o7 : ∀ v, hI (uI g 107 9 v) 107 7 = nI e := fun v => by rw [hI_ne (by omega)]; exact k7
  have o10 : ∀ v, hI (uI g 107 9 v) 107 10 = nI s := fun v => by rw [hI_ne (by omega)]; exact k10
  have o9 : ∀ v, hI (uI g 107 9 v) 107 9 = v := fun v => hI_at ⟨rfl, rfl⟩
  have m10 : (-nI 1 < nI 0) = True := eq_true (by decide)
  by_cases q : 6 < e - s
  · simp (disch := omega) only [q, ↓reduceIte, o9, o7, o10, m10, sb, leF, fX10_token_162, lit, hI_at, eqF]
    exact ⟨_, rfl, (kf.uI (by omega)).uI (by omega), hI_at ⟨rfl, rfl⟩, by rw [hI_ne (by omega)]; exact o10 _, by rw [hI_ne (by omega)]; exact o7 _, fun z => absurd z (by decide)⟩
  · simp only [q, ↓reduceIte]
    unfold wkk wkv
    by_cases z : wix w < 23
    · have zs := swp_lt _ z
      simp (disch := omega) only [z, ↓reduceIte, o9, ltF, fX10_token_162, lit, hI_at, eqF]
      refine ⟨_, rfl, (kf.uI (by omega)).uI (by omega), ?_, by rw [hI_ne (by omega)]; exact o10 _, by rw [hI_ne (by omega)]; exact o7 _, fun _ => ?_⟩
      · rw [hI_at ⟨rfl, rfl⟩]
        by_cases z3 : wix w = 13
        · rw [if_pos (Or.inl z3), if_pos z3]; rfl
        · by_cases z4 : wix w = 14
          · rw [if_pos (Or.inr z4), if_neg z3, if_pos z4]; rfl
          · rw [if_neg (by omega), if_neg z3, if_neg z4]; rfl
      · rw [hI_ne (by omega), o9]
        by_cases z3 : wix w = 13
        · rw [if_pos (Or.inl z3), if_pos z3, z3]; rfl
        · by_cases z4 : wix w = 14
          · rw [if_pos (Or.inr z4), if_neg z3, if_pos z4, z4]; rfl
          · rw [if_neg (by omega), if_neg z3, if_neg z4]
            unfold swp
            rw [if_neg z3, if_neg z4]; rfl
    · have z3 : ¬ (wix w = 13 ∨ wix w = 14) := by omega
      have z4 : ¬ wix w = 13 := by omega
      have z5 : ¬ wix w = 14 := by omega
      simp (disch := omega) only [z, z3, z4, z5, ↓reduceIte, o9, o7, o10, m10, sb, leT, fX10_token_162, lit, hI_at, hI_ne]
      rw [m_packed (h := uI (uI g 107 9 (-nI 1)) 107 8 (nI 2)) (b := b) (n := n) (s := s) (e := e) ⟨hn, fun i hi => by rw [hI_ne (by omega), hI_ne (by omega)]; exact kt.2 i hi⟩ (by omega) (by omega) gl, bnd_some]
      refine ⟨_, rfl, ((kf.uI (by omega)).uI (by omega)).uI (by omega), by rw [hI_ne (by omega), hI_at ⟨rfl, rfl⟩]; rfl, by rw [hI_ne (by omega), hI_ne (by omega)]; exact o10 _, by rw [hI_ne (by omega), hI_ne (by omega)]; exact o7 _, fun _ => ?_⟩
      rw [hI_at ⟨rfl, rfl⟩, ← hr (by omega)]; rfl
theorem m_next {h : Hp} {b : Nat → Nat} {n p : Nat} (tp : TPm h b n) (h6 : hI h 107 6 = nI n) (h7 : hI h 107 7 = nI p) (hp : p ≤ n) (km : RKm h) : ∃ h', fX10_token h = some h' ∧ FNm h h' ∧ TKm h' (nxK b n (skp b (n - p) p)) (nxV b n (skp b (n - p) p)) (skp b (n - p) p) (nxP b n (skp b (n - p) p)) := by
  have hn := tp.1
  have sl := skp_le b (n - p) p
  have e1 := m_skp (b := b) (n := n) (n - p) p FU h (by omega) (by unfold FU; omega) tp h6 h7
  generalize skp b (n - p) p = s at *
  have e0 : fX10_token h = fX10_token_52 (uI h 107 7 (nI s)) := by rw [← e1]; rfl
  rw [e0]
  unfold fX10_token_52
  have e7 : hI (uI h 107 7 (nI s)) 107 7 = nI s := hI_at ⟨rfl, rfl⟩
  simp only [lit, e7]
  generalize hg : uI (uI h 107 7 (nI s)) 107 10 (nI s) = g
  have fg : FNm h g := by rw [← hg]; exact (Fr.rf.uI (by omega)).uI (by omega)
  have o : ∀ a i, ¬ (a = 107 ∧ (i = 7 ∨ i = 10)) → hI g a i = hI h a i := fun a i q => by
    rw [← hg]; simp (disch := omega) only [hI_ne]
  have g6 : hI g 107 6 = nI n := by rw [o _ _ (by omega)]; exact h6
  have g7 : hI g 107 7 = nI s := by rw [← hg]; simp (disch := omega) only [hI_ne, hI_at]
  have g10 : hI g 107 10 = nI s := by rw [← hg]; simp (disch := omega) only [hI_ne, hI_at]
  have gt : TPm g b n := ⟨hn, fun i hi => by rw [o _ _ (by omega)]; exact tp.2 i hi⟩
  have gk : RKm g := fun i hi => by rw [o _ _ (by omega)]; exact km i hi
  clear hg e1 e0 e7
  unfold nxK nxV nxP
  by_cases q : n ≤ s
  · have qn : s = n := by omega
    simp (disch := omega) only [g7, g6, eqT, ↓reduceIte, q]
    exact ⟨_, rfl, fg.uI (by omega), hI_at ⟨rfl, rfl⟩, by rw [hI_ne (by omega)]; exact g10, by rw [hI_ne (by omega)]; exact g7, fun z => absurd z (by decide)⟩
  · rw [if_neg q, if_neg q, if_neg q]
    by_cases l : 97 ≤ b s ∧ b s ≤ 122
    · rw [if_pos l, if_pos l, if_pos l]
      simp (disch := omega) only [g7, g6, eqF, ↓reduceIte, m_smT gt g6 (show s < n by omega) l, bnd_some]
      obtain ⟨h', a1, a2, a3⟩ := m_word gt gk g6 g7 g10 (by omega)
      exact ⟨h', a1, fg.tr a2, a3⟩
    · rw [if_neg l, if_neg l, if_neg l]
      simp (disch := omega) only [g7, g6, eqF, ↓reduceIte, m_smF gt g6 (show s ≤ n by omega) (fun _ => l), bnd_some]
      by_cases z : 48 ≤ b s ∧ b s ≤ 57
      · rw [if_pos z, if_pos z, if_pos z]
        simp (disch := omega) only [m_dgT gt g6 (show s < n by omega) z, bnd_some, eqF, ↓reduceIte]
        rw [m_nmr (b := b) (n := n) (n - s) s 0 FU (uI (uI g 107 8 (nI 3)) 107 9 (nI 0)) (by omega) (by unfold FU; omega) (by decide) ⟨hn, fun i hi => by rw [hI_ne (by omega), hI_ne (by omega)]; exact gt.2 i hi⟩ (by rw [hI_ne (by omega), hI_ne (by omega)]; exact g6) (by rw [hI_ne (by omega), hI_ne (by omega)]; exact g7) (hI_at ⟨rfl, rfl⟩)]
        refine ⟨_, rfl, (((fg.uI (by omega)).uI (by omega)).uI (by omega)).uI (by omega), by simp (disch := omega) only [hI_ne, hI_at]; rfl, by simp (disch := omega) only [hI_ne]; exact g10, hI_at ⟨rfl, rfl⟩, fun _ => by simp (disch := omega) only [hI_ne, hI_at]; rfl⟩
      · rw [if_neg z, if_neg z, if_neg z]
        simp only [m_dgF gt g6 (show s < n by omega) z, bnd_some, ↓reduceIte]
        obtain ⟨h', a1, a2, a3, a4, a5, a6⟩ := m_sign gt g6 g7 (show s < n by omega)
        rw [a1]
        exact ⟨h', rfl, fg.tr a2, a4, a3.trans g10, a5, a6⟩
/-- which tokens there are -/
def WK (k v : Nat) : Prop := k ≤ 8 ∧ (k = 2 → v < 2 ^ 30) ∧ (k = 3 → v < 23 ∧ v ≠ 13 ∧ v ≠ 14) ∧ (k = 4 → v < 2000000) ∧ (k = 8 → v ≤ 12 ∧ v ≠ 2) ∧ (k = 0 → v = 0)
theorem nx_ok {b : Nat → Nat} {n s : Nat} (hs : s ≤ n) : WK (nxK b n s) (nxV b n s) ∧ s ≤ nxP b n s ∧ nxP b n s ≤ n ∧ (nxK b n s ≠ 0 → s < nxP b n s) ∧ (nxK b n s = 0 → s = n) := by
  unfold nxK nxV nxP
  by_cases q : n ≤ s
  · rw [if_pos q, if_pos q, if_pos q]
    refine ⟨⟨by decide, fun y => absurd y (by decide), fun y => absurd y (by decide), fun y => absurd y (by decide), fun y => absurd y (by decide), fun _ => rfl⟩, by omega, by omega, fun y => absurd rfl y, fun _ => by omega⟩
  · rw [if_neg q, if_neg q, if_neg q]
    obtain ⟨d, hd⟩ : ∃ d, n - s = d + 1 := ⟨n - s - 1, by omega⟩
    by_cases l : 97 ≤ b s ∧ b s ≤ 122
    · rw [if_pos l, if_pos l, if_pos l]
      have g1 : s < (wdp b (n - s) s 0 0).1 := by
        rw [hd, wdp, if_pos l]
        exact wdp_ge b d (s + 1) _ _
      have g2 := wdp_le b (n - s) s 0 0
      have gl := wdp_l b (n - s) s 0 0
      have hr : (wdp b (n - s) s 0 0).1 ≤ s + 6 → (wdp b (n - s) s 0 0).2 = hrN b s (wdp b (n - s) s 0 0).1 6 := fun q => wdp_hr q (n - s) s 0 0 rfl rfl (by rw [hrN, Nat.zero_mul])
      generalize wdp b (n - s) s 0 0 = r at *
      obtain ⟨e, w⟩ := r
      simp only at *
      by_cases q6 : 6 < e - s
      · rw [if_pos q6, if_pos q6]
        exact ⟨⟨by decide, fun y => absurd y (by decide), fun y => absurd y (by decide), fun y => absurd y (by decide), fun y => absurd y (by decide), fun y => absurd y (by decide)⟩, by omega, by omega, fun _ => by omega, fun y => absurd y (by decide)⟩
      · have hw : w < 2 ^ 30 := by
          rw [hr (by omega)]; exact hrN_lt (fun i h1 h2 => gl i h1 h2) 6
        rw [if_neg q6, if_neg q6]
        unfold wkk wkv
        by_cases z3 : wix w = 13
        · rw [if_pos (Or.inl z3), if_pos z3]
          exact ⟨⟨by decide, fun y => absurd y (by decide), fun y => absurd y (by decide), fun y => absurd y (by decide), fun _ => by decide, fun y => absurd y (by decide)⟩, by omega, by omega, fun _ => by omega, fun y => absurd y (by decide)⟩
        · by_cases z4 : wix w = 14
          · rw [if_pos (Or.inr z4), if_neg z3, if_pos z4]
            exact ⟨⟨by decide, fun y => absurd y (by decide), fun y => absurd y (by decide), fun y => absurd y (by decide), fun _ => by decide, fun y => absurd y (by decide)⟩, by omega, by omega, fun _ => by omega, fun y => absurd y (by decide)⟩
          · rw [if_neg (by omega), if_neg z3, if_neg z4]
            by_cases z : wix w < 23
            · rw [if_pos z, if_pos z]
              exact ⟨⟨by decide, fun y => absurd y (by decide), fun _ => ⟨z, z3, z4⟩, fun y => absurd y (by decide), fun y => absurd y (by decide), fun y => absurd y (by decide)⟩, by omega, by omega, fun _ => by omega, fun y => absurd y (by decide)⟩
            · rw [if_neg z, if_neg z]
              exact ⟨⟨by decide, fun _ => hw, fun y => absurd y (by decide), fun y => absurd y (by decide), fun y => absurd y (by decide), fun y => absurd y (by decide)⟩, by omega, by omega, fun _ => by omega, fun y => absurd y (by decide)⟩
    · rw [if_neg l, if_neg l, if_neg l]
      by_cases z : 48 ≤ b s ∧ b s ≤ 57
      · rw [if_pos z, if_pos z, if_pos z]
        have g1 := nmr_le b (n - s) s 0 (by decide)
        have g2 : s < (nmr b (n - s) s 0).1 := by
          rw [hd, nmr, if_pos z]
          exact (nmr_le b d (s + 1) _ (by split <;> omega)).1
        exact ⟨⟨by decide, fun y => absurd y (by decide), fun y => absurd y (by decide), fun _ => g1.2.2, fun y => absurd y (by decide), fun y => absurd y (by decide)⟩, by omega, by omega, fun _ => g2, fun y => absurd y (by decide)⟩
      · rw [if_neg z, if_neg z, if_neg z]
        have nk : sgk (b s) ≤ 8 ∧ sgk (b s) ≠ 0 ∧ sgk (b s) ≠ 2 ∧ sgk (b s) ≠ 3 ∧ sgk (b s) ≠ 4 := by unfold sgk; split <;> (try split) <;> (try split) <;> (try split) <;> (try split) <;> (try split) <;> (try split) <;> (try split) <;> (try split) <;> (try split) <;> decide
        have nl : 1 ≤ sgl (b s) (nx2 b n s) ∧ (sgl (b s) (nx2 b n s) = 1 ∨ (sgl (b s) (nx2 b n s) = 2 ∧ s + 1 < n)) := by
          by_cases q2 : s + 1 < n
          · unfold sgl; split <;> (try split) <;> (try split) <;> omega
          · have : nx2 b n s = 0 := by unfold nx2; rw [if_neg q2]
            rw [this]
            unfold sgl; split <;> (try split) <;> (try split) <;> omega
        have nv : sgk (b s) = 8 → sgv (b s) (nx2 b n s) ≤ 12 ∧ sgv (b s) (nx2 b n s) ≠ 2 := by
          intro y
          unfold sgk at y
          unfold sgv
          generalize nx2 b n s = d2
          by_cases c1 : b s = 60
          · rw [if_pos c1]; split <;> (try split) <;> decide
          · rw [if_neg c1]
            by_cases c2 : b s = 62
            · rw [if_pos c2]; split <;> decide
            · rw [if_neg c2]
              by_cases c3 : b s = 61
              · rw [if_pos c3]; decide
              · rw [if_neg c3]
                by_cases c4 : b s = 43
                · rw [if_pos c4]; decide
                · rw [if_neg c4]
                  by_cases c5 : b s = 45
                  · rw [if_pos c5]; decide
                  · rw [if_neg c5]
                    by_cases c6 : b s = 42
                    · rw [if_pos c6]; decide
                    · rw [if_neg c6]
                      by_cases c7 : b s = 47
                      · rw [if_pos c7]; decide
                      · exfalso
                        rw [if_neg c1, if_neg c2, if_neg c3, if_neg c4, if_neg c5, if_neg c6, if_neg c7] at y
                        split at y <;> (try split at y) <;> (try split at y) <;> omega
        exact ⟨⟨nk.1, fun y => absurd y nk.2.2.1, fun y => absurd y nk.2.2.2.1, fun y => absurd y nk.2.2.2.2, nv, fun y => absurd y nk.2.1⟩, by omega, by omega, fun _ => by omega, fun y => absurd y nk.2.1⟩
/-- tape and words, in step -/
def RTp (hc hm : Hp) (b : Nat → Nat) (n : Nat) : Prop := TPc hc b n ∧ TPm hm b n ∧ hI hc 69 3 = nI n ∧ hI hm 107 6 = nI n ∧ (∀ i, i < 23 → hI hc 71 i = nI (langN i)) ∧ RKm hm ∧ hI hc 69 15 = -nI 1 ∧ hI hm 107 4 = nI 0 ∧ hI hm 107 5 = -nI 1
/-- the token at hand, in step -/
def TK (hc hm : Hp) (n k v s p : Nat) : Prop := TKc hc k v s p ∧ TKm hm k v s p ∧ WK k v ∧ s ≤ p ∧ p ≤ n ∧ (k ≠ 0 → s < p) ∧ (k = 0 → s = n)
theorem s_next {hc hm : Hp} {b : Nat → Nat} {n p : Nat} (R : RTp hc hm b n) (h6 : hI hc 69 6 = nI p) (h7 : hI hm 107 7 = nI p) (hp : p ≤ n) : ∃ hc' hm' k v s p', fX5_next hc = some hc' ∧ fX10_token hm = some hm' ∧ FNc hc hc' ∧ FNm hm hm' ∧ TK hc' hm' n k v s p' ∧ hI hc' 69 9 = hI hc 69 8 ∧ p ≤ s := by
  obtain ⟨t1, t2, t3, t4, t5, t6, -⟩ := R
  obtain ⟨hc', a1, a2, a3, a4⟩ := x_next t1 t3 h6 hp t5
  obtain ⟨hm', c1, c2, c3⟩ := m_next t2 t4 h7 hp t6
  have sl := skp_le b (n - p) p
  obtain ⟨o1, o2, o3, o4, o5⟩ := nx_ok (b := b) (n := n) (s := skp b (n - p) p) (by omega)
  exact ⟨hc', hm', _, _, _, _, a1, c1, a2, c2, ⟨a4, c3, o1, o2, o3, o4, o5⟩, a3, sl.1⟩
