/-! text: signs, on both sides. -/
def sgk (c : Nat) : Nat := if c = 59 then 5 else if c = 40 then 6 else if c = 41 then 7 else if c = 60 then 8 else if c = 62 then 8 else if c = 61 then 8 else if c = 43 then 8 else if c = 45 then 8 else if c = 42 then 8 else if c = 47 then 8 else 1
def sgv (c d : Nat) : Nat := if c = 60 then (if d = 61 then 4 else if d = 62 then 6 else 3) else if c = 62 then (if d = 61 then 7 else 8) else if c = 61 then 5 else if c = 43 then 9 else if c = 45 then 10 else if c = 42 then 11 else if c = 47 then 12 else if c = 37 then 37 else 0
def sgl (c d : Nat) : Nat := if c = 60 then (if d = 61 then 2 else if d = 62 then 2 else 1) else if c = 62 then (if d = 61 then 2 else 1) else 1
theorem sx61 : ∀ b, b < 256 → ((nI b).toInt8.toInt32 = nI 61) = (b = 61) := by
  have : ∀ b, b < 256 → ((nI b).toInt8.toInt32 = nI 61 ↔ b = 61) := by decide +kernel
  exact fun b h => propext (this b h)
theorem sx62 : ∀ b, b < 256 → ((nI b).toInt8.toInt32 = nI 62) = (b = 62) := by
  have : ∀ b, b < 256 → ((nI b).toInt8.toInt32 = nI 62 ↔ b = 62) := by decide +kernel
  exact fun b h => propext (this b h)
theorem sxT : ∀ c, c < 63 → 40 ≤ c → (inT (nI c) 40 62 = true) = True := by
  have : ∀ c, c < 63 → 40 ≤ c → inT (nI c) 40 62 = true := by decide +kernel
  exact fun c h1 h2 => eq_true (this c h1 h2)
theorem sxO : ∀ c, c < 256 → (c < 40 ∨ 62 < c) → (inT ((nI c).toInt8.toInt32) 40 62 = true) = False := by
  have : ∀ c, c < 256 → (c < 40 ∨ 62 < c) → ¬ inT ((nI c).toInt8.toInt32) 40 62 = true := by decide +kernel
  exact fun c h1 h2 => eq_false (this c h1 h2)
def SGc (h g : Hp) (k v p : Nat) : Prop := FNc h g ∧ hI g 69 9 = hI h 69 9 ∧ hI g 69 8 = hI h 69 8 ∧ hI g 69 7 = nI k ∧ hI g 69 6 = nI p ∧ (k = 8 → hI g 69 13 = nI v)
theorem sg_a {h : Hp} {s k v : Nat} (h13 : hI h 69 13 = -nI 1) (hk : k ≠ 8) : ∃ g, fX5_readSign_288 (uI (uI (uI h 69 6 (nI (s + 1))) 69 7 (nI 8)) 69 7 (nI k)) = some g ∧ SGc h g k v (s + 1) := by
  refine ⟨uI (uI (uI h 69 6 (nI (s + 1))) 69 7 (nI 8)) 69 7 (nI k), ?_, ((Fr.rf.uI (by omega)).uI (by omega)).uI (by omega), ?_, ?_, hI_at ⟨rfl, rfl⟩, ?_, fun z => absurd z hk⟩
  · unfold fX5_readSign_288
    simp (disch := omega) only [lit, hI_ne, h13, m1_ne, ↓reduceIte]
  · simp (disch := omega) only [hI_ne]
  · simp (disch := omega) only [hI_ne]
  · simp (disch := omega) only [hI_ne, hI_at]
theorem sg_b {h : Hp} {s v : Nat} (hv : v < 100) (h1 : v ≠ 4) (h2 : v ≠ 6) (h3 : v ≠ 7) : ∃ g, fX5_readSign_288 (uI (uI (uI h 69 6 (nI (s + 1))) 69 7 (nI 8)) 69 13 (nI v)) = some g ∧ SGc h g 8 v (s + 1) := by
  refine ⟨uI (uI (uI h 69 6 (nI (s + 1))) 69 7 (nI 8)) 69 13 (nI v), ?_, ((Fr.rf.uI (by omega)).uI (by omega)).uI (by omega), ?_, ?_, ?_, ?_, fun _ => hI_at ⟨rfl, rfl⟩⟩
  · unfold fX5_readSign_288
    simp (disch := omega) only [lit, hI_at, eqF, ↓reduceIte]
  · simp (disch := omega) only [hI_ne]
  · simp (disch := omega) only [hI_ne]
  · simp (disch := omega) only [hI_ne, hI_at]
  · simp (disch := omega) only [hI_ne, hI_at]
theorem sg_c {h : Hp} {s v : Nat} (h1 : v = 4 ∨ v = 6 ∨ v = 7) : ∃ g, fX5_readSign_288 (uI (uI (uI h 69 6 (nI (s + 1))) 69 7 (nI 8)) 69 13 (nI v)) = some g ∧ SGc h g 8 v (s + 2) := by
  have e6 : hI (uI (uI (uI h 69 6 (nI (s + 1))) 69 7 (nI 8)) 69 13 (nI v)) 69 6 = nI (s + 1) := by simp (disch := omega) only [hI_ne, hI_at]
  have e13 : hI (uI (uI (uI h 69 6 (nI (s + 1))) 69 7 (nI 8)) 69 13 (nI v)) 69 13 = nI v := hI_at ⟨rfl, rfl⟩
  refine ⟨uI (uI (uI (uI h 69 6 (nI (s + 1))) 69 7 (nI 8)) 69 13 (nI v)) 69 6 (nI (s + 2)), ?_, (((Fr.rf.uI (by omega)).uI (by omega)).uI (by omega)).uI (by omega), ?_, ?_, ?_, hI_at ⟨rfl, rfl⟩, fun _ => by simp (disch := omega) only [hI_ne, hI_at]⟩
  · unfold fX5_readSign_288 fX5_readSign_314
    simp only [lit, e13, e6, nI_add]
    rcases h1 with rfl | rfl | rfl
    · simp only [↓reduceIte]
    · simp (disch := omega) only [↓reduceIte, eqF]
    · simp (disch := omega) only [↓reduceIte, eqF]
  · simp (disch := omega) only [hI_ne]
  · simp (disch := omega) only [hI_ne]
  · simp (disch := omega) only [hI_ne, hI_at]
theorem x_sg40 {h : Hp} {c d s : Nat} (hc : c < 256) (hd : d < 256) (nd : ¬ (48 ≤ c ∧ c ≤ 57)) (h6 : hI h 69 6 = nI s) (h13 : hI h 69 13 = -nI 1) : ∃ g, fX5_readSign_40 h ((nI c).toInt8.toInt32) ((nI d).toInt8.toInt32) = some g ∧ SGc h g (sgk c) (sgv c d) (s + sgl c d) := by
  unfold fX5_readSign_40
  rcases (by omega : c = 40 ∨ c = 41 ∨ c = 42 ∨ c = 43 ∨ c = 44 ∨ c = 45 ∨ c = 46 ∨ c = 47 ∨ c = 58 ∨ c = 59 ∨ c = 60 ∨ c = 61 ∨ c = 62 ∨ (c < 40 ∨ 62 < c)) with rfl | rfl | rfl | rfl | rfl | rfl | rfl | rfl | rfl | rfl | rfl | rfl | rfl | q
  · simp (disch := omega) only [lit, sxi, sxT, h6, nI_add, eqF, ↓reduceIte]
    exact sg_a h13 (by decide)
  · simp (disch := omega) only [lit, sxi, sxT, h6, nI_add, eqF, ↓reduceIte]
    exact sg_a h13 (by decide)
  · simp (disch := omega) only [lit, sxi, sxT, h6, nI_add, eqF, ↓reduceIte]
    exact sg_b (by decide) (by decide) (by decide) (by decide)
  · simp (disch := omega) only [lit, sxi, sxT, h6, nI_add, eqF, ↓reduceIte]
    exact sg_b (by decide) (by decide) (by decide) (by decide)
  · simp (disch := omega) only [lit, sxi, sxT, h6, nI_add, eqF, ↓reduceIte, fX5_readSign_283]
    exact sg_a h13 (by decide)
  · simp (disch := omega) only [lit, sxi, sxT, h6, nI_add, eqF, ↓reduceIte]
    exact sg_b (by decide) (by decide) (by decide) (by decide)
  · simp (disch := omega) only [lit, sxi, sxT, h6, nI_add, eqF, ↓reduceIte, fX5_readSign_283]
    exact sg_a h13 (by decide)
  · simp (disch := omega) only [lit, sxi, sxT, h6, nI_add, eqF, ↓reduceIte]
    exact sg_b (by decide) (by decide) (by decide) (by decide)
  · simp (disch := omega) only [lit, sxi, sxT, h6, nI_add, eqF, ↓reduceIte, fX5_readSign_283]
    exact sg_a h13 (by decide)
  · simp (disch := omega) only [lit, sxi, sxT, h6, nI_add, eqF, ↓reduceIte]
    exact sg_a h13 (by decide)
  · have e60 : (nI 60).toInt8.toInt32 = nI 60 := sxi 60 (by decide)
    by_cases z : d = 61
    · subst z
      have e61 : (nI 61).toInt8.toInt32 = nI 61 := sxi 61 (by decide)
      simp (disch := omega) only [lit, e60, e61, sxT, h6, nI_add, eqF, ↓reduceIte, fX5_readSign_213]
      exact sg_c (by decide)
    · by_cases y : d = 62
      · subst y
        have e61 : (nI 62).toInt8.toInt32 = nI 62 := sxi 62 (by decide)
        simp (disch := omega) only [lit, e60, e61, sxT, h6, nI_add, eqF, ↓reduceIte, fX5_readSign_213]
        exact sg_c (by decide)
      · simp (disch := omega) only [lit, e60, sx61, sx62, z, y, sxT, h6, nI_add, eqF, ↓reduceIte, fX5_readSign_213]
        rw [show sgv 60 d = 3 by unfold sgv; rw [if_pos rfl, if_neg z, if_neg y], show sgl 60 d = 1 by unfold sgl; rw [if_pos rfl, if_neg z, if_neg y]]
        exact sg_b (by decide) (by decide) (by decide) (by decide)
  · simp (disch := omega) only [lit, sxi, sxT, h6, nI_add, eqF, ↓reduceIte]
    exact sg_b (by decide) (by decide) (by decide) (by decide)
  · have e60 : (nI 62).toInt8.toInt32 = nI 62 := sxi 62 (by decide)
    by_cases z : d = 61
    · subst z
      have e61 : (nI 61).toInt8.toInt32 = nI 61 := sxi 61 (by decide)
      simp (disch := omega) only [lit, e60, e61, sxT, h6, nI_add, eqF, ↓reduceIte, fX5_readSign_233]
      exact sg_c (by decide)
    · simp (disch := omega) only [lit, e60, sx61, z, sxT, h6, nI_add, eqF, ↓reduceIte, fX5_readSign_233]
      rw [show sgv 62 d = 8 by unfold sgv; rw [if_neg (by decide), if_pos rfl, if_neg z], show sgl 62 d = 1 by unfold sgl; rw [if_neg (by decide), if_pos rfl, if_neg z]]
      exact sg_b (by decide) (by decide) (by decide) (by decide)
  · simp (disch := omega) only [lit, sxO, h6, nI_add, ↓reduceIte, fX5_readSign_283]
    have e1 : sgk c = 1 := by unfold sgk; simp (disch := omega) only [if_neg]
    have e2 : sgl c d = 1 := by unfold sgl; simp (disch := omega) only [if_neg]
    rw [e1, e2]
    exact sg_a h13 (by decide)
/-- the sign behind the first one -/
def nx2 (b : Nat → Nat) (n s : Nat) : Nat := if s + 1 < n then b (s + 1) else 0
theorem x_sign {h : Hp} {b : Nat → Nat} {n s : Nat} (tp : TPc h b n) (h3 : hI h 69 3 = nI n) (h6 : hI h 69 6 = nI s) (hs : s < n) (nd : ¬ (48 ≤ b s ∧ b s ≤ 57)) (h13 : hI h 69 13 = -nI 1) : ∃ g, fX5_readSign h ((nI (b s)).toInt8.toInt32) = some g ∧ SGc h g (sgk (b s)) (sgv (b s) (nx2 b n s)) (s + sgl (b s) (nx2 b n s)) := by
  have h7 := tp.1
  have b1 := (tp.2 s hs).1
  unfold fX5_readSign nx2
  by_cases q : s + 1 < n
  · obtain ⟨c1, c2⟩ := tp.2 (s + 1) q
    rw [if_pos q]
    simp (disch := omega) only [lit, h3, h6, nI_add, leF, ↓reduceIte, inbN, nI_clamp, c2]
    exact x_sg40 b1 c1 nd h6 h13
  · rw [if_neg q]
    simp (disch := omega) only [lit, h3, h6, nI_add, leT, ↓reduceIte, fX5_readSign_39]
    have := x_sg40 (d := 0) b1 (by decide) nd h6 h13
    rw [show (nI 0).toInt8.toInt32 = nI 0 by decide] at this
    exact this
theorem m_sign {h : Hp} {b : Nat → Nat} {n s : Nat} (tp : TPm h b n) (h6 : hI h 107 6 = nI n) (h7 : hI h 107 7 = nI s) (hs : s < n) : ∃ g, fX10_signToken h = some g ∧ FNm h g ∧ hI g 107 10 = hI h 107 10 ∧ hI g 107 8 = nI (kM (sgk (b s)) (sgv (b s) (nx2 b n s))) ∧ hI g 107 7 = nI (s + sgl (b s) (nx2 b n s)) ∧ (2 ≤ sgk (b s) ∨ (sgk (b s) = 1 ∧ sgv (b s) (nx2 b n s) = 37) → hI g 107 9 = nI (wM (sgk (b s)) (sgv (b s) (nx2 b n s)))) := by
  have hn := tp.1
  obtain ⟨b1, b2⟩ := tp.2 s hs
  have e1 : hI (uI h 107 9 (nI (b s))) 107 7 = nI s := (hI_ne (by omega)).trans h7
  have H9 : hI (uI (uI h 107 9 (nI (b s))) 107 7 (nI (s + 1))) 107 9 = nI (b s) := by rw [hI_ne (by omega), hI_at ⟨rfl, rfl⟩]
  have H7 : hI (uI (uI h 107 9 (nI (b s))) 107 7 (nI (s + 1))) 107 7 = nI (s + 1) := hI_at ⟨rfl, rfl⟩
  have H6 : hI (uI (uI h 107 9 (nI (b s))) 107 7 (nI (s + 1))) 107 6 = nI n := by rw [hI_ne (by omega), hI_ne (by omega)]; exact h6
  have H10 : hI (uI (uI h 107 9 (nI (b s))) 107 7 (nI (s + 1))) 107 10 = hI h 107 10 := by rw [hI_ne (by omega), hI_ne (by omega)]
  have Ht : ∀ i, i < n → b i < 256 ∧ hI (uI (uI h 107 9 (nI (b s))) 107 7 (nI (s + 1))) 108 i = nI (b i) := fun i hi => by rw [hI_ne (by omega), hI_ne (by omega)]; exact tp.2 i hi
  have Hf : FNm h (uI (uI h 107 9 (nI (b s))) 107 7 (nI (s + 1))) := (Fr.rf.uI (by omega)).uI (by omega)
  have eH : uI (uI h 107 9 (hI h 108 (Int32.toNatClampNeg (hI h 107 7)))) 107 7 ((hI (uI h 107 9 (hI h 108 (Int32.toNatClampNeg (hI h 107 7)))) 107 7) + (1 : Int32)) = uI (uI h 107 9 (nI (b s))) 107 7 (nI (s + 1)) := by
    simp (disch := omega) only [h7, nI_clamp, b2, e1, lit, nI_add]
  unfold fX10_signToken
  rw [if_pos (show inb (hI h 107 7) 700 = true by rw [h7]; exact inb_nI (by omega) (by decide)), eH]
  generalize uI (uI h 107 9 (nI (b s))) 107 7 (nI (s + 1)) = H at *
  simp only [H9, lit]
  have g9 : ∀ v, hI (uI H 107 8 v) 107 9 = nI (b s) := fun v => by rw [hI_ne (by omega)]; exact H9
  have g7 : ∀ v, hI (uI H 107 8 v) 107 7 = nI (s + 1) := fun v => by rw [hI_ne (by omega)]; exact H7
  have g10 : ∀ v, hI (uI H 107 8 v) 107 10 = hI h 107 10 := fun v => by rw [hI_ne (by omega)]; exact H10
  -- the second sign
  have T50 : fX10_signToken_50 H = fX10_signToken_74 H (nI (nx2 b n s)) := by
    unfold fX10_signToken_50 nx2
    by_cases q : s + 1 < n
    · rw [if_pos q]
      simp (disch := omega) only [lit, H6, H7, leF, ↓reduceIte, inbN, nI_clamp, (Ht (s + 1) q).2]
    · rw [if_neg q]
      simp (disch := omega) only [lit, H6, H7, leT, ↓reduceIte]
  have l2 : nx2 b n s < 256 := by
    unfold nx2
    by_cases q : s + 1 < n
    · rw [if_pos q]; exact (Ht _ q).1
    · rw [if_neg q]; decide
  generalize nx2 b n s = d at *
  have one : ∀ v, ∃ g, some (uI (uI H 107 8 (nI 5)) 107 9 (nI v)) = some g ∧ FNm h g ∧ hI g 107 10 = hI h 107 10 ∧ hI g 107 8 = nI 5 ∧ hI g 107 7 = nI (s + 1) ∧ hI g 107 9 = nI v := fun v => ⟨_, rfl, (Hf.uI (by omega)).uI (by omega), by rw [hI_ne (by omega)]; exact g10 _, by rw [hI_ne (by omega), hI_at ⟨rfl, rfl⟩], by rw [hI_ne (by omega)]; exact g7 _, hI_at ⟨rfl, rfl⟩⟩
  have two : ∀ v, ∃ g, some (uI (uI (uI H 107 7 (nI (s + 2))) 107 8 (nI 5)) 107 9 (nI v)) = some g ∧ FNm h g ∧ hI g 107 10 = hI h 107 10 ∧ hI g 107 8 = nI 5 ∧ hI g 107 7 = nI (s + 2) ∧ hI g 107 9 = nI v := fun v => ⟨_, rfl, ((Hf.uI (by omega)).uI (by omega)).uI (by omega), by rw [hI_ne (by omega), hI_ne (by omega), hI_ne (by omega)]; exact H10, by rw [hI_ne (by omega), hI_at ⟨rfl, rfl⟩], by rw [hI_ne (by omega), hI_ne (by omega), hI_at ⟨rfl, rfl⟩], hI_at ⟨rfl, rfl⟩⟩
  have g92 : ∀ v, hI (uI (uI H 107 7 (nI (s + 2))) 107 8 v) 107 9 = nI (b s) := fun v => by rw [hI_ne (by omega), hI_ne (by omega)]; exact H9
  have sgn : fX10_signToken_270 H = some (uI H 107 8 (nI 4)) := by
    unfold fX10_signToken_270 fX10_signToken_275
    simp (disch := omega) only [lit, eqF, ↓reduceIte]
  rcases (by omega : b s = 60 ∨ b s = 62 ∨ b s = 61 ∨ b s = 59 ∨ b s = 40 ∨ b s = 41 ∨ b s = 43 ∨ b s = 45 ∨ b s = 42 ∨ b s = 47 ∨ b s = 37 ∨ (b s ≠ 60 ∧ b s ≠ 62 ∧ b s ≠ 61 ∧ b s ≠ 59 ∧ b s ≠ 40 ∧ b s ≠ 41 ∧ b s ≠ 43 ∧ b s ≠ 45 ∧ b s ≠ 42 ∧ b s ≠ 47 ∧ b s ≠ 37)) with q | q | q | q | q | q | q | q | q | q | q | q
  · rw [q] at H9 g9 g92 ⊢
    simp only [↓reduceIte, T50]
    by_cases z : d = 61
    · subst z
      simp (disch := omega) only [fX10_signToken_74, fX10_signToken_95, fX10_signToken_115, fX10_signToken_116, fX10_signToken_125, fX10_signToken_135, lit, H9, H7, nI_add, g9, g92, eqF, ↓reduceIte]
      obtain ⟨g, a1, a2, a3, a4, a5, a6⟩ := two 1
      exact ⟨g, a1, a2, a3, a4, a5, fun _ => a6⟩
    · by_cases y : d = 62
      · subst y
        simp (disch := omega) only [fX10_signToken_74, fX10_signToken_94, fX10_signToken_95, fX10_signToken_115, fX10_signToken_116, fX10_signToken_125, fX10_signToken_135, lit, H9, H7, nI_add, g9, g92, eqF, ↓reduceIte]
        obtain ⟨g, a1, a2, a3, a4, a5, a6⟩ := two 3
        exact ⟨g, a1, a2, a3, a4, a5, fun _ => a6⟩
      · simp (disch := omega) only [fX10_signToken_74, fX10_signToken_94, fX10_signToken_95, fX10_signToken_115, fX10_signToken_116, fX10_signToken_125, fX10_signToken_135, lit, H9, H7, nI_add, g9, g92, eqF, ↓reduceIte]
        rw [show sgv 60 d = 3 by unfold sgv; rw [if_pos rfl, if_neg z, if_neg y], show sgl 60 d = 1 by unfold sgl; rw [if_pos rfl, if_neg z, if_neg y]]
        obtain ⟨g, a1, a2, a3, a4, a5, a6⟩ := one 0
        exact ⟨g, a1, a2, a3, a4, a5, fun _ => a6⟩
  · rw [q] at H9 g9 g92 ⊢
    simp (disch := omega) only [↓reduceIte, T50, eqF]
    by_cases z : d = 61
    · subst z
      simp (disch := omega) only [fX10_signToken_74, fX10_signToken_94, fX10_signToken_95, fX10_signToken_115, fX10_signToken_116, fX10_signToken_125, fX10_signToken_135, lit, H9, H7, nI_add, g9, g92, eqF, ↓reduceIte]
      obtain ⟨g, a1, a2, a3, a4, a5, a6⟩ := two 4
      exact ⟨g, a1, a2, a3, a4, a5, fun _ => a6⟩
    · simp (disch := omega) only [fX10_signToken_74, fX10_signToken_94, fX10_signToken_95, fX10_signToken_115, fX10_signToken_116, fX10_signToken_125, fX10_signToken_135, lit, H9, H7, nI_add, g9, g92, eqF, ↓reduceIte]
      rw [show sgv 62 d = 8 by unfold sgv; rw [if_neg (by decide), if_pos rfl, if_neg z], show sgl 62 d = 1 by unfold sgl; rw [if_neg (by decide), if_pos rfl, if_neg z]]
      obtain ⟨g, a1, a2, a3, a4, a5, a6⟩ := one 5
      exact ⟨g, a1, a2, a3, a4, a5, fun _ => a6⟩
  · rw [q] at H9 g9 g92 ⊢
    simp (disch := omega) only [↓reduceIte, T50, eqF]
    simp (disch := omega) only [fX10_signToken_74, fX10_signToken_94, fX10_signToken_95, fX10_signToken_115, fX10_signToken_116, fX10_signToken_125, fX10_signToken_135, lit, H9, H7, nI_add, g9, g92, eqF, ↓reduceIte]
    obtain ⟨g, a1, a2, a3, a4, a5, a6⟩ := one 2
    exact ⟨g, a1, a2, a3, a4, a5, fun _ => a6⟩
  iterate 8
    · rw [q] at H9 g9 ⊢
      simp (disch := omega) only [↓reduceIte, sgn, eqF]
      exact ⟨_, rfl, Hf.uI (by omega), g10 _, hI_at ⟨rfl, rfl⟩, g7 _, fun _ => g9 _⟩
  · simp (disch := omega) only [↓reduceIte, eqF]
    have e1 : sgk (b s) = 1 := by unfold sgk; simp (disch := omega) only [if_neg]
    have e2 : sgl (b s) d = 1 := by unfold sgl; simp (disch := omega) only [if_neg]
    have e3 : sgv (b s) d = 0 := by unfold sgv; simp (disch := omega) only [if_neg]
    rw [e1, e2, e3]
    refine ⟨uI H 107 8 (nI 6), ?_, Hf.uI (by omega), g10 _, hI_at ⟨rfl, rfl⟩, g7 _, fun z => absurd z (by decide)⟩
    unfold fX10_signToken_275
    simp only [lit, ↓reduceIte]
