/-! Worlds copied. -/
/-- only world W (without its names) has changed -/
def Fo (W : Nat) (h h' : Hp) : Prop := (∀ a i, a < W ∨ W + 4 < a → hI h' a i = hI h a i) ∧ (∀ a i, hJ h' a i = hJ h a i) ∧ ∀ a i, ¬ (a = W ∧ i = 0) → hR h' a i = hR h a i
theorem Fo.rf {W : Nat} {h : Hp} : Fo W h h := ⟨fun _ _ _ => rfl, fun _ _ => rfl, fun _ _ _ => rfl⟩
theorem Fo.tr {W : Nat} {h h1 h2 : Hp} (a : Fo W h h1) (b : Fo W h1 h2) : Fo W h h2 := ⟨fun x i q => (b.1 x i q).trans (a.1 x i q), fun x i => (b.2.1 x i).trans (a.2.1 x i), fun x i q => (b.2.2 x i q).trans (a.2.2 x i q)⟩
theorem Fo.uI {W : Nat} {h h1 : Hp} (s : Fo W h h1) {a k : Nat} {v : Int32} (hp : W ≤ a ∧ a ≤ W + 4) : Fo W h (uI h1 a k v) := s.tr ⟨fun x i q => hI_ne (by omega), fun _ _ => rfl, fun _ _ _ => rfl⟩
theorem Fo.uR {W : Nat} {h h1 : Hp} (s : Fo W h h1) {v : Option Nat} : Fo W h (uR h1 W 0 v) := s.tr ⟨fun _ _ _ => rfl, fun _ _ => rfl, fun x i q => hR_ne q⟩
theorem Fo_RSc {h h' : Hp} {S W : Nat} {T : Tx} (hS : isS S) (hW : isW W) (R : RSc h S T) (f : Fo W h h') : RSc h' S T := by
  have hW' := Wge hW
  have f' : Fr (fun a _ => W ≤ a ∧ a ≤ W + 4) (fun _ _ => False) h (h'.1, h'.2.1, h.2.2) := ⟨fun a i q => f.1 a i (by omega), fun a i _ => f.2.1 a i, fun _ _ => rfl⟩
  have R' := RSc_Fr hS R f' (fun a i h1 h2 q => by omega)
  obtain ⟨a1, a2, a3, a4, a5, a6, a7, a8, a9⟩ := R'
  refine ⟨a1, a2, a3, a4, a5, a6, a7, a8, fun w hw => ?_⟩
  obtain ⟨b1, b2, b3⟩ := a9 w hw
  refine ⟨?_, b2, b3⟩
  rw [f.2.2 _ _ (by rcases hS with rfl | rfl <;> omega)]; exact b1
def plainW (h : Hp) (W : Nat) : Prop := hI h W 10 = nI 1 ∧ hI h W 11 = nI 0 ∧ hI h W 12 = nI 0 ∧ hI h W 13 = nI 0 ∧ hI h W 14 = -nI 1
theorem x_copy2 {W V : Nat} (hW : isW W) (hV : isW V) (hne : W + 5 < V ∨ V + 5 < W) : ∀ (d k fu : Nat) (h : Hp), k + d = 5 → d < fu → ∃ h', fX8_copyFrom_67 fu W V h (nI k) = some h' ∧ plainW h' W ∧ (∀ i, i ≤ 4 → hI h' W i = hI h W i) ∧ (∀ i, hI h' (W + 1) i = hI h (W + 1) i) ∧ (∀ i, k ≤ i → i < 5 → hI h' (W + 2) i = hI h (V + 2) i ∧ hI h' (W + 3) i = hI h (V + 3) i ∧ hI h' (W + 4) i = hI h (V + 4) i) ∧ (∀ i, i < k → hI h' (W + 2) i = hI h (W + 2) i ∧ hI h' (W + 3) i = hI h (W + 3) i ∧ hI h' (W + 4) i = hI h (W + 4) i) ∧ Fo W h h' ∧ hR h' W 0 = hR h W 0
  | 0, k, fu + 1, h, hk, _ => by
    have e : k = 5 := by omega
    subst e
    refine ⟨uI (uI (uI (uI (uI h W 10 (nI 1)) W 11 (nI 0)) W 12 (nI 0)) W 13 (nI 0)) W 14 (-nI 1), ?_, ⟨?_, ?_, ?_, ?_, ?_⟩, ?_, ?_, ?_, ?_, ?_, rfl⟩
    · rw [fX8_copyFrom_67]
      simp (disch := omega) only [lit, ↓reduceIte, leT, fX8_goPlainly, bind_some']
    · simp (disch := omega) only [hI_ne, hI_at]
    · simp (disch := omega) only [hI_ne, hI_at]
    · simp (disch := omega) only [hI_ne, hI_at]
    · simp (disch := omega) only [hI_ne, hI_at]
    · simp (disch := omega) only [hI_ne, hI_at]
    · intro i hi; simp (disch := omega) only [hI_ne]
    · intro i; simp (disch := omega) only [hI_ne]
    · intro i h1 h2; omega
    · intro i h1; simp (disch := omega) only [hI_ne, and_self]
    · exact Fo.uI (Fo.uI (Fo.uI (Fo.uI (Fo.uI Fo.rf (by omega)) (by omega)) (by omega)) (by omega)) (by omega)
  | d + 1, k, fu + 1, h, hk, hf => by
    have hW' := Wge hW
    obtain ⟨h', a1, a2, a3, a4, a5, a6, a7, a8⟩ := x_copy2 hW hV hne d (k + 1) fu (uI (uI (uI h (W + 2) k (hI h (V + 2) k)) (W + 3) k (hI h (V + 3) k)) (W + 4) k (hI h (V + 4) k)) (by omega) (by omega)
    refine ⟨h', ?_, a2, ?_, ?_, ?_, ?_, ?_, ?_⟩
    · rw [fX8_copyFrom_67]
      simp (disch := omega) only [lit, ↓reduceIte, leF, inbN, nI_clamp, rW6 hW, rW7 hW, rW8 hW, rW6 hV, rW7 hV, rW8 hV, hI_ne, nI_add]
      exact a1
    · intro i hi; rw [a3 i hi]; simp (disch := omega) only [hI_ne]
    · intro i; rw [a4 i]; simp (disch := omega) only [hI_ne]
    · intro i h1 h2
      by_cases q : i = k
      · subst q
        obtain ⟨b1, b2, b3⟩ := a6 i (by omega)
        rw [b1, b2, b3]
        simp (disch := omega) only [hI_ne, hI_at, and_self]
      · obtain ⟨b1, b2, b3⟩ := a5 i (by omega) h2
        rw [b1, b2, b3]
        simp (disch := omega) only [hI_ne, and_self]
    · intro i h1
      obtain ⟨b1, b2, b3⟩ := a6 i (by omega)
      rw [b1, b2, b3]
      simp (disch := omega) only [hI_ne, and_self]
    · exact Fo.tr (Fo.uI (Fo.uI (Fo.uI Fo.rf (by omega)) (by omega)) (by omega)) a7
    · rw [a8]; rfl
theorem x_copy1 {W V : Nat} (hW : isW W) (hV : isW V) (hne : W + 5 < V ∨ V + 5 < W) : ∀ (d k fu : Nat) (h : Hp), k + d = 5 → d < fu → ∃ h', fX8_copyFrom_42 fu W V h (nI k) = fX8_copyFrom_67 FU W V h' (nI 0) ∧ (∀ i, hI h' W i = hI h W i) ∧ (∀ i, k ≤ i → i < 5 → hI h' (W + 1) i = hI h (V + 1) i) ∧ (∀ i, i < k → hI h' (W + 1) i = hI h (W + 1) i) ∧ Fo W h h' ∧ hR h' W 0 = hR h W 0
  | 0, k, fu + 1, h, hk, _ => by
    have e : k = 5 := by omega
    subst e
    refine ⟨h, ?_, fun _ => rfl, fun i h1 h2 => by omega, fun _ _ => rfl, Fo.rf, rfl⟩
    rw [fX8_copyFrom_42]
    simp (disch := omega) only [lit, ↓reduceIte, leT]
  | d + 1, k, fu + 1, h, hk, hf => by
    have hW' := Wge hW
    obtain ⟨h', a1, a2, a3, a4, a5, a6⟩ := x_copy1 hW hV hne d (k + 1) fu (uI h (W + 1) k (hI h (V + 1) k)) (by omega) (by omega)
    refine ⟨h', ?_, ?_, ?_, ?_, Fo.tr (Fo.uI Fo.rf (by omega)) a5, by rw [a6]; rfl⟩
    · rw [fX8_copyFrom_42]
      simp (disch := omega) only [lit, ↓reduceIte, leF, inbN, nI_clamp, rW5 hW, rW5 hV, nI_add]
      exact a1
    · intro i; rw [a2 i, hI_ne (by omega)]
    · intro i h1 h2
      by_cases q : i = k
      · subst q; rw [a4 i (by omega), hI_at ⟨rfl, rfl⟩]
      · rw [a3 i (by omega) h2, hI_ne (by omega)]
    · intro i h1; rw [a4 i (by omega), hI_ne (by omega)]
/-- world W becomes as V is, and goes plainly -/
theorem x_copy {h : Hp} {S W V : Nat} (hS : isS S) (hW : isW W) (hV : isW V) (hne : W + 5 < V ∨ V + 5 < W) (hr : hR h V 0 = some S) : ∃ h', fX8_copyFrom W V h = some h' ∧ hR h' W 0 = some S ∧ plainW h' W ∧ (∀ i, 1 ≤ i → i ≤ 4 → hI h' W i = hI h V i) ∧ (∀ i, i < 5 → hI h' (W + 1) i = hI h (V + 1) i ∧ hI h' (W + 2) i = hI h (V + 2) i ∧ hI h' (W + 3) i = hI h (V + 3) i ∧ hI h' (W + 4) i = hI h (V + 4) i) ∧ Fo W h h' := by
  have hW' := Wge hW
  let g : Hp := uI (uI (uI (uI (uR h W 0 (some S)) W 1 (hI h V 1)) W 2 (hI h V 2)) W 3 (hI h V 3)) W 4 (hI h V 4)
  have hg : Fo W h g := Fo.uI (Fo.uI (Fo.uI (Fo.uI (Fo.uR Fo.rf) (by omega)) (by omega)) (by omega)) (by omega)
  obtain ⟨h1, a1, a2, a3, a4, a5, a6⟩ := x_copy1 hW hV hne 5 0 FU g rfl (by decide)
  obtain ⟨h2, b1, b2, b3, b4, b5, b6, b7, b8⟩ := x_copy2 hW hV hne 5 0 FU h1 rfl (by decide)
  refine ⟨h2, ?_, ?_, b2, ?_, ?_, Fo.tr hg (Fo.tr a5 b7)⟩
  · unfold fX8_copyFrom
    rw [dref_of hr (sS hS)]
    simp (disch := omega) only [bind_some', lit, hI_ne, hI_uR]
    rw [show uI (uI (uI (uI (uR h W 0 (some S)) W 1 (hI h V 1)) W 2 (hI h V 2)) W 3 (hI h V 3)) W 4 (hI h V 4) = g from rfl, a1, b1]
  · rw [b8, a6]; exact hR_at ⟨rfl, rfl⟩
  · intro i h1 h2
    rw [b3 i h2, a2 i]
    have ci : i = 1 ∨ i = 2 ∨ i = 3 ∨ i = 4 := by omega
    rcases ci with rfl | rfl | rfl | rfl <;> simp (disch := omega) only [g, hI_ne, hI_at]
  · intro i hi
    obtain ⟨c1, c2, c3⟩ := b5 i (by omega) hi
    rw [b4 i, a3 i (by omega) hi, c1, c2, c3, a5.1 _ _ (by omega), a5.1 _ _ (by omega), a5.1 _ _ (by omega), hg.1 _ _ (by omega), hg.1 _ _ (by omega), hg.1 _ _ (by omega), hg.1 _ _ (by omega)]
    exact ⟨rfl, rfl, rfl, rfl⟩
/-- the reference's trial -/
def PlI (a i : Nat) : Prop := (a = 107 ∧ 68 ≤ i ∧ i ≤ 72) ∨ (137 ≤ a ∧ a ≤ 141 ∧ 5 ≤ i ∧ i < 10) ∨ ((a = 142 ∨ a = 143) ∧ i = 1)
def plainM (h : Hp) : Prop := hI h 107 68 = nI 0 ∧ hI h 107 69 = nI 0 ∧ hI h 107 70 = nI 0 ∧ hI h 107 71 = nI 0 ∧ hI h 107 72 = -nI 1
theorem m_plain {h : Hp} : ∃ h', fX10_plainTried h = some h' ∧ plainM h' ∧ Fr (fun a i => a = 107 ∧ 68 ≤ i ∧ i ≤ 72) (fun _ _ => False) h h' := by
  refine ⟨uI (uI (uI (uI (uI h 107 68 (nI 0)) 107 69 (nI 0)) 107 70 (nI 0)) 107 71 (nI 0)) 107 72 (-nI 1), ?_, ⟨?_, ?_, ?_, ?_, ?_⟩, ?_⟩
  · unfold fX10_plainTried; simp only [lit]
  · simp (disch := omega) only [hI_ne, hI_at]
  · simp (disch := omega) only [hI_ne, hI_at]
  · simp (disch := omega) only [hI_ne, hI_at]
  · simp (disch := omega) only [hI_ne, hI_at]
  · simp (disch := omega) only [hI_ne, hI_at]
  · exact Fr.uI (Fr.uI (Fr.uI (Fr.uI (Fr.uI Fr.rf (by omega)) (by omega)) (by omega)) (by omega)) (by omega)
theorem m_lay1 : ∀ (d k fu : Nat) (h : Hp), k + d = 5 → d < fu → (∀ i, i < 5 → isZ (hI h 138 i) = true) → ∃ h', fX10_layTried_2 fu h (nI k) = some h' ∧ plainM h' ∧ hI h' 142 1 = hI h 142 0 ∧ hI h' 143 1 = hI h 143 0 ∧ (∀ i, k ≤ i → i < 5 → hI h' 137 (5 + i) = hI h 137 i ∧ hI h' 138 (5 + i) = hI h 138 i ∧ hI h' 139 (5 + i) = hI h 139 i ∧ hI h' 140 (5 + i) = hI h 140 i ∧ hI h' 141 (5 + i) = hI h 141 i) ∧ Fr (fun a i => (a = 107 ∧ 68 ≤ i ∧ i ≤ 72) ∨ (137 ≤ a ∧ a ≤ 141 ∧ 5 + k ≤ i ∧ i < 10) ∨ ((a = 142 ∨ a = 143) ∧ i = 1)) (fun _ _ => False) h h'
  | 0, k, fu + 1, h, hk, _, hz => by
    have e : k = 5 := by omega
    subst e
    obtain ⟨h', a1, a2, a3⟩ := m_plain (h := uI (uI h 142 1 (hI h 142 0)) 143 1 (hI h 143 0))
    refine ⟨h', ?_, a2, ?_, ?_, fun i h1 h2 => by omega, Fr.tr (Fr.uI (Fr.uI Fr.rf (by omega)) (by omega)) (a3.mono (fun a i q => Or.inl q) (fun _ _ q => q))⟩
    · rw [fX10_layTried_2]
      simp (disch := omega) only [lit, ↓reduceIte, leT, inbN, nI_clamp, hI_ne, a1, bind_some']
    · rw [a3.1 _ _ (by omega), hI_ne (by omega), hI_at ⟨rfl, rfl⟩]
    · rw [a3.1 _ _ (by omega), hI_at ⟨rfl, rfl⟩]
  | d + 1, k, fu + 1, h, hk, hf, hz => by
    have hzk := eq_true (hz k (by omega))
    obtain ⟨h', a1, a2, a3, a4, a5, a6⟩ := m_lay1 d (k + 1) fu (uI (uI (uI (uI (uI h 137 (5 + k) (hI h 137 k)) 138 (5 + k) (hI h 138 k)) 139 (5 + k) (hI h 139 k)) 140 (5 + k) (hI h 140 k)) 141 (5 + k) (hI h 141 k)) (by omega) (by omega) (fun i hi => by simp (disch := omega) only [hI_ne]; exact hz i hi)
    refine ⟨h', ?_, a2, ?_, ?_, ?_, ?_⟩
    · rw [fX10_layTried_2]
      simp (disch := omega) only [lit, ↓reduceIte, leF, nI_add, inbN, nI_clamp, hI_ne, hzk]
      exact a1
    · rw [a3]; simp (disch := omega) only [hI_ne]
    · rw [a4]; simp (disch := omega) only [hI_ne]
    · intro i h1 h2
      by_cases q : i = k
      · subst q
        rw [a6.1 137 _ (by omega), a6.1 138 _ (by omega), a6.1 139 _ (by omega), a6.1 140 _ (by omega), a6.1 141 _ (by omega)]
        simp (disch := omega) only [hI_ne, hI_at, and_self]
      · obtain ⟨b1, b2, b3, b4, b5⟩ := a5 i (by omega) h2
        rw [b1, b2, b3, b4, b5]
        simp (disch := omega) only [hI_ne, and_self]
    · exact Fr.tr (Fr.uI (Fr.uI (Fr.uI (Fr.uI (Fr.uI Fr.rf (by omega)) (by omega)) (by omega)) (by omega)) (by omega)) (a6.mono (fun a i q => by omega) (fun _ _ q => q))
theorem bn_z (n i : Nat) : isZ (nI (bn n i)) = true := of_eq_true (isZn (bn_le n i))
/-- both sides lay a trial -/
theorem s_lay {hc hm : Hp} {S : Nat} {T : Tx} (hS : isS S) (F : WFT T) (w : RW hc hm S 72 0 T) : ∃ hc' hm', fX8_copyFrom 84 72 hc = some hc' ∧ fX10_layTried hm = some hm' ∧ RW hc' hm' S 84 1 T ∧ plainW hc' 84 ∧ plainM hm' ∧ hI hc' 84 4 = hI hc 72 4 ∧ Fo 84 hc hc' ∧ Fr PlI (fun _ _ => False) hm hm' := by
  obtain ⟨w1, w2, w3, w4, w5, ⟨sh, w6, w7, w8⟩, w9, w10⟩ := w
  obtain ⟨hc', a1, a2, a3, a4, a5, a6⟩ := x_copy (W := 84) (V := 72) hS (Or.inr (Or.inr rfl)) (Or.inl rfl) (by omega) w1
  obtain ⟨hm', b1, b2, b3, b4, b5, b6⟩ := m_lay1 5 0 FU hm rfl (by decide) (fun i hi => by
    have := w8 i hi
    rw [show 5 * 0 + i = i by omega] at this
    rw [this]; exact bn_z _ _)
  have e : ∀ i, 5 * 0 + i = i := fun i => by omega
  have e1 : ∀ i, 5 * 1 + i = 5 + i := fun i => by omega
  refine ⟨hc', hm', a1, ?_, ⟨a2, ?_, ?_, ?_, ?_, ⟨sh, w6, ?_, ?_⟩, ?_, ?_⟩, a3, b2, a4 4 (by omega) (by omega), a6, b6.mono (fun a i q => by unfold PlI; omega) (fun _ _ q => q)⟩
  · unfold fX10_layTried; simp only [lit]; exact b1
  · intro i hi
    obtain ⟨n, n1, n2, n3⟩ := w2 i hi
    have q : i < 5 := by have := F.1.2.2.1; omega
    exact ⟨n, n1, by rw [(a5 i q).1]; exact n2, by rw [e1, (b5 i (by omega) q).1, ← e i]; exact n3⟩
  · intro i hi h2; rw [(a5 i hi).1]; exact w3 i hi h2
  · intro i hi
    obtain ⟨n, n1, n2, n3⟩ := w4 i hi
    exact ⟨n, n1, by rw [(a5 i hi).2.1]; exact n2, by rw [e1, (b5 i (by omega) hi).2.2.1, ← e i]; exact n3⟩
  · intro i hi
    rw [e1, (a5 i hi).2.2.1, (a5 i hi).2.2.2, (b5 i (by omega) hi).2.2.2.1, (b5 i (by omega) hi).2.2.2.2]
    have := w5 i hi
    rw [e i] at this
    exact this
  · rw [a4 2 (by omega) (by omega)]; exact w7
  · intro i hi
    have := w8 i hi
    rw [e i] at this
    rw [e1, (b5 i (by omega) hi).2.1]; exact this
  · rw [a4 1 (by omega) (by omega), b4]; exact w9
  · rw [a4 3 (by omega) (by omega), b3]; exact w10
