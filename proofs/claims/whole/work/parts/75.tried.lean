/-! tried, chance. -/
theorem RW_ag {hc hm hc' hm' : Hp} {S W b : Nat} {T : Tx} (hT : T 0 2 ≤ 5) (w : RW hc hm S W b T) (hi : ∀ a i, (a = W ∧ 1 ≤ i ∧ i ≤ 3) ∨ (W < a ∧ a < W + 5) → hI hc' a i = hI hc a i) (hr : hR hc' W 0 = hR hc W 0) (mi : ∀ a i, (137 ≤ a ∧ a ≤ 141 ∧ 5 * b ≤ i ∧ i < 5 * b + 5) ∨ ((a = 142 ∨ a = 143) ∧ i = b) → hI hm' a i = hI hm a i) : RW hc' hm' S W b T := by
  obtain ⟨w1, w2, w3, w4, w5, ⟨sh, w6, w7, w8⟩, w9, w10⟩ := w
  refine ⟨by rw [hr]; exact w1, ?_, ?_, ?_, ?_, ⟨sh, w6, ?_, ?_⟩, ?_, ?_⟩
  · intro i h1; rw [hi _ _ (by omega), mi _ _ (by omega)]; exact w2 i h1
  · intro i h1 h2; rw [hi _ _ (by omega)]; exact w3 i h1 h2
  · intro i h1; rw [hi _ _ (by omega), mi _ _ (by omega)]; exact w4 i h1
  · intro i h1; rw [hi _ _ (by omega), hi _ _ (by omega), mi _ _ (by omega), mi _ _ (by omega)]; exact w5 i h1
  · rw [hi _ _ (by omega)]; exact w7
  · intro i h1; rw [mi _ _ (by omega)]; exact w8 i h1
  · rw [hi _ _ (by omega), mi _ _ (by omega)]; exact w9
  · rw [hi _ _ (by omega), mi _ _ (by omega)]; exact w10
section V
variable {S : Nat} {T : Tx}
/-- the trial's nights, both sides, then the wins more -/
theorem s_tried2 {hc hm hc1 hm1 : Hp} {n : Nat} (s : R2 hc hm S T) (hn : n ≤ 200) (aC : AskC hc hc1) (aM : AskM hm hm1) (w : RW hc1 hm1 S 84 1 T) (g : RG hc1 hm1 84) (h0 : hI hm1 107 68 = nI 0) : ∃ v hc' hm', (fX8_passNights 84 hc1 (nI n)).bind (fun h_23 => bnd (fX8_wonByAll 84 h_23) (fun v_24 h_25 => bnd (fX8_wonByAll 72 h_25) (fun v_26 h_27 => some ((v_24 - v_26), h_27)))) = some (v, hc') ∧ (fX10_goMany hm1 (nI n)).bind (fun h_24 => (fX10_plainTried h_24).bind (fun h_26 => bnd (fX10_sumOf 140 10 h_26 (nI 1)) (fun v_27 h_28 => bnd (fX10_sumOf 140 10 h_28 (nI 0)) (fun v_29 h_30 => some ((v_27 - v_29), h_30))))) = some (v, hm') ∧ AskC hc hc' ∧ AskM hm hm' := by
  obtain ⟨hS, -, -, F, -⟩ := s.1
  have s1 := R2_A s aC aM
  obtain ⟨hc2, hm2, b1, b2, b3, b4, b5, b6, b7⟩ := s_manyN hS F hn s1.1.2.2.2.2.1 s1.1.2.2.2.2.2.1 w g
  obtain ⟨hm3, p1, p2, p3⟩ := m_plain (h := hm2)
  have aC2 := aC.tr (AskC_FC b5)
  have aM2 := aM.tr (AskM_FM b6 (b7 h0).1)
  have aM3 := aM2.tr (AskM_Fr p3 (fun a i z => by unfold irM; omega) (fun _ _ z => z.elim))
  have s3 := R2_A s aC2 aM3
  have w84 : RW hc2 hm3 S 84 1 T := RW_ag F.1.2.2.1 b3 (fun _ _ _ => rfl) rfl (fun a i q => p3.1 a i (by omega))
  obtain ⟨x1, x2⟩ := s_won (Or.inr (Or.inr rfl) : isW 84) (by decide : 1 ≤ 1) w84
  obtain ⟨y1, y2⟩ := s_won (Or.inl rfl : isW 72) (by decide : 0 ≤ 1) s3.2.1.1
  refine ⟨sm (fun i => hI hc2 (84 + 3) i) 5 - sm (fun i => hI hc2 (72 + 3) i) 5, hc2, hm3, ?_, ?_, aC2, aM3⟩
  · simp only [b1, bind_some', x1, y1, bnd_some]
  · simp only [b2, p1, bind_some', x2, y2, bnd_some]
theorem x_stuffAll1 {W : Nat} (hS : isS S) (hW : isW W) (F : WFT T) : ∀ (d k fu : Nat) (h : Hp), k + d = 5 → d < fu → hI h (S + 12) 2 = nI (T 0 2) → hR h W 0 = some S → ∃ h', fX8_stuffAll_2 fu W h (nI k) = some h' ∧ hI h' W 2 = nI 0 ∧ (∀ i, k ≤ i → i < 5 → hI h' (W + 1) i = if i < T 0 2 then nI 99 else nI 0) ∧ Fr (fun a i => (a = W ∧ i = 2) ∨ (a = W + 1 ∧ k ≤ i)) (fun _ _ => False) h h'
  | 0, k, fu + 1, h, hk, _, _, _ => by
    have e : k = 5 := by omega
    subst e
    refine ⟨uI h W 2 (nI 0), ?_, hI_at ⟨rfl, rfl⟩, fun i h1 h2 => by omega, Fr.uI Fr.rf (Or.inl ⟨rfl, rfl⟩)⟩
    rw [fX8_stuffAll_2]; simp (disch := omega) only [lit, ↓reduceIte, leT]
  | d + 1, k, fu + 1, h, hk, hf, h1, h2 => by
    have h5 := F.1.2.2.1
    have hW' := Wge hW
    have hS' : S ≤ 35 := by rcases hS with rfl | rfl <;> decide
    have go : ∀ v, (if k < T 0 2 then nI 99 else nI 0) = v → ∃ h', fX8_stuffAll_2 fu W (uI h (W + 1) k v) (nI (k + 1)) = some h' ∧ hI h' W 2 = nI 0 ∧ (∀ i, k ≤ i → i < 5 → hI h' (W + 1) i = if i < T 0 2 then nI 99 else nI 0) ∧ Fr (fun a i => (a = W ∧ i = 2) ∨ (a = W + 1 ∧ k ≤ i)) (fun _ _ => False) h h' := by
      intro v hv
      obtain ⟨h', a1, a2, a3, a4⟩ := x_stuffAll1 hS hW F d (k + 1) fu (uI h (W + 1) k v) (by omega) (by omega) (by rw [hI_ne (by omega)]; exact h1) h2
      refine ⟨h', a1, a2, fun i q1 q2 => ?_, Fr.tr (Fr.uI Fr.rf (Or.inr ⟨rfl, Nat.le_refl _⟩)) (a4.mono (fun a i q => by omega) (fun _ _ q => q))⟩
      by_cases q : i = k
      · subst q; rw [a4.1 _ _ (by omega), hI_at ⟨rfl, rfl⟩, hv]
      · exact a3 i (by omega) q2
    have e0 := dref_of (q := (7, 20)) h2 (sS hS)
    rw [fX8_stuffAll_2]
    by_cases q : k < T 0 2
    · obtain ⟨h', a1, a2⟩ := go (nI 99) (if_pos q)
      refine ⟨h', ?_, a2⟩
      simp (disch := omega) only [lit, ↓reduceIte, leF, e0, bind_some', rS1 hS, h1, fX8_stuffAll_32, inbN, nI_clamp, rW5 hW, nI_add]
      exact a1
    · obtain ⟨h', a1, a2⟩ := go (nI 0) (if_neg q)
      refine ⟨h', ?_, a2⟩
      simp (disch := omega) only [lit, ↓reduceIte, leF, leT, e0, bind_some', rS1 hS, h1, fX8_stuffAll_32, inbN, nI_clamp, rW5 hW, nI_add]
      exact a1
theorem m_stuffAll1 {x3 : Int32} (F : WFT T) : ∀ (d k fu : Nat) (h : Hp), k + d = T 0 2 → d < fu → hI h 107 14 = nI (T 0 2) → ∃ h', fX10_tried_95 fu h (nI 3) x3 (nI k) = fX10_tried_136 h' (nI 3) x3 ∧ (∀ i, k ≤ i → i < T 0 2 → hI h' 137 (5 + i) = nI 99 ∧ hI h' 138 (5 + i) = nI 0) ∧ Fr (fun a i => (a = 137 ∨ a = 138) ∧ 5 + k ≤ i ∧ i < 5 + T 0 2) (fun _ _ => False) h h'
  | 0, k, fu + 1, h, hk, _, h1 => by
    have h5 := F.1.2.2.1
    have e : k = T 0 2 := by omega
    refine ⟨h, ?_, fun i q1 q2 => by omega, Fr.rf⟩
    rw [fX10_tried_95]; simp (disch := omega) only [lit, h1, ↓reduceIte, leT]
  | d + 1, k, fu + 1, h, hk, hf, h1 => by
    have h5 := F.1.2.2.1
    obtain ⟨h', a1, a2, a3⟩ := m_stuffAll1 F d (k + 1) fu (uI (uI h 137 (5 + k) (nI 99)) 138 (5 + k) (nI 0)) (by omega) (by omega) (by rw [hI_ne (by omega), hI_ne (by omega)]; exact h1)
    refine ⟨h', ?_, fun i q1 q2 => ?_, Fr.tr (Fr.uI (Fr.uI Fr.rf (by omega)) (by omega)) (a3.mono (fun a i q => by omega) (fun _ _ q => q))⟩
    · rw [fX10_tried_95]; simp (disch := omega) only [lit, h1, ↓reduceIte, leF, nI_add, inbN, nI_clamp]; exact a1
    · by_cases q : i = k
      · subst q
        rw [a3.1 _ _ (by omega), a3.1 _ _ (by omega), hI_ne (by omega), hI_at ⟨rfl, rfl⟩, hI_at ⟨rfl, rfl⟩]; exact ⟨rfl, rfl⟩
      · exact a2 i (by omega) q2
theorem s_tried3 {hc hm : Hp} (s : R2 hc hm S T) {n w : Nat} (hn : n ≤ 200) (hw : w ≤ 4) {z : Int32} : Ok2 hc hm (fX9_tried_44 hc (nI w) z (nI n)) (fX10_tried_47 hm (nI w) z (nI n)) := by
  obtain ⟨hS, -, -, F, -⟩ := s.1
  have h5 := F.1.2.2.1
  obtain ⟨hc1, hm1, a1, a2, a3, a4, a5, pM, f10, f11, f12, f13, f14, a6, a7⟩ := s_start s
  have hW4 : isW 84 := Or.inr (Or.inr rfl)
  let A : Nat := if w = 0 then 1 else 0
  let B : Nat := if w = 1 then 1 else 0
  let C : Int32 := if w = 2 then z else -nI 1
  let D : Nat := if w = 4 then 1 else 0
  have hA : A ≤ 1 := by show (if w = 0 then 1 else 0) ≤ 1; split <;> omega
  have hB : B ≤ 1 := by show (if w = 1 then 1 else 0) ≤ 1; split <;> omega
  have hD : D ≤ 1 := by show (if w = 4 then 1 else 0) ≤ 1; split <;> omega
  let cc : Hp := uI (uI (uI hc1 84 11 (nI A)) 84 12 (nI B)) 84 14 C
  let mm : Hp := uI (uI (uI hm1 107 69 (nI A)) 107 70 (nI B)) 107 72 C
  have aCc : AskC hc cc := a6.tr ((AskC_u.tr AskC_u).tr AskC_u)
  have aMm : AskM hm mm := a7.tr (((AskM_u (by omega)).tr (AskM_u (by omega))).tr (AskM_u (by omega)))
  have ecc : ∀ a i, ¬ (a = 84 ∧ (i = 11 ∨ i = 12 ∨ i = 14)) → hI cc a i = hI hc1 a i := fun a i q => by
    show hI (uI (uI (uI hc1 84 11 _) 84 12 _) 84 14 _) a i = _
    rw [hI_ne (by omega), hI_ne (by omega), hI_ne (by omega)]
  have emm : ∀ a i, ¬ (a = 107 ∧ (i = 69 ∨ i = 70 ∨ i = 72)) → hI mm a i = hI hm1 a i := fun a i q => by
    show hI (uI (uI (uI hm1 107 69 _) 107 70 _) 107 72 _) a i = _
    rw [hI_ne (by omega), hI_ne (by omega), hI_ne (by omega)]
  have hhead : fX9_tried_44 hc (nI w) z (nI n) = if nI w = nI 3 then (fX8_stuffAll 84 cc).bind (fun h_19 => fX9_tried_110 h_19 (nI w) (nI n)) else fX9_tried_110 cc (nI w) (nI n) := by
    unfold fX9_tried_44 fX9_tried_61 fX9_tried_78 fX9_tried_95
    simp only [lit, a1, bind_some', isZ0, isZ1, ↓reduceIte]
    have cn : w = 0 ∨ w = 1 ∨ w = 2 ∨ w = 3 ∨ w = 4 := by omega
    rcases cn with rfl | rfl | rfl | rfl | rfl <;> simp (disch := omega) only [↓reduceIte, eqF] <;> rfl
  have mhead : fX10_tried_47 hm (nI w) z (nI n) = fX10_tried_95 FU mm (nI w) (nI n) (nI 0) := by
    unfold fX10_tried_47 fX10_tried_61 fX10_tried_75 fX10_tried_89
    simp only [lit, a2, bind_some', isZ0, isZ1, ↓reduceIte]
    have cn : w = 0 ∨ w = 1 ∨ w = 2 ∨ w = 3 ∨ w = 4 := by omega
    rcases cn with rfl | rfl | rfl | rfl | rfl <;> simp (disch := omega) only [↓reduceIte, eqF] <;> rfl
  have s1 := R2_A s aCc aMm
  have Rc := s1.1.2.2.2.2.1
  have Rm := s1.1.2.2.2.2.2.1
  -- the end, both ways or not
  have fin : ∀ hc2 hm2 : Hp, AskC hc hc2 → AskM hm hm2 → RW hc2 hm2 S 84 1 T → (∀ i, 10 ≤ i → hI hc2 84 i = hI cc 84 i) → (∀ i, 68 ≤ i → i ≤ 72 → hI hm2 107 i = hI mm 107 i) → Ok2 hc hm (fX9_tried_110 hc2 (nI w) (nI n)) (fX10_tried_136 hm2 (nI w) (nI n)) := by
    intro hc2 hm2 x1 x2 x3 x4 x5
    have w' : RW (uI hc2 84 13 (nI D)) (uI hm2 107 71 (nI D)) S 84 1 T := RW_ag h5 x3 (fun a i q => hI_ne (by omega)) rfl (fun a i q => hI_ne (by omega))
    have g' : RG (uI hc2 84 13 (nI D)) (uI hm2 107 71 (nI D)) 84 := by
      refine ⟨⟨0, by decide, ?_, ?_, fun q => absurd q (by decide)⟩, ⟨A, hA, ?_, ?_⟩, ⟨B, hB, ?_, ?_⟩, ⟨D, hD, hI_at ⟨rfl, rfl⟩, hI_at ⟨rfl, rfl⟩⟩, ?_⟩
      · rw [hI_ne (by omega), x4 _ (by omega), ecc _ _ (by omega)]; exact f10
      · rw [hI_ne (by omega), x5 _ (by omega) (by omega), emm _ _ (by omega)]; exact a5
      · rw [hI_ne (by omega), x4 _ (by omega)]
        show hI (uI (uI (uI hc1 84 11 _) 84 12 _) 84 14 _) 84 11 = _
        rw [hI_ne (by omega), hI_ne (by omega), hI_at ⟨rfl, rfl⟩]
      · rw [hI_ne (by omega), x5 _ (by omega) (by omega)]
        show hI (uI (uI (uI hm1 107 69 _) 107 70 _) 107 72 _) 107 69 = _
        rw [hI_ne (by omega), hI_ne (by omega), hI_at ⟨rfl, rfl⟩]
      · rw [hI_ne (by omega), x4 _ (by omega)]
        show hI (uI (uI (uI hc1 84 11 _) 84 12 _) 84 14 _) 84 12 = _
        rw [hI_ne (by omega), hI_at ⟨rfl, rfl⟩]
      · rw [hI_ne (by omega), x5 _ (by omega) (by omega)]
        show hI (uI (uI (uI hm1 107 69 _) 107 70 _) 107 72 _) 107 70 = _
        rw [hI_ne (by omega), hI_at ⟨rfl, rfl⟩]
      · rw [hI_ne (by omega), hI_ne (by omega), x4 _ (by omega), x5 _ (by omega) (by omega)]
        show hI (uI (uI (uI hc1 84 11 _) 84 12 _) 84 14 _) 84 14 = hI (uI (uI (uI hm1 107 69 _) 107 70 _) 107 72 _) 107 72
        rw [hI_at ⟨rfl, rfl⟩, hI_at ⟨rfl, rfl⟩]
    have h0 : hI (uI hm2 107 71 (nI D)) 107 68 = nI 0 := by rw [hI_ne (by omega), x5 _ (by omega) (by omega), emm _ _ (by omega)]; exact a5
    obtain ⟨v, hc3, hm3, y1, y2, y3, y4⟩ := s_tried2 (n := n) s hn (x1.tr AskC_u) (x2.tr (AskM_u (by omega))) w' g' h0
    refine ok_A (v := v) s ?_ ?_ y3 y4
    · unfold fX9_tried_110 fX9_tried_124
      simp only [lit, isZ0, isZ1, ↓reduceIte]
      by_cases q4 : w = 4
      · have : D = 1 := if_pos q4
        rw [this] at y1
        simp (disch := omega) only [↓reduceIte, eqT]; exact y1
      · have : D = 0 := if_neg q4
        rw [this] at y1
        simp (disch := omega) only [↓reduceIte, eqF]; exact y1
    · unfold fX10_tried_136 fX10_tried_147
      simp only [lit, isZ0, isZ1, ↓reduceIte]
      by_cases q4 : w = 4
      · have : D = 1 := if_pos q4
        rw [this] at y2
        simp (disch := omega) only [↓reduceIte, eqT]; exact y2
      · have : D = 0 := if_neg q4
        rw [this] at y2
        simp (disch := omega) only [↓reduceIte, eqF]; exact y2
  rw [hhead, mhead]
  have wcc : RW cc mm S 84 1 T := RW_ag h5 a3 (fun a i q => ecc a i (by omega)) rfl (fun a i q => emm a i (by omega))
  by_cases q3 : w = 3
  · subst q3
    obtain ⟨hc2, x1, x2, x3, x4⟩ := x_stuffAll1 hS hW4 F 5 0 FU cc rfl (by decide) Rc.1.2.2.1 wcc.1
    obtain ⟨hm2, y1, y2, y3⟩ := m_stuffAll1 (x3 := nI n) F (T 0 2) 0 FU mm (by omega) (Nat.lt_of_le_of_lt h5 (by decide)) Rm.1.2.2.1
    rw [if_pos rfl, y1]
    have e : fX8_stuffAll 84 cc = some hc2 := by unfold fX8_stuffAll; simp only [lit]; exact x1
    rw [e, bind_some']
    refine fin hc2 hm2 (aCc.tr (AskC_Fr x4 (fun a i z => by unfold irC; omega) (fun _ _ z => z.elim))) (aMm.tr (AskM_Fr y3 (fun a i z => by unfold irM; omega) (fun _ _ z => z.elim))) ?_ (fun i hi => x4.1 _ _ (by omega)) (fun i q1 q2 => y3.1 _ _ (by omega))
    obtain ⟨w1, w2, w3, w4, w5, ⟨sh, w6, w7, w8⟩, w9, w10⟩ := wcc
    refine ⟨by rw [x4.2.2]; exact w1, ?_, ?_, ?_, ?_, ⟨0, Nat.pow_pos (by decide), x2, ?_⟩, ?_, ?_⟩
    · intro i hi
      have := y2 i (by omega) hi
      exact ⟨99, by decide, by rw [x3 i (by omega) (by omega), if_pos hi], by rw [show 5 * 1 + i = 5 + i by omega]; exact this.1⟩
    · intro i hi h2; rw [x3 i (by omega) hi, if_neg (by omega)]
    · intro i hi; rw [x4.1 _ _ (by omega), y3.1 _ _ (by omega)]; exact w4 i hi
    · intro i hi; rw [x4.1 _ _ (by omega), x4.1 _ _ (by omega), y3.1 _ _ (by omega), y3.1 _ _ (by omega)]; exact w5 i hi
    · intro i hi
      have hb0 : bn 0 i = 0 := by unfold bn; simp
      rw [hb0]
      by_cases q : i < T 0 2
      · rw [show 5 * 1 + i = 5 + i by omega]; exact (y2 i (by omega) q).2
      · rw [y3.1 _ _ (by omega), w8 i hi]
        unfold bn
        rw [lt_tb w6 (by omega)]; rfl
    · rw [x4.1 _ _ (by omega), y3.1 _ _ (by omega)]; exact w9
    · rw [x4.1 _ _ (by omega), y3.1 _ _ (by omega)]; exact w10
  · rw [if_neg (fun e => q3 (nI_inj (by omega) (by omega) e))]
    have e : fX10_tried_95 FU mm (nI w) (nI n) (nI 0) = fX10_tried_136 mm (nI w) (nI n) := by
      obtain ⟨fu, hfu⟩ := FUs
      rw [hfu, fX10_tried_95]
      simp (disch := omega) only [lit, ↓reduceIte, eqF]
      split <;> rfl
    rw [e]
    exact fin cc mm aCc aMm wcc (fun _ _ => rfl) (fun _ _ _ => rfl)
theorem s_tried {hc hm : Hp} (s : R2 hc hm S T) (x y z : Int32) : Ok2 hc hm (fX9_tried hc x y z) (fX10_tried hm x y z) := by
  have s0 := R2_thr s (nI 0)
  have no : fX9_tried hc x y z = some (-nI 1, hc) → fX10_tried hm x y z = some (-nI 1, uI hm 107 2 (nI 0)) → Ok2 hc hm (fX9_tried hc x y z) (fX10_tried hm x y z) := fun h1 h2 => ok_same s h1 h2
  rcases v_in (h := uI hm 107 2 (nI 0)) x 0 4 (by decide) (by decide) with ⟨w, -, hw, rfl, e0⟩ | ⟨q, e0⟩
  · rcases v_in (h := uI hm 107 2 (nI 0)) z 0 200 (by decide) (by decide) with ⟨n, -, hn, rfl, e1⟩ | ⟨q, e1⟩
    · have o := s_tried3 s0 hn hw (z := y)
      by_cases q2 : w = 2
      · subst q2
        rcases v_member s0.1 y with ⟨i, hi, rfl, e2, e3⟩ | ⟨e2, e3⟩
        · have ec : fX9_tried hc (nI 2) (nI i) (nI n) = fX9_tried_44 hc (nI 2) (nI i) (nI n) := by
            unfold fX9_tried; simp (disch := omega) only [lit, ↓reduceIte, ltF, leT, e2, bnd_some, eqF]
          have em : fX10_tried hm (nI 2) (nI i) (nI n) = fX10_tried_47 (uI hm 107 2 (nI 0)) (nI 2) (nI i) (nI n) := by
            unfold fX10_tried; simp (disch := omega) only [lit, e0, e1, bnd_some, ↓reduceIte, eqF, e3]
          rw [ec, em]; exact Ok2_thr o
        · refine no ?_ ?_
          · unfold fX9_tried; simp (disch := omega) only [lit, ↓reduceIte, ltF, leT, e2, bnd_some]
          · unfold fX10_tried; simp (disch := omega) only [lit, e0, e1, bnd_some, ↓reduceIte, eqF, e3]
      · by_cases qy : y = nI 0
        · have ec : fX9_tried hc (nI w) y (nI n) = fX9_tried_44 hc (nI w) y (nI n) := by
            unfold fX9_tried; simp (disch := omega) only [lit, ↓reduceIte, ltF, leT, eqF, qy]
          have em : fX10_tried hm (nI w) y (nI n) = fX10_tried_47 (uI hm 107 2 (nI 0)) (nI w) y (nI n) := by
            unfold fX10_tried; simp (disch := omega) only [lit, e0, e1, bnd_some, ↓reduceIte, eqF, qy]
          rw [ec, em]; exact Ok2_thr o
        · refine no ?_ ?_
          · unfold fX9_tried; simp (disch := omega) only [lit, ↓reduceIte, ltF, leT, eqF, qy]
          · unfold fX10_tried; simp (disch := omega) only [lit, e0, e1, bnd_some, ↓reduceIte, eqF, qy]
    · refine no ?_ ?_
      · unfold fX9_tried
        simp only [lit]
        rcases q with q | q
        · rw [if_pos q]
        · rw [if_neg (ltI_hi 200 0 (by decide) (by decide) q).1, if_pos q]
      · unfold fX10_tried; simp (disch := omega) only [lit, e0, e1, bnd_some, ↓reduceIte, eqF]
  · refine no ?_ ?_
    · unfold fX9_tried
      simp only [lit]
      rcases q with q | q
      · simp only [if_pos q]
        repeat' split
        all_goals rfl
      · have q4 : ¬ x ≤ nI 4 := Int32.not_le.mpr q
        simp only [if_neg (ltI_hi 4 0 (by decide) (by decide) q).1, if_neg q4]
        repeat' split
        all_goals rfl
    · unfold fX10_tried; simp (disch := omega) only [lit, e0, bnd_some, ↓reduceIte]
end V
