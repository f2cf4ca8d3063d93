/-! text, as a whole. -/
theorem mrel_u {T : Tx} (F : WFT T) {a i : Nat} (q : mrel T 64 a i) (z : a ≠ 107) : 111 ≤ a ∧ a < 133 ∧ i < uof a := by
  obtain ⟨f1, f2, f3, f4, f5, f6, -⟩ := F.1
  have hr : 111 ≤ a ∧ a < 133 := by unfold mrel at q; omega
  refine ⟨hr.1, hr.2, ?_⟩
  unfold mrel at q
  unfold uof
  rcases q with q | q | q | q | q | q | q | q | q | q | q
  · omega
  · rw [if_pos q.1]; omega
  · rw [if_neg (by omega), if_pos (by omega)]; omega
  · rw [if_neg (by omega), if_neg (by omega), if_pos (by omega)]; omega
  · rw [if_neg (by omega), if_neg (by omega), if_neg (by omega), if_pos (by omega)]; omega
  · rw [if_neg (by omega), if_neg (by omega), if_neg (by omega), if_pos (by omega)]; omega
  · rw [if_neg (by omega), if_neg (by omega), if_neg (by omega), if_pos (by omega)]; omega
  · rw [if_neg (by omega), if_neg (by omega), if_neg (by omega), if_neg (by omega), if_pos (by omega)]; omega
  · rw [if_neg (by omega), if_neg (by omega), if_neg (by omega), if_neg (by omega), if_neg (by omega), if_pos (by omega)]; omega
  · rw [if_neg (by omega), if_neg (by omega), if_neg (by omega), if_neg (by omega), if_neg (by omega), if_neg (by omega), if_pos (by omega)]; omega
  · rw [if_neg (by omega), if_neg (by omega), if_neg (by omega), if_neg (by omega), if_neg (by omega), if_neg (by omega), if_neg (by omega)]; omega
theorem mrel_f {T : Tx} (F : WFT T) {a i : Nat} (q : mrel T 64 a i) : ¬ fmX a i ∧ ¬ (a = 107 ∧ i < 12) := by
  by_cases z : a = 107
  · subst z
    have : 12 ≤ i ∧ i ≤ 18 := by unfold mrel at q; omega
    unfold fmX
    omega
  · obtain ⟨h1, h2, h3⟩ := mrel_u F q z
    unfold fmX
    omega
/-- a text that was refused -/
theorem R2_bad {hc hm hc' hm' : Hp} {S : Nat} {T : Tx} (s : R2 hc hm S T) (eC : ∀ a i, a ≠ 69 → ¬ (a = 0 ∧ (i = 1 ∨ i = 2)) → ¬ fcX (36 - S) a i → hI hc' a i = hI hc a i) (hr : ∀ a i, a ≠ 69 → hR hc' a i = hR hc a i) (eM : ∀ a i, ¬ fmX a i → ¬ (a = 107 ∧ i < 12) → hI hm' a i = hI hm a i) (mj : ∀ a i, hJ hm' a i = hJ hm a i) (c1 : hI hc' 69 1 = nI 0) (m1 : hI hm' 107 1 = nI 0) (fa : hI hc' 0 1 = hI hm' 107 4) (fb : hI hc' 0 2 = hI hm' 107 5) : R2 hc' hm' S T := by
  obtain ⟨⟨hS, t1, t2, F, Rc, Rm, -, -, ⟨kc1, kc2, kc3⟩, km⟩, sW, sU, sI, sM⟩ := s
  have x0 : S = 1 ∨ S = 35 := hS
  have nf : ∀ a i, (S ≤ a ∧ a < S + 34) ∨ 70 ≤ a ∨ a = 0 ∨ (i = 1 ∧ (a = 3 ∨ a = 13 ∨ a = 17 ∨ a = 37 ∨ a = 47 ∨ a = 51)) → a ≠ 69 → ¬ fcX (36 - S) a i := fun a i z z2 => by unfold fcX; omega
  have nm : ∀ a i, ¬ (a = 107 ∨ a = 110 ∨ (111 ≤ a ∧ a ≤ 134)) → ¬ fmX a i ∧ ¬ (a = 107 ∧ i < 12) := fun a i z => by unfold fmX; omega
  have n7 : ∀ i, (57 ≤ i ∨ (12 ≤ i ∧ i ≤ 18)) → ¬ fmX 107 i ∧ ¬ (107 = 107 ∧ i < 12) := fun i z => by unfold fmX; omega
  refine ⟨⟨hS, by rw [hr _ _ (by decide)]; exact t1, by rw [hr _ _ (by decide)]; exact t2, F, RSc_lo Rc (fun a i z => ?_) (fun i => hr _ _ (by omega)), RSm_lo 64 Rm (fun a i z => eM a i (mrel_f F z).1 (mrel_f F z).2) (fun _ _ _ _ _ h => h), ⟨0, by decide, c1, m1, fun i hi => absurd hi (Nat.not_lt_zero _)⟩, ⟨fa, fb⟩, ⟨fun S' h' => ?_, fun i hi => ?_, fun i h1 h2 => ?_⟩, fun i hi => ?_⟩, ?_, ?_, ?_, ?_⟩
  · have r : S ≤ a ∧ a < S + 34 := by unfold crel at z; omega
    exact eC a i (by omega) (by omega) (nf a i (Or.inl r) (by omega))
  · obtain ⟨b1, b2, b3, b4⟩ := kc1 S' h'
    have x1 : S' = 1 ∨ S' = 35 := h'
    refine ⟨?_, ?_, ?_, fun w hw => ?_⟩
    · rw [eC _ _ (by omega) (by omega) (nf _ _ (by omega) (by omega))]; exact b1
    · rw [eC _ _ (by omega) (by omega) (nf _ _ (by omega) (by omega))]; exact b2
    · rw [eC _ _ (by omega) (by omega) (nf _ _ (by omega) (by omega))]; exact b3
    · rw [hr _ _ (by omega)]; exact b4 w hw
  · rw [eC _ _ (by omega) (by omega) (nf _ _ (by omega) (by omega))]; exact kc2 i hi
  · rw [eC _ _ (by omega) (by omega) (nf _ _ (by omega) (by omega))]; exact kc3 i h1 h2
  · rw [eM _ _ (nm _ _ (by omega)).1 (nm 109 i (by omega)).2]; exact km i hi
  · exact StW_ag F sW (fun a i h1 h2 => eC _ _ (by omega) (by omega) (nf _ _ (by omega) (by omega))) (hr _ _ (by decide)) (fun a i q => eM _ _ (nm _ _ (by omega)).1 (nm a i (by omega)).2) (mj _ _)
  · refine RU_ag sU (fun a i q => eC _ _ (by omega) (by omega) (nf _ _ (by omega) (by omega))) (fun a i q => ?_)
    rcases q with ⟨rfl, rfl⟩ | rfl
    · exact eM _ _ (n7 _ (by omega)).1 (n7 _ (by omega)).2
    · exact eM _ _ (nm _ _ (by omega)).1 (nm 149 i (by omega)).2
  · refine RI_ag sI (fun a i q => eC _ _ (by omega) (by omega) (nf _ _ (by omega) (by omega))) (hr _ _ (by decide)) (fun a i q => ?_) (mj _ _)
    rcases q with ⟨rfl, q⟩ | rfl | rfl
    · exact eM _ _ (n7 _ (by omega)).1 (n7 _ (by omega)).2
    · exact eM _ _ (nm _ _ (by omega)).1 (nm 150 i (by omega)).2
    · exact eM _ _ (nm _ _ (by omega)).1 (nm 151 i (by omega)).2
  · refine RM_ag sM (fun a i q => eC _ _ (by omega) (by omega) (nf _ _ (by omega) (by omega))) (fun a i q => ?_)
    rcases q with ⟨rfl, q⟩ | rfl
    · exact eM _ _ (n7 _ (by omega)).1 (n7 _ (by omega)).2
    · exact eM _ _ (nm _ _ (by omega)).1 (nm 147 i (by omega)).2
/-- a text that is kept: both begin anew -/
theorem t_good {hc hm hc' hm' : Hp} {S X n j : Nat} {T T' : Tx} {b : Nat → Nat} (s : R2 hc hm S T) (hXS : X = 36 - S) (eC : ∀ a i, a ≠ 69 → ¬ fcX X a i → hI hc' a i = hI hc a i) (hr : ∀ a i, a ≠ 69 → hR hc' a i = hR hc a i) (eM : ∀ a i, ¬ fmX a i → ¬ (a = 107 ∧ i < 12) → hI hm' a i = hI hm a i) (mr : ∀ a i, hR hm' a i = hR hm a i) (cj : ∀ a i, hJ hc' a i = hJ hc a i) (mj : ∀ a i, hJ hm' a i = hJ hm a i) (c1 : hI hc' 69 1 = nI 0) (m1 : hI hm' 107 1 = nI 0) (R : RD hc' hm' X T' b n) (h19 : hI hc' X 19 = nI j) : Ok2 hc hm (fX9_text_62 hc') ((fX10_keepText hm').bind (fun h_9 => some (nI j, h_9))) := by
  obtain ⟨⟨hS, t1, t2, F, Rc, Rm, -, -, ⟨kc1, kc2, kc3⟩, km⟩, sW, sU, sI, sM⟩ := s
  have x0 : S = 1 ∨ S = 35 := hS
  obtain ⟨⟨hX, -, ⟨-, -, -, -, -, km', f15, f4, f5⟩, h14⟩, ⟨F', Rc', Rm'⟩, -, -, -⟩ := R
  have x1 : X = 1 ∨ X = 35 := hX
  have nf : ∀ a i, 70 ≤ a ∨ a = 0 ∨ (i = 1 ∧ (a = 3 ∨ a = 13 ∨ a = 17 ∨ a = 37 ∨ a = 47 ∨ a = 51)) → a ≠ 69 → ¬ fcX X a i := fun a i z z2 => by unfold fcX; omega
  have nm : ∀ a i, ¬ (a = 107 ∨ a = 110 ∨ (111 ≤ a ∧ a ≤ 134)) → ¬ fmX a i ∧ ¬ (a = 107 ∧ i < 12) := fun a i z => by unfold fmX; omega
  -- the reference keeps the text
  obtain ⟨hK, q1, q2⟩ := m_keep F' Rm'
  have RK : RSm hK T' := RSm_lo 64 Rm' (KT_rel F' q2) (fun _ _ _ _ _ h => h)
  have kO : ∀ a i, ¬ (111 ≤ a ∧ a < 133) → ¬ (a = 107 ∧ 12 ≤ i ∧ i ≤ 18) → hI hK a i = hI hm' a i := fun a i z1 z2 => (q2.2.1 a i (by omega)).trans (kh0_o z2)
  -- the class swaps the scripts
  have e1 : hI (uI (uI hc' 0 1 (nI 0)) 0 2 (-nI 1)) 0 1 = nI 0 := by rw [hI_ne (by omega), hI_at ⟨rfl, rfl⟩]
  have e15 : hI (uI hc' 0 1 (nI 0)) 69 15 = -nI 1 := (hI_ne (by omega)).trans f15
  generalize hA : uR (uR (uI (uI hc' 0 1 (nI 0)) 0 2 (-nI 1)) 0 4 (some S)) 0 3 (some X) = gA
  have AI : ∀ a i, ¬ (a = 0 ∧ (i = 1 ∨ i = 2)) → hI gA a i = hI hc' a i := fun a i z => by
    rw [← hA]
    show hI (uI (uI hc' 0 1 (nI 0)) 0 2 (-nI 1)) a i = _
    rw [hI_ne (by omega), hI_ne (by omega)]
  have A1 : hI gA 0 1 = nI 0 := by rw [← hA]; exact e1
  have A2 : hI gA 0 2 = -nI 1 := by
    rw [← hA]
    show hI (uI (uI hc' 0 1 (nI 0)) 0 2 (-nI 1)) 0 2 = _
    exact hI_at ⟨rfl, rfl⟩
  have AR : ∀ a i, ¬ (a = 0 ∧ (i = 3 ∨ i = 4)) → hR gA a i = hR hc' a i := fun a i z => by
    rw [← hA, hR_ne (by omega), hR_ne (by omega)]; rfl
  have A3 : hR gA 0 3 = some X := by rw [← hA]; exact hR_at ⟨rfl, rfl⟩
  have A4 : hR gA 0 4 = some S := by rw [← hA, hR_ne (by omega)]; exact hR_at ⟨rfl, rfl⟩
  have AJ : ∀ a i, hJ gA a i = hJ hc' a i := fun a i => by rw [← hA]; rfl
  have RA : RSc gA X T' := RSc_lo Rc' (fun a i z => AI _ _ (by unfold crel at z; omega)) (fun i => AR _ _ (by omega))
  obtain ⟨hC, hL, b1, b2, b3, b4, b5, b6, ⟨b7, b8, b9⟩, b10⟩ := s_begin (hc := gA) (hm := hK) (b := 0) (W := 72) hX (Or.inl rfl) (by decide) F' RA RK
  have l8 : T' 0 8 < 2 ^ 31 := by have := F'.1.2.2.2.2.2.2.2.2; omega
  have L111 : hI hL 111 1 = nI (T' 0 8) := (b10.1 _ _ (by omega)).trans RK.1.2.2.2.2.2.2.2.2
  -- the final heaps
  generalize hE : uI (uI (uI (uI hC 0 8 (nI 0)) 90 0 (nI 0)) 97 0 (nI 0)) 97 1 (-nI 1) = gE
  have EI : ∀ a i, ¬ ((a = 0 ∧ i = 8) ∨ (a = 90 ∧ i = 0) ∨ (a = 97 ∧ (i = 0 ∨ i = 1))) → hI gE a i = hI hC a i := fun a i z => by
    rw [← hE]; simp (disch := omega) only [hI_ne]
  have ER : ∀ a i, hR gE a i = hR hC a i := fun a i => by rw [← hE]; rfl
  have EJ : ∀ a i, hJ gE a i = hJ hC a i := fun a i => by rw [← hE]; rfl
  generalize hG : uI (uI (uI (uI (uI (uI (uI (uI (uI (uJ hL 107 67 (lN (T' 0 8))) 107 68 (nI 0)) 107 69 (nI 0)) 107 70 (nI 0)) 107 71 (nI 0)) 107 72 (-nI 1)) 107 76 (nI 0)) 107 77 (-nI 1)) 107 80 (nI 0)) 107 82 (nI 0) = gM
  have MI : ∀ a i, ¬ (a = 107 ∧ 68 ≤ i ∧ i ≤ 82) → hI gM a i = hI hL a i := fun a i z => by
    rw [← hG]; simp (disch := omega) only [hI_ne]; rfl
  have MJ : ∀ a i, ¬ (a = 107 ∧ i = 67) → hJ gM a i = hJ hL a i := fun a i z => by
    rw [← hG]
    show hJ (uJ hL 107 67 (lN (T' 0 8))) a i = _
    rw [hJ_ne z]
  have M67 : hJ gM 107 67 = lN (T' 0 8) := by
    rw [← hG]
    show hJ (uJ hL 107 67 (lN (T' 0 8))) 107 67 = _
    rw [hJ_at ⟨rfl, rfl⟩]
  have MR : ∀ a i, hR gM a i = hR hL a i := fun a i => by rw [← hG]; rfl
  have M76 : hI gM 107 76 = nI 0 := by rw [← hG]; simp (disch := omega) only [hI_ne, hI_at]
  have M77 : hI gM 107 77 = -nI 1 := by rw [← hG]; simp (disch := omega) only [hI_ne, hI_at]
  have M80 : hI gM 107 80 = nI 0 := by rw [← hG]; simp (disch := omega) only [hI_ne, hI_at]
  have M82 : hI gM 107 82 = nI 0 := by rw [← hG]; simp (disch := omega) only [hI_at]
  have E8 : hI gE 0 8 = nI 0 := by rw [← hE]; simp (disch := omega) only [hI_ne, hI_at]
  have E90 : hI gE 90 0 = nI 0 := by rw [← hE]; simp (disch := omega) only [hI_ne, hI_at]
  have E97 : hI gE 97 0 = nI 0 := by rw [← hE]; simp (disch := omega) only [hI_ne, hI_at]
  have E971 : hI gE 97 1 = -nI 1 := by rw [← hE]; simp (disch := omega) only [hI_at]
  have cE : ∀ a i, a ≠ 0 → ¬ (72 ≤ a ∧ a ≤ 76) → a ≠ 90 → a ≠ 97 → hI gE a i = hI hc' a i := fun a i z1 z2 z3 z4 => by
    rw [EI _ _ (by omega), b7 _ _ (by omega), AI _ _ (by omega)]
  have cR : ∀ a i, ¬ (a = 0 ∧ (i = 3 ∨ i = 4)) → ¬ (a = 72 ∧ i = 0) → hR gE a i = hR hc' a i := fun a i z1 z2 => by
    rw [ER, b9 _ _ z2, AR _ _ z1]
  have mE : ∀ a i, ¬ (111 ≤ a ∧ a < 133) → ¬ (a = 107 ∧ ((12 ≤ i ∧ i ≤ 18) ∨ 68 ≤ i)) → ¬ (137 ≤ a ∧ a ≤ 143) → hI gM a i = hI hm' a i := fun a i z1 z2 z3 => by
    rw [MI _ _ (by omega), b10.1 _ _ (by omega), kO _ _ (by omega) (by omega)]
  obtain ⟨n0, p, u1, u2, u3, u4, -⟩ := sU
  refine ⟨nI j, gE, gM, ?_, ?_, ⟨X, T', ⟨hX, by rw [ER, b9 _ _ (by omega)]; exact A3, ?_, F', ?_, ?_, ⟨0, by decide, ?_, ?_, fun i hi => absurd hi (Nat.not_lt_zero _)⟩, ⟨?_, ?_⟩, ⟨fun S' h' => ?_, fun i hi => ?_, fun i h1 h2 => ?_⟩, fun i hi => ?_⟩, ?_, ⟨0, p, by decide, u2, E90, ?_, M80, fun j hj => absurd hj (Nat.not_lt_zero _), fun j hj => absurd hj (Nat.not_lt_zero _)⟩, ⟨0, by decide, E8, M82, fun z => absurd z (by decide)⟩, ⟨0, by decide, E97, M76, E971.trans M77.symm, Or.inl E971, fun k hk => absurd hk (Nat.not_lt_zero _)⟩⟩, ?_, ?_⟩
  · unfold fX9_text_62
    simp (disch := omega) only [h14, e15, e1, lit, ↓reduceIte]
    have d4 : dref shp (uI (uI hc' 0 1 (nI 0)) 0 2 (-nI 1)) 0 4 (7, 20) = some X := dref_of (show hR hc' 0 4 = some X by rw [hr _ _ (by decide), t2, hXS]) (sS hX)
    have d3 : dref shp (uI (uI hc' 0 1 (nI 0)) 0 2 (-nI 1)) 0 3 (7, 20) = some S := dref_of (show hR hc' 0 3 = some S by rw [hr _ _ (by decide), t1]) (sS hS)
    have d5 : dref shp gA 0 3 (7, 20) = some X := dref_of A3 (sS hX)
    have d6 : dref shp gE 0 3 (7, 20) = some X := dref_of (by rw [ER, b9 _ _ (by omega)]; exact A3) (sS hX)
    simp only [d4, bind_some', d3, hA, d5, b1, fX4_clear, fX2_clear, lit, hE, d6]
    rw [cE _ _ (by omega) (by omega) (by omega) (by omega), h19]
  · have l64 : (hI hL 111 1).toInt64 = lN (T' 0 8) := by rw [L111]; exact nI_l l8
    have bg : fX10_begin hK = some gM := by
      unfold fX10_begin
      rw [lit 0, b2, bind_some']
      simp (disch := omega) only [lit, inbN, nI_clamp, ↓reduceIte, l64, fX10_plainTried, bind_some']
      rw [hG]
    rw [q1, bg, bind_some', bind_some']
  · rw [ER, b9 _ _ (by omega), A4, hXS]; congr 1; omega
  · exact RSc_lo RA (fun a i z => by
      have r : X ≤ a ∧ a < X + 34 := by unfold crel at z; omega
      rw [EI _ _ (by omega), b7 _ _ (by omega)]) (fun i => by rw [ER, b9 _ _ (by omega)])
  · exact RSm_lo 64 RK (fun a i z => by
      have z2 : (a = 107 ∧ 12 ≤ i ∧ i ≤ 18) ∨ (111 ≤ a ∧ a < 133) := by unfold mrel at z; omega
      rw [MI _ _ (by omega), b10.1 _ _ (by omega)]) (fun _ _ _ _ _ h => h)
  · rw [cE _ _ (by decide) (by decide) (by decide) (by decide)]; exact c1
  · rw [mE _ _ (by decide) (by omega) (by decide)]; exact m1
  · rw [EI _ _ (by omega), b7 _ _ (by omega), A1, mE _ _ (by decide) (by omega) (by decide)]; exact f4.symm
  · rw [EI _ _ (by omega), b7 _ _ (by omega), A2, mE _ _ (by decide) (by omega) (by decide)]; exact f5.symm
  · obtain ⟨g1, g2, g3, g4⟩ := kc1 S' h'
    have x2 : S' = 1 ∨ S' = 35 := h'
    refine ⟨?_, ?_, ?_, fun w hw => ?_⟩
    · rw [cE _ _ (by omega) (by omega) (by omega) (by omega), eC _ _ (by omega) (nf _ _ (by omega) (by omega))]; exact g1
    · rw [cE _ _ (by omega) (by omega) (by omega) (by omega), eC _ _ (by omega) (nf _ _ (by omega) (by omega))]; exact g2
    · rw [cE _ _ (by omega) (by omega) (by omega) (by omega), eC _ _ (by omega) (nf _ _ (by omega) (by omega))]; exact g3
    · rw [cR _ _ (by omega) (by omega), hr _ _ (by omega)]; exact g4 w hw
  · rw [cE _ _ (by omega) (by omega) (by omega) (by omega), eC _ _ (by omega) (nf _ _ (by omega) (by omega))]; exact kc2 i hi
  · rw [cE _ _ (by omega) (by omega) (by omega) (by omega), eC _ _ (by omega) (nf _ _ (by omega) (by omega))]; exact kc3 i h1 h2
  · rw [mE _ _ (by omega) (by omega) (by omega)]; exact km' i hi
  · have w0 : StW hC gM X T' := ⟨?_, b4, T' 0 8, l8, b6, M67⟩
    · exact StW_ag F' w0 (fun a i h1 h2 => EI _ _ (by omega)) (ER _ _) (fun _ _ _ => rfl) rfl
    · obtain ⟨w1, w2, w3, w4, w5, ⟨sh, w6, w7, w8⟩, w9, w10⟩ := b3
      refine ⟨w1, ?_, w3, ?_, ?_, ⟨sh, w6, w7, ?_⟩, ?_, ?_⟩
      · intro i hi; rw [MI _ _ (by omega)]; exact w2 i hi
      · intro i hi; rw [MI _ _ (by omega)]; exact w4 i hi
      · intro i hi; rw [MI _ _ (by omega), MI _ _ (by omega)]; exact w5 i hi
      · intro i hi; rw [MI _ _ (by omega)]; exact w8 i hi
      · rw [MI _ _ (by omega)]; exact w9
      · rw [MI _ _ (by omega)]; exact w10
  · rw [EI _ _ (by omega), b7 _ _ (by omega), AI _ _ (by omega), eC _ _ (by omega) (nf _ _ (by omega) (by omega))]; exact u4
  · refine ⟨fun a i z => ?_, fun a i z => ?_, fun a i z => ?_⟩
    · rw [cE _ _ (by omega) (by omega) (by omega) (by omega), eC _ _ (by omega) (nf _ _ (by omega) (by omega))]
    · rw [EJ, b8, AJ]; exact cj a i
    · rw [cR _ _ (by omega) (by omega), hr _ _ (by omega)]
  · refine ⟨fun a i z => ?_, fun a i z => ?_, fun a i => ?_⟩
    · rw [mE _ _ (by omega) (by omega) (by omega), eM _ _ (nm _ _ (by omega)).1 (nm a i (by omega)).2]
    · rw [MJ _ _ (by omega), b10.2.1 _ _ (fun z => z), q2.2.2.1]; exact mj a i
    · rw [MR, b10.2.2, q2.2.2.2]; exact mr a i
theorem s_text {hc hm : Hp} {S : Nat} {T : Tx} (x : Int32) (s : R2 hc hm S T) : Ok2 hc hm (fX9_text hc x) (fX10_text hm x) := by
  obtain ⟨⟨hS, t1, t2, F, Rc, Rm, ⟨k0, k1, c1, m1, tp⟩, -, ⟨kc1, kc2, kc3⟩, km⟩, sW, sU, sI, sM⟩ := id s
  have x0 : S = 1 ∨ S = 35 := hS
  have m1' : hI (uI hm 107 2 (nI 0)) 107 1 = nI k0 := (hI_ne (by omega)).trans m1
  by_cases q0 : x < nI 0
  · refine ok_same s (v := -nI 2) (x := nI 0) ?_ ?_
    · unfold fX9_text; simp only [lit, q0, ↓reduceIte]
    · unfold fX10_text; simp only [lit, q0, ↓reduceIte]
  · obtain ⟨n, hn, rfl⟩ := nI_of (show ¬ x < 0 from q0)
    by_cases q1 : n ≤ k0
    · obtain ⟨X, hXS⟩ : ∃ X, X = 36 - S := ⟨_, rfl⟩
      have hX : isS X := by
        show X = 1 ∨ X = 35
        omega
      have x1 : X = 1 ∨ X = 35 := hX
      have n7 : n ≤ 700 := by omega
      rw [← hXS] at t2
      have dX : dref shp hc 0 4 (7, 20) = some X := dref_of t2 (sS hX)
      -- the class begins
      obtain ⟨h2, a1, a2, a3, a4, a5, a6, a7⟩ := x_clr (h := uR (uI (uI hc 69 3 (nI n)) 69 1 (nI 0)) 69 4 (some X)) hX (fun w hw => by
        rw [hR_ne (by omega)]
        exact (kc1 X hX).2.2.2 w hw)
      have e2 : ∀ a i, ¬ (X ≤ a ∧ a < X + 34 ∧ ¬ (i = 1 ∧ (a = X + 2 ∨ a = X + 12 ∨ a = X + 16))) → ¬ (a = 69 ∧ (i = 1 ∨ i = 3)) → hI h2 a i = hI hc a i := fun a i z1 z2 => by
        rw [a7.1 _ _ z1]
        show hI (uI (uI hc 69 3 (nI n)) 69 1 (nI 0)) a i = _
        rw [hI_ne (by omega), hI_ne (by omega)]
      have e21 : hI h2 69 1 = nI 0 := by
        rw [a7.1 _ _ (by omega)]
        show hI (uI (uI hc 69 3 (nI n)) 69 1 (nI 0)) 69 1 = _
        exact hI_at ⟨rfl, rfl⟩
      have e23 : hI h2 69 3 = nI n := by
        rw [a7.1 _ _ (by omega)]
        show hI (uI (uI hc 69 3 (nI n)) 69 1 (nI 0)) 69 3 = _
        rw [hI_ne (by omega), hI_at ⟨rfl, rfl⟩]
      generalize hh3 : uI (uI (uI (uI h2 69 6 (nI 0)) 69 8 (nI 0)) 69 14 (nI 0)) 69 15 (-nI 1) = h3
      have e3 : ∀ a i, ¬ (a = 69 ∧ 6 ≤ i ∧ i ≤ 15) → hI h3 a i = hI h2 a i := fun a i z => by
        rw [← hh3]; simp (disch := omega) only [hI_ne]
      have e36 : hI h3 69 6 = nI 0 := by rw [← hh3]; simp (disch := omega) only [hI_ne, hI_at]
      have e314 : hI h3 69 14 = nI 0 := by rw [← hh3]; simp (disch := omega) only [hI_ne, hI_at]
      have e315 : hI h3 69 15 = -nI 1 := by rw [← hh3]; simp (disch := omega) only [hI_at]
      have r3 : ∀ a i, hR h3 a i = hR h2 a i := fun a i => by rw [← hh3]; rfl
      have j3 : ∀ a i, hJ h3 a i = hJ h2 a i := fun a i => by rw [← hh3]; rfl
      -- the reference begins
      generalize hg1 : uI (uI (uI (uI (uI (uI hm 107 2 (nI 0)) 107 6 (nI n)) 107 1 (nI 0)) 107 4 (nI 0)) 107 5 (-nI 1)) 107 7 (nI 0) = g1
      have eg : ∀ a i, ¬ (a = 107 ∧ i < 12) → hI g1 a i = hI hm a i := fun a i z => by
        rw [← hg1]; simp (disch := omega) only [hI_ne]
      have g11 : hI g1 107 1 = nI 0 := by rw [← hg1]; simp (disch := omega) only [hI_ne, hI_at]
      have g14 : hI g1 107 4 = nI 0 := by rw [← hg1]; simp (disch := omega) only [hI_ne, hI_at]
      have g15 : hI g1 107 5 = -nI 1 := by rw [← hg1]; simp (disch := omega) only [hI_ne, hI_at]
      have g16 : hI g1 107 6 = nI n := by rw [← hg1]; simp (disch := omega) only [hI_ne, hI_at]
      have g17 : hI g1 107 7 = nI 0 := by rw [← hg1]; simp (disch := omega) only [hI_at]
      have rg : ∀ a i, hR g1 a i = hR hm a i := fun a i => by rw [← hg1]; rfl
      have jg : ∀ a i, hJ g1 a i = hJ hm a i := fun a i => by rw [← hg1]; rfl
      obtain ⟨g2, b1, b2, b3, b4, b5, b6⟩ := m_plainT g1
      have b7 : ∀ i, i < 12 → hI g2 107 i = hI g1 107 i := fun i hi => b6.1 _ _ (fun z => z.2 ⟨rfl, hi⟩)
      have b8 : ∀ a i, a = 108 ∨ a = 109 → hI g2 a i = hI hm a i := fun a i z => by
        rw [b6.1 _ _ (fun y => by have := y.1; unfold fmX at this; omega), eg _ _ (by omega)]
      have RT0 : RTp h3 g2 (fun i => (hI hm 108 i).toNatClampNeg) n := by
        refine ⟨⟨n7, fun i hi => ?_⟩, ⟨n7, fun i hi => ?_⟩, by rw [e3 _ _ (by omega)]; exact e23, by rw [b7 _ (by decide)]; exact g16, fun i hi => ?_, fun i hi => ?_, e315, by rw [b7 _ (by decide)]; exact g14, by rw [b7 _ (by decide)]; exact g15⟩
        · obtain ⟨bb, y1, y2, y3⟩ := tp i (by omega)
          show (hI hm 108 i).toNatClampNeg < 256 ∧ hI h3 70 i = (nI (hI hm 108 i).toNatClampNeg).toInt8.toInt32
          rw [y2, nI_clamp (by omega), e3 _ _ (by omega), e2 _ _ (by omega) (by omega)]
          exact ⟨y1, y3⟩
        · obtain ⟨bb, y1, y2, y3⟩ := tp i (by omega)
          show (hI hm 108 i).toNatClampNeg < 256 ∧ hI g2 108 i = nI (hI hm 108 i).toNatClampNeg
          rw [b8 _ _ (by decide), y2, nI_clamp (by omega)]
          exact ⟨y1, rfl⟩
        · rw [e3 _ _ (by omega), e2 _ _ (by omega) (by omega)]; exact kc2 i hi
        · rw [b8 _ _ (by decide)]; exact km i hi
      obtain ⟨hc4, hm4, k, v, s4, q4, d1, d2, d3, d4, d5, d6, d7⟩ := s_next RT0 e36 (by rw [b7 _ (by decide)]; exact g17) (Nat.zero_le _)
      have R4 : RD hc4 hm4 X T0 (fun i => (hI hm 108 i).toNatClampNeg) n := by
        obtain ⟨y1, y2, y3, -⟩ := kc1 X hX
        refine ⟨⟨hX, ?_, ?_, by rw [d3.1 _ _ (by omega)]; exact e314⟩, ⟨WFT_0, ?_, ?_⟩, ⟨?_, ?_, ?_⟩, ?_, fun w hw z => absurd z (by show ¬ 0 = 1; decide)⟩
        · rw [d3.2.2, r3, a7.2.2]; exact hR_at ⟨rfl, rfl⟩
        · exact RTp_fr RT0 (fun i hi => d3.1 _ _ (by omega)) (fun i => d3.1 _ _ (by omega)) (fun i => d3.1 _ _ (by omega)) (fun i hi => d4.1 _ _ (by omega)) (fun i => d4.1 _ _ (by omega)) (fun i => d4.1 _ _ (by omega))
        · exact RSc_lo a2 (fun a i z => by
            have r : X ≤ a ∧ a < X + 34 := by unfold crel at z; omega
            rw [d3.1 _ _ (by omega), e3 _ _ (by omega)]) (fun i => by rw [d3.2.2, r3])
        · exact RSm_lo 64 b2 (hup_lo (by decide) WFT_0 (fun a i z => d4.1 _ _ (fun y => z (Or.inl (Or.inl (by omega)))))) (fun _ _ _ _ _ h => h)
        · rw [d3.1 _ _ (by omega), e3 _ _ (by omega), e2 _ _ (by omega) (by omega)]; exact y1
        · rw [d3.1 _ _ (by omega), e3 _ _ (by omega), e2 _ _ (by omega) (by omega)]; exact y2
        · rw [d3.1 _ _ (by omega), e3 _ _ (by omega), e2 _ _ (by omega) (by omega)]; exact y3
        · rw [d4.1 _ _ (by omega)]; exact b5
      have Q4 : RQ hc4 hm4 X := by
        refine ⟨⟨0, 0, by decide, by decide, ?_, ?_, ?_, ?_⟩, fun w hw _ => ?_⟩
        · rw [d3.1 _ _ (by omega), e3 _ _ (by omega)]; exact a3
        · rw [d3.1 _ _ (by omega), e3 _ _ (by omega)]; exact a4
        · rw [d4.1 _ _ (by omega)]; exact b3
        · rw [d4.1 _ _ (by omega)]; exact b4
        · rw [d3.1 _ _ (by omega), e3 _ _ (by omega)]; exact a5 w hw
      obtain ⟨hc', hm', fc, fm, rc, tl⟩ := t_loop n7 (n - s4) 0 FU FU hc4 hm4 T0 k v s4 q4 (Nat.le_refl _) (Nat.zero_le _) (by unfold FU; omega) (by unfold FU; omega) R4 Q4 d5 (by rw [d3.1 _ _ (by omega), e3 _ _ (by omega)]; exact a6)
      -- what has changed
      have eC : ∀ a i, a ≠ 69 → ¬ fcX X a i → hI hc' a i = hI hc a i := fun a i z1 z2 => by
        rw [fc.1 _ _ z2, d3.1 _ _ (by omega), e3 _ _ (by omega), e2 _ _ (fun z => z2 (Or.inr z)) (by omega)]
      have hr : ∀ a i, a ≠ 69 → hR hc' a i = hR hc a i := fun a i z => by
        rw [fc.2.2 _ _ z, d3.2.2, r3, a7.2.2, hR_ne (by omega)]; rfl
      have eM : ∀ a i, ¬ fmX a i → ¬ (a = 107 ∧ i < 12) → hI hm' a i = hI hm a i := fun a i z1 z2 => by
        rw [fm.1 _ _ z1, d4.1 _ _ (by omega), b6.1 _ _ (fun z => z1 z.1), eg _ _ z2]
      have mr : ∀ a i, hR hm' a i = hR hm a i := fun a i => by rw [fm.2.2, d4.2.2, b6.2.2, rg]
      have cj : ∀ a i, hJ hc' a i = hJ hc a i := fun a i => by
        rw [fc.2.1, d3.2.1 _ _ (fun z => z), j3, a7.2.1 _ _ (fun z => z)]; rfl
      have mj : ∀ a i, hJ hm' a i = hJ hm a i := fun a i => by rw [fm.2.1 _ _ (fun z => z), d4.2.1 _ _ (fun z => z), b6.2.1 _ _ (fun z => z), jg]
      have c1' : hI hc' 69 1 = nI 0 := by
        rw [fc.1 _ _ (by unfold fcX; omega), d3.1 _ _ (by omega), e3 _ _ (by omega)]; exact e21
      have m1'' : hI hm' 107 1 = nI 0 := by
        rw [fm.1 _ _ (by unfold fmX; omega), d4.1 _ _ (by omega), b7 _ (by decide)]; exact g11
      have LC : fX9_text hc (nI n) = fX9_text_62 hc' := by
        rw [← rc]
        unfold fX9_text fX5_begin
        have dR : dref shp (uR (uI (uI hc 69 3 (nI n)) 69 1 (nI 0)) 69 4 (some X)) 69 4 (7, 20) = some X := dref_of (hR_at ⟨rfl, rfl⟩) (sS hX)
        simp (disch := omega) only [lit, ltF, ↓reduceIte, c1, leT, dX, bind_some', dR, a1, hh3, d1]
      have LM : fX10_text hm (nI n) = fX10_text_55 FU hm4 (nI 0) := by
        unfold fX10_text
        simp (disch := omega) only [lit, ltF, ↓reduceIte, m1', leT, hg1, b1, bind_some', d2]
      rw [LC, LM]
      rcases tl with ⟨l1, e, y1, y2, y3, y4, y5⟩ | ⟨T', j, l1, l2, l3, l4⟩
      · rw [l1]
        refine ⟨-nI 1, uI (uI hc' 0 1 (nI e)) 0 2 (hI hc' 69 15), hm', ?_, rfl, ⟨S, T, R2_bad s (fun a i z1 z2 z3 => ?_) (fun a i z => hr a i z) eM mj ?_ m1'' ?_ ?_⟩, ?_, ?_⟩
        · have ee : hI (uI hc' 0 1 (nI e)) 69 15 = hI hc' 69 15 := hI_ne (by omega)
          have e01 : hI (uI (uI hc' 0 1 (nI e)) 0 2 (hI hc' 69 15)) 0 1 = nI e := by rw [hI_ne (by omega), hI_at ⟨rfl, rfl⟩]
          unfold fX9_text_62
          simp (disch := omega) only [y3, ee, e01, lit, eqF, ↓reduceIte]
        · rw [hI_ne (by omega), hI_ne (by omega)]
          rw [← hXS] at z3
          exact eC a i z1 z3
        · rw [hI_ne (by omega), hI_ne (by omega)]; exact c1'
        · rw [hI_ne (by omega), hI_at ⟨rfl, rfl⟩]; exact y4.symm
        · rw [hI_at ⟨rfl, rfl⟩]; exact y5
        · refine ⟨fun a i z => ?_, fun a i z => cj a i, fun a i z => hr a i (by omega)⟩
          rw [hI_ne (by omega), hI_ne (by omega)]
          exact eC a i (by omega) (by unfold fcX; omega)
        · exact ⟨fun a i z => eM a i (by unfold fmX; omega) (by omega), fun a i z => mj a i, mr⟩
      · rw [l4]
        exact t_good s hXS eC hr eM mr cj mj c1' m1'' l2 l3
    · refine ok_same s (v := -nI 2) (x := nI 0) ?_ ?_
      · unfold fX9_text; simp (disch := omega) only [lit, ltF, ↓reduceIte, c1, leF]
      · unfold fX10_text; simp (disch := omega) only [lit, ltF, ↓reduceIte, m1', leF]
