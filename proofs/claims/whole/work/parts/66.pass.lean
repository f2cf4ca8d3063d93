/-! A night as a whole, both sides. -/
def PcL (W a i : Nat) : Prop := (a = W ∧ 2 ≤ i ∧ i ≤ 4) ∨ (W < a ∧ a < W + 5)
def FC2 (W : Nat) (h h' : Hp) : Prop := Fr (PcL W) (fun a _ => PcJ W a) h h'
def FM2 (b : Nat) (h h' : Hp) : Prop := Fr (PmK b) PmJ h h'
theorem FC2_RSc {h h' : Hp} {S W : Nat} {T : Tx} (hS : isS S) (hW : isW W) (R : RSc h S T) (f : FC2 W h h') : RSc h' S T :=
  RSc_Fr hS R f (fun a i h1 h2 q => by have := Wge hW; unfold PcL at q; omega)
theorem FM2_RSm {h h' : Hp} {b : Nat} {T : Tx} (R : RSm h T) (f : FM2 b h h') : RSm h' T :=
  RSm_Fr R f (fun a i h1 q => by unfold PmK at q; omega)
theorem RW_fs {hc hm hc' hm' : Hp} {S W b k n sh : Nat} {T : Tx} (hW : isW W) (hT5 : T 0 2 ≤ 5) (w : RW hc hm S W b T) (hk : k < T 0 2) (hn : n ≤ 99) (hsh : sh < 2 ^ T 0 2) (f1 : Fr (fun a i => (a = W ∧ (i = 2 ∨ i = 4)) ∨ (a = W + 1 ∧ i = k)) (fun _ _ => False) hc hc') (f2 : Fr (fun a i => (a = 137 ∨ a = 138) ∧ i = 5 * b + k) PmJ hm hm') (c1 : hI hc' (W + 1) k = nI n) (c2 : hI hc' W 2 = nI sh) (m1 : hI hm' 137 (5 * b + k) = nI n) (m2 : hI hm' 138 (5 * b + k) = nI (bn sh k)) (hs2 : ∀ i, i < 5 → i ≠ k → hI hm 138 (5 * b + i) = nI (bn sh i)) : RW hc' hm' S W b T := by
  have hW' := Wge hW
  obtain ⟨w1, w2, w3, w4, w5, -, w9, w10⟩ := w
  refine ⟨by rw [f1.2.2]; exact w1, ?_, ?_, ?_, ?_, ⟨sh, hsh, c2, ?_⟩, ?_, ?_⟩
  · intro i hi
    by_cases q : i = k
    · subst q; exact ⟨n, hn, c1, m1⟩
    · rw [f1.1 _ _ (by omega), f2.1 _ _ (by omega)]; exact w2 i hi
  · intro i hi h2
    rw [f1.1 _ _ (by omega)]; exact w3 i hi h2
  · intro i hi
    rw [f1.1 _ _ (by omega), f2.1 _ _ (by omega)]; exact w4 i hi
  · intro i hi
    rw [f1.1 _ _ (by omega), f1.1 _ _ (by omega), f2.1 _ _ (by omega), f2.1 _ _ (by omega)]; exact w5 i hi
  · intro i hi
    by_cases q : i = k
    · subst q; exact m2
    · rw [f2.1 _ _ (by omega)]; exact hs2 i hi q
  · rw [f1.1 _ _ (by omega), f2.1 _ _ (by omega)]; exact w9
  · rw [f1.1 _ _ (by omega), f2.1 _ _ (by omega)]; exact w10
/-- nothing drawn, nothing of the numbers changed -/
def Dr (W : Nat) (hc hm hc' hm' : Hp) : Prop := hI hm 107 68 = nI 0 → hJ hm' 107 67 = hJ hm 107 67 ∧ hI hc' W 4 = hI hc W 4
theorem s_dampen {S W b : Nat} {T : Tx} (hS : isS S) (hW : isW W) (hb : b ≤ 1) (F : WFT T) : ∀ (d k fu fu' : Nat) (hc hm : Hp), k + d = T 0 2 → d < fu → d < fu' → RSc hc S T → RSm hm T → RW hc hm S W b T → RG hc hm W → ∃ hc' hm', fX8_dampenStraw_2 fu W hc (nI k) = some hc' ∧ fX10_nightGoes_165 fu' hm (nI b) (nI k) = some (uI hm' 143 b (hI hm' 143 b + nI 1)) ∧ RW hc' hm' S W b T ∧ RG hc' hm' W ∧ FC2 W hc hc' ∧ FM2 b hm hm' ∧ Dr W hc hm hc' hm'
  | 0, k, fu + 1, fu' + 1, hc, hm, hk, _, _, Rc, Rm, w, g => by
    have e : k = T 0 2 := by omega
    have hs5 := F.1.2.2.1
    refine ⟨hc, hm, ?_, ?_, w, g, Fr.rf, Fr.rf, fun _ => ⟨rfl, rfl⟩⟩
    · rw [fX8_dampenStraw_2, dref_of w.1 (sS hS)]
      simp (disch := omega) only [bind_some', rS1 hS, Rc.1.2.2.1, ↓reduceIte, leT, leF]
    · rw [fX10_nightGoes_165]
      simp (disch := omega) only [lit, Rm.1.2.2.1, ↓reduceIte, leT, leF, inbN, nI_clamp]
  | d + 1, k, fu + 1, fu' + 1, hc, hm, hk, hf, hf', Rc, Rm, w, g => by
    have hs5 := F.1.2.2.1
    have hW' := Wge hW
    have hkl : k < T 0 2 := by omega
    have e0 := dref_of (q := (7, 20)) w.1 (sS hS)
    have w0 := w
    obtain ⟨w1, w2, w3, w4, w5, ⟨sh, w6, w7, w8⟩, w9, w10⟩ := w0
    have hsh : sh < 2 ^ 31 := Nat.lt_of_lt_of_le w6 (Nat.pow_le_pow_right (by decide) (by omega))
    have w8' := w8 k (by omega)
    rw [fX8_dampenStraw_2, fX10_nightGoes_165]
    by_cases qs : sh.testBit k = true
    · have hb1 : bn sh k = 1 := by unfold bn; rw [if_pos qs]
      rw [hb1] at w8'
      obtain ⟨hc', hm', a1, a2, a3⟩ := s_dampen hS hW hb F d (k + 1) fu fu' hc hm (by omega) (by omega) (by omega) Rc Rm w g
      refine ⟨hc', hm', ?_, ?_, a3⟩
      · simp (disch := omega) only [lit, e0, bind_some', rS1 hS, Rc.1.2.2.1, ↓reduceIte, leT, leF, w7, shr1F, qs, Bool.true_eq_false, fX8_dampenStraw_78, nI_add]
        exact a1
      · simp (disch := omega) only [lit, Rm.1.2.2.1, ↓reduceIte, leT, leF, eqF, pk_mul, nI_add, inbN, nI_clamp, w8', fX10_nightGoes_237]
        exact a2
    · have qs' : sh.testBit k = false := by simpa using qs
      have hb0 : bn sh k = 0 := by unfold bn; rw [if_neg qs]
      rw [hb0] at w8'
      obtain ⟨n, n1, n2, n3⟩ := w2 k hkl
      obtain ⟨v, hc1, hm1, v1, v2, v3, v4, v5, v6, v7⟩ := s_damp hS hW F Rc Rm w1 g
      have ei : ∀ a i, ¬ (a = W ∧ i = 4) → hI hc1 a i = hI hc a i := fun a i q => v5.1 a i q
      have ej : ∀ a i, hI hm1 a i = hI hm a i := fun a i => v6.1 a i (fun q => q)
      -- how full, in the shed or not
      have key : ∀ hc2 hm2 : Hp, Fr (fun a i => (a = W ∧ (i = 2 ∨ i = 4)) ∨ (a = W + 1 ∧ i = k)) (fun _ _ => False) hc1 hc2 → Fr (fun a i => (a = 137 ∨ a = 138) ∧ i = 5 * b + k) PmJ hm1 hm2 → hI hc2 W 4 = hI hc1 W 4 → hJ hm2 107 67 = hJ hm1 107 67 → hI hc2 (W + 1) k = nI (n - v) → hI hc2 W 2 = nI (if n - v = 0 then sh ||| 2 ^ k else sh) → hI hm2 137 (5 * b + k) = nI (n - v) → hI hm2 138 (5 * b + k) = nI (if n - v = 0 then 1 else 0) → ∃ hc' hm', fX8_dampenStraw_2 fu W hc2 (nI (k + 1)) = some hc' ∧ fX10_nightGoes_165 fu' hm2 (nI b) (nI (k + 1)) = some (uI hm' 143 b (hI hm' 143 b + nI 1)) ∧ RW hc' hm' S W b T ∧ RG hc' hm' W ∧ FC2 W hc hc' ∧ FM2 b hm hm' ∧ Dr W hc hm hc' hm' := by
        intro hc2 hm2 g1 g2 g3 g4 g5 g6 g7 g8
        have hshk : sh ||| 2 ^ k < 2 ^ T 0 2 := Nat.or_lt_two_pow w6 (Nat.pow_lt_pow_right (by decide) hkl)
        have t1 : Fr (fun a i => (a = W ∧ (i = 2 ∨ i = 4)) ∨ (a = W + 1 ∧ i = k)) (fun _ _ => False) hc hc2 := (v5.mono (fun a i q => Or.inl ⟨q.1, Or.inr q.2⟩) (fun _ _ q => q)).tr g1
        have t2 : Fr (fun a i => (a = 137 ∨ a = 138) ∧ i = 5 * b + k) PmJ hm hm2 := (v6.mono (fun _ _ q => q.elim) (fun _ _ q => Or.inl q)).tr g2
        have w2' : RW hc2 hm2 S W b T := by
          refine RW_fs (n := n - v) (sh := if n - v = 0 then sh ||| 2 ^ k else sh) hW hs5 w hkl (by omega) (by split; exact hshk; exact w6) t1 t2 g5 g6 g7 ?_ ?_
          · rw [g8]
            by_cases q : n - v = 0
            · rw [if_pos q, if_pos q]; unfold bn; rw [Nat.testBit_or, tb_pow]; simp
            · rw [if_neg q, if_neg q, hb0]
          · intro i hi hik
            rw [w8 i hi]
            by_cases q : n - v = 0
            · rw [if_pos q]; unfold bn; rw [Nat.testBit_or, tb_pow]
              have : ¬ k = i := fun z => hik z.symm
              simp [this]
            · rw [if_neg q]
        have u1 : FC2 W hc hc2 := t1.mono (fun a i q => by unfold PcL; omega) (fun _ _ q => q.elim)
        have u2 : FM2 b hm hm2 := t2.mono (fun a i q => by unfold PmK; omega) (fun _ _ q => q)
        have gg : RG hc2 hm2 W := RG_Fr v4 (fun i hi => by
          rcases hi with rfl | hi
          · exact g3
          · exact g1.1 _ _ (by omega)) (fun i h1 h2 => g2.1 _ _ (by omega)) g4
        obtain ⟨hc', hm', a1, a2, a3, a4, a5, a6, a7⟩ := s_dampen hS hW hb F d (k + 1) fu fu' hc2 hm2 (by omega) (by omega) (by omega) (FC2_RSc hS hW Rc u1) (FM2_RSm Rm u2) w2' gg
        refine ⟨hc', hm', a1, a2, a3, a4, Fr.tr u1 a5, Fr.tr u2 a6, fun z => ?_⟩
        obtain ⟨z1, z2⟩ := v7 z
        obtain ⟨z3, z4⟩ := a7 (by rw [u2.1 _ _ (by unfold PmK; omega)]; exact z)
        exact ⟨by rw [z3, g4, z1], by rw [z4, g3, z2]⟩
      -- the class's place for full
      have cf : ∃ hc2, (if n - v = 0 then fX8_dampenStraw_2 fu W (uI hc2 W 2 (nI (sh ||| 2 ^ k))) (nI (k + 1)) else fX8_dampenStraw_2 fu W hc2 (nI (k + 1))) = (bnd (some (nI v, hc1)) (fun v_6 h_7 => if v_6 = nI 0 then fX8_dampenStraw_57 W (fX8_dampenStraw_2 fu W) h_7 (nI k) else (if inb (nI k) 5 then (if inb (nI k) 5 then fX8_dampenStraw_57 W (fX8_dampenStraw_2 fu W) (uI h_7 (rf W 5) (nI k).toNatClampNeg (if nI 0 < (hI h_7 (rf W 5) (nI k).toNatClampNeg) - nI 1 then (hI h_7 (rf W 5) (nI k).toNatClampNeg) - nI 1 else nI 0)) (nI k) else none) else none))) ∧ Fr (fun a i => (a = W ∧ (i = 2 ∨ i = 4)) ∨ (a = W + 1 ∧ i = k)) (fun _ _ => False) hc1 hc2 ∧ hI hc2 W 4 = hI hc1 W 4 ∧ hI hc2 (W + 1) k = nI (n - v) ∧ hI hc2 W 2 = nI sh := by
        have s57 : ∀ hh : Hp, hI hh (W + 1) k = nI (n - v) → hI hh W 2 = nI sh → fX8_dampenStraw_57 W (fX8_dampenStraw_2 fu W) hh (nI k) = if n - v = 0 then fX8_dampenStraw_2 fu W (uI hh W 2 (nI (sh ||| 2 ^ k))) (nI (k + 1)) else fX8_dampenStraw_2 fu W hh (nI (k + 1)) := by
          intro hh h1 h2
          unfold fX8_dampenStraw_57 fX8_dampenStraw_78
          simp (disch := omega) only [lit, ↓reduceIte, inbN, nI_clamp, rW5 hW, h1, h2, nI_eqP, shl1, nx_o, nI_add]
        by_cases qv : v = 0
        · subst qv
          refine ⟨hc1, ?_, Fr.rf, rfl, ?_, ?_⟩
          · simp (disch := omega) only [bnd_some, ↓reduceIte]
            rw [s57 hc1 (by rw [ei _ _ (by omega)]; exact n2) (by rw [ei _ _ (by omega)]; exact w7)]
          · rw [ei _ _ (by omega)]; exact n2
          · rw [ei _ _ (by omega)]; exact w7
        · have qv1 : v = 1 := by omega
          subst qv1
          refine ⟨uI hc1 (W + 1) k (nI (n - 1)), ?_, Fr.uI Fr.rf (Or.inr ⟨rfl, rfl⟩), ?_, ?_, ?_⟩
          · have e1 : hI hc1 (W + 1) k = nI n := by rw [ei _ _ (by omega)]; exact n2
            simp (disch := omega) only [bnd_some, ↓reduceIte, eqF, inbN, nI_clamp, rW5 hW, e1, mx0]
            rw [s57 _ (hI_at ⟨rfl, rfl⟩) (by rw [hI_ne (by omega), ei _ _ (by omega)]; exact w7)]
          · rw [hI_ne (by omega)]
          · rw [hI_at ⟨rfl, rfl⟩]
          · rw [hI_ne (by omega), ei _ _ (by omega)]; exact w7
      obtain ⟨hc2, x1, x2, x3, x4, x5⟩ := cf
      -- the reference's
      have mf : ∃ hm2, fX10_nightGoes_165 fu' (uI hm2 138 (5 * b + k) (nI (if n - v = 0 then 1 else 0))) (nI b) (nI (k + 1)) = (bnd (some (nI v, hm1)) (fun v_11 h_12 => if v_11 = nI 0 then fX10_nightGoes_217 (fX10_nightGoes_165 fu') h_12 (nI b) (nI k) (nI (5 * b + k)) else (if inb (nI (5 * b + k)) 10 then (if hI h_12 137 (nI (5 * b + k)).toNatClampNeg ≤ nI 0 then fX10_nightGoes_217 (fX10_nightGoes_165 fu') h_12 (nI b) (nI k) (nI (5 * b + k)) else (if inb (nI (5 * b + k)) 10 then (if inb (nI (5 * b + k)) 10 then fX10_nightGoes_217 (fX10_nightGoes_165 fu') (uI h_12 137 (nI (5 * b + k)).toNatClampNeg (hI h_12 137 (nI (5 * b + k)).toNatClampNeg - nI 1)) (nI b) (nI k) (nI (5 * b + k)) else none) else none)) else none))) ∧ Fr (fun a i => (a = 137 ∨ a = 138) ∧ i = 5 * b + k) PmJ hm1 hm2 ∧ hJ hm2 107 67 = hJ hm1 107 67 ∧ hI hm2 137 (5 * b + k) = nI (n - v) := by
        have s217 : ∀ hh : Hp, hI hh 137 (5 * b + k) = nI (n - v) → fX10_nightGoes_217 (fX10_nightGoes_165 fu') hh (nI b) (nI k) (nI (5 * b + k)) = fX10_nightGoes_165 fu' (uI hh 138 (5 * b + k) (nI (if n - v = 0 then 1 else 0))) (nI b) (nI (k + 1)) := by
          intro hh h1
          unfold fX10_nightGoes_217 fX10_nightGoes_236 fX10_nightGoes_237
          by_cases q : n - v = 0
          · simp (disch := omega) only [lit, ↓reduceIte, inbN, nI_clamp, h1, eqT, isZ1, if_pos q, nI_add]
          · simp (disch := omega) only [lit, ↓reduceIte, inbN, nI_clamp, h1, eqF, isZ0, if_neg q, nI_add]
        have e1 : hI hm1 137 (5 * b + k) = nI n := by rw [ej]; exact n3
        by_cases qv : v = 0
        · subst qv
          refine ⟨hm1, ?_, Fr.rf, rfl, e1⟩
          simp (disch := omega) only [bnd_some, ↓reduceIte]
          rw [s217 hm1 e1]
        · have qv1 : v = 1 := by omega
          subst qv1
          by_cases qn : n = 0
          · subst qn
            refine ⟨hm1, ?_, Fr.rf, rfl, e1⟩
            simp (disch := omega) only [bnd_some, ↓reduceIte, eqF, inbN, nI_clamp, e1, leT]
            rw [s217 hm1 e1]
            rfl
          · refine ⟨uI hm1 137 (5 * b + k) (nI (n - 1)), ?_, Fr.uI Fr.rf ⟨Or.inl rfl, rfl⟩, rfl, hI_at ⟨rfl, rfl⟩⟩
            simp (disch := omega) only [bnd_some, ↓reduceIte, eqF, inbN, nI_clamp, e1, leF, pk_sub]
            rw [s217 _ (hI_at ⟨rfl, rfl⟩)]
      obtain ⟨hm2, y1, y2, y3, y4⟩ := mf
      by_cases q : n - v = 0
      · rw [if_pos q] at x1
        obtain ⟨hc', hm', a1, a2, a3⟩ := key (uI hc2 W 2 (nI (sh ||| 2 ^ k))) (uI hm2 138 (5 * b + k) (nI (if n - v = 0 then 1 else 0))) (x2.uI (Or.inl ⟨rfl, Or.inl rfl⟩)) (y2.uI ⟨Or.inr rfl, rfl⟩) (by rw [hI_ne (by omega)]; exact x3) y3 (by rw [hI_ne (by omega)]; exact x4) (by rw [hI_at ⟨rfl, rfl⟩, if_pos q]) (by rw [hI_ne (by omega)]; exact y4) (by rw [hI_at ⟨rfl, rfl⟩])
        refine ⟨hc', hm', ?_, ?_, a3⟩
        · simp (disch := omega) only [lit, e0, bind_some', rS1 hS, Rc.1.2.2.1, ↓reduceIte, leT, leF, w7, shr1F, qs', v2]
          rw [← x1]; exact a1
        · simp (disch := omega) only [lit, Rm.1.2.2.1, ↓reduceIte, leT, leF, pk_mul, nI_add, inbN, nI_clamp, w8', v3]
          simp (disch := omega) only [↓reduceIte, nI_clamp, inbN] at y1
          rw [← y1]; exact a2
      · rw [if_neg q] at x1
        obtain ⟨hc', hm', a1, a2, a3⟩ := key hc2 (uI hm2 138 (5 * b + k) (nI (if n - v = 0 then 1 else 0))) x2 (y2.uI ⟨Or.inr rfl, rfl⟩) x3 y3 x4 (by rw [if_neg q]; exact x5) (by rw [hI_ne (by omega)]; exact y4) (by rw [hI_at ⟨rfl, rfl⟩])
        refine ⟨hc', hm', ?_, ?_, a3⟩
        · simp (disch := omega) only [lit, e0, bind_some', rS1 hS, Rc.1.2.2.1, ↓reduceIte, leT, leF, w7, shr1F, qs', v2]
          rw [← x1]; exact a1
        · simp (disch := omega) only [lit, Rm.1.2.2.1, ↓reduceIte, leT, leF, pk_mul, nI_add, inbN, nI_clamp, w8', v3]
          simp (disch := omega) only [↓reduceIte, nI_clamp, inbN] at y1
          rw [← y1]; exact a2
theorem s_night0 {hc hm : Hp} {S W b : Nat} {T : Tx} (hS : isS S) (hW : isW W) (hb : b ≤ 1) (F : WFT T) (Rc : RSc hc S T) (Rm : RSm hm T) (w : RW hc hm S W b T) (g : RG hc hm W) : ∃ hc' hm', fX8_passNight W hc = some hc' ∧ fX10_nightGoes hm (nI b) = some hm' ∧ RW hc' hm' S W b T ∧ RG hc' hm' W ∧ FC W hc hc' ∧ FM b hm hm' ∧ Dr W hc hm hc' hm' ∧ hI hc' W 1 = hI hc W 1 + nI 1 := by
  have hW' := Wge hW
  have hs5 := F.1.2.2.1
  have h12 := F.1.2.2.2.2.1
  have h6 := F.1.2.2.2.2.2.1
  have hn : hI hc W 1 = hI hm 143 b := w.2.2.2.2.2.2.1
  have fin : ∀ hc1 hm1 : Hp, RSc hc1 S T → RSm hm1 T → RW hc1 hm1 S W b T → RG hc1 hm1 W → FC1 W hc hc1 → FM1 b hm hm1 → ∃ hc' hm', fX8_passNight_85 W hc1 = some hc' ∧ fX10_nightGoes_165 FU hm1 (nI b) (nI 0) = some hm' ∧ RW hc' hm' S W b T ∧ RG hc' hm' W ∧ FC W hc hc' ∧ FM b hm hm' ∧ Dr W hc hm hc' hm' ∧ hI hc' W 1 = hI hc W 1 + nI 1 := by
    intro hc1 hm1 R1 R2 w1 g1 f1 f2
    obtain ⟨hc2, hm2, a1, a2, a3, a4, a5, a6, a7⟩ := s_dampen hS hW hb F (T 0 2) 0 FU FU hc1 hm1 (by omega) (Nat.lt_of_le_of_lt hs5 (by decide)) (Nat.lt_of_le_of_lt hs5 (by decide)) R1 R2 w1 g1
    obtain ⟨u1, u2, u3, u4, u5, ⟨sh, u6, u7, u8⟩, u9, u10⟩ := a3
    refine ⟨uI hc2 W 1 (hI hc2 W 1 + nI 1), uI hm2 143 b (hI hm2 143 b + nI 1), ?_, a2, ⟨u1, ?_, ?_, ?_, ?_, ⟨sh, u6, ?_, ?_⟩, ?_, ?_⟩, ?_, ?_, ?_, ?_, ?_⟩
    · unfold fX8_passNight_85 fX8_dampenStraw
      simp only [lit, a1, bind_some']
    · intro i hi; rw [hI_ne (by omega), hI_ne (by omega)]; exact u2 i hi
    · intro i hi h2; rw [hI_ne (by omega)]; exact u3 i hi h2
    · intro i hi; rw [hI_ne (by omega), hI_ne (by omega)]; exact u4 i hi
    · intro i hi; rw [hI_ne (by omega), hI_ne (by omega), hI_ne (by omega), hI_ne (by omega)]; exact u5 i hi
    · rw [hI_ne (by omega)]; exact u7
    · intro i hi; rw [hI_ne (by omega)]; exact u8 i hi
    · rw [hI_at ⟨rfl, rfl⟩, hI_at ⟨rfl, rfl⟩, u9]
    · rw [hI_ne (by omega), hI_ne (by omega)]; exact u10
    · exact RG_Fr a4 (fun i hi => hI_ne (by omega)) (fun i h1 h2 => hI_ne (by omega)) rfl
    · exact Fr.uI ((f1.mono (fun a i q => by unfold PcK at q; unfold PcI; omega) (fun _ _ q => q)).tr (a5.mono (fun a i q => by unfold PcL at q; unfold PcI; omega) (fun _ _ q => q))) (by unfold PcI; omega)
    · exact Fr.uI ((f2.mono (fun a i q => by unfold PmK at q; unfold PmI; omega) (fun a i q => Or.inr q)).tr (a6.mono (fun a i q => by unfold PmK at q; unfold PmI; omega) (fun _ _ q => q))) (by unfold PmI; omega)
    · intro z
      obtain ⟨z1, z2⟩ := a7 (by rw [f2.1 _ _ (by unfold PmK; omega)]; exact z)
      exact ⟨by rw [hJ_uI, z1, f2.2.1 _ _ (by omega)], by rw [hI_ne (by omega), z2, f1.1 _ _ (by unfold PcK; omega)]⟩
    · rw [hI_at ⟨rfl, rfl⟩, a5.1 _ _ (by unfold PcL; omega), f1.1 _ _ (by unfold PcK; omega)]
  unfold fX8_passNight fX10_nightGoes
  simp only [lit]
  by_cases q : nI 99 < hI hc W 1
  · rw [if_pos q]
    have q' : nI 99 < hI hm 143 b := by rw [← hn]; exact q
    rw [m_late1 hb F Rm q' (T 0 5) 0 FU (by omega) (Nat.lt_of_le_of_lt h6 (by decide)), m_late2 hb F Rm q' (T 0 4) 0 FU (by omega) (Nat.lt_of_le_of_lt h12 (by decide))]
    exact fin hc hm Rc Rm w g Fr.rf Fr.rf
  · rw [if_neg q]
    obtain ⟨hc1, hm1, a1, a2, a3, a4, a5⟩ := s_stuff hS hW hb F (T 0 5) 0 FU FU hc hm (by omega) (Nat.lt_of_le_of_lt h6 (by decide)) (Nat.lt_of_le_of_lt h6 (by decide)) Rc Rm w
    obtain ⟨hc2, hm2, b1, b2, b3, b4, b5⟩ := s_debates hS hW hb F (T 0 4) 0 FU FU hc1 hm1 (by omega) (Nat.lt_of_le_of_lt h12 (by decide)) (Nat.lt_of_le_of_lt h12 (by decide)) (FC1_RSc hS hW Rc a4) (FM1_RSm Rm a5) a3 (RG_1 g a4 a5)
    have x1 : FC1 W hc hc2 := Fr.tr a4 b4
    have x2 : FM1 b hm hm2 := Fr.tr a5 b5
    unfold fX8_stuffTold
    simp only [lit]
    rw [a1, a2, b2, bind_some', b1]
    exact fin hc2 hm2 (FC1_RSc hS hW Rc x1) (FM1_RSm Rm x2) b3 (RG_1 g x1 x2) x1 x2
theorem s_night {hc hm : Hp} {S W b : Nat} {T : Tx} (hS : isS S) (hW : isW W) (hb : b ≤ 1) (F : WFT T) (Rc : RSc hc S T) (Rm : RSm hm T) (w : RW hc hm S W b T) (g : RG hc hm W) : ∃ hc' hm', fX8_passNight W hc = some hc' ∧ fX10_nightGoes hm (nI b) = some hm' ∧ RW hc' hm' S W b T ∧ RG hc' hm' W ∧ FC W hc hc' ∧ FM b hm hm' ∧ Dr W hc hm hc' hm' := by
  obtain ⟨hc', hm', a1, a2, a3, a4, a5, a6, a7, -⟩ := s_night0 hS hW hb F Rc Rm w g
  exact ⟨hc', hm', a1, a2, a3, a4, a5, a6, a7⟩
