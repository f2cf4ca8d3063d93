/-! held: the claims one by one. -/
section V
variable {S : Nat} {T : Tx}
def MF (hc hm : Hp) (T : Tx) (L K G M : Nat) : Prop := L ≤ 24 ∧ K < 2 ^ 24 ∧ M ≤ 60 ∧ (∀ k, k < L → EnM hc hm T k) ∧ KnF hc hm L K G ∧ fX10_knownBy hm = some (nI L, hm) ∧ ∀ t, K.testBit t = true → ∃ x, x ≤ M ∧ hI hc 98 t = nI x
theorem MF_ag {hc hm hc' hm' : Hp} {L K G M : Nat} (s : MF hc hm T L K G M) (hi : ∀ a i, 98 ≤ a ∧ a ≤ 102 → hI hc' a i = hI hc a i) (mi : ∀ a i, a = 147 ∨ a = 148 ∨ (a = 107 ∧ (i = 76 ∨ i = 77)) → hI hm' a i = hI hm a i) : MF hc' hm' T L K G M := by
  obtain ⟨a1, a2, a3, a4, ⟨a5, a6⟩, a7, a8⟩ := s
  refine ⟨a1, a2, a3, fun k hk => ?_, ⟨fun t ht => ?_, fun t => ?_⟩, ?_, fun t ht => ?_⟩
  · have := a4 k hk
    unfold EnM at this ⊢
    simp (disch := omega) only [hi, mi]
    exact this
  · rw [mi _ _ (by omega)]; exact a5 t ht
  · rw [hi _ _ (by omega)]; exact a6 t
  · have e1 := mi 107 76 (by omega)
    have e2 := mi 107 77 (by omega)
    unfold fX10_knownBy at a7 ⊢
    rw [e1, e2]
    split at a7
    · rename_i q; rw [if_pos q, (Prod.mk.inj (Option.some.inj a7)).1]
    · rename_i q; rw [if_neg q, (Prod.mk.inj (Option.some.inj a7)).1]
  · rw [hi _ _ (by omega)]; exact a8 t ht
/-- the check of a night, both sides -/
theorem s_check {hc hm : Hp} {L K G M n : Nat} (F : WFT T) (w : RW hc hm S 84 1 T) (mf : MF hc hm T L K G M) (hn : n ≤ 60) (hnt : hI hc 84 1 = nI n) : ∃ v, v ≤ 1 ∧ fX2_isBorneOut 84 hc (nI K) = some (nI v, hc) ∧ fX10_isSo hm (nI n) = some (nI v, hm) ∧ (M < n → v = 1) := by
  obtain ⟨a1, a2, a3, a4, a5, a7, a8⟩ := mf
  have h5m := F.1.2.2.2.1
  have hE : ∀ t, K.testBit t = true → ∃ m, m < 5 ∧ hI hc 99 t = nI m := by
    intro t ht
    obtain ⟨z1, z2, z3⟩ := (a5.2 t).mp ht
    rcases a4 t z1 with ⟨-, -, ⟨m, m1, m2, -⟩, -⟩ | ⟨t', y1, y2, -⟩
    · exact ⟨m, by omega, m2⟩
    · rw [y2] at z3; exact absurd z3 (of_eq_false (ne_m1 (by omega)))
  have x := x_bo1 (h := hc) a2 (show n < 2 ^ 31 by omega) hnt hE 24 0 FU rfl (by decide)
  have m := m_so1 (hc := hc) (hm := hm) (T := T) (n := n) a1 h5m (by omega) a4 a5 a7 (fun i hi => by
    have := (w.2.2.2.2.1 i hi).1
    rw [show 5 * 1 + i = 5 + i by omega] at this
    exact this) L 0 FU (by omega) (Nat.lt_of_le_of_lt a1 (by decide))
  have e : allB (fB hc (fun i => hI hc 87 i) K n) 0 24 = allB (fB hc (fun i => hI hc 87 i) K n) 0 L := by
    rw [show (24 : Nat) = L + (24 - L) by omega, allB_app]
    have : allB (fB hc (fun i => hI hc 87 i) K n) (0 + L) (24 - L) = true := allB_all (fun t h1 h2 => by
      unfold fB
      rw [if_neg]
      rintro ⟨z, -⟩
      have := ((a5.2 t).mp z).1
      omega)
    rw [this, Bool.and_true]
  refine ⟨b2n (allB (fB hc (fun i => hI hc 87 i) K n) 0 L), b2n_le _, ?_, ?_, fun z => ?_⟩
  · unfold fX2_isBorneOut; simp only [lit]; rw [x, e]
  · unfold fX10_isSo; simp only [lit]; exact m
  · have : allB (fB hc (fun i => hI hc 87 i) K n) 0 L = true := allB_all (fun t h1 h2 => by
      unfold fB
      rw [if_neg]
      rintro ⟨z1, z2⟩
      obtain ⟨x, x1, x2⟩ := a8 t z1
      have := nI_inj (by omega) (by omega) (x2.symm.trans z2)
      omega)
    rw [this]; rfl
theorem MF_FC {hc hm hc' hm' : Hp} {L K G M : Nat} (s : MF hc hm T L K G M) (f1 : FC 84 hc hc') (f2 : FM 1 hm hm') : MF hc' hm' T L K G M := MF_ag s (fun a i q => f1.1 _ _ (by unfold PcI; omega)) (fun a i q => f2.1 _ _ (by unfold PmI; omega))
/-- the reference goes on to sixty nights -/
theorem m_rest {L K G M : Nat} (hS : isS S) (F : WFT T) : ∀ (d n fu : Nat) (hc hm : Hp), n + d = 61 → d < fu → M < n → 1 ≤ n → RSc hc S T → RSm hm T → RW hc hm S 84 1 T → RG hc hm 84 → hI hm 107 68 = nI 0 → hI hc 84 1 = nI (n - 1) → MF hc hm T L K G M → ∃ hm', fX10_fits_22 fu hm (nI n) = some (nI 1, hm') ∧ AskM hm hm' ∧ ∀ i, hI hm' 148 i = hI hm 148 i
  | 0, n, fu + 1, hc, hm, hn, _, _, _, _, _, _, _, _, _, _ => by
    have e : n = 61 := by omega
    subst e
    refine ⟨hm, ?_, AskM.rf, fun _ => rfl⟩
    rw [fX10_fits_22]; simp (disch := omega) only [lit, ↓reduceIte, ltT]
  | d + 1, n, fu + 1, hc, hm, hn, hf, hM, h1, Rc, Rm, w, g, h0, hnt, mf => by
    obtain ⟨hc1, hm1, a1, a2, a3, a4, a5, a6, a7, a8⟩ := s_night0 hS (Or.inr (Or.inr rfl) : isW 84) (by decide : 1 ≤ 1) F Rc Rm w g
    have hnt1 : hI hc1 84 1 = nI n := by rw [a8, hnt, nI_add, show n - 1 + 1 = n by omega]
    have mf1 := MF_FC mf a5 a6
    obtain ⟨v, v1, -, v3, v4⟩ := s_check (n := n) F a3 mf1 (by omega) hnt1
    have hv := v4 hM
    subst hv
    obtain ⟨hm', b1, b2, b3⟩ := m_rest (M := M) hS F d (n + 1) fu hc1 hm1 (by omega) (by omega) (by omega) (by omega) (FC_RSc hS (Or.inr (Or.inr rfl)) Rc a5) (FM_RSm Rm a6) a3 a4 (by rw [a6.1 _ _ (by unfold PmI; omega)]; exact h0) (by rw [hnt1]; rfl) mf1
    refine ⟨hm', ?_, (AskM_FM a6 (a7 h0).1).tr b2, fun i => by rw [b3, a6.1 _ _ (by unfold PmI; omega)]⟩
    rw [fX10_fits_22]
    simp (disch := omega) only [lit, ↓reduceIte, ltF, a2, bind_some', v3, bnd_some, eqF, nI_add]
    exact b1
theorem s_fit {L K G M : Nat} (hS : isS S) (F : WFT T) {rec : Hp → Int32 → Int32 → Int32 → Int32 → Int32 → Option (Int32 × Hp)} {x1 x4 x5 : Int32} : ∀ (d n fu fu' : Nat) (hc hm : Hp), n + d = M + 1 → d + 1 < fu → 62 ≤ fu' + n → 1 ≤ n → RSc hc S T → RSm hm T → RW hc hm S 84 1 T → RG hc hm 84 → hI hm 107 68 = nI 0 → hI hc 84 1 = nI (n - 1) → MF hc hm T L K G M → ∃ v hc' hm', v ≤ 1 ∧ fX9_heldBits_78 fu rec hc x1 (nI K) (nI M) x4 x5 (nI 1) (nI n) = fX9_heldBits_116 rec hc' x1 (nI K) (nI M) x4 x5 (nI v) ∧ fX10_fits_22 fu' hm (nI n) = some (nI v, hm') ∧ AskC hc hc' ∧ AskM hm hm' ∧ ∀ i, hI hm' 148 i = hI hm 148 i
  | 0, n, fu + 1, fu', hc, hm, hn, _, hf', h1, Rc, Rm, w, g, h0, hnt, mf => by
    have hM := mf.2.2.1
    obtain ⟨hm', b1, b2, b3⟩ := m_rest (M := M) hS F (61 - n) n fu' hc hm (by omega) (by omega) (by omega) h1 Rc Rm w g h0 hnt mf
    refine ⟨1, hc, hm', by omega, ?_, b1, AskC.rf, b2, b3⟩
    rw [fX9_heldBits_78]; simp (disch := omega) only [lit, ↓reduceIte, ltT]
  | d + 1, n, fu + 2, fu', hc, hm, hn, hf, hf', h1, Rc, Rm, w, g, h0, hnt, mf => by
    have hM := mf.2.2.1
    obtain ⟨fu'', rfl⟩ : ∃ k, fu' = k + 1 := ⟨fu' - 1, by omega⟩
    obtain ⟨hc1, hm1, a1, a2, a3, a4, a5, a6, a7, a8⟩ := s_night0 hS (Or.inr (Or.inr rfl) : isW 84) (by decide : 1 ≤ 1) F Rc Rm w g
    have hnt1 : hI hc1 84 1 = nI n := by rw [a8, hnt, nI_add, show n - 1 + 1 = n by omega]
    have mf1 := MF_FC mf a5 a6
    obtain ⟨v, v1, v2, v3, -⟩ := s_check (n := n) F a3 mf1 (by omega) hnt1
    have f48 : ∀ i, hI hm1 148 i = hI hm 148 i := fun i => a6.1 _ _ (by unfold PmI; omega)
    have aM := AskM_FM a6 (a7 h0).1
    by_cases q : v = 0
    · subst q
      refine ⟨0, hc1, hm1, by omega, ?_, ?_, AskC_FC a5, aM, f48⟩
      · rw [fX9_heldBits_78]
        simp (disch := omega) only [lit, ↓reduceIte, ltF, eqF, a1, bind_some', v2, bnd_some, nI_add]
        rw [fX9_heldBits_78]
        simp only [lit, ↓reduceIte]
        split <;> rfl
      · rw [fX10_fits_22]
        simp (disch := omega) only [lit, ↓reduceIte, ltF, a2, bind_some', v3, bnd_some]
    · have q1 : v = 1 := by omega
      subst q1
      obtain ⟨v', hc', hm', b0, b1, b2, b3, b4, b5⟩ := s_fit (M := M) hS F (rec := rec) (x1 := x1) (x4 := x4) (x5 := x5) d (n + 1) (fu + 1) fu'' hc1 hm1 (by omega) (by omega) (by omega) (by omega) (FC_RSc hS (Or.inr (Or.inr rfl)) Rc a5) (FM_RSm Rm a6) a3 a4 (by rw [a6.1 _ _ (by unfold PmI; omega)]; exact h0) (by rw [hnt1]; rfl) mf1
      refine ⟨v', hc', hm', b0, ?_, ?_, (AskC_FC a5).tr b3, aM.tr b4, fun i => by rw [b5, f48]⟩
      · rw [fX9_heldBits_78]
        simp (disch := omega) only [lit, ↓reduceIte, ltF, eqF, a1, bind_some', v2, bnd_some, nI_add]
        exact b1
      · rw [fX10_fits_22]
        simp (disch := omega) only [lit, ↓reduceIte, ltF, eqF, a2, bind_some', v3, bnd_some, nI_add]
        exact b2
theorem s_hb {L K G M m : Nat} (hmM : m < T 0 3) : ∀ (d c fu fu' : Nat) (hc hm : Hp) (B : Nat), c + d = T 0 0 → d < fu → d < fu' → R2 hc hm S T → MF hc hm T L K G M → B < 2 ^ T 0 0 → ∃ B' hc' hm', B' < 2 ^ T 0 0 ∧ fX9_heldBits_23 fu hc (nI m) (nI K) (nI M) (nI B) (nI c) = some (nI B', hc') ∧ fX10_heldBits_80 fu' hm (nI m) (nI B) (nI c) = some (nI B', hm') ∧ AskC hc hc' ∧ AskM hm hm'
  | 0, c, fu + 1, fu' + 1, hc, hm, B, hk, _, _, s, mf, hB => by
    obtain ⟨hS, t1, -, F, Rc, Rm, -⟩ := s.1
    have h8 := F.1.1
    have e0 := dref_of (q := (7, 20)) t1 (sS hS)
    refine ⟨B, hc, hm, hB, ?_, ?_, AskC.rf, AskM.rf⟩
    · rw [fX9_heldBits_23]; simp (disch := omega) only [e0, bind_some', rS0 hS, rC0 hS, Rc.1.1, ↓reduceIte, leT]
    · rw [fX10_heldBits_80]; simp (disch := omega) only [Rm.1.1, ↓reduceIte, leT]
  | d + 1, c, fu + 1, fu' + 1, hc, hm, B, hk, h1, h2, s, mf, hB => by
    obtain ⟨hS, t1, -, F, Rc, Rm, -⟩ := s.1
    have h8 := F.1.1
    have h5 := F.1.2.2.1
    have h5m := F.1.2.2.2.1
    have hW4 : isW 84 := Or.inr (Or.inr rfl)
    have e0 := dref_of (q := (7, 20)) t1 (sS hS)
    obtain ⟨hc1, hm1, a1, a2, a3, ⟨p1, p2, p3, p4, p5⟩, a5, a6, a7, a8⟩ := s_begin (W := 84) (b := 1) hS hW4 (by decide) F Rc Rm
    obtain ⟨hm2, b1, ⟨q1, q2, q3, q4, q5⟩, b3⟩ := m_plain (h := hm1)
    let cc : Hp := uI (uI hc1 84 10 (nI 0)) 86 m (nI (2 ^ c))
    let mm : Hp := uI hm2 139 (5 + m) (nI (2 ^ c))
    have ecc : ∀ a i, ¬ (a = 84 ∧ i = 10) → ¬ (a = 86 ∧ i = m) → hI cc a i = hI hc1 a i := fun a i z1 z2 => by
      show hI (uI (uI hc1 84 10 _) 86 m _) a i = _
      rw [hI_ne z2, hI_ne z1]
    have emm : ∀ a i, ¬ (a = 139 ∧ i = 5 + m) → hI mm a i = hI hm2 a i := fun a i z => hI_ne z
    have aC : AskC hc cc := (AskC_Fo a7).tr (AskC_u.tr (AskC_Fr (PI := fun a k => a = 86 ∧ k = m) (PJ := fun _ _ => False) (Fr.uI Fr.rf ⟨rfl, rfl⟩) (fun a i z => by unfold irC; omega) (fun _ _ z => z.elim)))
    have aM : AskM hm mm := (AskM_Fr a8 (fun a i z => by unfold irM; omega) (fun _ _ z => z.elim)).tr ((AskM_Fr b3 (fun a i z => by unfold irM; omega) (fun _ _ z => z.elim)).tr (AskM_Fr (PI := fun a k => a = 139 ∧ k = 5 + m) (PJ := fun _ _ => False) (Fr.uI Fr.rf ⟨rfl, rfl⟩) (fun a i z => by unfold irM; omega) (fun _ _ z => z.elim)))
    have w : RW cc mm S 84 1 T := by
      obtain ⟨w1, w2, w3, w4, w5, ⟨sh, w6, w7, w8⟩, w9, w10⟩ := a3
      have e2 : ∀ a i, 137 ≤ a → hI hm2 a i = hI hm1 a i := fun a i z => b3.1 _ _ (by omega)
      refine ⟨w1, ?_, ?_, ?_, ?_, ⟨sh, w6, ?_, ?_⟩, ?_, ?_⟩
      · intro i hi; rw [ecc _ _ (by omega) (by omega), emm _ _ (by omega), e2 _ _ (by omega)]; exact w2 i hi
      · intro i hi h2; rw [ecc _ _ (by omega) (by omega)]; exact w3 i hi h2
      · intro i hi
        by_cases q : i = m
        · subst q
          exact ⟨2 ^ c, by rw [hB_lt hmM]; exact Nat.pow_lt_pow_right (by decide) (by omega), hI_at ⟨rfl, rfl⟩, hI_at ⟨rfl, by omega⟩⟩
        · rw [ecc _ _ (by omega) (by omega), emm _ _ (by omega), e2 _ _ (by omega)]; exact w4 i hi
      · intro i hi; rw [ecc _ _ (by omega) (by omega), ecc _ _ (by omega) (by omega), emm _ _ (by omega), emm _ _ (by omega), e2 _ _ (by omega), e2 _ _ (by omega)]; exact w5 i hi
      · rw [ecc _ _ (by omega) (by omega)]; exact w7
      · intro i hi; rw [emm _ _ (by omega), e2 _ _ (by omega)]; exact w8 i hi
      · rw [ecc _ _ (by omega) (by omega), emm _ _ (by omega), e2 _ _ (by omega)]; exact w9
      · rw [ecc _ _ (by omega) (by omega), emm _ _ (by omega), e2 _ _ (by omega)]; exact w10
    have c10 : hI cc 84 10 = nI 0 := by
      show hI (uI (uI hc1 84 10 _) 86 m _) 84 10 = _
      rw [hI_ne (by omega), hI_at ⟨rfl, rfl⟩]
    have g : RG cc mm 84 := ⟨⟨0, by decide, c10, by rw [emm _ _ (by omega)]; exact q1, fun z => absurd z (by decide)⟩, ⟨0, by decide, by rw [ecc _ _ (by omega) (by omega)]; exact p2, by rw [emm _ _ (by omega)]; exact q2⟩, ⟨0, by decide, by rw [ecc _ _ (by omega) (by omega)]; exact p3, by rw [emm _ _ (by omega)]; exact q3⟩, ⟨0, by decide, by rw [ecc _ _ (by omega) (by omega)]; exact p4, by rw [emm _ _ (by omega)]; exact q4⟩, by rw [ecc _ _ (by omega) (by omega), emm _ _ (by omega), p5, q5]⟩
    have s1 := R2_A s aC aM
    have m48 : ∀ i, hI mm 148 i = hI hm 148 i := fun i => by rw [emm _ _ (by omega), b3.1 _ _ (by omega), a8.1 _ _ (by omega)]
    have mf1 : MF cc mm T L K G M := MF_ag mf (fun a i q => aC.1 _ _ (by unfold irC; omega)) (fun a i q => by
      rcases q with q | rfl | q
      · exact aM.1 _ _ (by unfold irM; omega)
      · exact m48 i
      · exact aM.1 _ _ (by unfold irM; omega))
    have hM60 := mf.2.2.1
    obtain ⟨v, hc2, hm2', u0, u1, u2, u3, u4, u5⟩ := s_fit (M := M) hS F (rec := fX9_heldBits_23 fu) (x1 := nI m) (x4 := nI B) (x5 := nI c) M 1 FU FU cc mm (by omega) (Nat.lt_of_le_of_lt (show M + 1 ≤ 61 by omega) (by decide)) (Nat.le_trans (by decide : 62 ≤ FU + 0) (by omega)) (by decide) s1.1.2.2.2.2.1 s1.1.2.2.2.2.2.1 w g (by rw [emm _ _ (by omega)]; exact q1) (by rw [ecc _ _ (by omega) (by omega), a5]) mf1
    have s2 := R2_A s (aC.tr u3) (aM.tr u4)
    have mf2 : MF hc2 hm2' T L K G M := MF_ag mf (fun a i q => (aC.tr u3).1 _ _ (by unfold irC; omega)) (fun a i q => by
      rcases q with q | rfl | q
      · exact (aM.tr u4).1 _ _ (by unfold irM; omega)
      · rw [u5, m48]
      · exact (aM.tr u4).1 _ _ (by unfold irM; omega))
    have hB2 : B ||| 2 ^ c < 2 ^ T 0 0 := Nat.or_lt_two_pow hB (Nat.pow_lt_pow_right (by decide) (by omega))
    have headC : fX9_heldBits_23 (fu + 1) hc (nI m) (nI K) (nI M) (nI B) (nI c) = fX9_heldBits_116 (fX9_heldBits_23 fu) hc2 (nI m) (nI K) (nI M) (nI B) (nI c) (nI v) := by
      rw [← u1, fX9_heldBits_23]
      simp (disch := omega) only [lit, e0, bind_some', rS0 hS, rC0 hS, Rc.1.1, ↓reduceIte, leF, a1, fX8_setHolds, fX8_isMember, ltF, bnd_some, eqF, inbN, nI_clamp, rW6 hW4, shl1]
      rfl
    have headM : fX10_fits hm (nI m) (nI c) = some (nI v, hm2') := by
      unfold fX10_fits
      simp (disch := omega) only [lit, a2, bind_some', b1, nI_add, inbN, nI_clamp, ↓reduceIte, shl1]
      exact u2
    by_cases q : v = 0
    · subst q
      obtain ⟨B', hc', hm', x0, x1, x2, x3, x4⟩ := s_hb hmM d (c + 1) fu fu' hc2 hm2' B (by omega) (by omega) (by omega) s2 mf2 hB
      refine ⟨B', hc', hm', x0, ?_, ?_, (aC.tr u3).tr x3, (aM.tr u4).tr x4⟩
      · rw [headC]
        unfold fX9_heldBits_116 fX9_heldBits_130
        simp (disch := omega) only [lit, ↓reduceIte, nI_add]
        exact x1
      · rw [fX10_heldBits_80]
        have eo : B ||| 0 = B := Nat.or_zero B
        simp (disch := omega) only [lit, Rm.1.1, ↓reduceIte, leF, headM, bnd_some, fX10_heldBits_105, nx_o, eo, nI_add]
        exact x2
    · have qv : v = 1 := by omega
      subst qv
      obtain ⟨B', hc', hm', x0, x1, x2, x3, x4⟩ := s_hb hmM d (c + 1) fu fu' hc2 hm2' (B ||| 2 ^ c) (by omega) (by omega) (by omega) s2 mf2 hB2
      refine ⟨B', hc', hm', x0, ?_, ?_, (aC.tr u3).tr x3, (aM.tr u4).tr x4⟩
      · rw [headC]
        unfold fX9_heldBits_116 fX9_heldBits_130
        simp (disch := omega) only [lit, ↓reduceIte, eqF, shl1, nx_o, nI_add]
        exact x1
      · rw [fX10_heldBits_80]
        simp (disch := omega) only [lit, Rm.1.1, ↓reduceIte, leF, headM, bnd_some, eqF, fX10_heldBits_105, shl1, nx_o, nI_add]
        exact x2
theorem s_heldBits {hc hm : Hp} {m : Nat} (s : R2 hc hm S T) (hmM : m < T 0 3) : ∃ B hc' hm', B < 2 ^ T 0 0 ∧ fX9_heldBits hc (nI m) = some (nI B, hc') ∧ fX10_heldBits hm (nI m) = some (nI B, hm') ∧ AskC hc hc' ∧ AskM hm hm' := by
  obtain ⟨n, n1, n2, n3, n4, n5, n6⟩ := s.2.2.2.2
  have F := s.1.2.2.2.1
  have h8 := F.1.1
  -- the limit
  have lim : ∃ L, L ≤ n ∧ fX2_knownLimit hc = some (nI L, hc) ∧ ∀ g : Hp, (∀ i, hI g 107 i = hI hm 107 i) → fX10_knownBy g = some (nI L, g) := by
    rcases n5 with n5 | ⟨k, k1, k2⟩
    · refine ⟨n, Nat.le_refl _, ?_, fun g hg => ?_⟩
      · unfold fX2_knownLimit; simp (disch := omega) only [lit, n5, n2, ↓reduceIte]
      · have e2 : (nI 0 ≤ -nI 1) = False := le_m1 (by omega)
        unfold fX10_knownBy; simp (disch := omega) only [lit, hg, ← n4, n5, n3, e2, ↓reduceIte]
    · refine ⟨k, k1, ?_, fun g hg => ?_⟩
      · have e2 : (nI k = -nI 1) = False := ne_m1 (by omega)
        unfold fX2_knownLimit; simp (disch := omega) only [lit, k2, e2, ↓reduceIte]
      · unfold fX10_knownBy; simp (disch := omega) only [lit, hg, ← n4, k2, leT, ↓reduceIte]
  obtain ⟨L, L1, L2, L3⟩ := lim
  obtain ⟨hm1, a1, a2, a3⟩ := m_cn (x1 := nI m) (show L ≤ 24 by omega) L 0 FU hm (by omega) (Nat.lt_of_le_of_lt (show L ≤ 24 by omega) (by decide)) L3
  have hE1 : ∀ k, k < L → EnM hc hm1 T k := fun k hk => by
    have := n6 k (by omega)
    unfold EnM
    have e : ∀ i, hI hm1 147 i = hI hm 147 i := fun i => a3.1 _ _ (by omega)
    simp only [e]
    exact this
  obtain ⟨G, K, hm2, b0, b1, b2, b3, b4⟩ := s_kn (hc := hc) (T := T) (show L ≤ 24 by omega) (nI m) L FU FU 0 0 hm1 (Nat.le_refl _) (Nat.lt_of_le_of_lt (show L ≤ 24 by omega) (by decide)) (Nat.lt_of_le_of_lt (show L ≤ 24 by omega) (by decide)) hE1 (fun t ht => by simp at ht) (fun t ht => by rw [a2 t (by omega) ht]; simp) (fun t => by constructor; intro z; simp at z; intro z; omega)
  have fm : Fr (fun a _ => a = 148) (fun _ _ => False) hm hm2 := (a3.mono (fun a i q => q.1) (fun _ _ q => q)).tr b4
  have aM : AskM hm hm2 := AskM_Fr fm (fun a i z => by unfold irM; omega) (fun _ _ z => z.elim)
  -- nights
  have hK : ∀ t, K.testBit t = true → (hI hc 98 t).toNatClampNeg ≤ 60 ∧ hI hc 98 t = nI (hI hc 98 t).toNatClampNeg := by
    intro t ht
    obtain ⟨z1, z2, z3⟩ := (b3.2 t).mp ht
    rcases hE1 t z1 with ⟨-, ⟨x, y1, y2, y3, -⟩, -⟩ | ⟨t', y1, y2, -⟩
    · rw [y3, nI_clamp (by omega)]; exact ⟨y2, rfl⟩
    · rw [y2] at z3; exact absurd z3 (of_eq_false (ne_m1 (by omega)))
  have e3 := x_late1 (h := hc) b0 (nn := fun t => (hI hc 98 t).toNatClampNeg) hK 24 0 FU rfl (by decide)
  let M : Nat := mwN (fun t => (hI hc 98 t).toNatClampNeg) K 24
  have hM60 : M ≤ 60 := by
    rcases mwN_at (w := fun t => (hI hc 98 t).toNatClampNeg) (s := K) (n := 24) with q | ⟨i, -, i2, i3⟩
    · show mwN _ K 24 ≤ 60; omega
    · show mwN _ K 24 ≤ 60; rw [i3]; exact (hK i i2).1
  have mf : MF hc hm2 T L K G M := by
    refine ⟨by omega, b0, hM60, fun k hk => ?_, b3, L3 hm2 (fun i => fm.1 _ _ (by omega)), fun t ht => ⟨_, ?_, (hK t ht).2⟩⟩
    · have := n6 k (by omega)
      unfold EnM
      have e : ∀ i, hI hm2 147 i = hI hm 147 i := fun i => fm.1 _ _ (by omega)
      simp only [e]
      exact this
    · exact mwN_ge (w := fun t => (hI hc 98 t).toNatClampNeg) ht (tb_in b0 ht)
  have s2 : R2 hc hm2 S T := R2_A s AskC.rf aM
  obtain ⟨B, hc', hm', c0, c1, c2, c3, c4⟩ := s_hb hmM (T 0 0) 0 FU FU hc hm2 0 (by omega) (Nat.lt_of_le_of_lt h8 (by decide)) (Nat.lt_of_le_of_lt h8 (by decide)) s2 mf (Nat.pow_pos (by decide))
  refine ⟨B, hc', hm', c0, ?_, ?_, c3, aM.tr c4⟩
  · unfold fX9_heldBits fX2_knownOnes fX2_latestNight
    have e4 : (if nI 24 < nI L then nI 24 else nI L) = nI L := if_neg (nI_nlt (by omega) (by omega))
    simp only [lit, L2, bnd_some, e4, b1]
    have e5 : fX2_latestNight_4 FU hc (nI K) (nI 0) (nI 0) = some (nI M, hc) := e3
    rw [e5, bnd_some]
    exact c1
  · unfold fX10_heldBits
    simp only [lit]
    rw [a1, b2]
    exact c2
theorem s_held {hc hm : Hp} (s : R2 hc hm S T) (x : Int32) : Ok2 hc hm (fX9_held hc x) (fX10_held hm x) := by
  have s0 := R2_thr s (nI 0)
  rcases v_member s0.1 x with ⟨m, hmM, rfl, e1, e2⟩ | ⟨e1, e2⟩
  · obtain ⟨B, hc', hm', b0, b1, b2, b3, b4⟩ := s_heldBits s0 hmM
    refine ok_A (v := nI B) s ?_ ?_ b3 (AskM_t.tr b4)
    · unfold fX9_held; simp (disch := omega) only [lit, e1, bnd_some, ↓reduceIte, eqF, b1]
    · unfold fX10_held; simp (disch := omega) only [lit, e2, bnd_some, ↓reduceIte, eqF, b2]
  · refine ok_same s (v := -nI 1) (x := nI 0) ?_ ?_
    · unfold fX9_held; simp (disch := omega) only [lit, e1, bnd_some, ↓reduceIte]
    · unfold fX10_held; simp (disch := omega) only [lit, e2, bnd_some, ↓reduceIte]
end V
