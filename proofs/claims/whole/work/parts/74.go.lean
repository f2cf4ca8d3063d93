/-! sheds, go, tried, chance. -/
section V
variable {S : Nat} {T : Tx}
theorem s_sheds1 (hS : isS S) (F : WFT T) {x : Nat} (hx : x < T 0 2) : ∀ (d k fu fu' : Nat) (hc hm : Hp), k + d = 200 → d < fu → d < fu' → RSc hc S T → RSm hm T → RW hc hm S 84 1 T → RG hc hm 84 → hI hm 107 68 = nI 0 → ∃ v hc' hm', fX9_sheds_16 fu hc (nI x) (nI k) = some (v, hc') ∧ fX10_sheds_21 fu' hm (nI x) (nI k) = some (v, hm') ∧ AskC hc hc' ∧ AskM hm hm'
  | 0, k, fu + 1, fu' + 1, hc, hm, hk, _, _, Rc, Rm, w, g, h0 => by
    have e : k = 200 := by omega
    subst e
    refine ⟨-nI 2, hc, hm, ?_, ?_, AskC.rf, AskM.rf⟩
    · rw [fX9_sheds_16]; simp (disch := omega) only [lit, ↓reduceIte, ltT]
    · rw [fX10_sheds_21]; simp (disch := omega) only [lit, ↓reduceIte, leT]
  | d + 1, k, fu + 1, fu' + 1, hc, hm, hk, h1, h2, Rc, Rm, w, g, h0 => by
    have h5 := F.1.2.2.1
    obtain ⟨sh, w6, w7, w8⟩ := w.2.2.2.2.2.1
    have hsh : sh < 2 ^ 31 := Nat.lt_of_lt_of_le w6 (Nat.pow_le_pow_right (by decide) (by omega))
    have w8' := w8 x (by omega)
    rw [show 5 * 1 + x = 5 + x by omega] at w8'
    rw [fX9_sheds_16, fX10_sheds_21]
    by_cases qs : sh.testBit x = true
    · have hb : bn sh x = 1 := by unfold bn; rw [if_pos qs]
      rw [hb] at w8'
      refine ⟨nI k, hc, hm, ?_, ?_, AskC.rf, AskM.rf⟩
      · simp (disch := omega) only [lit, ↓reduceIte, ltF, leF, fX8_inShed, w7, shr1T, qs, bnd_some, eqF]
      · simp (disch := omega) only [lit, ↓reduceIte, leF, nI_add, inbN, nI_clamp, w8', eqF]
    · have hb : bn sh x = 0 := by unfold bn; rw [if_neg qs]
      rw [hb] at w8'
      obtain ⟨hc1, hm1, a1, a2, a3, a4, a5, a6, a7⟩ := s_night hS (Or.inr (Or.inr rfl) : isW 84) (by decide : 1 ≤ 1) F Rc Rm w g
      obtain ⟨v, hc', hm', b1, b2, b3, b4⟩ := s_sheds1 hS F hx d (k + 1) fu fu' hc1 hm1 (by omega) (by omega) (by omega) (FC_RSc hS (Or.inr (Or.inr rfl)) Rc a5) (FM_RSm Rm a6) a3 a4 (by rw [a6.1 _ _ (by unfold PmI; omega)]; exact h0)
      refine ⟨v, hc', hm', ?_, ?_, (AskC_FC a5).tr b3, (AskM_FM a6 (a7 h0).1).tr b4⟩
      · simp (disch := omega) only [lit, ↓reduceIte, ltF, leF, fX8_inShed, w7, shr1T, qs, Bool.false_eq_true, bnd_some, a1, bind_some', nI_add]
        exact b1
      · simp (disch := omega) only [lit, ↓reduceIte, leF, nI_add, inbN, nI_clamp, w8', a2, bind_some']
        exact b2
theorem s_sheds {hc hm : Hp} (s : R2 hc hm S T) (x : Int32) : Ok2 hc hm (fX9_sheds hc x) (fX10_sheds hm x) := by
  have s0 := R2_thr s (nI 0)
  rcases v_straw s0.1 x with ⟨i, hi, rfl, e1, e2⟩ | ⟨e1, e2⟩
  · obtain ⟨hS, -, -, F, -⟩ := s0.1
    obtain ⟨hc1, hm1, a1, a2, a3, a4, a5, -, -, -, -, -, -, a6, a7⟩ := s_start s0
    have s1 := R2_A s0 a6 a7
    obtain ⟨v, hc2, hm2, b1, b2, b3, b4⟩ := s_sheds1 hS F hi 200 0 FU FU hc1 hm1 rfl (by decide) (by decide) s1.1.2.2.2.2.1 s1.1.2.2.2.2.2.1 a3 a4 a5
    refine ok_A (v := v) s ?_ ?_ (a6.tr b3) (AskM_t.tr (a7.tr b4))
    · unfold fX9_sheds; simp (disch := omega) only [lit, e1, bnd_some, ↓reduceIte, eqF, a1, bind_some']; exact b1
    · unfold fX10_sheds; simp (disch := omega) only [lit, e2, bnd_some, ↓reduceIte, eqF, a2, bind_some']; exact b2
  · refine ok_same s (v := -nI 1) (x := nI 0) ?_ ?_
    · unfold fX9_sheds; simp (disch := omega) only [lit, e1, bnd_some, ↓reduceIte]
    · unfold fX10_sheds; simp (disch := omega) only [lit, e2, bnd_some, ↓reduceIte]
/-- nights that go by -/
theorem s_go1 (hS : isS S) (F : WFT T) {n : Nat} (hn : n ≤ 200) : ∀ (d k fu fu' : Nat) (hc hm : Hp), k + d = n → d < fu → d < fu' → RSc hc S T → RSm hm T → RW hc hm S 72 0 T → RG hc hm 72 → ∃ hc' hm', fX8_passNights_2 fu 72 hc (nI n) (nI k) = some hc' ∧ fX10_go_43 fu' hm (nI n) (nI k) = fX10_go_77 (uI hm' 107 68 (nI 0)) (if n = 0 then hI hm' 107 80 else nI 0) ∧ RW hc' hm' S 72 0 T ∧ RG hc' hm' 72 ∧ FC 72 hc hc' ∧ FM 0 hm hm' ∧ (d = 0 → hc' = hc ∧ hm' = hm)
  | 0, k, fu + 1, fu' + 1, hc, hm, hk, _, _, Rc, Rm, w, g => by
    have e : k = n := by omega
    subst e
    refine ⟨hc, hm, ?_, ?_, w, g, Fr.rf, Fr.rf, fun _ => ⟨rfl, rfl⟩⟩
    · rw [fX8_passNights_2]; simp (disch := omega) only [↓reduceIte, leT]
    · rw [fX10_go_43]
      by_cases q : k = 0
      · subst q; simp (disch := omega) only [lit, ↓reduceIte, leT, hI_ne]
      · rw [if_neg q]; simp (disch := omega) only [lit, ↓reduceIte, leT, leF]
  | d + 1, k, fu + 1, fu' + 1, hc, hm, hk, h1, h2, Rc, Rm, w, g => by
    obtain ⟨hc1, hm1, a1, a2, a3, a4, a5, a6, a7⟩ := s_night hS (Or.inl rfl : isW 72) (by decide : 0 ≤ 1) F Rc Rm w g
    obtain ⟨hc', hm', b1, b2, b3, b4, b5, b6, -⟩ := s_go1 hS F hn d (k + 1) fu fu' hc1 hm1 (by omega) (by omega) (by omega) (FC_RSc hS (Or.inl rfl) Rc a5) (FM_RSm Rm a6) a3 a4
    refine ⟨hc', hm', ?_, ?_, b3, b4, Fr.tr a5 b5, Fr.tr a6 b6, fun z => by omega⟩
    · rw [fX8_passNights_2]; simp (disch := omega) only [lit, ↓reduceIte, leF, a1, bind_some', nI_add]; exact b1
    · rw [fX10_go_43]; simp (disch := omega) only [lit, ↓reduceIte, leF, a2, bind_some', nI_add]; exact b2
theorem s_go {hc hm : Hp} (s : R2 hc hm S T) (x : Int32) : Ok2 hc hm (fX9_go hc x) (fX10_go hm x) := by
  have s0 := R2_thr s (nI 0)
  obtain ⟨hm1, p1, p2, p3⟩ := m_plain (h := uI hm 107 2 (nI 0))
  rcases v_in (h := uI hm 107 2 (nI 0)) x 0 200 (by decide) (by decide) with ⟨n, -, hn, rfl, e0⟩ | ⟨q, e0⟩
  · have hnt : hI hc 72 1 = hI (uI hm 107 2 (nI 0)) 143 0 := s0.2.1.1.2.2.2.2.2.2.1
    by_cases q9 : hI hc 72 1 + nI n ≤ nI 9000
    · -- the reference: plainly, drawn
      let hm2 : Hp := uI hm1 107 68 (nI 1)
      have aM : AskM (uI hm 107 2 (nI 0)) hm2 := (AskM_Fr p3 (fun a i z => by unfold irM; omega) (fun _ _ z => z.elim)).tr (AskM_u (by omega))
      have s2 : R2 hc hm2 S T := R2_A s0 AskC.rf aM
      obtain ⟨hS, t1, t2, F, Rc, Rm, -⟩ := s2.1
      obtain ⟨w, ⟨l1, l2, l3, l4, l5⟩, m, m1, m2, m3⟩ := s2.2.1
      have e5 : ∀ i, 69 ≤ i → i ≤ 72 → hI hm2 107 i = hI hm1 107 i := fun i h1 h2 => hI_ne (by omega)
      have g : RG hc hm2 72 := ⟨⟨1, by decide, l1, hI_at ⟨rfl, rfl⟩, fun _ => ⟨m, m1, m2, m3⟩⟩, ⟨0, by decide, l2, by rw [e5 _ (by omega) (by omega)]; exact p2.2.1⟩, ⟨0, by decide, l3, by rw [e5 _ (by omega) (by omega)]; exact p2.2.2.1⟩, ⟨0, by decide, l4, by rw [e5 _ (by omega) (by omega)]; exact p2.2.2.2.1⟩, by rw [e5 _ (by omega) (by omega), l5, p2.2.2.2.2]⟩
      -- the class: what can be undone
      let hc2 : Hp := if n = 0 then hc else uI hc 90 0 (nI 0)
      have ec2 : ∀ a i, a ≠ 90 → hI hc2 a i = hI hc a i := fun a i q => by
        show hI (if n = 0 then hc else uI hc 90 0 (nI 0)) a i = _
        split
        · rfl
        · exact hI_ne (by omega)
      have er2 : ∀ a i, hR hc2 a i = hR hc a i := fun a i => by
        show hR (if n = 0 then hc else uI hc 90 0 (nI 0)) a i = _
        split <;> rfl
      have ej2 : ∀ a i, hJ hc2 a i = hJ hc a i := fun a i => by
        show hJ (if n = 0 then hc else uI hc 90 0 (nI 0)) a i = _
        split <;> rfl
      have sA2 : StA hc2 hm2 S T := StA_ag s2.1 (fun a i q => ec2 a i (by unfold relA at q; omega)) (fun a i _ => er2 a i) (fun _ _ _ => rfl)
      have sW2 : StW hc2 hm2 S T := StW_ag F s2.2.1 (fun a i h1 h2 => ec2 a i (by omega)) (er2 _ _) (fun _ _ _ => rfl) rfl
      have g2 : RG hc2 hm2 72 := RG_Fr g (fun i _ => ec2 _ _ (by omega)) (fun _ _ _ => rfl) rfl
      obtain ⟨hc3, hm3, a1, a2, a3, a4, a5, a6, a7⟩ := s_go1 hS F hn n 0 FU FU hc2 hm2 (by omega) (Nat.lt_of_le_of_lt hn (by decide)) (Nat.lt_of_le_of_lt hn (by decide)) sA2.2.2.2.2.1 sA2.2.2.2.2.2.1 sW2.1 g2
      let hm4 : Hp := uI (uI hm3 107 68 (nI 0)) 107 80 (if n = 0 then hI hm3 107 80 else nI 0)
      have em4 : ∀ a i, ¬ (a = 107 ∧ (i = 68 ∨ i = 80)) → hI hm4 a i = hI hm3 a i := fun a i q => by
        show hI (uI (uI hm3 107 68 (nI 0)) 107 80 _) a i = _
        rw [hI_ne (by omega), hI_ne (by omega)]
      have ec3 : ∀ a i, ¬ PcI 72 a i → hI hc3 a i = hI hc2 a i := a5.1
      have em3 : ∀ a i, ¬ PmI 0 a i → hI hm3 a i = hI hm2 a i := a6.1
      have hansc : fX9_go hc (nI n) = some (hI hc3 72 1, hc3) := by
        unfold fX9_go fX9_go_39 fX4_clear fX8_passNights
        by_cases qn : n = 0
        · subst qn
          have : hc2 = hc := if_pos rfl
          rw [this] at a1
          simp (disch := omega) only [lit, ↓reduceIte, ltF, leT, q9, a1, bind_some']
        · have : hc2 = uI hc 90 0 (nI 0) := if_neg qn
          rw [this] at a1
          simp (disch := omega) only [lit, ↓reduceIte, ltF, leF, q9, bind_some', a1]
      have hansm : fX10_go hm (nI n) = some (hI hc3 72 1, hm4) := by
        unfold fX10_go
        rw [hnt] at q9
        simp (disch := omega) only [lit, e0, bnd_some, ↓reduceIte, eqF, inbN, nI_clamp, q9, p1, bind_some']
        rw [show uI hm1 107 68 (nI 1) = hm2 from rfl, a2]
        unfold fX10_go_77
        simp (disch := omega) only [lit, inbN, ↓reduceIte, nI_clamp]
        rw [show uI (uI hm3 107 68 (nI 0)) 107 80 (if n = 0 then hI hm3 107 80 else nI 0) = hm4 from rfl, em4 _ _ (by omega), a3.2.2.2.2.2.2.1]
      refine ⟨_, hc3, hm4, hansc, hansm, ⟨S, T, ?_, ⟨?_, ?_, ?_⟩, ?_, ?_, ?_⟩, ?_, ?_⟩
      · refine StA_ag sA2 (fun a i q => ec3 a i (by unfold relA at q; unfold PcI; omega)) (fun a i _ => a5.2.2 a i) (fun a i q => ?_)
        rw [em4 _ _ (by unfold relMA at q; omega), em3 _ _ (by unfold relMA at q; unfold PmI; omega)]
      · obtain ⟨u1, u2, u3, u4, u5, ⟨sh, u6, u7, u8⟩, u9, u10⟩ := a3
        refine ⟨u1, ?_, u3, ?_, ?_, ⟨sh, u6, u7, ?_⟩, ?_, ?_⟩
        · intro i hi; rw [em4 _ _ (by omega)]; exact u2 i hi
        · intro i hi; rw [em4 _ _ (by omega)]; exact u4 i hi
        · intro i hi; rw [em4 _ _ (by omega), em4 _ _ (by omega)]; exact u5 i hi
        · intro i hi; rw [em4 _ _ (by omega)]; exact u8 i hi
        · rw [em4 _ _ (by omega)]; exact u9
        · rw [em4 _ _ (by omega)]; exact u10
      · obtain ⟨k1, k2, k3, k4, k5⟩ := sW2.2.1
        refine ⟨?_, ?_, ?_, ?_, ?_⟩
        · rw [ec3 _ _ (by unfold PcI; omega)]; exact k1
        · rw [ec3 _ _ (by unfold PcI; omega)]; exact k2
        · rw [ec3 _ _ (by unfold PcI; omega)]; exact k3
        · rw [ec3 _ _ (by unfold PcI; omega)]; exact k4
        · rw [ec3 _ _ (by unfold PcI; omega)]; exact k5
      · obtain ⟨⟨y, y1, y2, y3, y4⟩, -⟩ := a4
        have y1' : y = 1 := by
          rw [em3 _ _ (by unfold PmI; omega)] at y3
          have : hI hm2 107 68 = nI 1 := hI_at ⟨rfl, rfl⟩
          rw [this] at y3
          exact (nI_inj (by decide) (by omega) y3).symm
        obtain ⟨z, z1, z2, z3⟩ := y4 y1'
        exact ⟨z, z1, z2, z3⟩
      · by_cases qn : n = 0
        · obtain ⟨x1, x2⟩ := a7 qn
          have hcc : hc2 = hc := if_pos qn
          refine RU_ag s2.2.2.1 (fun a i q => by rw [x1, hcc]) (fun a i q => ?_)
          by_cases q80 : a = 107 ∧ i = 80
          · obtain ⟨rfl, rfl⟩ := q80
            show hI (uI (uI hm3 107 68 (nI 0)) 107 80 (if n = 0 then hI hm3 107 80 else nI 0)) 107 80 = _
            rw [hI_at ⟨rfl, rfl⟩, if_pos qn, x2]
          · rw [em4 _ _ (by omega), x2]
        obtain ⟨j, p, j1, j2, j3, j4, j5, j6, j7⟩ := s2.2.2.1
        refine ⟨0, p, by omega, j2, ?_, ?_, ?_, fun j hj => by omega, fun j hj => by omega⟩
        · rw [ec3 _ _ (by unfold PcI; omega)]
          show hI (if n = 0 then hc else uI hc 90 0 (nI 0)) 90 0 = _
          rw [if_neg qn, hI_at ⟨rfl, rfl⟩]
        · rw [ec3 _ _ (by unfold PcI; omega)]
          show hI (if n = 0 then hc else uI hc 90 0 (nI 0)) 90 1 = _
          rw [if_neg qn, hI_ne (by omega)]; exact j4
        · show hI (uI (uI hm3 107 68 (nI 0)) 107 80 (if n = 0 then hI hm3 107 80 else nI 0)) 107 80 = _
          rw [hI_at ⟨rfl, rfl⟩, if_neg qn]
      · refine RI_ag s2.2.2.2.1 (fun a i q => ?_) ?_ (fun a i q => ?_) ?_
        · rw [ec3 _ _ (by unfold PcI; omega), ec2 _ _ (by omega)]
        · rw [a5.2.2, er2]
        · rw [em4 _ _ (by omega), em3 _ _ (by unfold PmI; omega)]
        · exact a6.2.1 _ _ (by unfold PmJ; omega)
      · refine RM_ag s2.2.2.2.2 (fun a i q => ?_) (fun a i q => ?_)
        · rw [ec3 _ _ (by unfold PcI; omega), ec2 _ _ (by omega)]
        · rw [em4 _ _ (by omega), em3 _ _ (by unfold PmI; omega)]
      · refine FCl.tr ⟨fun a i q => ec2 a i (by omega), fun a i _ => ej2 a i, fun a i _ => er2 a i⟩ (FCl_Fr a5 (fun a i z => by unfold PcI at z; omega) (fun a i z => by unfold PcJ at z; omega))
      · exact FMo.tr (FMo.tr (FMo_uI FMo.rf (by omega)) aM.2.2) (FMo.tr (FMo_Fr a6 (fun a i z => by unfold PmI at z; omega) (fun a i z => by unfold PmJ at z; omega)) (FMo_uI (FMo_uI FMo.rf (by omega)) (by omega)))
    · refine ok_same s (v := -nI 1) (x := nI 0) ?_ ?_
      · unfold fX9_go; simp (disch := omega) only [lit, ↓reduceIte, ltF, q9]
      · unfold fX10_go
        rw [hnt] at q9
        simp (disch := omega) only [lit, e0, bnd_some, ↓reduceIte, eqF, inbN, nI_clamp, q9]
  · refine ok_same s (v := -nI 1) (x := nI 0) ?_ ?_
    · unfold fX9_go
      simp only [lit]
      rcases q with q | q
      · rw [if_pos q]
      · rw [if_neg (ltI_hi 200 0 (by decide) (by decide) q).1, if_pos q]
    · unfold fX10_go; simp (disch := omega) only [lit, e0, bnd_some, ↓reduceIte]
end V
