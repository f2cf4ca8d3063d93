/-! chance. -/
section V
variable {S : Nat} {T : Tx}
theorem s_chance1 (hS : isS S) (F : WFT T) {n x : Nat} (hn : n ≤ 99) (hx : x < T 0 2) (X : Int64) : ∀ (d k fu fu' : Nat) (hc hm : Hp) (m : Nat) (cnt : Int32), k + d = 10 → d < fu → d < fu' → RSc hc S T → RSm hm T → RW hc hm S 72 0 T → m < 2 ^ 31 → hJ hm 107 67 = lN m → ∃ v hc' hm', fX9_chance_34 fu hc (nI n) (nI x) cnt (nI m) (nI k) = some (v, hc') ∧ fX10_chance_47 fu' hm (nI n) (nI x) X cnt (nI k) = some (v, hm') ∧ AskC hc hc' ∧ (∀ a i, ¬ irM a i → hI hm' a i = hI hm a i) ∧ hJ hm' 107 67 = X ∧ hJ hm' 107 87 = hJ hm 107 87 ∧ FMo hm hm'
  | 0, k, fu + 1, fu' + 1, hc, hm, m, cnt, hk, _, _, Rc, Rm, w, hm31, hj => by
    have e : k = 10 := by omega
    subst e
    refine ⟨cnt, hc, uJ (uI hm 107 68 (nI 0)) 107 67 X, ?_, ?_, AskC.rf, fun a i q => ?_, hJ_at ⟨rfl, rfl⟩, ?_, ?_⟩
    · rw [fX9_chance_34]; simp (disch := omega) only [lit, ↓reduceIte, leT]
    · rw [fX10_chance_47]; simp (disch := omega) only [lit, ↓reduceIte, leT]
    · rw [hI_uJ, hI_ne (by unfold irM at q; omega)]
    · rw [hJ_ne (by omega)]; rfl
    · refine FMo.tr (FMo_uI FMo.rf (by omega)) ⟨fun _ _ _ => rfl, fun a i q => hJ_ne (by omega), fun _ _ => rfl⟩
  | d + 1, k, fu + 1, fu' + 1, hc, hm, m, cnt, hk, h1, h2, Rc, Rm, w, hm31, hj => by
    have h5 := F.1.2.2.1
    obtain ⟨hc1, hm1, a1, a2, a3, ⟨p1, p2, p3, p4, p5⟩, ⟨q1, q2, q3, q4, q5⟩, a6, a7, a8⟩ := s_lay hS F w
    let cc : Hp := uI hc1 84 4 (nI m)
    let mm : Hp := uI hm1 107 68 (nI 1)
    have aC : AskC hc cc := (AskC_Fo a7).tr AskC_u
    have aM : AskM hm mm := (AskM_Pl a8).tr (AskM_u (by omega))
    have Rc1 : RSc cc S T := RSc_ag hS Rc (fun a i q => aC.1 a i (by unfold relA at q; unfold irC; omega)) (fun a i q => aC.2.1 a i (by omega) (by omega))
    have Rm1 : RSm mm T := RSm_Fr (RSm_Fr Rm a8 (fun a i q z => by unfold PlI at z; omega)) (PI := fun a i => a = 107 ∧ i = 68) (PJ := fun _ _ => False) (Fr.uI Fr.rf ⟨rfl, rfl⟩) (fun a i q z => by omega)
    have w84 : RW cc mm S 84 1 T := RW_ag h5 a3 (fun a i q => hI_ne (by omega)) rfl (fun a i q => hI_ne (by omega))
    have e1 : ∀ i, i ≠ 4 → hI cc 84 i = hI hc1 84 i := fun i q => hI_ne (by omega)
    have e2 : ∀ i, i ≠ 68 → hI mm 107 i = hI hm1 107 i := fun i q => hI_ne (by omega)
    have hj1 : hJ mm 107 67 = lN m := by rw [aM.2.1 67 (by omega)]; exact hj
    have g : RG cc mm 84 := ⟨⟨1, by decide, by rw [e1 _ (by omega)]; exact p1, hI_at ⟨rfl, rfl⟩, fun _ => ⟨m, hm31, hI_at ⟨rfl, rfl⟩, hj1⟩⟩, ⟨0, by decide, by rw [e1 _ (by omega)]; exact p2, by rw [e2 _ (by omega)]; exact q2⟩, ⟨0, by decide, by rw [e1 _ (by omega)]; exact p3, by rw [e2 _ (by omega)]; exact q3⟩, ⟨0, by decide, by rw [e1 _ (by omega)]; exact p4, by rw [e2 _ (by omega)]; exact q4⟩, by rw [e1 _ (by omega), e2 _ (by omega), p5, q5]⟩
    obtain ⟨hc2, hm2, b1, b2, b3, b4, b5, b6, b7⟩ := s_manyN (n := n) hS F (by omega) Rc1 Rm1 w84 g
    -- the last number
    obtain ⟨⟨y, y1, y2, y3, y4⟩, -⟩ := b4
    have y1' : y = 1 := by
      rw [b6.1 _ _ (by unfold PmI; omega)] at y3
      have : hI mm 107 68 = nI 1 := hI_at ⟨rfl, rfl⟩
      rw [this] at y3
      exact (nI_inj (by decide) (by omega) y3).symm
    obtain ⟨m', z1, z2, z3⟩ := y4 y1'
    obtain ⟨sh, w6, w7, w8⟩ := b3.2.2.2.2.2.1
    have hsh : sh < 2 ^ 31 := Nat.lt_of_lt_of_le w6 (Nat.pow_le_pow_right (by decide) (by omega))
    have w8' := w8 x (by omega)
    rw [show 5 * 1 + x = 5 + x by omega] at w8'
    have aC2 := aC.tr (AskC_FC b5)
    have im2 : ∀ a i, ¬ irM a i → hI hm2 a i = hI hm a i := fun a i q => by
      rw [b6.1 a i (by unfold PmI; unfold irM at q; omega)]; exact aM.1 a i q
    have Rc2 : RSc hc2 S T := FC_RSc hS (Or.inr (Or.inr rfl)) Rc1 b5
    have Rm2 : RSm hm2 T := FM_RSm Rm1 b6
    have w72 : RW hc2 hm2 S 72 0 T := RW_ag h5 w (fun a i q => aC2.1 a i (by unfold irC; omega)) (aC2.2.1 _ _ (by omega) (by omega)) (fun a i q => im2 a i (by unfold irM; omega))
    have fm2 : FMo hm hm2 := FMo.tr aM.2.2 (FMo_Fr b6 (fun a i z => by unfold PmI at z; omega) (fun a i z => by unfold PmJ at z; omega))
    have j87 : hJ hm2 107 87 = hJ hm 107 87 := by rw [b6.2.1 _ _ (by unfold PmJ; omega), aM.2.1 87 (by omega)]
    rw [fX9_chance_34, fX10_chance_47]
    by_cases qs : sh.testBit x = true
    · have hb : bn sh x = 1 := by unfold bn; rw [if_pos qs]
      rw [hb] at w8'
      obtain ⟨v, hc', hm', c1, c2, c3, c4, c5, c6, c7⟩ := s_chance1 hS F hn hx X d (k + 1) fu fu' hc2 hm2 m' (cnt + nI 1) (by omega) (by omega) (by omega) Rc2 Rm2 w72 z1 z3
      refine ⟨v, hc', hm', ?_, ?_, aC2.tr c3, fun a i q => (c4 a i q).trans (im2 a i q), c5, c6.trans j87, fm2.tr c7⟩
      · simp (disch := omega) only [lit, ↓reduceIte, leF, a1, bind_some']
        rw [show uI hc1 84 4 (nI m) = cc from rfl, b1]
        simp (disch := omega) only [lit, ↓reduceIte, ltF, leF, bind_some', fX8_inShed, w7, shr1T, qs, bnd_some, eqF, fX9_chance_92, nI_add, z2]
        exact c1
      · simp (disch := omega) only [lit, ↓reduceIte, leF, a2, bind_some']
        rw [show uI hm1 107 68 (nI 1) = mm from rfl, b2]
        simp (disch := omega) only [lit, bind_some', nI_add, inbN, nI_clamp, ↓reduceIte, w8', eqF, fX10_chance_86]
        exact c2
    · have hb : bn sh x = 0 := by unfold bn; rw [if_neg qs]
      rw [hb] at w8'
      obtain ⟨v, hc', hm', c1, c2, c3, c4, c5, c6, c7⟩ := s_chance1 hS F hn hx X d (k + 1) fu fu' hc2 hm2 m' cnt (by omega) (by omega) (by omega) Rc2 Rm2 w72 z1 z3
      refine ⟨v, hc', hm', ?_, ?_, aC2.tr c3, fun a i q => (c4 a i q).trans (im2 a i q), c5, c6.trans j87, fm2.tr c7⟩
      · simp (disch := omega) only [lit, ↓reduceIte, leF, a1, bind_some']
        rw [show uI hc1 84 4 (nI m) = cc from rfl, b1]
        simp (disch := omega) only [lit, ↓reduceIte, ltF, leF, bind_some', fX8_inShed, w7, shr1T, qs, Bool.false_eq_true, bnd_some, fX9_chance_92, nI_add, z2]
        exact c1
      · simp (disch := omega) only [lit, ↓reduceIte, leF, a2, bind_some']
        rw [show uI hm1 107 68 (nI 1) = mm from rfl, b2]
        simp (disch := omega) only [lit, bind_some', nI_add, inbN, nI_clamp, ↓reduceIte, w8', fX10_chance_86]
        have e0 : cnt + nI 0 = cnt := Int32.add_zero _
        rw [e0]
        exact c2
theorem s_chance {hc hm : Hp} (s : R2 hc hm S T) (x y z : Int32) : Ok2 hc hm (fX9_chance hc x y z) (fX10_chance hm x y z) := by
  have s0 := R2_thr s (nI 0)
  have no : fX9_chance hc x y z = some (-nI 1, hc) → fX10_chance hm x y z = some (-nI 1, uI hm 107 2 (nI 0)) → Ok2 hc hm (fX9_chance hc x y z) (fX10_chance hm x y z) := fun h1 h2 => ok_same s h1 h2
  by_cases qx : x < nI 0
  · refine no ?_ ?_
    · unfold fX9_chance; simp only [lit, if_pos qx]
    · unfold fX10_chance; simp only [lit, if_pos qx]
  · obtain ⟨m, hm31, rfl⟩ := nI_of (show ¬ x < 0 from qx)
    rcases v_in (h := uI hm 107 2 (nI 0)) y 1 99 (by decide) (by decide) with ⟨n, hn1, hn, rfl, e0⟩ | ⟨q, e0⟩
    · rcases v_straw s0.1 z with ⟨i, hi, rfl, e2, e3⟩ | ⟨e2, e3⟩
      · obtain ⟨hS, -, -, F, Rc, Rm, -⟩ := s0.1
        let mm : Hp := uJ (uI hm 107 2 (nI 0)) 107 67 (nI m).toInt64
        have Rm' : RSm mm T := RSm_Fr (PI := fun _ _ => False) (PJ := fun _ _ => True) Rm ⟨fun _ _ _ => rfl, fun a i q => absurd trivial q, fun _ _ => rfl⟩ (fun _ _ _ q => q)
        obtain ⟨v, hc', hm', c1, c2, c3, c4, c5, c6, c7⟩ := s_chance1 hS F hn hi (hJ (uI hm 107 2 (nI 0)) 107 67) 10 0 FU FU hc mm m (nI 0) rfl (by decide) (by decide) Rc Rm' s0.2.1.1 hm31 (by show hJ (uJ _ 107 67 _) 107 67 = _; rw [hJ_at ⟨rfl, rfl⟩, nI_l hm31])
        have aM : AskM (uI hm 107 2 (nI 0)) hm' := by
          refine ⟨fun a i q => c4 a i q, fun j hj => ?_, FMo.tr (h1 := mm) ⟨fun _ _ _ => rfl, fun a i q => hJ_ne (by omega), fun _ _ => rfl⟩ c7⟩
          rcases hj with rfl | rfl
          · exact c5
          · rw [c6]; exact hJ_ne (by omega)
        refine ok_A (v := v) s ?_ ?_ c3 (AskM_t.tr aM)
        · unfold fX9_chance
          simp (disch := omega) only [lit, ↓reduceIte, ltF, e2, bnd_some, eqF]; exact c1
        · unfold fX10_chance
          simp (disch := omega) only [lit, ↓reduceIte, ltF, e0, e3, bnd_some, eqF]; exact c2
      · refine no ?_ ?_
        · unfold fX9_chance; simp (disch := omega) only [lit, ↓reduceIte, ltF, e2, bnd_some]
        · unfold fX10_chance; simp (disch := omega) only [lit, ↓reduceIte, ltF, e0, e3, bnd_some, eqF]
    · refine no ?_ ?_
      · unfold fX9_chance
        simp (disch := omega) only [lit, ↓reduceIte, ltF]
        rcases q with q | q
        · rw [if_pos q]
        · rw [if_neg (ltI_hi 99 1 (by decide) (by decide) q).1, if_pos q]
      · unfold fX10_chance; simp (disch := omega) only [lit, ↓reduceIte, ltF, e0, bnd_some]
end V
