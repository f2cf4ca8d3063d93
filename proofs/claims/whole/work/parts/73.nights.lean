/-! Nights: go, ahead, sheds, tried, chance. -/
def AskC (h h' : Hp) : Prop := (∀ a i, ¬ irC a i → hI h' a i = hI h a i) ∧ (∀ a i, a ≠ 69 → a ≠ 84 → hR h' a i = hR h a i) ∧ FCl h h'
def AskM (h h' : Hp) : Prop := (∀ a i, ¬ irM a i → hI h' a i = hI h a i) ∧ (∀ i, i = 67 ∨ i = 87 → hJ h' 107 i = hJ h 107 i) ∧ FMo h h'
theorem AskC.rf {h : Hp} : AskC h h := ⟨fun _ _ _ => rfl, fun _ _ _ _ => rfl, FCl.rf⟩
theorem AskM.rf {h : Hp} : AskM h h := ⟨fun _ _ _ => rfl, fun _ _ => rfl, FMo.rf⟩
theorem AskC.tr {h h1 h2 : Hp} (a : AskC h h1) (b : AskC h1 h2) : AskC h h2 := ⟨fun x i q => (b.1 x i q).trans (a.1 x i q), fun x i p q => (b.2.1 x i p q).trans (a.2.1 x i p q), a.2.2.tr b.2.2⟩
theorem AskM.tr {h h1 h2 : Hp} (a : AskM h h1) (b : AskM h1 h2) : AskM h h2 := ⟨fun x i q => (b.1 x i q).trans (a.1 x i q), fun i q => (b.2.1 i q).trans (a.2.1 i q), a.2.2.tr b.2.2⟩
theorem AskC_Fr {PI PJ : Nat → Nat → Prop} {h h' : Hp} (f : Fr PI PJ h h') (f1 : ∀ a i, PI a i → irC a i ∧ a < 107) (f2 : ∀ a i, PJ a i → a < 107) : AskC h h' :=
  ⟨fun a i q => f.1 a i (fun z => q (f1 a i z).1), fun a i _ _ => f.2.2 a i, FCl_Fr f (fun a i z => (f1 a i z).2) f2⟩
theorem AskM_Fr {PI PJ : Nat → Nat → Prop} {h h' : Hp} (g : Fr PI PJ h h') (g1 : ∀ a i, PI a i → irM a i ∧ 107 ≤ a ∧ a < 152) (g2 : ∀ a i, PJ a i → ¬ (a = 107 ∧ (i = 67 ∨ i = 87)) ∧ 107 ≤ a ∧ a < 152) : AskM h h' :=
  ⟨fun a i q => g.1 a i (fun z => q (g1 a i z).1), fun i hi => g.2.1 107 i (fun z => (g2 107 i z).1 ⟨rfl, hi⟩), FMo_Fr g (fun a i z => (g1 a i z).2) (fun a i z => (g2 a i z).2)⟩
theorem AskM_t {h : Hp} {v : Int32} : AskM h (uI h 107 2 v) := AskM_Fr (PI := fun a i => a = 107 ∧ i = 2) (PJ := fun _ _ => False) (Fr.uI Fr.rf ⟨rfl, rfl⟩) (fun a i z => by unfold irM; omega) (fun _ _ z => z.elim)
theorem AskM_u {h : Hp} {i : Nat} {v : Int32} (hi : 68 ≤ i ∧ i ≤ 72) : AskM h (uI h 107 i v) := AskM_Fr (PI := fun a k => a = 107 ∧ k = i) (PJ := fun _ _ => False) (Fr.uI Fr.rf ⟨rfl, rfl⟩) (fun a i z => by unfold irM; omega) (fun _ _ z => z.elim)
theorem AskC_u {h : Hp} {i : Nat} {v : Int32} : AskC h (uI h 84 i v) := AskC_Fr (PI := fun a k => a = 84 ∧ k = i) (PJ := fun _ _ => False) (Fr.uI Fr.rf ⟨rfl, rfl⟩) (fun a i z => by unfold irC; omega) (fun _ _ z => z.elim)
theorem AskC_Fo {h h' : Hp} (f : Fo 84 h h') : AskC h h' := ⟨fun a i q => f.1 a i (by unfold irC at q; omega), fun a i _ q => f.2.2 a i (fun z => q z.1), fun a i q => f.1 a i (by omega), fun a i _ => f.2.1 a i, fun a i q => f.2.2 a i (by omega)⟩
theorem AskC_FC {h h' : Hp} (f : FC 84 h h') : AskC h h' := AskC_Fr f (fun a i z => by unfold PcI at z; unfold irC; omega) (fun a i z => by unfold PcJ at z; omega)
theorem AskM_Pl {h h' : Hp} (f : Fr PlI (fun _ _ => False) h h') : AskM h h' := AskM_Fr f (fun a i z => by unfold PlI at z; unfold irM; omega) (fun _ _ z => z.elim)
theorem AskM_FM {h h' : Hp} (f : FM 1 h h') (h67 : hJ h' 107 67 = hJ h 107 67) : AskM h h' := by
  refine ⟨fun a i q => f.1 a i (by unfold PmI; unfold irM at q; omega), fun i hi => ?_, FMo_Fr f (fun a i z => by unfold PmI at z; omega) (fun a i z => by unfold PmJ at z; omega)⟩
  rcases hi with rfl | rfl
  · exact h67
  · exact f.2.1 _ _ (by unfold PmJ; omega)
theorem ok_A {α : Type} {hc hm hc' hm' : Hp} {S : Nat} {T : Tx} {oc om : Option (α × Hp)} {v : α} (s : R2 hc hm S T) (h1 : oc = some (v, hc')) (h2 : om = some (v, hm')) (a : AskC hc hc') (b : AskM hm hm') : Ok2 hc hm oc om :=
  ok_ask s h1 h2 a.1 a.2.1 a.2.2 b.1 b.2.1 b.2.2
theorem R2_A {hc hm hc' hm' : Hp} {S : Nat} {T : Tx} (s : R2 hc hm S T) (a : AskC hc hc') (b : AskM hm hm') : R2 hc' hm' S T := R2_ask s a.1 a.2.1 b.1 b.2.1
theorem FC_RSc {h h' : Hp} {S W : Nat} {T : Tx} (hS : isS S) (hW : isW W) (R : RSc h S T) (f : FC W h h') : RSc h' S T :=
  RSc_Fr hS R f (fun a i h1 h2 q => by have := Wge hW; unfold PcI at q; omega)
theorem FM_RSm {h h' : Hp} {b : Nat} {T : Tx} (R : RSm h T) (f : FM b h h') : RSm h' T :=
  RSm_Fr R f (fun a i h1 q => by unfold PmI at q; omega)
theorem Dr.tr {W b : Nat} {hc hm h1 k1 h2 k2 : Hp} (a : Dr W hc hm h1 k1) (f : FM b hm k1) (c : Dr W h1 k1 h2 k2) : Dr W hc hm h2 k2 := by
  intro z
  obtain ⟨x1, x2⟩ := a z
  obtain ⟨y1, y2⟩ := c (by rw [f.1 _ _ (by unfold PmI; omega)]; exact z)
  exact ⟨y1.trans x1, y2.trans x2⟩
/-- many nights of the trial -/
theorem s_many {S : Nat} {T : Tx} {n : Nat} (hS : isS S) (F : WFT T) (hn : n < 2 ^ 31) : ∀ (d k fu fu' : Nat) (hc hm : Hp), k + d = n → d < fu → d < fu' → RSc hc S T → RSm hm T → RW hc hm S 84 1 T → RG hc hm 84 → ∃ hc' hm', fX8_passNights_2 fu 84 hc (nI n) (nI k) = some hc' ∧ fX10_goMany_2 fu' hm (nI n) (nI k) = some hm' ∧ RW hc' hm' S 84 1 T ∧ RG hc' hm' 84 ∧ FC 84 hc hc' ∧ FM 1 hm hm' ∧ Dr 84 hc hm hc' hm'
  | 0, k, fu + 1, fu' + 1, hc, hm, hk, _, _, Rc, Rm, w, g => by
    have e : k = n := by omega
    subst e
    refine ⟨hc, hm, ?_, ?_, w, g, Fr.rf, Fr.rf, fun _ => ⟨rfl, rfl⟩⟩
    · rw [fX8_passNights_2]; simp (disch := omega) only [↓reduceIte, leT]
    · rw [fX10_goMany_2]; simp (disch := omega) only [↓reduceIte, leT]
  | d + 1, k, fu + 1, fu' + 1, hc, hm, hk, h1, h2, Rc, Rm, w, g => by
    obtain ⟨hc1, hm1, a1, a2, a3, a4, a5, a6, a7⟩ := s_night hS (Or.inr (Or.inr rfl) : isW 84) (by decide : 1 ≤ 1) F Rc Rm w g
    obtain ⟨hc', hm', b1, b2, b3, b4, b5, b6, b7⟩ := s_many hS F hn d (k + 1) fu fu' hc1 hm1 (by omega) (by omega) (by omega) (FC_RSc hS (Or.inr (Or.inr rfl)) Rc a5) (FM_RSm Rm a6) a3 a4
    refine ⟨hc', hm', ?_, ?_, b3, b4, Fr.tr a5 b5, Fr.tr a6 b6, Dr.tr a7 a6 b7⟩
    · rw [fX8_passNights_2]; simp (disch := omega) only [lit, ↓reduceIte, leF, a1, bind_some', nI_add]; exact b1
    · rw [fX10_goMany_2]; simp (disch := omega) only [lit, ↓reduceIte, leF, a2, bind_some', nI_add]; exact b2
theorem s_manyN {hc hm : Hp} {S : Nat} {T : Tx} {n : Nat} (hS : isS S) (F : WFT T) (hn : n ≤ 200) (Rc : RSc hc S T) (Rm : RSm hm T) (w : RW hc hm S 84 1 T) (g : RG hc hm 84) : ∃ hc' hm', fX8_passNights 84 hc (nI n) = some hc' ∧ fX10_goMany hm (nI n) = some hm' ∧ RW hc' hm' S 84 1 T ∧ RG hc' hm' 84 ∧ FC 84 hc hc' ∧ FM 1 hm hm' ∧ Dr 84 hc hm hc' hm' := by
  unfold fX8_passNights fX10_goMany
  simp only [lit]
  exact s_many hS F (by omega) n 0 FU FU hc hm (by omega) (Nat.lt_of_le_of_lt hn (by decide)) (Nat.lt_of_le_of_lt hn (by decide)) Rc Rm w g
section V
variable {hc hm : Hp} {S : Nat} {T : Tx}
/-- a trial as it goes -/
theorem s_start (s : R2 hc hm S T) : ∃ hc' hm', fX9_startTrial hc = some hc' ∧ fX10_layTried hm = some hm' ∧ RW hc' hm' S 84 1 T ∧ RG hc' hm' 84 ∧ hI hm' 107 68 = nI 0 ∧ plainM hm' ∧ hI hc' 84 10 = nI 0 ∧ hI hc' 84 11 = nI 0 ∧ hI hc' 84 12 = nI 0 ∧ hI hc' 84 13 = nI 0 ∧ hI hc' 84 14 = -nI 1 ∧ AskC hc hc' ∧ AskM hm hm' := by
  obtain ⟨hc1, hm1, a1, a2, a3, ⟨p1, p2, p3, p4, p5⟩, q, a6, a7, a8⟩ := s_lay s.1.1 s.1.2.2.2.1 s.2.1.1
  have q0 := q
  obtain ⟨q1, q2, q3, q4, q5⟩ := q
  have e1 : hI (uI hc1 84 10 (nI 0)) 84 11 = nI 0 := by rw [hI_ne (by omega)]; exact p2
  have e2 : hI (uI hc1 84 10 (nI 0)) 84 12 = nI 0 := by rw [hI_ne (by omega)]; exact p3
  have e3 : hI (uI hc1 84 10 (nI 0)) 84 13 = nI 0 := by rw [hI_ne (by omega)]; exact p4
  have e4 : hI (uI hc1 84 10 (nI 0)) 84 14 = -nI 1 := by rw [hI_ne (by omega)]; exact p5
  refine ⟨uI hc1 84 10 (nI 0), hm1, ?_, a2, ?_, ?_, q1, q0, hI_at ⟨rfl, rfl⟩, e1, e2, e3, e4, (AskC_Fo a7).tr AskC_u, AskM_Pl a8⟩
  · unfold fX9_startTrial; simp only [a1, bind_some', lit]
  · obtain ⟨w1, w2, w3, w4, w5, ⟨sh, w6, w7, w8⟩, w9, w10⟩ := a3
    refine ⟨w1, ?_, ?_, ?_, ?_, ⟨sh, w6, ?_, w8⟩, ?_, ?_⟩
    · intro i hi; rw [hI_ne (by omega)]; exact w2 i hi
    · intro i hi h2; rw [hI_ne (by omega)]; exact w3 i hi h2
    · intro i hi; rw [hI_ne (by omega)]; exact w4 i hi
    · intro i hi; rw [hI_ne (by omega), hI_ne (by omega)]; exact w5 i hi
    · rw [hI_ne (by omega)]; exact w7
    · rw [hI_ne (by omega)]; exact w9
    · rw [hI_ne (by omega)]; exact w10
  · exact ⟨⟨0, by decide, hI_at ⟨rfl, rfl⟩, q1, fun z => absurd z (by decide)⟩, ⟨0, by decide, e1, q2⟩, ⟨0, by decide, e2, q3⟩, ⟨0, by decide, e3, q4⟩, by rw [e4, q5]⟩
theorem s_ahead2 (s : R2 hc hm S T) {n : Nat} (hn : n ≤ 200) (w : Nat) (hw : w ≤ 4) (z : Int32) (hz : w = 2 → ∃ i, i < T 0 2 ∧ z = nI i) : Ok2 hc hm (fX9_ahead_35 hc (nI n) (nI w) z) (fX10_ahead_40 hm (nI n) (nI w) z) := by
  obtain ⟨hS, -, -, F, -⟩ := s.1
  obtain ⟨hc1, hm1, a1, a2, a3, a4, a5, -, -, -, -, -, -, a6, a7⟩ := s_start s
  have s1 := R2_A s a6 a7
  obtain ⟨hc2, hm2, b1, b2, b3, b4, b5, b6, b7⟩ := s_manyN hS F hn s1.1.2.2.2.2.1 s1.1.2.2.2.2.2.1 a3 a4
  have aC := a6.tr (AskC_FC b5)
  have aM := a7.tr (AskM_FM b6 (b7 a5).1)
  have s2 := R2_A s aC aM
  obtain ⟨-, -, -, -, Rc, Rm, -⟩ := s2.1
  have w72 := s2.2.1.1
  have hW : isW 72 := Or.inl rfl
  have hW4 : isW 84 := Or.inr (Or.inr rfl)
  have h5 := F.1.2.2.1
  unfold fX9_ahead_35 fX10_ahead_40
  simp only [lit, a1, a2, bind_some', b1, b2]
  have it : ∀ w, w ≤ 3 → (inT (nI w) 0 3 = true) = True := fun w hw => eq_true ((by decide : ∀ w, w ≤ 3 → inT (nI w) 0 3 = true) w hw)
  have it4 : (inT (nI 4) 0 3 = true) = False := eq_false (by decide)
  have cn : w = 0 ∨ w = 1 ∨ w = 2 ∨ w = 3 ∨ w = 4 := by omega
  rcases cn with rfl | rfl | rfl | rfl | rfl
  · obtain ⟨x1, x2⟩ := s_won hW4 (by decide : 1 ≤ 1) b3
    obtain ⟨y1, y2⟩ := s_won hW (by decide : 0 ≤ 1) w72
    refine ok_A (v := sm (fun i => hI hc2 (84 + 3) i) 5 - sm (fun i => hI hc2 (72 + 3) i) 5) s ?_ ?_ aC aM
    · simp (disch := omega) only [it, ↓reduceIte, x1, y1, bnd_some]
    · simp (disch := omega) only [it, ↓reduceIte, x2, y2, bnd_some]
  · obtain ⟨x1, x2⟩ := s_bea hW4 (by decide : 1 ≤ 1) b3
    obtain ⟨y1, y2⟩ := s_bea hW (by decide : 0 ≤ 1) w72
    refine ok_A (v := sm (fun i => hI hc2 (84 + 4) i) 5 - sm (fun i => hI hc2 (72 + 4) i) 5) s ?_ ?_ aC aM
    · simp (disch := omega) only [it, ↓reduceIte, eqF, x1, y1, bnd_some]
    · simp (disch := omega) only [it, ↓reduceIte, eqF, x2, y2, bnd_some]
  · obtain ⟨i, hi, rfl⟩ := hz rfl
    obtain ⟨fl, f1, f2, f3⟩ := b3.2.1 i hi
    rw [show 5 * 1 + i = 5 + i by omega] at f3
    refine ok_A (v := nI fl) s ?_ ?_ aC aM
    · simp (disch := omega) only [lit, it, ↓reduceIte, eqF, fX8_fullOf, ltF, leF, inbN, nI_clamp, rW5 hW4, f2, bnd_some]
    · simp (disch := omega) only [it, ↓reduceIte, eqF, nI_add, inbN, nI_clamp, f3]
  · obtain ⟨v, x1, x2⟩ := s_shedn (by decide : 1 ≤ 1) F Rm b3
    refine ok_A (v := v) s ?_ ?_ aC aM
    · simp (disch := omega) only [it, ↓reduceIte, eqF, x1, bnd_some]
    · simp (disch := omega) only [it, ↓reduceIte, eqF, x2, bnd_some]
  · refine ok_A (v := hI hc2 84 3 - hI hc2 72 3) s ?_ ?_ aC aM
    · simp (disch := omega) only [it4, ↓reduceIte]
    · simp (disch := omega) only [it4, ↓reduceIte, inbN, nI_clamp]
      rw [b3.2.2.2.2.2.2.2, w72.2.2.2.2.2.2.2]
theorem Ok2_thr {α : Type} {oc om : Option (α × Hp)} {v : Int32} (o : Ok2 hc (uI hm 107 2 v) oc om) : Ok2 hc hm oc om := by
  obtain ⟨x, a, b, c, d, e, f, g⟩ := o
  exact ⟨x, a, b, c, d, e, f, FMo.tr (FMo_uI FMo.rf (by omega)) g⟩
theorem s_ahead (s : R2 hc hm S T) (x y z : Int32) : Ok2 hc hm (fX9_ahead hc x y z) (fX10_ahead hm x y z) := by
  have s0 := R2_thr s (nI 0)
  have no : fX9_ahead hc x y z = some (-nI 1, hc) → fX10_ahead hm x y z = some (-nI 1, uI hm 107 2 (nI 0)) → Ok2 hc hm (fX9_ahead hc x y z) (fX10_ahead hm x y z) := fun h1 h2 => ok_same s h1 h2
  rcases v_in (h := uI hm 107 2 (nI 0)) x 0 200 (by decide) (by decide) with ⟨n, -, hn, rfl, e0⟩ | ⟨q, e0⟩
  · rcases v_in (h := uI hm 107 2 (nI 0)) y 0 4 (by decide) (by decide) with ⟨w, -, hw, rfl, e1⟩ | ⟨q, e1⟩
    · by_cases q2 : w = 2
      · subst q2
        rcases v_straw s0.1 z with ⟨i, hi, rfl, e2, e3⟩ | ⟨e2, e3⟩
        · have o := s_ahead2 s0 hn 2 hw (nI i) (fun _ => ⟨i, hi, rfl⟩)
          have ec : fX9_ahead hc (nI n) (nI 2) (nI i) = fX9_ahead_35 hc (nI n) (nI 2) (nI i) := by
            unfold fX9_ahead; simp (disch := omega) only [lit, ↓reduceIte, ltF, e2, bnd_some, eqF]
          have em : fX10_ahead hm (nI n) (nI 2) (nI i) = fX10_ahead_40 (uI hm 107 2 (nI 0)) (nI n) (nI 2) (nI i) := by
            unfold fX10_ahead; simp (disch := omega) only [lit, e0, e1, bnd_some, ↓reduceIte, eqF, e3]
          rw [ec, em]; exact Ok2_thr o
        · refine no ?_ ?_
          · unfold fX9_ahead; simp (disch := omega) only [lit, ↓reduceIte, ltF, e2, bnd_some]
          · unfold fX10_ahead; simp (disch := omega) only [lit, e0, e1, bnd_some, ↓reduceIte, eqF, e3]
      · have o := s_ahead2 s0 hn w hw z (fun e => absurd e q2)
        have ec : fX9_ahead hc (nI n) (nI w) z = fX9_ahead_35 hc (nI n) (nI w) z := by
          unfold fX9_ahead; simp (disch := omega) only [lit, ↓reduceIte, ltF, eqF]
        have em : fX10_ahead hm (nI n) (nI w) z = fX10_ahead_40 (uI hm 107 2 (nI 0)) (nI n) (nI w) z := by
          unfold fX10_ahead; simp (disch := omega) only [lit, e0, e1, bnd_some, ↓reduceIte, eqF]
        rw [ec, em]; exact Ok2_thr o
    · refine no ?_ ?_
      · unfold fX9_ahead
        simp (disch := omega) only [lit, ↓reduceIte, ltF]
        rcases q with q | q
        · rw [if_pos q]
        · rw [if_neg (ltI_hi 4 0 (by decide) (by decide) q).1, if_pos q]
      · unfold fX10_ahead; simp (disch := omega) only [lit, e0, e1, bnd_some, ↓reduceIte, eqF]
  · refine no ?_ ?_
    · unfold fX9_ahead
      simp only [lit]
      rcases q with q | q
      · rw [if_pos q]
      · rw [if_neg (ltI_hi 200 0 (by decide) (by decide) q).1, if_pos q]
    · unfold fX10_ahead; simp (disch := omega) only [lit, e0, bnd_some, ↓reduceIte]
end V
