/-! ask. -/
def chN (w : Nat → Nat) (s th : Nat) : Nat → Nat
  | 0 => 0
  | k + 1 => chN w s th k + (if s.testBit k = true ∧ th ≤ w k then 1 else 0)
theorem chN_le {w : Nat → Nat} {s th : Nat} : ∀ k, chN w s th k ≤ popN s k
  | 0 => Nat.le_refl _
  | k + 1 => by
    have := chN_le (w := w) (s := s) (th := th) k
    rw [chN, popN]
    unfold bn
    by_cases q : s.testBit k = true
    · rw [if_pos q]; split <;> omega
    · rw [if_neg q, if_neg (fun z => q z.1)]; omega
theorem chN_hi {w : Nat → Nat} {s th n : Nat} (h : s < 2 ^ n) : ∀ {d : Nat}, chN w s th (n + d) = chN w s th n
  | 0 => rfl
  | d + 1 => by
    show chN w s th (n + d) + (if s.testBit (n + d) = true ∧ th ≤ w (n + d) then 1 else 0) = _
    have q : ¬ (s.testBit (n + d) = true ∧ th ≤ w (n + d)) := fun z => by
      have := z.1
      rw [lt_tb h (by omega)] at this; cases this
    rw [chN_hi h, if_neg q]; rfl
theorem chN_0 {w : Nat → Nat} {s : Nat} : ∀ k, chN w s 0 k = popN s k
  | 0 => rfl
  | k + 1 => by
    rw [chN, popN, chN_0 k]
    unfold bn
    by_cases q : s.testBit k = true
    · rw [if_pos q, if_pos ⟨q, Nat.zero_le _⟩]
    · rw [if_neg q, if_neg (fun z => q z.1)]
section V
variable {hc hm : Hp} {S : Nat} {T : Tx}
theorem x_ch1 (hS : isS S) (R : RSc hc S T) (F : WFT T) {B th : Nat} (hB : B < 2 ^ T 0 0) (hth : th < 2 ^ 31) : ∀ (d k fu : Nat), k + d = 8 → d < fu → fX0_countHeavy_5 fu (S + 1) hc (nI B) (nI th) (nI (chN (T 2) B th k)) (nI k) = some (nI (chN (T 2) B th 8), hc)
  | 0, k, fu + 1, hk, _ => by
    have e : k = 8 := by omega
    subst e
    rw [fX0_countHeavy_5]; simp (disch := omega) only [lit, ↓reduceIte, leT]
  | d + 1, k, fu + 1, hk, hf => by
    have ih := x_ch1 hS R F hB hth d (k + 1) fu (by omega) (by omega)
    have h256 := p8 hB F.1.1
    have ec : chN (T 2) B th (k + 1) = chN (T 2) B th k + (if B.testBit k = true ∧ th ≤ T 2 k then 1 else 0) := rfl
    rw [fX0_countHeavy_5]
    by_cases q : B.testBit k = true
    · have hk2 := tb_in hB q
      have hw := (R.2.1 k hk2).2.1
      have hw9 := (F.2.1 k hk2).2.1
      by_cases q2 : th ≤ T 2 k
      · rw [if_pos ⟨q, q2⟩] at ec
        rw [ec] at ih
        simp (disch := omega) only [lit, ↓reduceIte, leF, shr1T, q, inbN, nI_clamp, rC1 hS, hw, ltF, fX0_countHeavy_36, nI_add]
        exact ih
      · rw [if_neg (fun z => q2 z.2)] at ec
        rw [ec] at ih
        simp (disch := omega) only [lit, ↓reduceIte, leF, shr1T, q, inbN, nI_clamp, rC1 hS, hw, ltT, fX0_countHeavy_36, nI_add]
        exact ih
    · rw [if_neg (fun z => q z.1)] at ec
      rw [ec] at ih
      simp (disch := omega) only [lit, ↓reduceIte, leF, shr1T, q, Bool.false_eq_true, fX0_countHeavy_36, nI_add]
      exact ih
theorem m_ch1 (R : RSm hm T) (F : WFT T) {B th : Nat} {x2 x4 x5 : Int32} (hB : B < 2 ^ T 0 0) (hth : th < 2 ^ 31) {rec : Hp → Int32 → Int32 → Int32 → Int32 → Int32 → Option (Int32 × Hp)} : ∀ (d k fu : Nat), k + d = T 0 0 → d < fu → fX10_ask_52 fu rec hm x2 (nI B) x4 x5 (nI th) (nI (chN (T 2) B th k)) (nI k) = fX10_ask_121 rec hm x2 (nI B) x4 x5 (nI th) (nI (max (chN (T 2) B th (T 0 0)) (pop B - chN (T 2) B th (T 0 0))))
  | 0, k, fu + 1, hk, _ => by
    have e : k = T 0 0 := by omega
    subst e
    have h8 := F.1.1
    have h256 := p8 hB h8
    have hle : chN (T 2) B th (T 0 0) ≤ pop B := by rw [pop_hi hB (by omega)]; exact chN_le _
    have hp := pop_le B
    rw [fX10_ask_52]
    by_cases q : chN (T 2) B th (T 0 0) ≤ pop B - chN (T 2) B th (T 0 0)
    · simp (disch := omega) only [lit, R.1.1, ↓reduceIte, leT, m_many, bnd_some, pk_sub]
      rw [Nat.max_eq_right q]
    · simp (disch := omega) only [lit, R.1.1, ↓reduceIte, leT, leF, m_many, bnd_some, pk_sub]
      rw [Nat.max_eq_left (by omega)]
  | d + 1, k, fu + 1, hk, hf => by
    have ih := m_ch1 R F (x2 := x2) (x4 := x4) (x5 := x5) hB hth (rec := rec) d (k + 1) fu (by omega) (by omega)
    have h8 := F.1.1
    have h256 := p8 hB h8
    have hw := (R.2.1 k (by omega)).2.1
    have hw9 := (F.2.1 k (by omega)).2.1
    have ec : chN (T 2) B th (k + 1) = chN (T 2) B th k + (if B.testBit k = true ∧ th ≤ T 2 k then 1 else 0) := rfl
    rw [← ih, fX10_ask_52]
    by_cases q : B.testBit k = true
    · by_cases q2 : th ≤ T 2 k
      · rw [if_pos ⟨q, q2⟩] at ec
        rw [ec]
        simp (disch := omega) only [lit, R.1.1, ↓reduceIte, leF, fX10_isOf, shr1T, q, bnd_some, eqF, inbN, nI_clamp, hw, ltF, fX10_ask_89, nI_add]
      · rw [if_neg (fun z => q2 z.2)] at ec
        rw [ec]
        simp (disch := omega) only [lit, R.1.1, ↓reduceIte, leF, fX10_isOf, shr1T, q, bnd_some, eqF, inbN, nI_clamp, hw, ltT, fX10_ask_88, fX10_ask_89, nI_add]
    · rw [if_neg (fun z => q z.1)] at ec
      rw [ec]
      simp (disch := omega) only [lit, R.1.1, ↓reduceIte, leF, fX10_isOf, shr1T, q, Bool.false_eq_true, bnd_some, fX10_ask_88, fX10_ask_89, nI_add]
theorem mxI {a b : Nat} (ha : a ≤ 9) (hb : b ≤ a) : (if nI b < nI a - nI b then nI a - nI b else nI b) = nI (max b (a - b)) := by
  rw [pk_sub hb]
  by_cases q : b < a - b
  · rw [if_pos (nI_lt q (by omega)), Nat.max_eq_right (by omega)]
  · rw [if_neg (nI_nlt (by omega) (by omega)), Nat.max_eq_left (by omega)]
theorem s_ask1 (s : R2 hc hm S T) {B w : Nat} (hB : B < 2 ^ T 0 0) (hw : w ≤ 1) : ∀ (d k fu fu' bw bl : Nat), k + d = 100 → d < fu → d < fu' → bl ≤ 9 → ∃ R, fX9_ask_41 fu hc (nI w) (nI B) (nI (pop B)) (nI bw) (nI bl) (nI k) = some (R, hc) ∧ fX10_ask_39 fu' hm (nI w) (nI B) (nI bw) (nI bl) (nI k) = some (R, hm)
  | 0, k, fu + 1, fu' + 1, bw, bl, hk, _, _, _ => by
    have e : k = 100 := by omega
    subst e
    rw [fX9_ask_41, fX10_ask_39]
    by_cases q : w = 0
    · subst q
      refine ⟨nI bw, ?_, ?_⟩ <;> simp (disch := omega) only [lit, ↓reduceIte, ltT, leT]
    · refine ⟨nI bl, ?_, ?_⟩ <;> simp (disch := omega) only [lit, ↓reduceIte, ltT, leT, eqF]
  | d + 1, k, fu + 1, fu' + 1, bw, bl, hk, h1, h2, hbl => by
    obtain ⟨hS, t1, -, F, Rc, Rm, -⟩ := s.1
    have h8 := F.1.1
    have e0 := dref_of (q := (7, 20)) t1 (sS hS)
    have hp := pop_le B
    have hle : chN (T 2) B k (T 0 0) ≤ pop B := by rw [pop_hi hB (by omega)]; exact chN_le _
    have e8 : chN (T 2) B k 8 = chN (T 2) B k (T 0 0) := by
      have := chN_hi (w := T 2) (th := k) hB (d := 8 - T 0 0)
      rwa [show T 0 0 + (8 - T 0 0) = 8 by omega] at this
    have ex : fX0_countHeavy (S + 1) hc (nI B) (nI k) = some (nI (chN (T 2) B k (T 0 0)), hc) := by
      unfold fX0_countHeavy
      have := x_ch1 hS Rc F hB (show k < 2 ^ 31 by omega) 8 0 FU rfl (by decide)
      rw [e8] at this
      exact this
    have em := m_ch1 (x2 := nI w) (x4 := nI bw) (x5 := nI bl) (th := k) Rm F hB (by omega) (rec := fX10_ask_39 fu') (T 0 0) 0 FU (by omega) (Nat.lt_of_le_of_lt h8 (by decide))
    have em' : fX10_ask_52 FU (fX10_ask_39 fu') hm (nI w) (nI B) (nI bw) (nI bl) (nI k) (nI 0) (nI 0) = fX10_ask_121 (fX10_ask_39 fu') hm (nI w) (nI B) (nI bw) (nI bl) (nI k) (nI (max (chN (T 2) B k (T 0 0)) (pop B - chN (T 2) B k (T 0 0)))) := em
    have hmx : max (chN (T 2) B k (T 0 0)) (pop B - chN (T 2) B k (T 0 0)) ≤ 9 := by omega
    rw [fX9_ask_41, fX10_ask_39]
    by_cases q : bl ≤ max (chN (T 2) B k (T 0 0)) (pop B - chN (T 2) B k (T 0 0))
    · obtain ⟨R, a1, a2⟩ := s_ask1 s hB hw d (k + 1) fu fu' bw bl (by omega) (by omega) (by omega) hbl
      refine ⟨R, ?_, ?_⟩
      · simp (disch := omega) only [lit, ↓reduceIte, ltF, e0, bind_some', rS0 hS, ex, bnd_some, mxI hp hle, leT, fX9_ask_90, nI_add]
        exact a1
      · simp (disch := omega) only [lit, ↓reduceIte, leF, em', fX10_ask_121, ltF, fX10_ask_146, nI_add]
        exact a2
    · obtain ⟨R, a1, a2⟩ := s_ask1 s hB hw d (k + 1) fu fu' k (max (chN (T 2) B k (T 0 0)) (pop B - chN (T 2) B k (T 0 0))) (by omega) (by omega) (by omega) hmx
      refine ⟨R, ?_, ?_⟩
      · simp (disch := omega) only [lit, ↓reduceIte, ltF, e0, bind_some', rS0 hS, ex, bnd_some, mxI hp hle, leF, fX9_ask_90, nI_add]
        exact a1
      · simp (disch := omega) only [lit, ↓reduceIte, leF, em', fX10_ask_121, ltF, ltT, fX10_ask_138, fX10_ask_146, nI_add]
        exact a2
theorem s_ask (s : R2 hc hm S T) (x y : Int32) : Ok2 hc hm (fX9_ask hc x y) (fX10_ask hm x y) := by
  have s0 := R2_thr s (nI 0)
  have no : fX9_ask hc x y = some (-nI 1, hc) → fX10_ask hm x y = some (-nI 1, uI hm 107 2 (nI 0)) → Ok2 hc hm (fX9_ask hc x y) (fX10_ask hm x y) := fun h1 h2 => ok_same s h1 h2
  rcases v_member s0.1 x with ⟨m, hmM, rfl, e1, e2⟩ | ⟨e1, e2⟩
  · rcases v_in (h := uI hm 107 2 (nI 0)) y 0 1 (by decide) (by decide) with ⟨w, -, hw, rfl, e3⟩ | ⟨q, e3⟩
    · obtain ⟨B, hc1, hm1, b0, b1, b2, b3, b4⟩ := s_heldBits s0 hmM
      have s1 := R2_A s0 b3 b4
      obtain ⟨hS, t1, -, F, Rc, Rm, -⟩ := s1.1
      have h8 := F.1.1
      have hp := pop_le B
      have h256 := p8 b0 h8
      -- the first weight
      have c0 : chN (T 2) B 0 (T 0 0) = pop B := by rw [chN_0, pop_hi b0 (by omega)]
      have em : fX10_ask_52 FU (fX10_ask_39 99999) hm1 (nI w) (nI B) (nI 0) (-nI 1) (nI 0) (nI 0) (nI 0) = fX10_ask_121 (fX10_ask_39 99999) hm1 (nI w) (nI B) (nI 0) (-nI 1) (nI 0) (nI (max (chN (T 2) B 0 (T 0 0)) (pop B - chN (T 2) B 0 (T 0 0)))) := m_ch1 (x2 := nI w) (x4 := nI 0) (x5 := -nI 1) (th := 0) Rm F b0 (by omega) (T 0 0) 0 FU (by omega) (Nat.lt_of_le_of_lt h8 (by decide))
      rw [c0, Nat.sub_self, Nat.max_eq_left (Nat.zero_le _)] at em
      obtain ⟨R, a1, -⟩ := s_ask1 s1 b0 hw 100 0 FU FU 0 (pop B) (by omega) (by decide) (by decide) hp
      obtain ⟨R', a1', a2'⟩ := s_ask1 s1 b0 hw 99 1 99999 99999 0 (pop B) (by omega) (by decide) (by decide) hp
      have hR : R = R' := by
        have e0 := dref_of (q := (7, 20)) t1 (sS hS)
        have e8 : chN (T 2) B 0 8 = chN (T 2) B 0 (T 0 0) := by
          have := chN_hi (w := T 2) (th := 0) b0 (d := 8 - T 0 0)
          rwa [show T 0 0 + (8 - T 0 0) = 8 by omega] at this
        have ex : fX0_countHeavy (S + 1) hc1 (nI B) (nI 0) = some (nI (pop B), hc1) := by
          unfold fX0_countHeavy
          have := x_ch1 hS Rc F b0 (show 0 < 2 ^ 31 by omega) 8 0 FU rfl (by decide)
          rw [e8, c0] at this
          exact this
        have hF : FU = 99999 + 1 := rfl
        rw [hF, fX9_ask_41] at a1
        have hmx := mxI hp (Nat.le_refl (pop B))
        rw [Nat.sub_self, Nat.max_eq_left (Nat.zero_le _)] at hmx
        simp (disch := omega) only [lit, ↓reduceIte, ltF, e0, bind_some', rS0 hS, ex, bnd_some, hmx, leT, fX9_ask_90, nI_add] at a1
        rw [show 0 + 1 = 1 from rfl, a1'] at a1
        exact ((Prod.mk.inj (Option.some.inj a1)).1).symm
      subst hR
      refine ok_A (v := R) s ?_ ?_ b3 (AskM_t.tr b4)
      · unfold fX9_ask
        simp (disch := omega) only [lit, e1, bnd_some, ↓reduceIte, eqF, ltF, leT, b1, x_bc]
        exact a1
      · unfold fX10_ask
        simp (disch := omega) only [lit, e2, e3, bnd_some, ↓reduceIte, eqF, b2]
        have hF : FU = 99999 + 1 := rfl
        rw [hF, fX10_ask_39]
        simp (disch := omega) only [lit, ↓reduceIte, leF]
        rw [em]
        unfold fX10_ask_121 fX10_ask_138 fX10_ask_146
        simp only [lit]
        rw [if_pos (by decide), nI_add]
        exact a2'
    · refine no ?_ ?_
      · unfold fX9_ask
        simp (disch := omega) only [lit, e1, bnd_some, ↓reduceIte, eqF]
        rcases q with q | q
        · rw [if_pos q]
        · rw [if_neg (ltI_hi 1 0 (by decide) (by decide) q).1, if_neg (Int32.not_le.mpr q)]
      · unfold fX10_ask; simp (disch := omega) only [lit, e2, e3, bnd_some, ↓reduceIte, eqF]
  · refine no ?_ ?_
    · unfold fX9_ask; simp (disch := omega) only [lit, e1, bnd_some, ↓reduceIte]
    · unfold fX10_ask; simp (disch := omega) only [lit, e2, bnd_some, ↓reduceIte]
end V
