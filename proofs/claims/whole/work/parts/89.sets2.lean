/-! set, standing, stand, largest. -/
def cntP (p : Nat → Bool) : Nat → Nat
  | 0 => 0
  | k + 1 => cntP p k + b2n (p k)
def andP (p : Nat → Bool) (a : Nat) : Nat → Nat
  | 0 => a
  | k + 1 => if p k = true then andP p a k &&& k else andP p a k
def orP (p : Nat → Bool) : Nat → Nat
  | 0 => 0
  | k + 1 => if p k = true then orP p k ||| k else orP p k
theorem cntP_le (p : Nat → Bool) : ∀ k, cntP p k ≤ k
  | 0 => Nat.le_refl _
  | k + 1 => by have := cntP_le p k; have := b2n_le (p k); rw [cntP]; omega
theorem orP_0 {p : Nat → Bool} : ∀ {k : Nat}, cntP p k = 0 → orP p k = 0
  | 0, _ => rfl
  | k + 1, h => by
    rw [cntP] at h
    rw [orP]
    cases q : p k
    · simp only [Bool.false_eq_true, ↓reduceIte]; exact orP_0 (by omega)
    · rw [q] at h; exact absurd h (Nat.succ_ne_zero (cntP p k))
def lgP (T : Tx) : Nat → Nat
  | 0 => 0
  | k + 1 => if pop k ≤ pop (lgP T k) then lgP T k else if dfB T k = true then k else lgP T k
theorem lgP_le (T : Tx) : ∀ k, lgP T k ≤ k
  | 0 => Nat.le_refl _
  | k + 1 => by have := lgP_le T k; rw [lgP]; split <;> (try split) <;> omega
theorem nI_dec {a : Nat} (h : 1 ≤ a) : nI a + -nI 1 = nI (a - 1) := by
  rw [← Int32.sub_eq_add_neg]; exact pk_sub h
theorem b2nT : b2n true = 1 := rfl
theorem b2nF : b2n false = 0 := rfl
section V
variable {hc hm : Hp} {S : Nat} {T : Tx}
theorem x_cnt1 (hS : isS S) (R : RSc hc S T) (F : WFT T) : ∀ (d k fu : Nat), k + d = 2 ^ T 0 0 → d < fu → fX0_standingCount_9 fu (S + 1) hc (nI (2 ^ T 0 0 - 1)) (nI (cntP (stdB T) k)) (nI k) = some (nI (cntP (stdB T) (2 ^ T 0 0)), hc)
  | 0, k, fu + 1, hk, _ => by
    have e : k = 2 ^ T 0 0 := by omega
    have hp := pow8 F.1.1
    rw [fX0_standingCount_9]; simp (disch := omega) only [lit, ↓reduceIte, ltT]; rw [e]
  | d + 1, k, fu + 1, hk, hf => by
    have ih := x_cnt1 hS R F d (k + 1) fu (by omega) (by omega)
    have hp := pow8 F.1.1
    rw [cntP] at ih
    rw [fX0_standingCount_9]
    cases q : stdB T k
    · rw [q, b2nF, Nat.add_zero] at ih
      simp (disch := omega) only [lit, ↓reduceIte, ltF, x_st hS R F, q, bnd_some, b2nF, fX0_standingCount_25, nI_add]
      exact ih
    · rw [q, b2nT] at ih
      simp (disch := omega) only [lit, ↓reduceIte, ltF, x_st hS R F, q, bnd_some, b2nT, eqF, fX0_standingCount_25, nI_add]
      exact ih
theorem x_any1 (hS : isS S) (R : RSc hc S T) (F : WFT T) : ∀ (d k fu : Nat), k + d = 2 ^ T 0 0 → d < fu → fX0_inAnyStanding_9 fu (S + 1) hc (nI (2 ^ T 0 0 - 1)) (nI (orP (stdB T) k)) (nI k) = some (nI (orP (stdB T) (2 ^ T 0 0)), hc)
  | 0, k, fu + 1, hk, _ => by
    have e : k = 2 ^ T 0 0 := by omega
    have hp := pow8 F.1.1
    rw [fX0_inAnyStanding_9]; simp (disch := omega) only [lit, ↓reduceIte, ltT]; rw [e]
  | d + 1, k, fu + 1, hk, hf => by
    have ih := x_any1 hS R F d (k + 1) fu (by omega) (by omega)
    have hp := pow8 F.1.1
    rw [orP] at ih
    rw [fX0_inAnyStanding_9]
    cases q : stdB T k
    · rw [q, if_neg Bool.false_ne_true] at ih
      simp (disch := omega) only [lit, ↓reduceIte, ltF, x_st hS R F, q, bnd_some, b2nF, fX0_inAnyStanding_26, nI_add]
      exact ih
    · rw [q, if_pos rfl] at ih
      simp (disch := omega) only [lit, ↓reduceIte, ltF, x_st hS R F, q, bnd_some, b2nT, eqF, fX0_inAnyStanding_26, nI_add, nx_o]
      exact ih
def fl (n : Nat) : Nat := if n = 0 then 0 else 1
theorem fl_le (n : Nat) : fl n ≤ 1 := by unfold fl; split <;> omega
theorem x_al1 (hS : isS S) (R : RSc hc S T) (F : WFT T) : ∀ (d k fu : Nat), k + d = 2 ^ T 0 0 → d < fu → fX0_inAllStanding_12 fu (S + 1) hc (nI (2 ^ T 0 0 - 1)) (nI (andP (stdB T) (2 ^ T 0 0 - 1) k)) (nI (fl (cntP (stdB T) k))) (nI k) = some (nI (if cntP (stdB T) (2 ^ T 0 0) = 0 then 0 else andP (stdB T) (2 ^ T 0 0 - 1) (2 ^ T 0 0)), hc)
  | 0, k, fu + 1, hk, _ => by
    have e : k = 2 ^ T 0 0 := by omega
    have hp := pow8 F.1.1
    rw [fX0_inAllStanding_12]
    by_cases q : cntP (stdB T) k = 0
    · simp (disch := omega) only [lit, ↓reduceIte, ltT, fl, q]; rw [← e, if_pos q]
    · simp (disch := omega) only [lit, ↓reduceIte, ltT, fl, q, eqF]; rw [← e, if_neg q]
  | d + 1, k, fu + 1, hk, hf => by
    have ih := x_al1 hS R F d (k + 1) fu (by omega) (by omega)
    have hp := pow8 F.1.1
    rw [andP, cntP] at ih
    rw [fX0_inAllStanding_12]
    cases q : stdB T k
    · rw [q, if_neg Bool.false_ne_true, b2nF, Nat.add_zero] at ih
      simp (disch := omega) only [lit, ↓reduceIte, ltF, x_st hS R F, q, bnd_some, b2nF, fX0_inAllStanding_34, nI_add]
      exact ih
    · rw [q, if_pos rfl, b2nT, show fl (cntP (stdB T) k + 1) = 1 from if_neg (by omega)] at ih
      simp (disch := omega) only [lit, ↓reduceIte, ltF, x_st hS R F, q, bnd_some, b2nT, eqF, fX0_inAllStanding_34, nI_add, nx_a]
      exact ih
theorem m_std1 (R : RSm hm T) (F : WFT T) {x : Nat} (hx : x ≤ 2) : ∀ (d k fu : Nat), k + d = 2 ^ T 0 0 → d < fu → fX10_standing_33 fu hm (nI x) (nI (cntP (stdB T) k)) (nI (andP (stdB T) (2 ^ T 0 0 - 1) k)) (nI (orP (stdB T) k)) (nI k) = some (nI (if x = 0 then cntP (stdB T) (2 ^ T 0 0) else if cntP (stdB T) (2 ^ T 0 0) = 0 then 0 else if x = 1 then andP (stdB T) (2 ^ T 0 0 - 1) (2 ^ T 0 0) else orP (stdB T) (2 ^ T 0 0)), hm)
  | 0, k, fu + 1, hk, _ => by
    have e : k = 2 ^ T 0 0 := by omega
    have hp := pow8 F.1.1
    have h8 := F.1.1
    have hcl := cntP_le (stdB T) k
    rw [fX10_standing_33]
    rw [← e]
    rcases (by omega : x = 0 ∨ x = 1 ∨ x = 2) with rfl | rfl | rfl
    · simp (disch := omega) only [lit, R.1.1, shl1, ↓reduceIte, leT]
    · by_cases q : cntP (stdB T) k = 0
      · simp (disch := omega) only [lit, R.1.1, shl1, ↓reduceIte, leT, eqF, q]; rfl
      · simp (disch := omega) only [lit, R.1.1, shl1, ↓reduceIte, leT, eqF, q]; rfl
    · by_cases q : cntP (stdB T) k = 0
      · simp (disch := omega) only [lit, R.1.1, shl1, ↓reduceIte, leT, eqF, q]; rfl
      · simp (disch := omega) only [lit, R.1.1, shl1, ↓reduceIte, leT, eqF, q]; rfl
  | d + 1, k, fu + 1, hk, hf => by
    have ih := m_std1 R F hx d (k + 1) fu (by omega) (by omega)
    have hp := pow8 F.1.1
    have h8 := F.1.1
    rw [andP, cntP, orP] at ih
    rw [fX10_standing_33]
    cases q : stdB T k
    · rw [q, if_neg Bool.false_ne_true, if_neg Bool.false_ne_true, b2nF, Nat.add_zero] at ih
      simp (disch := omega) only [lit, R.1.1, shl1, ↓reduceIte, leF, m_st R F, q, bnd_some, b2nF, fX10_standing_71, nI_add]
      exact ih
    · rw [q, if_pos rfl, if_pos rfl, b2nT] at ih
      simp (disch := omega) only [lit, R.1.1, shl1, ↓reduceIte, leF, m_st R F, q, bnd_some, b2nT, eqF, fX10_standing_71, nI_add, nx_o]
      rw [nx_a]
      exact ih
theorem s_standing (s : R2 hc hm S T) (x : Int32) : Ok2 hc hm (fX9_standing hc x) (fX10_standing hm x) := by
  have s0 := R2_thr s (nI 0)
  obtain ⟨hS, t1, -, F, Rc, Rm, -⟩ := s0.1
  have e0 := dref_of (q := (7, 20)) t1 (sS hS)
  have hp := pow8 F.1.1
  have h8 := F.1.1
  unfold fX9_standing fX10_standing
  by_cases q : inT x 0 2 = true
  · obtain ⟨n, hn, rfl, -⟩ := inT_ex q
    have cn : n = 0 ∨ n = 1 ∨ n = 2 := by omega
    have m := m_std1 Rm F (show n ≤ 2 by omega) (2 ^ T 0 0) 0 FU (by omega) (by show 2 ^ T 0 0 < 100000; omega)
    simp only [andP, cntP, orP] at m
    have i1 : fX10_isIn (uI hm 107 2 (nI 0)) (nI n) (nI 0) (nI 2) = some (nI 1, uI hm 107 2 (nI 0)) := by
      unfold fX10_isIn; simp (disch := omega) only [lit, ↓reduceIte, ltF]
    rcases cn with rfl | rfl | rfl
    · refine ok_same s (x := nI 0) (v := nI (cntP (stdB T) (2 ^ T 0 0))) ?_ ?_
      · have e := x_cnt1 hS Rc F (2 ^ T 0 0) 0 FU (by omega) (by show 2 ^ T 0 0 < 100000; omega)
        simp only [cntP] at e
        simp (disch := omega) only [lit, ↓reduceIte, q, e0, bind_some', rS0 hS, fX0_standingCount, x_all hS Rc F, bnd_some, e]
      · simp (disch := omega) only [lit, i1, ↓reduceIte, bnd_some, eqF, Rm.1.1, shl1, pk_sub, m]
    · refine ok_same s (x := nI 0) (v := nI (if cntP (stdB T) (2 ^ T 0 0) = 0 then 0 else andP (stdB T) (2 ^ T 0 0 - 1) (2 ^ T 0 0))) ?_ ?_
      · have e := x_al1 hS Rc F (2 ^ T 0 0) 0 FU (by omega) (by show 2 ^ T 0 0 < 100000; omega)
        simp only [cntP, andP, fl, ↓reduceIte] at e
        simp (disch := omega) only [lit, ↓reduceIte, q, eqF, e0, bind_some', rS0 hS, fX0_inAllStanding, x_all hS Rc F, bnd_some, e]
      · simp (disch := omega) only [lit, i1, ↓reduceIte, bnd_some, eqF, Rm.1.1, shl1, pk_sub, m]; rfl
    · refine ok_same s (x := nI 0) (v := nI (orP (stdB T) (2 ^ T 0 0))) ?_ ?_
      · have e := x_any1 hS Rc F (2 ^ T 0 0) 0 FU (by omega) (by show 2 ^ T 0 0 < 100000; omega)
        simp only [orP] at e
        simp (disch := omega) only [lit, ↓reduceIte, q, eqF, e0, bind_some', rS0 hS, fX0_inAnyStanding, x_all hS Rc F, bnd_some, e]
      · simp (disch := omega) only [lit, i1, ↓reduceIte, bnd_some, eqF, Rm.1.1, shl1, pk_sub, m]
        by_cases z : cntP (stdB T) (2 ^ T 0 0) = 0
        · rw [if_neg (by decide), if_pos z, orP_0 z]
        · rw [if_neg (by decide), if_neg z, if_neg (by decide)]
  · refine ok_same s (x := nI 0) (v := -nI 1) ?_ ?_
    · simp only [lit, q, Bool.false_eq_true, ↓reduceIte]
    · rcases v_in (h := uI hm 107 2 (nI 0)) x 0 2 (by decide) (by decide) with ⟨n, -, h2, rfl, -⟩ | ⟨-, e⟩
      · exact absurd rfl (inT_no q n (by omega) (by omega))
      · simp only [lit, e, bnd_some, ↓reduceIte]
theorem s_set (s : R2 hc hm S T) (x y : Int32) : Ok2 hc hm (fX9_set hc x y) (fX10_set hm x y) := by
  have s0 := R2_thr s (nI 0)
  obtain ⟨hS, t1, -, F, Rc, Rm, -⟩ := s0.1
  have e0 := dref_of (q := (7, 20)) t1 (sS hS)
  have hp := pow8 F.1.1
  have h8 := F.1.1
  unfold fX9_set fX10_set
  by_cases q0 : x < nI 0
  · exact ok_same s (x := nI 0) (v := -nI 1) (by simp only [lit, q0, ↓reduceIte]) (by simp only [lit, q0, ↓reduceIte])
  · obtain ⟨c, hcl, rfl⟩ := nI_of q0
    have sh : nI c >>> (nI (T 0 0) &&& nI 31) = nI (c / 2 ^ T 0 0) := pk_shrN hcl _ _ (sh31 _ (by omega))
    have dl := Nat.div_le_self c (2 ^ T 0 0)
    by_cases q1 : c < 2 ^ T 0 0
    · have d0 := Nat.div_eq_of_lt q1
      by_cases q : inT y 0 2 = true
      · obtain ⟨n, hn, rfl, -⟩ := inT_ex q
        have cn : n = 0 ∨ n = 1 ∨ n = 2 := by omega
        have i1 : fX10_isIn (uI hm 107 2 (nI 0)) (nI n) (nI 0) (nI 2) = some (nI 1, uI hm 107 2 (nI 0)) := by
          unfold fX10_isIn; simp (disch := omega) only [lit, ↓reduceIte, ltF]
        rcases cn with rfl | rfl | rfl
        · refine ok_same s (x := nI 0) (v := nI (b2n (calmB T c))) ?_ ?_
          · simp (disch := omega) only [lit, ↓reduceIte, q, ltF, leT, e0, bind_some', rS0 hS, x_all hS Rc F, bnd_some, x_calm hS Rc F]
            cases calmB T c <;> rfl
          · simp (disch := omega) only [lit, ↓reduceIte, ltF, Rm.1.1, sh, d0, i1, bnd_some, eqF, m_calm Rm F, fX10_set_59]
            cases calmB T c <;> rfl
        · refine ok_same s (x := nI 0) (v := nI (b2n (stdB T c))) ?_ ?_
          · simp (disch := omega) only [lit, ↓reduceIte, q, ltF, leT, eqF, e0, bind_some', rS0 hS, x_all hS Rc F, bnd_some, x_st hS Rc F]
            cases stdB T c <;> rfl
          · simp (disch := omega) only [lit, ↓reduceIte, ltF, Rm.1.1, sh, d0, i1, bnd_some, eqF, m_st Rm F, fX10_set_59]
            cases stdB T c <;> rfl
        · refine ok_same s (x := nI 0) (v := nI (b2n (dfB T c))) ?_ ?_
          · simp (disch := omega) only [lit, ↓reduceIte, q, ltF, leT, eqF, e0, bind_some', rS0 hS, x_all hS Rc F, bnd_some, x_df hS Rc F]
            cases dfB T c <;> rfl
          · simp (disch := omega) only [lit, ↓reduceIte, ltF, Rm.1.1, sh, d0, i1, bnd_some, eqF, m_df Rm F, fX10_set_59]
            cases dfB T c <;> rfl
      · refine ok_same s (x := nI 0) (v := -nI 1) ?_ ?_
        · simp (disch := omega) only [lit, ↓reduceIte, q, Bool.false_eq_true, ltF, leT, e0, bind_some', rS0 hS, x_all hS Rc F, bnd_some]
        · rcases v_in (h := uI hm 107 2 (nI 0)) y 0 2 (by decide) (by decide) with ⟨n, -, h2, rfl, -⟩ | ⟨-, e⟩
          · exact absurd rfl (inT_no q n (by omega) (by omega))
          · simp (disch := omega) only [lit, ↓reduceIte, ltF, Rm.1.1, sh, d0, e, bnd_some]
    · have d1 : 1 ≤ c / 2 ^ T 0 0 := (Nat.le_div_iff_mul_le (by omega)).mpr (by omega)
      refine ok_same s (x := nI 0) (v := -nI 1) ?_ ?_
      · simp (disch := omega) only [lit, ↓reduceIte, ltF, leF, e0, bind_some', rS0 hS, x_all hS Rc F, bnd_some]
      · simp (disch := omega) only [lit, ↓reduceIte, ltF, Rm.1.1, sh, eqF]
theorem s_std1 (hS : isS S) (Rc : RSc hc S T) (Rm : RSm hm T) (F : WFT T) {n : Nat} (hn : n < 2 ^ 31) : ∀ (d k fu fu' : Nat), k + d = 2 ^ T 0 0 → d < fu → d < fu' → cntP (stdB T) k ≤ n → ∃ v, fX0_standingAt_10 fu (S + 1) hc (nI (2 ^ T 0 0 - 1)) (nI (n - cntP (stdB T) k)) (nI k) = some (v, hc) ∧ fX10_stand_15 fu' hm (nI n) (nI (cntP (stdB T) k)) (nI k) = some (v, hm)
  | 0, k, fu + 1, fu' + 1, hk, _, _, _ => by
    have hp := pow8 F.1.1
    have h8 := F.1.1
    refine ⟨-nI 2, ?_, ?_⟩
    · rw [fX0_standingAt_10]; simp (disch := omega) only [lit, ↓reduceIte, ltT]
    · rw [fX10_stand_15]; simp (disch := omega) only [lit, Rm.1.1, shl1, ↓reduceIte, leT]
  | d + 1, k, fu + 1, fu' + 1, hk, hf, hf', hcn => by
    have ih := s_std1 hS Rc Rm F hn d (k + 1) fu fu' (by omega) (by omega) (by omega)
    have hp := pow8 F.1.1
    have h8 := F.1.1
    rw [cntP] at ih
    rw [fX0_standingAt_10, fX10_stand_15]
    cases q : stdB T k
    · rw [q, b2nF, Nat.add_zero] at ih
      obtain ⟨v, v1, v2⟩ := ih hcn
      refine ⟨v, ?_, ?_⟩
      · simp (disch := omega) only [lit, ↓reduceIte, ltF, x_st hS Rc F, q, bnd_some, b2nF, fX0_standingAt_35, nI_add]
        exact v1
      · simp (disch := omega) only [lit, Rm.1.1, shl1, ↓reduceIte, leF, m_st Rm F, q, bnd_some, b2nF, fX10_stand_46, nI_add]
        exact v2
    · rw [q, b2nT] at ih
      by_cases z : cntP (stdB T) k = n
      · refine ⟨nI k, ?_, ?_⟩
        · simp (disch := omega) only [lit, ↓reduceIte, ltF, x_st hS Rc F, q, bnd_some, b2nT, eqF, eqT]
        · simp (disch := omega) only [lit, Rm.1.1, shl1, ↓reduceIte, leF, m_st Rm F, q, bnd_some, b2nT, eqF, eqT]
      · obtain ⟨v, v1, v2⟩ := ih (by omega)
        refine ⟨v, ?_, ?_⟩
        · simp (disch := omega) only [lit, ↓reduceIte, ltF, x_st hS Rc F, q, bnd_some, b2nT, eqF, nI_dec, fX0_standingAt_35, nI_add]
          rw [Nat.sub_sub]; exact v1
        · simp (disch := omega) only [lit, Rm.1.1, shl1, ↓reduceIte, leF, m_st Rm F, q, bnd_some, b2nT, eqF, fX10_stand_46, nI_add]
          exact v2
theorem s_stand (s : R2 hc hm S T) (x : Int32) : Ok2 hc hm (fX9_stand hc x) (fX10_stand hm x) := by
  have s0 := R2_thr s (nI 0)
  obtain ⟨hS, t1, -, F, Rc, Rm, -⟩ := s0.1
  have e0 := dref_of (q := (7, 20)) t1 (sS hS)
  have hp := pow8 F.1.1
  have h8 := F.1.1
  unfold fX9_stand fX10_stand
  by_cases q0 : nI 0 ≤ x
  · have q1 : ¬ x < 0 := Int32.not_lt.mpr q0
    obtain ⟨n, hn, rfl⟩ := nI_of q1
    obtain ⟨v, v1, v2⟩ := s_std1 hS Rc Rm F hn (2 ^ T 0 0) 0 FU FU (by omega) (by show 2 ^ T 0 0 < 100000; omega) (by show 2 ^ T 0 0 < 100000; omega) (Nat.zero_le _)
    simp only [cntP, Nat.sub_zero] at v1 v2
    refine ok_same s (x := nI 0) (v := v) ?_ ?_
    · simp (disch := omega) only [lit, ↓reduceIte, q0, e0, bind_some', rS0 hS, fX0_standingAt, x_all hS Rc F, bnd_some, v1]
    · simp (disch := omega) only [lit, ↓reduceIte, q0, v2]
  · exact ok_same s (x := nI 0) (v := -nI 1) (by simp only [lit, q0, ↓reduceIte]) (by simp only [lit, q0, ↓reduceIte])
theorem x_lg1 (hS : isS S) (R : RSc hc S T) (F : WFT T) : ∀ (d k fu : Nat), k + d = 2 ^ T 0 0 → d < fu → fX0_largestDefended_9 fu (S + 1) hc (nI (2 ^ T 0 0 - 1)) (nI (lgP T k)) (nI k) = some (nI (lgP T (2 ^ T 0 0)), hc)
  | 0, k, fu + 1, hk, _ => by
    have e : k = 2 ^ T 0 0 := by omega
    have hp := pow8 F.1.1
    rw [fX0_largestDefended_9]; simp (disch := omega) only [lit, ↓reduceIte, ltT]; rw [e]
  | d + 1, k, fu + 1, hk, hf => by
    have ih := x_lg1 hS R F d (k + 1) fu (by omega) (by omega)
    have hp := pow8 F.1.1
    have hl := lgP_le T k
    have p1 := pop_le k
    have p2 := pop_le (lgP T k)
    rw [lgP] at ih
    rw [fX0_largestDefended_9]
    by_cases z : pop k ≤ pop (lgP T k)
    · rw [if_pos z] at ih
      simp (disch := omega) only [lit, ↓reduceIte, ltF, x_bc, bnd_some, leT, fX0_largestDefended_35, nI_add]
      exact ih
    · rw [if_neg z] at ih
      cases q : dfB T k
      · rw [q, if_neg Bool.false_ne_true] at ih
        simp (disch := omega) only [lit, ↓reduceIte, ltF, x_bc, bnd_some, leF, x_df hS R F, q, b2nF, fX0_largestDefended_35, nI_add]
        exact ih
      · rw [q, if_pos rfl] at ih
        simp (disch := omega) only [lit, ↓reduceIte, ltF, x_bc, bnd_some, leF, x_df hS R F, q, b2nT, eqF, fX0_largestDefended_35, nI_add]
        exact ih
theorem m_lg1 (R : RSm hm T) (F : WFT T) : ∀ (d k fu : Nat), k + d = 2 ^ T 0 0 → d < fu → fX10_largest_9 fu hm (nI (lgP T k)) (nI k) = some (nI (lgP T (2 ^ T 0 0)), hm)
  | 0, k, fu + 1, hk, _ => by
    have e : k = 2 ^ T 0 0 := by omega
    have hp := pow8 F.1.1
    have h8 := F.1.1
    rw [fX10_largest_9]; simp (disch := omega) only [lit, R.1.1, shl1, ↓reduceIte, leT]; rw [e]
  | d + 1, k, fu + 1, hk, hf => by
    have ih := m_lg1 R F d (k + 1) fu (by omega) (by omega)
    have hp := pow8 F.1.1
    have h8 := F.1.1
    have hl := lgP_le T k
    have p1 := pop_le k
    have p2 := pop_le (lgP T k)
    rw [lgP] at ih
    rw [fX10_largest_9]
    by_cases z : pop k ≤ pop (lgP T k)
    · rw [if_pos z] at ih
      simp (disch := omega) only [lit, R.1.1, shl1, ↓reduceIte, leF, m_many, bnd_some, leT, fX10_largest_42, fX10_largest_43, nI_add]
      exact ih
    · rw [if_neg z] at ih
      cases q : dfB T k
      · rw [q, if_neg Bool.false_ne_true] at ih
        simp (disch := omega) only [lit, R.1.1, shl1, ↓reduceIte, leF, m_many, bnd_some, m_df R F, q, b2nF, fX10_largest_42, fX10_largest_43, nI_add]
        exact ih
      · rw [q, if_pos rfl] at ih
        simp (disch := omega) only [lit, R.1.1, shl1, ↓reduceIte, leF, m_many, bnd_some, m_df R F, q, b2nT, eqF, fX10_largest_43, nI_add]
        exact ih
theorem s_largest (s : R2 hc hm S T) : Ok2 hc hm (fX9_largest hc) (fX10_largest hm) := by
  have s0 := R2_thr s (nI 0)
  obtain ⟨hS, t1, -, F, Rc, Rm, -⟩ := s0.1
  have e0 := dref_of (q := (7, 20)) t1 (sS hS)
  have hp := pow8 F.1.1
  have v1 := x_lg1 hS Rc F (2 ^ T 0 0) 0 FU (by omega) (by show 2 ^ T 0 0 < 100000; omega)
  have v2 := m_lg1 Rm F (2 ^ T 0 0 - 1) 1 FU (by omega) (by show 2 ^ T 0 0 - 1 < 100000; omega)
  rw [show lgP T 0 = 0 from rfl] at v1
  rw [show lgP T 1 = 0 by simp [lgP]] at v2
  unfold fX9_largest fX10_largest
  refine ok_same s (x := nI 0) (v := nI (lgP T (2 ^ T 0 0))) ?_ ?_
  · simp (disch := omega) only [lit, e0, bind_some', rS0 hS, fX0_largestDefended, x_all hS Rc F, bnd_some, v1]
  · simp only [lit, v2]
end V
