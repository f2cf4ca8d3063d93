/-! weaker. -/
section V
variable {hc hm : Hp} {S : Nat} {T : Tx}
theorem s_wk1 (hS : isS S) (Rc : RSc hc S T) (Rm : RSm hm T) (F : WFT T) {c : Nat} (hcl : c < T 0 0) : ∀ (d k fu fu' : Nat) (x : Int32), k + d = T 0 0 → d < fu → d < fu' → (x = -nI 2 ∨ ∃ b, b < T 0 0 ∧ x = nI b) → ∃ v, fX0_weakerThan_12 fu (S + 1) hc (nI c) x (nI (hitsT T c)) (nI k) = some (v, hc) ∧ fX10_weaker_20 fu' hm (nI c) x (nI k) = some (v, hm)
  | 0, k, fu + 1, fu' + 1, x, hk, _, _, _ => by
    have h8 := F.1.1
    refine ⟨x, ?_, ?_⟩
    · rw [fX0_weakerThan_12]; simp (disch := omega) only [lit, rC0 hS, Rc.1.1, ↓reduceIte, leT]
    · rw [fX10_weaker_20]; simp (disch := omega) only [lit, Rm.1.1, ↓reduceIte, leT]
  | d + 1, k, fu + 1, fu' + 1, x, hk, hf, hf', hx => by
    have ih := fun x => s_wk1 hS Rc Rm F hcl d (k + 1) fu fu' x (by omega) (by omega) (by omega)
    have h8 := F.1.1
    obtain ⟨r6, -⟩ := Rc.2.2.1 k (by omega)
    have hh := p8 (hits_lt F c) h8
    have hn := nob_le (hitsT T c) (hitsT T k)
    have cw := (Rc.2.1 k (by omega)).2.1
    have mw := (Rm.2.1 k (by omega)).2.1
    have fw := (F.2.1 k (by omega)).2
    rw [fX0_weakerThan_12, fX10_weaker_20]
    by_cases qk : k = c
    · obtain ⟨v, v1, v2⟩ := ih x hx
      refine ⟨v, ?_, ?_⟩
      · simp (disch := omega) only [lit, rC0 hS, Rc.1.1, ↓reduceIte, leF, eqT, fX0_weakerThan_55, fX0_weakerThan_56, fX0_weakerThan_87, nI_add]
        exact v1
      · simp (disch := omega) only [lit, Rm.1.1, ↓reduceIte, leF, eqT, fX10_weaker_73, nI_add]
        exact v2
    · by_cases q : nob (hitsT T c) (hitsT T k) = 0
      · rcases hx with rfl | ⟨b, hb, rfl⟩
        · obtain ⟨v, v1, v2⟩ := ih (nI k) (Or.inr ⟨k, by omega, rfl⟩)
          refine ⟨v, ?_, ?_⟩
          · simp (disch := omega) only [lit, rC0 hS, Rc.1.1, ↓reduceIte, leF, eqF, inbN, nI_clamp, rC3 hS, r6, nx_n, q, fX0_weakerThan_56, fX0_weakerThan_84, fX0_weakerThan_87, nI_add]
            exact v1
          · simp (disch := omega) only [lit, Rm.1.1, ↓reduceIte, leF, eqF, m_againstBy Rm F, bnd_some, nx_n, q, show (-nI 2 < nI 0) = True from eq_true (by decide), fX10_weaker_71, fX10_weaker_73, nI_add]
            exact v2
        · have cb := (Rc.2.1 b hb).2.1
          have mb := (Rm.2.1 b hb).2.1
          have fb := (F.2.1 b hb).2
          have ne2 : (nI b = -nI 2) = False := eq_false (fun z => by
            have := congrArg Int32.toInt z
            rw [nI_toInt (by omega), show (-nI 2).toInt = -2 by decide] at this
            omega)
          by_cases qw : T 2 b ≤ T 2 k
          · obtain ⟨v, v1, v2⟩ := ih (nI b) (Or.inr ⟨b, hb, rfl⟩)
            refine ⟨v, ?_, ?_⟩
            · simp (disch := omega) only [lit, rC0 hS, Rc.1.1, ↓reduceIte, leF, eqF, inbN, nI_clamp, rC3 hS, r6, nx_n, q, fX0_weakerThan_56, ne2, fX0_weightOf, ltF, rC1 hS, cb, cw, bnd_some, leT, fX0_weakerThan_84, fX0_weakerThan_87, nI_add]
              exact v1
            · simp (disch := omega) only [lit, Rm.1.1, ↓reduceIte, leF, eqF, m_againstBy Rm F, bnd_some, nx_n, q, ltF, inbN, nI_clamp, mb, mw, leT, fX10_weaker_71, fX10_weaker_73, nI_add]
              exact v2
          · obtain ⟨v, v1, v2⟩ := ih (nI k) (Or.inr ⟨k, by omega, rfl⟩)
            refine ⟨v, ?_, ?_⟩
            · simp (disch := omega) only [lit, rC0 hS, Rc.1.1, ↓reduceIte, leF, eqF, inbN, nI_clamp, rC3 hS, r6, nx_n, q, fX0_weakerThan_56, ne2, fX0_weightOf, ltF, rC1 hS, cb, cw, bnd_some, fX0_weakerThan_84, fX0_weakerThan_87, nI_add]
              exact v1
            · simp (disch := omega) only [lit, Rm.1.1, ↓reduceIte, leF, eqF, m_againstBy Rm F, bnd_some, nx_n, q, ltF, inbN, nI_clamp, mb, mw, fX10_weaker_71, fX10_weaker_73, nI_add]
              exact v2
      · obtain ⟨v, v1, v2⟩ := ih x hx
        refine ⟨v, ?_, ?_⟩
        · simp (disch := omega) only [lit, rC0 hS, Rc.1.1, ↓reduceIte, leF, eqF, inbN, nI_clamp, rC3 hS, r6, nx_n, fX0_weakerThan_55, fX0_weakerThan_56, fX0_weakerThan_87, nI_add]
          exact v1
        · simp (disch := omega) only [lit, Rm.1.1, ↓reduceIte, leF, eqF, m_againstBy Rm F, bnd_some, nx_n, fX10_weaker_73, nI_add]
          exact v2
theorem s_weaker (s : R2 hc hm S T) (x : Int32) : Ok2 hc hm (fX9_weaker hc x) (fX10_weaker hm x) := by
  have s0 := R2_thr s (nI 0)
  obtain ⟨hS, t1, -, F, Rc, Rm, -⟩ := s0.1
  have e0 := dref_of (q := (7, 20)) t1 (sS hS)
  have h8 := F.1.1
  unfold fX9_weaker fX10_weaker
  rcases v_claim s0.1 x with ⟨c, hcl, rfl, e1, e2⟩ | ⟨e1, e2⟩
  · obtain ⟨r6, r7⟩ := Rc.2.2.1 c (by omega)
    obtain ⟨v, v1, v2⟩ := s_wk1 hS Rc Rm F hcl (T 0 0) 0 FU FU (-nI 2) (by omega) (Nat.lt_of_le_of_lt h8 (by decide)) (Nat.lt_of_le_of_lt h8 (by decide)) (Or.inl rfl)
    refine ok_same s (x := nI 0) (v := v) ?_ ?_
    · simp (disch := omega) only [lit, e1, bnd_some, ↓reduceIte, eqF, e0, bind_some', rS0 hS, fX0_weakerThan, fX0_hitBy, ltF, leF, inbN, nI_clamp, rC3 hS, r6, v1]
    · simp (disch := omega) only [lit, e2, bnd_some, ↓reduceIte, eqF, v2]
  · exact ok_same s (x := nI 0) (v := -nI 1) (by simp only [lit, e1, bnd_some, ↓reduceIte]) (by simp only [lit, e2, bnd_some, ↓reduceIte])
end V
