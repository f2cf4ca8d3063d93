/-! match. -/
section V
variable {hc hm : Hp} {S : Nat} {T : Tx}
def stC (st : Option (Nat × Nat)) : Int32 := oI (st.map Prod.fst)
def stV (st : Option (Nat × Nat)) : Int32 := oI (st.map Prod.snd)
theorem m71 (s : R2 hc hm S T) {sh N : Nat} (hsh : ∀ i, i < 5 → hI hm 138 i = nI (bn sh i)) (hN : N = (T 0 2 + 1) ^ T 0 3) (hN31 : N < 2 ^ 30) (x : Int32) : ∀ (d k fu : Nat) (h : Hp) (st : Option (Nat × Nat)), k + d = N → d < fu → Fr PH PHJ hm h → hI h 107 71 = nI 0 → (∀ c v, st = some (c, v) → v < 2 ^ 30) → ∃ fu' h', fX10_match_71 fu h x (nI N) (stC st) (stV st) (nI k) = fX10_match_71 (fu' + 1) h' x (nI N) (stC (sc (fsV (bmT hm T sh) (T 0 2) (T 0 3) (T 0 3) 0) d k st)) (stV (sc (fsV (bmT hm T sh) (T 0 2) (T 0 3) (T 0 3) 0) d k st)) (nI N) ∧ Fr PH PHJ hm h' ∧ hI h' 107 71 = nI 0
  | 0, k, fu + 1, h, st, hk, _, f, h71, _ => by
    have e : k = N := by omega
    subst e
    exact ⟨fu, h, rfl, f, h71⟩
  | d + 1, k, fu + 1, h, st, hk, hf, f, h71, hv => by
    obtain ⟨h1, a1, a2, a3, -⟩ := m_hv s hsh (code := k) (by omega) (by omega) f h71
    rw [sc]
    generalize hfk : fsV (bmT hm T sh) (T 0 2) (T 0 3) (T 0 3) 0 k = o at *
    have hob : ∀ v, o = some v → v ≤ 9 := by
      have gen : ∀ (r t off : Nat) (v : Nat), fsV (bmT hm T sh) (T 0 2) (T 0 3) r t off = some v → v ≤ 9 := by
        intro r
        induction r with
        | zero => intro t off v h; rw [fsV] at h; cases h; exact pop_le t
        | succ r ih =>
          intro t off v h
          rw [fsV] at h
          split at h
          · exact ih _ _ _ h
          · split at h
            · exact ih _ _ _ h
            · cases h
      intro v h
      exact gen _ _ _ v (hfk.trans h)
    have hnext : ∀ c v, cmb st k o = some (c, v) → v < 2 ^ 30 := by
      intro c v hcv
      cases o with
      | none => exact hv c v hcv
      | some w =>
        have := hob w rfl
        by_cases z : vs st < w + 1
        · rw [cmbT z] at hcv; cases hcv; omega
        · rw [cmbF z] at hcv; exact hv c v hcv
    obtain ⟨fu', h', b1, b2⟩ := m71 s hsh hN hN31 x d (k + 1) fu h1 (cmb st k o) (by omega) (by omega) a2 a3 hnext
    refine ⟨fu', h', ?_, b2⟩
    rw [← b1]
    rw [fX10_match_71]
    simp (disch := omega) only [lit, ↓reduceIte, leF, a1, bnd_some, fX10_match_102, nI_add]
    cases o with
    | none =>
      have : ¬ stV st < oI none := by
        unfold stV
        cases st with
        | none => decide
        | some p =>
          have := hv p.1 p.2 rfl
          exact of_eq_false (lt_m1 (n := p.2) (by omega))
      rw [if_neg this]; rfl
    | some v =>
      have hv9 := hob v rfl
      have iff : stV st < oI (some v) ↔ vs st < v + 1 := by
        unfold stV
        cases st with
        | none => exact ⟨fun _ => Nat.succ_pos v, fun _ => of_eq_true (m1_lt (n := v) (by omega))⟩
        | some p =>
          have := hv p.1 p.2 rfl
          show nI p.2 < nI v ↔ p.2 + 1 < v + 1
          rw [nI_ltP (by omega) (by omega)]; omega
      by_cases z : vs st < v + 1
      · rw [if_pos (iff.mpr z), cmbT z]; rfl
      · rw [if_neg (fun y => z (iff.mp y)), cmbF z]
theorem m40 (R : RSm hm T) (F : WFT T) (x : Int32) : ∀ (d k fu : Nat), k + d = T 0 3 → d < fu → fX10_match_40 fu hm x (nI ((T 0 2 + 1) ^ k)) (nI k) = fX10_match_71 FU hm x (nI ((T 0 2 + 1) ^ T 0 3)) (-nI 1) (-nI 1) (nI 0)
  | 0, k, fu + 1, hk, _ => by
    have e : k = T 0 3 := by omega
    subst e
    have h5 := F.1.2.2.2.1
    rw [fX10_match_40]; simp (disch := omega) only [lit, R.1.2.2.2.1, ↓reduceIte, leT]
  | d + 1, k, fu + 1, hk, hf => by
    have h5 := F.1.2.2.2.1
    have ih := m40 R F x d (k + 1) fu (by omega) (by omega)
    rw [fX10_match_40]; simp (disch := omega) only [lit, R.1.2.2.2.1, R.1.2.2.1, ↓reduceIte, leF, nI_add, pk_mul]
    rw [← Nat.pow_succ]; exact ih
theorem m32 (s : R2 hc hm S T) {sh n : Nat} (hsh : ∀ i, i < 5 → hI hm 138 i = nI (bn sh i)) (hn : n < T 0 3 ∨ n = 5) : ∃ h', fX10_match_32 (uI hm 107 2 (nI 0)) (nI n) = some (if n = 5 then nI (bs (bmT hm T sh) 5 0) else oI2 (grN (bmT hm T sh) n (tkN (bmT hm T sh) n)), h') ∧ Fr PH PHJ hm h' := by
  have F := s.1.2.2.2.1
  have R := s.1.2.2.2.2.2.1
  have h5 := F.1.2.2.2.1
  have h5' := F.1.2.2.1
  have hN : (T 0 2 + 1) ^ T 0 3 ≤ 7776 := Nat.le_trans (Nat.pow_le_pow_left (show T 0 2 + 1 ≤ 6 by omega) _) (Nat.le_trans (Nat.pow_le_pow_right (by decide) h5) (by decide))
  have f0 : Fr PH PHJ hm (uI (uI (uI (uI (uI (uI hm 107 2 (nI 0)) 107 68 (nI 0)) 107 69 (nI 0)) 107 70 (nI 0)) 107 71 (nI 0)) 107 72 (-nI 1)) := (((((Fr.rf.uI (by unfold PH; omega)).uI (by unfold PH; omega)).uI (by unfold PH; omega)).uI (by unfold PH; omega)).uI (by unfold PH; omega)).uI (by unfold PH; omega)
  have h71 : hI (uI (uI (uI (uI (uI (uI hm 107 2 (nI 0)) 107 68 (nI 0)) 107 69 (nI 0)) 107 70 (nI 0)) 107 71 (nI 0)) 107 72 (-nI 1)) 107 71 = nI 0 := by rw [hI_ne (by omega), hI_at ⟨rfl, rfl⟩]
  have hl : ∀ m, bmT hm T sh m < 2 ^ T 0 2 := fun m => by
    unfold bmT
    split
    · exact bmK_lt _ _ _ _
    · exact Nat.two_pow_pos _
  have hb : ∀ m, T 0 3 ≤ m → bmT hm T sh m = 0 := fun m q => if_neg (by omega)
  obtain ⟨fu', h1, a1, a2, a3⟩ := m71 s hsh rfl (by omega) (nI n) ((T 0 2 + 1) ^ T 0 3) 0 FU _ none (by omega) (by show (T 0 2 + 1) ^ T 0 3 < 100000; omega) f0 h71 (fun c v z => by cases z)
  have bl := sc_blk h5 h5' hb hl (T 0 3) (Nat.le_refl _) 0 (fsV (bmT hm T sh) (T 0 2) (T 0 3) (T 0 3) 0) 0 none (fun off _ => by rw [Nat.zero_add])
  rw [Nat.sub_self, Nat.sub_zero, Nat.zero_add, show pop 0 = 0 by decide, Nat.zero_add, cmbT (Nat.succ_pos _)] at bl
  rw [bl] at a1
  have g := go_dg (n := T 0 3) hl (T 0 3) (Nat.le_refl _)
  rw [Nat.sub_self, show tkN (bmT hm T sh) 0 = 0 from rfl] at g
  obtain ⟨g1, g2⟩ := g
  have start : fX10_match_32 (uI hm 107 2 (nI 0)) (nI n) = fX10_match_71 (fu' + 1) h1 (nI n) (nI ((T 0 2 + 1) ^ T 0 3)) (nI (goV (bmT hm T sh) (T 0 2) (T 0 3) (T 0 3) 0)) (nI (bs (bmT hm T sh) 5 0)) (nI ((T 0 2 + 1) ^ T 0 3)) := by
    unfold fX10_match_32 fX10_plainTried
    simp only [lit, bind_some']
    have := m40 (RSm_PH R f0) F (nI n) (T 0 3) 0 FU (by omega) (Nat.lt_of_le_of_lt h5 (by decide))
    rw [Nat.pow_zero] at this
    exact this.trans a1
  rw [start, fX10_match_71]
  simp (disch := omega) only [lit, ↓reduceIte, leT]
  by_cases q : n = 5
  · refine ⟨h1, ?_, a2⟩
    subst q
    simp only [↓reduceIte]
  · have hn3 : n < T 0 3 := by omega
    obtain ⟨h', b1, b2, b3, b4⟩ := m_hv s hsh g1 (by omega) a2 a3
    have e := b4 n hn3
    rw [g2 n (by omega) hn3] at e
    have M := RSm_PH R b2
    refine ⟨h', ?_, b2⟩
    rw [if_neg q]
    unfold dgN at e
    cases z : grN (bmT hm T sh) n (tkN (bmT hm T sh) n) with
    | none =>
      rw [z] at e
      simp (disch := omega) only [↓reduceIte, eqF, b1, bnd_some, inbN, nI_clamp, e, M.1.2.2.1, oI2]
    | some w =>
      rw [z] at e
      have := grN_lt hl z
      simp (disch := omega) only [↓reduceIte, eqF, b1, bnd_some, inbN, nI_clamp, e, M.1.2.2.1, oI2]
theorem s_match (s : R2 hc hm S T) (x : Int32) : Ok2 hc hm (fX9_match hc x) (fX10_match hm x) := by
  have F := s.1.2.2.2.1
  have R := s.1.2.2.2.2.2.1
  have h5 := F.1.2.2.2.1
  have h5' := F.1.2.2.1
  obtain ⟨sh, w6, w7, w8⟩ := s.2.1.1.2.2.2.2.2.1
  have sh31' := p8 w6 (show T 0 2 ≤ 8 by omega)
  have hsh : ∀ i, i < 5 → hI hm 138 i = nI (bn sh i) := fun i hi => by
    have := w8 i hi
    rwa [Nat.mul_zero, Nat.zero_add] at this
  unfold fX9_match fX10_match
  rcases v_in (h := uI hm 107 2 (nI 0)) x 0 5 (by decide) (by decide) with ⟨n, -, h2, rfl, e⟩ | ⟨w, e⟩
  · obtain ⟨g, x1, x2, x3, x4⟩ := x_pair s (by omega) w7
    have aC : AskC hc g := AskC_Fr x2 (fun a i q => by unfold P3 at q; unfold irC; omega) (fun a i q => by unfold PJ3 PcJ at q; omega)
    have m15 : hI (uI hm 107 2 (nI 0)) 107 15 = nI (T 0 3) := (hI_ne (by omega)).trans R.1.2.2.2.1
    by_cases q5 : n = 5
    · subst q5
      obtain ⟨h', m1, m2⟩ := m32 s hsh (n := 5) (Or.inr rfl)
      refine ok_A s (v := nI (bs (bmT hm T sh) 5 0)) (hc' := g) (hm' := h') ?_ ?_ aC (AskM_Fr m2 (fun a i q => by unfold PH at q; unfold irM; omega) (fun a i q => by unfold PHJ at q; omega))
      · simp (disch := omega) only [lit, ↓reduceIte, ltF, leT, x1, bind_some', x3]
      · simp (disch := omega) only [lit, e, bnd_some, ↓reduceIte, eqF, leT, m1]
    · have xe := x4 n (by omega)
      have cs : ∀ v, hI g 105 n = v → fX9_match hc (nI n) = some (v, g) := by
        intro v hv
        unfold fX9_match
        simp (disch := omega) only [lit, ↓reduceIte, ltF, leT, leF, x1, bind_some', eqF, fX3_strawOf, inbN, nI_clamp, hv, bnd_some]
      unfold fX9_match at cs
      by_cases q3 : n < T 0 3
      · obtain ⟨h', m1, m2⟩ := m32 s hsh (n := n) (Or.inl q3)
        rw [if_neg q5] at m1
        refine ok_A s (v := oI2 (grN (bmT hm T sh) n (tkN (bmT hm T sh) n))) (hc' := g) (hm' := h') (cs _ xe) ?_ aC (AskM_Fr m2 (fun a i q => by unfold PH at q; unfold irM; omega) (fun a i q => by unfold PHJ at q; omega))
        simp (disch := omega) only [lit, e, bnd_some, ↓reduceIte, eqF, leF, m15, ltT, m1]
      · have bz : bmT hm T sh n = 0 := if_neg q3
        rw [grN_0 bz] at xe
        refine ok_A s (v := -nI 2) (hc' := g) (hm' := uI hm 107 2 (nI 0)) (cs _ xe) ?_ aC AskM_t
        simp (disch := omega) only [lit, e, bnd_some, ↓reduceIte, eqF, leF, m15, ltF]
  · refine ok_same s (x := nI 0) (v := -nI 1) ?_ ?_
    · by_cases q : x < nI 0
      · simp (disch := omega) only [lit, ↓reduceIte, q]
      · have w := w.resolve_left q
        have w' : ¬ x ≤ nI 5 := Int32.not_le.mpr w
        simp (disch := omega) only [lit, ↓reduceIte, q, w']
    · simp (disch := omega) only [lit, e, bnd_some, ↓reduceIte]
end V
