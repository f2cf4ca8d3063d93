/-! What stands against a claim, by the reference; claim. -/
theorem m_ab1 {h : Hp} {T : Tx} (R : RSm h T) (F : WFT T) {c : Nat} (hc : c < 2 ^ 31) : ∀ (d k fu : Nat), k + d = T 0 1 → d < fu → fX10_againstBy_4 fu h (nI c) (nI (orB (fun k => decide (T 4 k = c)) (T 5) k)) (nI k) = some (nI (hitsT T c), h)
  | 0, k, fu + 1, hk, _ => by
    have e : k = T 0 1 := by omega
    subst e
    have := F.1.2.1
    rw [fX10_againstBy_4]; simp (disch := omega) only [lit, R.1.2.1, ↓reduceIte, leT]; rfl
  | d + 1, k, fu + 1, hk, hf => by
    have ih := m_ab1 R F hc d (k + 1) fu (by omega) (by omega)
    have h16 := F.1.2.1
    have h8 := F.1.1
    obtain ⟨r4, r5⟩ := R.2.2.1 k (by omega)
    obtain ⟨f4, f5, -⟩ := F.2.2.1 k (by omega)
    have eo : orB (fun k => decide (T 4 k = c)) (T 5) (k + 1) = orB (fun k => decide (T 4 k = c)) (T 5) k ||| (if decide (T 4 k = c) = true then 2 ^ T 5 k else 0) := rfl
    rw [fX10_againstBy_4]
    by_cases q : T 4 k = c
    · rw [if_pos (decide_eq_true q)] at eo
      simp (disch := omega) only [lit, R.1.2.1, ↓reduceIte, leF, inbN, nI_clamp, r4, r5, eqT, fX10_againstBy_35, shl1, nx_o, nI_add]
      rw [← eo]; exact ih
    · rw [if_neg (by simpa using q)] at eo
      simp (disch := omega) only [lit, R.1.2.1, ↓reduceIte, leF, inbN, nI_clamp, r4, eqF, fX10_againstBy_35, nx_o, nI_add]
      rw [← eo]; exact ih
theorem m_againstBy {h : Hp} {T : Tx} (R : RSm h T) (F : WFT T) {c : Nat} (hc : c < 2 ^ 31) : fX10_againstBy h (nI c) = some (nI (hitsT T c), h) := by
  unfold fX10_againstBy
  exact m_ab1 R F hc (T 0 1) 0 FU (by omega) (Nat.lt_of_le_of_lt F.1.2.1 (by decide))
/-- against c, but for the contras x and y -/
def foesB (T : Tx) (c : Nat) (x y : Int32) : Nat := orB (fun k => decide (T 5 k = c ∧ nI k ≠ x ∧ nI k ≠ y)) (T 4) (T 0 1)
theorem m_ai1 {h : Hp} {T : Tx} (R : RSm h T) (F : WFT T) {c : Nat} (hc : c < 2 ^ 31) (x y : Int32) : ∀ (d k fu : Nat), k + d = T 0 1 → d < fu → fX10_againstIt_6 fu h (nI c) x y (nI (orB (fun k => decide (T 5 k = c ∧ nI k ≠ x ∧ nI k ≠ y)) (T 4) k)) (nI k) = some (nI (foesB T c x y), h)
  | 0, k, fu + 1, hk, _ => by
    have e : k = T 0 1 := by omega
    subst e
    have := F.1.2.1
    rw [fX10_againstIt_6]; simp (disch := omega) only [lit, R.1.2.1, ↓reduceIte, leT]; rfl
  | d + 1, k, fu + 1, hk, hf => by
    have ih := m_ai1 R F hc x y d (k + 1) fu (by omega) (by omega)
    have h16 := F.1.2.1
    have h8 := F.1.1
    obtain ⟨r4, r5⟩ := R.2.2.1 k (by omega)
    obtain ⟨f4, f5, -⟩ := F.2.2.1 k (by omega)
    have eo : orB (fun k => decide (T 5 k = c ∧ nI k ≠ x ∧ nI k ≠ y)) (T 4) (k + 1) = orB (fun k => decide (T 5 k = c ∧ nI k ≠ x ∧ nI k ≠ y)) (T 4) k ||| (if decide (T 5 k = c ∧ nI k ≠ x ∧ nI k ≠ y) = true then 2 ^ T 4 k else 0) := rfl
    rw [fX10_againstIt_6]
    by_cases q : T 5 k = c
    · by_cases qx : nI k = x
      · subst qx
        rw [if_neg (by simp)] at eo
        simp (disch := omega) only [lit, R.1.2.1, ↓reduceIte, leF, inbN, nI_clamp, r5, eqT, fX10_againstIt_52, fX10_againstIt_53, nx_o, nI_add]
        rw [← eo]; exact ih
      · by_cases qy : nI k = y
        · rw [if_neg (by simp [qy])] at eo
          simp (disch := omega) only [lit, R.1.2.1, ↓reduceIte, leF, inbN, nI_clamp, r5, eqT, qx, fX10_againstIt_52, fX10_againstIt_53, nx_o, nI_add]
          rw [if_pos qy, ← eo]; exact ih
        · rw [if_pos (by simp [q, qx, qy])] at eo
          simp (disch := omega) only [lit, R.1.2.1, ↓reduceIte, leF, inbN, nI_clamp, r4, r5, eqT, qx, qy, fX10_againstIt_53, shl1, nx_o, nI_add]
          rw [← eo]; exact ih
    · rw [if_neg (by simp [q])] at eo
      simp (disch := omega) only [lit, R.1.2.1, ↓reduceIte, leF, inbN, nI_clamp, r5, eqF, fX10_againstIt_52, fX10_againstIt_53, nx_o, nI_add]
      rw [← eo]; exact ih
theorem m_againstIt {h : Hp} {T : Tx} (R : RSm h T) (F : WFT T) {c : Nat} (hc : c < 2 ^ 31) (x y : Int32) : fX10_againstIt h (nI c) x y = some (nI (foesB T c x y), h) := by
  unfold fX10_againstIt
  exact m_ai1 R F hc x y (T 0 1) 0 FU (by omega) (Nat.lt_of_le_of_lt F.1.2.1 (by decide))
theorem orB_congr {p q : Nat → Bool} {t : Nat → Nat} : ∀ {n : Nat}, (∀ k, k < n → p k = q k) → orB p t n = orB q t n
  | 0, _ => rfl
  | n + 1, h => by rw [orB, orB, orB_congr (fun k hk => h k (by omega)), h n (by omega)]
theorem foesB_n {T : Tx} (F : WFT T) (c : Nat) : foesB T c (-nI 1) (-nI 1) = foesT T c := by
  unfold foesB foesT
  apply orB_congr
  intro k hk
  have h16 := F.1.2.1
  have : ¬ nI k = -nI 1 := of_eq_false (ne_m1 (by omega))
  simp [this]
section V
variable {hc hm : Hp} {S : Nat} {T : Tx}
theorem s_claim (s : R2 hc hm S T) (x y : Int32) : ∃ k v hc' hm', fL_claim hc x y = some (k, hc') ∧ fX10_claim hm x y = some (v, hm') ∧ hI hm' 107 2 = k ∧ (k = 0 → hJ hc' 152 0 = v.toInt64) ∧ (∃ S T, R2 hc' hm' S T) ∧ (∀ a i, hI hc' a i = hI hc a i) ∧ (∀ a i, a ≠ 152 → hJ hc' a i = hJ hc a i) ∧ (∀ a i, hR hc' a i = hR hc a i) ∧ FMo hm hm' := by
  have s0 := R2_thr s (nI 0)
  obtain ⟨hS, t1, -, F, Rc, Rm, -⟩ := s0.1
  have e0 := dref_of (q := (7, 20)) t1 (sS hS)
  have h8 := F.1.1
  have good : ∀ (c v : Nat), x = nI c → c < T 0 0 → v < 2 ^ 31 → fL_claim hc x y = some (nI 0, uJ hc 152 0 (nI v).toInt64) → fX10_claim hm x y = some (nI v, uI hm 107 2 (nI 0)) → ∃ k v hc' hm', fL_claim hc x y = some (k, hc') ∧ fX10_claim hm x y = some (v, hm') ∧ hI hm' 107 2 = k ∧ (k = 0 → hJ hc' 152 0 = v.toInt64) ∧ (∃ S T, R2 hc' hm' S T) ∧ (∀ a i, hI hc' a i = hI hc a i) ∧ (∀ a i, a ≠ 152 → hJ hc' a i = hJ hc a i) ∧ (∀ a i, hR hc' a i = hR hc a i) ∧ FMo hm hm' := by
    intro c v _ _ hv h1 h2
    refine ⟨_, _, _, _, h1, h2, hI_at ⟨rfl, rfl⟩, fun _ => hJ_at ⟨rfl, rfl⟩, ⟨S, T, R2_ask s0 (fun _ _ _ => rfl) (fun _ _ _ _ => rfl) (fun _ _ _ => rfl) (fun _ _ => rfl)⟩, fun _ _ => rfl, fun a i q => hJ_ne (by omega), fun _ _ => rfl, FMo_uI FMo.rf (by omega)⟩
  unfold fL_claim fX10_claim at *
  simp only [lit] at good ⊢
  rcases v_claim s0.1 x with ⟨c, hcl, rfl, e1, e2⟩ | ⟨e1, e2⟩
  · have c2 := (Rc.2.1 c hcl).2.1
    have c3 := (Rc.2.1 c hcl).2.2
    have m2 := (Rm.2.1 c hcl).2.1
    have m3 := (Rm.2.1 c hcl).2.2
    obtain ⟨r6, r7⟩ := Rc.2.2.1 c (by omega)
    have f2 := (F.2.1 c hcl).2
    by_cases q : inT y 0 3 = true
    · obtain ⟨n, hn, rfl, -⟩ := inT_ex q
      have cn : n = 0 ∨ n = 1 ∨ n = 2 ∨ n = 3 := by omega
      rcases cn with rfl | rfl | rfl | rfl
      · refine good c (T 2 c) rfl hcl (by omega) ?_ ?_
        · simp (disch := omega) only [lit, e1, bnd_some, ↓reduceIte, eqF, q, e0, bind_some', rS0 hS, fX0_weightOf, ltF, leF, inbN, nI_clamp, rC1 hS, c2]
        · simp (disch := omega) only [lit, e2, bnd_some, ↓reduceIte, eqF, q, inbN, nI_clamp, m2]
      · refine good c (T 3 c) rfl hcl (by omega) ?_ ?_
        · simp (disch := omega) only [lit, e1, bnd_some, ↓reduceIte, eqF, q, e0, bind_some', rS0 hS, fX0_temperOf, ltF, leF, inbN, nI_clamp, rC2 hS, c3]
        · simp (disch := omega) only [lit, e2, bnd_some, ↓reduceIte, eqF, q, inbN, nI_clamp, m3]
      · have hh := p8 (hits_lt F c) h8
        refine good c (hitsT T c) rfl hcl (by omega) ?_ ?_
        · simp (disch := omega) only [lit, e1, bnd_some, ↓reduceIte, eqF, q, e0, bind_some', rS0 hS, fX0_hitBy, ltF, leF, inbN, nI_clamp, rC3 hS, r6]
        · simp (disch := omega) only [lit, e2, bnd_some, ↓reduceIte, eqF, q, m_againstBy Rm F]
      · have hh := p8 (foes_lt F c) h8
        refine good c (foesT T c) rfl hcl (by omega) ?_ ?_
        · simp (disch := omega) only [lit, e1, bnd_some, ↓reduceIte, eqF, q, e0, bind_some', rS0 hS, fX0_foesOf, ltF, leF, inbN, nI_clamp, rC4 hS, r7]
        · simp (disch := omega) only [lit, e2, bnd_some, ↓reduceIte, eqF, q, m_againstIt Rm F, foesB_n F]
    · refine ⟨nI 2, nI 0, hc, uI (uI hm 107 2 (nI 0)) 107 2 (nI 2), ?_, ?_, hI_at ⟨rfl, rfl⟩, fun z => absurd z (by decide), ⟨S, T, R2_thr s0 _⟩, fun _ _ => rfl, fun _ _ _ => rfl, fun _ _ => rfl, FMo_uI (FMo_uI FMo.rf (by omega)) (by omega)⟩
      · simp (disch := omega) only [lit, e1, bnd_some, ↓reduceIte, eqF, e0, bind_some', q, Bool.false_eq_true]
      · simp (disch := omega) only [lit, e2, bnd_some, ↓reduceIte, eqF, q, Bool.false_eq_true, fX10_fails]
  · refine ⟨nI 1, nI 0, hc, uI (uI hm 107 2 (nI 0)) 107 2 (nI 1), ?_, ?_, hI_at ⟨rfl, rfl⟩, fun z => absurd z (by decide), ⟨S, T, R2_thr s0 _⟩, fun _ _ => rfl, fun _ _ _ => rfl, fun _ _ => rfl, FMo_uI (FMo_uI FMo.rf (by omega)) (by omega)⟩
    · simp (disch := omega) only [lit, e1, bnd_some, ↓reduceIte]
    · simp (disch := omega) only [lit, e2, bnd_some, ↓reduceIte, fX10_fails]
end V
