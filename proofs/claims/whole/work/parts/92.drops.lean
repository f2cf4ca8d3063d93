/-! dropFor. -/
section V
variable {hc hm : Hp} {S : Nat} {T : Tx}
def PD (S a i : Nat) : Prop := a = S + 10 ∨ a = S + 11 ∨ (a = S + 1 ∧ (i = 10 ∨ i = 11))
def PM (a i : Nat) : Prop := a = 145 ∨ (a = 107 ∧ i = 2)
theorem RSc_PD (hS : isS S) (R : RSc hc S T) {h' : Hp} (f : Fr (PD S) PN hc h') : RSc h' S T :=
  RSc_ag hS R (fun a i q => f.1 a i (fun z => by unfold relA at q; unfold PD at z; rcases hS with rfl | rfl <;> omega)) (fun a i _ => f.2.2 a i)
theorem RSm_PM (R : RSm hm T) {h' : Hp} (f : Fr PM PN hm h') : RSm h' T := RSm_Fr R f (fun a i q z => by unfold PM at z; omega)
theorem x_isG (hS : isS S) (R : RSc hc S T) (F : WFT T) {c : Nat} (hcl : c < 8) (x y : Int32) : ∃ h', fX0_isGround (S + 1) hc (nI c) x y = some (nI (bn (itN T x y 8) c), h') ∧ Fr (PG S) PN hc h' := by
  obtain ⟨h', a1, a2⟩ := x_ground hS R F x y
  have l1 := p8 (itN_lt T x y 8) F.1.1
  refine ⟨h', ?_, a2⟩
  unfold fX0_isGround
  simp (disch := omega) only [lit, a1, bnd_some, shr1T]
  unfold bn
  split <;> rfl
theorem m_isG {h : Hp} {n c : Nat} (hn : n < 2 ^ 31) (hcl : c < 8) : fX10_isOf h (nI n) (nI c) = some (nI (bn n c), h) := by
  unfold fX10_isOf
  simp (disch := omega) only [lit, shr1T]
  unfold bn
  split <;> rfl
def DR (hc hm : Hp) (S : Nat) (h h' : Hp) : Prop := Fr (PD S) PN hc h ∧ Fr PM PN hm h' ∧ hI h (S + 1) 10 = hI h' 145 0 ∧ hI h (S + 1) 11 = hI h' 145 1
theorem DR_G (hS : isS S) {h h' g : Hp} (r : DR hc hm S h h') (f : Fr (PG S) PN h g) : DR hc hm S g h' :=
  ⟨r.1.tr (f.mono (fun a i q => q.elim Or.inl (fun z => Or.inr (Or.inl z))) (fun _ _ q => q)), r.2.1, by rw [f.1 _ _ (by unfold PG; omega)]; exact r.2.2.1, by rw [f.1 _ _ (by unfold PG; omega)]; exact r.2.2.2⟩
theorem s_d1 (hS : isS S) (Rc : RSc hc S T) (Rm : RSm hm T) (F : WFT T) {c : Nat} (hcl : c < 8) : ∀ (d k fu fu' : Nat) (h h' : Hp), k + d = T 0 1 → d < fu → d < fu' → DR hc hm S h h' → (∃ g g', fX0_dropsOne_2 fu (S + 1) h (nI c) (nI k) = some (nI 1, g) ∧ fX10_dropsFor_33 fu' h' (nI c) (nI k) = some (nI 1, g') ∧ DR hc hm S g g') ∨ (∃ g, fX0_dropsOne_2 fu (S + 1) h (nI c) (nI k) = some (nI 0, g) ∧ fX10_dropsFor_33 fu' h' (nI c) (nI k) = fX10_dropsFor_74 FU h' (nI c) (nI 0) ∧ DR hc hm S g h')
  | 0, k, fu + 1, fu' + 1, h, h', hk, _, _, r => by
    have e : k = T 0 1 := by omega
    have h16 := F.1.2.1
    refine Or.inr ⟨h, ?_, ?_, r⟩
    · rw [fX0_dropsOne_2]; simp (disch := omega) only [lit, (RSc_PD hS Rc r.1).1.2.1, ↓reduceIte, leT]
    · rw [fX10_dropsFor_33]; simp (disch := omega) only [lit, (RSm_PM Rm r.2.1).1.2.1, ↓reduceIte, leT]
  | d + 1, k, fu + 1, fu' + 1, h, h', hk, hf, hf', r => by
    have h16 := F.1.2.1
    have R1 := RSc_PD hS Rc r.1
    have M1 := RSm_PM Rm r.2.1
    obtain ⟨g, a1, a2⟩ := x_isG hS R1 F hcl (nI k) (-nI 1)
    have r' := DR_G hS r a2
    have l1 := p8 (itN_lt T (nI k) (-nI 1) 8) F.1.1
    rw [fX0_dropsOne_2, fX10_dropsFor_33]
    rcases (by have := bn_le (itN T (nI k) (-nI 1) 8) c; omega : bn (itN T (nI k) (-nI 1) 8) c = 0 ∨ bn (itN T (nI k) (-nI 1) 8) c = 1) with q | q
    · rcases s_d1 hS Rc Rm F hcl d (k + 1) fu fu' g h' (by omega) (by omega) (by omega) r' with ⟨z, z', z1, z2, z3⟩ | ⟨z, z1, z2, z3⟩
      · refine Or.inl ⟨z, z', ?_, ?_, z3⟩
        · simp (disch := omega) only [lit, R1.1.2.1, ↓reduceIte, leF, a1, q, bnd_some, nI_add]; exact z1
        · simp (disch := omega) only [lit, M1.1.2.1, ↓reduceIte, leF, m_ground M1 F, bnd_some, m_isG, q, nI_add]; exact z2
      · refine Or.inr ⟨z, ?_, ?_, z3⟩
        · simp (disch := omega) only [lit, R1.1.2.1, ↓reduceIte, leF, a1, q, bnd_some, nI_add]; exact z1
        · simp (disch := omega) only [lit, M1.1.2.1, ↓reduceIte, leF, m_ground M1 F, bnd_some, m_isG, q, nI_add]; exact z2
    · refine Or.inl ⟨uI g (S + 1) 10 (nI k), uI h' 145 0 (nI k), ?_, ?_, r'.1.uI (by unfold PD; omega), r'.2.1.uI (by unfold PM; omega), ?_, ?_⟩
      · simp (disch := omega) only [lit, R1.1.2.1, ↓reduceIte, leF, a1, q, bnd_some, eqF]
      · simp (disch := omega) only [lit, M1.1.2.1, ↓reduceIte, leF, m_ground M1 F, bnd_some, m_isG, q, eqF, inbN, nI_clamp]
      · rw [hI_at ⟨rfl, rfl⟩, hI_at ⟨rfl, rfl⟩]
      · rw [hI_ne (by omega), hI_ne (by omega)]; exact r'.2.2.2
theorem s_d3 (hS : isS S) (Rc : RSc hc S T) (Rm : RSm hm T) (F : WFT T) {c : Nat} (hcl : c < 8) (rc rm : Hp → Int32 → Int32 → Option (Int32 × Hp)) (x : Nat) (hx : x < T 0 1) : ∀ (d k fu fu' : Nat) (h h' : Hp), k + d = T 0 1 → d < fu → d < fu' → DR hc hm S h h' → (∃ g g', fX0_dropsTwo_14 fu (S + 1) rc h (nI c) (nI x) (nI k) = some (nI 1, g) ∧ fX10_dropsFor_86 fu' rm h' (nI c) (nI x) (nI k) = some (nI 2, g') ∧ DR hc hm S g g') ∨ (∃ g, fX0_dropsTwo_14 fu (S + 1) rc h (nI c) (nI x) (nI k) = rc g (nI c) (nI (x + 1)) ∧ fX10_dropsFor_86 fu' rm h' (nI c) (nI x) (nI k) = rm h' (nI c) (nI (x + 1)) ∧ DR hc hm S g h')
  | 0, k, fu + 1, fu' + 1, h, h', hk, _, _, r => by
    have e : k = T 0 1 := by omega
    have h16 := F.1.2.1
    refine Or.inr ⟨h, ?_, ?_, r⟩
    · rw [fX0_dropsTwo_14]; simp (disch := omega) only [lit, (RSc_PD hS Rc r.1).1.2.1, ↓reduceIte, leT, nI_add]
    · rw [fX10_dropsFor_86]; simp (disch := omega) only [lit, (RSm_PM Rm r.2.1).1.2.1, ↓reduceIte, leT, nI_add]
  | d + 1, k, fu + 1, fu' + 1, h, h', hk, hf, hf', r => by
    have h16 := F.1.2.1
    have R1 := RSc_PD hS Rc r.1
    have M1 := RSm_PM Rm r.2.1
    obtain ⟨g, a1, a2⟩ := x_isG hS R1 F hcl (nI x) (nI k)
    have r' := DR_G hS r a2
    have l1 := p8 (itN_lt T (nI x) (nI k) 8) F.1.1
    rw [fX0_dropsTwo_14, fX10_dropsFor_86]
    rcases (by have := bn_le (itN T (nI x) (nI k) 8) c; omega : bn (itN T (nI x) (nI k) 8) c = 0 ∨ bn (itN T (nI x) (nI k) 8) c = 1) with q | q
    · rcases s_d3 hS Rc Rm F hcl rc rm x hx d (k + 1) fu fu' g h' (by omega) (by omega) (by omega) r' with ⟨z, z', z1, z2, z3⟩ | ⟨z, z1, z2, z3⟩
      · refine Or.inl ⟨z, z', ?_, ?_, z3⟩
        · simp (disch := omega) only [lit, R1.1.2.1, ↓reduceIte, leF, a1, q, bnd_some, nI_add]; exact z1
        · simp (disch := omega) only [lit, M1.1.2.1, ↓reduceIte, leF, m_ground M1 F, bnd_some, m_isG, q, nI_add]; exact z2
      · refine Or.inr ⟨z, ?_, ?_, z3⟩
        · simp (disch := omega) only [lit, R1.1.2.1, ↓reduceIte, leF, a1, q, bnd_some, nI_add]; exact z1
        · simp (disch := omega) only [lit, M1.1.2.1, ↓reduceIte, leF, m_ground M1 F, bnd_some, m_isG, q, nI_add]; exact z2
    · refine Or.inl ⟨uI (uI g (S + 1) 10 (nI x)) (S + 1) 11 (nI k), uI (uI h' 145 0 (nI x)) 145 1 (nI k), ?_, ?_, (r'.1.uI (by unfold PD; omega)).uI (by unfold PD; omega), (r'.2.1.uI (by unfold PM; omega)).uI (by unfold PM; omega), ?_, ?_⟩
      · simp (disch := omega) only [lit, R1.1.2.1, ↓reduceIte, leF, a1, q, bnd_some, eqF]
      · simp (disch := omega) only [lit, M1.1.2.1, ↓reduceIte, leF, m_ground M1 F, bnd_some, m_isG, q, eqF, inbN, nI_clamp]
      · rw [hI_ne (by omega), hI_at ⟨rfl, rfl⟩, hI_ne (by omega), hI_at ⟨rfl, rfl⟩]
      · rw [hI_at ⟨rfl, rfl⟩, hI_at ⟨rfl, rfl⟩]
theorem s_d2 (hS : isS S) (Rc : RSc hc S T) (Rm : RSm hm T) (F : WFT T) {c : Nat} (hcl : c < 8) : ∀ (d k fu fu' : Nat) (h h' : Hp), k + d = T 0 1 → d < fu → d < fu' → DR hc hm S h h' → (∃ g g', fX0_dropsTwo_2 fu (S + 1) h (nI c) (nI k) = some (nI 1, g) ∧ fX10_dropsFor_74 fu' h' (nI c) (nI k) = some (nI 2, g') ∧ DR hc hm S g g') ∨ (∃ g, fX0_dropsTwo_2 fu (S + 1) h (nI c) (nI k) = some (nI 0, g) ∧ fX10_dropsFor_74 fu' h' (nI c) (nI k) = some (-nI 2, h') ∧ DR hc hm S g h')
  | 0, k, fu + 1, fu' + 1, h, h', hk, _, _, r => by
    have e : k = T 0 1 := by omega
    have h16 := F.1.2.1
    refine Or.inr ⟨h, ?_, ?_, r⟩
    · rw [fX0_dropsTwo_2]; simp (disch := omega) only [lit, (RSc_PD hS Rc r.1).1.2.1, ↓reduceIte, leT]
    · rw [fX10_dropsFor_74]; simp (disch := omega) only [lit, (RSm_PM Rm r.2.1).1.2.1, ↓reduceIte, leT]
  | d + 1, k, fu + 1, fu' + 1, h, h', hk, hf, hf', r => by
    have h16 := F.1.2.1
    have R1 := RSc_PD hS Rc r.1
    have M1 := RSm_PM Rm r.2.1
    have hFU : d < FU := Nat.lt_of_lt_of_le (show d < 16 by omega) (by decide)
    rw [fX0_dropsTwo_2, fX10_dropsFor_74]
    simp (disch := omega) only [lit, R1.1.2.1, M1.1.2.1, ↓reduceIte, leF, nI_add]
    rcases s_d3 hS Rc Rm F hcl (fX0_dropsTwo_2 fu (S + 1)) (fX10_dropsFor_74 fu') k (by omega) d (k + 1) FU FU h h' (by omega) hFU hFU r with z | ⟨g, z1, z2, z3⟩
    · exact Or.inl z
    · rw [z1, z2]
      exact s_d2 hS Rc Rm F hcl d (k + 1) fu fu' g h' (by omega) (by omega) (by omega) z3
theorem s_drp (hS : isS S) (Rc : RSc hc S T) (Rm : RSm hm T) (F : WFT T) {c n : Nat} (hcl : c < 8) (hn : n ≤ 2) : ∃ v g g', fX0_dropped (S + 1) hc (nI c) (nI n) = some (v, g) ∧ (bnd (fX10_dropsFor hm (nI c)) (fun v_7 h_8 => if nI n = nI 0 then (some (v_7, h_8)) else (if inb (nI n - nI 1) 2 then (some ((hI h_8 145 (Int32.toNatClampNeg (nI n - nI 1))), h_8)) else none))) = some (v, g') ∧ Fr (PD S) PN hc g ∧ Fr PM PN hm g' := by
  have h16 := F.1.2.1
  have hFU : T 0 1 < FU := Nat.lt_of_le_of_lt h16 (by decide)
  have r0 : DR hc hm S (uI (uI hc (S + 1) 10 (-nI 2)) (S + 1) 11 (-nI 2)) (uI (uI hm 145 0 (-nI 2)) 145 1 (-nI 2)) := by
    refine ⟨(Fr.rf.uI (by unfold PD; omega)).uI (by unfold PD; omega), (Fr.rf.uI (by unfold PM; omega)).uI (by unfold PM; omega), ?_, ?_⟩
    · rw [hI_ne (by omega), hI_at ⟨rfl, rfl⟩, hI_ne (by omega), hI_at ⟨rfl, rfl⟩]
    · rw [hI_at ⟨rfl, rfl⟩, hI_at ⟨rfl, rfl⟩]
  have R1 := RSc_PD hS Rc r0.1
  have M1 := RSm_PM Rm r0.2.1
  obtain ⟨g, a1, a2⟩ := x_isG hS R1 F hcl (-nI 1) (-nI 1)
  have r1 := DR_G hS r0 a2
  have l1 := p8 (itN_lt T (-nI 1) (-nI 1) 8) F.1.1
  have fin : ∀ (v : Int32) (z z' : Hp), DR hc hm S z z' → fX0_dropped (S + 1) hc (nI c) (nI n) = fX0_dropped_53 (S + 1) z (nI n) v → fX10_dropsFor hm (nI c) = some (v, z') → ∃ v g g', fX0_dropped (S + 1) hc (nI c) (nI n) = some (v, g) ∧ (bnd (fX10_dropsFor hm (nI c)) (fun v_7 h_8 => if nI n = nI 0 then (some (v_7, h_8)) else (if inb (nI n - nI 1) 2 then (some ((hI h_8 145 (Int32.toNatClampNeg (nI n - nI 1))), h_8)) else none))) = some (v, g') ∧ Fr (PD S) PN hc g ∧ Fr PM PN hm g' := by
    intro v z z' r e1 e2
    rw [e1, e2, bnd_some]
    rcases (by omega : n = 0 ∨ n = 1 ∨ n = 2) with rfl | rfl | rfl
    · refine ⟨v, z, z', ?_, ?_, r.1, r.2.1⟩
      · unfold fX0_dropped_53; simp (disch := omega) only [lit, ↓reduceIte]
      · simp (disch := omega) only [↓reduceIte]
    · refine ⟨hI z (S + 1) 10, z, z', ?_, ?_, r.1, r.2.1⟩
      · unfold fX0_dropped_53; simp (disch := omega) only [lit, ↓reduceIte, eqF]
      · simp (disch := omega) only [↓reduceIte, eqF, pk_sub, inbN, nI_clamp]; rw [r.2.2.1]
    · refine ⟨hI z (S + 1) 11, z, z', ?_, ?_, r.1, r.2.1⟩
      · unfold fX0_dropped_53; simp (disch := omega) only [lit, ↓reduceIte, eqF]
      · simp (disch := omega) only [↓reduceIte, eqF, pk_sub, inbN, nI_clamp]; rw [r.2.2.2]
  rcases (by have := bn_le (itN T (-nI 1) (-nI 1) 8) c; omega : bn (itN T (-nI 1) (-nI 1) 8) c = 0 ∨ bn (itN T (-nI 1) (-nI 1) 8) c = 1) with q | q
  · rcases s_d1 hS Rc Rm F hcl (T 0 1) 0 FU FU g _ (by omega) hFU hFU r1 with ⟨z, z', z1, z2, z3⟩ | ⟨z, z1, z2, z3⟩
    · refine fin (nI 1) z z' z3 ?_ ?_
      · unfold fX0_dropped; simp (disch := omega) only [lit, a1, q, bnd_some, ↓reduceIte, fX0_dropsOne, z1, eqF]
      · unfold fX10_dropsFor; simp (disch := omega) only [lit, inbN, ↓reduceIte, nI_clamp, m_ground M1 F, bnd_some, m_isG, q, z2]
    · rcases s_d2 hS Rc Rm F hcl (T 0 1) 0 FU FU z _ (by omega) hFU hFU z3 with ⟨y, y', y1, y2, y3⟩ | ⟨y, y1, y2, y3⟩
      · refine fin (nI 2) y y' y3 ?_ ?_
        · unfold fX0_dropped; simp (disch := omega) only [lit, a1, q, bnd_some, ↓reduceIte, fX0_dropsOne, z1, fX0_dropsTwo, y1, eqF]
        · unfold fX10_dropsFor; simp (disch := omega) only [lit, inbN, ↓reduceIte, nI_clamp, m_ground M1 F, bnd_some, m_isG, q, z2, y2]
      · refine fin (-nI 2) y _ y3 ?_ ?_
        · unfold fX0_dropped; simp (disch := omega) only [lit, a1, q, bnd_some, ↓reduceIte, fX0_dropsOne, z1, fX0_dropsTwo, y1, eqF]
        · unfold fX10_dropsFor; simp (disch := omega) only [lit, inbN, ↓reduceIte, nI_clamp, m_ground M1 F, bnd_some, m_isG, q, z2, y2]
  · refine fin (nI 0) g _ r1 ?_ ?_
    · unfold fX0_dropped; simp (disch := omega) only [lit, a1, q, bnd_some, ↓reduceIte, eqF]
    · unfold fX10_dropsFor; simp (disch := omega) only [lit, inbN, ↓reduceIte, nI_clamp, m_ground M1 F, bnd_some, m_isG, q, eqF]
theorem s_dropFor (s : R2 hc hm S T) (x y : Int32) : Ok2 hc hm (fX9_dropFor hc x y) (fX10_dropFor hm x y) := by
  have s0 := R2_thr s (nI 0)
  obtain ⟨hS, t1, -, F, Rc, Rm, -⟩ := s0.1
  have e0 := dref_of (q := (7, 20)) t1 (sS hS)
  have h8 := F.1.1
  unfold fX9_dropFor fX10_dropFor
  rcases v_claim s0.1 x with ⟨c, hcl, rfl, e1, e2⟩ | ⟨e1, e2⟩
  · rcases v_in (h := uI hm 107 2 (nI 0)) y 0 2 (by decide) (by decide) with ⟨n, -, h2, rfl, e⟩ | ⟨w, e⟩
    · obtain ⟨v, g, g', v1, v2, v3, v4⟩ := s_drp (c := c) (n := n) hS Rc Rm F (by omega) h2
      refine ok_askF (v := v) (hc' := g) (hm' := g') (PI := PD S) (PJ := PN) (QI := PM) (QJ := PN) s ?_ ?_ v3 ((Fr.rf.uI (by unfold PM; omega)).tr v4) ?_ ?_ ?_ ?_
      · simp (disch := omega) only [lit, e1, bnd_some, ↓reduceIte, eqF, ltF, leT, e0, bind_some', rS0 hS, v1]
      · simp (disch := omega) only [lit, e2, e, bnd_some, ↓reduceIte, eqF]
        exact v2
      · intro a i q; unfold PD at q; unfold irC; rcases hS with rfl | rfl <;> omega
      · intro a i q; exact q.elim
      · intro a i q; unfold PM at q; unfold irM; omega
      · intro a i q; exact q.elim
    · refine ok_same s (x := nI 0) (v := -nI 1) ?_ ?_
      · by_cases q : y < nI 0
        · simp (disch := omega) only [lit, e1, bnd_some, ↓reduceIte, eqF, q]
        · have w := w.resolve_left q
          have w' : ¬ y ≤ nI 2 := Int32.not_le.mpr w
          simp (disch := omega) only [lit, e1, bnd_some, ↓reduceIte, eqF, q, w']
      · simp (disch := omega) only [lit, e2, e, bnd_some, ↓reduceIte, eqF]
  · exact ok_same s (x := nI 0) (v := -nI 1) (by simp only [lit, e1, bnd_some, ↓reduceIte]) (by simp only [lit, e2, bnd_some, ↓reduceIte])
end V
