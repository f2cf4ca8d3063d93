/-! agreed, force, law, count, claim. -/
section V
variable {hc hm : Hp} {S : Nat} {T : Tx}
theorem v_two (s : StA hc hm S T) (x y : Int32) : (∃ i j, i < T 0 3 ∧ j < T 0 3 ∧ i ≠ j ∧ x = nI i ∧ y = nI j ∧ fX9_areTwo hc x y = some (nI 1, hc) ∧ fX10_areTwo hm x y = some (nI 1, hm)) ∨ (fX9_areTwo hc x y = some (nI 0, hc) ∧ fX10_areTwo hm x y = some (nI 0, hm)) := by
  have h5 := s.2.2.2.1.1.2.2.2.1
  unfold fX9_areTwo fX10_areTwo
  simp only [lit]
  rcases v_member s x with ⟨i, hi, rfl, e1, e2⟩ | ⟨e1, e2⟩
  · rcases v_member s y with ⟨j, hj, rfl, e3, e4⟩ | ⟨e3, e4⟩
    · by_cases q : i = j
      · subst q
        right
        simp (disch := omega) only [e1, e2, bnd_some, ↓reduceIte, eqF, and_self]
      · left
        refine ⟨i, j, hi, hj, q, rfl, rfl, ?_⟩
        simp (disch := omega) only [e1, e2, e3, e4, bnd_some, ↓reduceIte, eqF, and_self]
    · right
      simp (disch := omega) only [e1, e2, e3, e4, bnd_some, ↓reduceIte, eqF, and_self]
  · right
    simp (disch := omega) only [e1, e2, bnd_some, ↓reduceIte, eqF, and_self]
theorem s_agreed (s : R2 hc hm S T) (x y : Int32) : Ok2 hc hm (fX9_agreed hc x y) (fX10_agreed hm x y) := by
  have s0 := R2_thr s (nI 0)
  have h5 := s0.1.2.2.2.1.1.2.2.2.1
  have hW : isW 72 := Or.inl rfl
  have w4 := s0.2.1.1.2.2.2.1
  unfold fX9_agreed fX10_agreed
  simp only [lit]
  rcases v_two s0.1 x y with ⟨i, j, hi, hj, hij, rfl, rfl, e1, e2⟩ | ⟨e1, e2⟩
  · obtain ⟨a, a1, a2, a3⟩ := w4 i (by omega)
    obtain ⟨b, b1, b2, b3⟩ := w4 j (by omega)
    rw [show 5 * 0 + i = i by omega] at a3
    rw [show 5 * 0 + j = j by omega] at b3
    refine ok_same s (v := nI a &&& nI b) (x := nI 0) ?_ ?_
    · simp (disch := omega) only [lit, e1, bnd_some, ↓reduceIte, eqF, fX8_holdsOf, ltF, leF, inbN, nI_clamp, rW6 hW, a2, b2]
    · simp (disch := omega) only [lit, e2, bnd_some, ↓reduceIte, eqF, inbN, nI_clamp, a3, b3]
  · refine ok_same s (v := -nI 1) (x := nI 0) ?_ ?_
    · simp only [e1, bnd_some, ↓reduceIte]
    · simp only [e2, bnd_some, ↓reduceIte]
/-- class unchanged but for longs, the reference but for what isn't looked at -/
theorem ok_ask {α : Type} {oc om : Option (α × Hp)} {v : α} {hc' hm' : Hp} (s : R2 hc hm S T) (h1 : oc = some (v, hc')) (h2 : om = some (v, hm')) (f1 : ∀ a i, ¬ irC a i → hI hc' a i = hI hc a i) (f2 : ∀ a i, a ≠ 69 → a ≠ 84 → hR hc' a i = hR hc a i) (f3 : FCl hc hc') (m1 : ∀ a i, ¬ irM a i → hI hm' a i = hI hm a i) (m2 : ∀ i, i = 67 ∨ i = 87 → hJ hm' 107 i = hJ hm 107 i) (m3 : FMo hm hm') : Ok2 hc hm oc om :=
  ⟨v, hc', hm', h1, h2, ⟨S, T, R2_ask s f1 f2 m1 m2⟩, f3, m3⟩
theorem ok_askF {α : Type} {oc om : Option (α × Hp)} {v : α} {hc' hm' : Hp} {PI PJ QI QJ : Nat → Nat → Prop} (s : R2 hc hm S T) (h1 : oc = some (v, hc')) (h2 : om = some (v, hm')) (f : Fr PI PJ hc hc') (g : Fr QI QJ hm hm') (f1 : ∀ a i, PI a i → irC a i ∧ a < 107) (f2 : ∀ a i, PJ a i → a < 107) (g1 : ∀ a i, QI a i → irM a i ∧ 107 ≤ a ∧ a < 152) (g2 : ∀ a i, QJ a i → ¬ (a = 107 ∧ (i = 67 ∨ i = 87)) ∧ 107 ≤ a ∧ a < 152) : Ok2 hc hm oc om :=
  ok_ask s h1 h2 (fun a i q => f.1 a i (fun z => q (f1 a i z).1)) (fun a i _ _ => f.2.2 a i) (FCl_Fr f (fun a i z => (f1 a i z).2) f2) (fun a i q => g.1 a i (fun z => q (g1 a i z).1)) (fun i hi => g.2.1 107 i (fun z => (g2 107 i z).1 ⟨rfl, hi⟩)) (FMo_Fr g (fun a i z => (g1 a i z).2) (fun a i z => (g2 a i z).2))
theorem s_force (s : R2 hc hm S T) (x y : Int32) : Ok2 hc hm (fX9_force hc x y) (fX10_force hm x y) := by
  have s0 := R2_thr s (nI 0)
  obtain ⟨hm1, p1, p2, p3⟩ := m_plain (h := uI hm 107 2 (nI 0))
  have s1 : R2 hc hm1 S T := R2_ask s0 (fun _ _ _ => rfl) (fun _ _ _ _ => rfl) (fun a i q => p3.1 a i (by unfold irM at q; omega)) (fun i hi => p3.2.1 _ _ (fun z => z))
  obtain ⟨hS, t1, -, F, Rc, Rm, -⟩ := s1.1
  have h5 := F.1.2.2.2.1
  have h8 := F.1.1
  have hW : isW 72 := Or.inl rfl
  obtain ⟨⟨w1, -, -, w4, -⟩, pl, -⟩ := s1.2.1
  have fr : Fr (fun a i => (a = 107 ∧ i = 2) ∨ (a = 107 ∧ 68 ≤ i ∧ i ≤ 72)) (fun _ _ => False) hm hm1 := Fr.tr (Fr.uI Fr.rf (by omega)) (p3.mono (fun a i q => Or.inr q) (fun _ _ q => q))
  have fin : ∀ v, fX9_force hc x y = some (v, hc) → fX10_force hm x y = some (v, hm1) → Ok2 hc hm (fX9_force hc x y) (fX10_force hm x y) := fun v h1 h2 =>
    ok_askF (PI := fun _ _ => False) (PJ := fun _ _ => False) s h1 h2 Fr.rf fr (fun _ _ z => z.elim) (fun _ _ z => z.elim) (fun a i z => by unfold irM; omega) (fun _ _ z => z.elim)
  rcases v_member s1.1 x with ⟨i, hi, rfl, e1, e2⟩ | ⟨e1, e2⟩
  · rcases v_claim s1.1 y with ⟨j, hj, rfl, e3, e4⟩ | ⟨e3, e4⟩
    · obtain ⟨a, a1, a2, a3⟩ := w4 i (by omega)
      refine fin (nI (fcN T 0 a j (T 0 1))) ?_ ?_
      · unfold fX9_force
        simp (disch := omega) only [lit, e1, e3, bnd_some, ↓reduceIte, eqF]
        rw [x_force (W := 72) hS hW Rc F w1 (show i < 5 by omega) (show j < 8 by omega) pl.2.2.2.1 (by decide) a2 (hB_w a1)]
        rfl
      · unfold fX10_force
        simp (disch := omega) only [lit, p1, bind_some', e2, e4, bnd_some, ↓reduceIte, eqF]
        rw [m_force (b := 0) Rm F (by decide) (show i < 5 by omega) (show j < 2 ^ 31 by omega) p2.2.2.2.1 (by decide) a3 (hB_w a1)]
        rfl
    · refine fin (-nI 1) ?_ ?_
      · unfold fX9_force
        simp (disch := omega) only [lit, e1, e3, bnd_some, ↓reduceIte, eqF]
      · unfold fX10_force
        simp (disch := omega) only [lit, p1, bind_some', e2, e4, bnd_some, ↓reduceIte, eqF]
  · refine fin (-nI 1) ?_ ?_
    · unfold fX9_force
      simp (disch := omega) only [lit, e1, bnd_some, ↓reduceIte, eqF]
    · unfold fX10_force
      simp (disch := omega) only [lit, p1, bind_some', e2, bnd_some, ↓reduceIte, eqF]
theorem ltI_lo {x : Int32} (n : Nat) (hn : n < 2 ^ 31) (h : x < nI 0) : ¬ nI n ≤ x ∧ ¬ nI n < x := by
  rw [Int32.lt_iff_toInt_lt, nI_toInt (by decide)] at h
  rw [Int32.le_iff_toInt_le, Int32.lt_iff_toInt_lt, nI_toInt hn]
  omega
theorem ltI_hi {x : Int32} (n k : Nat) (hn : n < 2 ^ 31) (hk : k ≤ n) (h : nI n < x) : ¬ x < nI k ∧ nI k ≤ x ∧ nI k < x ∧ nI (n + 1) ≤ x := by
  have hx : n + 1 < 2 ^ 31 := by
    rw [Int32.lt_iff_toInt_lt, nI_toInt hn] at h
    have := Int32.toInt_lt x
    omega
  rw [Int32.lt_iff_toInt_lt, nI_toInt hn] at h
  rw [Int32.le_iff_toInt_le, Int32.le_iff_toInt_le, Int32.lt_iff_toInt_lt, Int32.lt_iff_toInt_lt, nI_toInt (by omega), nI_toInt hx]
  omega
theorem s_law (s : R2 hc hm S T) (x y z : Int32) : Ok2 hc hm (fX9_law hc x y z) (fX10_law hm x y z) := by
  have s0 := R2_thr s (nI 0)
  obtain ⟨hS, t1, -, F, Rc, Rm, -⟩ := s0.1
  have h5 := F.1.2.2.2.1
  have h5s := F.1.2.2.1
  have hW : isW 72 := Or.inl rfl
  have none : fX9_law hc x y z = some ((-9223372036854775808 : Int64), hc) → fX10_law hm x y z = some ((-9223372036854775808 : Int64), uI hm 107 2 (nI 0)) → Ok2 hc hm (fX9_law hc x y z) (fX10_law hm x y z) := fun h1 h2 => ok_same s h1 h2
  rcases v_in (h := uI hm 107 2 (nI 0)) x 0 2 (by decide) (by decide) with ⟨w, -, hw, rfl, e0⟩ | ⟨q, e0⟩
  · rcases v_straw s0.1 y with ⟨i, hi, rfl, e1, e2⟩ | ⟨e1, e2⟩
    · rcases v_member s0.1 z with ⟨m, hm', rfl, e3, e4⟩ | ⟨e3, e4⟩
      · obtain ⟨⟨w1, w2, -, w4, w5, -, w9, -⟩, pl, -⟩ := s0.2.1
        obtain ⟨hl, a1, a2, a3⟩ := w4 m (by omega)
        obtain ⟨fl, b1, b2, b3⟩ := w2 i hi
        obtain ⟨hc1, c1, c2, c3⟩ := x_names (W := 72) hS hW Rc F w1 (show m < 5 by omega) hi pl.2.2.2.1 (by decide) a2 (hB_w a1) b2 rfl rfl
        have Rc1 : RSc hc1 S T := RSc_Fr hS Rc c3 (fun _ _ _ _ q => q)
        obtain ⟨r1, r2, -⟩ := Rc1.2.2.2.2.2.2.2.2 w (by omega)
        obtain ⟨k1, k2⟩ := Rm.2.2.2.2.2.2.2.2 w (by omega)
        have ht1 := (F.2.2.2.2.2.2.2.2.2 w (by omega)).1
        have d0 := dref_of (q := (7, 20)) (by rw [c3.2.2]; exact w1 : hR hc1 72 0 = some S) (sS hS)
        have d1 := dref_of (q := (1, 4)) r1 (sL hS (by omega))
        have headC : fX9_law hc (nI w) (nI i) (nI m) = fX8_lawValue 72 hc1 (nI w) := by
          unfold fX9_law
          simp (disch := omega) only [lit, ↓reduceIte, ltF, leF, e1, e3, bnd_some, eqF, c1, bind_some']
          cases fX8_lawValue 72 hc1 (nI w) <;> rfl
        by_cases q : T 16 w = 1
        · obtain ⟨hm1, p1, p2, p3⟩ := m_plain (h := uI hm 107 2 (nI 0))
          have Rm1 : RSm hm1 T := RSm_Fr Rm p3 (fun a i h1 q => by omega)
          have em : ∀ a i, 111 ≤ a → hI hm1 a i = hI (uI hm 107 2 (nI 0)) a i := fun a i h => p3.1 a i (by omega)
          obtain ⟨hm2, n1, n2, n3⟩ := m_names (b := 0) (m := m) (s := i) (bw := 0) (hl := hl) (fl := fl) (wn := hI hc 75 m) (nt := hI hc 72 1) Rm1 F (by decide) (by omega) hi p2.2.2.2.1 (by decide) (by rw [em _ _ (by omega)]; exact a3) (hB_w a1) (by rw [em _ _ (by omega)]; exact b3) (by rw [em _ _ (by omega)]; exact (w5 m (by omega)).1.symm) (by rw [em _ _ (by omega)]; exact w9.symm)
          have Rm2 : RSm hm2 T := RSm_Fr Rm1 n3 (fun _ _ _ q => q)
          obtain ⟨-, k4⟩ := Rm2.2.2.2.2.2.2.2.2 w (by omega)
          obtain ⟨f, g1, g2, g3, g4⟩ := k4 q
          have P := (F.2.2.2.2.2.2.2.2.2 w (by omega)).2 q
          obtain ⟨hm3, o1, o2, o3⟩ := m_lawOf (show w < 3 by omega) g1 g2 g3 g4 P (fun i _ => nmT_bd i) n2
          obtain ⟨hc2, u1, u2⟩ := x_lawfacts hS hW Rc1 F (show w < 3 by omega) c2 (fun i _ => nmT_bd i) q
          rw [q] at r2 k1
          have fc : Fr (fun _ _ => False) (fun a _ => a = 77 ∨ a < 69) hc hc2 := (c3.mono (fun _ _ z => z) (fun a _ z => Or.inl z)).tr (u2.mono (fun _ _ z => z) (fun a _ z => Or.inr z))
          have fm : Fr (fun a i => a = 107 ∧ (i = 2 ∨ i = 59 ∨ 68 ≤ i ∧ i ≤ 72)) (fun a _ => a = 135 ∨ a = 136) hm hm3 := Fr.tr (Fr.tr (Fr.uI Fr.rf (by omega)) (p3.mono (fun a i z => by omega) (fun _ _ z => z.elim))) (Fr.tr (n3.mono (fun _ _ z => z.elim) (fun _ _ z => Or.inl z)) (Fr.mono o3 (fun a i z => by omega) (fun _ _ z => Or.inr z)))
          refine ok_askF (v := (lawV (T (18 + w)) (nmT T 0 i fl hl (hI hc 75 m) (hI hc 72 1)) (T 17 w)).getD (-9223372036854775808)) s ?_ ?_ fc fm (fun _ _ z => z.elim) (fun a i z => by omega) (fun a i z => by unfold irM; omega) (fun a i z => by omega)
          · rw [headC]
            unfold fX8_lawValue
            simp (disch := omega) only [lit, ↓reduceIte, ltF, leF, d0, bind_some', inbN, nI_clamp, rS17 hS, d1, r2, eqF, rW9 hW, u1, bnd_some]
          · unfold fX10_law
            simp (disch := omega) only [lit, e0, bnd_some, ↓reduceIte, eqF, inbN, nI_clamp, k1, e2, e4, p1, bind_some', n1, o1]
            rw [o2]
            cases lawV (T (18 + w)) (nmT T 0 i fl hl (hI hc 75 m) (hI hc 72 1)) (T 17 w) with
            | none => rfl
            | some v => rfl
        · have q0 : T 16 w = 0 := by omega
          rw [q0] at r2 k1
          refine ok_askF (v := (-9223372036854775808 : Int64)) (hm' := uI hm 107 2 (nI 0)) (QI := fun a i => a = 107 ∧ i = 2) (QJ := fun _ _ => False) s ?_ ?_ (c3) (Fr.uI Fr.rf ⟨rfl, rfl⟩) (fun _ _ z => z.elim) (fun a i z => by omega) (fun a i z => by unfold irM; omega) (fun a i z => z.elim)
          · rw [headC]
            unfold fX8_lawValue
            simp (disch := omega) only [lit, ↓reduceIte, ltF, leF, d0, bind_some', inbN, nI_clamp, rS17 hS, d1, r2]
          · unfold fX10_law
            simp (disch := omega) only [lit, e0, bnd_some, ↓reduceIte, eqF, inbN, nI_clamp, k1]
      · obtain ⟨k1, k2⟩ := Rm.2.2.2.2.2.2.2.2 w (by omega)
        refine none ?_ ?_
        · unfold fX9_law
          simp (disch := omega) only [lit, ↓reduceIte, ltF, leF, e1, e3, bnd_some, eqF]
        · unfold fX10_law
          simp (disch := omega) only [lit, e0, bnd_some, ↓reduceIte, eqF, inbN, nI_clamp, e2, e4]
          split <;> rfl
    · refine none ?_ ?_
      · unfold fX9_law
        simp (disch := omega) only [lit, ↓reduceIte, ltF, leF, e1, bnd_some, eqF]
      · unfold fX10_law
        simp (disch := omega) only [lit, e0, bnd_some, ↓reduceIte, eqF, inbN, nI_clamp, e2]
        split <;> rfl
  · refine none ?_ ?_
    · unfold fX9_law
      simp only [lit]
      rcases q with q | q
      · rw [if_pos q]
      · obtain ⟨q1, -, -, q2⟩ := ltI_hi 2 0 (by decide) (by decide) q
        rw [if_neg q1, if_pos q2]
    · unfold fX10_law
      simp (disch := omega) only [lit, e0, bnd_some, ↓reduceIte, eqF]
end V
