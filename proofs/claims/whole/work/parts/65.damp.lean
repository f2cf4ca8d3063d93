/-! Damp: numbers drawn, straw by straw. -/
theorem lx_a (a b : Nat) : lN a &&& lN b = lN (a &&& b) := by
  apply Int64.toBitVec_inj.mp
  show BitVec.ofNat 64 a &&& BitVec.ofNat 64 b = BitVec.ofNat 64 (a &&& b)
  rw [BitVec.ofNat_and]
/-- the next number -/
def rnd (n : Nat) : Nat := (n * 1103515245 + 12345) % 2 ^ 31
theorem rnd_lt (n : Nat) : rnd n < 2 ^ 31 := Nat.mod_lt _ (by decide)
theorem rnd_i (n : Nat) : (nI n * nI 1103515245 + nI 12345) &&& nI 2147483647 = nI (rnd n) := by
  rw [pk_mul, nI_add, nx_a, show (2147483647 : Nat) = 2 ^ 31 - 1 from rfl, Nat.and_two_pow_sub_one_eq_mod]; rfl
theorem rnd_l (n : Nat) : (lN n * lN 1103515245 + lN 12345) &&& lN 2147483647 = lN (rnd n) := by
  rw [lN_mul, lN_add, lx_a, show (2147483647 : Nat) = 2 ^ 31 - 1 from rfl, Nat.and_two_pow_sub_one_eq_mod]; rfl
theorem llit (n : Nat) : (no_index (OfNat.ofNat n) : Int64) = lN n := Eq.trans (Eq.refl _) (Eq.refl _)
theorem shr16 {n : Nat} (hn : n < 2 ^ 31) : nI n >>> (nI 16 &&& nI 31) = nI (n / 65536) := pk_shrN hn _ 16 (by decide)
theorem s_damp {hc hm : Hp} {S W : Nat} {T : Tx} (hS : isS S) (hW : isW W) (F : WFT T) (Rc : RSc hc S T) (Rm : RSm hm T) (hr : hR hc W 0 = some S) (g : RG hc hm W) : ∃ v hc' hm', v ≤ 1 ∧ fX8_isDamp W hc = some (nI v, hc') ∧ fX10_isDamp hm = some (nI v, hm') ∧ RG hc' hm' W ∧ Fr (fun a i => a = W ∧ i = 4) (fun _ _ => False) hc hc' ∧ Fr (fun _ _ => False) (fun a i => a = 107 ∧ i = 67) hm hm' ∧ (hI hm 107 68 = nI 0 → hJ hm' 107 67 = hJ hm 107 67 ∧ hI hc' W 4 = hI hc W 4) := by
  have g0 := g
  obtain ⟨⟨a, a1, a2, a3, a4⟩, ⟨b, b1, b2, b3⟩, -, -, -⟩ := g0
  have e0 := dref_of (q := (7, 20)) hr (sS hS)
  have d1 := Rc.1.2.2.2.2.2.2.2.1
  have d2 := Rm.1.2.2.2.2.2.2.2.1
  have hd := F.1.2.2.2.2.2.2.2.1
  have stay : ∀ v, v ≤ 1 → fX8_isDamp W hc = some (nI v, hc) → fX10_isDamp hm = some (nI v, hm) → ∃ v hc' hm', v ≤ 1 ∧ fX8_isDamp W hc = some (nI v, hc') ∧ fX10_isDamp hm = some (nI v, hm') ∧ RG hc' hm' W ∧ Fr (fun a i => a = W ∧ i = 4) (fun _ _ => False) hc hc' ∧ Fr (fun _ _ => False) (fun a i => a = 107 ∧ i = 67) hm hm' ∧ (hI hm 107 68 = nI 0 → hJ hm' 107 67 = hJ hm 107 67 ∧ hI hc' W 4 = hI hc W 4) :=
    fun v hv h1 h2 => ⟨v, hc, hm, hv, h1, h2, g, Fr.rf, Fr.rf, fun _ => ⟨rfl, rfl⟩⟩
  by_cases qb : b = 1
  · subst qb
    refine stay 0 (by decide) ?_ ?_
    · unfold fX8_isDamp
      simp (disch := omega) only [lit, e0, bind_some', b2, ↓reduceIte, eqF]
    · unfold fX10_isDamp
      simp (disch := omega) only [lit, b3, ↓reduceIte, eqF]
  have qb0 : b = 0 := by omega
  subst qb0
  by_cases q0 : T 0 7 = 0
  · refine stay 0 (by decide) ?_ ?_
    · unfold fX8_isDamp
      simp (disch := omega) only [lit, e0, bind_some', b2, d1, ↓reduceIte, eqT, eqF]
    · unfold fX10_isDamp
      simp (disch := omega) only [lit, b3, inbN, nI_clamp, d2, ↓reduceIte, eqT, eqF]
  by_cases qa : a = 0
  · subst qa
    by_cases q5 : T 0 7 < 50
    · refine stay 0 (by decide) ?_ ?_
      · unfold fX8_isDamp
        simp (disch := omega) only [lit, e0, bind_some', b2, d1, a2, ↓reduceIte, eqT, eqF, ltT]
      · unfold fX10_isDamp
        simp (disch := omega) only [lit, b3, inbN, nI_clamp, d2, a3, ↓reduceIte, eqT, eqF, ltT]
    · refine stay 1 (by decide) ?_ ?_
      · unfold fX8_isDamp
        simp (disch := omega) only [lit, e0, bind_some', b2, d1, a2, ↓reduceIte, eqT, eqF, ltF]
      · unfold fX10_isDamp
        by_cases q9 : T 0 7 = 100
        · simp (disch := omega) only [lit, b3, inbN, nI_clamp, d2, a3, ↓reduceIte, eqT, eqF]
        · simp (disch := omega) only [lit, b3, inbN, nI_clamp, d2, a3, ↓reduceIte, eqT, eqF, ltF]
  have qa1 : a = 1 := by omega
  subst qa1
  by_cases q9 : T 0 7 = 100
  · refine stay 1 (by decide) ?_ ?_
    · unfold fX8_isDamp
      simp (disch := omega) only [lit, e0, bind_some', b2, d1, a2, ↓reduceIte, eqT, eqF]
    · unfold fX10_isDamp
      simp (disch := omega) only [lit, b3, inbN, nI_clamp, d2, ↓reduceIte, eqT, eqF]
  obtain ⟨n, n1, n2, n3⟩ := a4 rfl
  have hrn := rnd_lt n
  have hq : rnd n / 65536 < 2 ^ 31 := by omega
  have eC : fX8_drawNumber W hc = some (nI (rnd n / 65536), uI hc W 4 (nI (rnd n))) := by
    unfold fX8_drawNumber
    simp (disch := omega) only [lit, n2, rnd_i, hI_at, shr16]
  have eM : fX10_number1 hm (nI 100) = some (nI (rnd n / 65536 % 100), uJ hm 107 67 (lN (rnd n))) := by
    unfold fX10_number1
    have h100 : (nI 100).toInt64 = lN 100 := nI_l (by decide)
    rw [h100, if_neg (by decide)]
    simp (disch := omega) only [llit, n3, rnd_l, hJ_at, pk_lDiv (a := rnd n) (b := 65536) (by omega) (by decide) (by decide), pk_lRem, lN_i]
  have hRG : RG (uI hc W 4 (nI (rnd n))) (uJ hm 107 67 (lN (rnd n))) W := by
    obtain ⟨-, ⟨b, p1, p2, p3⟩, ⟨c, c1, c2, c3⟩, ⟨d, d1, d2, d3⟩, e⟩ := g
    refine ⟨⟨1, by omega, ?_, a3, fun _ => ⟨rnd n, hrn, hI_at ⟨rfl, rfl⟩, hJ_at ⟨rfl, rfl⟩⟩⟩, ⟨b, p1, ?_, p3⟩, ⟨c, c1, ?_, c3⟩, ⟨d, d1, ?_, d3⟩, ?_⟩
    · rw [hI_ne (by omega)]; exact a2
    · rw [hI_ne (by omega)]; exact p2
    · rw [hI_ne (by omega)]; exact c2
    · rw [hI_ne (by omega)]; exact d2
    · rw [hI_ne (by omega)]; exact e
  have go : ∀ v, v ≤ 1 → fX8_isDamp W hc = some (nI v, uI hc W 4 (nI (rnd n))) → fX10_isDamp hm = some (nI v, uJ hm 107 67 (lN (rnd n))) → ∃ v hc' hm', v ≤ 1 ∧ fX8_isDamp W hc = some (nI v, hc') ∧ fX10_isDamp hm = some (nI v, hm') ∧ RG hc' hm' W ∧ Fr (fun a i => a = W ∧ i = 4) (fun _ _ => False) hc hc' ∧ Fr (fun _ _ => False) (fun a i => a = 107 ∧ i = 67) hm hm' ∧ (hI hm 107 68 = nI 0 → hJ hm' 107 67 = hJ hm 107 67 ∧ hI hc' W 4 = hI hc W 4) :=
    fun v hv h1 h2 => ⟨v, _, _, hv, h1, h2, hRG, Fr.uI Fr.rf ⟨rfl, rfl⟩, Fr.uJ Fr.rf ⟨rfl, rfl⟩, fun z => absurd (a3.symm.trans z) (by decide)⟩
  by_cases ql : T 0 7 ≤ rnd n / 65536 % 100
  · refine go 0 (by decide) ?_ ?_
    · unfold fX8_isDamp
      simp (disch := omega) only [lit, e0, bind_some', b2, d1, a2, ↓reduceIte, eqT, eqF, eC, bnd_some, pk_rem, leT]
    · unfold fX10_isDamp
      simp (disch := omega) only [lit, b3, inbN, nI_clamp, d2, a3, ↓reduceIte, eqT, eqF, eM, bnd_some, hI_uJ', leT]
  · refine go 1 (by decide) ?_ ?_
    · unfold fX8_isDamp
      simp (disch := omega) only [lit, e0, bind_some', b2, d1, a2, ↓reduceIte, eqT, eqF, eC, bnd_some, pk_rem, leF]
    · unfold fX10_isDamp
      simp (disch := omega) only [lit, b3, inbN, nI_clamp, d2, a3, ↓reduceIte, eqT, eqF, eM, bnd_some, hI_uJ', leF]
