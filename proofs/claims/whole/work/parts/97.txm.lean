/-! text: law lines; a line as a whole. -/
section V
variable {hc hm : Hp} {X : Nat} {T : Tx} {b : Nat → Nat} {n k v s q : Nat}
theorem RD_law {hc' hm' : Hp} {w M c' : Nat} {p : Nat → Nat} (R : RD hc hm X T b n) (rt : RTp hc' hm' b n) (hw : w < 3) (hMc : c' = T 0 6 + M) (c64 : c' ≤ 64) (d1 : dpt p M = 1) (pk : ∀ j, j < M → PfK p j) (h0 : T 16 w ≠ 1)
    (ec : ∀ a i, ¬ ((a = 69 ∧ 6 ≤ i ∧ i ≤ 15) ∨ (a = X ∧ i = 18) ∨ (a = X + 25 + 3 * w ∧ (i = 0 ∨ i = 1)) ∨ a = X + 26 + 3 * w) → hI hc' a i = hI hc a i) (er : ∀ a i, ¬ (a = 69 ∧ i = 5) → hR hc' a i = hR hc a i) (h14 : hI hc' 69 14 = nI 0) (l0 : hI hc' (X + 25 + 3 * w) 0 = nI 1) (l1 : hI hc' (X + 25 + 3 * w) 1 = nI M) (lr : ∀ j, j < M → hI hc' (X + 26 + 3 * w) j = nI (p j)) (x18 : hI hc' X 18 = nI c')
    (em : ∀ a i, ¬ ((a = 107 ∧ ((4 ≤ i ∧ i ≤ 11 ∧ i ≠ 6) ∨ i = 25 ∨ (51 ≤ i ∧ i ≤ 56))) ∨ (130 ≤ a ∧ a ≤ 132 ∧ 64 + T 0 6 ≤ i) ∨ a = 133 ∨ a = 134 ∨ ((a = 127 ∨ a = 128 ∨ a = 129) ∧ i = 3 + w)) → hI hm' a i = hI hm a i) (v127 : hI hm' 127 (3 + w) = nI 1) (v128 : hI hm' 128 (3 + w) = nI (T 0 6)) (v129 : hI hm' 129 (3 + w) = nI (T 0 6 + M)) (ml : MLk (hup hm') (T 0 6) p M) (v25 : hI hm' 107 25 = nI c') (v54 : hI hm' 107 54 = nI c') : ∃ T', RD hc' hm' X T' b n := by
  obtain ⟨⟨r1, r2, r3, r4⟩, ⟨r5, r6, r7⟩, ⟨r8, r9, r10⟩, r11, r12⟩ := R
  have x0 : X = 1 ∨ X = 35 := r1
  generalize hU : tU (tU (tU (fun r => if r = 18 + w then p else T r) 0 6 c') 16 w 1) 17 w M = U
  have u0 : ∀ k, k ≠ 6 → U 0 k = T 0 k := fun k z => by
    rw [← hU]; simp (disch := omega) only [tU_ne]; rw [if_neg (by omega)]
  have u06 : U 0 6 = c' := by rw [← hU]; simp (disch := omega) only [tU_ne, tU_at]
  have u16w : U 16 w = 1 := by rw [← hU]; simp (disch := omega) only [tU_ne, tU_at]
  have u16 : ∀ i, i ≠ w → U 16 i = T 16 i := fun i z => by
    rw [← hU]; simp (disch := omega) only [tU_ne]; rw [if_neg (by omega)]
  have u17w : U 17 w = M := by rw [← hU]; simp (disch := omega) only [tU_at]
  have u17 : ∀ i, i ≠ w → U 17 i = T 17 i := fun i z => by
    rw [← hU]; simp (disch := omega) only [tU_ne]; rw [if_neg (by omega)]
  have u18 : U (18 + w) = p := by rw [← hU]; simp (disch := omega) only [tU_row, ↓reduceIte]
  have ur : ∀ r, r ≠ 0 → r ≠ 16 → r ≠ 17 → r ≠ 18 + w → U r = T r := fun r _ _ _ z => by
    rw [← hU]; simp (disch := omega) only [tU_row]; rw [if_neg z]
  clear hU
  have ul : ∀ r, 1 ≤ r → r ≤ 15 → U r = T r := fun r _ _ => ur r (by omega) (by omega) (by omega) (by omega)
  have c6 := r5.1.2.2.2.2.2.2.1
  have eh : ∀ x i, ¬ (x = 107 ∧ i = 18) → ¬ (130 ≤ x ∧ T 0 6 ≤ i) → ¬ (127 ≤ x ∧ x ≤ 129 ∧ i = w) → (x = 107 ∧ 12 ≤ i ∧ i ≤ 18) ∨ (111 ≤ x ∧ x ≤ 132) → hI (hup hm') x i = hI (hup hm) x i := fun x i z1 z2 z3 z4 => by
    rw [hup_I, hup_I]
    by_cases z : x = 107
    · rw [if_pos z, if_pos z]; exact em _ _ (by omega)
    · rw [if_neg z, if_neg z]
      apply em
      by_cases y : 127 ≤ x
      · by_cases y2 : x ≤ 129
        · have : uof x = 3 := by rcases (by omega : x = 127 ∨ x = 128 ∨ x = 129) with rfl | rfl | rfl <;> rfl
          omega
        · have : uof x = 64 := by rcases (by omega : x = 130 ∨ x = 131 ∨ x = 132) with rfl | rfl | rfl <;> rfl
          omega
      · omega
  refine ⟨U, ⟨r1, by rw [er _ _ (by omega)]; exact r2, ?_, h14⟩, ⟨?_, ?_, ?_⟩, ⟨?_, ?_, ?_⟩, ?_, ?_⟩
  · exact rt
  · obtain ⟨⟨f0, f1, f2, f3, f4, f5, f6, f7, f8⟩, a2, a3, a4, a5, a6, a7, a8, a9, a10⟩ := r5
    refine ⟨⟨?_, ?_, ?_, ?_, ?_, ?_, ?_, ?_, ?_⟩, ?_, ?_, ?_, ?_, ?_, ?_, ?_, ?_, ?_⟩
    · rw [u0 0 (by decide)]; exact f0
    · rw [u0 1 (by decide)]; exact f1
    · rw [u0 2 (by decide)]; exact f2
    · rw [u0 3 (by decide)]; exact f3
    · rw [u0 4 (by decide)]; exact f4
    · rw [u0 5 (by decide)]; exact f5
    · rw [u06]; exact c64
    · rw [u0 7 (by decide)]; exact f7
    · rw [u0 8 (by decide)]; exact f8
    · rw [u0 0 (by decide), ul 1 (by decide) (by decide), ul 2 (by decide) (by decide), ul 3 (by decide) (by decide)]; exact a2
    · rw [u0 0 (by decide), u0 1 (by decide), ul 4 (by decide) (by decide), ul 5 (by decide) (by decide)]; exact a3
    · rw [u0 0 (by decide), u0 2 (by decide), ul 6 (by decide) (by decide), ul 7 (by decide) (by decide), ul 8 (by decide) (by decide)]; exact a4
    · rw [u0 0 (by decide), ul 10 (by decide) (by decide)]; exact a5
    · rw [u0 3 (by decide), ul 9 (by decide) (by decide)]; exact a6
    · rw [u0 3 (by decide), ul 10 (by decide) (by decide)]; exact a7
    · rw [u0 2 (by decide), u0 3 (by decide), u0 4 (by decide), ul 11 (by decide) (by decide), ul 12 (by decide) (by decide), ul 13 (by decide) (by decide)]; exact a8
    · rw [u0 2 (by decide), u0 5 (by decide), ul 14 (by decide) (by decide), ul 15 (by decide) (by decide)]; exact a9
    · intro y hy
      by_cases z : y = w
      · subst z
        rw [u16w, u17w, u18]
        exact ⟨Nat.le_refl _, fun _ => ⟨by omega, d1, pk⟩⟩
      · rw [u16 y z, u17 y z, ur (18 + y) (by omega) (by omega) (by omega) (by omega)]; exact a10 y hy
  · obtain ⟨⟨f0, f1, f2, f3, f4, f5, f6, f7, f8⟩, a2, a3, a4, a5, a6, a7, a8, a9⟩ := r6
    refine ⟨⟨?_, ?_, ?_, ?_, ?_, ?_, ?_, ?_, ?_⟩, ?_, ?_, ?_, ?_, ?_, ?_, ?_, ?_⟩
    · rw [u0 0 (by decide), ec _ _ (by omega)]; exact f0
    · rw [u0 1 (by decide), ec _ _ (by omega)]; exact f1
    · rw [u0 2 (by decide), ec _ _ (by omega)]; exact f2
    · rw [u0 3 (by decide), ec _ _ (by omega)]; exact f3
    · rw [u0 4 (by decide), ec _ _ (by omega)]; exact f4
    · rw [u0 5 (by decide), ec _ _ (by omega)]; exact f5
    · rw [u06]; exact x18
    · rw [u0 7 (by decide), ec _ _ (by omega)]; exact f7
    · rw [u0 8 (by decide), ec _ _ (by omega)]; exact f8
    · rw [u0 0 (by decide), ul 1 (by decide) (by decide), ul 2 (by decide) (by decide), ul 3 (by decide) (by decide)]; simp (disch := omega) only [ec]; exact a2
    · unfold hitsT foesT; rw [u0 1 (by decide), ul 4 (by decide) (by decide), ul 5 (by decide) (by decide)]; simp (disch := omega) only [ec]; exact a3
    · rw [u0 1 (by decide), ul 4 (by decide) (by decide), ul 5 (by decide) (by decide)]; simp (disch := omega) only [ec]; exact a4
    · rw [u0 2 (by decide), ul 6 (by decide) (by decide), ul 7 (by decide) (by decide), ul 8 (by decide) (by decide)]; simp (disch := omega) only [ec]; exact a5
    · rw [u0 3 (by decide), ul 9 (by decide) (by decide), ul 10 (by decide) (by decide)]; simp (disch := omega) only [ec]; exact a6
    · rw [u0 4 (by decide), ul 11 (by decide) (by decide), ul 12 (by decide) (by decide), ul 13 (by decide) (by decide)]; simp (disch := omega) only [ec]; exact a7
    · rw [u0 5 (by decide), ul 14 (by decide) (by decide), ul 15 (by decide) (by decide)]; simp (disch := omega) only [ec]; exact a8
    · intro y hy
      obtain ⟨e1, e2, e3⟩ := a9 y hy
      refine ⟨by rw [er _ _ (by omega)]; exact e1, ?_⟩
      by_cases z : y = w
      · subst z
        rw [u16w, u17w, u18]
        exact ⟨l0, fun _ => ⟨l1, lr⟩⟩
      · rw [u16 y z, u17 y z, ur (18 + y) (by omega) (by omega) (by omega) (by omega), ec _ _ (by omega), ec _ _ (by omega)]
        refine ⟨e2, fun ht => ⟨(e3 ht).1, fun j hj => ?_⟩⟩
        rw [ec _ _ (by omega)]; exact (e3 ht).2 j hj
  · obtain ⟨⟨f0, f1, f2, f3, f4, f5, f6, f7, f8⟩, a2, a3, a4, a5, a6, a7, a8, a9⟩ := r7
    refine ⟨⟨?_, ?_, ?_, ?_, ?_, ?_, ?_, ?_, ?_⟩, ?_, ?_, ?_, ?_, ?_, ?_, ?_, ?_⟩
    · rw [u0 0 (by decide), eh _ _ (by omega) (by omega) (by omega) (by omega)]; exact f0
    · rw [u0 1 (by decide), eh _ _ (by omega) (by omega) (by omega) (by omega)]; exact f1
    · rw [u0 2 (by decide), eh _ _ (by omega) (by omega) (by omega) (by omega)]; exact f2
    · rw [u0 3 (by decide), eh _ _ (by omega) (by omega) (by omega) (by omega)]; exact f3
    · rw [u0 4 (by decide), eh _ _ (by omega) (by omega) (by omega) (by omega)]; exact f4
    · rw [u0 5 (by decide), eh _ _ (by omega) (by omega) (by omega) (by omega)]; exact f5
    · rw [u06]; exact v25
    · rw [u0 7 (by decide), eh _ _ (by omega) (by omega) (by omega) (by omega)]; exact f7
    · rw [u0 8 (by decide), eh _ _ (by omega) (by omega) (by omega) (by omega)]; exact f8
    · rw [u0 0 (by decide), ul 1 (by decide) (by decide), ul 2 (by decide) (by decide), ul 3 (by decide) (by decide)]; simp (disch := omega) only [eh]; exact a2
    · rw [u0 1 (by decide), ul 4 (by decide) (by decide), ul 5 (by decide) (by decide)]; simp (disch := omega) only [eh]; exact a3
    · rw [u0 2 (by decide), ul 6 (by decide) (by decide), ul 7 (by decide) (by decide), ul 8 (by decide) (by decide)]; simp (disch := omega) only [eh]; exact a4
    · rw [u0 3 (by decide), ul 9 (by decide) (by decide)]; simp (disch := omega) only [eh]; exact a5
    · rw [ul 10 (by decide) (by decide)]; simp (disch := omega) only [eh]; exact a6
    · rw [u0 4 (by decide), ul 11 (by decide) (by decide), ul 12 (by decide) (by decide), ul 13 (by decide) (by decide)]; simp (disch := omega) only [eh]; exact a7
    · rw [u0 5 (by decide), ul 14 (by decide) (by decide), ul 15 (by decide) (by decide)]; simp (disch := omega) only [eh]; exact a8
    · intro y hy
      obtain ⟨e1, e2⟩ := a9 y hy
      by_cases z : y = w
      · subst z
        rw [u16w, u17w, u18]
        exact ⟨v127, fun _ => ⟨T 0 6, v128, v129, by omega, ml⟩⟩
      · rw [u16 y z, u17 y z, ur (18 + y) (by omega) (by omega) (by omega) (by omega), eh _ _ (by omega) (by omega) (by omega) (by omega), eh _ _ (by omega) (by omega) (by omega) (by omega), eh _ _ (by omega) (by omega) (by omega) (by omega)]
        refine ⟨e1, fun ht => ?_⟩
        obtain ⟨f, g1, g2, g3, g4⟩ := e2 ht
        exact ⟨f, g1, g2, g3, MLk_lo g4 (r12 y hy ht f g1 g3) (fun a i h1 h2 h3 => eh a i (by omega) (by omega) (by omega) (by omega))⟩
  · rw [ec _ _ (by omega)]; exact r8
  · rw [ec _ _ (by omega)]; exact r9
  · rw [ec _ _ (by omega)]; exact r10
  · rw [u06]; exact v54
  · intro y hy ht f hf hl
    rw [u06]
    by_cases z : y = w
    · subst z
      rw [u17w] at hl ⊢
      have hf : hI hm' 128 (3 + y) = nI f := hf
      rw [v128] at hf
      have := nI_inj (by omega) (by omega) hf
      omega
    · rw [u16 y z] at ht
      rw [u17 y z] at hl ⊢
      rw [eh _ _ (by omega) (by omega) (by omega) (by omega)] at hf
      have := r12 y hy ht f hf hl
      omega
/-- what a whole line comes to -/
def LN (hc hm hc' : Hp) (y : Int32) (hm' : Hp) (X : Nat) (b : Nat → Nat) (n s : Nat) : Prop := FXc X hc hc' ∧ FXm hm hm' ∧ ((y = nI 1 ∧ ∃ T' k' v' s' q', TK hc' hm' n k' v' s' q' ∧ RD hc' hm' X T' b n ∧ s < s' ∧ hI hc' X 19 = hI hc X 19 + nI 1 ∧ (RQ hc hm X → RQ hc' hm' X)) ∨ (y = nI 0 ∧ Bad hc' hm'))
theorem RD_19 (R : RD hc hm X T b n) (x : Int32) : RD (uI hc X 19 x) hm X T b n := by
  obtain ⟨⟨r1, r2, r3, r4⟩, ⟨r5, r6, r7⟩, ⟨r8, r9, r10⟩, r11, r12⟩ := R
  have x0 : X = 1 ∨ X = 35 := r1
  refine ⟨⟨r1, r2, RTp_fr r3 (fun i hi => hI_ne (by omega)) (fun i => hI_ne (by omega)) (fun i => hI_ne (by omega)) (fun _ _ => rfl) (fun _ => rfl) (fun _ => rfl), (hI_ne (by omega)).trans r4⟩, ⟨r5, RSc_lo r6 (fun a i z => hI_ne (by unfold crel at z; omega)) (fun _ => rfl), r7⟩, ⟨(hI_ne (by omega)).trans r8, (hI_ne (by omega)).trans r9, (hI_ne (by omega)).trans r10⟩, r11, r12⟩
/-- the end of a line that went well -/
theorem l_semi {p0 : Nat} (R : RD hc hm X T b n) (K : TK hc hm n 5 v s q) : ∃ hc' hm', fX5_line_151 hc = some hc' ∧ fX10_lineRead_251 hm (nI 1) = some (nI 1, hm') ∧ FXc X hc hc' ∧ FXm hm hm' ∧ (∃ k' v' s' q', TK hc' hm' n k' v' s' q' ∧ RD hc' hm' X T b n ∧ s < s' ∧ hI hc' X 19 = hI hc X 19 + nI 1) ∧ (RQ hc hm X → RQ hc' hm' X) := by
  have x0 : X = 1 ∨ X = 35 := R.1.1
  have lsq := K.2.2.2.2.2.1 (by decide)
  obtain ⟨hc1, hm1, a1, a2, a3, a4, k1, v1, s1, q1, K1, R1, -, g1⟩ := s_adv R K
  have s59 : fX10_isSign hm (nI 59) = some (nI 1, hm) := m_isS K.2.1 K.2.2.1 (by decide)
  refine ⟨uI hc1 X 19 (hI hc1 X 19 + nI 1), hm1, ?_, ?_, ?_, a4.M, ⟨k1, v1, s1, q1, TK_c K1 (fun i => hI_ne (by omega)), RD_19 R1 _, by omega, ?_⟩, fun rq => RQ_fr rq ?_ ?_ ?_ ?_⟩
  · unfold fX5_line_151
    simp only [lit, x_passT R.1.2.2.2 K.1.1, a1, bind_some', R1.1.2.2.2, ↓reduceIte, R1.dref]
  · unfold fX10_lineRead_251
    simp (disch := omega) only [lit, eqF, ↓reduceIte, s59, bnd_some, a2, bind_some']
  · have f0 : FNc hc hc1 := a3
    exact FXc.of (PI := fcX X) ((f0.mono (fun a i q => by unfold fcX; omega) (fun _ _ q => q)).uI (by unfold fcX; omega)) (fun _ _ q => q)
  · rw [hI_at ⟨rfl, rfl⟩, a3.1 _ _ (by omega)]
  · rw [hI_ne (by omega), a3.1 _ _ (by omega)]
  · rw [hI_ne (by omega), a3.1 _ _ (by omega)]
  · intro i; rw [a4.1 _ _ (by omega)]
  · intro x i hx; rw [hI_ne (by omega), a3.1 _ _ (by omega)]
/-- the class is idle at a line's end -/
theorem x_151I {h : Hp} {e : Nat} (h14 : hI h 69 14 = nI e) (h1 : 1 ≤ e) (h5 : e ≤ 5) : fX5_line_151 h = some h := by
  unfold fX5_line_151
  simp (disch := omega) only [x_passI h14 h1 h5, bind_some', lit, h14, eqF, ↓reduceIte]
theorem l_end {hc1 hm1 : Hp} {y : Int32} {p0 : Nat} (L : LO hc hm hc1 y hm1 X b n p0) (hs : s < p0) : ∃ hc' y' hm', fX5_line_151 hc1 = some hc' ∧ fX10_lineRead_251 hm1 y = some (y', hm') ∧ LN hc hm hc' y' hm' X b n s := by
  obtain ⟨fc, fm, ⟨rfl, T', k', v', s', q', K, R, l1, l2, l3⟩ | ⟨rfl, B⟩⟩ := L
  · by_cases z : k' = 5
    · subst z
      obtain ⟨hc', hm', a1, a2, a3, a4, ⟨k1, v1, s1, q1, a5, a6, a7, a8⟩, a9⟩ := l_semi (p0 := 0) R K
      exact ⟨hc', nI 1, hm', a1, a2, fc.tr a3, fm.tr a4, Or.inl ⟨rfl, T', k1, v1, s1, q1, a5, a6, by omega, by rw [a8, l2], fun rq => a9 (l3 rq)⟩⟩
    · obtain ⟨b1, b2, b3⟩ := bad_here R.1.2.2.2 K.1.2.1 K.2.1.2.1 (e := 1) (by decide) (by decide)
      obtain ⟨e, y1, y2, y3, -⟩ := id b1
      have n59 : ¬ (kM k' v' = 4 ∧ wM k' v' = 59) := fun y => z (kw59 K.2.2.1.1 y.1 y.2)
      refine ⟨_, nI 0, _, ?_, ?_, fc.tr b2.X, fm.tr b3.M, Or.inr ⟨rfl, b1⟩⟩
      · unfold fX5_line_151
        rw [lit 5, x_passF R.1.2.2.2 K.1.1 z (by have := K.2.2.1.1; omega) (by decide), bind_some', K.1.2.1]
        simp (disch := omega) only [lit, y3, eqF, ↓reduceIte]
      · unfold fX10_lineRead_251
        rw [lit 59, m_isS K.2.1 K.2.2.1 (by decide), if_neg n59]
        simp (disch := omega) only [lit, eqF, ↓reduceIte, bnd_some, m_wrong, K.2.1.2.1, isZ0]
  · obtain ⟨e, y1, y2, y3, -⟩ := id B
    refine ⟨hc1, nI 0, hm1, x_151I y3 y1 y2, ?_, fc, fm, Or.inr ⟨rfl, B⟩⟩
    unfold fX10_lineRead_251
    simp only [lit, ↓reduceIte]
end V
