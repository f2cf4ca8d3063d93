/-! text: a law's line; every line. -/
theorem FLc.X {X w : Nat} {h h' : Hp} (hw : w < 3) (f : FLc X w h h') : FXc X h h' := FXc.of f (fun a i q => by unfold fcX; omega)
theorem FLm.M {f : Nat} {h h' : Hp} (s : FLm f h h') : FXm h h' := s.mono (fun a i q => by
  rcases q with q | q | q | q
  · exact Or.inl ⟨q.1, by omega⟩
  · have : uof a = 64 := by rcases (by omega : a = 130 ∨ a = 131 ∨ a = 132) with rfl | rfl | rfl <;> rfl
    exact Or.inr (Or.inr (Or.inl ⟨by omega, by omega, by omega⟩))
  · exact Or.inr (Or.inr (Or.inr (Or.inl q)))
  · exact Or.inr (Or.inr (Or.inr (Or.inr q)))) (fun _ _ q => q)
section V
variable {hc hm : Hp} {X : Nat} {T : Tx} {b : Nat → Nat} {n k v s q : Nat}
theorem RD_uR (R : RD hc hm X T b n) (x : Option Nat) : RD (uR hc 69 5 x) hm X T b n := by
  obtain ⟨⟨r1, r2, r3, r4⟩, ⟨r5, r6, r7⟩, r8, r11, r12⟩ := R
  have x0 : X = 1 ∨ X = 35 := r1
  exact ⟨⟨r1, (hR_ne (by omega)).trans r2, r3, r4⟩, ⟨r5, RSc_lo r6 (fun _ _ _ => rfl) (fun i => hR_ne (by omega)), r7⟩, r8, r11, r12⟩
theorem l_law (R : RD hc hm X T b n) (Q : RQ hc hm X) (K : TK hc hm n 3 9 s q) : ∃ hc' y hm', (fX5_lawLine hc).bind (fun h_31 => fX5_line_151 h_31) = some hc' ∧ fX10_lineRead hm = some (y, hm') ∧ LN hc hm hc' y hm' X b n s := by
  have hS := R.1.1
  have x0 : X = 1 ∨ X = 35 := hS
  have lsq := K.2.2.2.2.2.1 (by decide)
  obtain ⟨hc1, hm1, a1, a2, a3, a4, k1, v1, s1, q1, K1, R1, -, g1⟩ := s_adv R K
  have m8 : hI hm 107 8 = nI 1 := K.2.1.1
  have m9 : hI hm 107 9 = nI 9 := K.2.1.2.2.2 (Or.inl (by decide))
  have in9 : (inT (nI 9) 0 8 = true) = False := eq_false (by decide)
  have wk1 := K1.2.2.1
  have k9 := wk1.1
  have m8' := K1.2.1.1
  have m9' := K1.2.1.2.2.2
  have m10' := K1.2.1.2.1
  obtain ⟨c7, c8, -, -, c11, -, -⟩ := K1.1
  have h14 := R1.1.2.2.2
  have lsq1 := K1.2.2.2.2.2.1
  unfold fX5_lawLine
  simp only [lit, x_pwT R K, a1, bind_some']
  unfold fX10_lineRead
  rw [if_pos (show hI hm 107 8 = (1 : Int32) from m8), if_pos (show hI hm 107 9 ≤ (9 : Int32) by rw [m9]; decide), if_neg (show ¬ inT (hI hm 107 9) 0 8 = true by rw [m9]; decide), a2, bind_some']
  simp only [lit]
  by_cases z : k1 = 3 ∧ 10 ≤ v1 ∧ v1 ≤ 12
  · obtain ⟨rfl, v10, v12⟩ := z
    have c11 := c11 rfl
    obtain ⟨w, hw, hv⟩ : ∃ w, w < 3 ∧ v1 = 10 + w := ⟨v1 - 10, by omega, by omega⟩
    subst hv
    have m8k : hI hm1 107 8 = nI 1 := m8'
    have m9k : hI hm1 107 9 = nI (10 + w) := m9' (Or.inl (by decide))
    have sb : nI (10 + w) - nI 10 = nI w := by rw [pk_sub (by omega)]; congr 1; omega
    have ix : nI 3 + nI (10 + w) - nI 10 = nI (3 + w) := by rw [nI_add, pk_sub (by omega)]; congr 1; omega
    obtain ⟨e1, e2, -⟩ := R1.2.1.2.1.2.2.2.2.2.2.2.2 w hw
    have t1 := (R1.2.1.1.2.2.2.2.2.2.2.2.2 w hw).1
    have d1 : dref shp hc1 (X + 24) w (1, 4) = some (X + 25 + 3 * w) := dref_of e1 (sL hS hw)
    have d2 : dref shp (uR hc1 69 5 (some (X + 25 + 3 * w))) 69 5 (1, 4) = some (X + 25 + 3 * w) := dref_of (hR_at ⟨rfl, rfl⟩) (sL hS hw)
    have e2' : hI (uR hc1 69 5 (some (X + 25 + 3 * w))) (X + 25 + 3 * w) 0 = nI (T 16 w) := e2
    have mt : hI hm1 127 (3 + w) = nI (T 16 w) := (R1.2.1.2.2.2.2.2.2.2.2.2.2 w hw).1
    have RR := RD_uR R1 (some (X + 25 + 3 * w))
    have KR : TK (uR hc1 69 5 (some (X + 25 + 3 * w))) hm1 n 3 (10 + w) s1 q1 := K1
    have fR : FXc X hc (uR hc1 69 5 (some (X + 25 + 3 * w))) := (FNc.X a3).tr ⟨fun _ _ _ => rfl, fun _ _ => rfl, fun a i z => hR_ne (by omega)⟩
    simp (disch := omega) only [c7, ↓reduceIte, c11, sb, fX5_lawLine_25, lit, ltF, ltT, R1.dref, bind_some', inbN, nI_clamp, rS17 hS, d1, d2, e2', m8k, m9k, leT, ix, mt]
    by_cases ht : T 16 w = 0
    · have L0 : hI hc1 (X + 25 + 3 * w) 1 = nI 0 := by
        have q2 := Q.2 w hw
        rw [← a3.1 (X + 25 + 3 * w) 0 (by omega), ← a3.1 (X + 25 + 3 * w) 1 (by omega)] at q2
        exact q2 (by rw [e2, ht])
      obtain ⟨hc2, hm2, k2, v2, s2, q2, b1, b2, b3, b4, K2, RT2, g2⟩ := j_adv (hc1 := uR hc1 69 5 (some (X + 25 + 3 * w))) (hm1 := uI hm1 127 (3 + w) (nI 1)) R1.1.2.2.1 K1 (fun _ _ _ _ => rfl) (fun i _ _ => hI_ne (by omega)) (fun a i _ => hI_ne (by omega))
      have c64 := R1.2.1.1.1.2.2.2.2.2.2.1
      have m25 : hI hm2 107 25 = nI (T 0 6) := by
        rw [b4.1 _ _ (by omega), hI_ne (by omega)]; exact R1.2.1.2.2.1.2.2.2.2.2.2.1
      have m54 : hI hm2 107 54 = nI (T 0 6) := by
        rw [b4.1 _ _ (by omega), hI_ne (by omega)]; exact R1.2.2.2.1
      have x18 : hI hc1 X 18 = nI (T 0 6) := R1.2.1.2.1.1.2.2.2.2.2.2.1
      simp (disch := omega) only [ht, ↓reduceIte, fX5_lawLine_74, lit, x_pwT RR KR, b1, bind_some', b2, m25]
      generalize hh4 : uI (uI (uI (uI (uI (uI hm2 128 (3 + w) (nI (T 0 6))) 107 51 (nI 0)) 107 52 (nI 0)) 107 53 (nI 0)) 107 55 (nI 1)) 107 56 (nI 1) = hm4
      have e4 : ∀ a i, ¬ ((a = 128 ∧ i = 3 + w) ∨ (a = 107 ∧ 51 ≤ i ∧ i ≤ 56 ∧ i ≠ 54)) → hI hm4 a i = hI hm2 a i := fun a i z => by
        rw [← hh4]; simp (disch := omega) only [hI_ne]
      have e51 : hI hm4 107 51 = nI 0 := by rw [← hh4]; simp (disch := omega) only [hI_ne, hI_at]
      have e52 : hI hm4 107 52 = nI 0 := by rw [← hh4]; simp (disch := omega) only [hI_ne, hI_at]
      have e53 : hI hm4 107 53 = nI 0 := by rw [← hh4]; simp (disch := omega) only [hI_ne, hI_at]
      have e55 : hI hm4 107 55 = nI 1 := by rw [← hh4]; simp (disch := omega) only [hI_ne, hI_at]
      have e56 : hI hm4 107 56 = nI 1 := by rw [← hh4]; simp (disch := omega) only [hI_at]
      have e128 : hI hm4 128 (3 + w) = nI (T 0 6) := by rw [← hh4]; simp (disch := omega) only [hI_ne, hI_at]
      have sr : fX10_sumRead (uI hm2 128 (3 + w) (nI (T 0 6))) = fX10_sumRead_25 FU hm4 := by rw [← hh4]; rfl
      have fM4 : FXm hm hm4 := by
        rw [← hh4]
        exact (((((((a4.M.uI (fmR (by decide) (by decide) (by show 3 ≤ _; omega))).tr b4.M).uI (fmR (by decide) (by decide) (by show 3 ≤ _; omega))).uI (fm7 (by omega))).uI (fm7 (by omega))).uI (fm7 (by omega))).uI (fm7 (by omega))).uI (fm7 (by omega))
      have J : JS hc2 hm4 X w (T 0 6) (fun _ => 0) 0 [] [] (T 0 6) 0 b n k2 v2 s2 q2 := by
        refine ⟨⟨hS, hw, ?_, ?_, ?_⟩, TK_m K2 (fun i h1 h2 => e4 _ _ (by omega)), ⟨?_, ?_, fun j hj => by simp only [List.length_nil, Nat.add_zero] at hj; omega, ?_⟩, ⟨?_, fun j hj => by omega, ⟨e52, trivial⟩, ⟨e51, trivial⟩, e53, ?_⟩, ⟨rfl, c64, by decide, rfl, trivial, fun j hj => by simp only [List.length_nil, Nat.add_zero] at hj; omega, fun x hx => absurd hx (by simp)⟩⟩
        · rw [b3.2.2]; exact RR.1.2.1
        · exact RTp_fr RT2 (fun _ _ => rfl) (fun _ => rfl) (fun _ => rfl) (fun i hi => e4 _ _ (by omega)) (fun i => e4 _ _ (by omega)) (fun i => e4 _ _ (by omega))
        · rw [b3.1 _ _ (by omega)]; exact h14
        · rw [b3.2.2]; exact hR_at ⟨rfl, rfl⟩
        · rw [b3.1 _ _ (by omega)]; exact L0
        · rw [b3.1 _ _ (by omega)]; exact x18
        · rw [e4 _ _ (by omega)]; exact m25
        · rw [e4 _ _ (by omega)]; exact m54
      clear hh4
      have n7 := R1.1.2.2.1.1.1
      obtain ⟨hc5, f1, f2, f3⟩ := j_all X w (T 0 6) b n 100 0 0 hc2 hm4 (fun _ => 0) 0 [] (T 0 6) k2 v2 s2 q2 FU (by decide) (by decide) (by decide) J e55 ⟨fun _ => e56, Or.inr ⟨e56, fun y => absurd y (by decide)⟩⟩ (fun x hx => by cases hx) (by unfold FU; omega)
      have ja : fX5_joinedAt hc2 (nI 0) (nI 0) = some hc5 := f1
      have fC5 : FXc X hc hc5 := (fR.tr (FNc.X b3)).tr (FLc.X hw f2)
      rw [sr]
      simp only [ja, bind_some']
      rcases f3 with ⟨hm5, r1, r2, B, -⟩ | ⟨hm5, fu', r1, r2, p', m', P, c', k', v', s', q', t1, t2, t3, t4, t5, t6, t7, t8, t9, t10⟩
      · obtain ⟨e, y1, y2, y3, y4, y5⟩ := B
        refine ⟨hc5, nI 0, uI hm5 129 (3 + w) (hI hm5 107 25), ?_, ?_, fC5, (fM4.tr (FLm.M r2)).uI (fmR (by decide) (by decide) (by show 3 ≤ _; omega)), Or.inr ⟨rfl, e, y1, y2, y3, by rw [hI_ne (by omega)]; exact y4, by rw [hI_ne (by omega)]; exact y5⟩⟩
        · simp (disch := omega) only [y3, eqF, ↓reduceIte, bind_some']
          exact x_151I y3 y1 y2
        · rw [r1, bnd_some]
          unfold fX10_lineRead_251
          simp only [lit, ↓reduceIte]
      · obtain ⟨⟨i1, i2, i3, i4, i5⟩, K5, xc5, xm5, xa5⟩ := id t2
        have d5 : dref shp hc5 69 5 (1, 4) = some (X + 25 + 3 * w) := t2.dl
        obtain ⟨fu2, rfl⟩ : ∃ g, fu' = g + 1 := ⟨fu' - 1, by omega⟩
        have i5' : hI (uI hc5 (X + 25 + 3 * w) 0 (nI 1)) 69 14 = nI 0 := (hI_ne (by omega)).trans i5
        have fC6 : FXc X hc (uI hc5 (X + 25 + 3 * w) 0 (nI 1)) := fC5.tr (FXc.of (PI := fcX X) (Fr.rf.uI (by unfold fcX; omega)) (fun _ _ z => z))
        simp only [i5, lit, ↓reduceIte, d5, bind_some']
        by_cases z5 : k' = 5
        · subst z5
          obtain ⟨hm6, u1, u2, u3⟩ := j_bind t2 (r := 1) (fun x hx => by have := t7 x hx; omega) (fun x hx => by cases hx) (by decide)
          obtain ⟨z1, z2, z3, z4, z5, z6, z7⟩ := xa5
          have np := PCd_nop z5
          rw [List.append_nil] at z1 z4
          have m25' : hI hm6 107 25 = nI (T 0 6 + (m' + P.length)) := u2.1
          have F1 : ∀ a i, ¬ ((a = 69 ∧ 6 ≤ i ∧ i ≤ 15) ∨ (a = X ∧ i = 18) ∨ (a = X + 25 + 3 * w ∧ (i = 0 ∨ i = 1)) ∨ a = X + 26 + 3 * w) → hI (uI hc5 (X + 25 + 3 * w) 0 (nI 1)) a i = hI hc1 a i := fun a i y => by
            rw [hI_ne (by omega), f2.1 _ _ (by omega), b3.1 _ _ (by omega)]; rfl
          have F2 : ∀ a i, ¬ ((a = 107 ∧ ((4 ≤ i ∧ i ≤ 11 ∧ i ≠ 6) ∨ i = 25 ∨ (51 ≤ i ∧ i ≤ 56))) ∨ (130 ≤ a ∧ a ≤ 132 ∧ 64 + T 0 6 ≤ i) ∨ a = 133 ∨ a = 134 ∨ ((a = 127 ∨ a = 128 ∨ a = 129) ∧ i = 3 + w)) → hI (uI hm6 129 (3 + w) (nI (T 0 6 + (m' + P.length)))) a i = hI hm1 a i := fun a i y => by
            rw [hI_ne (by omega), u3.1 _ _ (by omega), r2.1 _ _ (by omega), e4 _ _ (by omega), b4.1 _ _ (by omega), hI_ne (by omega)]
          obtain ⟨U, RU⟩ := RD_law (hc' := uI hc5 (X + 25 + 3 * w) 0 (nI 1)) (hm' := uI hm6 129 (3 + w) (nI (T 0 6 + (m' + P.length)))) (M := m' + P.length) (c' := c') (p := p') R1 (RTp_fr i4 (fun i hi => hI_ne (by omega)) (fun i => hI_ne (by omega)) (fun i => hI_ne (by omega)) (fun i hi => by rw [hI_ne (by omega), u3.1 _ _ (by omega)]) (fun i => by rw [hI_ne (by omega), u3.1 _ _ (by omega)]) (fun i => by rw [hI_ne (by omega), u3.1 _ _ (by omega)])) hw (by omega) z2 t5 z6 (by omega) F1 (fun a i y => by
              show hR hc5 a i = _
              rw [f2.2.2, b3.2.2, hR_ne y]) i5' (hI_at ⟨rfl, rfl⟩) ((hI_ne (by omega)).trans xc5.2.1) (fun j hj => by rw [hI_ne (by omega)]; exact xc5.2.2.1 j hj) ((hI_ne (by omega)).trans xc5.2.2.2) F2 (by
              rw [hI_ne (by omega), u3.1 _ _ (by omega), r2.1 _ _ (by omega), e4 _ _ (by omega), b4.1 _ _ (by omega), hI_at ⟨rfl, rfl⟩]) (by
              rw [hI_ne (by omega), u3.1 _ _ (by omega), r2.1 _ _ (by omega)]; exact e128) (hI_at ⟨rfl, rfl⟩) (MLk_ext u2.2.1 (fun a i h1 h2 => by
              rw [hup_I, hup_I, if_neg (by omega), if_neg (by omega), hI_ne (by omega)])) (by
              rw [hI_ne (by omega), m25']; congr 1; omega) (by
              rw [hI_ne (by omega)]; exact u2.2.2.2.2.2)
          have KU : TK (uI hc5 (X + 25 + 3 * w) 0 (nI 1)) (uI hm6 129 (3 + w) (nI (T 0 6 + (m' + P.length)))) n 5 v' s' q' := TK_c (TK_m K5 (fun i h1 h2 => by rw [hI_ne (by omega), u3.1 _ _ (by omega)])) (fun i => hI_ne (by omega))
          obtain ⟨hc8, hm8, w1, w2, w3, w4, ⟨k8, v8, s8, q8, w5, w6, w7, w8⟩, w9⟩ := l_semi (p0 := 0) RU KU
          refine ⟨hc8, nI 1, hm8, w1, ?_, fC6.tr w3, (((fM4.tr (FLm.M r2)).tr (FLm.M u3.L)).uI (fmR (by decide) (by decide) (by show 3 ≤ _; omega))).tr w4, Or.inl ⟨rfl, U, k8, v8, s8, q8, w5, w6, by omega, ?_, fun _ => w9 ?_⟩⟩
          · rw [r1, m_srE t3 xm5.2.2.2.2.1 K5, u1, bind_some', bnd_some, m25']
            exact w2
          · rw [w8, F1 _ _ (by omega), a3.1 _ _ (by omega)]
          · obtain ⟨⟨aa, cc, y1, y2, y3, y4, y5, y6⟩, y7⟩ := Q
            refine ⟨⟨aa, cc, y1, y2, ?_, ?_, ?_, ?_⟩, fun x hx h0 => ?_⟩
            · rw [F1 _ _ (by omega), a3.1 _ _ (by omega)]; exact y3
            · rw [F1 _ _ (by omega), a3.1 _ _ (by omega)]; exact y4
            · rw [F2 _ _ (by omega), a4.1 _ _ (by omega)]; exact y5
            · rw [F2 _ _ (by omega), a4.1 _ _ (by omega)]; exact y6
            · by_cases yw : x = w
              · subst yw
                rw [hI_at ⟨rfl, rfl⟩] at h0
                exact absurd (nI_inj (by decide) (by decide) h0) (by decide)
              · rw [F1 _ _ (by omega), a3.1 _ _ (by omega)] at h0 ⊢
                exact y7 x hx h0
        · obtain ⟨hm6, u1, u2, u3, u4⟩ := j_signB t2 (fun _ => rfl) (fun y => by
            rcases t8 y with y1 | y1
            · omega
            · exact ⟨y1.1, y1.2.2⟩)
          have pf := x_passF (h := uI hc5 (X + 25 + 3 * w) 0 (nI 1)) (w := 5) i5' (by rw [hI_ne (by omega)]; exact K5.1.1) z5 (by have := K5.2.2.1.1; omega) (by decide)
          have e8 : hI (uI hc5 (X + 25 + 3 * w) 0 (nI 1)) 69 8 = nI s' := (hI_ne (by omega)).trans K5.1.2.1
          rw [e8] at pf
          have i14 : hI (uI (uI (uI hc5 (X + 25 + 3 * w) 0 (nI 1)) 69 14 (nI 1)) 69 15 (nI s')) 69 14 = nI 1 := by rw [hI_ne (by omega), hI_at ⟨rfl, rfl⟩]
          refine ⟨uI (uI (uI hc5 (X + 25 + 3 * w) 0 (nI 1)) 69 14 (nI 1)) 69 15 (nI s'), nI 0, uI hm6 129 (3 + w) (hI hm6 107 25), ?_, ?_, fC6.tr (FXc.of (PI := fcX X) ((Fr.rf.uI (by unfold fcX; omega)).uI (by unfold fcX; omega)) (fun _ _ z => z)), ((fM4.tr (FLm.M r2)).tr (FLm.M u2)).uI (fmR (by decide) (by decide) (by show 3 ≤ _; omega)), Or.inr ⟨rfl, 1, by decide, by decide, i14, by rw [hI_ne (by omega)]; exact u3, by rw [hI_at ⟨rfl, rfl⟩, hI_ne (by omega)]; exact u4.symm⟩⟩
          · unfold fX5_line_151
            rw [lit 5, pf, bind_some']
            simp (disch := omega) only [lit, i14, eqF, ↓reduceIte]
          · rw [r1, m_srS t3 xm5.2.2.2.2.1 (by decide) K5 (by omega), u1, bnd_some]
            simp only [↓reduceIte, bnd_some]
            unfold fX10_lineRead_251
            simp only [lit, ↓reduceIte]
    · have ht1 : T 16 w = 1 := by omega
      obtain ⟨b1, b2, b3⟩ := bad_here (hc := uR hc1 69 5 (some (X + 25 + 3 * w))) (hm := hm1) (s := s1) h14 c8 m10' (e := 3) (by decide) (by decide)
      obtain ⟨e, y1, y2, y3, -⟩ := id b1
      refine ⟨_, nI 0, _, ?_, ?_, fR.tr b2.X, a4.M.tr b3.M, Or.inr ⟨rfl, b1⟩⟩
      · simp (disch := omega) only [ht1, eqF, ↓reduceIte, fX5_lawLine_74, lit, x_pwF RR KR (show 1 ≤ 3 by decide) (by decide), bind_some', fX5_joinedAt, x_jI y3 y1 y2, y3]
        exact x_151I y3 y1 y2
      · simp (disch := omega) only [ht1, eqF, ↓reduceIte, m_wrong, bnd_some, isZ0, m10']
  · obtain ⟨b1, b2, b3⟩ := bad_here (s := s1) h14 c8 m10' (e := 1) (by decide) (by decide)
    obtain ⟨e, y1, y2, y3, -⟩ := id b1
    have e35 : fX5_lawLine_35 hc1 = some (uI (uI hc1 69 14 (nI 1)) 69 15 (nI s1)) := by
      unfold fX5_lawLine_35 fX5_fail
      simp only [lit, h14, ↓reduceIte, c8, bind_some']
    have e184 : fX10_lineRead_184 hm1 = some (nI 0, uI (uI hm1 107 4 (nI 1)) 107 5 (nI s1)) := by
      unfold fX10_lineRead_184
      simp only [lit, m_wrong, bnd_some, isZ0, ↓reduceIte, m10']
    refine ⟨_, nI 0, _, ?_, ?_, (FNc.X a3).tr b2.X, a4.M.tr b3.M, Or.inr ⟨rfl, b1⟩⟩
    · have l25 : ∀ x : Int32, (x < nI 0 ∨ ∃ j, 3 ≤ j ∧ j < 100 ∧ x = nI j) → fX5_lawLine_25 hc1 x = some (uI (uI hc1 69 14 (nI 1)) 69 15 (nI s1)) := fun x hx => by
        unfold fX5_lawLine_25
        rw [e35]
        rcases hx with hx | ⟨j, h1, h2, rfl⟩
        · simp only [lit, hx, ↓reduceIte]
        · simp (disch := omega) only [lit, ltF, ↓reduceIte]
      by_cases z3 : k1 = 3
      · subst z3
        have v23 := (wk1.2.2.1 rfl).1
        have c11 := c11 rfl
        rw [c7, if_pos rfl, c11, l25 _ (by
          by_cases y : v1 < 10
          · left
            rw [Int32.lt_iff_toInt_lt, pk_sub_toInt (by omega) (by omega), nI_toInt (by omega)]
            omega
          · right
            exact ⟨v1 - 10, by omega, by omega, pk_sub (by omega)⟩), bind_some']
        exact x_151I y3 y1 y2
      · have n3 : ¬ (nI k1 = nI 3) := fun y => z3 (nI_inj (by omega) (by decide) y)
        rw [c7, if_neg n3, l25 _ (Or.inl (by decide)), bind_some']
        exact x_151I y3 y1 y2
    · rw [e184]
      by_cases y : kM k1 v1 = 1
      · have h9 := kM1 y
        have w9 : wM k1 v1 < 10 ∨ (12 < wM k1 v1 ∧ wM k1 v1 < 100) := by
          rcases h9 with rfl | ⟨h9, h10⟩
          · have v23 := (wk1.2.2.1 rfl).1
            have : wM 3 v1 = v1 := rfl
            omega
          · have : k1 = 8 := by omega
            subst this
            have := wM80 h10
            omega
        rw [y] at m8'
        have m9' := m9' (Or.inl (by omega))
        rcases w9 with w9 | w9
        · simp (disch := omega) only [m8', ↓reduceIte, m9', ltT]
        · simp (disch := omega) only [m8', ↓reduceIte, m9', ltF, leF]
      · have kl := kM_lt k1 v1
        simp (disch := omega) only [m8', eqF, ↓reduceIte]
end V
