/-! text: the laws' sums as a whole. -/
def pNt (p : Nat → Nat) (M : Nat) : Nat → Nat → Nat
  | 0 => p
  | e + 1 => pU (pNt p M e) (M + e) 20002
theorem pNt_lt {p : Nat → Nat} {M : Nat} : ∀ {e j : Nat}, j < M → pNt p M e j = p j
  | 0, _, _ => rfl
  | e + 1, j, h => by rw [pNt, pU_lt (by omega)]; exact pNt_lt h
theorem pNt_in {p : Nat → Nat} {M : Nat} : ∀ {e j : Nat}, M ≤ j → j < M + e → pNt p M e j = 20002
  | 0, j, h1, h2 => by omega
  | e + 1, j, h1, h2 => by
    rw [pNt]
    by_cases q : j = M + e
    · rw [q, pU_at]
    · rw [pU_lt (by omega)]; exact pNt_in h1 (by omega)
theorem pNt_d {p : Nat → Nat} {M : Nat} : ∀ {e : Nat}, dpt (pNt p M e) (M + e) = dpt p M
  | 0 => rfl
  | e + 1 => by
    rw [← Nat.add_assoc, dpt, pNt_in (by omega) (by omega), if_neg (by decide), if_pos rfl, dpt_ext (q := pNt p M (e + 1)) (p := pNt p M e) (fun i hi => by rw [pNt, pU_lt hi]), pNt_d]
theorem pNt_K {p : Nat → Nat} {M : Nat} (h : ∀ j, j < M → PfK p j) (hd : 1 ≤ dpt p M) : ∀ {e : Nat}, ∀ j, j < M + e → PfK (pNt p M e) j
  | 0, j, hj => h j hj
  | e + 1, j, hj => by
    by_cases q : j = M + e
    · subst q
      right; left
      refine ⟨by rw [pNt, pU_at], ?_⟩
      rw [dpt_ext (q := pNt p M (e + 1)) (p := pNt p M e) (fun i hi => by rw [pNt, pU_lt hi]), pNt_d]; exact hd
    · exact PfK_ext (p := pNt p M e) (fun i hi => by rw [pNt, pU_lt (by omega)]) (pNt_K h hd j (by omega))
theorem PCd_app {p : Nat → Nat} : ∀ {P Q : List Nat} {m : Nat}, PCd p m P → PCd p (m + P.length) Q → PCd p m (P ++ Q)
  | [], Q, m, _, h => h
  | x :: P, Q, m, s, h => ⟨s.1, s.2.1, s.2.2.1, PCd_app s.2.2.2 (by rw [show m + 1 + P.length = m + (x :: P).length by simp only [List.length_cons]; omega]; exact h)⟩
theorem PCd_rep {p : Nat → Nat} : ∀ {d m : Nat}, (∀ j, m ≤ j → j < m + d → p j = 20002) → PCd p m (List.replicate d 2)
  | 0, m, _ => trivial
  | d + 1, m, h => ⟨h m (Nat.le_refl _) (by omega), by decide, by decide, PCd_rep (fun j h1 h2 => h j (by omega) (by omega))⟩
theorem x_d50I {X w : Nat} {slf : Hp → Int32 → Int32 → Option Hp} (x0 : isS X) (hw : w < 3) {d : Nat} (hd : d < 100) : ∀ (e i fuC M : Nat) (h : Hp), i + e = d → e < fuC → hR h 69 5 = some (X + 25 + 3 * w) → hI h (X + 25 + 3 * w) 1 = nI M → M ≤ 64 → ∃ h', fX5_denied_50 fuC slf h (nI d) (nI i) = some h' ∧ FLc X w h h' ∧ (∀ i, hI h' 69 i = hI h 69 i) ∧ ∃ M, M ≤ 64 ∧ hI h' (X + 25 + 3 * w) 1 = nI M
  | 0, i, fuC + 1, M, h, hi, _, hr, h1, hM => by
    refine ⟨h, ?_, Fr.rf, fun _ => rfl, M, hM, h1⟩
    rw [fX5_denied_50]; simp (disch := omega) only [lit, leT, ↓reduceIte]
  | e + 1, i, fuC + 1, M, h, hi, hf, hr, h1, hM => by
    obtain ⟨h', a1, a2, a3, M', a4, a5⟩ := x_addA (nI 20002) x0 hw h1 hM
    obtain ⟨h2, b1, b2, b3, b4⟩ := x_d50I (slf := slf) x0 hw hd e (i + 1) fuC M' h' (by omega) (by omega) (by rw [a2.2.2]; exact hr) a5 a4
    refine ⟨h2, ?_, Fr.tr a2 b2, fun j => (b3 j).trans (a3 j), b4⟩
    rw [fX5_denied_50, dref_of hr (sL x0 hw)]
    simp (disch := omega) only [lit, leF, ↓reduceIte, bind_some', a1, nI_add]
    exact b1
theorem x_d50T {X w c : Nat} {slf : Hp → Int32 → Int32 → Option Hp} (x0 : isS X) (hw : w < 3) {d : Nat} (hd : d < 100) {p : Nat → Nat} {M : Nat} (hM : M + d ≤ 64) : ∀ (e i fuC : Nat) (h : Hp), i + e = d → e < fuC → XC h X w (pNt p M i) (M + i) c → ∃ h', fX5_denied_50 fuC slf h (nI d) (nI i) = some h' ∧ FLc X w h h' ∧ (∀ i, hI h' 69 i = hI h 69 i) ∧ XC h' X w (pNt p M d) (M + d) c
  | 0, i, fuC + 1, h, hi, _, xc => by
    have : i = d := by omega
    subst this
    refine ⟨h, ?_, Fr.rf, fun _ => rfl, xc⟩
    rw [fX5_denied_50]; simp (disch := omega) only [lit, leT, ↓reduceIte]
  | e + 1, i, fuC + 1, h, hi, hf, xc => by
    have x1 : X = 1 ∨ X = 35 := x0
    have ad := x_addT (h := h) (x := nI 20002) x0 hw xc.2.1 (by omega)
    obtain ⟨h2, b1, b2, b3, b4⟩ := x_d50T (slf := slf) x0 hw hd hM e (i + 1) fuC _ (by omega) (by omega) (XC_add (v := 20002) x0 hw xc)
    refine ⟨h2, ?_, Fr.tr (((Fr.rf (PI := _) (PJ := _)).uI (by omega)).uI (by omega)) b2, fun j => (b3 j).trans (by rw [hI_ne (by omega), hI_ne (by omega)]), b4⟩
    rw [fX5_denied_50, dref_of xc.1 (sL x0 hw)]
    simp (disch := omega) only [lit, leF, ↓reduceIte, bind_some', ad, nI_add]
    exact b1
section V
variable {X w f n dp : Nat} {b : Nat → Nat}
/-- a sign and its right side -/
theorem j_iter {hc hm : Hp} {m c op v s q fu lv : Nat} {p : Nat → Nat} {P W : List Nat} (ih : JAt X w f b n dp) (hlv : lv ≤ 5) (o8 : op ≤ 8) (hd : 7 * (8 - op) + (6 - (lv + 1)) + 2 ≤ dp) (J : JS hc hm X w f p m P W c op b n 8 v s q) (hl : slN v = lv) (h55 : hI hm 107 55 = nI 0) (hr : ∀ x, x ∈ P → (if lv = 3 then 5 else lv + 1) ≤ rkN x) (hw : ∀ x, W.head? = some x → rkN x < lv + 1) (hD : 1 ≤ dpt p (m + P.length)) (hf : n - s < fu) : ∃ hc', (∀ rec : Hp → Option Hp, (fX5_knot hc).bind (fun h_18 => (fX5_joinedAt_d dp h_18 (nI lv + nI 1) (nI op)).bind (fun h_20 => (dref shp h_20 69 5 (1, 4)).bind (fun z_21 => (fX1_add z_21 h_20 (nI 20000 + (hI hc 69 13))).bind (fun h_24 => rec h_24)))) = rec hc') ∧ FLc X w hc hc' ∧ ((∃ hm', fX10_sumRead_25 fu hm = some (nI 0, hm') ∧ FLm f hm hm' ∧ JBad hc' hm' X w) ∨ (∃ hm' fu' p' m' P' c' k' v' s' q', fX10_sumRead_25 fu hm = fX10_sumRead_25 fu' hm' ∧ FLm f hm hm' ∧ n - s' < fu' ∧ JS hc' hm' X w f p' m' (P' ++ [kkN v]) W c' op b n k' v' s' q' ∧ hI hm' 107 55 = nI 0 ∧ (∀ j, j < m + P.length → p' j = p j) ∧ dpt p' (m' + (P' ++ [kkN v]).length) = dpt p (m + P.length) ∧ m + P.length ≤ m' + (P' ++ [kkN v]).length ∧ (∀ x, x ∈ P' → lv + 2 ≤ rkN x) ∧ (k' = 8 → slN v' < lv + 1 ∨ (slN v' = 3 ∧ lv + 1 ≤ 3 ∧ ctp P')) ∧ s < s' ∧ c + 1 < c')) := by
  obtain ⟨m64, fm, c64, -⟩ := J.m64
  obtain ⟨⟨j1, j2, j3, j4, j5⟩, K, xc, xm, xa⟩ := id J
  have xx : X = 1 ∨ X = 35 := j1
  have lsq := K.2.2.2.2.2.1 (by decide)
  have qn := K.2.2.2.2.1
  have k5 := K.2.2.1.2.2.2.2.1 rfl
  have c13 := K.1.2.2.2.2.2.2 rfl
  obtain ⟨g1, g2, g3, g4, g5, g6⟩ := kk_f v (by omega) k5.2
  obtain ⟨fu', rfl⟩ : ∃ g, fu = g + 1 := ⟨fu - 1, by omega⟩
  obtain ⟨dp', rfl⟩ : ∃ g, dp = g + 1 := ⟨dp - 1, by omega⟩
  rw [m_srS h55 xm.2.2.2.2.1 o8 K (by omega), c13, nI_add, nI_add]
  by_cases hc64 : c < 64
  · obtain ⟨hc1, hm1, k1, v1, s1, q1, a1, a2, a3, a4, a5, a6, a7, a8⟩ := j_sign J hl hr hw hc64
    have kt := (x_knotT j1 j3 j5 xc.2.2.2 hc64).trans a1
    obtain ⟨hc2, e1, e2, e3⟩ := ih (lv + 1) op hc1 hm1 p (m + P.length) (kkN v :: W) (c + 1) k1 v1 s1 q1 fu' (by omega) o8 hd a3 a4 ⟨fun z => by rw [a5, if_pos (by omega)], by
      by_cases z : lv < 2
      · rw [if_pos z] at a5; exact Or.inr ⟨a5, fun y => absurd y (by omega)⟩
      · rw [if_neg z] at a5; exact Or.inl a5⟩ (fun x hx => by
      have : x = kkN v := (Option.some.inj hx).symm
      rw [this, g3, hl]; omega) (by omega)
    have hr2 : hR hc2 69 5 = some (X + 25 + 3 * w) := by rw [e2.2.2]; exact a3.2.2.1.1
    have dr2 := dref_of (q := (1, 4)) hr2 (sL j1 j2)
    rw [a2, bnd_some, if_neg (show ¬ nI 1 = nI 0 by decide)]
    rcases e3 with ⟨hm2, r1, r2, r3, M, r4, r5⟩ | ⟨hm2, fu2, r1, r2, p', m', P', c', k', v', s', q', t1, t2, t3, t4, t5, t6, t7, t8, t9, t10⟩
    · obtain ⟨hc3, u1, u2, u3, u4⟩ := x_addA (nI (20000 + v)) j1 j2 r5 r4
      refine ⟨hc3, fun rec => ?_, Fr.tr (Fr.tr a7 e2) u2, Or.inl ⟨hm2, r1, Fr.tr a8 r2, ?_, u4⟩⟩
      · rw [kt, bind_some', e1, bind_some', dr2, bind_some', u1, bind_some']
      · obtain ⟨e, y1, y2, y3, y4, y5⟩ := r3
        exact ⟨e, y1, y2, (u3 _).trans y3, y4, (u3 _).trans y5⟩
    · obtain ⟨m64', fm', c64', -⟩ := t2.m64
      obtain ⟨⟨i1, i2, i3, i4, i5⟩, K2, xc2, xm2, ⟨z1, z2, z3, z4, z5, z6, z7⟩⟩ := id t2
      have np := PCd_nop z5
      have nk : nop (P' ++ kkN v :: W) = P'.length + nop W + 1 := by rw [nop_app, nop, if_neg (by omega), np]; omega
      have ad := x_addT (h := hc2) (x := nI (20000 + v)) j1 j2 xc2.2.1 (by omega)
      have lq : (P' ++ [kkN v]).length = P'.length + 1 := List.length_append
      have eq1 : P' ++ kkN v :: W = (P' ++ [kkN v]) ++ W := by rw [List.append_assoc]; rfl
      refine ⟨uI (uI hc2 (X + 26 + 3 * w) (m' + P'.length) (nI (20000 + v))) (X + 25 + 3 * w) 1 (nI (m' + P'.length + 1)), fun rec => ?_, Fr.uI (Fr.uI (Fr.tr a7 e2) (by omega)) (by omega), Or.inr ⟨hm2, fu2, pU p' (m' + P'.length) (20000 + v), m', P', c', k', v', s', q', r1, Fr.tr a8 r2, t1, ⟨⟨i1, i2, i3, ?_, by rw [hI_ne (by omega), hI_ne (by omega)]; exact i5⟩, TK_c K2 (fun i => by rw [hI_ne (by omega), hI_ne (by omega)]), ?_, ?_, ?_⟩, t3, fun j hj => ?_, ?_, by omega, t7, t8, by omega, by omega⟩⟩
      · rw [kt, bind_some', e1, bind_some', dr2, bind_some', ad, bind_some']
      · exact RTp_fr i4 (fun i hi => by rw [hI_ne (by omega), hI_ne (by omega)]) (fun i => by rw [hI_ne (by omega), hI_ne (by omega)]) (fun i => by rw [hI_ne (by omega), hI_ne (by omega)]) (fun _ _ => rfl) (fun _ => rfl) (fun _ => rfl)
      · rw [lq, ← Nat.add_assoc]; exact XC_add i1 i2 xc2
      · rw [← eq1]; exact XM_ex (fun i hi => pU_lt (by omega)) xm2
      · refine ⟨by rw [← eq1]; exact z1, z2, z3, by rw [← eq1]; exact z4, ?_, ?_, fun x hx => z7 x (List.mem_cons_of_mem _ hx)⟩
        · exact PCd_snoc (PCd_ext z5 (fun j hj => pU_lt hj)) (by rw [pU_at, g4]) (by omega) g2
        · intro j hj
          rw [lq] at hj
          by_cases y : j = m' + P'.length
          · subst y
            right; right
            rw [pU_at, dpt_ext (fun i hi => pU_lt hi), t5]
            exact ⟨by omega, by omega, by omega, by omega⟩
          · exact PfK_ext (fun i hi => pU_lt (by omega)) (z6 j (by omega))
      · rw [pU_lt (by omega)]; exact t4 j hj
      · rw [lq, ← Nat.add_assoc, dpt, pU_at, if_neg (by omega), if_neg (by omega), dpt_ext (fun i hi => pU_lt hi), t5]; rfl
  · have c0 : c = 64 := by omega
    subst c0
    obtain ⟨hm', d1, d2, d3, d4⟩ := j_signF J hl hr hw
    obtain ⟨b1, b2⟩ := j_bad J (e := 2) (by decide) (by decide) d3 d4 Fr.rf rfl
    have kf := x_knotF j1 j3 j5 K.1.2.1 xc.2.2.2
    have i14 : hI (uI (uI hc 69 14 (nI 2)) 69 15 (nI s)) 69 14 = nI 2 := by rw [hI_ne (by omega), hI_at ⟨rfl, rfl⟩]
    obtain ⟨y0, M, y1, y2⟩ := b1
    obtain ⟨hc3, u1, u2, u3, u4⟩ := x_addA (nI (20000 + v)) j1 j2 y2 y1
    have dr : dref shp (uI (uI hc 69 14 (nI 2)) 69 15 (nI s)) 69 5 (1, 4) = some (X + 25 + 3 * w) := J.dl
    refine ⟨hc3, fun rec => ?_, Fr.tr b2 u2, Or.inl ⟨hm', ?_, d2, ?_, u4⟩⟩
    · rw [kf, bind_some', x_jI i14 (by decide) (by decide), bind_some', dr, bind_some', u1, bind_some']
    · rw [d1, bnd_some, if_pos rfl]
    · obtain ⟨e, y1, y2, y3, y4, y5⟩ := y0
      exact ⟨e, y1, y2, (u3 _).trans y3, y4, (u3 _).trans y5⟩
/-- what a loop over the signs of a level comes to -/
def JLp (r : Option (Int32 × Hp)) (hm hc' : Hp) (X w f : Nat) (p : Nat → Nat) (M : Nat) (W : List Nat) (c op : Nat) (b : Nat → Nat) (n s lv : Nat) : Prop := (∃ hm', r = some (nI 0, hm') ∧ FLm f hm hm' ∧ JBad hc' hm' X w) ∨ (∃ hm' fu' p' m' P c' k' v' s' q', r = fX10_sumRead_25 fu' hm' ∧ FLm f hm hm' ∧ n - s' < fu' ∧ JS hc' hm' X w f p' m' P W c' op b n k' v' s' q' ∧ hI hm' 107 55 = nI 0 ∧ (∀ j, j < M → p' j = p j) ∧ dpt p' (m' + P.length) = dpt p M ∧ M ≤ m' + P.length ∧ (∀ x, x ∈ P → lv + 1 ≤ rkN x) ∧ (k' = 8 → slN v' < lv ∨ (slN v' = 3 ∧ lv ≤ 3 ∧ ctp P)) ∧ s ≤ s' ∧ c ≤ c')
theorem j_loop {op lv : Nat} {W : List Nat} (ih : JAt X w f b n dp) (hlv : lv ≤ 5) (h2 : lv ≠ 2) (h3 : lv ≠ 3) (o8 : op ≤ 8) (hd : 7 * (8 - op) + (6 - (lv + 1)) + 2 ≤ dp) (hw : ∀ x, W.head? = some x → rkN x < lv + 1) : ∀ (d i fuC : Nat) (hc hm : Hp) (p : Nat → Nat) (m : Nat) (P : List Nat) (c k v s q fu : Nat), i + d = 64 → d < fuC → i < c → JS hc hm X w f p m P W c op b n k v s q → hI hm 107 55 = nI 0 → (∀ x, x ∈ P → lv + 1 ≤ rkN x) → 1 ≤ dpt p (m + P.length) → (k = 8 → slN v < lv + 1 ∨ (slN v = 3 ∧ lv + 1 ≤ 3 ∧ ctp P)) → n - s < fu → ∃ hc', fX5_joinedAt_64 fuC (fX5_joinedAt_d dp) hc (nI lv) (nI op) (nI 64) (nI i) = some hc' ∧ FLc X w hc hc' ∧ JLp (fX10_sumRead_25 fu hm) hm hc' X w f p (m + P.length) W c op b n s lv
  | 0, i, fuC, hc, hm, p, m, P, c, k, v, s, q, fu, hi, _, hic, J, _, _, _, _, _ => by
    have := J.m64
    omega
  | d + 1, i, fuC + 1, hc, hm, p, m, P, c, k, v, s, q, fu, hi, hfC, hic, J, h55, hr, hD, la, hf => by
    obtain ⟨⟨j1, j2, j3, j4, j5⟩, K, xc, xm, xa⟩ := id J
    have so := x_isSo (lv := lv) K.1 K.2.2.1 (by omega)
    by_cases z : k = 8 ∧ slN v = lv
    · obtain ⟨rfl, hl⟩ := z
      rw [if_pos ⟨rfl, hl⟩] at so
      obtain ⟨hc1, e1, e2, e3⟩ := j_iter (fu := fu) ih hlv o8 hd J hl h55 (fun x hx => by rw [if_neg h3]; exact hr x hx) hw hD hf
      have st : fX5_joinedAt_64 (fuC + 1) (fX5_joinedAt_d dp) hc (nI lv) (nI op) (nI 64) (nI i) = fX5_joinedAt_64 fuC (fX5_joinedAt_d dp) hc1 (nI lv) (nI op) (nI 64) (nI i + nI 1) := by
        rw [fX5_joinedAt_64]
        simp (disch := omega) only [lit, leF, ↓reduceIte, j5, so, bnd_some, eqF]
        exact e1 (fun h => fX5_joinedAt_64 fuC (fX5_joinedAt_d dp) h (nI lv) (nI op) (nI 64) (nI i + nI 1))
      rw [st, nI_add]
      rcases e3 with ⟨hm', r1, r2, r3⟩ | ⟨hm', fu', p', m', P', c', k', v', s', q', r1, r2, r3, r4, r5, r6, r7, r8, r9, r10, r11, r12⟩
      · obtain ⟨e, y1, y2, y3, -⟩ := id r3.1
        refine ⟨hc1, ?_, e2, Or.inl ⟨hm', r1, r2, r3⟩⟩
        obtain ⟨fuC, rfl⟩ : ∃ g, fuC = g + 1 := ⟨fuC - 1, by omega⟩
        rw [fX5_joinedAt_64]
        by_cases y : 64 ≤ i + 1
        · simp (disch := omega) only [leT, ↓reduceIte]
        · simp (disch := omega) only [lit, leF, ↓reduceIte, y3, eqF]
      · have k5 := K.2.2.1.2.2.2.2.1 rfl
        obtain ⟨g1, g2, g3, g4, g5, g6⟩ := kk_f v (by omega) k5.2
        obtain ⟨hc2, f1, f2, f3⟩ := j_loop ih hlv h2 h3 o8 hd hw d (i + 1) fuC hc1 hm' p' m' (P' ++ [kkN v]) c' k' v' s' q' fu' (by omega) (by omega) (by omega) r4 r5 (fun x hx => by
          rcases List.mem_append.mp hx with hx | hx
          · have := r9 x hx; omega
          · have : x = kkN v := by simpa using hx
            rw [this, g3, hl]; omega) (by rw [r7]; exact hD) (fun y => by
          rcases r10 y with y1 | y1
          · exact Or.inl y1
          · exact Or.inr ⟨y1.1, y1.2.1, ctp_app y1.2.2⟩) r3
        refine ⟨hc2, f1, Fr.tr e2 f2, ?_⟩
        rw [r1]
        rcases f3 with ⟨hm2, t1, t2, t3⟩ | ⟨hm2, fu2, p2, m2, P2, c2, k2, v2, s2, q2, t1, t2, t3, t4, t5, t6, t7, t8, t9, t10, t11, t12⟩
        · exact Or.inl ⟨hm2, t1, Fr.tr r2 t2, t3⟩
        · exact Or.inr ⟨hm2, fu2, p2, m2, P2, c2, k2, v2, s2, q2, t1, Fr.tr r2 t2, t3, t4, t5, fun j hj => (t6 j (by omega)).trans (r6 j hj), t7.trans r7, by omega, t9, t10, by omega, by omega⟩
    · rw [if_neg z] at so
      refine ⟨hc, ?_, Fr.rf, Or.inr ⟨hm, fu, p, m, P, c, k, v, s, q, rfl, Fr.rf, hf, J, h55, fun _ _ => rfl, rfl, Nat.le_refl _, hr, fun y => ?_, Nat.le_refl _, Nat.le_refl _⟩⟩
      · rw [fX5_joinedAt_64]
        simp (disch := omega) only [lit, leF, ↓reduceIte, j5, so, bnd_some]
      · rcases la y with y1 | y1
        · have : slN v ≠ lv := fun y2 => z ⟨y, y2⟩
          exact Or.inl (by omega)
        · exact Or.inr ⟨y1.1, by omega, y1.2.2⟩
/-- one comparison at most -/
theorem j_loop3 {op : Nat} {W : List Nat} (ih : JAt X w f b n dp) (o8 : op ≤ 8) (hd : 7 * (8 - op) + (6 - (3 + 1)) + 2 ≤ dp) (hw : ∀ x, W.head? = some x → rkN x < 3 + 1) (hc hm : Hp) (p : Nat → Nat) (m : Nat) (P : List Nat) (c k v s q fu : Nat) (J : JS hc hm X w f p m P W c op b n k v s q) (h55 : hI hm 107 55 = nI 0) (hr : ∀ x, x ∈ P → 3 + 2 ≤ rkN x) (hD : 1 ≤ dpt p (m + P.length)) (la : k = 8 → slN v < 4) (hf : n - s < fu) : ∃ hc', fX5_joinedAt_64 FU (fX5_joinedAt_d dp) hc (nI 3) (nI op) (nI 1) (nI 0) = some hc' ∧ FLc X w hc hc' ∧ JLp (fX10_sumRead_25 fu hm) hm hc' X w f p (m + P.length) W c op b n s 3 := by
  obtain ⟨⟨j1, j2, j3, j4, j5⟩, K, xc, xm, xa⟩ := id J
  have so := x_isSo (lv := 3) K.1 K.2.2.1 (by omega)
  have hFU : FU = 99998 + 1 + 1 := rfl
  rw [hFU]
  by_cases z : k = 8 ∧ slN v = 3
  · obtain ⟨rfl, hl⟩ := z
    rw [if_pos ⟨rfl, hl⟩] at so
    obtain ⟨hc1, e1, e2, e3⟩ := j_iter (fu := fu) ih (by decide) o8 hd J hl h55 (fun x hx => by rw [if_pos rfl]; exact hr x hx) hw hD hf
    have st : fX5_joinedAt_64 (99998 + 1 + 1) (fX5_joinedAt_d dp) hc (nI 3) (nI op) (nI 1) (nI 0) = some hc1 := by
      rw [fX5_joinedAt_64]
      simp (disch := omega) only [lit, leF, ↓reduceIte, j5, so, bnd_some, eqF]
      refine (e1 (fun h => fX5_joinedAt_64 (99998 + 1) (fX5_joinedAt_d dp) h (nI 3) (nI op) (nI 1) (nI 0 + nI 1))).trans ?_
      rw [fX5_joinedAt_64]
      simp (disch := omega) only [nI_add, leT, ↓reduceIte]
    rw [st]
    refine ⟨hc1, rfl, e2, ?_⟩
    have k5 := K.2.2.1.2.2.2.2.1 rfl
    obtain ⟨g1, g2, g3, g4, g5, g6⟩ := kk_f v (by omega) k5.2
    rcases e3 with ⟨hm', r1, r2, r3⟩ | ⟨hm', fu', p', m', P', c', k', v', s', q', r1, r2, r3, r4, r5, r6, r7, r8, r9, r10, r11, r12⟩
    · exact Or.inl ⟨hm', r1, r2, r3⟩
    · refine Or.inr ⟨hm', fu', p', m', P' ++ [kkN v], c', k', v', s', q', r1, r2, r3, r4, r5, r6, r7, r8, fun x hx => ?_, fun y => ?_, by omega, by omega⟩
      · rcases List.mem_append.mp hx with hx | hx
        · have := r9 x hx; omega
        · have : x = kkN v := by simpa using hx
          rw [this, g3, hl]; omega
      · rcases r10 y with y1 | y1
        · by_cases y2 : slN v' = 3
          · exact Or.inr ⟨y2, by decide, ctp_snoc (by rw [g3, hl]) (fun x hx => by have := r9 x hx; omega)⟩
          · exact Or.inl (by omega)
        · exact absurd y1.2.1 (by decide)
  · rw [if_neg z] at so
    refine ⟨hc, ?_, Fr.rf, Or.inr ⟨hm, fu, p, m, P, c, k, v, s, q, rfl, Fr.rf, hf, J, h55, fun _ _ => rfl, rfl, Nat.le_refl _, fun x hx => by have := hr x hx; omega, fun y => ?_, Nat.le_refl _, Nat.le_refl _⟩⟩
    · rw [fX5_joinedAt_64]
      simp (disch := omega) only [lit, leF, ↓reduceIte, j5, so, bnd_some]
    · have := la y
      have : slN v ≠ 3 := fun y2 => z ⟨y, y2⟩
      exact Or.inl (by omega)
end V
