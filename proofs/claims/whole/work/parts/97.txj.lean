/-! text: the laws' sums: what a part comes to. -/
def JBad (hc' hm' : Hp) (X w : Nat) : Prop := Bad hc' hm' ∧ ∃ M, M ≤ 64 ∧ hI hc' (X + 25 + 3 * w) 1 = nI M
def JGood (hc' hm' : Hp) (X w f : Nat) (p : Nat → Nat) (m : Nat) (W : List Nat) (c op : Nat) (b : Nat → Nat) (n s lv fu : Nat) : Prop := ∃ p' m' P c' k' v' s' q', n - s' < fu ∧ JS hc' hm' X w f p' m' P W c' op b n k' v' s' q' ∧ hI hm' 107 55 = nI 0 ∧ (∀ j, j < m → p' j = p j) ∧ dpt p' (m' + P.length) = dpt p m + 1 ∧ m < m' + P.length ∧ (∀ x, x ∈ P → lv + 1 ≤ rkN x) ∧ (k' = 8 → slN v' < lv ∨ (slN v' = 3 ∧ lv ≤ 3 ∧ ctp P)) ∧ s < s' ∧ c < c'
def JRes (r : Option (Int32 × Hp)) (hm hc' : Hp) (X w f : Nat) (p : Nat → Nat) (m : Nat) (W : List Nat) (c op : Nat) (b : Nat → Nat) (n s lv : Nat) : Prop := (∃ hm', r = some (nI 0, hm') ∧ FLm f hm hm' ∧ JBad hc' hm' X w) ∨ (∃ hm' fu', r = fX10_sumRead_25 fu' hm' ∧ FLm f hm hm' ∧ JGood hc' hm' X w f p m W c op b n s lv fu')
def MN (lv : Nat) (hm : Hp) (k v : Nat) : Prop := (lv ≤ 2 → hI hm 107 56 = nI 1) ∧ (hI hm 107 56 = nI 0 ∨ (hI hm 107 56 = nI 1 ∧ (3 ≤ lv → ¬ (k = 3 ∧ v = 15))))
def JAt (X w f : Nat) (b : Nat → Nat) (n dp : Nat) : Prop := ∀ lv op hc hm p m W c k v s q fu, lv ≤ 6 → op ≤ 8 → 7 * (8 - op) + (6 - lv) + 2 ≤ dp → JS hc hm X w f p m [] W c op b n k v s q → hI hm 107 55 = nI 1 → MN lv hm k v → (∀ x, W.head? = some x → rkN x < lv + 1) → n - s < fu → ∃ hc', fX5_joinedAt_d dp hc (nI lv) (nI op) = some hc' ∧ FLc X w hc hc' ∧ JRes (fX10_sumRead_25 fu hm) hm hc' X w f p m W c op b n s lv
theorem x_jI {h : Hp} {e : Nat} (h14 : hI h 69 14 = nI e) (h1 : 1 ≤ e) (h5 : e ≤ 5) (dp : Nat) (x y : Int32) : fX5_joinedAt_d (dp + 1) h x y = some h := by
  rw [fX5_joinedAt_d]
  unfold fX5_joinedAt_s
  simp (disch := omega) only [lit, h14, eqF, ↓reduceIte]
theorem kM4 {k v : Nat} (h : kM k v = 4) : (k = 1 ∧ v = 37) ∨ k = 5 ∨ k = 6 ∨ k = 7 ∨ (8 ≤ k ∧ 9 ≤ v) := by
  unfold kM at h
  repeat' split at h
  all_goals omega
theorem kM1 {k v : Nat} (h : kM k v = 1) : k = 3 ∨ (8 ≤ k ∧ v < 2) := by
  unfold kM at h
  repeat' split at h
  all_goals omega
theorem wM8 {v : Nat} (h : 9 ≤ v) : wM 8 v = 43 ∨ wM 8 v = 45 ∨ wM 8 v = 42 ∨ wM 8 v = 47 := by
  unfold wM
  repeat' split
  all_goals omega
theorem wM80 {v : Nat} (h : v < 2) : wM 8 v = 14 ∨ wM 8 v = 13 := by
  unfold wM
  repeat' split
  all_goals omega
theorem kw59 {k v : Nat} (h8 : k ≤ 8) (h1 : kM k v = 4) (h2 : wM k v = 59) : k = 5 := by
  rcases kM4 h1 with ⟨rfl, -⟩ | rfl | rfl | rfl | ⟨z, y⟩
  · exact absurd h2 (by show ¬ 37 = 59; decide)
  · rfl
  · exact absurd h2 (by show ¬ 40 = 59; decide)
  · exact absurd h2 (by show ¬ 41 = 59; decide)
  · have : k = 8 := by omega
    subst this
    have := wM8 y
    omega
theorem kw40 {k v : Nat} (h8 : k ≤ 8) (h1 : kM k v = 4) (h2 : wM k v = 40) : k = 6 := by
  rcases kM4 h1 with ⟨rfl, -⟩ | rfl | rfl | rfl | ⟨z, y⟩
  · exact absurd h2 (by show ¬ 37 = 40; decide)
  · exact absurd h2 (by show ¬ 59 = 40; decide)
  · rfl
  · exact absurd h2 (by show ¬ 41 = 40; decide)
  · have : k = 8 := by omega
    subst this
    have := wM8 y
    omega
theorem kw15 {k v : Nat} (h8 : k ≤ 8) (h1 : kM k v = 1) (h2 : wM k v = 15) : k = 3 := by
  rcases kM1 h1 with rfl | ⟨z, y⟩
  · rfl
  · have : k = 8 := by omega
    subst this
    have := wM80 y
    omega
section V
variable {hc hm : Hp} {X w f m c op n k v s q fu : Nat} {p b : Nat → Nat} {P W : List Nat}
theorem m_srL (h55 : hI hm 107 55 = nI 1) (K : TK hc hm n k v s q) : fX10_sumRead_25 (fu + 1) hm = bnd (fX10_leafRead hm) (fun v_12 h_13 => if v_12 = nI 0 then (some (nI 0, h_13)) else fX10_sumRead_25 fu h_13) := by
  have e48 : fX10_sumRead_48 (fX10_sumRead_25 fu) hm = bnd (fX10_leafRead hm) (fun v_12 h_13 => if v_12 = nI 0 then (some (nI 0, h_13)) else fX10_sumRead_25 fu h_13) := by
    unfold fX10_sumRead_48
    simp (disch := omega) only [lit, h55, eqF, ↓reduceIte]
  rw [fX10_sumRead_25, lit 59, m_isS K.2.1 K.2.2.1 (by decide), bnd_some, e48]
  by_cases z : kM k v = 4 ∧ wM k v = 59
  · rw [if_pos z]; simp (disch := omega) only [lit, h55, eqF, ↓reduceIte]
  · rw [if_neg z]; simp only [lit, ↓reduceIte]
theorem m_srS (h55 : hI hm 107 55 = nI 0) (h53 : hI hm 107 53 = nI op) (o8 : op ≤ 8) (K : TK hc hm n k v s q) (h5 : ¬ (k = 5 ∧ op = 0)) : fX10_sumRead_25 (fu + 1) hm = bnd (fX10_signs hm) (fun v_12 h_13 => if v_12 = nI 0 then (some (nI 0, h_13)) else fX10_sumRead_25 fu h_13) := by
  have e48 : fX10_sumRead_48 (fX10_sumRead_25 fu) hm = bnd (fX10_signs hm) (fun v_12 h_13 => if v_12 = nI 0 then (some (nI 0, h_13)) else fX10_sumRead_25 fu h_13) := by
    unfold fX10_sumRead_48
    simp only [lit, h55, ↓reduceIte]
  rw [fX10_sumRead_25, lit 59, m_isS K.2.1 K.2.2.1 (by decide), bnd_some, e48]
  by_cases z : kM k v = 4 ∧ wM k v = 59
  · rw [if_pos z]
    have k5 : k = 5 := kw59 K.2.2.1.1 z.1 z.2
    have o1 : op ≠ 0 := fun y => h5 ⟨k5, y⟩
    simp (disch := omega) only [lit, eqF, ↓reduceIte, h55, h53, leF]
  · rw [if_neg z]; simp only [lit, ↓reduceIte]
theorem m_srE (h55 : hI hm 107 55 = nI 0) (h53 : hI hm 107 53 = nI 0) (K : TK hc hm n 5 v s q) : fX10_sumRead_25 (fu + 1) hm = (fX10_bind hm (nI 1)).bind (fun h_7 => some (nI 1, h_7)) := by
  have s59 : fX10_isSign hm (nI 59) = some (nI 1, hm) := m_isS K.2.1 K.2.2.1 (by decide)
  rw [fX10_sumRead_25, lit 59, s59, bnd_some]
  simp (disch := omega) only [lit, eqF, ↓reduceIte, h55, h53, leT]
/-- a fault of both, here -/
theorem j_bad (J : JS hc hm X w f p m P W c op b n k v s q) {e : Nat} (h1 : 1 ≤ e) (h5 : e ≤ 5) {hm' : Hp} (m4 : hI hm' 107 4 = nI e) (m5 : hI hm' 107 5 = nI s) {hc1 : Hp} (fc : FLc X w hc hc1) (e69 : hI hc1 (X + 25 + 3 * w) 1 = hI hc (X + 25 + 3 * w) 1) : JBad (uI (uI hc1 69 14 (nI e)) 69 15 (nI s)) hm' X w ∧ FLc X w hc (uI (uI hc1 69 14 (nI e)) 69 15 (nI s)) := by
  obtain ⟨⟨j1, j2, -⟩, K, xc, -, ⟨x1, x2, -, -, x5, -⟩⟩ := J
  have xx : X = 1 ∨ X = 35 := j1
  have np := PCd_nop x5
  rw [nop_app] at x1
  refine ⟨⟨⟨e, h1, h5, by rw [hI_ne (by omega), hI_at ⟨rfl, rfl⟩], m4, by rw [hI_at ⟨rfl, rfl⟩]; exact m5.symm⟩, m + P.length, by omega, ?_⟩, Fr.uI (Fr.uI fc (by omega)) (by omega)⟩
  rw [hI_ne (by omega), hI_ne (by omega), e69]; exact xc.2.1
theorem JS.m64 (J : JS hc hm X w f p m P W c op b n k v s q) : m + P.length ≤ 64 ∧ f + m + P.length ≤ c ∧ c ≤ 64 ∧ op ≤ 8 ∧ P.length + W.length ≤ 72 := by
  obtain ⟨-, -, -, -, ⟨x1, x2, x3, x4, x5, -⟩⟩ := J
  have np := PCd_nop x5
  have lp : (P ++ W).length = P.length + W.length := List.length_append
  rw [nop_app] at x1 x4
  omega
theorem JS.dl (J : JS hc hm X w f p m P W c op b n k v s q) : dref shp hc 69 5 (1, 4) = some (X + 25 + 3 * w) := dref_of J.2.2.1.1 (sL J.1.1 J.1.2.1)
/-- a number or a name, the reference behind its tests -/
theorem m_l129 (J : JS hc hm X w f p m [] W c op b n k v s q) {x1 : Int32} {cd vl : Nat} (hx : (x1 = -nI 1 ∧ hI hm 107 9 = nI vl ∧ cd = vl ∧ vl < 10000) ∨ (x1 = nI vl ∧ cd = 10000 + vl ∧ vl < 7)) (hc64 : c < 64) : fX10_leafRead_129 hm x1 = (fX10_token (uI (grw (uI hm 107 54 (nI (c + 1))) (f + m) (stk p f m).length (nI (mkd cd)) (nI vl) (nI 0)) 107 55 (nI 0))).bind (fun h_40 => some (nI 1, h_40)) := by
  obtain ⟨m64, fm, -⟩ := J.m64
  obtain ⟨-, -, -, ⟨m1, m2, ⟨m3, m4⟩, -, -, m9⟩, ⟨x1', -, -, -, -, x6, -⟩⟩ := J
  simp only [List.length_nil, Nat.add_zero] at m64 fm x6
  have sl := stk_len (f := f) x6
  have dl := dpt_le p m
  have g := m_grown (h := uI hm 107 54 (nI (c + 1))) (kk := f + m) (hl := (stk p f m).length) (x1 := nI (mkd cd)) (x2 := nI vl) (x3 := nI 0) ((hI_ne (by omega)).trans m1) ((hI_ne (by omega)).trans m3) (by omega) (by omega)
  unfold fX10_leafRead_129
  rw [m_cntT m9 hc64, bnd_some]
  rcases hx with ⟨rfl, h9, rfl, hv⟩ | ⟨rfl, rfl, hv⟩
  · have e0 : mkd cd = 0 := by unfold mkd; rw [if_pos hv]
    have m10 : (-nI 1 < nI 0) = True := eq_true (by decide)
    have h9' : hI (uI hm 107 54 (nI (c + 1))) 107 9 = nI cd := (hI_ne (by omega)).trans h9
    rw [e0] at g ⊢
    simp (disch := omega) only [lit, eqF, ↓reduceIte, m10, fX10_leafRead_148, h9', fX10_leafRead_160, g, bind_some']
  · have e0 : mkd (10000 + vl) = 1 := by unfold mkd; rw [if_neg (by omega), if_pos (by omega)]
    rw [e0] at g ⊢
    simp (disch := omega) only [lit, eqF, ↓reduceIte, ltF, fX10_leafRead_148, fX10_leafRead_160, g, bind_some']
theorem m_l129F (J : JS hc hm X w f p m [] W 64 op b n k v s q) (x1 : Int32) : fX10_leafRead_129 hm x1 = some (nI 0, uI (uI hm 107 4 (nI 2)) 107 5 (nI s)) := by
  unfold fX10_leafRead_129
  rw [m_cntF J.2.2.2.1.2.2.2.2.2 J.2.1.2.1.2.1, bnd_some]
  simp only [lit, ↓reduceIte]
/-- a leaf, on both sides -/
theorem j_leaf2 (J : JS hc hm X w f p m [] W c op b n k v s q) (h55 : hI hm 107 55 = nI 1) (hk0 : k ≠ 0) {x1 : Int32} {cd vl : Nat} (hx : (x1 = -nI 1 ∧ hI hm 107 9 = nI vl ∧ cd = vl ∧ vl < 10000) ∨ (x1 = nI vl ∧ cd = 10000 + vl ∧ vl < 7)) (hl : fX10_leafRead hm = fX10_leafRead_129 hm x1) (hf : n - s < fu) : ∃ hc', (dref shp hc 69 5 (1, 4)).bind (fun z_19 => (fX1_add z_19 hc (nI cd)).bind (fun h_22 => (fX5_knot h_22).bind (fun h_24 => some h_24))) = some hc' ∧ FLc X w hc hc' ∧ JRes (fX10_sumRead_25 fu hm) hm hc' X w f p m W c op b n s 6 := by
  obtain ⟨m64, fm, c64, -⟩ := J.m64
  have dl := J.dl
  obtain ⟨⟨j1, j2, j3, j4, j5⟩, K, ⟨c1, c2, c3, c4⟩, xm, ⟨x1', -, -, -, -, x6, -⟩⟩ := id J
  have xx : X = 1 ∨ X = 35 := j1
  have lsq := K.2.2.2.2.2.1 hk0
  have qn := K.2.2.2.2.1
  simp only [List.length_nil, Nat.add_zero] at m64 fm x6 c2 c3
  obtain ⟨fu', rfl⟩ : ∃ g, fu = g + 1 := ⟨fu - 1, by omega⟩
  rw [m_srL h55 K, hl]
  by_cases hc64 : c < 64
  · obtain ⟨hc', hm', k', v', s', q', a1, a2, a3, a4, a5, a6, a7⟩ := j_leaf (cd := cd) (vl := vl) J hc64 (by omega) (by omega)
    have ad := x_addT (h := hc) (x := nI cd) j1 j2 c2 (by omega)
    have kt := x_knotT (h := uI (uI hc (X + 26 + 3 * w) m (nI cd)) (X + 25 + 3 * w) 1 (nI (m + 1))) (c := c) j1 j3 (by rw [hI_ne (by omega), hI_ne (by omega)]; exact j5) (by rw [hI_ne (by omega), hI_ne (by omega)]; exact c4) hc64
    refine ⟨hc', ?_, a6, Or.inr ⟨hm', fu', ?_, a7, pU p m cd, m + 1, [], c + 1, k', v', s', q', by omega, a3, a4, fun j hj => pU_lt hj, ?_, by simp, fun x hx => absurd hx (by simp), fun z => Or.inl ?_, by omega, by omega⟩⟩
    · rw [dl, bind_some', ad, bind_some', kt, a1, bind_some']
    · rw [m_l129 J hx hc64, a2, bind_some', bnd_some]
      simp (disch := omega) only [eqF, ↓reduceIte]
    · show dpt (pU p m cd) (m + 1) = _
      rw [dpt, pU_at, if_pos (by omega), dpt_ext (fun i hi => pU_lt hi)]
    · have := a3.2.1.2.2.1.2.2.2.2.1 z
      have := (kk_f v' (by omega) this.2).2.2.2.2.2
      omega
  · have c0 : c = 64 := by omega
    subst c0
    obtain ⟨h', a1, a2, a3, M, a4, a5⟩ := x_addA (nI cd) j1 j2 c2 m64
    have kf := x_knotF (h := h') (s := s) j1 (by rw [a2.2.2]; exact j3) (by rw [a3]; exact j5) (by rw [a3]; exact K.1.2.1) (by
      unfold fX1_add at a1
      by_cases z : m < 64
      · have := x_addT (h := hc) (x := nI cd) j1 j2 c2 z
        unfold fX1_add at this
        rw [a1] at this
        rw [Option.some.inj this, hI_ne (by omega), hI_ne (by omega)]; exact c4
      · simp (disch := omega) only [lit, c2, leT, ↓reduceIte] at a1
        rw [← Option.some.inj a1]; exact c4)
    refine ⟨uI (uI h' 69 14 (nI 2)) 69 15 (nI s), ?_, Fr.uI (Fr.uI a2 (by omega)) (by omega), Or.inl ⟨uI (uI hm 107 4 (nI 2)) 107 5 (nI s), ?_, (Fr.rf.uI (by omega)).uI (by omega), ⟨2, by decide, by decide, by rw [hI_ne (by omega), hI_at ⟨rfl, rfl⟩], by rw [hI_ne (by omega), hI_at ⟨rfl, rfl⟩], by rw [hI_at ⟨rfl, rfl⟩, hI_at ⟨rfl, rfl⟩]⟩, M, a4, by rw [hI_ne (by omega), hI_ne (by omega)]; exact a5⟩⟩
    · rw [dl, bind_some', a1, bind_some', kf, bind_some']
    · rw [m_l129F J, bnd_some]
      simp only [↓reduceIte]
/-- the reference refuses what is no part -/
theorem m_lfB (K : TK hc hm n k v s q) (h6 : k ≠ 6) (h4 : k ≠ 4) (h3 : k = 3 → v < 16) (hN : k = 3 → v = 15 → hI hm 107 56 = nI 0) : fX10_leafRead hm = some (nI 0, uI (uI hm 107 4 (nI 1)) 107 5 (nI s)) := by
  have wk := K.2.2.1
  have m8 := K.2.1.1
  have m9 := K.2.1.2.2.2
  have m10 := K.2.1.2.1
  obtain ⟨k9, -, k3, -, k8, -⟩ := id wk
  have kl := kM_lt k v
  have n40 : ¬ (kM k v = 4 ∧ wM k v = 40) := fun z => h6 (kw40 k9 z.1 z.2)
  have n3 := kM_3 (v := v) h4
  have m10' : (nI 0 ≤ -nI 1) = False := eq_false (by decide)
  have e86 : fX10_leafRead_86 hm = some (nI 0, uI (uI hm 107 4 (nI 1)) 107 5 (nI s)) := by
    have nm : fX10_nameMet hm = some (-nI 1, hm) := by
      unfold fX10_nameMet
      by_cases z : kM k v = 1
      · have h9 : k = 3 ∨ (k = 8 ∧ v < 2) := by
          unfold kM at z
          repeat' split at z
          all_goals omega
        have wl : wM k v < 16 := by
          rcases h9 with rfl | ⟨rfl, h9⟩
          · exact h3 rfl
          · unfold wM
            repeat' split
            all_goals omega
        rw [z] at m8
        simp (disch := omega) only [lit, m8, ↓reduceIte, m9 (Or.inl (by omega)), ltT]
      · simp (disch := omega) only [lit, m8, eqF, ↓reduceIte]
    unfold fX10_leafRead_86
    simp (disch := omega) only [nm, bnd_some, lit, m10', ↓reduceIte, m8, eqF, m_wrong, m10, isZ0]
  unfold fX10_leafRead
  rw [lit 40, m_isS K.2.1 wk (by decide), if_neg n40, bnd_some]
  simp only [lit, ↓reduceIte]
  rw [m_isK K.2.1 wk (by decide), bnd_some]
  by_cases z : kM k v = 1 ∧ wM k v = 15
  · rw [if_pos z]
    have k3' : k = 3 := kw15 k9 z.1 z.2
    subst k3'
    have v15 : v = 15 := z.2
    simp (disch := omega) only [eqF, ↓reduceIte, hN rfl v15]
    exact e86
  · rw [if_neg z]
    simp only [↓reduceIte]
    exact e86
theorem m_lfN (K : TK hc hm n 4 v s q) : fX10_leafRead hm = fX10_leafRead_109 hm (-nI 1) := by
  have m8 : hI hm 107 8 = nI 3 := K.2.1.1
  have s40 : fX10_isSign hm (nI 40) = some (nI 0, hm) := m_isS K.2.1 K.2.2.1 (by decide)
  have k15 : fX10_isKey hm (nI 15) = some (nI 0, hm) := m_isK K.2.1 K.2.2.1 (by decide)
  have m10' : (nI 0 ≤ -nI 1) = False := eq_false (by decide)
  unfold fX10_leafRead
  rw [lit 40, s40, bnd_some]
  simp only [lit, ↓reduceIte]
  rw [k15, bnd_some]
  simp only [↓reduceIte]
  unfold fX10_leafRead_86 fX10_nameMet
  simp (disch := omega) only [lit, m8, eqF, ↓reduceIte, bnd_some, m10']
theorem m_lfW (K : TK hc hm n 3 v s q) (hv : 16 ≤ v) : fX10_leafRead hm = fX10_leafRead_129 hm (nI (v - 16)) := by
  have v23 := (K.2.2.1.2.2.1 rfl).1
  have m8 : hI hm 107 8 = nI 1 := K.2.1.1
  have m9 : hI hm 107 9 = nI v := K.2.1.2.2.2 (Or.inl (by decide))
  have s40 : fX10_isSign hm (nI 40) = some (nI 0, hm) := m_isS K.2.1 K.2.2.1 (by decide)
  have k15 : fX10_isKey hm (nI 15) = some (nI 0, hm) := by
    unfold fX10_isKey
    simp (disch := omega) only [lit, m8, m9, eqF, ↓reduceIte]
  have sb : nI v - nI 16 = nI (v - 16) := pk_sub (by omega)
  unfold fX10_leafRead
  rw [lit 40, s40, bnd_some]
  simp only [lit, ↓reduceIte]
  rw [k15, bnd_some]
  simp only [↓reduceIte]
  unfold fX10_leafRead_86 fX10_nameMet
  simp (disch := omega) only [lit, m8, m9, ltF, ↓reduceIte, bnd_some, sb, leT, fX10_leafRead_109]
theorem j_part {dp : Nat} (ih : JAt X w f b n dp) (o8 : op ≤ 8) (hd : 7 * (8 - op) + 2 ≤ dp + 1) (J : JS hc hm X w f p m [] W c op b n k v s q) (h55 : hI hm 107 55 = nI 1) (mn : MN 6 hm k v) (hf : n - s < fu) : ∃ hc', fX5_part (fX5_joinedAt_d dp) hc (nI op) = some hc' ∧ FLc X w hc hc' ∧ JRes (fX10_sumRead_25 fu hm) hm hc' X w f p m W c op b n s 6 := by
  obtain ⟨m64, fm, c64, -⟩ := J.m64
  obtain ⟨⟨j1, j2, j3, j4, j5⟩, K, xc, xm, xa⟩ := id J
  have xx : X = 1 ∨ X = 35 := j1
  obtain ⟨c7, c8, c6, -, c11, c12, -⟩ := K.1
  have wk := K.2.2.1
  have k9 := wk.1
  have qn := K.2.2.2.2.1
  have m10 := K.2.1.2.1
  obtain ⟨dp', rfl⟩ : ∃ g, dp = g + 1 := ⟨dp - 1, by omega⟩
  have bd : ∀ e, 1 ≤ e → e ≤ 5 → JBad (uI (uI hc 69 14 (nI e)) 69 15 (nI s)) (uI (uI hm 107 4 (nI e)) 107 5 (nI s)) X w ∧ FLc X w hc (uI (uI hc 69 14 (nI e)) 69 15 (nI s)) := fun e h1 h5 => j_bad J h1 h5 (by rw [hI_ne (by omega), hI_at ⟨rfl, rfl⟩]) (hI_at ⟨rfl, rfl⟩) Fr.rf rfl
  have i14 : ∀ e, hI (uI (uI hc 69 14 (nI e)) 69 15 (nI s)) 69 14 = nI e := fun e => by rw [hI_ne (by omega), hI_at ⟨rfl, rfl⟩]
  have fmB : ∀ e, FLm f hm (uI (uI hm 107 4 (nI e)) 107 5 (nI s)) := fun e => (Fr.rf.uI (by omega)).uI (by omega)
  unfold fX5_part
  by_cases q6 : k = 6
  · subst q6
    have s40 : fX10_isSign hm (nI 40) = some (nI 1, hm) := m_isS K.2.1 wk (by decide)
    have m53 := xm.2.2.2.2.1
    have lsq := K.2.2.2.2.2.1 (by decide)
    obtain ⟨fu', rfl⟩ : ∃ g, fu = g + 1 := ⟨fu - 1, by omega⟩
    by_cases o : op = 8
    · obtain ⟨b1, b2⟩ := bd 2 (by decide) (by decide)
      subst o
      refine ⟨_, ?_, b2, Or.inl ⟨_, ?_, fmB 2, b1⟩⟩
      · simp (disch := omega) only [lit, c7, ↓reduceIte, ltF, fX5_fail, j5, c8, bind_some', fX5_part_24, x_passI (i14 2) (by decide) (by decide), x_jI (i14 2) (by decide) (by decide)]
      · rw [m_srL h55 K]
        unfold fX10_leafRead
        rw [lit 40, s40, bnd_some]
        simp (disch := omega) only [lit, eqF, ↓reduceIte, m53, m_wrong, m10, bnd_some, isZ0]
    · obtain ⟨hc1, hm1, k1, v1, s1, q1, a1, a2, a3, a4, a5, a6, a7, a8⟩ := j_open J (by omega)
      obtain ⟨hc2, e1, e2, e3⟩ := ih 0 (op + 1) hc1 hm1 p m (0 :: W) c k1 v1 s1 q1 fu' (by decide) (by omega) (by omega) a3 (a4.trans h55) ⟨fun _ => a5, Or.inr ⟨a5, fun z => absurd z (by decide)⟩⟩ (fun x hx => by
        have : x = 0 := (Option.some.inj hx).symm
        rw [this]; decide) (by omega)
      have m51 := xm.2.2.2.1.1
      have m51 : hI hm 107 51 = nI W.length := m51
      have lw := J.m64.2.2.2.2
      have wf := m_wf (h := uI hm 107 53 (nI (op + 1))) (k := 0) ((hI_ne (by omega)).trans m51) (by omega)
      have sr : fX10_sumRead_25 (fu' + 1) hm = fX10_sumRead_25 fu' hm1 := by
        rw [m_srL h55 K]
        unfold fX10_leafRead
        rw [lit 40, s40, bnd_some]
        simp (disch := omega) only [lit, eqF, ↓reduceIte, m53, nI_add, wf, bind_some', a2, bnd_some]
      have cl : ∀ r, fX5_pass hc2 (nI 7) = some r → (if nI 6 = nI 6 then (if nI op < nI 8 then (fX5_part_24 (fX5_joinedAt_d (dp' + 1)) hc (nI op)) else ((fX5_fail hc (nI 2) (hI hc 69 8)).bind (fun h_16 => fX5_part_24 (fX5_joinedAt_d (dp' + 1)) h_16 (nI op)))) else none) = some r := fun r hr => by
        simp (disch := omega) only [↓reduceIte, ltT, fX5_part_24, lit, x_passT j5 c7, a1, bind_some', nI_add, e1, hr]
      rw [sr]
      rcases e3 with ⟨hm2, r1, r2, r3, r4⟩ | ⟨hm2, fu2, r1, r2, p', m', P, c', k', v', s', q', g1, g2, g3, g4, g5, g6, g7, g8, g9, g10⟩
      · obtain ⟨e, y1, y2, y3, -⟩ := id r3
        refine ⟨hc2, ?_, Fr.tr a7 e2, Or.inl ⟨hm2, r1, Fr.tr a8 r2, r3, r4⟩⟩
        have := cl _ (x_passI y3 y1 y2 (nI 7))
        simp (disch := omega) only [lit, c7, ↓reduceIte] at this ⊢
        exact this
      · obtain ⟨⟨i1, i2, i3, i4, i5⟩, K2, xc2, xm2, xa2⟩ := id g2
        by_cases z7 : k' = 7
        · subst z7
          have lsq2 := K2.2.2.2.2.2.1 (by decide)
          have qn2 := K2.2.2.2.2.1
          obtain ⟨fu3, rfl⟩ : ∃ g, fu2 = g + 1 := ⟨fu2 - 1, by omega⟩
          obtain ⟨hc3, hm3, k3, v3, s3, q3, d1, d2, d3, d4, d5, d6, d7⟩ := j_close g2 (fun x hx => by have := g7 x hx; omega)
          refine ⟨hc3, ?_, Fr.tr (Fr.tr a7 e2) d6, Or.inr ⟨hm3, fu3, ?_, Fr.tr (Fr.tr a8 r2) d7, p', m' + P.length, [], c', k3, v3, s3, q3, by omega, d3, d4.trans g3, g4, ?_, by simp only [List.length_nil]; omega, fun x hx => absurd hx (by simp), fun z => Or.inl ?_, by omega, by omega⟩⟩
          · have := cl _ ((x_passT i5 K2.1.1).trans d1)
            simp (disch := omega) only [lit, c7, ↓reduceIte] at this ⊢
            exact this
          · rw [r1, m_srS g3 xm2.2.2.2.2.1 xa2.2.2.1 K2 (by omega), d2, bnd_some]
            simp (disch := omega) only [eqF, ↓reduceIte]
          · rw [List.length_nil, Nat.add_zero]; exact g5
          · have := d3.2.1.2.2.1.2.2.2.2.1 z
            have := (kk_f v3 (by omega) this.2).2.2.2.2.2
            omega
        · obtain ⟨fu3, rfl⟩ : ∃ g, fu2 = g + 1 := ⟨fu2 - 1, by omega⟩
          obtain ⟨hm3, d1, d2, d3, d4⟩ := j_signB g2 (fun z => absurd z z7) (fun z => by
            rcases g8 z with y | y
            · omega
            · exact ⟨y.1, y.2.2⟩)
          obtain ⟨b1, b2⟩ := j_bad g2 (e := 1) (by decide) (by decide) d3 d4 Fr.rf rfl
          refine ⟨_, ?_, Fr.tr (Fr.tr a7 e2) b2, Or.inl ⟨hm3, ?_, Fr.tr (Fr.tr a8 r2) d2, b1⟩⟩
          · have pf := x_passF (w := 7) i5 K2.1.1 z7 (by have := K2.2.2.1.1; omega) (by decide)
            rw [K2.1.2.1] at pf
            have := cl _ pf
            simp (disch := omega) only [lit, c7, ↓reduceIte] at this ⊢
            exact this
          · rw [r1, m_srS g3 xm2.2.2.2.2.1 xa2.2.2.1 K2 (by omega), d1, bnd_some]
            simp only [↓reduceIte]
  · by_cases q4 : k = 4
    · subst q4
      have v2 := wk.2.2.2.1 rfl
      have c12 := c12 rfl
      have m9 : hI hm 107 9 = nI v := K.2.1.2.2.2 (Or.inl (by decide))
      have m10' : (nI 0 ≤ -nI 1) = False := eq_false (by decide)
      by_cases z : v ≤ 9999
      · have lr : fX10_leafRead hm = fX10_leafRead_129 hm (-nI 1) := by
          rw [m_lfN K]
          unfold fX10_leafRead_109
          simp (disch := omega) only [lit, m10', ↓reduceIte, m9, leT]
        obtain ⟨hc', e1, e2, e3⟩ := j_leaf2 (fu := fu) J h55 (by decide) (x1 := -nI 1) (cd := v) (vl := v) (Or.inl ⟨rfl, m9, rfl, by omega⟩) lr hf
        refine ⟨hc', ?_, e2, e3⟩
        simp (disch := omega) only [lit, c7, eqF, ↓reduceIte, c12, leT, fX5_part_74]
        exact e1
      · obtain ⟨b1, b2⟩ := bd 2 (by decide) (by decide)
        obtain ⟨hB, u1, u2, u3, M, u4, u5⟩ := x_addA (h := uI (uI hc 69 14 (nI 2)) 69 15 (nI s)) (nI v) j1 j2 (m := m + ([] : List Nat).length) (by rw [hI_ne (by omega), hI_ne (by omega)]; exact xc.2.1) m64
        have dr : dref shp (uI (uI hc 69 14 (nI 2)) 69 15 (nI s)) 69 5 (1, 4) = some (X + 25 + 3 * w) := J.dl
        have hB14 : hI hB 69 14 = nI 2 := (u3 14).trans (i14 2)
        have k18 : hI hB X 18 = nI c := by
          unfold fX1_add at u1
          by_cases y : m + ([] : List Nat).length < 64
          · have := x_addT (h := uI (uI hc 69 14 (nI 2)) 69 15 (nI s)) (x := nI v) j1 j2 (by rw [hI_ne (by omega), hI_ne (by omega)]; exact xc.2.1) y
            unfold fX1_add at this
            rw [u1] at this
            rw [Option.some.inj this]
            simp (disch := omega) only [hI_ne]
            exact xc.2.2.2
          · have y2 : hI (uI (uI hc 69 14 (nI 2)) 69 15 (nI s)) (X + 25 + 3 * w) 1 = nI (m + ([] : List Nat).length) := by rw [hI_ne (by omega), hI_ne (by omega)]; exact xc.2.1
            simp (disch := omega) only [lit, y2, leT, ↓reduceIte] at u1
            rw [← Option.some.inj u1]
            simp (disch := omega) only [hI_ne]
            exact xc.2.2.2
        have kn := x_knotI (h := hB) j1 (by rw [u2.2.2]; exact j3) hB14 (by decide) (by decide) k18 c64
        have lsq := K.2.2.2.2.2.1 (by decide)
        obtain ⟨fu', rfl⟩ : ∃ g, fu = g + 1 := ⟨fu - 1, by omega⟩
        refine ⟨hB, ?_, Fr.tr b2 u2, Or.inl ⟨uI (uI hm 107 4 (nI 2)) 107 5 (nI s), ?_, fmB 2, ⟨2, by decide, by decide, hB14, by rw [hI_ne (by omega), hI_at ⟨rfl, rfl⟩], ?_⟩, M, u4, u5⟩⟩
        · have cn : hI (uI (uI hc 69 14 (nI 2)) 69 15 (nI s)) 69 12 = nI v := by rw [hI_ne (by omega), hI_ne (by omega)]; exact c12
          simp (disch := omega) only [lit, c7, eqF, ↓reduceIte, c12, leF, fX5_fail, j5, c8, bind_some', fX5_part_74, dr, cn, u1, kn]
        · rw [m_srL h55 K, m_lfN K]
          unfold fX10_leafRead_109
          simp (disch := omega) only [lit, m10', ↓reduceIte, m9, leF, m_wrong, m10, bnd_some, isZ0]
        · rw [u3, hI_at ⟨rfl, rfl⟩, hI_at ⟨rfl, rfl⟩]
    · by_cases q3 : k = 3 ∧ 16 ≤ v
      · obtain ⟨rfl, v16⟩ := q3
        have v23 := (wk.2.2.1 rfl).1
        have c11 := c11 rfl
        obtain ⟨hc', e1, e2, e3⟩ := j_leaf2 (fu := fu) J h55 (by decide) (x1 := nI (v - 16)) (cd := 10000 + (v - 16)) (vl := v - 16) (Or.inr ⟨rfl, rfl, by omega⟩) (m_lfW K v16) hf
        refine ⟨hc', ?_, e2, e3⟩
        have sb : nI (10000 + v) - nI 16 = nI (10000 + (v - 16)) := by rw [pk_sub (by omega)]; congr 1; omega
        simp (disch := omega) only [lit, c7, eqF, ↓reduceIte, c11, ltF, nI_add, sb]
        exact e1
      · obtain ⟨b1, b2⟩ := bd 1 (by decide) (by decide)
        obtain ⟨fu', rfl⟩ : ∃ g, fu = g + 1 := ⟨fu - 1, by omega⟩
        refine ⟨_, ?_, b2, Or.inl ⟨uI (uI hm 107 4 (nI 1)) 107 5 (nI s), ?_, fmB 1, b1⟩⟩
        · by_cases z3 : k = 3
          · subst z3
            have c11 := c11 rfl
            have v16 : v < 16 := by omega
            simp (disch := omega) only [lit, c7, eqF, ↓reduceIte, c11, ltT, fX5_part_134, fX5_fail, j5, c8, bind_some']
          · simp (disch := omega) only [lit, c7, eqF, ↓reduceIte, fX5_part_134, fX5_fail, j5, c8, bind_some']
        · rw [m_srL h55 K, m_lfB K q6 q4 (fun z => by omega) (fun z1 z2 => by
            rcases mn.2 with y | y
            · exact y
            · exact absurd ⟨z1, z2⟩ (y.2 (by decide))), bnd_some]
          simp only [↓reduceIte]
end V
