/-! text: the laws' sums, one token on both sides. -/
def XA (f : Nat) (p : Nat → Nat) (m : Nat) (P W : List Nat) (c op : Nat) : Prop := c = f + m + nop (P ++ W) ∧ c ≤ 64 ∧ op ≤ 8 ∧ (P ++ W).length = nop (P ++ W) + op ∧ PCd p m P ∧ (∀ j, j < m + P.length → PfK p j) ∧ ∀ x, x ∈ W → x < 15
/-- both sides in a sum: p has been written by the class; m of it by the reference; P waits there, above W -/
def JS (hc hm : Hp) (X w f : Nat) (p : Nat → Nat) (m : Nat) (P W : List Nat) (c op : Nat) (b : Nat → Nat) (n k v s q : Nat) : Prop := (isS X ∧ w < 3 ∧ hR hc 69 4 = some X ∧ RTp hc hm b n ∧ hI hc 69 14 = nI 0) ∧ TK hc hm n k v s q ∧ XC hc X w p (m + P.length) c ∧ XM hm f p m (P ++ W) c op ∧ XA f p m P W c op
section V
variable {hc hm : Hp} {X w f m c op n k v s q : Nat} {p b : Nat → Nat} {P W : List Nat}
theorem FLc_R {h h' : Hp} (e : FLc X w h h') (a i : Nat) : hR h' a i = hR h a i := e.2.2 a i
/-- the next token behind what was written -/
theorem j_go {hc1 hm1 : Hp} {p' : Nat → Nat} {m' c' op' : Nat} {W' : List Nat} (J : JS hc hm X w f p m P W c op b n k v s q) (fc : FLc X w hc hc1) (fm : FLm f hm hm1) (e69 : ∀ i, hI hc1 69 i = hI hc 69 i) (e7 : ∀ i, 4 ≤ i → i ≤ 10 → hI hm1 107 i = hI hm 107 i) (xc : XC hc1 X w p' m' c') (xm : XM hm1 f p' m' W' c' op') (xa : XA f p' m' [] W' c' op') : ∃ hc' hm' k' v' s' q', fX5_next hc1 = some hc' ∧ fX10_token hm1 = some hm' ∧ JS hc' hm' X w f p' m' [] W' c' op' b n k' v' s' q' ∧ hI hm' 107 55 = hI hm1 107 55 ∧ hI hm' 107 56 = hI hm1 107 56 ∧ q ≤ s' ∧ FLc X w hc hc' ∧ FLm f hm hm' := by
  obtain ⟨⟨j1, j2, j3, j4, j5⟩, K, -, -, -⟩ := J
  have x1 : X = 1 ∨ X = 35 := j1
  obtain ⟨hc', hm', k', v', s', q', a1, a2, a3, a4, a5, a6, a7⟩ := j_adv (hc1 := hc1) (hm1 := hm1) j4 K (fun a i h1 h2 => by
    by_cases z : a = 69
    · rw [z]; exact e69 i
    · exact fc.1 _ _ (by omega)) (fun i h1 h2 => e7 i h1 (by omega)) (fun a i hi => fm.1 _ _ (by omega))
  refine ⟨hc', hm', k', v', s', q', a1, a2, ⟨⟨j1, j2, ?_, a6, ?_⟩, a5, ?_, ?_, xa⟩, a4.1 _ _ (by omega), a4.1 _ _ (by omega), a7, Fr.tr fc (FNc.L a3), Fr.tr fm (FNm.L a4)⟩
  · rw [a3.2.2, fc.2.2]; exact j3
  · rw [a3.1 _ _ (by omega), e69]; exact j5
  · exact XC_fr j1 xc j2 (fun a i h1 => a3.1 _ _ (by omega)) (fun a i => a3.2.2 _ _)
  · exact XM_fr xm (fun a i h1 => a4.1 _ _ (by omega))
/-- a number or a name -/
theorem j_leaf {cd vl : Nat} (J : JS hc hm X w f p m [] W c op b n k v s q) (hc64 : c < 64) (h1 : cd < 10007) (h2 : (cd < 10000 ∧ vl = cd) ∨ (10000 ≤ cd ∧ vl = cd - 10000)) : ∃ hc' hm' k' v' s' q', fX5_next (uI (uI (uI hc (X + 26 + 3 * w) m (nI cd)) (X + 25 + 3 * w) 1 (nI (m + 1))) X 18 (nI (c + 1))) = some hc' ∧ fX10_token (uI (grw (uI hm 107 54 (nI (c + 1))) (f + m) (stk p f m).length (nI (mkd cd)) (nI vl) (nI 0)) 107 55 (nI 0)) = some hm' ∧ JS hc' hm' X w f (pU p m cd) (m + 1) [] W (c + 1) op b n k' v' s' q' ∧ hI hm' 107 55 = nI 0 ∧ q ≤ s' ∧ FLc X w hc hc' ∧ FLm f hm hm' := by
  obtain ⟨⟨j1, j2, j3, j4, j5⟩, K, xc, xm, ⟨x1, x2, x3, x4, x5, x6, x7⟩⟩ := id J
  have xx : X = 1 ∨ X = 35 := j1
  have xm' := XM_ex (q := pU p m cd) (fun i hi => pU_lt hi) xm
  obtain ⟨m1, m2, ⟨m3, m4⟩, ⟨m5, m6⟩, m8, m9⟩ := xm'
  have ep : stk (pU p m cd) f m = stk p f m := stk_ext (fun i hi => pU_lt hi)
  rw [ep] at m3 m4
  have xg : XM (grw (uI hm 107 54 (nI (c + 1))) (f + m) (stk p f m).length (nI (mkd cd)) (nI vl) (nI 0)) f (pU p m cd) (m + 1) ([] ++ W) (c + 1) op := by
    refine XM_grw m2 (fun a h1 h2 i => hI_ne (by omega)) (Skk_fr m4 (fun i _ => hI_ne (by omega))) ⟨(hI_ne (by omega)).trans m5, Skk_fr m6 (fun i _ => hI_ne (by omega))⟩ ((hI_ne (by omega)).trans m8) (hI_at ⟨rfl, rfl⟩) ?_ ?_
    · rw [stk, pU_at, if_pos (by omega), ep]
    · rw [pU_at, ep]
      refine ⟨rfl, fun z => ?_, fun z1 z2 => ?_, fun z => by omega, fun z => by omega⟩
      · rcases h2 with h2 | h2
        · rw [h2.2]
        · omega
      · rcases h2 with h2 | h2
        · omega
        · rw [h2.2]
  have g1 : FLm f hm (uI hm 107 54 (nI (c + 1))) := Fr.rf.uI (by omega)
  have g2 : FEm f (uI hm 107 54 (nI (c + 1))) (grw (uI hm 107 54 (nI (c + 1))) (f + m) (stk p f m).length (nI (mkd cd)) (nI vl) (nI 0)) := grw_F Fr.rf
  have G := j_go (hc1 := uI (uI (uI hc (X + 26 + 3 * w) m (nI cd)) (X + 25 + 3 * w) 1 (nI (m + 1))) X 18 (nI (c + 1))) (hm1 := uI (grw (uI hm 107 54 (nI (c + 1))) (f + m) (stk p f m).length (nI (mkd cd)) (nI vl) (nI 0)) 107 55 (nI 0)) (p' := pU p m cd) (m' := m + 1) (c' := c + 1) (op' := op) (W' := W) J (((Fr.rf.uI (by omega)).uI (by omega)).uI (by omega)) (Fr.uI (Fr.tr g1 g2.L) (by omega)) (fun i => by rw [hI_ne (by omega), hI_ne (by omega), hI_ne (by omega)]) (fun i h1 h2 => by unfold grw; simp (disch := omega) only [hI_ne])
  have G := G (by
    obtain ⟨c1, c2, c3, c4⟩ := XC_add (v := cd) j1 j2 xc
    exact ⟨c1, by rw [hI_ne (by omega)]; exact c2, fun j hj => by rw [hI_ne (by omega)]; exact c3 j hj, hI_at ⟨rfl, rfl⟩⟩)
  have G := G (XM_fr xg (fun a i h1 => hI_ne (by omega)))
  have G := G (by
    rw [List.nil_append] at x1 x4
    refine ⟨by rw [List.nil_append]; omega, by omega, x3, by rw [List.nil_append]; exact x4, trivial, fun j hj => ?_, x7⟩
    simp only [List.length_nil, Nat.add_zero] at hj x6
    by_cases z : j = m
    · subst z; left; rw [pU_at]; omega
    · exact PfK_ext (fun i hi => pU_lt (by omega)) (x6 j (by omega)))
  obtain ⟨hc', hm', k', v', s', q', a1, a2, a3, a4, a5, a6, a7, a8⟩ := G
  exact ⟨hc', hm', k', v', s', q', a1, a2, a3, by rw [a4, hI_at ⟨rfl, rfl⟩], a6, a7, a8⟩
/-- not -/
theorem j_not (J : JS hc hm X w f p m [] W c op b n k v s q) (hc64 : c < 64) : ∃ hc' hm' k' v' s' q', fX5_next (uI hc X 18 (nI (c + 1))) = some hc' ∧ fX10_token (uI (uI (uI hm 107 54 (nI (c + 1))) 133 W.length (nI 2)) 107 51 (nI (W.length + 1))) = some hm' ∧ JS hc' hm' X w f p m [] (2 :: W) (c + 1) op b n k' v' s' q' ∧ hI hm' 107 55 = hI hm 107 55 ∧ hI hm' 107 56 = hI hm 107 56 ∧ q ≤ s' ∧ FLc X w hc hc' ∧ FLm f hm hm' := by
  obtain ⟨⟨j1, j2, j3, j4, j5⟩, K, ⟨c1, c2, c3, c4⟩, ⟨m1, m2, ⟨m3, m4⟩, ⟨m5, m6⟩, m8, m9⟩, ⟨x1, x2, x3, x4, x5, x6, x7⟩⟩ := id J
  have xx : X = 1 ∨ X = 35 := j1
  have G := j_go (hc1 := uI hc X 18 (nI (c + 1))) (hm1 := uI (uI (uI hm 107 54 (nI (c + 1))) 133 W.length (nI 2)) 107 51 (nI (W.length + 1))) (p' := p) (m' := m) (c' := c + 1) (op' := op) (W' := 2 :: W) J (Fr.rf.uI (by omega)) (((Fr.rf.uI (by omega)).uI (by omega)).uI (by omega)) (fun i => hI_ne (by omega)) (fun i h1 h2 => by simp (disch := omega) only [hI_ne])
  have G := G (by
    exact ⟨c1, by rw [hI_ne (by omega)]; exact c2, fun j hj => by rw [hI_ne (by omega)]; exact c3 j hj, hI_at ⟨rfl, rfl⟩⟩)
  have G := G (by
    refine ⟨by simp (disch := omega) only [hI_ne]; exact m1, MLk_ext m2 (fun a i h1 h2 => ?_), ⟨by simp (disch := omega) only [hI_ne]; exact m3, Skk_fr m4 (fun i _ => by simp (disch := omega) only [hI_ne])⟩, ⟨hI_at ⟨rfl, rfl⟩, ?_⟩, by simp (disch := omega) only [hI_ne]; exact m8, by simp (disch := omega) only [hI_ne, hI_at]⟩
    · rw [hup_I, hup_I, if_neg (by omega), if_neg (by omega)]; simp (disch := omega) only [hI_ne]
    · exact Skk_fr (Skk_push (Skk_fr m6 (fun i _ => hI_ne (by omega)))) (fun i _ => hI_ne (by omega)))
  have G := G (by
    rw [List.nil_append] at x1 x4
    refine ⟨by rw [List.nil_append, nop]; simp only [show ¬ (2 : Nat) = 0 by decide, ↓reduceIte]; omega, by omega, x3, by rw [List.nil_append, nop]; simp only [List.length_cons, show ¬ (2 : Nat) = 0 by decide, ↓reduceIte]; omega, trivial, x6, fun x hx => ?_⟩
    rcases List.mem_cons.mp hx with rfl | hx
    · decide
    · exact x7 x hx)
  obtain ⟨hc', hm', k', v', s', q', a1, a2, a3, a4, a5, a6, a7, a8⟩ := G
  exact ⟨hc', hm', k', v', s', q', a1, a2, a3, by rw [a4]; simp (disch := omega) only [hI_ne], by rw [a5]; simp (disch := omega) only [hI_ne], a6, a7, a8⟩
/-- a bracket is opened -/
theorem j_open (J : JS hc hm X w f p m [] W c op b n k v s q) (h8 : op < 8) : ∃ hc' hm' k' v' s' q', fX5_next hc = some hc' ∧ fX10_token (uI (uI (uI (uI hm 107 53 (nI (op + 1))) 133 W.length (nI 0)) 107 51 (nI (W.length + 1))) 107 56 (nI 1)) = some hm' ∧ JS hc' hm' X w f p m [] (0 :: W) c (op + 1) b n k' v' s' q' ∧ hI hm' 107 55 = hI hm 107 55 ∧ hI hm' 107 56 = nI 1 ∧ q ≤ s' ∧ FLc X w hc hc' ∧ FLm f hm hm' := by
  obtain ⟨⟨j1, j2, j3, j4, j5⟩, K, xc, ⟨m1, m2, ⟨m3, m4⟩, ⟨m5, m6⟩, m8, m9⟩, ⟨x1, x2, x3, x4, x5, x6, x7⟩⟩ := id J
  have G := j_go (hc1 := hc) (hm1 := uI (uI (uI (uI hm 107 53 (nI (op + 1))) 133 W.length (nI 0)) 107 51 (nI (W.length + 1))) 107 56 (nI 1)) (p' := p) (m' := m) (c' := c) (op' := op + 1) (W' := 0 :: W) J Fr.rf ((((Fr.rf.uI (by omega)).uI (by omega)).uI (by omega)).uI (by omega)) (fun i => rfl) (fun i h1 h2 => by simp (disch := omega) only [hI_ne]) xc
  have G := G (by
    refine ⟨by simp (disch := omega) only [hI_ne]; exact m1, MLk_ext m2 (fun a i h1 h2 => ?_), ⟨by simp (disch := omega) only [hI_ne]; exact m3, Skk_fr m4 (fun i _ => by simp (disch := omega) only [hI_ne])⟩, ⟨by simp (disch := omega) only [hI_ne, hI_at]; rfl, ?_⟩, by simp (disch := omega) only [hI_ne, hI_at], by simp (disch := omega) only [hI_ne]; exact m9⟩
    · rw [hup_I, hup_I, if_neg (by omega), if_neg (by omega)]; simp (disch := omega) only [hI_ne]
    · exact Skk_fr (h := uI (uI hm 107 53 (nI (op + 1))) 133 W.length (nI 0)) (Skk_push (Skk_fr m6 (fun i _ => hI_ne (by omega)))) (fun i _ => by simp (disch := omega) only [hI_ne]))
  have G := G (by
    rw [List.nil_append] at x1 x4
    refine ⟨by rw [List.nil_append, nop]; simp only [↓reduceIte]; omega, x2, by omega, by rw [List.nil_append, nop]; simp only [List.length_cons, ↓reduceIte]; omega, trivial, x6, fun x hx => ?_⟩
    rcases List.mem_cons.mp hx with rfl | hx
    · decide
    · exact x7 x hx)
  obtain ⟨hc', hm', k', v', s', q', a1, a2, a3, a4, a5, a6, a7, a8⟩ := G
  exact ⟨hc', hm', k', v', s', q', a1, a2, a3, by rw [a4]; simp (disch := omega) only [hI_ne], by rw [a5]; simp (disch := omega) only [hI_at], a6, a7, a8⟩
/-- the reference binds what waits -/
theorem j_bind (J : JS hc hm X w f p m P W c op b n k v s q) {r : Nat} (hr : ∀ x, x ∈ P → r ≤ rkN x) (hw : ∀ x, W.head? = some x → rkN x < r) (r10 : r < 10) : ∃ hm1, fX10_bind hm (nI r) = some hm1 ∧ XM hm1 f p (m + P.length) W c op ∧ FEm f hm hm1 := by
  obtain ⟨-, -, -, xm, ⟨x1, x2, x3, x4, x5, x6, x7⟩⟩ := J
  have np := PCd_nop x5
  rw [nop_app] at x1 x4
  have lp : (P ++ W).length = P.length + W.length := List.length_append
  obtain ⟨h', a1, a2, a3⟩ := m_bindP P m hm FU xm x5 x6 (by omega) (by omega) hr (by unfold FU; omega) (fun x hx => ⟨hw x hx, x7 x (List.mem_of_mem_head? hx)⟩) r10
  exact ⟨h', a1, a2, a3⟩
/-- a bracket is closed -/
theorem j_close (J : JS hc hm X w f p m P (0 :: W) c (op + 1) b n 7 v s q) (hr : ∀ x, x ∈ P → 1 ≤ rkN x) : ∃ hc' hm' k' v' s' q', fX5_next hc = some hc' ∧ fX10_signs hm = some (nI 1, hm') ∧ JS hc' hm' X w f p (m + P.length) [] W c op b n k' v' s' q' ∧ hI hm' 107 55 = hI hm 107 55 ∧ q ≤ s' ∧ FLc X w hc hc' ∧ FLm f hm hm' := by
  obtain ⟨hm1, b1, b2, b3⟩ := j_bind J hr (fun x hx => by
    have : x = 0 := (Option.some.inj hx).symm
    rw [this]; decide) (by decide)
  obtain ⟨⟨j1, j2, j3, j4, j5⟩, K, xc, xm0, ⟨x1, x2, x3, x4, x5, x6, x7⟩⟩ := id J
  have K53 := xm0.2.2.2.2.1
  obtain ⟨m1, m2, ⟨m3, m4⟩, ⟨m5, m6⟩, m8, m9⟩ := id b2
  have np := PCd_nop x5
  have e7 : ∀ i, 4 ≤ i → i ≤ 10 → hI hm1 107 i = hI hm 107 i := fun i h1 h2 => b3.1 _ _ (by omega)
  have sb : nI (W.length + 1) - nI 1 = nI W.length := by rw [nop_app] at x1 x4; have lp : (P ++ 0 :: W).length = P.length + (W.length + 1) := List.length_append; rw [pk_sub (by omega)]; rfl
  have m5 : hI hm1 107 51 = nI (W.length + 1) := m5
  have sb2 : nI (op + 1) - nI 1 = nI op := by rw [pk_sub (by omega)]; rfl
  have e53 : hI (uI hm1 107 51 (nI W.length)) 107 53 = nI (op + 1) := (hI_ne (by omega)).trans m8
  have G := j_go (hc1 := hc) (hm1 := uI (uI hm1 107 51 (nI W.length)) 107 53 (nI op)) (p' := p) (m' := m + P.length) (c' := c) (op' := op) (W' := W) J Fr.rf (Fr.uI (Fr.uI b3.L (by omega)) (by omega)) (fun i => rfl) (fun i h1 h2 => by rw [hI_ne (by omega), hI_ne (by omega)]; exact e7 i h1 h2) xc
  have G := G (by
    refine ⟨by simp (disch := omega) only [hI_ne]; exact m1, MLk_ext m2 (fun a i h1 h2 => ?_), ⟨by simp (disch := omega) only [hI_ne]; exact m3, Skk_fr m4 (fun i _ => by simp (disch := omega) only [hI_ne])⟩, ⟨by simp (disch := omega) only [hI_ne, hI_at], Skk_fr m6.2 (fun i _ => by simp (disch := omega) only [hI_ne])⟩, hI_at ⟨rfl, rfl⟩, by simp (disch := omega) only [hI_ne]; exact m9⟩
    rw [hup_I, hup_I, if_neg (by omega), if_neg (by omega)]; simp (disch := omega) only [hI_ne])
  have G := G (by
    rw [nop_app, nop] at x1 x4
    have lp : (P ++ 0 :: W).length = P.length + (W.length + 1) := List.length_append
    simp only [↓reduceIte] at x1 x4
    exact ⟨by rw [List.nil_append]; omega, x2, by omega, by rw [List.nil_append]; omega, trivial, x6, fun x hx => x7 x (List.mem_cons_of_mem _ hx)⟩)
  obtain ⟨hc', hm', k', v', s', q', a1, a2, a3, a4, a5, a6, a7, a8⟩ := G
  refine ⟨hc', hm', k', v', s', q', a1, ?_, a3, by rw [a4, hI_ne (by omega), hI_ne (by omega)]; exact b3.1 _ _ (by omega), a6, a7, a8⟩
  have k1 : kM 7 v = 4 ∧ wM 7 v = 41 := ⟨rfl, rfl⟩
  unfold fX10_signs
  simp (disch := omega) only [lit, m_isS K.2.1 K.2.2.1, bnd_some, if_pos k1, eqF, ↓reduceIte, K53, leF, b1, bind_some', m5, sb, e53, sb2, a2]
theorem m_s47 (K : TKm hm 8 v s q) (wk : WK 8 v) : fX10_signs hm = fX10_signs_147 hm (nI (kkN v)) := by
  obtain ⟨-, -, -, -, k5, -⟩ := id wk
  have k5 := k5 rfl
  have m8 := K.1
  have m9 := K.2.2.2 (Or.inl (by decide))
  unfold fX10_signs fX10_signs_47
  rcases (by omega : v = 0 ∨ v = 1 ∨ v = 3 ∨ v = 4 ∨ v = 5 ∨ v = 6 ∨ v = 7 ∨ v = 8 ∨ v = 9 ∨ v = 10 ∨ v = 11 ∨ v = 12) with rfl | rfl | rfl | rfl | rfl | rfl | rfl | rfl | rfl | rfl | rfl | rfl
  · have m8 : hI hm 107 8 = nI 1 := m8
    have m9 : hI hm 107 9 = nI 14 := m9
    have s41 : fX10_isSign hm (nI 41) = some (nI 0, hm) := m_isS K wk (by decide)
    have k13 : fX10_isKey hm (nI 13) = some (nI 0, hm) := m_isK K wk (by decide)
    have k14 : fX10_isKey hm (nI 14) = some (nI 1, hm) := m_isK K wk (by decide)
    simp (disch := omega) only [lit, s41, k13, k14, bnd_some, eqF, ↓reduceIte, m8, m9, nI_add]
    rfl
  · have m8 : hI hm 107 8 = nI 1 := m8
    have m9 : hI hm 107 9 = nI 13 := m9
    have s41 : fX10_isSign hm (nI 41) = some (nI 0, hm) := m_isS K wk (by decide)
    have k13 : fX10_isKey hm (nI 13) = some (nI 1, hm) := m_isK K wk (by decide)
    simp (disch := omega) only [lit, s41, k13, bnd_some, eqF, ↓reduceIte, m8, m9, nI_add]
    rfl
  · have m8 : hI hm 107 8 = nI 5 := m8
    have m9 : hI hm 107 9 = nI 0 := m9
    have s41 : fX10_isSign hm (nI 41) = some (nI 0, hm) := m_isS K wk (by decide)
    have k13 : fX10_isKey hm (nI 13) = some (nI 0, hm) := m_isK K wk (by decide)
    have k14 : fX10_isKey hm (nI 14) = some (nI 0, hm) := m_isK K wk (by decide)
    simp (disch := omega) only [lit, s41, k13, k14, bnd_some, eqF, ↓reduceIte, m8, m9, nI_add]
    rfl
  · have m8 : hI hm 107 8 = nI 5 := m8
    have m9 : hI hm 107 9 = nI 1 := m9
    have s41 : fX10_isSign hm (nI 41) = some (nI 0, hm) := m_isS K wk (by decide)
    have k13 : fX10_isKey hm (nI 13) = some (nI 0, hm) := m_isK K wk (by decide)
    have k14 : fX10_isKey hm (nI 14) = some (nI 0, hm) := m_isK K wk (by decide)
    simp (disch := omega) only [lit, s41, k13, k14, bnd_some, eqF, ↓reduceIte, m8, m9, nI_add]
    rfl
  · have m8 : hI hm 107 8 = nI 5 := m8
    have m9 : hI hm 107 9 = nI 2 := m9
    have s41 : fX10_isSign hm (nI 41) = some (nI 0, hm) := m_isS K wk (by decide)
    have k13 : fX10_isKey hm (nI 13) = some (nI 0, hm) := m_isK K wk (by decide)
    have k14 : fX10_isKey hm (nI 14) = some (nI 0, hm) := m_isK K wk (by decide)
    simp (disch := omega) only [lit, s41, k13, k14, bnd_some, eqF, ↓reduceIte, m8, m9, nI_add]
    rfl
  · have m8 : hI hm 107 8 = nI 5 := m8
    have m9 : hI hm 107 9 = nI 3 := m9
    have s41 : fX10_isSign hm (nI 41) = some (nI 0, hm) := m_isS K wk (by decide)
    have k13 : fX10_isKey hm (nI 13) = some (nI 0, hm) := m_isK K wk (by decide)
    have k14 : fX10_isKey hm (nI 14) = some (nI 0, hm) := m_isK K wk (by decide)
    simp (disch := omega) only [lit, s41, k13, k14, bnd_some, eqF, ↓reduceIte, m8, m9, nI_add]
    rfl
  · have m8 : hI hm 107 8 = nI 5 := m8
    have m9 : hI hm 107 9 = nI 4 := m9
    have s41 : fX10_isSign hm (nI 41) = some (nI 0, hm) := m_isS K wk (by decide)
    have k13 : fX10_isKey hm (nI 13) = some (nI 0, hm) := m_isK K wk (by decide)
    have k14 : fX10_isKey hm (nI 14) = some (nI 0, hm) := m_isK K wk (by decide)
    simp (disch := omega) only [lit, s41, k13, k14, bnd_some, eqF, ↓reduceIte, m8, m9, nI_add]
    rfl
  · have m8 : hI hm 107 8 = nI 5 := m8
    have m9 : hI hm 107 9 = nI 5 := m9
    have s41 : fX10_isSign hm (nI 41) = some (nI 0, hm) := m_isS K wk (by decide)
    have k13 : fX10_isKey hm (nI 13) = some (nI 0, hm) := m_isK K wk (by decide)
    have k14 : fX10_isKey hm (nI 14) = some (nI 0, hm) := m_isK K wk (by decide)
    simp (disch := omega) only [lit, s41, k13, k14, bnd_some, eqF, ↓reduceIte, m8, m9, nI_add]
    rfl
  · have m8 : hI hm 107 8 = nI 4 := m8
    have m9 : hI hm 107 9 = nI 43 := m9
    have s41 : fX10_isSign hm (nI 41) = some (nI 0, hm) := m_isS K wk (by decide)
    have k13 : fX10_isKey hm (nI 13) = some (nI 0, hm) := m_isK K wk (by decide)
    have k14 : fX10_isKey hm (nI 14) = some (nI 0, hm) := m_isK K wk (by decide)
    have s43 : fX10_isSign hm (nI 43) = some (nI 1, hm) := m_isS K wk (by decide)
    simp (disch := omega) only [lit, s41, k13, k14, s43, bnd_some, eqF, ↓reduceIte, m8, m9, nI_add]
    rfl
  · have m8 : hI hm 107 8 = nI 4 := m8
    have m9 : hI hm 107 9 = nI 45 := m9
    have s41 : fX10_isSign hm (nI 41) = some (nI 0, hm) := m_isS K wk (by decide)
    have k13 : fX10_isKey hm (nI 13) = some (nI 0, hm) := m_isK K wk (by decide)
    have k14 : fX10_isKey hm (nI 14) = some (nI 0, hm) := m_isK K wk (by decide)
    have s43 : fX10_isSign hm (nI 43) = some (nI 0, hm) := m_isS K wk (by decide)
    have s45 : fX10_isSign hm (nI 45) = some (nI 1, hm) := m_isS K wk (by decide)
    simp (disch := omega) only [lit, s41, k13, k14, s43, s45, bnd_some, eqF, ↓reduceIte, m8, m9, nI_add]
    rfl
  · have m8 : hI hm 107 8 = nI 4 := m8
    have m9 : hI hm 107 9 = nI 42 := m9
    have s41 : fX10_isSign hm (nI 41) = some (nI 0, hm) := m_isS K wk (by decide)
    have k13 : fX10_isKey hm (nI 13) = some (nI 0, hm) := m_isK K wk (by decide)
    have k14 : fX10_isKey hm (nI 14) = some (nI 0, hm) := m_isK K wk (by decide)
    have s43 : fX10_isSign hm (nI 43) = some (nI 0, hm) := m_isS K wk (by decide)
    have s45 : fX10_isSign hm (nI 45) = some (nI 0, hm) := m_isS K wk (by decide)
    have s42 : fX10_isSign hm (nI 42) = some (nI 1, hm) := m_isS K wk (by decide)
    simp (disch := omega) only [lit, s41, k13, k14, s43, s45, s42, bnd_some, eqF, ↓reduceIte, m8, m9, nI_add]
    rfl
  · have m8 : hI hm 107 8 = nI 4 := m8
    have m9 : hI hm 107 9 = nI 47 := m9
    have s41 : fX10_isSign hm (nI 41) = some (nI 0, hm) := m_isS K wk (by decide)
    have k13 : fX10_isKey hm (nI 13) = some (nI 0, hm) := m_isK K wk (by decide)
    have k14 : fX10_isKey hm (nI 14) = some (nI 0, hm) := m_isK K wk (by decide)
    have s43 : fX10_isSign hm (nI 43) = some (nI 0, hm) := m_isS K wk (by decide)
    have s45 : fX10_isSign hm (nI 45) = some (nI 0, hm) := m_isS K wk (by decide)
    have s42 : fX10_isSign hm (nI 42) = some (nI 0, hm) := m_isS K wk (by decide)
    have s47 : fX10_isSign hm (nI 47) = some (nI 1, hm) := m_isS K wk (by decide)
    simp (disch := omega) only [lit, s41, k13, k14, s43, s45, s42, s47, bnd_some, eqF, ↓reduceIte, m8, m9, nI_add]
    rfl
/-- a sign is read -/
theorem j_sign {lv : Nat} (J : JS hc hm X w f p m P W c op b n 8 v s q) (hl : slN v = lv) (hr : ∀ x, x ∈ P → (if lv = 3 then 5 else lv + 1) ≤ rkN x) (hw : ∀ x, W.head? = some x → rkN x < lv + 1) (hc64 : c < 64) : ∃ hc' hm' k' v' s' q', fX5_next (uI hc X 18 (nI (c + 1))) = some hc' ∧ fX10_signs hm = some (nI 1, hm') ∧ JS hc' hm' X w f p (m + P.length) [] (kkN v :: W) (c + 1) op b n k' v' s' q' ∧ hI hm' 107 55 = nI 1 ∧ hI hm' 107 56 = nI (if lv < 2 then 1 else 0) ∧ q ≤ s' ∧ FLc X w hc hc' ∧ FLm f hm hm' := by
  obtain ⟨⟨j1, j2, j3, j4, j5⟩, K, ⟨c1, c2, c3, c4⟩, xm0, ⟨x1, x2, x3, x4, x5, x6, x7⟩⟩ := id J
  have xx : X = 1 ∨ X = 35 := j1
  obtain ⟨-, -, -, -, k5, -⟩ := id K.2.2.1
  have k5 := k5 rfl
  obtain ⟨g1, g2, g3, g4, g5, g6⟩ := kk_f v (by omega) k5.2
  rw [hl] at g3 g5 g6
  obtain ⟨hm1, b1, b2, b3⟩ := j_bind J hr (fun x hx => by
    have := hw x hx
    split <;> omega) (by split <;> omega)
  obtain ⟨m1, m2, ⟨m3, m4⟩, ⟨m5, m6⟩, m8, m9⟩ := id b2
  have np := PCd_nop x5
  rw [nop_app] at x1 x4
  have lp : (P ++ W).length = P.length + W.length := List.length_append
  have e7 : ∀ i, 4 ≤ i → i ≤ 10 → hI hm1 107 i = hI hm 107 i := fun i h1 h2 => b3.1 _ _ (by omega)
  have G := j_go (hc1 := uI hc X 18 (nI (c + 1))) (hm1 := uI (uI (uI (uI (uI hm1 107 54 (nI (c + 1))) 133 W.length (nI (kkN v))) 107 51 (nI (W.length + 1))) 107 55 (nI 1)) 107 56 (nI (if lv < 2 then 1 else 0))) (p' := p) (m' := m + P.length) (c' := c + 1) (op' := op) (W' := kkN v :: W) J (Fr.rf.uI (by omega)) (Fr.uI (Fr.uI (Fr.uI (Fr.uI (Fr.uI b3.L (by omega)) (by omega)) (by omega)) (by omega)) (by omega)) (fun i => hI_ne (by omega)) (fun i h1 h2 => by simp (disch := omega) only [hI_ne]; exact e7 i h1 h2)
  have G := G (by
    exact ⟨c1, by rw [hI_ne (by omega)]; exact c2, fun j hj => by rw [hI_ne (by omega)]; exact c3 j hj, hI_at ⟨rfl, rfl⟩⟩)
  have G := G (by
    refine ⟨by simp (disch := omega) only [hI_ne]; exact m1, MLk_ext m2 (fun a i h1 h2 => ?_), ⟨by simp (disch := omega) only [hI_ne]; exact m3, Skk_fr m4 (fun i _ => by simp (disch := omega) only [hI_ne])⟩, ⟨by simp (disch := omega) only [hI_ne, hI_at]; rfl, ?_⟩, by simp (disch := omega) only [hI_ne]; exact m8, by simp (disch := omega) only [hI_ne, hI_at]⟩
    · rw [hup_I, hup_I, if_neg (show ¬ a = 107 by omega), if_neg (show ¬ a = 107 by omega)]; simp (disch := omega) only [hI_ne]
    · exact Skk_fr (h := uI (uI hm1 107 54 (nI (c + 1))) 133 W.length (nI (kkN v))) (Skk_push (Skk_fr m6 (fun i _ => hI_ne (by omega)))) (fun i _ => by simp (disch := omega) only [hI_ne]))
  have G := G (by
    have nz : ¬ kkN v = 0 := by omega
    refine ⟨by rw [List.nil_append, nop, if_neg nz]; omega, by omega, x3, by rw [List.nil_append, nop, if_neg nz]; simp only [List.length_cons]; omega, trivial, x6, fun x hx => ?_⟩
    rcases List.mem_cons.mp hx with rfl | hx
    · omega
    · exact x7 x hx)
  obtain ⟨hc', hm', k', v', s', q', a1, a2, a3, a4, a5, a6, a7, a8⟩ := G
  refine ⟨hc', hm', k', v', s', q', a1, ?_, a3, by rw [a4]; simp (disch := omega) only [hI_ne, hI_at], by rw [a5]; simp (disch := omega) only [hI_at], a6, a7, a8⟩
  have w1 := m_wf (h := uI hm1 107 54 (nI (c + 1))) (k := kkN v) (l := W.length) ((hI_ne (by omega)).trans m5) (by omega)
  have cnt := m_cntT m9 hc64
  have e217 : fX10_signs_217 hm1 (nI (kkN v)) = some (nI 1, hm') := by
    unfold fX10_signs_217
    simp (disch := omega) only [cnt, bnd_some, lit, eqF, ↓reduceIte, w1, bind_some', m_rank, g3]
    by_cases z : lv < 2
    · rw [if_pos z] at a2
      simp (disch := omega) only [leF, ↓reduceIte, fX10_signs_250, lit, isZ1, a2, bind_some']
    · rw [if_neg z] at a2
      simp (disch := omega) only [leT, ↓reduceIte, fX10_signs_250, lit, isZ0, a2, bind_some']
  rw [m_s47 K.2.1 K.2.2.1]
  unfold fX10_signs_147 fX10_signs_175
  by_cases z3 : lv = 3
  · rw [if_pos z3] at b1
    subst z3
    cases W with
    | nil =>
      have m5 : hI hm1 107 51 = nI 0 := m5
      simp (disch := omega) only [lit, eqF, ↓reduceIte, m_rank, g3, bnd_some, b1, bind_some', m5, leT]
      exact e217
    | cons x W =>
      have r1 := hw x rfl
      have r2 := x7 x (List.mem_cons_self ..)
      simp only [List.length_cons] at m5 lp
      have s1 : nI (W.length + 1) - nI 1 = nI W.length := by rw [pk_sub (by omega)]; rfl
      have m6 := m6.1
      simp (disch := omega) only [lit, eqF, ↓reduceIte, m_rank, g3, bnd_some, b1, bind_some', m5, leF, s1, inbN, nI_clamp, m6]
      exact e217
  · rw [if_neg z3] at b1
    simp (disch := omega) only [lit, eqF, ↓reduceIte, m_rank, g3, bnd_some, b1, bind_some']
    exact e217
/-- one sign too much -/
theorem j_signF {lv : Nat} (J : JS hc hm X w f p m P W 64 op b n 8 v s q) (hl : slN v = lv) (hr : ∀ x, x ∈ P → (if lv = 3 then 5 else lv + 1) ≤ rkN x) (hw : ∀ x, W.head? = some x → rkN x < lv + 1) : ∃ hm', fX10_signs hm = some (nI 0, hm') ∧ FLm f hm hm' ∧ hI hm' 107 4 = nI 2 ∧ hI hm' 107 5 = nI s := by
  obtain ⟨⟨j1, j2, j3, j4, j5⟩, K, ⟨c1, c2, c3, c4⟩, xm0, ⟨x1, x2, x3, x4, x5, x6, x7⟩⟩ := id J
  obtain ⟨-, -, -, -, k5, -⟩ := id K.2.2.1
  have k5 := k5 rfl
  obtain ⟨g1, g2, g3, g4, g5, g6⟩ := kk_f v (by omega) k5.2
  rw [hl] at g3 g5 g6
  obtain ⟨hm1, b1, b2, b3⟩ := j_bind J hr (fun x hx => by
    have := hw x hx
    split <;> omega) (by split <;> omega)
  obtain ⟨m1, m2, ⟨m3, m4⟩, ⟨m5, m6⟩, m8, m9⟩ := id b2
  rw [nop_app] at x1 x4
  have lp : (P ++ W).length = P.length + W.length := List.length_append
  have e10 : hI hm1 107 10 = nI s := (b3.1 _ _ (by omega)).trans K.2.1.2.1
  refine ⟨uI (uI hm1 107 4 (nI 2)) 107 5 (nI s), ?_, Fr.uI (Fr.uI b3.L (by omega)) (by omega), by rw [hI_ne (by omega), hI_at ⟨rfl, rfl⟩], hI_at ⟨rfl, rfl⟩⟩
  have e217 : fX10_signs_217 hm1 (nI (kkN v)) = some (nI 0, uI (uI hm1 107 4 (nI 2)) 107 5 (nI s)) := by
    unfold fX10_signs_217
    simp only [m_cntF m9 e10, bnd_some, lit, ↓reduceIte]
  rw [m_s47 K.2.1 K.2.2.1]
  unfold fX10_signs_147 fX10_signs_175
  by_cases z3 : lv = 3
  · rw [if_pos z3] at b1
    subst z3
    cases W with
    | nil =>
      have m5 : hI hm1 107 51 = nI 0 := m5
      simp (disch := omega) only [lit, eqF, ↓reduceIte, m_rank, g3, bnd_some, b1, bind_some', m5, leT]
      exact e217
    | cons x W =>
      have r1 := hw x rfl
      have r2 := x7 x (List.mem_cons_self ..)
      simp only [List.length_cons] at m5 lp
      have s1 : nI (W.length + 1) - nI 1 = nI W.length := by rw [pk_sub (by omega)]; rfl
      have m6 := m6.1
      simp (disch := omega) only [lit, eqF, ↓reduceIte, m_rank, g3, bnd_some, b1, bind_some', m5, leF, s1, inbN, nI_clamp, m6]
      exact e217
  · rw [if_neg z3] at b1
    simp (disch := omega) only [lit, eqF, ↓reduceIte, m_rank, g3, bnd_some, b1, bind_some']
    exact e217
/-- no sign that may stand here -/
theorem j_signB (J : JS hc hm X w f p m P W c op b n k v s q) (h7 : k = 7 → op = 0) (h8 : k = 8 → slN v = 3 ∧ ctp P) : ∃ hm', fX10_signs hm = some (nI 0, hm') ∧ FLm f hm hm' ∧ hI hm' 107 4 = nI 1 ∧ hI hm' 107 5 = nI s := by
  obtain ⟨⟨j1, j2, j3, j4, j5⟩, K, ⟨c1, c2, c3, c4⟩, xm0, ⟨x1, x2, x3, x4, x5, x6, x7⟩⟩ := id J
  by_cases q8 : k = 8
  · subst q8
    obtain ⟨hl, ct⟩ := h8 rfl
    obtain ⟨A, y, B, e, hA, hy⟩ := ctp_sp ct
    obtain ⟨-, -, -, -, k5, -⟩ := id K.2.2.1
    have k5 := k5 rfl
    obtain ⟨g1, g2, g3, g4, g5, g6⟩ := kk_f v (by omega) k5.2
    rw [hl] at g3
    have np := PCd_nop x5
    rw [nop_app] at x1 x4
    have lp : (P ++ W).length = P.length + W.length := List.length_append
    have lA : P.length = A.length + (B.length + 1) := by rw [e]; exact List.length_append
    have y15 : y < 15 := PCd_lt x5 y (by rw [e]; simp)
    have eW : P ++ W = A ++ (y :: B ++ W) := by rw [e, List.append_assoc]
    rw [eW] at xm0 lp x4
    obtain ⟨hm1, b1, b2, b3⟩ := m_bindP (r := 5) A m hm FU xm0 (PCd_pre (by rw [← e]; exact x5)) (fun j hj => x6 j (by omega)) (by omega) (by omega) hA (by unfold FU; omega) (fun x hx => by
      have : x = y := (Option.some.inj hx).symm
      rw [this]; omega) (by decide)
    obtain ⟨m1, m2, ⟨m3, m4⟩, ⟨m5, m6⟩, m8, m9⟩ := id b2
    have e10 : hI hm1 107 10 = nI s := (b3.1 _ _ (by omega)).trans K.2.1.2.1
    refine ⟨uI (uI hm1 107 4 (nI 1)) 107 5 (nI s), ?_, Fr.uI (Fr.uI b3.L (by omega)) (by omega), by rw [hI_ne (by omega), hI_at ⟨rfl, rfl⟩], hI_at ⟨rfl, rfl⟩⟩
    have m6 : hI hm1 133 (B ++ W).length = nI y := m6.1
    have m5 : hI hm1 107 51 = nI ((B ++ W).length + 1) := m5
    have l2 : (B ++ W).length = B.length + W.length := List.length_append
    have s1 : nI ((B ++ W).length + 1) - nI 1 = nI (B ++ W).length := by rw [pk_sub (by omega)]; rfl
    have b1 : fX10_bind hm (nI 5) = some hm1 := b1
    rw [m_s47 K.2.1 K.2.2.1]
    unfold fX10_signs_147 fX10_signs_175
    simp (disch := omega) only [lit, eqF, ↓reduceIte, m_rank, g3, bnd_some, b1, bind_some', m5, leF, s1, inbN, nI_clamp, m6, hy, m_wrong, e10, isZ0]
  · refine ⟨uI (uI hm 107 4 (nI 1)) 107 5 (nI s), ?_, (Fr.rf.uI (by omega)).uI (by omega), by rw [hI_ne (by omega), hI_at ⟨rfl, rfl⟩], hI_at ⟨rfl, rfl⟩⟩
    have wk := K.2.2.1
    have m8 := K.2.1.1
    have m10 := K.2.1.2.1
    obtain ⟨k9, -, k3, -⟩ := id wk
    have nk : ¬ (kM k v = 1 ∧ wM k v = 13) ∧ ¬ (kM k v = 1 ∧ wM k v = 14) ∧ kM k v ≠ 5 ∧ ¬ (kM k v = 4 ∧ wM k v = 43) ∧ ¬ (kM k v = 4 ∧ wM k v = 45) ∧ ¬ (kM k v = 4 ∧ wM k v = 42) ∧ ¬ (kM k v = 4 ∧ wM k v = 47) := by
      rcases (by omega : k = 0 ∨ k = 1 ∨ k = 2 ∨ k = 3 ∨ k = 4 ∨ k = 5 ∨ k = 6 ∨ k = 7) with rfl | rfl | rfl | rfl | rfl | rfl | rfl | rfl
      · exact ⟨fun z => absurd z.1 (by show ¬ 0 = 1; decide), fun z => absurd z.1 (by show ¬ 0 = 1; decide), by show 0 ≠ 5; decide, fun z => absurd z.1 (by show ¬ 0 = 4; decide), fun z => absurd z.1 (by show ¬ 0 = 4; decide), fun z => absurd z.1 (by show ¬ 0 = 4; decide), fun z => absurd z.1 (by show ¬ 0 = 4; decide)⟩
      · have e1 : wM 1 v = 37 := rfl
        have e2 : kM 1 v = if v = 37 then 4 else 6 := rfl
        rw [e1, e2]
        split <;> decide
      · exact ⟨fun z => absurd z.1 (by show ¬ 2 = 1; decide), fun z => absurd z.1 (by show ¬ 2 = 1; decide), by show 2 ≠ 5; decide, fun z => absurd z.1 (by show ¬ 2 = 4; decide), fun z => absurd z.1 (by show ¬ 2 = 4; decide), fun z => absurd z.1 (by show ¬ 2 = 4; decide), fun z => absurd z.1 (by show ¬ 2 = 4; decide)⟩
      · have k3 := k3 rfl
        have e1 : wM 3 v = v := rfl
        exact ⟨fun z => k3.2.1 (e1.symm.trans z.2), fun z => k3.2.2 (e1.symm.trans z.2), by show 1 ≠ 5; decide, fun z => absurd z.1 (by show ¬ 1 = 4; decide), fun z => absurd z.1 (by show ¬ 1 = 4; decide), fun z => absurd z.1 (by show ¬ 1 = 4; decide), fun z => absurd z.1 (by show ¬ 1 = 4; decide)⟩
      · exact ⟨fun z => absurd z.1 (by show ¬ 3 = 1; decide), fun z => absurd z.1 (by show ¬ 3 = 1; decide), by show 3 ≠ 5; decide, fun z => absurd z.1 (by show ¬ 3 = 4; decide), fun z => absurd z.1 (by show ¬ 3 = 4; decide), fun z => absurd z.1 (by show ¬ 3 = 4; decide), fun z => absurd z.1 (by show ¬ 3 = 4; decide)⟩
      · exact ⟨fun z => absurd z.1 (by show ¬ 4 = 1; decide), fun z => absurd z.1 (by show ¬ 4 = 1; decide), by show 4 ≠ 5; decide, fun z => absurd z.2 (by show ¬ 59 = 43; decide), fun z => absurd z.2 (by show ¬ 59 = 45; decide), fun z => absurd z.2 (by show ¬ 59 = 42; decide), fun z => absurd z.2 (by show ¬ 59 = 47; decide)⟩
      · exact ⟨fun z => absurd z.1 (by show ¬ 4 = 1; decide), fun z => absurd z.1 (by show ¬ 4 = 1; decide), by show 4 ≠ 5; decide, fun z => absurd z.2 (by show ¬ 40 = 43; decide), fun z => absurd z.2 (by show ¬ 40 = 45; decide), fun z => absurd z.2 (by show ¬ 40 = 42; decide), fun z => absurd z.2 (by show ¬ 40 = 47; decide)⟩
      · exact ⟨fun z => absurd z.1 (by show ¬ 4 = 1; decide), fun z => absurd z.1 (by show ¬ 4 = 1; decide), by show 4 ≠ 5; decide, fun z => absurd z.2 (by show ¬ 41 = 43; decide), fun z => absurd z.2 (by show ¬ 41 = 45; decide), fun z => absurd z.2 (by show ¬ 41 = 42; decide), fun z => absurd z.2 (by show ¬ 41 = 47; decide)⟩
    obtain ⟨n1, n2, n3, n4, n5, n6, n7⟩ := nk
    have kl := kM_lt k v
    have k13 : fX10_isKey hm (nI 13) = some (nI 0, hm) := by rw [m_isK K.2.1 wk (by decide), if_neg n1]
    have k14 : fX10_isKey hm (nI 14) = some (nI 0, hm) := by rw [m_isK K.2.1 wk (by decide), if_neg n2]
    have s43 : fX10_isSign hm (nI 43) = some (nI 0, hm) := by rw [m_isS K.2.1 wk (by decide), if_neg n4]
    have s45 : fX10_isSign hm (nI 45) = some (nI 0, hm) := by rw [m_isS K.2.1 wk (by decide), if_neg n5]
    have s42 : fX10_isSign hm (nI 42) = some (nI 0, hm) := by rw [m_isS K.2.1 wk (by decide), if_neg n6]
    have s47 : fX10_isSign hm (nI 47) = some (nI 0, hm) := by rw [m_isS K.2.1 wk (by decide), if_neg n7]
    have e47 : fX10_signs_47 hm = some (nI 0, uI (uI hm 107 4 (nI 1)) 107 5 (nI s)) := by
      unfold fX10_signs_47
      rw [lit 13, k13, bnd_some, lit 14, k14]
      have k5n : ¬ (nI (kM k v) = nI 5) := fun y => n3 (nI_inj (by omega) (by decide) y)
      simp only [lit, ↓reduceIte, bnd_some, m8, k5n, s43, s45, s42, s47]
      unfold fX10_signs_147
      simp only [lit, ↓reduceIte, m_wrong, m10, bnd_some, isZ0]
    unfold fX10_signs
    rw [lit 41, m_isS K.2.1 wk (by decide), bnd_some]
    by_cases z : kM k v = 4 ∧ wM k v = 41
    · rw [if_pos z]
      have k7 : k = 7 := by
        rcases (by omega : k = 0 ∨ k = 1 ∨ k = 2 ∨ k = 3 ∨ k = 4 ∨ k = 5 ∨ k = 6 ∨ k = 7) with rfl | rfl | rfl | rfl | rfl | rfl | rfl | rfl
        · exact absurd z.1 (by show ¬ 0 = 4; decide)
        · exact absurd z.2 (by show ¬ 37 = 41; decide)
        · exact absurd z.1 (by show ¬ 2 = 4; decide)
        · exact absurd z.1 (by show ¬ 1 = 4; decide)
        · exact absurd z.1 (by show ¬ 3 = 4; decide)
        · exact absurd z.2 (by show ¬ 59 = 41; decide)
        · exact absurd z.2 (by show ¬ 40 = 41; decide)
        · rfl
      have m53 := xm0.2.2.2.2.1
      rw [h7 k7] at m53
      simp (disch := omega) only [lit, eqF, ↓reduceIte, m53, leT]
      exact e47
    · rw [if_neg z]
      simp only [lit, ↓reduceIte]
      exact e47
end V
