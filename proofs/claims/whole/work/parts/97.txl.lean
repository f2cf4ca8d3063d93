/-! text: nots, and all levels of a sum. -/
theorem nop_rep : ∀ d, nop (List.replicate d 2) = d
  | 0 => rfl
  | d + 1 => by rw [List.replicate_succ, nop, nop_rep d]; rfl
section V
variable {X w f n dp : Nat} {b : Nat → Nat}
theorem j_d42 {op : Nat} {W : List Nat} (ih : JAt X w f b n dp) (o8 : op ≤ 8) (hd : 7 * (8 - op) + (6 - 3) + 2 ≤ dp) (hw : ∀ x, W.head? = some x → rkN x < 2 + 1) {d : Nat} {hc hm : Hp} {p : Nat → Nat} {m c k v s q fu : Nat} (hdc : d ≤ 65) (J : JS hc hm X w f p m [] (List.replicate d 2 ++ W) c op b n k v s q) (h55 : hI hm 107 55 = nI 1) (h56 : hI hm 107 56 = nI 1) (z : ¬ (k = 3 ∧ v = 15)) (hf : n - s < fu) : ∃ hc', fX5_denied_42 (fX5_joinedAt_d dp) hc (nI op) (nI d) = some hc' ∧ FLc X w hc hc' ∧ JRes (fX10_sumRead_25 fu hm) hm hc' X w f p m W c op b n s 2 := by
  obtain ⟨⟨j1, j2, j3, j4, j5⟩, K, xc, xm, xa⟩ := id J
  have xx : X = 1 ∨ X = 35 := j1
  obtain ⟨hc1, e1, e2, e3⟩ := ih 3 op hc hm p m (List.replicate d 2 ++ W) c k v s q fu (by decide) o8 hd J h55 ⟨fun y => absurd y (by decide), Or.inr ⟨h56, fun _ => z⟩⟩ (fun x hx => by
    cases d with
    | zero => have := hw x hx; omega
    | succ d =>
      have : x = 2 := (Option.some.inj hx).symm
      rw [this]; decide) hf
  have hr1 : hR hc1 69 5 = some (X + 25 + 3 * w) := by rw [e2.2.2]; exact xc.1
  unfold fX5_denied_42
  simp only [lit, e1, bind_some']
  rcases e3 with ⟨hm', r1, r2, r3, M, r4, r5⟩ | ⟨hm', fu', r1, r2, p', m', P, c', k', v', s', q', t1, t2, t3, t4, t5, t6, t7, t8, t9, t10⟩
  · obtain ⟨hc2, u1, u2, u3, u4⟩ := x_d50I (slf := fX5_joinedAt_d dp) j1 j2 (d := d) (by omega) d 0 FU M hc1 (by omega) (by unfold FU; omega) hr1 r5 r4
    refine ⟨hc2, u1, Fr.tr e2 u2, Or.inl ⟨hm', r1, r2, ?_, u4⟩⟩
    obtain ⟨e, y1, y2, y3, y4, y5⟩ := r3
    exact ⟨e, y1, y2, (u3 _).trans y3, y4, (u3 _).trans y5⟩
  · obtain ⟨⟨i1, i2, i3, i4, i5⟩, K2, xc2, xm2, ⟨z1, z2, z3, z4, z5, z6, z7⟩⟩ := id t2
    have np := PCd_nop z5
    have nr := nop_rep d
    have z1' := z1
    rw [nop_app, nop_app] at z1'
    obtain ⟨hc2, u1, u2, u3, u4⟩ := x_d50T (slf := fX5_joinedAt_d dp) (c := c') j1 j2 (d := d) (by omega) (p := p') (M := m' + P.length) (by omega) d 0 FU hc1 (by omega) (by unfold FU; omega) xc2
    have lr : (List.replicate d 2).length = d := List.length_replicate
    have lq : (P ++ List.replicate d 2).length = P.length + d := by rw [List.length_append, lr]
    have eq1 : P ++ (List.replicate d 2 ++ W) = (P ++ List.replicate d 2) ++ W := (List.append_assoc ..).symm
    refine ⟨hc2, u1, Fr.tr e2 u2, Or.inr ⟨hm', fu', r1, r2, pNt p' (m' + P.length) d, m', P ++ List.replicate d 2, c', k', v', s', q', t1, ⟨⟨i1, i2, (u2.2.2 _ _).trans i3, ?_, (u3 _).trans i5⟩, TK_c K2 u3, ?_, ?_, ?_⟩, t3, fun j hj => (pNt_lt (by omega)).trans (t4 j hj), ?_, by omega, ?_, ?_, t9, t10⟩⟩
    · exact RTp_fr i4 (fun i _ => u3 i) (fun i => u2.1 _ _ (by omega)) (fun i => u2.1 _ _ (by omega)) (fun _ _ => rfl) (fun _ => rfl) (fun _ => rfl)
    · rw [lq, ← Nat.add_assoc]; exact u4
    · rw [← eq1]; exact XM_ex (fun i hi => pNt_lt (by omega)) xm2
    · refine ⟨by rw [← eq1]; exact z1, z2, z3, by rw [← eq1]; exact z4, ?_, ?_, fun x hx => z7 x (List.mem_append.mpr (Or.inr hx))⟩
      · exact PCd_app (PCd_ext z5 (fun j hj => pNt_lt hj)) (PCd_rep (fun j h1 h2 => pNt_in h1 h2))
      · intro j hj
        rw [lq, ← Nat.add_assoc] at hj
        exact pNt_K z6 (by omega) j hj
    · rw [lq, ← Nat.add_assoc, pNt_d, t5]
    · intro x hx
      rcases List.mem_append.mp hx with hx | hx
      · have := t7 x hx; omega
      · rw [List.eq_of_mem_replicate hx]; decide
    · intro y
      have k5 := K2.2.2.1.2.2.2.2.1 y
      have := (kk_f v' (by omega) k5.2).2.2.2.2.1
      rcases t8 y with y1 | y1
      · exact Or.inl (by omega)
      · exact Or.inr ⟨y1.1, by decide, ctp_app y1.2.2⟩
theorem j_den {op : Nat} {W : List Nat} (ih : JAt X w f b n dp) (o8 : op ≤ 8) (hd : 7 * (8 - op) + (6 - 3) + 2 ≤ dp) (hw : ∀ x, W.head? = some x → rkN x < 2 + 1) : ∀ (r d fuC : Nat) (hc hm : Hp) (p : Nat → Nat) (m c k v s q fu : Nat), c + r = 64 → r + 1 < fuC → d ≤ c → JS hc hm X w f p m [] (List.replicate d 2 ++ W) c op b n k v s q → hI hm 107 55 = nI 1 → hI hm 107 56 = nI 1 → n - s < fu → ∃ hc', fX5_denied_2 fuC (fX5_joinedAt_d dp) hc (nI op) (nI d) = some hc' ∧ FLc X w hc hc' ∧ JRes (fX10_sumRead_25 fu hm) hm hc' X w f p m W c op b n s 2 := by
  intro r
  induction r with
  | zero =>
    intro d fuC hc hm p m c k v s q fu hcr hfC hdc J h55 h56 hf
    obtain ⟨fuC, rfl⟩ : ∃ g, fuC = g + 1 + 1 := ⟨fuC - 2, by omega⟩
    obtain ⟨⟨j1, j2, j3, j4, j5⟩, K, xc, xm, xa⟩ := id J
    have xx : X = 1 ∨ X = 35 := j1
    obtain ⟨c7, c8, c6, -, c11, -, -⟩ := K.1
    by_cases z : k = 3 ∧ v = 15
    · obtain ⟨rfl, rfl⟩ := z
      have c0 : c = 64 := by omega
      subst c0
      have c11 := c11 rfl
      obtain ⟨fu, rfl⟩ : ∃ g, fu = g + 1 := ⟨fu - 1, by omega⟩
      obtain ⟨dp, rfl⟩ : ∃ g, dp = g + 1 := ⟨dp - 1, by omega⟩
      obtain ⟨b1, b2⟩ := j_bad J (e := 2) (by decide) (by decide) (hm' := uI (uI hm 107 4 (nI 2)) 107 5 (nI s)) (by rw [hI_ne (by omega), hI_at ⟨rfl, rfl⟩]) (hI_at ⟨rfl, rfl⟩) Fr.rf rfl
      have kf := x_knotF j1 j3 j5 c8 xc.2.2.2
      have i14 : hI (uI (uI hc 69 14 (nI 2)) 69 15 (nI s)) 69 14 = nI 2 := by rw [hI_ne (by omega), hI_at ⟨rfl, rfl⟩]
      obtain ⟨y0, M, y1, y2⟩ := b1
      obtain ⟨hc2, u1, u2, u3, u4⟩ := x_d50I (slf := fX5_joinedAt_d (dp + 1)) j1 j2 (d := d + 1) (by omega) (d + 1) 0 FU M _ (by omega) (by unfold FU; omega) (show hR (uI (uI hc 69 14 (nI 2)) 69 15 (nI s)) 69 5 = _ from xc.1) y2 y1
      have e42 : fX5_denied_42 (fX5_joinedAt_d (dp + 1)) (uI (uI hc 69 14 (nI 2)) 69 15 (nI s)) (nI op) (nI (d + 1)) = some hc2 := by
        unfold fX5_denied_42
        simp only [lit, x_jI i14 (by decide) (by decide), bind_some']
        exact u1
      refine ⟨hc2, ?_, Fr.tr b2 u2, Or.inl ⟨uI (uI hm 107 4 (nI 2)) 107 5 (nI s), ?_, (Fr.rf.uI (by omega)).uI (by omega), ?_, u4⟩⟩
      · rw [fX5_denied_2]
        simp (disch := omega) only [lit, ltF, ↓reduceIte, j5, c7, c11, kf, bind_some', nI_add]
        rw [fX5_denied_2, e42]
        by_cases y : 64 < d + 1
        · simp (disch := omega) only [lit, ltT, ↓reduceIte]
        · simp (disch := omega) only [lit, ltF, ↓reduceIte, i14, eqF]
      · have s40 : fX10_isSign hm (nI 40) = some (nI 0, hm) := m_isS K.2.1 K.2.2.1 (by decide)
        have k15 : fX10_isKey hm (nI 15) = some (nI 1, hm) := m_isK K.2.1 K.2.2.1 (by decide)
        rw [m_srL h55 K]
        unfold fX10_leafRead
        rw [lit 40, s40, bnd_some]
        simp only [lit, ↓reduceIte]
        rw [k15, bnd_some]
        simp (disch := omega) only [eqF, ↓reduceIte, h56, m_cntF xm.2.2.2.2.2 K.2.1.2.1, bnd_some]
      · obtain ⟨e, y1, y2, y3, y4, y5⟩ := y0
        exact ⟨e, y1, y2, (u3 _).trans y3, y4, (u3 _).trans y5⟩
    · obtain ⟨hc', a1, a2, a3⟩ := j_d42 ih o8 hd hw (d := d) (fu := fu) (by omega) J h55 h56 z hf
      refine ⟨hc', ?_, a2, a3⟩
      rw [← a1, fX5_denied_2]
      by_cases y : k = 3
      · subst y
        have c11 := c11 rfl
        have v23 := (K.2.2.1.2.2.1 rfl).1
        have v15 : v ≠ 15 := fun y => z ⟨rfl, y⟩
        simp (disch := omega) only [lit, ltF, ↓reduceIte, j5, c7, c11, eqF]
      · have := K.2.2.1.1
        simp (disch := omega) only [lit, ltF, ↓reduceIte, j5, c7, eqF]
  | succ r ihr =>
    intro d fuC hc hm p m c k v s q fu hcr hfC hdc J h55 h56 hf
    obtain ⟨fuC, rfl⟩ : ∃ g, fuC = g + 1 := ⟨fuC - 1, by omega⟩
    obtain ⟨⟨j1, j2, j3, j4, j5⟩, K, xc, xm, xa⟩ := id J
    obtain ⟨c7, c8, c6, -, c11, -, -⟩ := K.1
    by_cases z : k = 3 ∧ v = 15
    · obtain ⟨rfl, rfl⟩ := z
      have c11 := c11 rfl
      have lsq := K.2.2.2.2.2.1 (by decide)
      have qn := K.2.2.2.2.1
      obtain ⟨fu, rfl⟩ : ∃ g, fu = g + 1 := ⟨fu - 1, by omega⟩
      obtain ⟨hc1, hm1, k1, v1, s1, q1, a1, a2, a3, a4, a5, a6, a7, a8⟩ := j_not J (by omega)
      obtain ⟨hc2, b1, b2, b3⟩ := ihr (d + 1) fuC hc1 hm1 p m (c + 1) k1 v1 s1 q1 fu (by omega) (by omega) (by omega) a3 (a4.trans h55) (a5.trans h56) (by omega)
      have kt := (x_knotT j1 j3 j5 xc.2.2.2 (by omega)).trans a1
      have lw := J.m64.2.2.2.2
      have m51 : hI hm 107 51 = nI (List.replicate d 2 ++ W).length := xm.2.2.2.1.1
      have wf := m_wf (h := uI hm 107 54 (nI (c + 1))) (k := 2) ((hI_ne (by omega)).trans m51) (by simp only [List.length_nil, Nat.zero_add] at lw; omega)
      have sr : fX10_sumRead_25 (fu + 1) hm = fX10_sumRead_25 fu hm1 := by
        have s40 : fX10_isSign hm (nI 40) = some (nI 0, hm) := m_isS K.2.1 K.2.2.1 (by decide)
        have k15 : fX10_isKey hm (nI 15) = some (nI 1, hm) := m_isK K.2.1 K.2.2.1 (by decide)
        have ct := m_cntT xm.2.2.2.2.2 (show c < 64 by omega)
        rw [m_srL h55 K]
        unfold fX10_leafRead
        rw [lit 40, s40, bnd_some]
        simp only [lit, ↓reduceIte]
        rw [k15, bnd_some]
        simp (disch := omega) only [eqF, ↓reduceIte, h56, ct, bnd_some, wf, bind_some', a2]
      refine ⟨hc2, ?_, Fr.tr a7 b2, ?_⟩
      · rw [fX5_denied_2]
        simp (disch := omega) only [lit, ltF, ↓reduceIte, j5, c7, c11, kt, bind_some', nI_add]
        exact b1
      · rw [sr]
        rcases b3 with ⟨hm2, t1, t2, t3⟩ | ⟨hm2, fu2, t1, t2, p2, m2, P2, c2, k2, v2, s2, q2, g1, g2, g3, g4, g5, g6, g7, g8, g9, g10⟩
        · exact Or.inl ⟨hm2, t1, Fr.tr a8 t2, t3⟩
        · exact Or.inr ⟨hm2, fu2, t1, Fr.tr a8 t2, p2, m2, P2, c2, k2, v2, s2, q2, g1, g2, g3, g4, g5, g6, g7, g8, by omega, by omega⟩
    · obtain ⟨hc', a1, a2, a3⟩ := j_d42 ih o8 hd hw (d := d) (fu := fu) (by omega) J h55 h56 z hf
      refine ⟨hc', ?_, a2, a3⟩
      rw [← a1, fX5_denied_2]
      by_cases y : k = 3
      · subst y
        have c11 := c11 rfl
        have v23 := (K.2.2.1.2.2.1 rfl).1
        have v15 : v ≠ 15 := fun y => z ⟨rfl, y⟩
        simp (disch := omega) only [lit, ltF, ↓reduceIte, j5, c7, c11, eqF]
      · have := K.2.2.1.1
        simp (disch := omega) only [lit, ltF, ↓reduceIte, j5, c7, eqF]
end V
theorem j_all (X w f : Nat) (b : Nat → Nat) (n : Nat) : ∀ dp, JAt X w f b n dp
  | 0 => fun lv op hc hm p m W c k v s q fu _ _ hd => by omega
  | dp + 1 => by
    intro lv op hc hm p m W c k v s q fu hl o8 hd J h55 mn hw hf
    have ih := j_all X w f b n dp
    obtain ⟨⟨j1, j2, j3, j4, j5⟩, K, xc, xm, xa⟩ := id J
    have c64 := J.m64
    rw [fX5_joinedAt_d]
    unfold fX5_joinedAt_s
    by_cases l6 : lv = 6
    · subst l6
      obtain ⟨hc', a1, a2, a3⟩ := j_part (fu := fu) ih o8 (by omega) J h55 mn hf
      refine ⟨hc', ?_, a2, a3⟩
      simp (disch := omega) only [lit, j5, ↓reduceIte, leT, ltF, a1, bind_some']
    · by_cases l2 : lv = 2
      · subst l2
        obtain ⟨hc', a1, a2, a3⟩ := j_den ih o8 (by omega) hw (64 - c) 0 FU hc hm p m c k v s q fu (by omega) (by unfold FU; omega) (by omega) J h55 (mn.1 (by decide)) hf
        refine ⟨hc', ?_, a2, a3⟩
        simp (disch := omega) only [lit, j5, ↓reduceIte, leT, ltT, fX5_denied, a1, bind_some']
      · obtain ⟨hc1, e1, e2, e3⟩ := ih (lv + 1) op hc hm p m W c k v s q fu (by omega) o8 (by omega) J h55 ⟨fun y => mn.1 (by omega), by
          rcases mn.2 with y | y
          · exact Or.inl y
          · exact Or.inr ⟨y.1, fun y2 => y.2 (by omega)⟩⟩ (fun x hx => by have := hw x hx; omega) hf
        have nl : ¬ (nI lv = nI 2) := fun y => l2 (nI_inj (by omega) (by decide) y)
        simp (disch := omega) only [lit, j5, ↓reduceIte, leT, ltT, nl, nI_add, e1, bind_some']
        rcases e3 with ⟨hm', r1, r2, r3⟩ | ⟨hm', fu', r1, r2, p', m', P, c', k', v', s', q', t1, t2, t3, t4, t5, t6, t7, t8, t9, t10⟩
        · obtain ⟨e, y1, y2, y3, -⟩ := id r3.1
          refine ⟨hc1, ?_, e2, Or.inl ⟨hm', r1, r2, r3⟩⟩
          have st : ∀ mx, 1 ≤ mx → mx ≤ 64 → fX5_joinedAt_60 (fX5_joinedAt_d dp) hc1 (nI lv) (nI op) (nI mx) = some hc1 := fun mx h1 h2 => by
            unfold fX5_joinedAt_60
            rw [show FU = 99999 + 1 from rfl, fX5_joinedAt_64]
            simp (disch := omega) only [lit, leF, ↓reduceIte, y3, eqF]
          rw [st 1 (by decide) (by decide), st 64 (by decide) (by decide)]
          split <;> rfl
        · have fin : ∀ hc2, FLc X w hc1 hc2 → JLp (fX10_sumRead_25 fu' hm') hm' hc2 X w f p' (m' + P.length) W c' op b n s' lv → FLc X w hc hc2 ∧ JRes (fX10_sumRead_25 fu hm) hm hc2 X w f p m W c op b n s lv := fun hc2 h1 h2 => by
            refine ⟨Fr.tr e2 h1, ?_⟩
            rw [r1]
            rcases h2 with ⟨hm2, y1, y2, y3⟩ | ⟨hm2, fu2, p2, m2, P2, c2, k2, v2, s2, q2, y1, y2, y3, y4, y5, y6, y7, y8, y9, y10, y11, y12⟩
            · exact Or.inl ⟨hm2, y1, Fr.tr r2 y2, y3⟩
            · exact Or.inr ⟨hm2, fu2, y1, Fr.tr r2 y2, p2, m2, P2, c2, k2, v2, s2, q2, y3, y4, y5, fun j hj => (y6 j (by omega)).trans (t4 j hj), y7.trans t5, by omega, y9, y10, by omega, by omega⟩
          by_cases l3 : lv = 3
          · subst l3
            obtain ⟨hc2, a1, a2, a3⟩ := j_loop3 ih o8 (by omega) hw hc1 hm' p' m' P c' k' v' s' q' fu' t2 t3 (fun x hx => t7 x hx) (by omega) (fun y => by
              rcases t8 y with y1 | y1
              · exact y1
              · exact absurd y1.2.1 (by decide)) t1
            obtain ⟨f1, f2⟩ := fin hc2 a2 a3
            refine ⟨hc2, ?_, f1, f2⟩
            simp only [↓reduceIte, fX5_joinedAt_60, lit]
            exact a1
          · obtain ⟨hc2, a1, a2, a3⟩ := j_loop ih (by omega) l2 l3 o8 (by omega) hw 64 0 FU hc1 hm' p' m' P c' k' v' s' q' fu' rfl (by decide) (by omega) t2 t3 (fun x hx => by have := t7 x hx; omega) (by omega) t8 t1
            obtain ⟨f1, f2⟩ := fin hc2 a2 a3
            refine ⟨hc2, ?_, f1, f2⟩
            have n3 : ¬ (nI lv = nI 3) := fun y => l3 (nI_inj (by omega) (by decide) y)
            simp only [n3, ↓reduceIte, fX5_joinedAt_60, lit]
            exact a1
