/-! text: every line, the loop over lines (printed by gen_line.py). -/
section V
variable {hc hm : Hp} {X : Nat} {T : Tx} {b : Nat → Nat} {n k v s q : Nat}
theorem s_line (R : RD hc hm X T b n) (Q : RQ hc hm X) (K : TK hc hm n k v s q) (hk : k ≠ 0) : ∃ hc' y hm', fX5_line hc = some hc' ∧ fX10_lineRead hm = some (y, hm') ∧ LN hc hm hc' y hm' X b n s := by
  have x0 : X = 1 ∨ X = 35 := R.1.1
  have lsq := K.2.2.2.2.2.1 hk
  have wk := K.2.2.1
  have k9 := wk.1
  have m8 := K.2.1.1
  have m9 := K.2.1.2.2.2
  have m10 := K.2.1.2.1
  have h14 := R.1.2.2.2
  obtain ⟨c7, c8, -, -, c11, -, -⟩ := K.1
  by_cases z : k = 3 ∧ v ≤ 9
  · obtain ⟨rfl, v9⟩ := z
    have c11 := c11 rfl
    have m8 : hI hm 107 8 = nI 1 := m8
    have m9 : hI hm 107 9 = nI v := m9 (Or.inl (by decide))
    rcases (by omega : v = 0 ∨ v = 1 ∨ v = 2 ∨ v = 3 ∨ v = 4 ∨ v = 5 ∨ v = 6 ∨ v = 7 ∨ v = 8 ∨ v = 9) with rfl | rfl | rfl | rfl | rfl | rfl | rfl | rfl | rfl | rfl
    · obtain ⟨hc1, y1, hm1, a1, a2, a3⟩ := l_claim R K
      obtain ⟨hc2, y2, hm2, b1, b2, b3⟩ := l_end (s := s) a3 lsq
      refine ⟨hc2, y2, hm2, ?_, ?_, b3⟩
      · unfold fX5_line
        rw [if_pos (show hI hc 69 7 = (3 : Int32) from c7), c11]
        unfold fX5_line_16
        rw [if_pos (show inT (nI 0) 0 9 = true by decide), if_pos (show nI 0 = (0 : Int32) from rfl)]
        rw [a1, bind_some']; exact b1
      · unfold fX10_lineRead
        rw [if_pos (show hI hm 107 8 = (1 : Int32) from m8), m9, if_pos (show nI 0 ≤ (9 : Int32) by decide), if_pos (show inT (nI 0) 0 8 = true by decide), if_pos (show nI 0 = (0 : Int32) from rfl)]
        rw [a2, bnd_some]; exact b2
    · obtain ⟨hc1, y1, hm1, a1, a2, a3⟩ := l_contra R K
      obtain ⟨hc2, y2, hm2, b1, b2, b3⟩ := l_end (s := s) a3 lsq
      refine ⟨hc2, y2, hm2, ?_, ?_, b3⟩
      · unfold fX5_line
        rw [if_pos (show hI hc 69 7 = (3 : Int32) from c7), c11]
        unfold fX5_line_16
        rw [if_pos (show inT (nI 1) 0 9 = true by decide), if_neg (show ¬ nI 1 = (0 : Int32) by decide), if_pos (show nI 1 = (1 : Int32) from rfl)]
        rw [a1, bind_some']; exact b1
      · unfold fX10_lineRead
        rw [if_pos (show hI hm 107 8 = (1 : Int32) from m8), m9, if_pos (show nI 1 ≤ (9 : Int32) by decide), if_pos (show inT (nI 1) 0 8 = true by decide), if_neg (show ¬ nI 1 = (0 : Int32) by decide), if_pos (show nI 1 = (1 : Int32) from rfl)]
        rw [a2, bnd_some]; exact b2
    · obtain ⟨hc1, y1, hm1, a1, a2, a3⟩ := l_straw R K
      obtain ⟨hc2, y2, hm2, b1, b2, b3⟩ := l_end (s := s) a3 lsq
      refine ⟨hc2, y2, hm2, ?_, ?_, b3⟩
      · unfold fX5_line
        rw [if_pos (show hI hc 69 7 = (3 : Int32) from c7), c11]
        unfold fX5_line_16
        rw [if_pos (show inT (nI 2) 0 9 = true by decide), if_neg (show ¬ nI 2 = (0 : Int32) by decide), if_neg (show ¬ nI 2 = (1 : Int32) by decide), if_pos (show nI 2 = (2 : Int32) from rfl)]
        rw [a1, bind_some']; exact b1
      · unfold fX10_lineRead
        rw [if_pos (show hI hm 107 8 = (1 : Int32) from m8), m9, if_pos (show nI 2 ≤ (9 : Int32) by decide), if_pos (show inT (nI 2) 0 8 = true by decide), if_neg (show ¬ nI 2 = (0 : Int32) by decide), if_neg (show ¬ nI 2 = (1 : Int32) by decide), if_pos (show nI 2 = (2 : Int32) from rfl)]
        rw [a2, bnd_some]; exact b2
    · obtain ⟨hc1, y1, hm1, a1, a2, a3⟩ := l_member R K
      obtain ⟨hc2, y2, hm2, b1, b2, b3⟩ := l_end (s := s) a3 lsq
      refine ⟨hc2, y2, hm2, ?_, ?_, b3⟩
      · unfold fX5_line
        rw [if_pos (show hI hc 69 7 = (3 : Int32) from c7), c11]
        unfold fX5_line_16
        rw [if_pos (show inT (nI 3) 0 9 = true by decide), if_neg (show ¬ nI 3 = (0 : Int32) by decide), if_neg (show ¬ nI 3 = (1 : Int32) by decide), if_neg (show ¬ nI 3 = (2 : Int32) by decide), if_pos (show nI 3 = (3 : Int32) from rfl)]
        rw [a1, bind_some']; exact b1
      · unfold fX10_lineRead
        rw [if_pos (show hI hm 107 8 = (1 : Int32) from m8), m9, if_pos (show nI 3 ≤ (9 : Int32) by decide), if_pos (show inT (nI 3) 0 8 = true by decide), if_neg (show ¬ nI 3 = (0 : Int32) by decide), if_neg (show ¬ nI 3 = (1 : Int32) by decide), if_neg (show ¬ nI 3 = (2 : Int32) by decide), if_pos (show nI 3 = (3 : Int32) from rfl)]
        rw [a2, bnd_some]; exact b2
    · obtain ⟨hc1, y1, hm1, a1, a2, a3⟩ := l_hold R K
      obtain ⟨hc2, y2, hm2, b1, b2, b3⟩ := l_end (s := s) a3 lsq
      refine ⟨hc2, y2, hm2, ?_, ?_, b3⟩
      · unfold fX5_line
        rw [if_pos (show hI hc 69 7 = (3 : Int32) from c7), c11]
        unfold fX5_line_16
        rw [if_pos (show inT (nI 4) 0 9 = true by decide), if_neg (show ¬ nI 4 = (0 : Int32) by decide), if_neg (show ¬ nI 4 = (1 : Int32) by decide), if_neg (show ¬ nI 4 = (2 : Int32) by decide), if_neg (show ¬ nI 4 = (3 : Int32) by decide), if_pos (show nI 4 = (4 : Int32) from rfl)]
        rw [a1, bind_some']; exact b1
      · unfold fX10_lineRead
        rw [if_pos (show hI hm 107 8 = (1 : Int32) from m8), m9, if_pos (show nI 4 ≤ (9 : Int32) by decide), if_pos (show inT (nI 4) 0 8 = true by decide), if_neg (show ¬ nI 4 = (0 : Int32) by decide), if_neg (show ¬ nI 4 = (1 : Int32) by decide), if_neg (show ¬ nI 4 = (2 : Int32) by decide), if_neg (show ¬ nI 4 = (3 : Int32) by decide), if_pos (show nI 4 = (4 : Int32) from rfl)]
        rw [a2, bnd_some]; exact b2
    · obtain ⟨hc1, y1, hm1, a1, a2, a3⟩ := l_debate R K
      obtain ⟨hc2, y2, hm2, b1, b2, b3⟩ := l_end (s := s) a3 lsq
      refine ⟨hc2, y2, hm2, ?_, ?_, b3⟩
      · unfold fX5_line
        rw [if_pos (show hI hc 69 7 = (3 : Int32) from c7), c11]
        unfold fX5_line_16
        rw [if_pos (show inT (nI 5) 0 9 = true by decide), if_neg (show ¬ nI 5 = (0 : Int32) by decide), if_neg (show ¬ nI 5 = (1 : Int32) by decide), if_neg (show ¬ nI 5 = (2 : Int32) by decide), if_neg (show ¬ nI 5 = (3 : Int32) by decide), if_neg (show ¬ nI 5 = (4 : Int32) by decide), if_pos (show nI 5 = (5 : Int32) from rfl)]
        rw [a1, bind_some']; exact b1
      · unfold fX10_lineRead
        rw [if_pos (show hI hm 107 8 = (1 : Int32) from m8), m9, if_pos (show nI 5 ≤ (9 : Int32) by decide), if_pos (show inT (nI 5) 0 8 = true by decide), if_neg (show ¬ nI 5 = (0 : Int32) by decide), if_neg (show ¬ nI 5 = (1 : Int32) by decide), if_neg (show ¬ nI 5 = (2 : Int32) by decide), if_neg (show ¬ nI 5 = (3 : Int32) by decide), if_neg (show ¬ nI 5 = (4 : Int32) by decide), if_pos (show nI 5 = (5 : Int32) from rfl)]
        rw [a2, bnd_some]; exact b2
    · obtain ⟨hc1, y1, hm1, a1, a2, a3⟩ := l_stuff R K
      obtain ⟨hc2, y2, hm2, b1, b2, b3⟩ := l_end (s := s) a3 lsq
      refine ⟨hc2, y2, hm2, ?_, ?_, b3⟩
      · unfold fX5_line
        rw [if_pos (show hI hc 69 7 = (3 : Int32) from c7), c11]
        unfold fX5_line_16
        rw [if_pos (show inT (nI 6) 0 9 = true by decide), if_neg (show ¬ nI 6 = (0 : Int32) by decide), if_neg (show ¬ nI 6 = (1 : Int32) by decide), if_neg (show ¬ nI 6 = (2 : Int32) by decide), if_neg (show ¬ nI 6 = (3 : Int32) by decide), if_neg (show ¬ nI 6 = (4 : Int32) by decide), if_neg (show ¬ nI 6 = (5 : Int32) by decide), if_pos (show nI 6 = (6 : Int32) from rfl)]
        rw [a1, bind_some']; exact b1
      · unfold fX10_lineRead
        rw [if_pos (show hI hm 107 8 = (1 : Int32) from m8), m9, if_pos (show nI 6 ≤ (9 : Int32) by decide), if_pos (show inT (nI 6) 0 8 = true by decide), if_neg (show ¬ nI 6 = (0 : Int32) by decide), if_neg (show ¬ nI 6 = (1 : Int32) by decide), if_neg (show ¬ nI 6 = (2 : Int32) by decide), if_neg (show ¬ nI 6 = (3 : Int32) by decide), if_neg (show ¬ nI 6 = (4 : Int32) by decide), if_neg (show ¬ nI 6 = (5 : Int32) by decide), if_pos (show nI 6 = (6 : Int32) from rfl)]
        rw [a2, bnd_some]; exact b2
    · obtain ⟨hc1, y1, hm1, a1, a2, a3⟩ := l_damp R Q K
      obtain ⟨hc2, y2, hm2, b1, b2, b3⟩ := l_end (s := s) a3 lsq
      refine ⟨hc2, y2, hm2, ?_, ?_, b3⟩
      · unfold fX5_line
        rw [if_pos (show hI hc 69 7 = (3 : Int32) from c7), c11]
        unfold fX5_line_16
        rw [if_pos (show inT (nI 7) 0 9 = true by decide), if_neg (show ¬ nI 7 = (0 : Int32) by decide), if_neg (show ¬ nI 7 = (1 : Int32) by decide), if_neg (show ¬ nI 7 = (2 : Int32) by decide), if_neg (show ¬ nI 7 = (3 : Int32) by decide), if_neg (show ¬ nI 7 = (4 : Int32) by decide), if_neg (show ¬ nI 7 = (5 : Int32) by decide), if_neg (show ¬ nI 7 = (6 : Int32) by decide), if_pos (show nI 7 = (7 : Int32) from rfl)]
        rw [a1, bind_some']; exact b1
      · unfold fX10_lineRead
        rw [if_pos (show hI hm 107 8 = (1 : Int32) from m8), m9, if_pos (show nI 7 ≤ (9 : Int32) by decide), if_pos (show inT (nI 7) 0 8 = true by decide), if_neg (show ¬ nI 7 = (0 : Int32) by decide), if_neg (show ¬ nI 7 = (1 : Int32) by decide), if_neg (show ¬ nI 7 = (2 : Int32) by decide), if_neg (show ¬ nI 7 = (3 : Int32) by decide), if_neg (show ¬ nI 7 = (4 : Int32) by decide), if_neg (show ¬ nI 7 = (5 : Int32) by decide), if_neg (show ¬ nI 7 = (6 : Int32) by decide), if_pos (show nI 7 = (7 : Int32) from rfl)]
        rw [lit 0, lit 100, a2, bnd_some]; exact b2
    · obtain ⟨hc1, y1, hm1, a1, a2, a3⟩ := l_seed R Q K
      obtain ⟨hc2, y2, hm2, b1, b2, b3⟩ := l_end (s := s) a3 lsq
      refine ⟨hc2, y2, hm2, ?_, ?_, b3⟩
      · unfold fX5_line
        rw [if_pos (show hI hc 69 7 = (3 : Int32) from c7), c11]
        unfold fX5_line_16
        rw [if_pos (show inT (nI 8) 0 9 = true by decide), if_neg (show ¬ nI 8 = (0 : Int32) by decide), if_neg (show ¬ nI 8 = (1 : Int32) by decide), if_neg (show ¬ nI 8 = (2 : Int32) by decide), if_neg (show ¬ nI 8 = (3 : Int32) by decide), if_neg (show ¬ nI 8 = (4 : Int32) by decide), if_neg (show ¬ nI 8 = (5 : Int32) by decide), if_neg (show ¬ nI 8 = (6 : Int32) by decide), if_neg (show ¬ nI 8 = (7 : Int32) by decide), if_pos (show nI 8 = (8 : Int32) from rfl)]
        rw [a1, bind_some']; exact b1
      · unfold fX10_lineRead
        rw [if_pos (show hI hm 107 8 = (1 : Int32) from m8), m9, if_pos (show nI 8 ≤ (9 : Int32) by decide), if_pos (show inT (nI 8) 0 8 = true by decide), if_neg (show ¬ nI 8 = (0 : Int32) by decide), if_neg (show ¬ nI 8 = (1 : Int32) by decide), if_neg (show ¬ nI 8 = (2 : Int32) by decide), if_neg (show ¬ nI 8 = (3 : Int32) by decide), if_neg (show ¬ nI 8 = (4 : Int32) by decide), if_neg (show ¬ nI 8 = (5 : Int32) by decide), if_neg (show ¬ nI 8 = (6 : Int32) by decide), if_neg (show ¬ nI 8 = (7 : Int32) by decide), if_pos (show nI 8 = (8 : Int32) from rfl)]
        rw [lit 1, lit 99999, a2, bnd_some]; exact b2
    · obtain ⟨hc1, y1, hm1, a1, a2, a3⟩ := l_law R Q K
      refine ⟨hc1, y1, hm1, ?_, a2, a3⟩
      unfold fX5_line
      rw [if_pos (show hI hc 69 7 = (3 : Int32) from c7), c11]
      unfold fX5_line_16
      rw [if_pos (show inT (nI 9) 0 9 = true by decide), if_neg (show ¬ nI 9 = (0 : Int32) by decide), if_neg (show ¬ nI 9 = (1 : Int32) by decide), if_neg (show ¬ nI 9 = (2 : Int32) by decide), if_neg (show ¬ nI 9 = (3 : Int32) by decide), if_neg (show ¬ nI 9 = (4 : Int32) by decide), if_neg (show ¬ nI 9 = (5 : Int32) by decide), if_neg (show ¬ nI 9 = (6 : Int32) by decide), if_neg (show ¬ nI 9 = (7 : Int32) by decide), if_neg (show ¬ nI 9 = (8 : Int32) by decide), if_pos (show nI 9 = (9 : Int32) from rfl)]
      exact a1
  · obtain ⟨b1, b2, b3⟩ := bad_here h14 c8 m10 (e := 1) (by decide) (by decide)
    obtain ⟨e, y1, y2, y3, -⟩ := id b1
    have l16 : ∀ x : Int32, ¬ inT x 0 9 = true → fX5_line_16 hc x = some (uI (uI hc 69 14 (nI 1)) 69 15 (nI s)) := fun x hx => by
      unfold fX5_line_16
      rw [if_neg hx]
      unfold fX5_fail
      simp only [lit, h14, ↓reduceIte, c8, bind_some']
      exact x_151I y3 y1 y2
    have e17 : fX10_lineRead_17 hm = some (nI 0, uI (uI hm 107 4 (nI 1)) 107 5 (nI s)) := by
      unfold fX10_lineRead_17
      simp only [lit, m_wrong, bnd_some, isZ0, ↓reduceIte, m10]
    refine ⟨_, nI 0, _, ?_, ?_, b2.X, b3.M, Or.inr ⟨rfl, b1⟩⟩
    · unfold fX5_line
      by_cases z3 : k = 3
      · subst z3
        have v23 := (wk.2.2.1 rfl).1
        rw [if_pos (show hI hc 69 7 = (3 : Int32) from c7), c11 rfl]
        refine l16 _ ?_
        have : ∀ v, v < 23 → 10 ≤ v → ¬ inT (nI v) 0 9 = true := by decide +kernel
        exact this v v23 (by omega)
      · rw [if_neg (show ¬ hI hc 69 7 = (3 : Int32) from fun y => z3 (nI_inj (by omega) (by decide) (c7.symm.trans y)))]
        exact l16 _ (by decide)
    · unfold fX10_lineRead
      rw [e17]
      have kl := kM_lt k v
      by_cases y : kM k v = 1
      · have h9 := kM1 y
        have w9 : 9 < wM k v ∧ wM k v < 100 := by
          rcases h9 with rfl | ⟨h9, h10⟩
          · have v23 := (wk.2.2.1 rfl).1
            have : wM 3 v = v := rfl
            omega
          · have : k = 8 := by omega
            subst this
            have := wM80 h10
            omega
        rw [y] at m8
        have m9 := m9 (Or.inl (by omega))
        rw [if_pos (show hI hm 107 8 = (1 : Int32) from m8), if_neg (show ¬ hI hm 107 9 ≤ (9 : Int32) by rw [m9]; exact nI_ge w9.1 (by omega))]
      · rw [if_neg (show ¬ hI hm 107 8 = (1 : Int32) from fun z => y (nI_inj (by omega) (by decide) (m8.symm.trans z)))]
/-- what reading comes to -/
def TO (hc hm : Hp) (X : Nat) (b : Nat → Nat) (n i : Nat) (rc rm : Option (Int32 × Hp)) : Prop := ∃ hc' hm', FXc X hc hc' ∧ FXm hm hm' ∧ rc = fX9_text_62 hc' ∧ ((rm = some (-nI 1, hm') ∧ Bad hc' hm') ∨ (∃ T' j, j < 2 ^ 30 ∧ RD hc' hm' X T' b n ∧ hI hc' X 19 = nI j ∧ rm = (fX10_keepText hm').bind (fun h_9 => some (nI j, h_9))))
end V
theorem t_loop {X : Nat} {b : Nat → Nat} {n : Nat} (hn : n ≤ 700) : ∀ (d i fuC fuM : Nat) (hc hm : Hp) (T : Tx) (k v s q : Nat), n - s ≤ d → i ≤ s → d + 1 < fuC → d < fuM → RD hc hm X T b n → RQ hc hm X → TK hc hm n k v s q → hI hc X 19 = nI i → TO hc hm X b n i (fX9_text_32 fuC hc (nI i)) (fX10_text_55 fuM hm (nI i)) := by
  intro d
  induction d with
  | zero =>
    intro i fuC fuM hc hm T k v s q hd his hfC hfM R Q K h19
    obtain ⟨fuC, rfl⟩ : ∃ g, fuC = g + 1 := ⟨fuC - 1, by omega⟩
    obtain ⟨fuM, rfl⟩ : ∃ g, fuM = g + 1 := ⟨fuM - 1, by omega⟩
    have qn := K.2.2.2.2.1
    have sq := K.2.2.2.1
    have k0 : k = 0 := by
      apply Classical.byContradiction
      intro z
      have := K.2.2.2.2.2.1 z
      omega
    subst k0
    have m8 : hI hm 107 8 = nI 0 := K.2.1.1
    have c7 := K.1.1
    refine ⟨hc, hm, FXc.of (PI := fun _ _ => False) Fr.rf (fun _ _ z => z.elim), Fr.rf, ?_, Or.inr ⟨T, i, by omega, R, h19, ?_⟩⟩
    · rw [fX9_text_32]
      unfold fX5_hasMore
      simp only [lit, R.1.2.2.2, ↓reduceIte, c7, bnd_some]
      split <;> rfl
    · rw [fX10_text_55]
      simp only [lit, m8, ↓reduceIte]
  | succ d ih =>
    intro i fuC fuM hc hm T k v s q hd his hfC hfM R Q K h19
    obtain ⟨fuC, rfl⟩ : ∃ g, fuC = g + 1 := ⟨fuC - 1, by omega⟩
    obtain ⟨fuM, rfl⟩ : ∃ g, fuM = g + 1 := ⟨fuM - 1, by omega⟩
    have qn := K.2.2.2.2.1
    have sq := K.2.2.2.1
    have c7 := K.1.1
    have wk := K.2.2.1
    have k9 := wk.1
    by_cases k0 : k = 0
    · subst k0
      have m8 : hI hm 107 8 = nI 0 := K.2.1.1
      refine ⟨hc, hm, FXc.of (PI := fun _ _ => False) Fr.rf (fun _ _ z => z.elim), Fr.rf, ?_, Or.inr ⟨T, i, by omega, R, h19, ?_⟩⟩
      · rw [fX9_text_32]
        unfold fX5_hasMore
        simp only [lit, R.1.2.2.2, ↓reduceIte, c7, bnd_some]
        split <;> rfl
      · rw [fX10_text_55]
        simp only [lit, m8, ↓reduceIte]
    · have lsq := K.2.2.2.2.2.1 k0
      have m8 := K.2.1.1
      have kl := kM_lt k v
      have km0 : kM k v ≠ 0 := by
        unfold kM
        repeat' split
        all_goals omega
      obtain ⟨hc1, y, hm1, a1, a2, fc, fm, a3⟩ := s_line R Q K k0
      have stC : fX9_text_32 (fuC + 1) hc (nI i) = fX9_text_32 fuC hc1 (nI (i + 1)) := by
        rw [fX9_text_32]
        unfold fX5_hasMore
        simp (disch := omega) only [lit, leF, R.1.2.2.2, ↓reduceIte, c7, eqF, bnd_some, a1, bind_some', nI_add]
      rw [stC]
      rcases a3 with ⟨rfl, T', k', v', s', q', b1, b2, b3, b4, b5⟩ | ⟨rfl, B⟩
      · have stM : fX10_text_55 (fuM + 1) hm (nI i) = fX10_text_55 fuM hm1 (nI (i + 1)) := by
          rw [fX10_text_55]
          simp (disch := omega) only [lit, m8, eqF, ↓reduceIte, a2, bnd_some, nI_add]
        rw [stM]
        obtain ⟨hc2, hm2, c1, c2, c3⟩ := ih (i + 1) fuC fuM hc1 hm1 T' k' v' s' q' (by omega) (by omega) (by omega) (by omega) b2 (b5 Q) b1 (by rw [b4, h19, nI_add])
        exact ⟨hc2, hm2, fc.tr c1, fm.tr c2, c3⟩
      · obtain ⟨e, y1, y2, y3, -⟩ := id B
        refine ⟨hc1, hm1, fc, fm, ?_, Or.inl ⟨?_, B⟩⟩
        · obtain ⟨fuC, rfl⟩ : ∃ g, fuC = g + 1 := ⟨fuC - 1, by omega⟩
          rw [fX9_text_32]
          unfold fX5_hasMore
          simp (disch := omega) only [lit, y3, eqF, ↓reduceIte, bnd_some]
          split <;> rfl
        · rw [fX10_text_55]
          simp (disch := omega) only [lit, m8, eqF, ↓reduceIte, a2, bnd_some]
