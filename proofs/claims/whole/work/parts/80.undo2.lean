/-! undo, keep, back. -/
theorem x_tb122 {h : Hp} {n p : Nat} (hn : 1 ≤ n) (hn2 : n ≤ 20) (hp : p < 20) (h0 : hI h 90 0 = nI n) (h1 : hI h 90 1 = nI p) : fX4_takeBack_122 72 h = some (nI (n - 1), uI (uI h 90 1 (nI ((p + 19) % 20))) 90 0 (nI (n - 1))) := by
  unfold fX4_takeBack_122 fX4_takeBack_141
  by_cases q : p = 0
  · subst q
    simp (disch := omega) only [lit, h1, ↓reduceIte, leT, hI_ne, hI_at, h0, pk_sub]
    try rfl
  · have e : (p + 19) % 20 = p - 1 := by omega
    simp (disch := omega) only [lit, h1, ↓reduceIte, leF, hI_ne, hI_at, h0, pk_sub, e]
theorem x_takeBack {h : Hp} {n p m : Nat} (hn : 1 ≤ n) (hn2 : n ≤ 20) (hp : p < 20) (hm : m < 5) (h0 : hI h 90 0 = nI n) (h1 : hI h 90 1 = nI p) (h91 : hI h 91 p = nI m) (h92 : hI h 92 p = -nI 1 ∨ ∃ s, s < 5 ∧ hI h 92 p = nI s) : ∃ h', fX4_takeBack 72 h = some (nI (n - 1), h') ∧ hI h' 90 0 = nI (n - 1) ∧ hI h' 90 1 = nI ((p + 19) % 20) ∧ (∀ r i, r < 4 → i < 5 → hI h' (73 + r) i = unS h p (fun r i => hI h (73 + r) i) r i) ∧ Fr (fun a i => (a = 90 ∧ i ≤ 1) ∨ (73 ≤ a ∧ a ≤ 76 ∧ i < 5)) (fun _ _ => False) h h' := by
  have hW : isW 72 := Or.inl rfl
  let g : Hp := uI (uI (uI h 74 m (hI h 93 p)) 75 m (hI h 94 p)) 76 m (hI h 95 p)
  have eg : ∀ a i, ¬ ((a = 74 ∨ a = 75 ∨ a = 76) ∧ i = m) → hI g a i = hI h a i := fun a i q => by
    show hI (uI (uI (uI h 74 m _) 75 m _) 76 m _) a i = _
    rw [hI_ne (by omega), hI_ne (by omega), hI_ne (by omega)]
  have fg : Fr (fun a i => (a = 90 ∧ i ≤ 1) ∨ (73 ≤ a ∧ a ≤ 76 ∧ i < 5)) (fun _ _ => False) h g := Fr.uI (Fr.uI (Fr.uI Fr.rf (by omega)) (by omega)) (by omega)
  have head : fX4_takeBack 72 h = fX4_takeBack_99 72 g (hI h 92 p) := by
    unfold fX4_takeBack
    simp (disch := omega) only [lit, h0, h1, ↓reduceIte, ltF, ltT, leF, inbN, nI_clamp, h91, fX8_isMember, bnd_some, eqF, rW6 hW, rW7 hW, rW8 hW, hI_ne]
    rfl
  have g74 : hI g 74 m = hI h 93 p := by
    show hI (uI (uI (uI h 74 m _) 75 m _) 76 m _) 74 m = _
    rw [hI_ne (by omega), hI_ne (by omega), hI_at ⟨rfl, rfl⟩]
  have g75 : hI g 75 m = hI h 94 p := by
    show hI (uI (uI (uI h 74 m _) 75 m _) 76 m _) 75 m = _
    rw [hI_ne (by omega), hI_at ⟨rfl, rfl⟩]
  have g76 : hI g 76 m = hI h 95 p := by
    show hI (uI (uI (uI h 74 m _) 75 m _) 76 m _) 76 m = _
    rw [hI_at ⟨rfl, rfl⟩]
  have rows : ∀ (k : Hp), (∀ a i, 74 ≤ a → a ≤ 76 → hI k a i = hI g a i) → (∀ i, i < 5 → hI k 73 i = if hI h 92 p = nI i then hI h 96 p else hI h 73 i) → ∀ r i, r < 4 → i < 5 → hI k (73 + r) i = unS h p (fun r i => hI h (73 + r) i) r i := by
    intro k k1 k2 r i hr hi
    unfold unS
    by_cases q : r = 0
    · subst q; rw [if_pos rfl]; exact k2 i hi
    · rw [if_neg q, k1 _ _ (by omega) (by omega), h91]
      by_cases qi : i = m
      · subst qi
        rw [if_pos rfl]
        have cr : r = 1 ∨ r = 2 ∨ r = 3 := by omega
        rcases cr with rfl | rfl | rfl
        · exact g74
        · exact g75
        · exact g76
      · rw [if_neg (fun z => qi (nI_inj (by omega) (by omega) z).symm)]
        exact eg _ _ (by omega)
  rcases h92 with h92 | ⟨s, hs, h92⟩
  · have e := x_tb122 (h := g) hn hn2 hp (by rw [eg _ _ (by omega)]; exact h0) (by rw [eg _ _ (by omega)]; exact h1)
    refine ⟨_, ?_, hI_at ⟨rfl, rfl⟩, by rw [hI_ne (by omega), hI_at ⟨rfl, rfl⟩], rows _ (fun a i h1 h2 => by rw [hI_ne (by omega), hI_ne (by omega)]) (fun i hi => ?_), Fr.uI (Fr.uI fg (by omega)) (by omega)⟩
    · rw [head, h92]
      unfold fX4_takeBack_99 fX8_isStraw
      simp only [lit]
      rw [if_pos (by decide)]
      simp only [bnd_some, ↓reduceIte]
      exact e
    · rw [h92, if_neg (of_eq_false (m1_ne (by omega))), hI_ne (by omega), hI_ne (by omega), eg _ _ (by omega)]
  · let k : Hp := uI g 73 s (hI h 96 p)
    have fk : Fr (fun a i => (a = 90 ∧ i ≤ 1) ∨ (73 ≤ a ∧ a ≤ 76 ∧ i < 5)) (fun _ _ => False) h k := Fr.uI fg (by omega)
    have e := x_tb122 (h := k) hn hn2 hp (by show hI (uI g 73 s _) 90 0 = _; rw [hI_ne (by omega), eg _ _ (by omega)]; exact h0) (by show hI (uI g 73 s _) 90 1 = _; rw [hI_ne (by omega), eg _ _ (by omega)]; exact h1)
    refine ⟨_, ?_, hI_at ⟨rfl, rfl⟩, by rw [hI_ne (by omega), hI_at ⟨rfl, rfl⟩], rows _ (fun a i h1 h2 => ?_) (fun i hi => ?_), Fr.uI (Fr.uI fk (by omega)) (by omega)⟩
    · rw [head, h92]
      unfold fX4_takeBack_99 fX8_isStraw
      have e90 : hI g 90 1 = nI p := by rw [eg _ _ (by omega)]; exact h1
      have e96 : hI g 96 p = hI h 96 p := eg _ _ (by omega)
      simp (disch := omega) only [lit, ↓reduceIte, ltF, leF, bnd_some, eqF, e90, inbN, nI_clamp, rW5 hW, e96]
      exact e
    · rw [hI_ne (by omega), hI_ne (by omega)]; show hI (uI g 73 s _) a i = _; rw [hI_ne (by omega)]
    · rw [hI_ne (by omega), hI_ne (by omega)]
      show hI (uI g 73 s _) 73 i = _
      rw [h92]
      by_cases qi : i = s
      · subst qi; rw [hI_at ⟨rfl, rfl⟩, if_pos rfl]
      · rw [hI_ne (by omega), if_neg (fun z => qi (nI_inj (by omega) (by omega) z).symm), eg _ _ (by omega)]
section V
variable {hc hm : Hp} {S : Nat} {T : Tx}
theorem s_undo (s : R2 hc hm S T) : Ok2 hc hm (fX9_undo hc) (fX10_undo hm) := by
  have s0 := R2_thr s (nI 0)
  obtain ⟨n, p, n1, n2, n3, n4, n5, n6, n7⟩ := s0.2.2.1
  have F := s0.1.2.2.2.1
  have h5 := F.1.2.2.1
  have h5m := F.1.2.2.2.1
  by_cases q : n = 0
  · subst q
    refine ok_same s (v := -nI 1) (x := nI 0) ?_ ?_
    · unfold fX9_undo fX4_takeBack; simp (disch := omega) only [lit, n3, ↓reduceIte, ltT, bnd_some]
    · unfold fX10_undo; simp (disch := omega) only [lit, n5, ↓reduceIte]
  · obtain ⟨⟨m, hm5, a1⟩, a2⟩ := n6 0 (by omega)
    rw [show (p + 20 - 0) % 20 = p by omega] at a1 a2
    obtain ⟨hc1, b1, b2, b3, b4, b5⟩ := x_takeBack (m := m) (by omega) n1 n2 (by omega) n3 n4 a1 (by
      rcases a2 with a2 | ⟨s, hs, a2⟩
      · exact Or.inl a2
      · exact Or.inr ⟨s, by omega, a2⟩)
    let hm1 : Hp := uI (uI hm 107 2 (nI 0)) 107 80 (nI (n - 1))
    have em1 : ∀ a i, ¬ (a = 107 ∧ i = 80) → hI hm1 a i = hI (uI hm 107 2 (nI 0)) a i := fun a i z => hI_ne z
    obtain ⟨hm2, c1, c2, c3⟩ := m_bring (h := hm1) (r := 149) (N := 400) (x := 20 * (n - 1)) (Or.inl rfl) (by omega) (by decide)
    have X0 : ∀ r i, r < 4 → i < 5 → hI hc1 (73 + r) i = Xs hc p 1 r i := by
      intro r i hr hi
      rw [b4 r i hr hi]
      show _ = unS hc ((p + 20 - 0) % 20) (fun r i => hI hc (73 + r) i) r i
      rw [show (p + 20 - 0) % 20 = p by omega]
    obtain ⟨d1, d2, d3⟩ := n7 0 (by omega)
    have em2 : ∀ i, hI hm1 149 i = hI (uI hm 107 2 (nI 0)) 149 i := fun i => em1 _ _ (by omega)
    have w : RW hc1 hm2 S 72 0 T := by
      obtain ⟨w1, w2, w3, w4, w5, ⟨sh, w6, w7, w8⟩, w9, w10⟩ := s0.2.1.1
      have e5 : ∀ i, 5 * 0 + i = i := fun i => by omega
      refine ⟨by rw [b5.2.2]; exact w1, ?_, ?_, ?_, ?_, ⟨sh, w6, ?_, ?_⟩, ?_, ?_⟩
      · intro i hi
        obtain ⟨x, x1, x2, x3⟩ := d1 i hi
        refine ⟨x, x1, ?_, ?_⟩
        · have := X0 0 i (by decide) (by omega)
          rw [x2] at this; exact this
        · rw [e5, (c2 i (by omega)).1, em2, ← Nat.sub_zero (n - 1)]; exact x3
      · intro i hi h2
        have := X0 0 i (by decide) hi
        rw [show (72 : Nat) + 1 = 73 + 0 from rfl, this]
        show unS hc ((p + 20 - 0) % 20) (fun r i => hI hc (73 + r) i) 0 i = _
        rw [show (p + 20 - 0) % 20 = p by omega]
        unfold unS
        rw [if_pos rfl]
        have hne : ¬ hI hc 92 p = nI i := by
          rcases a2 with a2 | ⟨s, hs, a2⟩
          · rw [a2]; exact of_eq_false (m1_ne (by omega))
          · rw [a2]; exact fun z => by have := nI_inj (by omega) (by omega) z; omega
        rw [if_neg hne]; exact w3 i hi h2
      · intro i hi
        obtain ⟨x, x1, x2, x3⟩ := d2 i hi
        refine ⟨x, x1, ?_, ?_⟩
        · have := X0 1 i (by decide) hi
          rw [x2] at this; exact this
        · rw [e5, (c2 i hi).2.1, em2, ← Nat.sub_zero (n - 1)]; exact x3
      · intro i hi
        obtain ⟨x2, x3⟩ := d3 i hi
        have t2 := X0 2 i (by decide) hi
        have t3 := X0 3 i (by decide) hi
        rw [x2] at t2
        rw [x3] at t3
        rw [e5, (c2 i hi).2.2.1, (c2 i hi).2.2.2, em2, em2]
        rw [Nat.sub_zero] at t2 t3
        exact ⟨t2, t3⟩
      · rw [b5.1 _ _ (by omega)]; exact w7
      · intro i hi; rw [c3.1 _ _ (by omega), em1 _ _ (by omega)]; exact w8 i hi
      · rw [b5.1 _ _ (by omega), c3.1 _ _ (by omega), em1 _ _ (by omega)]; exact w9
      · rw [b5.1 _ _ (by omega), c3.1 _ _ (by omega), em1 _ _ (by omega)]; exact w10
    have old : ∀ a i, 91 ≤ a → a ≤ 96 → hI hc1 a i = hI hc a i := fun a i h1 h2 => b5.1 _ _ (by omega)
    have X : ∀ j, j ≤ 19 → ∀ r i, r < 4 → i < 5 → Xs hc1 ((p + 19) % 20) j r i = Xs hc p (j + 1) r i := by
      intro j
      induction j with
      | zero => intro _ r i hr hi; exact X0 r i hr hi
      | succ j ih =>
        intro hj r i hr hi
        show unS hc1 (((p + 19) % 20 + 20 - j) % 20) (Xs hc1 ((p + 19) % 20) j) r i = unS hc ((p + 20 - (j + 1)) % 20) (Xs hc p (j + 1)) r i
        rw [show ((p + 19) % 20 + 20 - j) % 20 = (p + 20 - (j + 1)) % 20 by omega]
        unfold unS
        rw [old 92 _ (by omega) (by omega), old 96 _ (by omega) (by omega), old 91 _ (by omega) (by omega), old (92 + r) _ (by omega) (by omega), ih (by omega) 0 i (by decide) hi, ih (by omega) r i hr hi]
    have u : RU hc1 hm2 T := by
      refine ⟨n - 1, (p + 19) % 20, by omega, Nat.mod_lt _ (by decide), b2, b3, ?_, ?_, ?_⟩
      · rw [c3.1 _ _ (by omega)]; exact hI_at ⟨rfl, rfl⟩
      · intro j hj
        rw [show ((p + 19) % 20 + 20 - j) % 20 = (p + 20 - (j + 1)) % 20 by omega, old 91 _ (by omega) (by omega), old 92 _ (by omega) (by omega)]
        exact n6 (j + 1) (by omega)
      · intro j hj
        obtain ⟨f1, f2, f3⟩ := n7 (j + 1) (by omega)
        have e9 : ∀ i, hI hm2 149 i = hI (uI hm 107 2 (nI 0)) 149 i := fun i => by rw [c3.1 _ _ (by omega), em2]
        rw [show n - 1 - 1 - j = n - 1 - (j + 1) by omega]
        refine ⟨fun i hi => ?_, fun i hi => ?_, fun i hi => ?_⟩
        · rw [X (j + 1) (by omega) 0 i (by decide) (by omega), e9]; exact f1 i hi
        · rw [X (j + 1) (by omega) 1 i (by decide) hi, e9]; exact f2 i hi
        · rw [X (j + 1) (by omega) 2 i (by decide) hi, X (j + 1) (by omega) 3 i (by decide) hi, e9, e9]; exact f3 i hi
    refine ⟨nI (n - 1), hc1, hm2, ?_, ?_, ⟨S, T, R2_call s0 w u (fun a i z => b5.1 _ _ (by omega)) (fun a i => b5.2.2 a i) (fun a i z => ?_) (fun i hi => ?_)⟩, FCl_Fr b5 (fun a i z => by omega) (fun _ _ z => z.elim), ?_⟩
    · unfold fX9_undo; simp only [b1, bnd_some]
    · have e80 : hI hm1 107 80 = nI (n - 1) := hI_at ⟨rfl, rfl⟩
      have e80' : hI hm2 107 80 = nI (n - 1) := by rw [c3.1 _ _ (by omega)]; exact e80
      unfold fX10_undo
      simp (disch := omega) only [lit, n5, ↓reduceIte, eqF, pk_sub]
      rw [show uI (uI hm 107 2 (nI 0)) 107 80 (nI (n - 1)) = hm1 from rfl, e80, pk_mul, c1, bind_some', e80']
    · rw [c3.1 _ _ (by omega), em1 _ _ (by omega)]
    · rw [c3.2.1 _ _ (fun z => z)]; rfl
    · exact FMo.tr (FMo_uI (FMo_uI FMo.rf (by omega)) (by omega)) (FMo_Fr c3 (fun a i z => by omega) (fun _ _ z => z.elim))
/-- the image's sheds -/
theorem m_keep1 : ∀ (d k fu : Nat) (h : Hp), k + d = 5 → d < fu → (∀ i, i < 5 → isZ (hI h 138 i) = true) → ∃ h', fX10_keep_21 fu h (nI k) = some (hI h 143 0, h') ∧ (∀ i, k ≤ i → i < 5 → hI h' 151 i = hI h 138 i) ∧ hI h' 107 85 = hI h 142 0 ∧ hI h' 107 86 = hI h 143 0 ∧ hJ h' 107 87 = hJ h 107 67 ∧ Fr (fun a i => (a = 151 ∧ k ≤ i) ∨ (a = 107 ∧ (i = 85 ∨ i = 86))) (fun a i => a = 107 ∧ i = 87) h h'
  | 0, k, fu + 1, h, hk, _, _ => by
    have e : k = 5 := by omega
    subst e
    refine ⟨uJ (uI (uI h 107 85 (hI h 142 0)) 107 86 (hI h 143 0)) 107 87 (hJ h 107 67), ?_, fun i h1 h2 => by omega, ?_, ?_, hJ_at ⟨rfl, rfl⟩, Fr.uJ (Fr.uI (Fr.uI Fr.rf (by omega)) (by omega)) ⟨rfl, rfl⟩⟩
    · rw [fX10_keep_21]; simp (disch := omega) only [lit, ↓reduceIte, leT, inbN, nI_clamp, hI_ne, hI_uJ', hJ_uI]
    · rw [hI_uJ', hI_ne (by omega), hI_at ⟨rfl, rfl⟩]
    · rw [hI_uJ', hI_at ⟨rfl, rfl⟩]
  | d + 1, k, fu + 1, h, hk, hf, hz => by
    have hzk := eq_true (hz k (by omega))
    obtain ⟨h', a1, a2, a3, a4, a5, a6⟩ := m_keep1 d (k + 1) fu (uI h 151 k (hI h 138 k)) (by omega) (by omega) (fun i hi => by rw [hI_ne (by omega)]; exact hz i hi)
    refine ⟨h', ?_, fun i h1 h2 => ?_, ?_, ?_, ?_, Fr.tr (Fr.uI Fr.rf (by omega)) (a6.mono (fun a i q => by omega) (fun _ _ q => q))⟩
    · rw [hI_ne (by omega)] at a1
      rw [fX10_keep_21]; simp (disch := omega) only [lit, ↓reduceIte, leF, inbN, nI_clamp, hzk, nI_add]; exact a1
    · by_cases q : i = k
      · subst q; rw [a6.1 _ _ (by omega), hI_at ⟨rfl, rfl⟩]
      · rw [a2 i (by omega) h2, hI_ne (by omega)]
    · rw [a3, hI_ne (by omega)]
    · rw [a4, hI_ne (by omega)]
    · rw [a5]; rfl
theorem s_keep (s : R2 hc hm S T) : Ok2 hc hm (fX9_keep hc) (fX10_keep hm) := by
  have s0 := R2_thr s (nI 0)
  obtain ⟨hS, t1, t2, F, -⟩ := s0.1
  have h5 := F.1.2.2.1
  obtain ⟨⟨w1, w2, w3, w4, w5, ⟨sh, w6, w7, w8⟩, w9, w10⟩, pl, l, l1, l2, l3⟩ := s0.2.1
  have e5 : ∀ i, 5 * 0 + i = i := fun i => by omega
  obtain ⟨hc1, a1, a2, a3, a4, a5, a6⟩ := x_copy (W := 78) (V := 72) hS (Or.inr (Or.inl rfl)) (Or.inl rfl) (by omega) w1
  let hc2 : Hp := uI hc1 0 8 (nI 1)
  have ec : ∀ a i, ¬ (a = 0 ∧ i = 8) → a < 78 ∨ 82 < a → hI hc2 a i = hI hc a i := fun a i q z => by
    show hI (uI hc1 0 8 _) a i = _
    rw [hI_ne q, a6.1 _ _ (by omega)]
  let hm1 : Hp := uI (uI hm 107 2 (nI 0)) 107 82 (nI 1)
  have em1 : ∀ a i, ¬ (a = 107 ∧ i = 82) → hI hm1 a i = hI (uI hm 107 2 (nI 0)) a i := fun a i z => hI_ne z
  obtain ⟨hm2, b1, b2, b3⟩ := m_put (h := hm1) (r := 150) (N := 20) (x := 0) (Or.inr rfl) (by omega) (by decide)
  have em2 : ∀ a i, a ≠ 150 → ¬ (a = 107 ∧ i = 82) → hI hm2 a i = hI (uI hm 107 2 (nI 0)) a i := fun a i z1 z2 => by rw [b3.1 _ _ (by omega), em1 _ _ z2]
  obtain ⟨hm3, c1, c2, c3, c4, c5, c6⟩ := m_keep1 5 0 FU hm2 rfl (by decide) (fun i hi => by
    have := w8 i hi
    rw [e5] at this
    rw [em2 _ _ (by omega) (by omega), this]; exact bn_z _ _)
  have em3 : ∀ a i, a ≠ 150 → a ≠ 151 → ¬ (a = 107 ∧ (i = 82 ∨ i = 85 ∨ i = 86)) → hI hm3 a i = hI (uI hm 107 2 (nI 0)) a i := fun a i z1 z2 z3 => by rw [c6.1 _ _ (by omega), em2 _ _ z1 (by omega)]
  have ans : hI hc2 72 1 = hI hm2 143 0 := by rw [ec _ _ (by omega) (by omega), em2 _ _ (by omega) (by omega)]; exact w9
  have ri : RI hc2 hm3 S T := by
    refine ⟨1, by decide, hI_at ⟨rfl, rfl⟩, ?_, fun _ => ⟨a2, ?_, ?_, ?_, ?_, ⟨sh, w6, ?_, ?_⟩, ?_, ?_, l, l1, ?_, ?_⟩⟩
    · rw [c6.1 _ _ (by omega), b3.1 _ _ (by omega)]; exact hI_at ⟨rfl, rfl⟩
    · intro i hi
      obtain ⟨n, n1, n2, n3⟩ := w2 i hi
      rw [e5] at n3
      refine ⟨n, n1, ?_, ?_⟩
      · show hI (uI hc1 0 8 _) 79 i = _
        rw [hI_ne (by omega), (a5 i (by omega)).1]; exact n2
      · have := (b2 i (by omega)).1
        rw [Nat.zero_add] at this
        rw [c6.1 _ _ (by omega), this, em1 _ _ (by omega)]; exact n3
    · intro i hi h2
      show hI (uI hc1 0 8 _) 79 i = _
      rw [hI_ne (by omega), (a5 i hi).1]; exact w3 i hi h2
    · intro i hi
      obtain ⟨n, n1, n2, n3⟩ := w4 i hi
      rw [e5] at n3
      refine ⟨n, n1, ?_, ?_⟩
      · show hI (uI hc1 0 8 _) 80 i = _
        rw [hI_ne (by omega), (a5 i hi).2.1]; exact n2
      · have := (b2 i hi).2.1
        rw [Nat.zero_add] at this
        rw [c6.1 _ _ (by omega), this, em1 _ _ (by omega)]; exact n3
    · intro i hi
      have := w5 i hi
      rw [e5] at this
      have t2 := (b2 i hi).2.2.1
      have t3 := (b2 i hi).2.2.2
      rw [Nat.zero_add] at t2 t3
      refine ⟨?_, ?_⟩
      · show hI (uI hc1 0 8 _) 81 i = _
        rw [hI_ne (by omega), (a5 i hi).2.2.1, c6.1 _ _ (by omega), t2, em1 _ _ (by omega)]; exact this.1
      · show hI (uI hc1 0 8 _) 82 i = _
        rw [hI_ne (by omega), (a5 i hi).2.2.2, c6.1 _ _ (by omega), t3, em1 _ _ (by omega)]; exact this.2
    · show hI (uI hc1 0 8 _) 78 2 = _
      rw [hI_ne (by omega), a4 2 (by omega) (by omega)]; exact w7
    · intro i hi
      have := w8 i hi
      rw [e5] at this
      rw [c2 i (by omega) hi, em2 _ _ (by omega) (by omega)]; exact this
    · show hI (uI hc1 0 8 _) 78 1 = _
      rw [hI_ne (by omega), a4 1 (by omega) (by omega), c4, em2 _ _ (by omega) (by omega)]; exact w9
    · show hI (uI hc1 0 8 _) 78 3 = _
      rw [hI_ne (by omega), a4 3 (by omega) (by omega), c3, em2 _ _ (by omega) (by omega)]; exact w10
    · show hI (uI hc1 0 8 _) 78 4 = _
      rw [hI_ne (by omega), a4 4 (by omega) (by omega)]; exact l2
    · rw [c5, b3.2.1 _ _ (fun z => z)]; exact l3
  have er : ∀ a i, ¬ (a = 78 ∧ i = 0) → hR hc2 a i = hR hc a i := fun a i z => a6.2.2 a i z
  refine ⟨hI hc2 72 1, hc2, hm3, ?_, ?_, ⟨S, T, StA_ag s0.1 (fun a i q => ec a i (by unfold relA at q; omega) (by unfold relA at q; omega)) (fun a i q => er a i (by omega)) (fun a i q => em3 a i (by unfold relMA at q; omega) (by unfold relMA at q; omega) (by unfold relMA at q; omega)), StW_ag F s0.2.1 (fun a i h1 h2 => ec a i (by omega) (by omega)) (er _ _ (by omega)) (fun a i q => em3 a i (by omega) (by omega) (by omega)) ?_, RU_ag s0.2.2.1 (fun a i q => ec a i (by omega) (by omega)) (fun a i q => em3 a i (by omega) (by omega) (by omega)), ri, RM_ag s0.2.2.2.2 (fun a i q => ec a i (by omega) (by omega)) (fun a i q => em3 a i (by omega) (by omega) (by omega))⟩, ?_, ?_⟩
  · unfold fX9_keep; simp only [a1, bind_some', lit]; rfl
  · unfold fX10_keep
    simp only [lit]
    rw [show uI (uI hm 107 2 (nI 0)) 107 82 (nI 1) = hm1 from rfl, b1, bind_some', c1, ans]
  · rw [c6.2.1 _ _ (by omega), b3.2.1 _ _ (fun z => z)]; rfl
  · exact FCl_uI ⟨fun a i q => a6.1 _ _ (by omega), fun a i _ => a6.2.1 a i, fun a i q => a6.2.2 a i (by omega)⟩ (by omega)
  · exact FMo.tr (FMo_uI (FMo_uI FMo.rf (by omega)) (by omega)) (FMo.tr (FMo_Fr b3 (fun a i z => by omega) (fun _ _ z => z.elim)) (FMo_Fr c6 (fun a i z => by omega) (fun a i z => by omega)))
end V
