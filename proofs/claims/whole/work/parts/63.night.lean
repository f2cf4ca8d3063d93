/-! A night, both sides: debates. -/
def PcK (W a i : Nat) : Prop := (a = W ∧ (i = 2 ∨ i = 3)) ∨ (W < a ∧ a < W + 5)
def PmK (b a i : Nat) : Prop := (a = 107 ∧ i = 59) ∨ (137 ≤ a ∧ a ≤ 141 ∧ 5 * b ≤ i ∧ i < 5 * b + 5) ∨ (a = 142 ∧ i = b)
def FC1 (W : Nat) (h h' : Hp) : Prop := Fr (PcK W) (fun a _ => PcJ W a) h h'
def FM1 (b : Nat) (h h' : Hp) : Prop := Fr (PmK b) (fun a _ => a = 135 ∨ a = 136) h h'
theorem Wge {W : Nat} (hW : isW W) : 72 ≤ W ∧ W ≤ 84 := by rcases hW with rfl | rfl | rfl <;> omega
theorem FC1_RSc {h h' : Hp} {S W : Nat} {T : Tx} (hS : isS S) (hW : isW W) (R : RSc h S T) (f : FC1 W h h') : RSc h' S T :=
  RSc_Fr hS R f (fun a i h1 h2 q => by have := Wge hW; unfold PcK at q; omega)
theorem FM1_RSm {h h' : Hp} {b : Nat} {T : Tx} (R : RSm h T) (f : FM1 b h h') : RSm h' T :=
  RSm_Fr R f (fun a i h1 q => by unfold PmK at q; omega)
theorem RG_Fr {hc hc' hm hm' : Hp} {W : Nat} (g : RG hc hm W) (hi : ∀ i, (i = 4 ∨ 10 ≤ i) → hI hc' W i = hI hc W i) (hj : ∀ i, 68 ≤ i → i ≤ 72 → hI hm' 107 i = hI hm 107 i) (h67 : hJ hm' 107 67 = hJ hm 107 67) : RG hc' hm' W := by
  obtain ⟨⟨a, a1, a2, a3, a4⟩, ⟨b, b1, b2, b3⟩, ⟨c, c1, c2, c3⟩, ⟨d, d1, d2, d3⟩, e⟩ := g
  refine ⟨⟨a, a1, ?_, ?_, fun z => ?_⟩, ⟨b, b1, ?_, ?_⟩, ⟨c, c1, ?_, ?_⟩, ⟨d, d1, ?_, ?_⟩, ?_⟩
  · rw [hi _ (by omega)]; exact a2
  · rw [hj _ (by omega) (by omega)]; exact a3
  · rw [hi _ (by omega), h67]; exact a4 z
  · rw [hi _ (by omega)]; exact b2
  · rw [hj _ (by omega) (by omega)]; exact b3
  · rw [hi _ (by omega)]; exact c2
  · rw [hj _ (by omega) (by omega)]; exact c3
  · rw [hi _ (by omega)]; exact d2
  · rw [hj _ (by omega) (by omega)]; exact d3
  · rw [hi _ (by omega), hj _ (by omega) (by omega)]; exact e
theorem RG_1 {hc hc' hm hm' : Hp} {W b : Nat} (g : RG hc hm W) (f1 : FC1 W hc hc') (f2 : FM1 b hm hm') : RG hc' hm' W :=
  RG_Fr g (fun i hi => f1.1 _ _ (by unfold PcK; omega)) (fun i h1 h2 => f2.1 _ _ (by unfold PmK; omega)) (f2.2.1 _ _ (by omega))
theorem s_contendW {hc hm : Hp} {S W b nw bw : Nat} {T : Tx} (hS : isS S) (hW : isW W) (hb : b ≤ 1) (Rc : RSc hc S T) (Rm : RSm hm T) (F : WFT T) (w : RW hc hm S W b T) (c1 : nw ≤ 1) (c2 : hI hc W 12 = nI nw) (c3 : hI hm 107 70 = nI nw) (d1 : bw ≤ 1) (d2 : hI hc W 13 = nI bw) (d3 : hI hm 107 71 = nI bw) {m s : Nat} (hmM : m < T 0 3) (hs : s < T 0 2) : ∃ win hc' hm', win ≤ 1 ∧ fX8_contend W hc (nI m) (nI s) = some (nI win, hc') ∧ fX10_debatesOne hm (nI b) (nI m) (nI s) = some (nI win, hm') ∧ RW hc' hm' S W b T ∧ Fr (PdI W m s) (fun a _ => PcJ W a) hc hc' ∧ Fr (PeI b m s) (fun a _ => a = 135 ∨ a = 136) hm hm' := by
  obtain ⟨w1, w2, w3, w4, w5, ⟨sh, w6, w7, w8⟩, w9, w10⟩ := w
  have hm5 : m < 5 := by have := F.1.2.2.2.1; omega
  obtain ⟨fl, f1, f2, f3⟩ := w2 s hs
  obtain ⟨hl, l1, l2, l3⟩ := w4 m hm5
  rw [hB_lt hmM] at l1
  have hW' := Wge hW
  have hs5 := F.1.2.2.1
  obtain ⟨-, hcl, -⟩ := F.2.2.2.1 s hs
  obtain ⟨hc', a1, a2, a3, a4, a5, a6⟩ := x_contend hS hW Rc F w1 hm5 hs d2 d1 c2 c1 l2 l1 f2 f1 rfl rfl rfl
  obtain ⟨hm', b1, b2, b3, b4, b5, b6⟩ := m_contend Rm F hb hm5 hs d3 d1 c3 c1 l3 l1 f3 f1 (w5 m hm5).1.symm (w5 m hm5).2.symm w9.symm
  have hwin : wnT T bw s fl hl (hI hc (W + 3) m) (hI hc W 1) ≤ 1 := by unfold wnT; split <;> omega
  have hfl : flT T bw nw s fl hl (hI hc (W + 3) m) (hI hc W 1) ≤ 99 := by unfold flT; split <;> omega
  have hhl : hlT T bw s fl hl (hI hc (W + 3) m) (hI hc W 1) < 2 ^ T 0 0 := by
    unfold hlT
    split
    · exact l1
    · split
      · exact Nat.or_lt_two_pow l1 (Nat.pow_lt_pow_right (by decide) hcl)
      · exact l1
  refine ⟨_, hc', hm', hwin, a1, b1, ⟨?_, ?_, ?_, ?_, ?_, ⟨sh, w6, ?_, ?_⟩, ?_, ?_⟩, a6, b6⟩
  · rw [a6.2.2]; exact w1
  · intro i hi
    by_cases q : i = s
    · subst q; exact ⟨_, hfl, a2, b2⟩
    · obtain ⟨n, n1, n2, n3⟩ := w2 i hi
      exact ⟨n, n1, by rw [a6.1 _ _ (by unfold PdI; omega)]; exact n2, by rw [b6.1 _ _ (by unfold PeI; omega)]; exact n3⟩
  · intro i hi h2
    rw [a6.1 _ _ (by unfold PdI; omega)]; exact w3 i hi h2
  · intro i hi
    by_cases q : i = m
    · subst q; rw [hB_lt hmM]; exact ⟨_, hhl, a3, b3⟩
    · obtain ⟨n, n1, n2, n3⟩ := w4 i hi
      exact ⟨n, n1, by rw [a6.1 _ _ (by unfold PdI; omega)]; exact n2, by rw [b6.1 _ _ (by unfold PeI; omega)]; exact n3⟩
  · intro i hi
    by_cases q : i = m
    · subst q; exact ⟨by rw [a4, b4], by rw [a5, b5]⟩
    · obtain ⟨n1, n2⟩ := w5 i hi
      rw [a6.1 (W + 3) i (by unfold PdI; omega), a6.1 (W + 4) i (by unfold PdI; omega), b6.1 140 _ (by unfold PeI; omega), b6.1 141 _ (by unfold PeI; omega)]
      exact ⟨n1, n2⟩
  · rw [a6.1 _ _ (by unfold PdI; omega)]; exact w7
  · intro i hi; rw [b6.1 _ _ (by unfold PeI; omega)]; exact w8 i hi
  · rw [a6.1 _ _ (by unfold PdI; omega), b6.1 _ _ (by unfold PeI; omega)]; exact w9
  · rw [a6.1 _ _ (by unfold PdI; omega), b6.1 _ _ (by unfold PeI; omega)]; exact w10
theorem s_contend {hc hm : Hp} {S W b : Nat} {T : Tx} (hS : isS S) (hW : isW W) (hb : b ≤ 1) (Rc : RSc hc S T) (Rm : RSm hm T) (F : WFT T) (w : RW hc hm S W b T) (g : RG hc hm W) {m s : Nat} (hmM : m < T 0 3) (hs : s < T 0 2) : ∃ win hc' hm', win ≤ 1 ∧ fX8_contend W hc (nI m) (nI s) = some (nI win, hc') ∧ fX10_debatesOne hm (nI b) (nI m) (nI s) = some (nI win, hm') ∧ RW hc' hm' S W b T ∧ Fr (PdI W m s) (fun a _ => PcJ W a) hc hc' ∧ Fr (PeI b m s) (fun a _ => a = 135 ∨ a = 136) hm hm' := by
  obtain ⟨-, -, ⟨nw, c1, c2, c3⟩, ⟨bw, d1, d2, d3⟩, -⟩ := g
  exact s_contendW hS hW hb Rc Rm F w c1 c2 c3 d1 d2 d3 hmM hs
theorem Pd_FC1 {h h' : Hp} {W m s : Nat} (f : Fr (PdI W m s) (fun a _ => PcJ W a) h h') : FC1 W h h' := f.mono (fun a i q => by unfold PdI at q; unfold PcK; omega) (fun _ _ q => q)
theorem Pe_FM1 {h h' : Hp} {b m s : Nat} (hm : m < 5) (hs : s < 5) (f : Fr (PeI b m s) (fun a _ => a = 135 ∨ a = 136) h h') : FM1 b h h' := f.mono (fun a i q => by unfold PeI at q; unfold PmK; omega) (fun _ _ q => q)
/-- stuffings -/
theorem s_stuff {S W b : Nat} {T : Tx} (hS : isS S) (hW : isW W) (hb : b ≤ 1) (F : WFT T) : ∀ (d k fu fu' : Nat) (hc hm : Hp), k + d = T 0 5 → d < fu → d < fu' → RSc hc S T → RSm hm T → RW hc hm S W b T → ∃ hc' hm', fX8_stuffTold_2 fu W hc (nI k) = some hc' ∧ fX10_nightGoes_2 fu' hm (nI b) (nI k) = fX10_nightGoes_69 FU hm' (nI b) (nI 0) ∧ RW hc' hm' S W b T ∧ FC1 W hc hc' ∧ FM1 b hm hm'
  | 0, k, fu + 1, fu' + 1, hc, hm, hk, _, _, Rc, Rm, w => by
    have e : k = T 0 5 := by omega
    have h6 := F.1.2.2.2.2.2.1
    refine ⟨hc, hm, ?_, ?_, w, Fr.rf, Fr.rf⟩
    · rw [fX8_stuffTold_2, dref_of w.1 (sS hS)]
      simp (disch := omega) only [bind_some', Rc.1.2.2.2.2.2.1, ↓reduceIte, leT, leF]
    · rw [fX10_nightGoes_2]
      simp (disch := omega) only [lit, Rm.1.2.2.2.2.2.1, ↓reduceIte, leT, leF]
  | d + 1, k, fu + 1, fu' + 1, hc, hm, hk, hf, hf', Rc, Rm, w => by
    have h6 := F.1.2.2.2.2.2.1
    have hs5 := F.1.2.2.1
    have hW' := Wge hW
    have hkl : k < T 0 5 := by omega
    obtain ⟨c1, c2⟩ := Rc.2.2.2.2.2.2.2.1 k hkl
    obtain ⟨m1, m2⟩ := Rm.2.2.2.2.2.2.2.1 k hkl
    obtain ⟨f1, f2⟩ := F.2.2.2.2.2.2.2.2.1 k hkl
    have e0 := dref_of (q := (7, 20)) w.1 (sS hS)
    have hn : hI hc W 1 = hI hm 143 b := w.2.2.2.2.2.2.1
    rw [fX8_stuffTold_2, fX10_nightGoes_2]
    by_cases q : nI (T 15 k) = hI hm 143 b
    · obtain ⟨w1, w2, w3, w4, w5, ⟨sh, w6, w7, w8⟩, w9, w10⟩ := w
      have hsh : sh < 2 ^ 31 := Nat.lt_of_lt_of_le w6 (Nat.pow_le_pow_right (by decide) (by omega))
      have x1 : FC1 W hc (uI (uI hc (W + 1) (T 14 k) (nI 99)) W 2 (nI (nob sh (2 ^ T 14 k)))) := Fr.uI (Fr.uI Fr.rf (by unfold PcK; omega)) (by unfold PcK; omega)
      have x2 : FM1 b hm (uI (uI hm 137 (5 * b + T 14 k) (nI 99)) 138 (5 * b + T 14 k) (nI 0)) := Fr.uI (Fr.uI Fr.rf (by unfold PmK; omega)) (by unfold PmK; omega)
      have w' : RW (uI (uI hc (W + 1) (T 14 k) (nI 99)) W 2 (nI (nob sh (2 ^ T 14 k)))) (uI (uI hm 137 (5 * b + T 14 k) (nI 99)) 138 (5 * b + T 14 k) (nI 0)) S W b T := by
        refine ⟨w1, ?_, ?_, ?_, ?_, ⟨nob sh (2 ^ T 14 k), Nat.lt_of_le_of_lt (nob_le _ _) w6, hI_at ⟨rfl, rfl⟩, ?_⟩, ?_, ?_⟩
        · intro i hi
          by_cases qi : i = T 14 k
          · subst qi
            exact ⟨99, by omega, by rw [hI_ne (by omega), hI_at ⟨rfl, rfl⟩], by rw [hI_ne (by omega), hI_at ⟨rfl, rfl⟩]⟩
          · obtain ⟨n, n1, n2, n3⟩ := w2 i hi
            exact ⟨n, n1, by rw [hI_ne (by omega), hI_ne (by omega), n2], by rw [hI_ne (by omega), hI_ne (by omega), n3]⟩
        · intro i hi h2
          rw [hI_ne (by omega), hI_ne (by omega)]; exact w3 i hi h2
        · intro i hi
          rw [hI_ne (by omega), hI_ne (by omega), hI_ne (by omega), hI_ne (by omega)]; exact w4 i hi
        · intro i hi
          rw [hI_ne (by omega), hI_ne (by omega), hI_ne (by omega), hI_ne (by omega), hI_ne (by omega), hI_ne (by omega), hI_ne (by omega), hI_ne (by omega)]; exact w5 i hi
        · intro i hi
          by_cases qi : i = T 14 k
          · subst qi
            rw [hI_at ⟨rfl, rfl⟩]
            unfold bn
            rw [nob_tb (by omega), tb_pow]; simp
          · rw [hI_ne (by omega), hI_ne (by omega), w8 i hi]
            unfold bn
            rw [nob_tb (by omega), tb_pow]
            have : ¬ T 14 k = i := fun z => qi z.symm
            simp [this]
        · rw [hI_ne (by omega), hI_ne (by omega), hI_ne (by omega), hI_ne (by omega)]; exact w9
        · rw [hI_ne (by omega), hI_ne (by omega), hI_ne (by omega), hI_ne (by omega)]; exact w10
      obtain ⟨hc', hm', a1, a2, a3, a4, a5⟩ := s_stuff hS hW hb F d (k + 1) fu fu' _ _ (by omega) (by omega) (by omega) (FC1_RSc hS hW Rc x1) (FM1_RSm Rm x2) w'
      refine ⟨hc', hm', ?_, ?_, a3, Fr.tr x1 a4, Fr.tr x2 a5⟩
      · have q' : nI (T 15 k) = hI hc W 1 := by rw [hn]; exact q
        simp (disch := omega) only [lit, e0, bind_some', Rc.1.2.2.2.2.2.1, ↓reduceIte, leT, leF, ltT, ltF, eqT, eqF, inbN, nI_clamp, rS11 hS, rS12 hS, c1, c2, q', fX8_isStraw, bnd_some, rW5 hW, hI_ne, w7, shl1, nx_n, fX8_stuffTold_75, nI_add]
        exact a1
      · simp (disch := omega) only [lit, Rm.1.2.2.2.2.2.1, ↓reduceIte, leT, leF, inbN, nI_clamp, m1, m2, q, pk_mul, nI_add, hI_ne, fX10_nightGoes_61]
        exact a2
    · obtain ⟨hc', hm', a1, a2, a3, a4, a5⟩ := s_stuff hS hW hb F d (k + 1) fu fu' hc hm (by omega) (by omega) (by omega) Rc Rm w
      refine ⟨hc', hm', ?_, ?_, a3, a4, a5⟩
      · have q' : ¬ nI (T 15 k) = hI hc W 1 := by rw [hn]; exact q
        simp (disch := omega) only [lit, e0, bind_some', Rc.1.2.2.2.2.2.1, ↓reduceIte, leT, leF, inbN, nI_clamp, rS11 hS, rS12 hS, c1, c2, q', fX8_stuffTold_75, nI_add]
        exact a1
      · simp (disch := omega) only [lit, Rm.1.2.2.2.2.2.1, ↓reduceIte, leT, leF, inbN, nI_clamp, m1, m2, q, nI_add, fX10_nightGoes_61]
        exact a2
