/-! A debate's outcome, both sides. -/
/-- is he turned? -/
def trT (T : Tx) (nm : Nat → Int64) : Bool := decide (T 16 2 = 1) && match lawV (T 20) nm (T 17 2) with
  | none => false
  | some v => decide (v ≠ 0)
/-- full, what he holds, won, beaten behind a debate -/
def flT (T : Tx) (bw nw s fl hl : Nat) (wn nt : Int32) : Nat := if wnT T bw s fl hl wn nt = 1 then fl - (if nw = 1 then 0 else blN T 1 (nmT T bw s fl hl wn nt) 99 10) else fl
def hlT (T : Tx) (bw s fl hl : Nat) (wn nt : Int32) : Nat := if wnT T bw s fl hl wn nt = 1 then hl else if trT T (nmT T bw s fl hl wn nt) then hl ||| 2 ^ T 7 s else hl
def woT (T : Tx) (bw s fl hl : Nat) (wn nt : Int32) : Int32 := if wnT T bw s fl hl wn nt = 1 then wn + 1 else wn
def beT (T : Tx) (bw s fl hl : Nat) (wn nt bt : Int32) : Int32 := if wnT T bw s fl hl wn nt = 1 then bt else bt + 1
theorem sub_gtP {a b : Nat} (ha : a < 2 ^ 30) (hb : b < 2 ^ 30) : (nI 0 < nI a - nI b) = (b < a) := by
  rw [Int32.lt_iff_toInt_lt, pk_sub_toInt ha hb, nI_toInt (by omega)]
  exact propext ⟨fun h => by omega, fun h => by omega⟩
theorem mx0 {a b : Nat} (ha : a < 2 ^ 30) (hb : b < 2 ^ 30) : (if nI 0 < nI a - nI b then nI a - nI b else nI 0) = nI (a - b) := by
  by_cases q : b < a
  · rw [if_pos (by rw [sub_gtP ha hb]; exact q), pk_sub (by omega)]
  · rw [if_neg (by rw [sub_gtP ha hb]; exact q), show a - b = 0 by omega]
/-- what a debate of member m with straw s changes -/
def PdI (W m s a i : Nat) : Prop := (a = W + 1 ∧ i = s) ∨ ((a = W + 2 ∨ a = W + 3 ∨ a = W + 4) ∧ i = m)
theorem x_contend {h : Hp} {S W : Nat} {T : Tx} (hS : isS S) (hW : isW W) (R : RSc h S T) (F : WFT T) (hr : hR h W 0 = some S) {m s bw nw hl fl : Nat} {wn nt bt : Int32} (hm : m < 5) (hs : s < T 0 2) (hbw : hI h W 13 = nI bw) (hbw1 : bw ≤ 1) (hnw : hI h W 12 = nI nw) (hnw1 : nw ≤ 1) (hh : hI h (W + 2) m = nI hl) (hl2 : hl < 2 ^ T 0 0) (hf : hI h (W + 1) s = nI fl) (hfl : fl ≤ 99) (hwn : hI h (W + 3) m = wn) (hbt : hI h (W + 4) m = bt) (hnt : hI h W 1 = nt) : ∃ h', fX8_contend W h (nI m) (nI s) = some (nI (wnT T bw s fl hl wn nt), h') ∧ hI h' (W + 1) s = nI (flT T bw nw s fl hl wn nt) ∧ hI h' (W + 2) m = nI (hlT T bw s fl hl wn nt) ∧ hI h' (W + 3) m = woT T bw s fl hl wn nt ∧ hI h' (W + 4) m = beT T bw s fl hl wn nt bt ∧ Fr (PdI W m s) (fun a _ => PcJ W a) h h' := by
  have hs5 := F.1.2.2.1
  have h8 := F.1.1
  have hWge : W ≥ 72 := by rcases hW with rfl | rfl | rfl <;> decide
  obtain ⟨-, hc, -⟩ := F.2.2.2.1 s hs
  obtain ⟨h1, a1, a2, a3⟩ := x_wins hS hW R F hr hm hs hbw hbw1 hh hl2 hf hfl hwn hnt
  have R1 : RSc h1 S T := RSc_Fr hS R a3 (fun _ _ _ _ q => q)
  have hr1 : hR h1 W 0 = some S := by rw [a3.2.2]; exact hr
  have e1 : ∀ a i, hI h1 a i = hI h a i := fun a i => a3.1 a i (fun q => q)
  have s1 : Fr (PdI W m s) (fun a _ => PcJ W a) h h1 := a3.mono (fun _ _ q => q.elim) (fun _ _ q => q)
  have hnw1' : hI h1 W 12 = nI nw := by rw [e1]; exact hnw
  have hf1 : hI h1 (W + 1) s = nI fl := by rw [e1]; exact hf
  have head : ∀ k : Int32 → Hp → Option (Int32 × Hp), bnd (fX8_isMember W h (nI m)) (fun v_1 h_2 => if v_1 = 0 then some ((0 : Int32), h_2) else bnd (fX8_isStraw W h_2 (nI s)) (fun v_4 h_5 => if v_4 = 0 then some ((0 : Int32), h_5) else bnd (fX8_winsNow W h_5 (nI m) (nI s)) k)) = k (nI (wnT T bw s fl hl wn nt)) h1 := by
    intro k
    unfold fX8_isMember fX8_isStraw
    simp (disch := omega) only [lit, ↓reduceIte, leT, leF, ltT, ltF, eqT, eqF, bnd_some, a1]
  unfold fX8_contend
  rw [head]
  unfold flT hlT woT beT
  by_cases q : wnT T bw s fl hl wn nt = 1
  · rw [q]
    simp only [if_true]
    rw [if_neg (by decide)]
    by_cases qn : nw = 1
    · subst qn
      refine ⟨uI h1 (W + 3) m (wn + 1), ?_, ?_, ?_, ?_, ?_, s1.uI (Or.inr ⟨Or.inr (Or.inl rfl), rfl⟩)⟩
      · unfold fX8_contend_65
        simp (disch := omega) only [lit, hnw1', ↓reduceIte, leT, leF, ltT, ltF, eqT, eqF, inbN, nI_clamp, rW7 hW, e1, hwn]
        try rfl
      · rw [hI_ne (by omega), hf1, if_pos rfl, Nat.sub_zero]
      · rw [hI_ne (by omega), e1, hh]
      · rw [hI_at ⟨rfl, rfl⟩]
      · rw [hI_ne (by omega), e1, hbt]
    · have qn0 : nw = 0 := by omega
      subst qn0
      obtain ⟨h2, b1, b2⟩ := x_boundLaw (w := 1) (most := 99) (oth := 10) hS hW R1 F hr1 (by decide) (by decide) a2 (fun i _ => nmT_bd i)
      have hbl : blN T 1 (nmT T bw s fl hl wn nt) 99 10 ≤ 99 := blN_le (by decide) (by decide)
      have e2 : ∀ a i, hI h2 a i = hI h a i := fun a i => by rw [b2.1 a i (fun q => q), e1]
      have s2 : Fr (PdI W m s) (fun a _ => PcJ W a) h h2 := s1.tr (b2.mono (fun _ _ q => q.elim) (fun _ _ q => Or.inr q))
      refine ⟨uI (uI h2 (W + 1) s (nI (fl - blN T 1 (nmT T bw s fl hl wn nt) 99 10))) (W + 3) m (wn + 1), ?_, ?_, ?_, ?_, ?_, (s2.uI (Or.inl ⟨rfl, rfl⟩)).uI (Or.inr ⟨Or.inr (Or.inl rfl), rfl⟩)⟩
      · unfold fX8_contend_65
        rw [show (99 : Int64) = lN 99 from rfl, show (10 : Int64) = lN 10 from rfl]
        simp (disch := omega) only [lit, hnw1', ↓reduceIte, leT, leF, ltT, ltF, eqT, eqF]
        rw [b1]
        simp (disch := omega) only [bnd_some, ↓reduceIte, leT, leF, ltT, ltF, eqT, eqF, inbN, nI_clamp, rW5 hW, rW7 hW, e2, hf, lN_i, mx0, hI_ne, hwn]
        try rfl
      · rw [hI_ne (by omega), hI_at ⟨rfl, rfl⟩, if_neg (by decide)]
      · rw [hI_ne (by omega), hI_ne (by omega), e2, hh]
      · rw [hI_at ⟨rfl, rfl⟩]
      · rw [hI_ne (by omega), hI_ne (by omega), e2, hbt]
  · have q0 : wnT T bw s fl hl wn nt = 0 := by unfold wnT at q ⊢; split <;> simp_all
    rw [q0]
    simp only [if_neg (show ¬ (0 : Nat) = 1 by decide)]
    rw [if_pos (show nI 0 = 0 from rfl)]
    obtain ⟨r1, r2, -⟩ := R1.2.2.2.2.2.2.2.2 2 (by decide)
    have ht1 := (F.2.2.2.2.2.2.2.2.2 2 (by decide)).1
    have d0 := dref_of (q := (7, 20)) hr1 (sS hS)
    have d1 := dref_of (q := (1, 4)) r1 (sL hS (by decide))
    have nottold : ∀ (h2 : Hp), (∀ a i, hI h2 a i = hI h a i) → Fr (PdI W m s) (fun a _ => PcJ W a) h h2 → trT T (nmT T bw s fl hl wn nt) = false → ∃ h', fX8_contend_116 W h2 (nI m) = some (nI 0, h') ∧ hI h' (W + 1) s = nI fl ∧ hI h' (W + 2) m = nI (if trT T (nmT T bw s fl hl wn nt) = true then hl ||| 2 ^ T 7 s else hl) ∧ hI h' (W + 3) m = wn ∧ hI h' (W + 4) m = bt + 1 ∧ Fr (PdI W m s) (fun a _ => PcJ W a) h h' := by
      intro h2 e2 s2 htr
      refine ⟨uI h2 (W + 4) m (bt + 1), ?_, ?_, ?_, ?_, ?_, s2.uI (Or.inr ⟨Or.inr (Or.inr rfl), rfl⟩)⟩
      · unfold fX8_contend_116
        simp (disch := omega) only [↓reduceIte, leT, leF, ltT, ltF, eqT, eqF, inbN, nI_clamp, rW8 hW, e2, hbt]
        try rfl
      · rw [hI_ne (by omega), e2, hf]
      · rw [hI_ne (by omega), e2, hh, htr]; rfl
      · rw [hI_ne (by omega), e2, hwn]
      · rw [hI_at ⟨rfl, rfl⟩]
    by_cases qt : T 16 2 = 1
    · obtain ⟨h2, b1, b2⟩ := x_lawfacts hS hW R1 F (show 2 < 3 by decide) a2 (fun i _ => nmT_bd i) qt
      have e2 : ∀ a i, hI h2 a i = hI h a i := fun a i => by rw [b2.1 a i (fun q => q), e1]
      have s2 : Fr (PdI W m s) (fun a _ => PcJ W a) h h2 := s1.tr (b2.mono (fun _ _ q => q.elim) (fun _ _ q => Or.inr q))
      have hr2 : hR h2 W 0 = some S := by rw [b2.2.2]; exact hr1
      have P := (F.2.2.2.2.2.2.2.2.2 2 (by decide)).2 qt
      rw [qt] at r2
      have elv : fX8_lawValue W h1 (nI 2) = some ((lawV (T (18 + 2)) (nmT T bw s fl hl wn nt) (T 17 2)).getD (-9223372036854775808), h2) := by
        unfold fX8_lawValue
        simp (disch := omega) only [lit, ↓reduceIte, leT, leF, ltT, ltF, eqT, eqF, d0, bind_some', inbN, nI_clamp, rS17 hS, d1, r2, rW9 hW, b1, bnd_some]
      simp only [lit, elv, bnd_some, lgc_eq]
      cases hv : lawV (T (18 + 2)) (nmT T bw s fl hl wn nt) (T 17 2) with
      | none =>
        rw [Option.getD_none, if_pos rfl]
        exact nottold h2 e2 s2 (by unfold trT; rw [show T 20 = T (18 + 2) from rfl, hv]; simp)
      | some v =>
        rw [Option.getD_some, if_neg (bd_ne (lawV_bd (fun i _ => nmT_bd i) P hv))]
        by_cases qv : v = 0
        · rw [if_pos qv]
          exact nottold h2 e2 s2 (by unfold trT; rw [show T 20 = T (18 + 2) from rfl, hv]; simp [qv])
        · rw [if_neg qv]
          have htr : trT T (nmT T bw s fl hl wn nt) = true := by unfold trT; rw [show T 20 = T (18 + 2) from rfl, hv]; simp [qv, qt]
          obtain ⟨-, r7, -⟩ := R.2.2.2.2.1 s hs
          have d2 := dref_of (q := (7, 20)) hr2 (sS hS)
          refine ⟨uI (uI h2 (W + 2) m (nI (hl ||| 2 ^ T 7 s))) (W + 4) m (bt + 1), ?_, ?_, ?_, ?_, ?_, (s2.uI (Or.inr ⟨Or.inl rfl, rfl⟩)).uI (Or.inr ⟨Or.inr (Or.inr rfl), rfl⟩)⟩
          · unfold fX8_contend_116 fX7_claimOf
            simp (disch := omega) only [lit, ↓reduceIte, leT, leF, ltT, ltF, eqT, eqF, inbN, nI_clamp, d2, bind_some', rS2 hS, e2, r7, bnd_some, rW6 hW, rW8 hW, hh, shl1, nx_o, hI_ne, hbt]
          · rw [hI_ne (by omega), hI_ne (by omega), e2, hf]
          · rw [hI_ne (by omega), hI_at ⟨rfl, rfl⟩, htr]; rfl
          · rw [hI_ne (by omega), hI_ne (by omega), e2, hwn]
          · rw [hI_at ⟨rfl, rfl⟩]; rfl
    · have qt0 : T 16 2 = 0 := by omega
      rw [qt0] at r2
      have elv : fX8_lawValue W h1 (nI 2) = some ((-9223372036854775808 : Int64), h1) := by
        unfold fX8_lawValue
        simp (disch := omega) only [lit, ↓reduceIte, leT, leF, ltT, ltF, eqT, eqF, d0, bind_some', inbN, nI_clamp, rS17 hS, d1, r2]
      simp only [lit, elv, bnd_some, lgc_eq]
      rw [if_pos True.intro]
      exact nottold h1 e1 s1 (by unfold trT; rw [qt0]; rfl)
def PeI (b m s a i : Nat) : Prop := (a = 107 ∧ i = 59) ∨ (a = 137 ∧ i = 5 * b + s) ∨ ((a = 139 ∨ a = 140 ∨ a = 141) ∧ i = 5 * b + m)
theorem m_contend {h : Hp} {T : Tx} (R : RSm h T) (F : WFT T) {b m s bw nw hl fl : Nat} {wn nt bt : Int32} (hb : b ≤ 1) (hm : m < 5) (hs : s < T 0 2) (hbw : hI h 107 71 = nI bw) (hbw1 : bw ≤ 1) (hnw : hI h 107 70 = nI nw) (hnw1 : nw ≤ 1) (hh : hI h 139 (5 * b + m) = nI hl) (hl2 : hl < 2 ^ T 0 0) (hf : hI h 137 (5 * b + s) = nI fl) (hfl : fl ≤ 99) (hwn : hI h 140 (5 * b + m) = wn) (hbt : hI h 141 (5 * b + m) = bt) (hnt : hI h 143 b = nt) : ∃ h', fX10_debatesOne h (nI b) (nI m) (nI s) = some (nI (wnT T bw s fl hl wn nt), h') ∧ hI h' 137 (5 * b + s) = nI (flT T bw nw s fl hl wn nt) ∧ hI h' 139 (5 * b + m) = nI (hlT T bw s fl hl wn nt) ∧ hI h' 140 (5 * b + m) = woT T bw s fl hl wn nt ∧ hI h' 141 (5 * b + m) = beT T bw s fl hl wn nt bt ∧ Fr (PeI b m s) (fun a _ => a = 135 ∨ a = 136) h h' := by
  have hs5 := F.1.2.2.1
  have h8 := F.1.1
  obtain ⟨-, hc, -⟩ := F.2.2.2.1 s hs
  obtain ⟨h1, a1, a3⟩ := m_wins R F hb hm hs hbw hbw1 hh hl2 hf hfl hwn hnt
  have R1 : RSm h1 T := RSm_Fr R a3 (fun _ _ _ q => by omega)
  have e1 : ∀ a i, a ≠ 107 ∨ i ≠ 59 → hI h1 a i = hI h a i := fun a i z => a3.1 a i (by omega)
  obtain ⟨h2, b1, b2, b3⟩ := m_names (b := b) (m := m) (s := s) (bw := bw) (hl := hl) (fl := fl) (wn := wn) (nt := nt) R1 F hb hm hs (by rw [e1 _ _ (by omega)]; exact hbw) hbw1 (by rw [e1 _ _ (by omega)]; exact hh) hl2 (by rw [e1 _ _ (by omega)]; exact hf) (by rw [e1 _ _ (by omega)]; exact hwn) (by rw [e1 _ _ (by omega)]; exact hnt)
  have R2 : RSm h2 T := RSm_Fr R1 b3 (fun _ _ _ q => q)
  have e2 : ∀ a i, a ≠ 107 ∨ i ≠ 59 → hI h2 a i = hI h a i := fun a i z => by rw [b3.1 a i (fun q => q), e1 a i z]
  have s2 : Fr (PeI b m s) (fun a _ => a = 135 ∨ a = 136) h h2 := (a3.mono (fun _ _ q => Or.inl q) (fun _ _ q => q)).tr ((FML_1 b3).mono (fun _ _ q => Or.inl q) (fun _ _ q => q))
  unfold fX10_debatesOne
  rw [a1]
  simp only [bnd_some]
  rw [b1]
  simp only [bind_some', lit]
  unfold flT hlT woT beT
  by_cases q : wnT T bw s fl hl wn nt = 1
  · rw [q]
    simp only [if_true]
    rw [if_neg (by decide), e2 107 70 (by omega), hnw]
    have k41 : ∀ (h3 : Hp) (ls : Nat), ls ≤ 99 → (∀ a i, a ≠ 107 ∨ i ≠ 59 → hI h3 a i = hI h a i) → Fr (PeI b m s) (fun a _ => a = 135 ∨ a = 136) h h3 → ∃ h', fX10_debatesOne_41 h3 (nI b) (nI m) (nI s) (nI ls) = some (nI 1, h') ∧ hI h' 137 (5 * b + s) = nI (fl - ls) ∧ hI h' 139 (5 * b + m) = nI hl ∧ hI h' 140 (5 * b + m) = wn + 1 ∧ hI h' 141 (5 * b + m) = bt ∧ Fr (PeI b m s) (fun a _ => a = 135 ∨ a = 136) h h' := by
      intro h3 ls hls e3 s3
      refine ⟨uI (uI h3 140 (5 * b + m) (wn + 1)) 137 (5 * b + s) (nI (fl - ls)), ?_, ?_, ?_, ?_, ?_, (s3.uI (Or.inr (Or.inr ⟨Or.inr (Or.inl rfl), rfl⟩))).uI (Or.inr (Or.inl ⟨rfl, rfl⟩))⟩
      · unfold fX10_debatesOne_41
        simp (disch := omega) only [lit, pk_mul, nI_add, inbN, ↓reduceIte, leT, leF, ltT, ltF, eqT, eqF, nI_clamp, hI_ne, e3, hwn, hf]
        by_cases ql : fl ≤ ls
        · rw [if_pos (nI_le ql (by omega)), show fl - ls = 0 by omega]
        · rw [if_neg (nI_ge (by omega) (by omega)), pk_sub (by omega)]
      · rw [hI_at ⟨rfl, rfl⟩]
      · rw [hI_ne (by omega), hI_ne (by omega), e3 _ _ (by omega), hh]
      · rw [hI_ne (by omega), hI_at ⟨rfl, rfl⟩]
      · rw [hI_ne (by omega), hI_ne (by omega), e3 _ _ (by omega), hbt]
    by_cases qn : nw = 1
    · subst qn
      rw [if_neg (by decide), if_pos rfl]
      exact k41 h2 0 (by decide) e2 s2
    · have qn0 : nw = 0 := by omega
      subst qn0
      obtain ⟨h3, c1, c2⟩ := m_boundLaw (w := 1) (most := 99) (oth := 10) R2 F (by decide) (by decide) b2 (fun i _ => nmT_bd i)
      rw [if_pos rfl, c1, if_neg (by decide)]
      exact k41 h3 _ (blN_le (by decide) (by decide)) (fun a i z => by rw [c2.1 a i (by omega), e2 a i z]) (s2.tr ((FML_2 c2).mono (fun _ _ q => Or.inl q) (fun _ _ q => q)))
  · have q0 : wnT T bw s fl hl wn nt = 0 := by unfold wnT at q ⊢; split <;> simp_all
    rw [q0]
    simp only [if_neg (show ¬ (0 : Nat) = 1 by decide)]
    rw [if_pos True.intro]
    obtain ⟨r1, r2⟩ := R2.2.2.2.2.2.2.2.2 2 (by decide)
    have ht1 := (F.2.2.2.2.2.2.2.2.2 2 (by decide)).1
    have nott : ∀ (h3 : Hp) (x : Nat), x ≤ 1 → (x = 1 → hI h3 107 59 = nI 1) → (∀ a i, a ≠ 107 ∨ i ≠ 59 → hI h3 a i = hI h a i) → Fr (PeI b m s) (fun a _ => a = 135 ∨ a = 136) h h3 → trT T (nmT T bw s fl hl wn nt) = false → ∃ h', fX10_debatesOne_125 h3 (nI b) (nI m) (nI s) (nI x) = some (nI 0, h') ∧ hI h' 137 (5 * b + s) = nI fl ∧ hI h' 139 (5 * b + m) = nI (if trT T (nmT T bw s fl hl wn nt) = true then hl ||| 2 ^ T 7 s else hl) ∧ hI h' 140 (5 * b + m) = wn ∧ hI h' 141 (5 * b + m) = bt + 1 ∧ Fr (PeI b m s) (fun a _ => a = 135 ∨ a = 136) h h' := by
      intro h3 x hx hx1 e3 s3 htr
      refine ⟨uI h3 141 (5 * b + m) (bt + 1), ?_, ?_, ?_, ?_, ?_, s3.uI (Or.inr (Or.inr ⟨Or.inr (Or.inr rfl), rfl⟩))⟩
      · unfold fX10_debatesOne_125
        by_cases qx : x = 0
        · subst qx
          simp (disch := omega) only [lit, pk_mul, nI_add, inbN, ↓reduceIte, leT, leF, ltT, ltF, eqT, eqF, nI_clamp, e3, hbt]
          try rfl
        · have qx1 : x = 1 := by omega
          subst qx1
          have h59 := hx1 rfl
          simp (disch := omega) only [lit, pk_mul, nI_add, inbN, ↓reduceIte, leT, leF, ltT, ltF, eqT, eqF, nI_clamp, hI_ne, h59, e3, hbt]
          try rfl
      · rw [hI_ne (by omega), e3 _ _ (by omega), hf]
      · rw [hI_ne (by omega), e3 _ _ (by omega), hh, htr]; rfl
      · rw [hI_ne (by omega), e3 _ _ (by omega), hwn]
      · rw [hI_at ⟨rfl, rfl⟩]
    by_cases qt : T 16 2 = 1
    · obtain ⟨f, f1, f2, f3, f4⟩ := r2 qt
      have P := (F.2.2.2.2.2.2.2.2.2 2 (by decide)).2 qt
      obtain ⟨h3, c1, c2, c3⟩ := m_lawOf (show 2 < 3 by decide) f1 f2 f3 f4 P (fun i _ => nmT_bd i) b2
      have e3 : ∀ a i, a ≠ 107 ∨ i ≠ 59 → hI h3 a i = hI h a i := fun a i z => by rw [c3.1 a i (by omega), e2 a i z]
      have s3 := s2.tr ((FML_2 c3).mono (QI := PeI b m s) (fun _ _ q => Or.inl q) (fun _ _ q => q))
      rw [qt] at r1
      simp (disch := omega) only [inbN, ↓reduceIte, leT, leF, ltT, ltF, eqT, eqF, nI_clamp, r1, c1, bnd_some, lgc_eq]
      cases hv : lawV (T (18 + 2)) (nmT T bw s fl hl wn nt) (T 17 2) with
      | none =>
        rw [Option.getD_none, if_pos rfl]
        exact nott h3 0 (by decide) (fun z => absurd z (by decide)) e3 s3 (by unfold trT; rw [show T 20 = T (18 + 2) from rfl, hv]; simp)
      | some v =>
        rw [Option.getD_some]
        rw [hv] at c2
        have c2 : hI h3 107 59 = nI 0 := c2
        by_cases qv : v = 0
        · rw [if_pos qv]
          exact nott h3 0 (by decide) (fun z => absurd z (by decide)) e3 s3 (by unfold trT; rw [show T 20 = T (18 + 2) from rfl, hv]; simp [qv])
        · rw [if_neg qv]
          have htr : trT T (nmT T bw s fl hl wn nt) = true := by unfold trT; rw [show T 20 = T (18 + 2) from rfl, hv]; simp [qv, qt]
          obtain ⟨-, r7, -⟩ := R.2.2.2.1 s hs
          refine ⟨uI (uI h3 141 (5 * b + m) (bt + 1)) 139 (5 * b + m) (nI (hl ||| 2 ^ T 7 s)), ?_, ?_, ?_, ?_, ?_, (s3.uI (Or.inr (Or.inr ⟨Or.inr (Or.inr rfl), rfl⟩))).uI (Or.inr (Or.inr ⟨Or.inl rfl, rfl⟩))⟩
          · unfold fX10_debatesOne_125
            simp (disch := omega) only [lit, pk_mul, nI_add, inbN, ↓reduceIte, leT, leF, ltT, ltF, eqT, eqF, nI_clamp, hI_ne, c2, e3, hbt, hh, r7, shl1, nx_o]
            try rfl
          · rw [hI_ne (by omega), hI_ne (by omega), e3 _ _ (by omega), hf]
          · rw [hI_at ⟨rfl, rfl⟩, htr]; rfl
          · rw [hI_ne (by omega), hI_ne (by omega), e3 _ _ (by omega), hwn]
          · rw [hI_ne (by omega), hI_at ⟨rfl, rfl⟩]
    · have qt0 : T 16 2 = 0 := by omega
      rw [qt0] at r1
      simp (disch := omega) only [inbN, ↓reduceIte, leT, leF, ltT, ltF, eqT, eqF, nI_clamp, r1]
      unfold fX10_debatesOne_124
      exact nott h2 0 (by decide) (fun z => absurd z (by decide)) e2 s2 (by unfold trT; rw [qt0]; rfl)
