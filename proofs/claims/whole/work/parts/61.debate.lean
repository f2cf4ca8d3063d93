/-! One debate, both sides. -/
/-- a law's value within its bounds -/
def blN (T : Tx) (w : Nat) (nm : Nat → Int64) (most oth : Nat) : Nat := if T 16 w = 0 then oth else match lawV (T (18 + w)) nm (T 17 w) with
  | none => oth
  | some v => min most v.toInt.toNat
theorem lawV_bd {p : Nat → Nat} {nm : Nat → Int64} {m : Nat} {v : Int64} (hn : ∀ i, i < 7 → bd (nm i)) (P : Pf p m) (h : lawV p nm m = some v) : bd v := by
  unfold lawV at h
  obtain ⟨l, hl, rfl⟩ := Option.map_eq_some_iff.mp h
  exact bdL_head (evS_bd hn P.2.2 hl)
theorem i64_nat {v : Int64} (h : 0 ≤ v) : v = lN v.toInt.toNat := by
  obtain ⟨k, hk, rfl⟩ := pk_lOf (Int64.not_lt.mpr h)
  rw [pk_lT hk]; rfl
theorem mnL {v : Int64} {most : Nat} (hm : most < 2 ^ 62) : (if 0 ≤ v then (if v ≤ lN most then v else lN most) else 0) = lN (min most v.toInt.toNat) := by
  by_cases q : 0 ≤ v
  · have e := i64_nat q
    have hb : v.toInt.toNat < 2 ^ 63 := by
      have := Int64.toInt_lt v
      omega
    rw [if_pos q]
    by_cases q2 : v ≤ lN most
    · rw [if_pos q2]
      have : v.toInt.toNat ≤ most := by rw [e] at q2; exact (pk_lLE hb (by omega)).mp q2
      rw [Nat.min_eq_right this]; exact e
    · rw [if_neg q2]
      have : ¬ v.toInt.toNat ≤ most := fun z => q2 (by rw [e]; exact (pk_lLE hb (by omega)).mpr z)
      rw [Nat.min_eq_left (by omega)]
  · rw [if_neg q]
    have : v.toInt < 0 := by
      have := mt lge.mpr q
      rw [show (0 : Int64).toInt = 0 from rfl] at this
      omega
    rw [show v.toInt.toNat = 0 by omega, Nat.min_zero]; rfl
theorem x_lawfacts {h : Hp} {S W w : Nat} {T : Tx} (hS : isS S) (hW : isW W) (R : RSc h S T) (F : WFT T) (hw : w < 3) {nm : Nat → Int64} (hN : ∀ i, i < 7 → hJ h (W + 5) i = nm i) (hn : ∀ i, i < 7 → bd (nm i)) (ht : T 16 w = 1) : ∃ h', fX1_value (S + 25 + 3 * w) (W + 5) 7 h = some ((lawV (T (18 + w)) nm (T 17 w)).getD (-9223372036854775808), h') ∧ Fr (fun _ _ => False) (fun a _ => a < 69) h h' := by
  obtain ⟨-, -, r3⟩ := R.2.2.2.2.2.2.2.2 w hw
  obtain ⟨r4, r5⟩ := r3 ht
  have P := (F.2.2.2.2.2.2.2.2.2 w hw).2 ht
  have hWS : W + 5 ≠ S + 27 + 3 * w ∧ S + 27 + 3 * w < 69 := by
    rcases hW with rfl | rfl | rfl <;> rcases hS with rfl | rfl <;> omega
  obtain ⟨h', a, b⟩ := x_value (rL2 hS hw) (rL3 hS hw) hWS.1 P hn ⟨r4, r5, hN⟩
  exact ⟨h', a, b.mono (fun _ _ q => q) (fun x i q => by omega)⟩
theorem x_boundLaw {h : Hp} {S W w most oth : Nat} {T : Tx} (hS : isS S) (hW : isW W) (R : RSc h S T) (F : WFT T) (hr : hR h W 0 = some S) (hw : w < 3) (hm : most < 2 ^ 62) {nm : Nat → Int64} (hN : ∀ i, i < 7 → hJ h (W + 5) i = nm i) (hn : ∀ i, i < 7 → bd (nm i)) : ∃ h', fX8_boundLaw W h (nI w) (lN most) (lN oth) = some (lN (blN T w nm most oth), h') ∧ Fr (fun _ _ => False) (fun a _ => a < 69) h h' := by
  obtain ⟨r1, r2, -⟩ := R.2.2.2.2.2.2.2.2 w hw
  have ht1 := (F.2.2.2.2.2.2.2.2.2 w hw).1
  have e0 := dref_of (q := (7, 20)) hr (sS hS)
  have e1 := dref_of (q := (1, 4)) r1 (sL hS hw)
  unfold blN
  by_cases q : T 16 w = 0
  · refine ⟨h, ?_, Fr.rf⟩
    rw [q] at r2
    unfold fX8_boundLaw
    simp (disch := omega) only [lit, ↓reduceIte, leT, leF, ltT, ltF, eqT, eqF, e0, bind_some', inbN, nI_clamp, rS17 hS, e1, r2, q]
  · have ht : T 16 w = 1 := by omega
    obtain ⟨h', a, b⟩ := x_lawfacts hS hW R F hw hN hn ht
    refine ⟨h', ?_, b⟩
    rw [ht] at r2
    have P := (F.2.2.2.2.2.2.2.2.2 w hw).2 ht
    unfold fX8_boundLaw
    simp (disch := omega) only [lit, ↓reduceIte, leT, leF, ltT, ltF, eqT, eqF, e0, bind_some', inbN, nI_clamp, rS17 hS, e1, r2, rW9 hW, a, bnd_some, lgc_eq, lgc_ge, lgc_le, ht]
    cases hv : lawV (T (18 + w)) nm (T 17 w) with
    | none => rw [Option.getD_none, if_pos rfl]; rfl
    | some v =>
      have hb := lawV_bd hn P hv
      rw [Option.getD_some, if_neg (bd_ne hb)]
      show _ = some (lN (min most v.toInt.toNat), h')
      rw [← mnL hm]
      repeat' split
      all_goals rfl
theorem m_boundLaw {h : Hp} {w most oth : Nat} {T : Tx} (R : RSm h T) (F : WFT T) (hw : w < 3) (hm : most < 2 ^ 31) {nm : Nat → Int64} (hN : ∀ i, i < 7 → hJ h 135 i = nm i) (hn : ∀ i, i < 7 → bd (nm i)) : ∃ h', fX10_boundLaw h (nI w) (nI oth) (nI most) = some (nI (blN T w nm most oth), h') ∧ ML59 h h' := by
  obtain ⟨r1, r2⟩ := R.2.2.2.2.2.2.2.2 w hw
  have ht1 := (F.2.2.2.2.2.2.2.2.2 w hw).1
  unfold blN
  by_cases q : T 16 w = 0
  · refine ⟨h, ?_, Fr.rf⟩
    rw [q] at r1
    unfold fX10_boundLaw
    simp (disch := omega) only [lit, ↓reduceIte, leT, leF, ltT, ltF, eqT, eqF, inbN, nI_clamp, r1, q]
  · have ht : T 16 w = 1 := by omega
    obtain ⟨f, f1, f2, f3, f4⟩ := r2 ht
    have P := (F.2.2.2.2.2.2.2.2.2 w hw).2 ht
    obtain ⟨h', a, b, c⟩ := m_lawOf hw f1 f2 f3 f4 P hn hN
    refine ⟨h', ?_, c⟩
    rw [ht] at r1
    unfold fX10_boundLaw
    simp (disch := omega) only [lit, ↓reduceIte, leT, leF, ltT, ltF, eqT, eqF, inbN, nI_clamp, r1, a, bnd_some, lgc_ge, lgc_le, nI_l, b, ht]
    cases hv : lawV (T (18 + w)) nm (T 17 w) with
    | none => simp only [Option.isSome_none]; rw [if_neg (by decide)]; rfl
    | some v =>
      simp only [Option.isSome_some, if_true, Option.getD_some]
      have e := mnL (v := v) (show most < 2 ^ 62 by omega)
      show _ = some (nI (min most v.toInt.toNat), h')
      rw [← lN_i (min most v.toInt.toNat), ← e]
      by_cases q1 : 0 ≤ v
      · rw [if_pos q1, if_pos q1]
        by_cases q2 : v ≤ lN most
        · rw [if_pos q2, if_pos q2]
        · rw [if_neg q2, if_neg q2, lN_i]
      · rw [if_neg q1, if_neg q1]; rfl
theorem blN_le {T : Tx} {w most oth k : Nat} {nm : Nat → Int64} (h1 : most ≤ k) (h2 : oth ≤ k) : blN T w nm most oth ≤ k := by
  unfold blN
  split
  · exact h2
  · split
    · exact h2
    · exact Nat.le_trans (Nat.min_le_left _ _) h1
def wnT (T : Tx) (bw s fl hl : Nat) (wn nt : Int32) : Nat := if blN T 0 (nmT T bw s fl hl wn nt) 999 (T 2 (T 7 s) * fl / 100) < fcN T bw hl (T 7 s) (T 0 1) then 1 else 0
theorem lN_leP {a b : Nat} (ha : a < 2 ^ 62) (hb : b < 2 ^ 62) : (lN a ≤ lN b) = (a ≤ b) := propext (pk_lLE (by omega) (by omega))
theorem x_wins {h : Hp} {S W : Nat} {T : Tx} (hS : isS S) (hW : isW W) (R : RSc h S T) (F : WFT T) (hr : hR h W 0 = some S) {m s bw hl fl : Nat} {wn nt : Int32} (hm : m < 5) (hs : s < T 0 2) (hbw : hI h W 13 = nI bw) (hbw1 : bw ≤ 1) (hh : hI h (W + 2) m = nI hl) (hl2 : hl < 2 ^ T 0 0) (hf : hI h (W + 1) s = nI fl) (hfl : fl ≤ 99) (hwn : hI h (W + 3) m = wn) (hnt : hI h W 1 = nt) : ∃ h', fX8_winsNow W h (nI m) (nI s) = some (nI (wnT T bw s fl hl wn nt), h') ∧ (∀ i, i < 7 → hJ h' (W + 5) i = nmT T bw s fl hl wn nt i) ∧ Fr (fun _ _ => False) (fun a _ => PcJ W a) h h' := by
  obtain ⟨h1, a1, a2, a3⟩ := x_names hS hW R F hr hm hs hbw hbw1 hh hl2 hf hwn hnt
  have R1 : RSc h1 S T := RSc_Fr hS R a3 (fun _ _ _ _ q => q)
  have hW1 : hR h1 W 0 = some S := by rw [a3.2.2]; exact hr
  obtain ⟨-, hc, -⟩ := F.2.2.2.1 s hs
  have hw9 := (F.2.1 _ hc).2.1
  obtain ⟨h2, b1, b2⟩ := x_boundLaw (w := 0) (most := 999) (oth := T 2 (T 7 s) * fl / 100) hS hW R1 F hW1 (by decide) (by decide) a2 (fun i _ => nmT_bd i)
  have hle : T 2 (T 7 s) * fl ≤ 99 * 99 := Nat.mul_le_mul hw9 hfl
  have hbl : blN T 0 (nmT T bw s fl hl wn nt) 999 (T 2 (T 7 s) * fl / 100) ≤ 10000 := blN_le (by decide) (by omega)
  have hfc : fcN T bw hl (T 7 s) (T 0 1) ≤ 99 := fcN_le F (Nat.le_refl _)
  have W69 : W + 5 ≥ 69 := by rcases hW with rfl | rfl | rfl <;> decide
  refine ⟨h2, ?_, fun i hi => ?_, (a3.mono (fun _ _ q => q) (fun x _ q => Or.inl q)).tr (b2.mono (fun _ _ q => q) (fun x _ q => Or.inr q))⟩
  · unfold fX8_winsNow
    rw [a1]
    have n0 := a2 0 (by decide)
    have n2 := a2 2 (by decide)
    have n3 := a2 3 (by decide)
    rw [show nmT T bw s fl hl wn nt 0 = (nI (T 2 (T 7 s))).toInt64 from rfl, nI_l (by omega)] at n0
    rw [show nmT T bw s fl hl wn nt 2 = (nI fl).toInt64 from rfl, nI_l (by omega)] at n2
    rw [show nmT T bw s fl hl wn nt 3 = (nI (fcN T bw hl (T 7 s) (T 0 1))).toInt64 from rfl, nI_l (by omega)] at n3
    rw [show (0 : Int32) = nI 0 from rfl] at *
    simp (disch := omega) only [bind_some', lit, inbN, ↓reduceIte, leT, leF, ltT, ltF, eqT, eqF, nI_clamp, rW9 hW, n0, n2, n3]
    rw [lN_mul, show (100 : Int64) = lN 100 from rfl, show (999 : Int64) = lN 999 from rfl, pk_lDiv (by omega) (by decide) (by decide), b1]
    simp (disch := omega) only [bnd_some, lgc_le, lN_leP]
    unfold wnT
    by_cases q : fcN T bw hl (T 7 s) (T 0 1) ≤ blN T 0 (nmT T bw s fl hl wn nt) 999 (T 2 (T 7 s) * fl / 100)
    · rw [if_pos q, if_neg (by omega)]
    · rw [if_neg q, if_pos (by omega)]
  · rw [b2.2.1 _ _ (by omega)]; exact a2 i hi
abbrev FML (h h' : Hp) : Prop := Fr (fun a i => a = 107 ∧ i = 59) (fun a _ => a = 135 ∨ a = 136) h h'
theorem FML_1 {h h' : Hp} (s : Fr (fun _ _ => False) (fun a _ => a = 135) h h') : FML h h' := s.mono (fun _ _ q => q.elim) (fun _ _ q => Or.inl q)
theorem FML_2 {h h' : Hp} (s : ML59 h h') : FML h h' := Fr.mono s (fun _ _ q => q) (fun _ _ q => Or.inr q)
theorem m_wins {h : Hp} {T : Tx} (R : RSm h T) (F : WFT T) {b m s bw hl fl : Nat} {wn nt : Int32} (hb : b ≤ 1) (hm : m < 5) (hs : s < T 0 2) (hbw : hI h 107 71 = nI bw) (hbw1 : bw ≤ 1) (hh : hI h 139 (5 * b + m) = nI hl) (hl2 : hl < 2 ^ T 0 0) (hf : hI h 137 (5 * b + s) = nI fl) (hfl : fl ≤ 99) (hwn : hI h 140 (5 * b + m) = wn) (hnt : hI h 143 b = nt) : ∃ h', fX10_winsBy h (nI b) (nI m) (nI s) = some (nI (wnT T bw s fl hl wn nt), h') ∧ FML h h' := by
  have hs5 := F.1.2.2.1
  have h8 := F.1.1
  obtain ⟨-, hc, -⟩ := F.2.2.2.1 s hs
  have hw9 := (F.2.1 _ hc).2.1
  obtain ⟨h1, a1, a2, a3⟩ := m_names R F hb hm hs hbw hbw1 hh hl2 hf hwn hnt
  have R1 : RSm h1 T := RSm_Fr R a3 (fun _ _ _ q => q)
  obtain ⟨-, r7, -⟩ := R1.2.2.2.1 s hs
  obtain ⟨-, r70, -⟩ := R.2.2.2.1 s hs
  obtain ⟨-, rw2, -⟩ := R1.2.1 (T 7 s) hc
  obtain ⟨h2, b1, b2⟩ := m_boundLaw (w := 0) (most := 999) (oth := T 2 (T 7 s) * fl / 100) R1 F (by decide) (by decide) a2 (fun i _ => nmT_bd i)
  have hle : T 2 (T 7 s) * fl ≤ 99 * 99 := Nat.mul_le_mul hw9 hfl
  have hbl : blN T 0 (nmT T bw s fl hl wn nt) 999 (T 2 (T 7 s) * fl / 100) ≤ 10000 := blN_le (by decide) (by omega)
  have hfc : fcN T bw hl (T 7 s) (T 0 1) ≤ 99 := fcN_le F (Nat.le_refl _)
  have hf1 : hI h1 137 (5 * b + s) = nI fl := by rw [a3.1 _ _ (fun q => q)]; exact hf
  have e1 : fX10_leanOf h (nI b) (nI s) (nI m) = some (nI (blN T 0 (nmT T bw s fl hl wn nt) 999 (T 2 (T 7 s) * fl / 100)), h2) := by
    unfold fX10_leanOf
    rw [a1]
    simp (disch := omega) only [bind_some', lit, inbN, ↓reduceIte, leT, leF, ltT, ltF, eqT, eqF, nI_clamp, r7, pk_mul, nI_add, rw2, hf1, pk_div]
    rw [b1]
    rfl
  refine ⟨h2, ?_, (FML_1 a3).tr (FML_2 b2)⟩
  unfold fX10_winsBy
  simp (disch := omega) only [inbN, ↓reduceIte, leT, leF, ltT, ltF, eqT, eqF, nI_clamp, r70]
  rw [m_force R F hb hm (by omega) hbw hbw1 hh hl2]
  simp only [bnd_some, e1]
  simp (disch := omega) only [nI_leP, lit]
  unfold wnT
  by_cases q : fcN T bw hl (T 7 s) (T 0 1) ≤ blN T 0 (nmT T bw s fl hl wn nt) 999 (T 2 (T 7 s) * fl / 100)
  · rw [if_pos q, if_neg (by omega)]
  · rw [if_neg q, if_pos (by omega)]
