/-! match: the reference. -/
def dgN (b : Nat → Nat) (nS i : Nat) : Nat := match grN b i (tkN b i) with | some s => s | none => nS
theorem ok_lt {b t d n : Nat} (hl : b < 2 ^ n) (q : ok1 b t d = true) : d < n := by
  unfold ok1 at q
  exact in_n hl (Bool.and_eq_true _ _ ▸ q).1
theorem grN_lt {b : Nat → Nat} {m t s n : Nat} (hl : ∀ m, b m < 2 ^ n) (h : grN b m t = some s) : s < n := by
  have := (fsF_some h).1
  rw [Bool.and_eq_true] at this
  exact ok_lt (hl m) this.1
theorem grN_0 {b : Nat → Nat} {m t : Nat} (h : b m = 0) : grN b m t = none := fsF_no (fun i _ _ => by unfold ok1; rw [h]; simp)
theorem dg_up {X B e g : Nat} (hB : 0 < B) : (X * B * B ^ e + g) / B ^ e % B = g / B ^ e % B := by
  rw [Nat.mul_comm (X * B), Nat.mul_add_div (Nat.pow_pos hB), Nat.mul_comm X, Nat.mul_add_mod]
theorem go_dg {b : Nat → Nat} {nS n : Nat} (hl : ∀ m, b m < 2 ^ nS) : ∀ (r : Nat), r ≤ n → goV b nS n r (tkN b (n - r)) < (nS + 1) ^ r ∧ ∀ i, n - r ≤ i → i < n → goV b nS n r (tkN b (n - r)) / (nS + 1) ^ (n - 1 - i) % (nS + 1) = dgN b nS i
  | 0, _ => ⟨by rw [Nat.pow_zero]; exact Nat.lt_of_le_of_lt (Nat.le_refl 0) (by decide), fun i h1 h2 => by omega⟩
  | r + 1, hr => by
    obtain ⟨i1, i2⟩ := go_dg (n := n) hl r (by omega)
    have tk : tkN b (n - r) = match grN b (n - r - 1) (tkN b (n - r - 1)) with | none => tkN b (n - r - 1) | some s => tkN b (n - r - 1) ||| 2 ^ s := by
      rw [show n - r = (n - r - 1) + 1 by omega]; rfl
    have e1 : n - (r + 1) = n - r - 1 := by omega
    rw [e1]
    have key : ∃ s, s ≤ nS ∧ dgN b nS (n - r - 1) = s ∧ goV b nS n (r + 1) (tkN b (n - r - 1)) = s * (nS + 1) ^ r + goV b nS n r (tkN b (n - r)) := by
      unfold dgN
      rw [goV]
      cases z : grN b (n - r - 1) (tkN b (n - r - 1)) with
      | none => rw [z] at tk; exact ⟨nS, Nat.le_refl _, rfl, by rw [tk]⟩
      | some s => rw [z] at tk; exact ⟨s, Nat.le_of_lt (grN_lt hl z), rfl, by rw [tk]⟩
    obtain ⟨s, k1, k2, k3⟩ := key
    rw [k3]
    have hp : 0 < (nS + 1) ^ r := Nat.pow_pos (by omega)
    have hle : s * (nS + 1) ^ r ≤ nS * (nS + 1) ^ r := Nat.mul_le_mul_right _ k1
    refine ⟨by rw [Nat.pow_succ, Nat.mul_comm _ (nS + 1), Nat.succ_mul]; omega, fun i h1 h2 => ?_⟩
    rcases (by omega : i = n - r - 1 ∨ n - r ≤ i) with q | q
    · rw [q, show n - 1 - (n - r - 1) = r by omega, (blk_dm i1).1, Nat.mod_eq_of_lt (by omega), k2]
    · rw [← i2 i q h2]
      have er : r = (r - 1 - (n - 1 - i)) + 1 + (n - 1 - i) := by omega
      have : s * (nS + 1) ^ r = (s * (nS + 1) ^ (r - 1 - (n - 1 - i))) * (nS + 1) * (nS + 1) ^ (n - 1 - i) := by
        conv => lhs; rw [er]
        rw [Nat.pow_add, Nat.pow_succ, Nat.mul_assoc, Nat.mul_assoc, Nat.mul_assoc]
      rw [this, dg_up (by omega)]
section V
variable {hc hm : Hp} {S : Nat} {T : Tx}
def PH (a i : Nat) : Prop := a = 146 ∨ (a = 107 ∧ (i = 2 ∨ i = 59 ∨ (68 ≤ i ∧ i ≤ 72)))
def PHJ (a _ : Nat) : Prop := a = 135 ∨ a = 136
theorem RSm_PH (R : RSm hm T) {h : Hp} (f : Fr PH PHJ hm h) : RSm h T := RSm_Fr R f (fun a i q z => by unfold PH at z; omega)
theorem FML_PH {h h' : Hp} (f : FML h h') : Fr PH PHJ h h' := Fr.mono f (fun a i q => by unfold PH; omega) (fun a i q => q)
theorem m_w (s : R2 hc hm S T) {h : Hp} (f : Fr PH PHJ hm h) (h71 : hI h 107 71 = nI 0) {m k : Nat} (hm' : m < T 0 3) (hk : k < T 0 2) : ∃ h', fX10_winsBy h (nI 0) (nI m) (nI k) = some (nI (wv hm T m k), h') ∧ FML h h' := by
  obtain ⟨⟨hS, -, -, F, -, Rm, -⟩, ⟨w, -⟩, -⟩ := s
  obtain ⟨-, w2, -, w4, w5, -, w9, -⟩ := w
  have h5 := F.1.2.2.1
  have h5' := F.1.2.2.2.1
  obtain ⟨fl, f1, f2, f3⟩ := w2 k hk
  obtain ⟨hl, l1, l2, l3⟩ := w4 m (by omega)
  have e : ∀ a i, 137 ≤ a → a ≤ 143 → hI h a i = hI hm a i := fun a i q q' => f.1 a i (by unfold PH; omega)
  obtain ⟨h', a1, a2⟩ := m_wins (RSm_PH Rm f) F (b := 0) (m := m) (s := k) (bw := 0) (by omega) (by omega) hk h71 (by omega) ((e _ _ (by omega) (by omega)).trans l3) (hB_w l1) ((e _ _ (by omega) (by omega)).trans f3) f1 (e _ _ (by omega) (by omega)) (e _ _ (by omega) (by omega))
  refine ⟨h', ?_, a2⟩
  have hl' := p8 (hB_w l1) F.1.1
  rw [Nat.mul_zero, Nat.zero_add] at f3 l3 a1
  rw [a1]; unfold wv
  rw [f3, l3, nI_clamp (by omega), nI_clamp (by omega)]
theorem m_hv1 (R : RSm hm T) (F : WFT T) : ∀ (j fu : Nat) (h : Hp) (code : Nat), j ≤ 5 → j < fu → code < 2 ^ 31 → Fr PH PHJ hm h → ∃ h', fX10_havingBy_12 fu h (nI code) (nI 0) (nI j + -nI 1) = fX10_havingBy_50 FU h' (nI 0) (nI 0) ∧ Fr (fun a i => a = 146 ∧ i < j) PN h h' ∧ ∀ i, i < j → hI h' 146 i = nI (code / (T 0 2 + 1) ^ (j - 1 - i) % (T 0 2 + 1))
  | 0, fu + 1, h, code, _, _, _, f => by
    refine ⟨h, ?_, Fr.rf, fun i hi => by omega⟩
    rw [fX10_havingBy_12]
    have : (nI 0 + -nI 1 < nI 0) = True := eq_true (by decide)
    simp (disch := omega) only [lit, this, ↓reduceIte]
  | j + 1, fu + 1, h, code, hj, hf, hcd, f => by
    have h5 := F.1.2.2.1
    have M := RSm_PH R f
    have e14 := M.1.2.2.1
    have hd := Nat.div_le_self code (T 0 2 + 1)
    obtain ⟨h', a1, a2, a3⟩ := m_hv1 R F j fu (uI h 146 j (nI (code % (T 0 2 + 1)))) (code / (T 0 2 + 1)) (by omega) (by omega) (by omega) (f.uI (by unfold PH; omega))
    have a2' : Fr (fun a i => a = 146 ∧ i < j + 1) PN (uI h 146 j (nI (code % (T 0 2 + 1)))) h' := a2.mono (fun a i q => by omega) (fun _ _ q => q)
    have a2'' : Fr (fun a i => a = 146 ∧ i < j + 1) PN h (uI h 146 j (nI (code % (T 0 2 + 1)))) := Fr.rf.uI (by omega)
    refine ⟨h', ?_, a2''.tr a2', fun i hi => ?_⟩
    · rw [nI_dec (by omega), Nat.add_sub_cancel, fX10_havingBy_12]
      have e14' : hI (uI h 146 j (nI (code % (T 0 2 + 1)))) 107 14 = nI (T 0 2) := (hI_ne (by omega)).trans e14
      simp (disch := omega) only [lit, ↓reduceIte, ltF, e14, nI_add, eqF, inbN, nI_clamp, pk_rem, e14']
      simp (disch := omega) only [pk_div]
      exact a1
    · rcases (by omega : i < j ∨ i = j) with q | q
      · rw [a3 i q, Nat.div_div_eq_div_mul, Nat.mul_comm (T 0 2 + 1), ← Nat.pow_succ, show (j - 1 - i).succ = j + 1 - 1 - i by omega]
      · rw [q, a2.1 _ _ (by omega), hI_at ⟨rfl, rfl⟩, show j + 1 - 1 - j = 0 by omega, Nat.pow_zero, Nat.div_one]
theorem bm_tb {sh m d : Nat} (hm' : m < T 0 3) (hd : d < T 0 2) : (bmT hm T sh m).testBit d = true ↔ (¬ sh.testBit d = true ∧ wv hm T m d = 1) := by
  unfold bmT bmK
  rw [if_pos hm', orB_tb]
  constructor
  · rintro ⟨k, -, k2, rfl⟩
    rw [Bool.and_eq_true, decide_eq_true_eq, Bool.not_eq_true'] at k2
    exact ⟨by rw [k2.1]; decide, k2.2⟩
  · rintro ⟨h1, h2⟩
    exact ⟨d, hd, by rw [Bool.and_eq_true, decide_eq_true_eq, Bool.not_eq_true', ← Bool.not_eq_true]; exact ⟨h1, h2⟩, rfl⟩
theorem dg_lo {code B r : Nat} : code % B ^ (r + 1) / B ^ r = code / B ^ r % B := by rw [Nat.pow_succ, Nat.mod_mul_right_div_self]
theorem dg_mo {code B r : Nat} : code % B ^ (r + 1) % B ^ r = code % B ^ r := Nat.mod_mod_of_dvd _ ⟨B, Nat.pow_succ ..⟩
theorem m_hv2 (s : R2 hc hm S T) {sh code : Nat} (hsh : ∀ i, i < 5 → hI hm 138 i = nI (bn sh i)) : ∀ (r i fu : Nat) (h : Hp) (t : Nat), i + r = T 0 3 → r < fu → t < 32 → Fr PH PHJ hm h → hI h 107 71 = nI 0 → (∀ k, k < T 0 3 → hI h 146 k = nI (code / (T 0 2 + 1) ^ (T 0 3 - 1 - k) % (T 0 2 + 1))) → ∃ h', fX10_havingBy_50 fu h (nI t) (nI i) = some (oI (fsV (bmT hm T sh) (T 0 2) (T 0 3) r t (code % (T 0 2 + 1) ^ r)), h') ∧ FML h h'
  | 0, i, fu + 1, h, t, hk, _, ht, f, h71, dg => by
    have F := s.1.2.2.2.1
    have M := RSm_PH s.1.2.2.2.2.2.1 f
    have h5 := F.1.2.2.2.1
    refine ⟨h, ?_, Fr.rf⟩
    rw [fX10_havingBy_50]; simp (disch := omega) only [lit, M.1.2.2.2.1, ↓reduceIte, leT, m_many, bnd_some]; rfl
  | r + 1, i, fu + 1, h, t, hk, hf, ht, f, h71, dg => by
    have F := s.1.2.2.2.1
    have M := RSm_PH s.1.2.2.2.2.2.1 f
    have h5 := F.1.2.2.2.1
    have h5' := F.1.2.2.1
    have e := dg i (by omega)
    rw [show T 0 3 - 1 - i = r by omega] at e
    have dl := Nat.mod_lt (code / (T 0 2 + 1) ^ r) (show 0 < T 0 2 + 1 by omega)
    rw [fX10_havingBy_50, fsV, dg_lo, dg_mo, show T 0 3 - r - 1 = i by omega]
    generalize code / (T 0 2 + 1) ^ r % (T 0 2 + 1) = d at *
    by_cases q : d = T 0 2
    · obtain ⟨h', a1, a2⟩ := m_hv2 s hsh r (i + 1) fu h t (by omega) (by omega) ht f h71 dg
      refine ⟨h', ?_, a2⟩
      rw [if_pos q]
      simp (disch := omega) only [lit, M.1.2.2.2.1, M.1.2.2.1, ↓reduceIte, leF, inbN, nI_clamp, e, eqT, fX10_havingBy_120, nI_add]
      exact a1
    · rw [if_neg q]
      have hd : d < T 0 2 := by omega
      have bt := bm_tb (hm := hm) (sh := sh) (show i < T 0 3 by omega) hd
      by_cases q1 : t.testBit d = true
      · have : ¬ ok1 (bmT hm T sh i) t d = true := by unfold ok1; rw [q1]; simp
        refine ⟨h, ?_, Fr.rf⟩
        rw [if_neg this]
        simp (disch := omega) only [lit, M.1.2.2.2.1, M.1.2.2.1, ↓reduceIte, leF, inbN, nI_clamp, e, eqF, m_isT q1, bnd_some, oI]
      · have e8 : hI h 138 d = nI (bn sh d) := (f.1 _ _ (by unfold PH; omega)).trans (hsh d (by omega))
        by_cases q2 : sh.testBit d = true
        · have : ¬ ok1 (bmT hm T sh i) t d = true := by
            unfold ok1
            rw [Bool.and_eq_true]
            exact fun z => (bt.mp z.1).1 q2
          have b1 : bn sh d = 1 := by rw [bn_1]; exact q2
          refine ⟨h, ?_, Fr.rf⟩
          rw [if_neg this]
          simp (disch := omega) only [lit, M.1.2.2.2.1, M.1.2.2.1, ↓reduceIte, leF, inbN, nI_clamp, e, eqF, m_isF q1, bnd_some, e8, b1, oI]
        · have b0 : bn sh d = 0 := by rw [bn_0]; simpa using q2
          obtain ⟨h1, c1, c2⟩ := m_w s f h71 (show i < T 0 3 by omega) hd
          have f1 : Fr PH PHJ hm h1 := f.tr (FML_PH c2)
          rcases (by have := wv_le hm T i d; omega : wv hm T i d = 0 ∨ wv hm T i d = 1) with z | z
          · have : ¬ ok1 (bmT hm T sh i) t d = true := by
              unfold ok1
              rw [Bool.and_eq_true]
              exact fun y => by have := (bt.mp y.1).2; omega
            refine ⟨h1, ?_, c2⟩
            rw [if_neg this]
            rw [z] at c1
            simp (disch := omega) only [lit, M.1.2.2.2.1, M.1.2.2.1, ↓reduceIte, leF, inbN, nI_clamp, e, eqF, m_isF q1, bnd_some, e8, b0, c1, oI]
          · have : ok1 (bmT hm T sh i) t d = true := by
              unfold ok1
              rw [bt.mpr ⟨q2, z⟩]; simpa using q1
            obtain ⟨h', a1, a2⟩ := m_hv2 s hsh r (i + 1) fu h1 (t ||| 2 ^ d) (by omega) (by omega) (or32 ht (by omega)) f1 (by rw [c2.1 _ _ (by omega)]; exact h71) (fun k hk => by rw [c2.1 _ _ (by omega)]; exact dg k hk)
            refine ⟨h', ?_, c2.tr a2⟩
            rw [if_pos this]
            rw [z] at c1
            simp (disch := omega) only [lit, M.1.2.2.2.1, M.1.2.2.1, ↓reduceIte, leF, inbN, nI_clamp, e, eqF, m_isF q1, bnd_some, e8, b0, c1, shl1, nx_o, fX10_havingBy_120, nI_add]
            exact a1
theorem m_hv (s : R2 hc hm S T) {sh code : Nat} (hsh : ∀ i, i < 5 → hI hm 138 i = nI (bn sh i)) (hcd : code < (T 0 2 + 1) ^ T 0 3) (hc31 : code < 2 ^ 31) {h : Hp} (f : Fr PH PHJ hm h) (h71 : hI h 107 71 = nI 0) : ∃ h', fX10_havingBy h (nI code) = some (oI (fsV (bmT hm T sh) (T 0 2) (T 0 3) (T 0 3) 0 code), h') ∧ Fr PH PHJ hm h' ∧ hI h' 107 71 = nI 0 ∧ ∀ k, k < T 0 3 → hI h' 146 k = nI (code / (T 0 2 + 1) ^ (T 0 3 - 1 - k) % (T 0 2 + 1)) := by
  have F := s.1.2.2.2.1
  have R := s.1.2.2.2.2.2.1
  have M := RSm_PH R f
  have h5 := F.1.2.2.2.1
  obtain ⟨h1, a1, a2, a3⟩ := m_hv1 R F (T 0 3) FU h code h5 (Nat.lt_of_le_of_lt h5 (by decide)) hc31 f
  have f1 : Fr PH PHJ hm h1 := f.tr (a2.mono (fun a i q => by unfold PH; omega) (fun _ _ q => q.elim))
  have h71' : hI h1 107 71 = nI 0 := (a2.1 _ _ (by omega)).trans h71
  obtain ⟨h', b1, b2⟩ := m_hv2 s hsh (code := code) (T 0 3) 0 FU h1 0 (by omega) (Nat.lt_of_le_of_lt h5 (by decide)) (by omega) f1 h71' a3
  rw [Nat.mod_eq_of_lt hcd] at b1
  refine ⟨h', ?_, f1.tr (FML_PH b2), by rw [b2.1 _ _ (by omega)]; exact h71', fun k hk => by rw [b2.1 _ _ (by omega)]; exact a3 k hk⟩
  unfold fX10_havingBy
  simp only [lit, M.1.2.2.2.1]
  rw [Int32.sub_eq_add_neg, a1, b1]
end V
