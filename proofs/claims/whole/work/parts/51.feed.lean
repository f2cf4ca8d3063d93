/-! feed: both sides. -/
/-- the word of the k-th byte, and the byte, as the reference keeps it -/
def wd5 (x1 x2 x3 x4 x5 : Int32) (j : Nat) : Int32 := if j < 4 then x1 else if j < 8 then x2 else if j < 12 then x3 else if j < 16 then x4 else x5
def mby (x1 x2 x3 x4 x5 : Int32) (j : Nat) : Int32 := (wd5 x1 x2 x3 x4 x5 j >>> (((24 : Int32) - ((8 : Int32) * (nI j - nI j / (4 : Int32) * (4 : Int32)))) &&& 31)) &&& (255 : Int32)
theorem m_feed1 {h : Hp} {x1 x2 x3 x4 x5 : Int32} {k j fu : Nat} (hk : hI h 107 1 = nI k) (hk20 : k + 20 ≤ 700) (hj : j < 20) : fX10_feed_23 (fu + 1) h x1 x2 x3 x4 x5 (nI j) = fX10_feed_23 fu (uI h 108 (k + j) (mby x1 x2 x3 x4 x5 j)) x1 x2 x3 x4 x5 (nI (j + 1)) := by
  have c20 : ¬ (20 : Int32) ≤ nI j := nI_ge hj (by decide)
  have e4 : ((4 : Int32) ≤ nI j) = (4 ≤ j) := propext (nI_leI (a := 4) (by decide) (by omega))
  have e8 : ((8 : Int32) ≤ nI j) = (8 ≤ j) := propext (nI_leI (a := 8) (by decide) (by omega))
  have e12 : ((12 : Int32) ≤ nI j) = (12 ≤ j) := propext (nI_leI (a := 12) (by decide) (by omega))
  have e16 : ((16 : Int32) ≤ nI j) = (16 ≤ j) := propext (nI_leI (a := 16) (by decide) (by omega))
  have h76 : ∀ w : Int32, fX10_feed_76 (fX10_feed_23 fu) h x1 x2 x3 x4 x5 (nI j) w = fX10_feed_23 fu (uI h 108 (k + j) ((w >>> (((24 : Int32) - ((8 : Int32) * (nI j - nI j / (4 : Int32) * (4 : Int32)))) &&& 31)) &&& (255 : Int32))) x1 x2 x3 x4 x5 (nI (j + 1)) := by
    intro w
    unfold fX10_feed_76
    rw [hk, nI_add, if_pos (inb_nI (by omega) (by decide)), nI_clamp (by omega), nI_1]
  rw [fX10_feed_23, if_neg c20]
  simp only [h76, e4, e8, e12, e16]
  unfold mby wd5
  by_cases q4 : 4 ≤ j
  · by_cases q8 : 8 ≤ j
    · by_cases q12 : 12 ≤ j
      · by_cases q16 : 16 ≤ j
        · simp [q4, q8, q12, q16, Nat.not_lt.mpr q4, Nat.not_lt.mpr q8, Nat.not_lt.mpr q12, Nat.not_lt.mpr q16]
        · simp [q4, q8, q12, q16, Nat.not_lt.mpr q4, Nat.not_lt.mpr q8, Nat.not_lt.mpr q12, Nat.not_le.mp q16]
      · simp [q4, q8, q12, Nat.not_lt.mpr q4, Nat.not_lt.mpr q8, Nat.not_le.mp q12]
    · simp [q4, q8, Nat.not_lt.mpr q4, Nat.not_le.mp q8]
  · simp [q4, Nat.not_le.mp q4]
/-- the reference's loop: twenty bytes come behind the tape, nothing else changes -/
theorem m_feedL {x1 x2 x3 x4 x5 : Int32} {k : Nat} (hk20 : k + 20 ≤ 700) : ∀ (d j fu : Nat) (h : Hp), j + d = 20 → d < fu → hI h 107 1 = nI k → ∃ h', fX10_feed_23 fu h x1 x2 x3 x4 x5 (nI j) = some (nI (k + 20), h') ∧ hI h' 107 1 = nI (k + 20) ∧ (∀ i, j ≤ i → i < 20 → hI h' 108 (k + i) = mby x1 x2 x3 x4 x5 i) ∧ Sm (fun a i => (a = 108 ∧ k + j ≤ i ∧ i < k + 20) ∨ (a = 107 ∧ i = 1)) h h'
  | 0, j, fu + 1, h, hj, _, hk => by
    have hj : j = 20 := by omega
    subst hj
    refine ⟨uI h 107 1 (nI (k + 20)), ?_, ?_, fun i h1 h2 => by omega, Sm.rf.uI (Or.inr ⟨rfl, rfl⟩)⟩
    · rw [fX10_feed_23, if_pos (by decide), hk, show (20 : Int32) = nI 20 by decide, nI_add, hI_uI, if_pos ⟨rfl, rfl⟩]
    · rw [hI_uI, if_pos ⟨rfl, rfl⟩]
  | d + 1, j, fu + 1, h, hj, hf, hk => by
    rw [m_feed1 hk hk20 (by omega)]
    obtain ⟨h', e1, e2, e3, e4⟩ := m_feedL (x1 := x1) (x2 := x2) (x3 := x3) (x4 := x4) (x5 := x5) hk20 d (j + 1) fu (uI h 108 (k + j) (mby x1 x2 x3 x4 x5 j)) (by omega) (by omega) (by rw [hI_uI, if_neg (by omega)]; exact hk)
    refine ⟨h', e1, e2, fun i h1 h2 => ?_, (Sm.rf.uI (Or.inl ⟨rfl, by omega, by omega⟩)).tr (e4.mono (fun a i q => ?_))⟩
    · by_cases hi : i = j
      · subst hi
        rw [e4.1 108 (k + i) (by omega), hI_uI, if_pos ⟨rfl, rfl⟩]
      · exact e3 i (by omega) h2
    · omega
theorem i8_and (y : Int32) : (y &&& (255 : Int32)).toInt8 = y.toInt8 := by
  apply Int8.toBitVec_inj.mp
  apply BitVec.eq_of_getLsbD_eq
  intro i hi
  simp only [Int32.toBitVec_toInt8, Int32.toBitVec_and, BitVec.getLsbD_signExtend, BitVec.getLsbD_and]
  have h255 : ∀ i, i < 8 → (255 : Int32).toBitVec.getLsbD i = true := by decide
  have h32 : i < 32 := by omega
  rw [h255 i hi, Bool.and_true, if_pos h32, if_pos h32]
/-- the tape on both sides -/
def RT (h : Hp) : Prop := ∃ k, k ≤ 700 ∧ hI h 69 1 = nI k ∧ hI h 107 1 = nI k ∧ ∀ i, i < k → ∃ b, b < 256 ∧ hI h 108 i = nI b ∧ hI h 70 i = (nI b).toInt8.toInt32
theorem mby_sh : ∀ j, j < 20 → ((24 : Int32) - ((8 : Int32) * (nI j - nI j / (4 : Int32) * (4 : Int32)))) = nI (24 - 8 * (j % 4)) := by decide
theorem by_both (x1 x2 x3 x4 x5 : Int32) {j : Nat} (hj : j < 20) : ∃ b, b < 256 ∧ mby x1 x2 x3 x4 x5 j = nI b ∧ byt (wd5 x1 x2 x3 x4 x5 j) (nI (24 - 8 * (j % 4))) = (nI b).toInt8.toInt32 := by
  unfold mby byt
  rw [mby_sh j hj]
  generalize wd5 x1 x2 x3 x4 x5 j >>> (nI (24 - 8 * (j % 4)) &&& 31) = y
  obtain ⟨b, hb, e⟩ := pk_andE y (m := (255 : Int32)) 8 (by decide)
  exact ⟨b, hb, e, by rw [← e, i8_and]⟩
/-- feed of the class: twenty bytes come behind the tape, nothing else changes -/
theorem x_feed {h : Hp} {x1 x2 x3 x4 x5 : Int32} {k : Nat} (hk : hI h 69 1 = nI k) (hk20 : k + 20 ≤ 700) : ∃ h', fX9_feed h x1 x2 x3 x4 x5 = some (nI (k + 20), h') ∧ hI h' 69 1 = nI (k + 20) ∧ (∀ i, i < 20 → hI h' 70 (k + i) = byt (wd5 x1 x2 x3 x4 x5 i) (nI (24 - 8 * (i % 4)))) ∧ Sm (fun a i => (a = 70 ∧ k ≤ i ∧ i < k + 20) ∨ (a = 69 ∧ i = 1)) h h' := by
  obtain ⟨h1, e1, f1, ⟨b10, b11, b12, b13⟩, s1⟩ := p_append (x := x1) hk (by omega)
  obtain ⟨h2, e2, f2, ⟨b20, b21, b22, b23⟩, s2⟩ := p_append (x := x2) f1 (by omega)
  obtain ⟨h3, e3, f3, ⟨b30, b31, b32, b33⟩, s3⟩ := p_append (x := x3) f2 (by omega)
  obtain ⟨h4, e4, f4, ⟨b40, b41, b42, b43⟩, s4⟩ := p_append (x := x4) f3 (by omega)
  obtain ⟨h5, e5, f5, ⟨b50, b51, b52, b53⟩, s5⟩ := p_append (x := x5) f4 (by omega)
  refine ⟨h5, ?_, f5, ?_, ?_⟩
  · unfold fX9_feed
    rw [hk, show (20 : Int32) = nI 20 by decide, nI_add, if_pos (show nI (k + 20) ≤ (700 : Int32) from nI_le hk20 (by decide)), e1]
    simp only [Option.bind_some, e2, e3, e4, e5, f5]
  · intro i hi
    have t5 : ∀ j, j < k + 16 → hI h5 70 j = hI h4 70 j := fun j hj => s5.1 70 j (by omega)
    have t4 : ∀ j, j < k + 12 → hI h4 70 j = hI h3 70 j := fun j hj => s4.1 70 j (by omega)
    have t3 : ∀ j, j < k + 8 → hI h3 70 j = hI h2 70 j := fun j hj => s3.1 70 j (by omega)
    have t2 : ∀ j, j < k + 4 → hI h2 70 j = hI h1 70 j := fun j hj => s2.1 70 j (by omega)
    match i, hi with
    | 0, _ => rw [t5 _ (by omega), t4 _ (by omega), t3 _ (by omega), t2 _ (by omega)]; exact b10
    | 1, _ => rw [t5 _ (by omega), t4 _ (by omega), t3 _ (by omega), t2 _ (by omega)]; exact b11
    | 2, _ => rw [t5 _ (by omega), t4 _ (by omega), t3 _ (by omega), t2 _ (by omega)]; exact b12
    | 3, _ => rw [t5 _ (by omega), t4 _ (by omega), t3 _ (by omega), t2 _ (by omega)]; exact b13
    | 4, _ => rw [t5 _ (by omega), t4 _ (by omega), t3 _ (by omega)]; exact b20
    | 5, _ => rw [t5 _ (by omega), t4 _ (by omega), t3 _ (by omega)]; exact b21
    | 6, _ => rw [t5 _ (by omega), t4 _ (by omega), t3 _ (by omega)]; exact b22
    | 7, _ => rw [t5 _ (by omega), t4 _ (by omega), t3 _ (by omega)]; exact b23
    | 8, _ => rw [t5 _ (by omega), t4 _ (by omega)]; exact b30
    | 9, _ => rw [t5 _ (by omega), t4 _ (by omega)]; exact b31
    | 10, _ => rw [t5 _ (by omega), t4 _ (by omega)]; exact b32
    | 11, _ => rw [t5 _ (by omega), t4 _ (by omega)]; exact b33
    | 12, _ => rw [t5 _ (by omega)]; exact b40
    | 13, _ => rw [t5 _ (by omega)]; exact b41
    | 14, _ => rw [t5 _ (by omega)]; exact b42
    | 15, _ => rw [t5 _ (by omega)]; exact b43
    | 16, _ => exact b50
    | 17, _ => exact b51
    | 18, _ => exact b52
    | 19, _ => exact b53
    | i + 20, hi => exact absurd hi (by omega)
  · have mo : ∀ {g g' : Hp} {c : Nat}, k ≤ c → c + 4 ≤ k + 20 → Sm (fun a i => (a = 70 ∧ c ≤ i ∧ i < c + 4) ∨ (a = 69 ∧ i = 1)) g g' → Sm (fun a i => (a = 70 ∧ k ≤ i ∧ i < k + 20) ∨ (a = 69 ∧ i = 1)) g g' := fun h1 h2 q => q.mono (fun a i z => by omega)
    exact ((((mo (by omega) (by omega) s1).tr (mo (by omega) (by omega) s2)).tr (mo (by omega) (by omega) s3)).tr (mo (by omega) (by omega) s4)).tr (mo (by omega) (by omega) s5)
