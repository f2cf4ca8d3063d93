/-! The start: after both constructors. -/
def hS1 : Hp := (fX9_init_0 h00).getD h00
def hS2 : Hp := (fX10_init_107 hS1).getD h00
def hS3 : Hp := zo hS2 152
theorem hS1_e : (fX9_init_0 h00).isSome = true := by decide +kernel
theorem hS2_e : (fX10_init_107 hS1).isSome = true := by decide +kernel
def Tst : Tx := fun _ _ => 0
theorem st_wf : WFT Tst := by
  unfold WFT Tst
  refine ⟨by decide, fun i h => by omega, fun i h => by omega, fun i h => by omega, fun i h => by decide, fun i h => by omega, fun i h => rfl, fun i h => by omega, fun i h => by omega, fun i h => ⟨by decide, fun q => absurd q (by decide)⟩⟩
theorem st_r : hR hS3 0 3 = some 1 ∧ hR hS3 0 4 = some 35 ∧ hR hS3 72 0 = some 1 := by decide +kernel
theorem st_c1 : hI hS3 (1 + 2) 2 = nI 0 ∧ hI hS3 (1 + 1) 5 = nI 0 ∧ hI hS3 (1 + 12) 2 = nI 0 ∧ hI hS3 (1 + 16) 2 = nI 0 ∧ hI hS3 1 6 = nI 0 ∧ hI hS3 1 10 = nI 0 ∧ hI hS3 1 18 = nI 0 ∧ hI hS3 1 13 = nI 0 ∧ hI hS3 1 15 = nI 0 := by decide +kernel
theorem st_c2 : ∀ i, i < 8 → hI hS3 (1 + 6) i = nI 0 ∧ hI hS3 (1 + 7) i = nI 0 := by decide +kernel
theorem st_c3 : ∀ w, w < 3 → hR hS3 (1 + 24) w = some (1 + 25 + 3 * w) ∧ hI hS3 (1 + 25 + 3 * w) 0 = nI 0 := by decide +kernel
theorem st_m1 : hI hS3 107 12 = nI 0 ∧ hI hS3 107 13 = nI 0 ∧ hI hS3 107 14 = nI 0 ∧ hI hS3 107 15 = nI 0 ∧ hI hS3 107 16 = nI 0 ∧ hI hS3 107 17 = nI 0 ∧ hI hS3 107 18 = nI 0 ∧ hI hS3 111 0 = nI 0 ∧ hI hS3 111 1 = nI 0 := by decide +kernel
theorem st_m2 : (∀ i, i < 5 → hI hS3 121 i = nI 0) ∧ ∀ w, w < 3 → hI hS3 127 w = nI 0 := by decide +kernel
theorem st_t : hI hS3 69 1 = nI 0 ∧ hI hS3 107 1 = nI 0 ∧ hI hS3 0 1 = hI hS3 107 4 ∧ hI hS3 0 2 = hI hS3 107 5 := by decide +kernel
theorem st_k1 : (hI hS3 (1 + 2) 1 = nI 8 ∧ hI hS3 (1 + 12) 1 = nI 5 ∧ hI hS3 (1 + 16) 1 = nI 5) ∧ (hI hS3 (35 + 2) 1 = nI 8 ∧ hI hS3 (35 + 12) 1 = nI 5 ∧ hI hS3 (35 + 16) 1 = nI 5 ∧ ∀ w, w < 3 → hR hS3 (35 + 24) w = some (35 + 25 + 3 * w)) := by decide +kernel
theorem st_k2 : ∀ i, i < 23 → hI hS3 71 i = nI (langN i) := by decide +kernel
theorem st_k3 : ∀ i, i < 192 → 160 ≤ i → hI hS3 106 i = nI 0 := by decide +kernel
theorem st_k4 : ∀ i, i < 126 → hI hS3 109 i = nI (wordN i) := by decide +kernel
theorem st_w1 : ∀ i, i < 5 → hI hS3 73 i = nI 0 ∧ hI hS3 74 i = nI 0 ∧ hI hS3 75 i = hI hS3 140 i ∧ hI hS3 76 i = hI hS3 141 i ∧ hI hS3 139 i = nI 0 ∧ hI hS3 138 i = nI 0 := by decide +kernel
theorem st_w2 : hI hS3 72 2 = nI 0 ∧ hI hS3 72 1 = hI hS3 143 0 ∧ hI hS3 72 3 = hI hS3 142 0 := by decide +kernel
theorem st_w3 : hI hS3 72 10 = nI 1 ∧ hI hS3 72 11 = nI 0 ∧ hI hS3 72 12 = nI 0 ∧ hI hS3 72 13 = nI 0 ∧ hI hS3 72 14 = -nI 1 := by decide +kernel
theorem st_w4 : hI hS3 72 4 = nI 0 ∧ hJ hS3 107 67 = lN 0 := by decide +kernel
theorem st_u : hI hS3 90 0 = nI 0 ∧ hI hS3 90 1 = nI 0 ∧ hI hS3 107 80 = nI 0 := by decide +kernel
theorem st_i : hI hS3 0 8 = nI 0 ∧ hI hS3 107 82 = nI 0 := by decide +kernel
theorem st_s : hI hS3 97 0 = nI 0 ∧ hI hS3 107 76 = nI 0 ∧ hI hS3 97 1 = hI hS3 107 77 := by decide +kernel
theorem st_s2 : hI hS3 97 1 = -nI 1 := by decide +kernel
theorem st_R2 : R2 hS3 hS3 1 Tst := by
  obtain ⟨r1, r2, r3⟩ := st_r
  refine ⟨⟨Or.inl rfl, r1, r2, st_wf, ⟨st_c1, fun i h => by unfold Tst at h; omega, st_c2, fun i h => by unfold Tst at h; omega, fun i h => by unfold Tst at h; omega, fun i h => by unfold Tst at h; omega, fun i h => by unfold Tst at h; omega, fun i h => by unfold Tst at h; omega, fun w hw => ⟨(st_c3 w hw).1, (st_c3 w hw).2, fun q => absurd q (by unfold Tst; decide)⟩⟩, ⟨st_m1, fun i h => by unfold Tst at h; omega, fun i h => by unfold Tst at h; omega, fun i h => by unfold Tst at h; omega, fun i h => by unfold Tst at h; omega, st_m2.1, fun i h => by unfold Tst at h; omega, fun i h => by unfold Tst at h; omega, fun w hw => ⟨st_m2.2 w hw, fun q => absurd q (by unfold Tst; decide)⟩⟩, ⟨0, by decide, st_t.1, st_t.2.1, fun i h => by omega⟩, st_t.2.2, ⟨?_, st_k2, fun i h1 h2 => st_k3 i h2 h1⟩, st_k4⟩, ⟨⟨r3, fun i h => by unfold Tst at h; omega, fun i h _ => (st_w1 i h).1, ?_, fun i h => ?_, ⟨0, by decide, st_w2.1, fun i h => ?_⟩, st_w2.2.1, st_w2.2.2⟩, st_w3, 0, by decide, st_w4.1, st_w4.2⟩, ⟨0, 0, by decide, by decide, st_u.1, st_u.2.1, st_u.2.2, fun j h => by omega, fun j h => by omega⟩, ⟨0, by decide, st_i.1, st_i.2, fun q => absurd q (by decide)⟩, ⟨0, by decide, st_s.1, st_s.2.1, st_s.2.2, Or.inl st_s2, fun k h => by omega⟩⟩
  · rintro S (rfl | rfl)
    · exact ⟨st_k1.1.1, st_k1.1.2.1, st_k1.1.2.2, fun w hw => (st_c3 w hw).1⟩
    · exact st_k1.2
  · intro i h
    refine ⟨0, Nat.two_pow_pos _, (st_w1 i h).2.1, ?_⟩
    rw [Nat.mul_zero, Nat.zero_add]; exact (st_w1 i h).2.2.2.2.1
  · rw [Nat.mul_zero, Nat.zero_add]; exact ⟨(st_w1 i h).2.2.1, (st_w1 i h).2.2.2.1⟩
  · rw [Nat.mul_zero, Nat.zero_add]
    have : bn 0 i = 0 := by rw [bn_0]; exact Nat.zero_testBit i
    rw [this]; exact (st_w1 i h).2.2.2.2.2
theorem getD_e {o : Option Hp} {d : Hp} (h : o.isSome = true) : o = some (o.getD d) := by
  cases o with
  | none => cases h
  | some x => rfl
