/-! The names of a law, both sides. -/
def popN (n : Nat) : Nat → Nat
  | 0 => 0
  | k + 1 => popN n k + bn n k
/-- how many bits -/
def pop (n : Nat) : Nat := popN n 9
theorem popN_le (n : Nat) : ∀ k, popN n k ≤ k
  | 0 => Nat.le_refl _
  | k + 1 => by have := popN_le n k; have := bn_le n k; rw [popN]; omega
theorem pop_le (n : Nat) : pop n ≤ 9 := popN_le n 9
theorem m_many1 {h : Hp} {n : Nat} (hn : n < 2 ^ 31) : ∀ (d k fu : Nat), k + d = 9 → d < fu → fX10_manyOf_4 fu h (nI n) (nI (popN n k)) (nI k) = some (nI (pop n), h)
  | 0, k, fu + 1, hk, _ => by
    have e : k = 9 := by omega
    subst e
    rw [fX10_manyOf_4]; simp only [lit]; rw [if_pos (nI_le (by omega) (by omega))]; rfl
  | d + 1, k, fu + 1, hk, hf => by
    have ih := m_many1 (h := h) hn d (k + 1) fu (by omega) (by omega)
    rw [fX10_manyOf_4]
    simp (disch := omega) only [lit, nI_leP, ifN, shr1, nI_add]
    exact ih
theorem m_many {h : Hp} {n : Nat} (hn : n < 2 ^ 31) : fX10_manyOf h (nI n) = some (nI (pop n), h) := by
  unfold fX10_manyOf
  exact m_many1 hn 9 0 FU rfl (by decide)
def hz : Hp := (fun _ _ => 0, fun _ _ => 0, fun _ _ => none)
def bcx (x : Int32) : Int32 := ((fJ6_bitCount_0f7a4 hz x).getD (0, hz)).1
theorem x_bc0 (h : Hp) (x : Int32) : fJ6_bitCount_0f7a4 h x = some (bcx x, h) := rfl
theorem bcx_pop : ∀ n, n < 256 → bcx (nI n) = nI (pop n) := by decide +kernel
theorem x_bc {h : Hp} {n : Nat} (hn : n < 256) : fJ6_bitCount_0f7a4 h (nI n) = some (nI (pop n), h) := by rw [x_bc0, bcx_pop n hn]
/-- the seven names: straw s, how full, what the member holds, his wins, the night -/
def nmT (T : Tx) (bw s fl hl : Nat) (wn nt : Int32) (i : Nat) : Int64 :=
  if i = 0 then (nI (T 2 (T 7 s))).toInt64 else if i = 1 then (nI (T 3 (T 7 s))).toInt64 else if i = 2 then (nI fl).toInt64 else if i = 3 then (nI (fcN T bw hl (T 7 s) (T 0 1))).toInt64 else if i = 4 then wn.toInt64 else if i = 5 then (nI (pop hl)).toInt64 else nt.toInt64
theorem bd_i (x : Int32) : bd x.toInt64 := by
  unfold bd
  rw [Int32.toInt_toInt64]
  have h1 := Int32.le_toInt x
  have h2 := Int32.toInt_lt x
  omega
theorem nmT_bd {T : Tx} {bw s fl hl : Nat} {wn nt : Int32} (i : Nat) : bd (nmT T bw s fl hl wn nt i) := by
  unfold nmT
  repeat' split
  all_goals exact bd_i _
theorem x_names {h : Hp} {S W : Nat} {T : Tx} (hS : isS S) (hW : isW W) (R : RSc h S T) (F : WFT T) (hr : hR h W 0 = some S) {m s bw hl fl : Nat} {wn nt : Int32} (hm : m < 5) (hs : s < T 0 2) (hbw : hI h W 13 = nI bw) (hbw1 : bw ≤ 1) (hh : hI h (W + 2) m = nI hl) (hl2 : hl < 2 ^ T 0 0) (hf : hI h (W + 1) s = nI fl) (hwn : hI h (W + 3) m = wn) (hnt : hI h W 1 = nt) : ∃ h', fX8_readNames W h (nI m) (nI s) = some h' ∧ (∀ i, i < 7 → hJ h' (W + 5) i = nmT T bw s fl hl wn nt i) ∧ Fr (fun _ _ => False) (fun a _ => a = W + 5) h h' := by
  have hs5 := F.1.2.2.1
  have h8 := F.1.1
  obtain ⟨-, hc, -⟩ := F.2.2.2.1 s hs
  obtain ⟨-, r7, -⟩ := R.2.2.2.2.1 s hs
  obtain ⟨-, rw2, rw3⟩ := R.2.1 (T 7 s) hc
  have h256 := p8 hl2 h8
  have hW' : W ≠ 0 := by rcases hW with rfl | rfl | rfl <;> decide
  have e0 : ∀ g : Hp, hR g W 0 = some S → dref shp g W 0 (7, 20) = some S := fun g hg => dref_of hg (sS hS)
  have eR : ∀ (g : Hp) (a k : Nat) (v : Int64), hR (uJ g a k v) W 0 = hR g W 0 := fun _ _ _ _ => rfl
  have eI : ∀ (g : Hp) (a k : Nat) (v : Int64) (x y : Nat), hI (uJ g a k v) x y = hI g x y := fun _ _ _ _ _ _ => rfl
  have fo : ∀ g : Hp, (∀ a i, hI g a i = hI h a i) → (∀ a i, hR g a i = hR h a i) → fX8_forceOf W g (nI m) (nI (T 7 s)) = some (nI (fcN T bw hl (T 7 s) (T 0 1)), g) := by
    intro g g1 g2
    have R' : RSc g S T := by
      unfold RSc
      simp only [g1, g2]
      exact R
    exact x_force hS hW R' F (by rw [g2]; exact hr) hm (by omega) (by rw [g1]; exact hbw) hbw1 (by rw [g1]; exact hh) hl2
  let g1 : Hp := uJ (uJ (uJ h (W + 5) 0 (nI (T 2 (T 7 s))).toInt64) (W + 5) 1 (nI (T 3 (T 7 s))).toInt64) (W + 5) 2 (nI fl).toInt64
  have f1 := fo g1 (fun _ _ => rfl) (fun _ _ => rfl)
  refine ⟨uJ (uJ (uJ (uJ g1 (W + 5) 3 (nI (fcN T bw hl (T 7 s) (T 0 1))).toInt64) (W + 5) 4 wn.toInt64) (W + 5) 5 (nI (pop hl)).toInt64) (W + 5) 6 nt.toInt64, ?_, ?_, ?_⟩
  · unfold fX8_readNames
    simp (disch := omega) only [e0, hr, eR, bind_some', fX7_claimOf, lit, nI_ltP, nI_leP, ifN, ifP, inbN, if_true, nI_clamp, rS2 hS, r7, bnd_some, rS0 hS, fX0_weightOf, fX0_temperOf, rC1 hS, rC2 hS, rw2, rw3, rW9 hW, eI, fX8_fullOf, rW5 hW, hf]
    rw [show uJ (uJ (uJ h (W + 5) 0 (nI (T 2 (T 7 s))).toInt64) (W + 5) 1 (nI (T 3 (T 7 s))).toInt64) (W + 5) 2 (nI fl).toInt64 = g1 from rfl, f1]
    simp (disch := omega) only [bnd_some, ifP, ifN, inbN, if_true, lit, fX8_wonBy, fX8_holdsOf, nI_ltP, nI_leP, nI_clamp, rW7 hW, rW6 hW, eI]
    rw [show hI g1 (W + 3) m = hI h (W + 3) m from rfl, show hI g1 (W + 2) m = hI h (W + 2) m from rfl, show hI g1 W 1 = hI h W 1 from rfl, hwn, hh, hnt, x_bc h256]
    rfl
  · intro i hi
    have k : ∀ (g : Hp) (j i : Nat) (v : Int64), hJ (uJ g (W + 5) j v) (W + 5) i = if i = j then v else hJ g (W + 5) i := fun g j i v => by rw [hJ_uJ]; simp
    unfold nmT
    simp only [k, g1]
    have ci : i = 0 ∨ i = 1 ∨ i = 2 ∨ i = 3 ∨ i = 4 ∨ i = 5 ∨ i = 6 := by omega
    rcases ci with rfl | rfl | rfl | rfl | rfl | rfl | rfl <;> rfl
  · exact Fr.uJ (Fr.uJ (Fr.uJ (Fr.uJ (Fr.uJ (Fr.uJ (Fr.uJ Fr.rf rfl) rfl) rfl) rfl) rfl) rfl) rfl
theorem m_names {h : Hp} {T : Tx} (R : RSm h T) (F : WFT T) {b m s bw hl fl : Nat} {wn nt : Int32} (hb : b ≤ 1) (hm : m < 5) (hs : s < T 0 2) (hbw : hI h 107 71 = nI bw) (hbw1 : bw ≤ 1) (hh : hI h 139 (5 * b + m) = nI hl) (hl2 : hl < 2 ^ T 0 0) (hf : hI h 137 (5 * b + s) = nI fl) (hwn : hI h 140 (5 * b + m) = wn) (hnt : hI h 143 b = nt) : ∃ h', fX10_layNames h (nI b) (nI s) (nI m) = some h' ∧ (∀ i, i < 7 → hJ h' 135 i = nmT T bw s fl hl wn nt i) ∧ Fr (fun _ _ => False) (fun a _ => a = 135) h h' := by
  have hs5 := F.1.2.2.1
  have h8 := F.1.1
  obtain ⟨-, hc, -⟩ := F.2.2.2.1 s hs
  obtain ⟨-, r7, -⟩ := R.2.2.2.1 s hs
  obtain ⟨-, rw2, rw3⟩ := R.2.1 (T 7 s) hc
  have h256 := p8 hl2 h8
  have eI : ∀ (g : Hp) (a k : Nat) (v : Int64) (x y : Nat), hI (uJ g a k v) x y = hI g x y := fun _ _ _ _ _ _ => rfl
  have fo : ∀ g : Hp, (∀ a i, hI g a i = hI h a i) → fX10_forceOf g (nI b) (nI m) (nI (T 7 s)) = some (nI (fcN T bw hl (T 7 s) (T 0 1)), g) := by
    intro g g1
    have R' : RSm g T := by
      unfold RSm MLk
      simp only [g1]
      exact R
    exact m_force R' F hb hm (by omega) (by rw [g1]; exact hbw) hbw1 (by rw [g1]; exact hh) hl2
  let g1 : Hp := uJ (uJ (uJ h 135 0 (nI (T 2 (T 7 s))).toInt64) 135 1 (nI (T 3 (T 7 s))).toInt64) 135 2 (nI fl).toInt64
  have f1 := fo g1 (fun _ _ => rfl)
  refine ⟨uJ (uJ (uJ (uJ g1 135 3 (nI (fcN T bw hl (T 7 s) (T 0 1))).toInt64) 135 4 wn.toInt64) 135 5 (nI (pop hl)).toInt64) 135 6 nt.toInt64, ?_, ?_, ?_⟩
  · unfold fX10_layNames
    simp (disch := omega) only [lit, inbN, if_true, ifP, nI_clamp, r7, rw2, rw3, eI, pk_mul, nI_add, hf]
    rw [show uJ (uJ (uJ h 135 0 (nI (T 2 (T 7 s))).toInt64) 135 1 (nI (T 3 (T 7 s))).toInt64) 135 2 (nI fl).toInt64 = g1 from rfl, f1]
    simp (disch := omega) only [bnd_some, ifP, inbN, if_true, eI, nI_clamp]
    rw [show hI g1 140 (5 * b + m) = hI h 140 (5 * b + m) from rfl, show hI g1 139 (5 * b + m) = hI h 139 (5 * b + m) from rfl, hwn, hh, m_many (by omega)]
    simp (disch := omega) only [bnd_some, ifP, inbN, if_true, eI, nI_clamp]
    rw [show hI g1 143 b = hI h 143 b from rfl, hnt]
  · intro i hi
    have k : ∀ (g : Hp) (j i : Nat) (v : Int64), hJ (uJ g 135 j v) 135 i = if i = j then v else hJ g 135 i := fun g j i v => by rw [hJ_uJ]; simp
    unfold nmT
    simp only [k, g1]
    have ci : i = 0 ∨ i = 1 ∨ i = 2 ∨ i = 3 ∨ i = 4 ∨ i = 5 ∨ i = 6 := by omega
    rcases ci with rfl | rfl | rfl | rfl | rfl | rfl | rfl <;> rfl
  · exact Fr.uJ (Fr.uJ (Fr.uJ (Fr.uJ (Fr.uJ (Fr.uJ (Fr.uJ Fr.rf rfl) rfl) rfl) rfl) rfl) rfl) rfl
