/-! The names of a law, both sides. -/
def popN (n : Nat) : Nat → Nat
  | 0 => 0
  | k + 1 => popN n k + bn n k
/-- how many bits -/
def pop (n : Nat) : Nat := popN n 9
theorem popN_le (n : Nat) : ∀ k, popN n k ≤ k
  | 0 => Nat.le_refl _
  | k + 1 => by have := popN_le n k; have := bn_le n k; rw [popN]; omega
theorem pop_le (n : Nat) : pop n ≤ 9 := popN_le n 9
theorem m_many1 {h : Hp} {n : Nat} (hn : n < 2 ^ 31) : ∀ (d k fu : Nat), k + d = 9 → d < fu → fX10_manyOf_4 fu h (nI n) (nI (popN n k)) (nI k) = some (nI (pop n), h)
  | 0, k, fu + 1, hk, _ => by
    have e : k = 9 := by omega
    subst e
    rw [fX10_manyOf_4]; simp only [lit]; rw [if_pos (nI_le (by omega) (by omega))]; rfl
  | d + 1, k, fu + 1, hk, hf => by
    have ih := m_many1 (h := h) hn d (k + 1) fu (by omega) (by omega)
    rw [fX10_manyOf_4]
    simp (disch := omega) only [lit, ↓reduceIte, leT, leF, ltT, ltF, eqT, eqF, shr1, nI_add]
    exact ih
theorem m_many {h : Hp} {n : Nat} (hn : n < 2 ^ 31) : fX10_manyOf h (nI n) = some (nI (pop n), h) := by
  unfold fX10_manyOf
  exact m_many1 hn 9 0 FU rfl (by decide)
def hz : Hp := (fun _ _ => 0, fun _ _ => 0, fun _ _ => none)
def bcx (x : Int32) : Int32 := ((fJ6_bitCount_0f7a4 hz x).getD (0, hz)).1
theorem x_bc0 (h : Hp) (x : Int32) : fJ6_bitCount_0f7a4 h x = some (bcx x, h) := rfl
theorem bcx_pop : ∀ n, n < 256 → bcx (nI n) = nI (pop n) := by decide +kernel
theorem x_bc {h : Hp} {n : Nat} (hn : n < 256) : fJ6_bitCount_0f7a4 h (nI n) = some (nI (pop n), h) := by rw [x_bc0, bcx_pop n hn]
/-- the seven names: straw s, how full, what the member holds, his wins, the night -/
def nmT (T : Tx) (bw s fl hl : Nat) (wn nt : Int32) (i : Nat) : Int64 :=
  if i = 0 then (nI (T 2 (T 7 s))).toInt64 else if i = 1 then (nI (T 3 (T 7 s))).toInt64 else if i = 2 then (nI fl).toInt64 else if i = 3 then (nI (fcN T bw hl (T 7 s) (T 0 1))).toInt64 else if i = 4 then wn.toInt64 else if i = 5 then (nI (pop hl)).toInt64 else nt.toInt64
theorem bd_i (x : Int32) : bd x.toInt64 := by
  unfold bd
  rw [Int32.toInt_toInt64]
  have h1 := Int32.le_toInt x
  have h2 := Int32.toInt_lt x
  omega
theorem nmT_bd {T : Tx} {bw s fl hl : Nat} {wn nt : Int32} (i : Nat) : bd (nmT T bw s fl hl wn nt i) := by
  unfold nmT
  repeat' split
  all_goals exact bd_i _
/-- the seven names are laid -/
def nm3 (h : Hp) (N : Nat) (f : Nat → Int64) : Hp := uJ (uJ (uJ h N 0 (f 0)) N 1 (f 1)) N 2 (f 2)
def nm7 (h : Hp) (N : Nat) (f : Nat → Int64) : Hp := uJ (uJ (uJ (uJ (nm3 h N f) N 3 (f 3)) N 4 (f 4)) N 5 (f 5)) N 6 (f 6)
theorem nm7_val {h : Hp} {N : Nat} {f : Nat → Int64} (i : Nat) (hi : i < 7) : hJ (nm7 h N f) N i = f i := by
  have k : ∀ (g : Hp) (j i : Nat) (v : Int64), hJ (uJ g N j v) N i = if i = j then v else hJ g N i := fun g j i v => by rw [hJ_uJ]; simp
  have ci : i = 0 ∨ i = 1 ∨ i = 2 ∨ i = 3 ∨ i = 4 ∨ i = 5 ∨ i = 6 := by omega
  unfold nm7 nm3
  simp only [k]
  rcases ci with rfl | rfl | rfl | rfl | rfl | rfl | rfl <;> simp
theorem nm7_Fr {h : Hp} {N : Nat} {f : Nat → Int64} : Fr (fun _ _ => False) (fun a _ => a = N) h (nm7 h N f) := by
  have s0 : Fr (fun _ _ => False) (fun a _ => a = N) h h := Fr.rf
  exact ((((((s0.uJ rfl).uJ rfl).uJ rfl).uJ rfl).uJ rfl).uJ rfl).uJ rfl
theorem nm3_I {h : Hp} {N : Nat} {f : Nat → Int64} (a i : Nat) : hI (nm3 h N f) a i = hI h a i := Eq.trans (Eq.refl _) (Eq.refl _)
theorem nm3_R {h : Hp} {N : Nat} {f : Nat → Int64} (a i : Nat) : hR (nm3 h N f) a i = hR h a i := Eq.trans (Eq.refl _) (Eq.refl _)
theorem nm3_e {h : Hp} {N : Nat} {f : Nat → Int64} : uJ (uJ (uJ h N 0 (f 0)) N 1 (f 1)) N 2 (f 2) = nm3 h N f := rfl
theorem nm7_e {h : Hp} {N : Nat} {f : Nat → Int64} : uJ (uJ (uJ (uJ (nm3 h N f) N 3 (f 3)) N 4 (f 4)) N 5 (f 5)) N 6 (f 6) = nm7 h N f := rfl
theorem hI_uJ' (h : Hp) (a k : Nat) (v : Int64) (x y : Nat) : hI (uJ h a k v) x y = hI h x y := Eq.trans (Eq.refl _) (Eq.refl _)
theorem nmT_0 {T : Tx} {bw s fl hl : Nat} {wn nt : Int32} : (nI (T 2 (T 7 s))).toInt64 = nmT T bw s fl hl wn nt 0 := by unfold nmT; rw [if_pos rfl]
theorem nmT_1 {T : Tx} {bw s fl hl : Nat} {wn nt : Int32} : (nI (T 3 (T 7 s))).toInt64 = nmT T bw s fl hl wn nt 1 := by unfold nmT; rw [if_neg (by decide), if_pos rfl]
theorem nmT_2 {T : Tx} {bw s fl hl : Nat} {wn nt : Int32} : (nI fl).toInt64 = nmT T bw s fl hl wn nt 2 := by unfold nmT; rw [if_neg (by decide), if_neg (by decide), if_pos rfl]
theorem nmT_3 {T : Tx} {bw s fl hl : Nat} {wn nt : Int32} : (nI (fcN T bw hl (T 7 s) (T 0 1))).toInt64 = nmT T bw s fl hl wn nt 3 := by unfold nmT; rw [if_neg (by decide), if_neg (by decide), if_neg (by decide), if_pos rfl]
theorem nmT_4 {T : Tx} {bw s fl hl : Nat} {wn nt : Int32} : wn.toInt64 = nmT T bw s fl hl wn nt 4 := by unfold nmT; rw [if_neg (by decide), if_neg (by decide), if_neg (by decide), if_neg (by decide), if_pos rfl]
theorem nmT_5 {T : Tx} {bw s fl hl : Nat} {wn nt : Int32} : (nI (pop hl)).toInt64 = nmT T bw s fl hl wn nt 5 := by unfold nmT; rw [if_neg (by decide), if_neg (by decide), if_neg (by decide), if_neg (by decide), if_neg (by decide), if_pos rfl]
theorem nmT_6 {T : Tx} {bw s fl hl : Nat} {wn nt : Int32} : nt.toInt64 = nmT T bw s fl hl wn nt 6 := by unfold nmT; rw [if_neg (by decide), if_neg (by decide), if_neg (by decide), if_neg (by decide), if_neg (by decide), if_neg (by decide)]
theorem x_names {h : Hp} {S W : Nat} {T : Tx} (hS : isS S) (hW : isW W) (R : RSc h S T) (F : WFT T) (hr : hR h W 0 = some S) {m s bw hl fl : Nat} {wn nt : Int32} (hm : m < 5) (hs : s < T 0 2) (hbw : hI h W 13 = nI bw) (hbw1 : bw ≤ 1) (hh : hI h (W + 2) m = nI hl) (hl2 : hl < 2 ^ T 0 0) (hf : hI h (W + 1) s = nI fl) (hwn : hI h (W + 3) m = wn) (hnt : hI h W 1 = nt) : ∃ h', fX8_readNames W h (nI m) (nI s) = some h' ∧ (∀ i, i < 7 → hJ h' (W + 5) i = nmT T bw s fl hl wn nt i) ∧ Fr (fun _ _ => False) (fun a _ => a = W + 5) h h' := by
  refine ⟨nm7 h (W + 5) (nmT T bw s fl hl wn nt), ?_, nm7_val, nm7_Fr⟩
  have hs5 := F.1.2.2.1
  have h8 := F.1.1
  obtain ⟨-, hc, -⟩ := F.2.2.2.1 s hs
  obtain ⟨-, r7, -⟩ := R.2.2.2.2.1 s hs
  obtain ⟨-, rw2, rw3⟩ := R.2.1 (T 7 s) hc
  have h256 := p8 hl2 h8
  have e0 := dref_of (q := (7, 20)) hr (sS hS)
  have R' : RSc (nm3 h (W + 5) (nmT T bw s fl hl wn nt)) S T := RSc_Fr (PI := fun _ _ => False) (PJ := fun _ _ => True) hS R ⟨fun a i _ => nm3_I a i, fun a i q => absurd trivial q, nm3_R⟩ (fun _ _ _ _ q => q)
  have f1 := x_force hS hW R' F (by rw [nm3_R]; exact hr) hm (show T 7 s < 8 by omega) (by rw [nm3_I]; exact hbw) hbw1 (by rw [nm3_I]; exact hh) hl2
  unfold fX8_readNames
  simp (disch := omega) only [e0, dref_uJ, bind_some', fX7_claimOf, lit, ↓reduceIte, leT, leF, ltT, ltF, eqT, eqF, inbN, nI_clamp, rS2 hS, r7, bnd_some, rS0 hS, fX0_weightOf, fX0_temperOf, rC1 hS, rC2 hS, rw2, rw3, rW9 hW, hI_uJ', fX8_fullOf, rW5 hW, hf]
  rw [nmT_0 (bw := bw) (fl := fl) (hl := hl) (wn := wn) (nt := nt), nmT_1 (bw := bw) (fl := fl) (hl := hl) (wn := wn) (nt := nt), nmT_2 (T := T) (bw := bw) (s := s) (hl := hl) (wn := wn) (nt := nt), nm3_e, f1]
  simp (disch := omega) only [bnd_some, ↓reduceIte, leT, leF, ltT, ltF, eqT, eqF, inbN, lit, fX8_wonBy, fX8_holdsOf, nI_clamp, rW7 hW, rW6 hW, hI_uJ', nm3_I, hwn, hh, x_bc h256, hnt]
  rw [nmT_3 (fl := fl) (wn := wn) (nt := nt), nmT_4 (T := T) (bw := bw) (s := s) (fl := fl) (hl := hl) (nt := nt), nmT_5 (T := T) (bw := bw) (s := s) (fl := fl) (wn := wn) (nt := nt), nmT_6 (T := T) (bw := bw) (s := s) (fl := fl) (hl := hl) (wn := wn), nm7_e]
theorem m_names {h : Hp} {T : Tx} (R : RSm h T) (F : WFT T) {b m s bw hl fl : Nat} {wn nt : Int32} (hb : b ≤ 1) (hm : m < 5) (hs : s < T 0 2) (hbw : hI h 107 71 = nI bw) (hbw1 : bw ≤ 1) (hh : hI h 139 (5 * b + m) = nI hl) (hl2 : hl < 2 ^ T 0 0) (hf : hI h 137 (5 * b + s) = nI fl) (hwn : hI h 140 (5 * b + m) = wn) (hnt : hI h 143 b = nt) : ∃ h', fX10_layNames h (nI b) (nI s) (nI m) = some h' ∧ (∀ i, i < 7 → hJ h' 135 i = nmT T bw s fl hl wn nt i) ∧ Fr (fun _ _ => False) (fun a _ => a = 135) h h' := by
  refine ⟨nm7 h 135 (nmT T bw s fl hl wn nt), ?_, nm7_val, nm7_Fr⟩
  have hs5 := F.1.2.2.1
  have h8 := F.1.1
  obtain ⟨-, hc, -⟩ := F.2.2.2.1 s hs
  obtain ⟨-, r7, -⟩ := R.2.2.2.1 s hs
  obtain ⟨-, rw2, rw3⟩ := R.2.1 (T 7 s) hc
  have h256 := p8 hl2 h8
  have R' : RSm (nm3 h 135 (nmT T bw s fl hl wn nt)) T := RSm_Fr (PI := fun _ _ => False) (PJ := fun _ _ => True) R ⟨fun a i _ => nm3_I a i, fun a i q => absurd trivial q, nm3_R⟩ (fun _ _ _ q => q)
  have f1 := m_force R' F hb hm (show T 7 s < 2 ^ 31 by omega) (by rw [nm3_I]; exact hbw) hbw1 (by rw [nm3_I]; exact hh) hl2
  unfold fX10_layNames
  simp (disch := omega) only [lit, inbN, ↓reduceIte, nI_clamp, r7, rw2, rw3, hI_uJ', pk_mul, nI_add, hf]
  rw [nmT_0 (bw := bw) (fl := fl) (hl := hl) (wn := wn) (nt := nt), nmT_1 (bw := bw) (fl := fl) (hl := hl) (wn := wn) (nt := nt), nmT_2 (T := T) (bw := bw) (s := s) (hl := hl) (wn := wn) (nt := nt), nm3_e, f1]
  simp (disch := omega) only [bnd_some, ↓reduceIte, inbN, hI_uJ', nI_clamp, nm3_I, hwn, hh, m_many, hnt]
  rw [nmT_3 (fl := fl) (wn := wn) (nt := nt), nmT_4 (T := T) (bw := bw) (s := s) (fl := fl) (hl := hl) (nt := nt), nmT_5 (T := T) (bw := bw) (s := s) (fl := fl) (wn := wn) (nt := nt), nmT_6 (T := T) (bw := bw) (s := s) (fl := fl) (hl := hl) (wn := wn), nm7_e]
