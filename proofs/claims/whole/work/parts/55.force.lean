/-! FORCE: the class's by bits, the reference's by contras. -/
theorem shr1T {n i : Nat} (hn : n < 2 ^ 31) (hi : i < 32) : ((nI n >>> (nI i &&& nI 31)) &&& nI 1 = nI 1) = (n.testBit i = true) := by
  rw [shr1 hn hi, nI_eqP (Nat.lt_of_le_of_lt (bn_le n i) (by decide)) (by decide), bn_1]
theorem shr1F {n i : Nat} (hn : n < 2 ^ 31) (hi : i < 32) : ((nI n >>> (nI i &&& nI 31)) &&& nI 1 = nI 0) = (n.testBit i = false) := by
  rw [shr1 hn hi, nI_eqP (Nat.lt_of_le_of_lt (bn_le n i) (by decide)) (by decide), bn_0]
theorem orB_tb {p : Nat → Bool} {t : Nat → Nat} {b : Nat} : ∀ {n : Nat}, ((orB p t n).testBit b = true) ↔ ∃ k, k < n ∧ p k = true ∧ t k = b
  | 0 => by simp [orB]
  | n + 1 => by
    rw [orB, Nat.testBit_or, Bool.or_eq_true, orB_tb (n := n)]
    constructor
    · rintro (⟨k, hk, a⟩ | q)
      · exact ⟨k, by omega, a⟩
      · by_cases hp : p n = true
        · rw [if_pos hp, tb_pow] at q
          exact ⟨n, by omega, hp, of_decide_eq_true q⟩
        · rw [if_neg hp] at q; simp at q
    · rintro ⟨k, hk, hp, rfl⟩
      rcases (by omega : k < n ∨ k = n) with q | rfl
      · exact Or.inl ⟨k, q, hp, rfl⟩
      · exact Or.inr (by rw [if_pos hp, tb_pow]; simp)
theorem orB_lt {p : Nat → Bool} {t : Nat → Nat} {n c : Nat} (h : ∀ k, k < n → t k < c) : orB p t n < 2 ^ c := by
  apply tb_lt
  intro i hi
  rw [← Bool.not_eq_true, orB_tb]
  rintro ⟨k, hk, -, e⟩
  have := h k hk
  omega
theorem p8 {n c : Nat} (h : n < 2 ^ c) (hc : c ≤ 8) : n < 256 := Nat.lt_of_lt_of_le h (Nat.pow_le_pow_right (by decide) hc)
theorem hits_lt {T : Tx} (F : WFT T) (i : Nat) : hitsT T i < 2 ^ T 0 0 := orB_lt (fun k hk => (F.2.2.1 k hk).2.1)
theorem foes_lt {T : Tx} (F : WFT T) (i : Nat) : foesT T i < 2 ^ T 0 0 := orB_lt (fun k hk => (F.2.2.1 k hk).1)
theorem hits_tb {T : Tx} {i b : Nat} : ((hitsT T i).testBit b = true) ↔ ∃ k, k < T 0 1 ∧ T 4 k = i ∧ T 5 k = b := by
  unfold hitsT; rw [orB_tb]; simp only [decide_eq_true_eq]
theorem foes_tb {T : Tx} {i b : Nat} : ((foesT T i).testBit b = true) ↔ ∃ k, k < T 0 1 ∧ T 5 k = i ∧ T 4 k = b := by
  unfold foesT; rw [orB_tb]; simp only [decide_eq_true_eq]
/-- the most weight of a set -/
def mwN (w : Nat → Nat) (s : Nat) : Nat → Nat
  | 0 => 0
  | i + 1 => if s.testBit i = true ∧ mwN w s i < w i then w i else mwN w s i
theorem mwN_ge {w : Nat → Nat} {s i : Nat} (hs : s.testBit i = true) : ∀ {n : Nat}, i < n → w i ≤ mwN w s n
  | n + 1, h => by
    rw [mwN]
    rcases (by omega : i < n ∨ i = n) with q | rfl
    · have := mwN_ge hs q (w := w)
      split <;> omega
    · split
      · exact Nat.le_refl _
      · rename_i q
        have : ¬ mwN w s i < w i := fun z => q ⟨hs, z⟩
        omega
theorem mwN_at {w : Nat → Nat} {s : Nat} : ∀ {n : Nat}, mwN w s n = 0 ∨ ∃ i, i < n ∧ s.testBit i = true ∧ mwN w s n = w i
  | 0 => Or.inl rfl
  | n + 1 => by
    rw [mwN]
    split
    · rename_i q; exact Or.inr ⟨n, by omega, q.1, rfl⟩
    · rcases mwN_at (w := w) (s := s) (n := n) with q | ⟨i, a, b, c⟩
      · exact Or.inl q
      · exact Or.inr ⟨i, by omega, b, c⟩
theorem mwN_le {w : Nat → Nat} {s n : Nat} (h : ∀ i, s.testBit i = true → w i ≤ 99) : mwN w s n ≤ 99 := by
  rcases mwN_at (w := w) (s := s) (n := n) with q | ⟨i, a, b, c⟩
  · omega
  · have := h i b; omega
theorem tb_in {s n i : Nat} (h : s < 2 ^ n) (q : s.testBit i = true) : i < n := by
  apply Nat.lt_of_not_le
  intro z
  rw [lt_tb h z] at q
  cases q
theorem x_mw1 {h : Hp} {S : Nat} {T : Tx} (hS : isS S) (R : RSc h S T) (F : WFT T) {s : Nat} (hs : s < 2 ^ T 0 0) : ∀ (d i fu : Nat), i + d = 8 → d < fu → fX0_mostWeight_4 fu (S + 1) h (nI s) (nI (mwN (T 2) s i)) (nI i) = some (nI (mwN (T 2) s 8), h)
  | 0, i, fu + 1, hi, _ => by
    have e : i = 8 := by omega
    subst e
    rw [fX0_mostWeight_4]; simp only [lit]; rw [if_pos (nI_le (by omega) (by omega))]
  | d + 1, i, fu + 1, hi, hf => by
    have ih := x_mw1 hS R F hs d (i + 1) fu (by omega) (by omega)
    have h8 := p8 hs F.1.1
    have hb : mwN (T 2) s i ≤ 99 := mwN_le (fun j hj => (F.2.1 j (tb_in hs hj)).2.1)
    rw [fX0_mostWeight_4]
    by_cases q : s.testBit i = true
    · have hi2 : i < T 0 0 := tb_in hs q
      have hw := (R.2.1 i hi2).2.1
      have hw9 := (F.2.1 i hi2).2.1
      by_cases q2 : T 2 i ≤ mwN (T 2) s i
      · have e : mwN (T 2) s (i + 1) = mwN (T 2) s i := by rw [mwN, if_neg (fun z => by omega)]
        rw [e] at ih
        simp (disch := omega) only [lit, nI_leP, shr1T, rC1 hS, inbN, if_true, nI_clamp, hw, ifP, ifN, q, q2, fX0_mostWeight_36, nI_add]
        exact ih
      · have e : mwN (T 2) s (i + 1) = T 2 i := by rw [mwN, if_pos ⟨q, by omega⟩]
        rw [e] at ih
        simp (disch := omega) only [lit, nI_leP, shr1T, rC1 hS, inbN, if_true, nI_clamp, hw, ifP, ifN, q, fX0_mostWeight_36, nI_add]
        exact ih
    · have e : mwN (T 2) s (i + 1) = mwN (T 2) s i := by rw [mwN, if_neg (fun z => q z.1)]
      rw [e] at ih
      simp (disch := omega) only [lit, nI_leP, shr1T, ifP, ifN, q, if_false, fX0_mostWeight_36, nI_add]
      exact ih
theorem x_mostWeight {h : Hp} {S : Nat} {T : Tx} (hS : isS S) (R : RSc h S T) (F : WFT T) {s : Nat} (hs : s < 2 ^ T 0 0) : fX0_mostWeight (S + 1) h (nI s) = some (nI (mwN (T 2) s 8), h) := by
  unfold fX0_mostWeight
  exact x_mw1 hS R F hs 8 0 FU rfl (by decide)
def fcB (T : Tx) (bw c k : Nat) : Nat := if T 5 k = c then T 4 k else if bw = 1 ∧ T 4 k = c then T 5 k else 99
def fcN (T : Tx) (bw hl c : Nat) : Nat → Nat
  | 0 => 0
  | k + 1 => if fcB T bw c k ≠ 99 ∧ hl.testBit (fcB T bw c k) = true ∧ fcN T bw hl c k < T 2 (fcB T bw c k) then T 2 (fcB T bw c k) else fcN T bw hl c k
theorem fcN_ge {T : Tx} {bw hl c k : Nat} (h1 : fcB T bw c k ≠ 99) (h2 : hl.testBit (fcB T bw c k) = true) : ∀ {n : Nat}, k < n → T 2 (fcB T bw c k) ≤ fcN T bw hl c n
  | n + 1, h => by
    rw [fcN]
    rcases (by omega : k < n ∨ k = n) with q | rfl
    · have := fcN_ge h1 h2 q
      split <;> omega
    · split
      · exact Nat.le_refl _
      · rename_i q
        have : ¬ fcN T bw hl c k < T 2 (fcB T bw c k) := fun z => q ⟨h1, h2, z⟩
        omega
theorem fcN_at {T : Tx} {bw hl c : Nat} : ∀ {n : Nat}, fcN T bw hl c n = 0 ∨ ∃ k, k < n ∧ fcB T bw c k ≠ 99 ∧ hl.testBit (fcB T bw c k) = true ∧ fcN T bw hl c n = T 2 (fcB T bw c k)
  | 0 => Or.inl rfl
  | n + 1 => by
    rw [fcN]
    split
    · rename_i q; exact Or.inr ⟨n, by omega, q.1, q.2.1, rfl⟩
    · rcases fcN_at (T := T) (bw := bw) (hl := hl) (c := c) (n := n) with q | ⟨i, a, b⟩
      · exact Or.inl q
      · exact Or.inr ⟨i, by omega, b⟩
/-- those that count against c -/
def fcS (T : Tx) (bw c : Nat) : Nat := if bw = 1 then foesT T c ||| hitsT T c else foesT T c
theorem fcS_tb {T : Tx} (F : WFT T) {bw c i : Nat} : ((fcS T bw c).testBit i = true) ↔ ∃ k, k < T 0 1 ∧ fcB T bw c k ≠ 99 ∧ fcB T bw c k = i := by
  unfold fcS
  constructor
  · intro h
    by_cases q : bw = 1
    · rw [if_pos q, Nat.testBit_or, Bool.or_eq_true] at h
      rcases h with h | h
      · obtain ⟨k, hk, a, b⟩ := foes_tb.mp h
        have e : fcB T bw c k = i := by unfold fcB; rw [if_pos a, b]
        have := F.2.2.1 k hk
        have := F.1.1
        exact ⟨k, hk, by omega, e⟩
      · obtain ⟨k, hk, a, b⟩ := hits_tb.mp h
        have hh := F.2.2.1 k hk
        have e : fcB T bw c k = i := by unfold fcB; rw [if_neg (by omega), if_pos ⟨q, a⟩, b]
        have := F.1.1
        exact ⟨k, hk, by omega, e⟩
    · rw [if_neg q] at h
      obtain ⟨k, hk, a, b⟩ := foes_tb.mp h
      have e : fcB T bw c k = i := by unfold fcB; rw [if_pos a, b]
      have := F.2.2.1 k hk
      have := F.1.1
      exact ⟨k, hk, by omega, e⟩
  · rintro ⟨k, hk, h9, e⟩
    unfold fcB at h9 e
    by_cases a : T 5 k = c
    · rw [if_pos a] at e
      have : (foesT T c).testBit i = true := foes_tb.mpr ⟨k, hk, a, e⟩
      split
      · rw [Nat.testBit_or, this, Bool.true_or]
      · exact this
    · rw [if_neg a] at e h9
      by_cases d : bw = 1 ∧ T 4 k = c
      · rw [if_pos d] at e
        rw [if_pos d.1, Nat.testBit_or, hits_tb.mpr ⟨k, hk, d.2, e⟩, Bool.or_true]
      · rw [if_neg d] at h9; exact absurd rfl h9
theorem force_eq {T : Tx} (F : WFT T) {bw hl c : Nat} (hh : hl < 2 ^ T 0 0) : mwN (T 2) (hl &&& fcS T bw c) 8 = fcN T bw hl c (T 0 1) := by
  apply Nat.le_antisymm
  · rcases mwN_at (w := T 2) (s := hl &&& fcS T bw c) (n := 8) with q | ⟨i, hi, b, e⟩
    · omega
    · rw [e]
      rw [Nat.testBit_and, Bool.and_eq_true] at b
      obtain ⟨k, hk, h9, rfl⟩ := (fcS_tb F).mp b.2
      exact fcN_ge h9 b.1 hk
  · rcases fcN_at (T := T) (bw := bw) (hl := hl) (c := c) (n := T 0 1) with q | ⟨k, hk, h9, b, e⟩
    · omega
    · rw [e]
      have hlt := tb_in hh b
      have := F.1.1
      apply mwN_ge
      · rw [Nat.testBit_and, b, (fcS_tb F).mpr ⟨k, hk, h9, rfl⟩]; rfl
      · omega
theorem fcN_le {T : Tx} (F : WFT T) {bw hl c n : Nat} (hn : n ≤ T 0 1) : fcN T bw hl c n ≤ 99 := by
  rcases fcN_at (T := T) (bw := bw) (hl := hl) (c := c) (n := n) with q | ⟨k, hk, h9, b, e⟩
  · omega
  · have := F.2.2.1 k (by omega)
    have h1 : fcB T bw c k < T 0 0 := by
      unfold fcB at h9 ⊢
      split
      · omega
      · split
        · omega
        · rename_i q1 q2; rw [if_neg q1, if_neg q2] at h9; exact absurd rfl h9
    have := (F.2.1 _ h1).2.1
    omega
theorem m_fc1 {h : Hp} {T : Tx} (R : RSm h T) (F : WFT T) {b m c bw hl : Nat} (hb : b ≤ 1) (hm : m < 5) (hc : c < 2 ^ 31) (hbw : hI h 107 71 = nI bw) (hbw1 : bw ≤ 1) (hh : hI h 139 (5 * b + m) = nI hl) (hl2 : hl < 2 ^ T 0 0) : ∀ (d k fu : Nat), k + d = T 0 1 → d < fu → fX10_forceOf_6 fu h (nI b) (nI m) (nI c) (nI (fcN T bw hl c k)) (nI k) = some (nI (fcN T bw hl c (T 0 1)), h)
  | 0, k, fu + 1, hi, _ => by
    have e : k = T 0 1 := by omega
    subst e
    rw [fX10_forceOf_6, R.1.2.1, if_pos (nI_le (Nat.le_refl _) (by have := F.1.2.1; omega))]
  | d + 1, k, fu + 1, hi, hf => by
    have ih := m_fc1 R F hb hm hc hbw hbw1 hh hl2 d (k + 1) fu (by omega) (by omega)
    have h8 := p8 hl2 F.1.1
    have hk : k < T 0 1 := by omega
    have hK := F.1.2.1
    have h0 := F.1.1
    obtain ⟨r4, r5⟩ := R.2.2.1 k hk
    obtain ⟨f4, f5, -⟩ := F.2.2.1 k hk
    have hle : fcN T bw hl c k ≤ 99 := fcN_le F (by omega)
    have key : ∀ x, x < T 0 0 → fcB T bw c k = x → fX10_forceOf_65 (fX10_forceOf_6 fu) h (nI b) (nI m) (nI c) (nI (fcN T bw hl c k)) (nI k) (nI x) = some (nI (fcN T bw hl c (T 0 1)), h) := by
      intro x hx hxe
      have hw := (R.2.1 x hx).2.1
      have hw9 := (F.2.1 x hx).2.1
      unfold fX10_forceOf_65
      by_cases q : hl.testBit x = true
      · by_cases q2 : T 2 x ≤ fcN T bw hl c k
        · have e : fcN T bw hl c (k + 1) = fcN T bw hl c k := by rw [fcN, if_neg (fun z => by rw [hxe] at z; omega)]
          rw [e] at ih
          simp (disch := omega) only [lit, nI_ltP, nI_leP, nI_eqP, ifP, ifN, pk_mul, nI_add, inbN, if_true, nI_clamp, hh, fX10_isOf, shr1T, q, q2, bnd_some, hw, fX10_forceOf_111]
          exact ih
        · have e : fcN T bw hl c (k + 1) = T 2 x := by rw [fcN, if_pos (by rw [hxe]; exact ⟨by omega, q, by omega⟩), hxe]
          rw [e] at ih
          simp (disch := omega) only [lit, nI_ltP, nI_leP, nI_eqP, ifP, ifN, pk_mul, nI_add, inbN, if_true, nI_clamp, hh, fX10_isOf, shr1T, q, bnd_some, hw, fX10_forceOf_111]
          exact ih
      · have e : fcN T bw hl c (k + 1) = fcN T bw hl c k := by rw [fcN, if_neg (fun z => by rw [hxe] at z; exact q z.2.1)]
        rw [e] at ih
        simp (disch := omega) only [lit, nI_ltP, nI_leP, nI_eqP, ifP, ifN, pk_mul, nI_add, inbN, if_true, nI_clamp, hh, fX10_isOf, shr1T, q, if_false, bnd_some, fX10_forceOf_111]
        exact ih
    have key9 : fcB T bw c k = 99 → fX10_forceOf_64 (fX10_forceOf_6 fu) h (nI b) (nI m) (nI c) (nI (fcN T bw hl c k)) (nI k) = some (nI (fcN T bw hl c (T 0 1)), h) := by
      intro e9
      have e : fcN T bw hl c (k + 1) = fcN T bw hl c k := by rw [fcN, if_neg (fun z => z.1 e9)]
      rw [e] at ih
      unfold fX10_forceOf_64 fX10_forceOf_65
      rw [if_pos (by decide)]
      simp only [fX10_forceOf_111, lit, nI_add]
      exact ih
    rw [fX10_forceOf_6, R.1.2.1]
    by_cases q5 : T 5 k = c
    · have := key (T 4 k) f4 (by unfold fcB; rw [if_pos q5])
      simp (disch := omega) only [lit, nI_leP, ifN, ifP, inbN, if_true, nI_clamp, r5, r4, nI_eqP]
      exact this
    · by_cases q1 : bw = 1
      · by_cases q4 : T 4 k = c
        · have := key (T 5 k) f5 (by unfold fcB; rw [if_neg q5, if_pos ⟨q1, q4⟩])
          simp (disch := omega) only [lit, nI_leP, ifN, ifP, inbN, if_true, nI_clamp, r5, r4, nI_eqP, hbw]
          exact this
        · have := key9 (by unfold fcB; rw [if_neg q5, if_neg (fun z => q4 z.2)])
          simp (disch := omega) only [lit, nI_leP, ifN, ifP, inbN, if_true, nI_clamp, r5, r4, nI_eqP, hbw]
          exact this
      · have := key9 (by unfold fcB; rw [if_neg q5, if_neg (fun z => q1 z.1)])
        simp (disch := omega) only [lit, nI_leP, ifN, ifP, inbN, if_true, nI_clamp, r5, r4, nI_eqP, hbw]
        exact this
theorem m_force {h : Hp} {T : Tx} (R : RSm h T) (F : WFT T) {b m c bw hl : Nat} (hb : b ≤ 1) (hm : m < 5) (hc : c < 2 ^ 31) (hbw : hI h 107 71 = nI bw) (hbw1 : bw ≤ 1) (hh : hI h 139 (5 * b + m) = nI hl) (hl2 : hl < 2 ^ T 0 0) : fX10_forceOf h (nI b) (nI m) (nI c) = some (nI (fcN T bw hl c (T 0 1)), h) := by
  unfold fX10_forceOf
  exact m_fc1 R F hb hm hc hbw hbw1 hh hl2 (T 0 1) 0 FU (by omega) (Nat.lt_of_le_of_lt F.1.2.1 (by decide))
theorem x_force {h : Hp} {S W : Nat} {T : Tx} (hS : isS S) (hW : isW W) (R : RSc h S T) (F : WFT T) (hr : hR h W 0 = some S) {m c bw hl : Nat} (hm : m < 5) (hc : c < 8) (hbw : hI h W 13 = nI bw) (hbw1 : bw ≤ 1) (hh : hI h (W + 2) m = nI hl) (hl2 : hl < 2 ^ T 0 0) : fX8_forceOf W h (nI m) (nI c) = some (nI (fcN T bw hl c (T 0 1)), h) := by
  rw [← force_eq F hl2]
  obtain ⟨rh, rf'⟩ := R.2.2.1 c hc
  have hf := foes_lt F c
  have hlt : hl &&& fcS T bw c < 2 ^ T 0 0 := Nat.lt_of_le_of_lt Nat.and_le_left hl2
  have k33 : fX8_forceOf_33 W h (nI m) (nI (fcS T bw c)) = some (nI (mwN (T 2) (hl &&& fcS T bw c) 8), h) := by
    unfold fX8_forceOf_33
    rw [dref_of hr (sS hS)]
    simp (disch := omega) only [bind_some', fX8_holdsOf, lit, nI_ltP, nI_leP, ifN, ifP, inbN, if_true, nI_clamp, rW6 hW, hh, bnd_some, nx_a, rS0 hS]
    rw [x_mostWeight hS R F hlt]
    rfl
  have e0 := dref_of (q := (7, 20)) hr (sS hS)
  unfold fX8_forceOf
  simp (disch := omega) only [e0, bind_some', fX0_foesOf, lit, nI_ltP, nI_leP, ifN, ifP, inbN, if_true, nI_clamp, rS0 hS, rC4 hS, rf', bnd_some, hbw]
  by_cases q : bw = 1
  · subst q
    simp (disch := omega) only [e0, bind_some', nI_eqP, ifN, fX0_hitBy, lit, nI_ltP, nI_leP, ifP, inbN, if_true, nI_clamp, rS0 hS, rC3 hS, rh, bnd_some, nx_o]
    unfold fcS at k33 ⊢
    rw [if_pos rfl] at k33 ⊢
    exact k33
  · have e : bw = 0 := by omega
    subst e
    unfold fcS at k33 ⊢
    rw [if_neg (show ¬ (0 : Nat) = 1 by decide)] at k33 ⊢
    rw [if_pos rfl]
    exact k33
