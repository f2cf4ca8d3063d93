/-! points, rests, rest, dry. -/
theorem and_tp {a i : Nat} : (a &&& 2 ^ i = 0) = (a.testBit i = false) := by
  apply propext
  constructor
  · intro h
    have := congrArg (fun n => n.testBit i) h
    simp only [Nat.testBit_and, tb_pow, decide_true, Bool.and_true, Nat.zero_testBit] at this
    exact this
  · intro h
    apply Nat.eq_of_testBit_eq
    intro j
    rw [Nat.testBit_and, tb_pow, Nat.zero_testBit]
    by_cases q : i = j
    · subst q; rw [h]; rfl
    · simp [q]
theorem andZ {a i : Nat} (ha : a < 2 ^ 31) : (nI a &&& nI (2 ^ i) = nI 0) = (a.testBit i = false) := by
  rw [nx_a, nI_eqP (Nat.lt_of_le_of_lt Nat.and_le_left ha) (by decide), and_tp]
def pB (T : Tx) (a b k : Nat) : Bool := (a.testBit (T 4 k) && b.testBit (T 5 k)) || (b.testBit (T 4 k) && a.testBit (T 5 k))
def ptN (T : Tx) (a b : Nat) : Nat → Nat
  | 0 => 0
  | k + 1 => ptN T a b k + b2n (pB T a b k)
theorem ptN_le {T : Tx} {a b : Nat} : ∀ k, ptN T a b k ≤ k
  | 0 => Nat.le_refl _
  | k + 1 => by have := ptN_le (T := T) (a := a) (b := b) k; have := b2n_le (pB T a b k); rw [ptN]; omega
section V
variable {hc hm : Hp} {S : Nat} {T : Tx}
theorem x_pt1 (hS : isS S) (R : RSc hc S T) (F : WFT T) {a b : Nat} (ha : a < 2 ^ 31) (hb : b < 2 ^ 31) : ∀ (d k fu : Nat), k + d = T 0 1 → d < fu → fX0_contrasBetween_5 fu (S + 1) hc (nI a) (nI b) (nI (ptN T a b k)) (nI k) = some (nI (ptN T a b (T 0 1)), hc)
  | 0, k, fu + 1, hk, _ => by
    have e : k = T 0 1 := by omega
    subst e
    have := F.1.2.1
    rw [fX0_contrasBetween_5]; simp (disch := omega) only [lit, R.1.2.1, ↓reduceIte, leT]
  | d + 1, k, fu + 1, hk, hf => by
    have ih := x_pt1 hS R F ha hb d (k + 1) fu (by omega) (by omega)
    have h16 := F.1.2.1
    have h8 := F.1.1
    obtain ⟨r4, r5⟩ := R.2.2.2.1 k (by omega)
    obtain ⟨f4, f5, -⟩ := F.2.2.1 k (by omega)
    have ep : ptN T a b (k + 1) = ptN T a b k + b2n (pB T a b k) := rfl
    rw [ep] at ih
    unfold pB at ih
    rw [fX0_contrasBetween_5]
    cases q1 : a.testBit (T 4 k) <;> cases q2 : b.testBit (T 5 k) <;> cases q3 : b.testBit (T 4 k) <;> cases q4 : a.testBit (T 5 k) <;> simp only [q1, q2, q3, q4] at ih <;> simp (disch := omega) only [lit, R.1.2.1, ↓reduceIte, leF, inbN, nI_clamp, rC6 hS, rC7 hS, r4, r5, shl1, andZ, q1, q2, q3, q4, Bool.true_eq_false, fX0_contrasBetween_61, fX0_contrasBetween_62, fX0_contrasBetween_82, fX0_contrasBetween_83, fX0_contrasBetween_95, fX0_contrasBetween_98, eqF, nI_add] <;> exact ih
theorem x_points (s : R2 hc hm S T) {i j a b : Nat} (hi : i < 5) (hj : j < 5) (ha : hI hc 74 i = nI a) (hb : hI hc 74 j = nI b) (ha2 : a < 256) (hb2 : b < 256) : fX9_pointsOf hc (nI i) (nI j) = some (nI (ptN T a b (T 0 1)), hc) := by
  obtain ⟨hS, t1, -, F, Rc, Rm, -⟩ := s.1
  have e0 := dref_of (q := (7, 20)) t1 (sS hS)
  have hW : isW 72 := Or.inl rfl
  have ha' : hI hc (72 + 2) i = nI a := ha
  have hb' : hI hc (72 + 2) j = nI b := hb
  unfold fX9_pointsOf fX0_contrasBetween
  simp (disch := omega) only [lit, e0, bind_some', fX8_holdsOf, ↓reduceIte, ltF, leF, inbN, nI_clamp, rW6 hW, ha', hb', bnd_some, rS0 hS]
  have := x_pt1 hS Rc F (a := a) (b := b) (by omega) (by omega) (T 0 1) 0 FU (by omega) (Nat.lt_of_le_of_lt F.1.2.1 (by decide))
  have e : fX0_contrasBetween_5 FU (S + 1) hc (nI a) (nI b) (nI 0) (nI 0) = some (nI (ptN T a b (T 0 1)), hc) := this
  rw [e]; rfl
theorem m_pt1 (R : RSm hm T) (F : WFT T) {i j a b : Nat} (hi : i < 5) (hj : j < 5) (ha : hI hm 139 i = nI a) (hb : hI hm 139 j = nI b) (ha2 : a < 256) (hb2 : b < 256) : ∀ (d k fu : Nat), k + d = T 0 1 → d < fu → fX10_pointsOf_5 fu hm (nI i) (nI j) (nI (ptN T a b k)) (nI k) = some (nI (ptN T a b (T 0 1)), hm)
  | 0, k, fu + 1, hk, _ => by
    have e : k = T 0 1 := by omega
    subst e
    have := F.1.2.1
    rw [fX10_pointsOf_5]; simp (disch := omega) only [lit, R.1.2.1, ↓reduceIte, leT]
  | d + 1, k, fu + 1, hk, hf => by
    have ih := m_pt1 R F hi hj ha hb ha2 hb2 d (k + 1) fu (by omega) (by omega)
    have h16 := F.1.2.1
    have h8 := F.1.1
    obtain ⟨r4, r5⟩ := R.2.2.1 k (by omega)
    obtain ⟨f4, f5, -⟩ := F.2.2.1 k (by omega)
    have ep : ptN T a b (k + 1) = ptN T a b k + b2n (pB T a b k) := rfl
    rw [ep] at ih
    unfold pB at ih
    rw [fX10_pointsOf_5]
    cases q1 : a.testBit (T 4 k) <;> cases q2 : b.testBit (T 5 k) <;> cases q3 : b.testBit (T 4 k) <;> cases q4 : a.testBit (T 5 k) <;> simp only [q1, q2, q3, q4] at ih <;> simp (disch := omega) only [lit, R.1.2.1, ↓reduceIte, leF, inbN, nI_clamp, ha, hb, r4, r5, fX10_isOf, shr1T, q1, q2, q3, q4, Bool.false_eq_true, bnd_some, eqF, fX10_pointsOf_56, fX10_pointsOf_57, fX10_pointsOf_101, fX10_pointsOf_102, fX10_pointsOf_115, fX10_pointsOf_120, nI_add] <;> exact ih
theorem m_points (R : RSm hm T) (F : WFT T) {i j a b : Nat} (hi : i < 5) (hj : j < 5) (ha : hI hm 139 i = nI a) (hb : hI hm 139 j = nI b) (ha2 : a < 256) (hb2 : b < 256) : fX10_pointsOf hm (nI i) (nI j) = some (nI (ptN T a b (T 0 1)), hm) := by
  unfold fX10_pointsOf
  exact m_pt1 R F hi hj ha hb ha2 hb2 (T 0 1) 0 FU (by omega) (Nat.lt_of_le_of_lt F.1.2.1 (by decide))
/-- what two members hold, both sides -/
theorem two_hold (s : R2 hc hm S T) {i : Nat} (hi : i < T 0 3) : ∃ a, a < 256 ∧ hI hc 74 i = nI a ∧ hI hm 139 i = nI a := by
  have F := s.1.2.2.2.1
  have h5m := F.1.2.2.2.1
  obtain ⟨a, a1, a2, a3⟩ := s.2.1.1.2.2.2.1 i (by omega)
  rw [show 5 * 0 + i = i by omega] at a3
  exact ⟨a, p8 (hB_w a1) F.1.1, a2, a3⟩
theorem s_points (s : R2 hc hm S T) (x y : Int32) : Ok2 hc hm (fX9_points hc x y) (fX10_points hm x y) := by
  have s0 := R2_thr s (nI 0)
  have F := s0.1.2.2.2.1
  have h5m := F.1.2.2.2.1
  rcases v_two s0.1 x y with ⟨i, j, hi, hj, hij, rfl, rfl, e1, e2⟩ | ⟨e1, e2⟩
  · obtain ⟨a, a1, a2, a3⟩ := two_hold s0 hi
    obtain ⟨b, b1, b2, b3⟩ := two_hold s0 hj
    refine ok_same s (v := nI (ptN T a b (T 0 1))) (x := nI 0) ?_ ?_
    · unfold fX9_points; simp (disch := omega) only [lit, e1, bnd_some, ↓reduceIte, eqF, x_points s0 (show i < 5 by omega) (show j < 5 by omega) a2 b2 a1 b1]
    · unfold fX10_points; simp (disch := omega) only [lit, e2, bnd_some, ↓reduceIte, eqF, m_points s0.1.2.2.2.2.2.1 F (show i < 5 by omega) (show j < 5 by omega) a3 b3 a1 b1]
  · refine ok_same s (v := -nI 1) (x := nI 0) ?_ ?_
    · unfold fX9_points; simp (disch := omega) only [lit, e1, bnd_some, ↓reduceIte]
    · unfold fX10_points; simp (disch := omega) only [lit, e2, bnd_some, ↓reduceIte]
def gE (a b p : Nat) (x y : Int32) : Int32 := if x = nI 0 then (if y = nI 0 then nI (pop a) - nI p else nI p) else (if y = nI 0 then nI (pop (a &&& b)) else nI 2 * nI (pop (a &&& b)))
theorem x_gain (s : R2 hc hm S T) {i j a b : Nat} (hi : i < 5) (hj : j < 5) (ha : hI hc 74 i = nI a) (hb : hI hc 74 j = nI b) (ha2 : a < 256) (hb2 : b < 256) (x y : Int32) : fX9_gain hc (nI i) (nI j) x y = some (gE a b (ptN T a b (T 0 1)) x y, hc) := by
  have hW : isW 72 := Or.inl rfl
  have ha' : hI hc (72 + 2) i = nI a := ha
  have hb' : hI hc (72 + 2) j = nI b := hb
  have hab : a &&& b < 256 := Nat.lt_of_le_of_lt Nat.and_le_left ha2
  unfold fX9_gain gE
  simp (disch := omega) only [lit, x_points s hi hj ha hb ha2 hb2, bnd_some, fX8_holdsOf, ↓reduceIte, ltF, leF, inbN, nI_clamp, rW6 hW, ha', hb', nx_a, x_bc]
  repeat' split
  all_goals rfl
theorem m_hasBy (R : RSm hm T) (F : WFT T) {i j a b : Nat} (hi : i < 5) (hj : j < 5) (ha : hI hm 139 i = nI a) (hb : hI hm 139 j = nI b) (ha2 : a < 256) (hb2 : b < 256) (x y : Int32) : fX10_hasBy hm (nI i) (nI j) x y = some (gE a b (ptN T a b (T 0 1)) x y, hm) := by
  have hab : a &&& b < 256 := Nat.lt_of_le_of_lt Nat.and_le_left ha2
  unfold fX10_hasBy gE
  simp (disch := omega) only [lit, inbN, nI_clamp, ↓reduceIte, ha, hb, nx_a, m_many, bnd_some, m_points R F hi hj ha hb ha2 hb2]
  repeat' split
  all_goals rfl
/-- is it a rest? -/
def rB (a b p q : Nat) (u v : Nat) : Bool := !decide (gE a b p (nI u) (nI v) < gE a b p (nI (1 - u)) (nI v)) && !decide (gE b a q (nI v) (nI u) < gE b a q (nI (1 - v)) (nI u))
theorem x_isRest (s : R2 hc hm S T) {i j a b g : Nat} (hi : i < 5) (hj : j < 5) (ha : hI hc 74 i = nI a) (hb : hI hc 74 j = nI b) (ha2 : a < 256) (hb2 : b < 256) (hg : g < 4) : fX9_isRest hc (nI i) (nI j) (nI g) = some (nI (b2n (rB a b (ptN T a b (T 0 1)) (ptN T b a (T 0 1)) (g / 2) (g % 2))), hc) := by
  have e1 : nI g >>> (nI 1 &&& nI 31) = nI (g / 2) := pk_shrN (by omega) _ 1 (by decide)
  have e2 : nI g &&& nI 1 = nI (g % 2) := pk_andN (by omega) 1 (by decide)
  unfold fX9_isRest fX9_staysWith rB
  simp (disch := omega) only [lit, e1, e2, pk_sub, x_gain s hi hj ha hb ha2 hb2, x_gain s hj hi hb ha hb2 ha2, bnd_some]
  by_cases q1 : gE a b (ptN T a b (T 0 1)) (nI (g / 2)) (nI (g % 2)) < gE a b (ptN T a b (T 0 1)) (nI (1 - g / 2)) (nI (g % 2))
  · simp only [q1, ↓reduceIte, bnd_some, decide_true, Bool.not_true, Bool.false_and]; rfl
  · by_cases q2 : gE b a (ptN T b a (T 0 1)) (nI (g % 2)) (nI (g / 2)) < gE b a (ptN T b a (T 0 1)) (nI (1 - g % 2)) (nI (g / 2))
    · simp (disch := omega) only [q1, q2, ↓reduceIte, bnd_some, eqF, x_gain s hj hi hb ha hb2 ha2, decide_true, decide_false, Bool.not_true, Bool.not_false, Bool.true_and]; rfl
    · simp (disch := omega) only [q1, q2, ↓reduceIte, bnd_some, eqF, x_gain s hj hi hb ha hb2 ha2, decide_false, Bool.not_false, Bool.true_and]; rfl
theorem m_restS (R : RSm hm T) (F : WFT T) {i j a b g fu : Nat} (hi : i < 5) (hj : j < 5) (ha : hI hm 139 i = nI a) (hb : hI hm 139 j = nI b) (ha2 : a < 256) (hb2 : b < 256) (hg : g < 4) (x3 x4 : Int32) : fX10_restAt_6 (fu + 1) hm (nI i) (nI j) x3 x4 (nI g) = if rB a b (ptN T a b (T 0 1)) (ptN T b a (T 0 1)) (g / 2) (g % 2) = true then (if x4 = x3 then some (nI (10 * (g / 2) + g % 2), hm) else fX10_restAt_6 fu hm (nI i) (nI j) x3 (x4 + nI 1) (nI (g + 1))) else fX10_restAt_6 fu hm (nI i) (nI j) x3 x4 (nI (g + 1)) := by
  have e1 : nI g / nI 2 = nI (g / 2) := pk_div (by omega) (by decide) (by decide)
  have e2 : nI g - nI (g / 2) * nI 2 = nI (g % 2) := by rw [← e1]; exact pk_rem (by omega) (by decide) (by decide)
  have hmod : g - g / 2 * 2 = g % 2 := by omega
  rw [fX10_restAt_6]
  simp (disch := omega) only [lit, ↓reduceIte, leF, e1, e2, hmod, pk_sub, m_hasBy R F hi hj ha hb ha2 hb2, m_hasBy R F hj hi hb ha hb2 ha2, bnd_some, fX10_restAt_95, nI_add, pk_mul]
  unfold rB
  by_cases q1 : gE a b (ptN T a b (T 0 1)) (nI (g / 2)) (nI (g % 2)) < gE a b (ptN T a b (T 0 1)) (nI (1 - g / 2)) (nI (g % 2))
  · simp only [q1, ↓reduceIte, decide_true, Bool.not_true, Bool.false_and, Bool.false_eq_true]
  · by_cases q2 : gE b a (ptN T b a (T 0 1)) (nI (g % 2)) (nI (g / 2)) < gE b a (ptN T b a (T 0 1)) (nI (1 - g % 2)) (nI (g / 2))
    · simp only [q1, q2, ↓reduceIte, decide_true, decide_false, Bool.not_true, Bool.not_false, Bool.true_and, Bool.false_eq_true, Int32.not_le.mpr q2]
    · simp only [q1, q2, ↓reduceIte, decide_false, Bool.not_false, Bool.true_and, Int32.not_lt.mp q2]
theorem s_rests1 (s : R2 hc hm S T) {i j a b : Nat} (hi : i < 5) (hj : j < 5) (ha : hI hc 74 i = nI a) (hb : hI hc 74 j = nI b) (ha' : hI hm 139 i = nI a) (hb' : hI hm 139 j = nI b) (ha2 : a < 256) (hb2 : b < 256) : ∀ (d g fu fu' n : Nat), g + d = 4 → d < fu → d < fu' → n ≤ 4 → n ≤ g → ∃ v, fX9_rests_16 fu hc (nI i) (nI j) (nI n) (nI g) = some (v, hc) ∧ fX10_restAt_6 fu' hm (nI i) (nI j) (-nI 1) (nI n) (nI g) = some (v, hm)
  | 0, g, fu + 1, fu' + 1, n, hg, _, _, _, _ => by
    have e : g = 4 := by omega
    subst e
    have e2 : (nI 0 ≤ -nI 1) = False := le_m1 (by omega)
    refine ⟨nI n, ?_, ?_⟩
    · rw [fX9_rests_16]; simp (disch := omega) only [lit, ↓reduceIte, leT]
    · rw [fX10_restAt_6]; simp (disch := omega) only [lit, ↓reduceIte, leT, e2]
  | d + 1, g, fu + 1, fu' + 1, n, hg, h1, h2, hn, hng => by
    have hne : ¬ nI n = -nI 1 := of_eq_false (ne_m1 (by omega))
    rw [fX9_rests_16, m_restS s.1.2.2.2.2.2.1 s.1.2.2.2.1 hi hj ha' hb' ha2 hb2 (show g < 4 by omega)]
    cases q : rB a b (ptN T a b (T 0 1)) (ptN T b a (T 0 1)) (g / 2) (g % 2) with
    | true =>
      obtain ⟨v, a1, a2⟩ := s_rests1 s hi hj ha hb ha' hb' ha2 hb2 d (g + 1) fu fu' (n + 1) (by omega) (by omega) (by omega) (by omega) (by omega)
      refine ⟨v, ?_, ?_⟩
      · simp (disch := omega) only [lit, ↓reduceIte, leF, x_isRest s hi hj ha hb ha2 hb2, q, bnd_some, fX9_rests_36, nI_add, show b2n true = 1 from rfl, eqF]
        exact a1
      · rw [if_pos rfl, if_neg hne, nI_add]; exact a2
    | false =>
      obtain ⟨v, a1, a2⟩ := s_rests1 s hi hj ha hb ha' hb' ha2 hb2 d (g + 1) fu fu' n (by omega) (by omega) (by omega) (by omega) (by omega)
      refine ⟨v, ?_, ?_⟩
      · simp (disch := omega) only [lit, ↓reduceIte, leF, x_isRest s hi hj ha hb ha2 hb2, q, bnd_some, fX9_rests_36, nI_add, show b2n false = 0 from rfl]
        exact a1
      · rw [if_neg (by decide)]; exact a2
theorem s_rest1 (s : R2 hc hm S T) {i j a b k : Nat} (hi : i < 5) (hj : j < 5) (ha : hI hc 74 i = nI a) (hb : hI hc 74 j = nI b) (ha' : hI hm 139 i = nI a) (hb' : hI hm 139 j = nI b) (ha2 : a < 256) (hb2 : b < 256) (hk : k < 2 ^ 31) : ∀ (d g fu fu' n : Nat), g + d = 4 → d < fu → d < fu' → n ≤ k → n ≤ g → ∃ v, fX9_rest_21 fu hc (nI i) (nI j) (nI (k - n)) (nI g) = some (v, hc) ∧ fX10_restAt_6 fu' hm (nI i) (nI j) (nI k) (nI n) (nI g) = some (v, hm)
  | 0, g, fu + 1, fu' + 1, n, hg, _, _, _, _ => by
    have e : g = 4 := by omega
    subst e
    refine ⟨-nI 2, ?_, ?_⟩
    · rw [fX9_rest_21]; simp (disch := omega) only [lit, ↓reduceIte, leT]
    · rw [fX10_restAt_6]; simp (disch := omega) only [lit, ↓reduceIte, leT]
  | d + 1, g, fu + 1, fu' + 1, n, hg, h1, h2, hn, hng => by
    have e1 : nI g >>> (nI 1 &&& nI 31) = nI (g / 2) := pk_shrN (by omega) _ 1 (by decide)
    have e2 : nI g &&& nI 1 = nI (g % 2) := pk_andN (by omega) 1 (by decide)
    rw [fX9_rest_21, m_restS s.1.2.2.2.2.2.1 s.1.2.2.2.1 hi hj ha' hb' ha2 hb2 (show g < 4 by omega)]
    cases q : rB a b (ptN T a b (T 0 1)) (ptN T b a (T 0 1)) (g / 2) (g % 2) with
    | true =>
      by_cases qn : n = k
      · subst qn
        refine ⟨nI (10 * (g / 2) + g % 2), ?_, ?_⟩
        · simp (disch := omega) only [lit, ↓reduceIte, leF, x_isRest s hi hj ha hb ha2 hb2, q, bnd_some, show b2n true = 1 from rfl, eqF, Nat.sub_self, e1, e2, pk_mul, nI_add]
        · rw [if_pos rfl, if_pos rfl]
      · obtain ⟨v, a1, a2⟩ := s_rest1 s hi hj ha hb ha' hb' ha2 hb2 hk d (g + 1) fu fu' (n + 1) (by omega) (by omega) (by omega) (by omega) (by omega)
        refine ⟨v, ?_, ?_⟩
        · simp (disch := omega) only [lit, ↓reduceIte, leF, x_isRest s hi hj ha hb ha2 hb2, q, bnd_some, fX9_rest_59, nI_add, show b2n true = 1 from rfl, eqF, m1a]
          rw [show k - n - 1 = k - (n + 1) by omega]
          exact a1
        · rw [if_pos rfl, if_neg (fun z => qn (nI_inj (by omega) hk z)), nI_add]; exact a2
    | false =>
      obtain ⟨v, a1, a2⟩ := s_rest1 s hi hj ha hb ha' hb' ha2 hb2 hk d (g + 1) fu fu' n (by omega) (by omega) (by omega) (by omega) (by omega)
      refine ⟨v, ?_, ?_⟩
      · simp (disch := omega) only [lit, ↓reduceIte, leF, x_isRest s hi hj ha hb ha2 hb2, q, bnd_some, fX9_rest_59, nI_add, show b2n false = 0 from rfl]
        exact a1
      · rw [if_neg (by decide)]; exact a2
theorem s_rests (s : R2 hc hm S T) (x y : Int32) : Ok2 hc hm (fX9_rests hc x y) (fX10_rests hm x y) := by
  have s0 := R2_thr s (nI 0)
  have F := s0.1.2.2.2.1
  have h5m := F.1.2.2.2.1
  rcases v_two s0.1 x y with ⟨i, j, hi, hj, hij, rfl, rfl, e1, e2⟩ | ⟨e1, e2⟩
  · obtain ⟨a, a1, a2, a3⟩ := two_hold s0 hi
    obtain ⟨b, b1, b2, b3⟩ := two_hold s0 hj
    obtain ⟨v, c1, c2⟩ := s_rests1 s0 (show i < 5 by omega) (show j < 5 by omega) a2 b2 a3 b3 a1 b1 4 0 FU FU 0 rfl (by decide) (by decide) (by decide) (by decide)
    refine ok_same s (v := v) (x := nI 0) ?_ ?_
    · unfold fX9_rests; simp (disch := omega) only [lit, e1, bnd_some, ↓reduceIte, eqF]; exact c1
    · unfold fX10_rests fX10_restAt; simp (disch := omega) only [lit, e2, bnd_some, ↓reduceIte, eqF, c2]
  · refine ok_same s (v := -nI 1) (x := nI 0) ?_ ?_
    · unfold fX9_rests; simp (disch := omega) only [lit, e1, bnd_some, ↓reduceIte]
    · unfold fX10_rests; simp (disch := omega) only [lit, e2, bnd_some, ↓reduceIte]
theorem s_rest (s : R2 hc hm S T) (x y z : Int32) : Ok2 hc hm (fX9_rest hc x y z) (fX10_rest hm x y z) := by
  have s0 := R2_thr s (nI 0)
  have F := s0.1.2.2.2.1
  have h5m := F.1.2.2.2.1
  rcases v_two s0.1 x y with ⟨i, j, hi, hj, hij, rfl, rfl, e1, e2⟩ | ⟨e1, e2⟩
  · obtain ⟨a, a1, a2, a3⟩ := two_hold s0 hi
    obtain ⟨b, b1, b2, b3⟩ := two_hold s0 hj
    by_cases qz : z < nI 0
    · refine ok_same s (v := -nI 1) (x := nI 0) ?_ ?_
      · unfold fX9_rest; simp (disch := omega) only [lit, e1, bnd_some, ↓reduceIte, eqF, Int32.not_le.mpr qz]
      · unfold fX10_rest; simp (disch := omega) only [lit, e2, bnd_some, ↓reduceIte, eqF, qz]
    · obtain ⟨k, hk, rfl⟩ := nI_of (show ¬ z < 0 from qz)
      obtain ⟨v, c1, c2⟩ := s_rest1 s0 (show i < 5 by omega) (show j < 5 by omega) a2 b2 a3 b3 a1 b1 hk 4 0 FU FU 0 rfl (by decide) (by decide) (by omega) (by decide)
      rw [Nat.sub_zero] at c1
      refine ok_same s (v := v) (x := nI 0) ?_ ?_
      · unfold fX9_rest; simp (disch := omega) only [lit, e1, bnd_some, ↓reduceIte, eqF, leT]; exact c1
      · unfold fX10_rest fX10_restAt; simp (disch := omega) only [lit, e2, bnd_some, ↓reduceIte, eqF, ltF, c2]
  · refine ok_same s (v := -nI 1) (x := nI 0) ?_ ?_
    · unfold fX9_rest; simp (disch := omega) only [lit, e1, bnd_some, ↓reduceIte]
    · unfold fX10_rest; simp (disch := omega) only [lit, e2, bnd_some, ↓reduceIte]
end V
