/-! replies: by recursion, and by a table. -/
def fsF (p : Nat → Bool) : Nat → Nat → Option Nat
  | 0, _ => none
  | d + 1, k => if p k = true then some k else fsF p d (k + 1)
theorem fsF_congr {p q : Nat → Bool} : ∀ {d k : Nat}, (∀ i, k ≤ i → i < k + d → p i = q i) → fsF p d k = fsF q d k
  | 0, _, _ => rfl
  | d + 1, k, h => by rw [fsF, fsF, h k (by omega) (by omega), fsF_congr (fun i h1 h2 => h i (by omega) (by omega))]
theorem fsF_no {p : Nat → Bool} : ∀ {d k : Nat}, (∀ i, k ≤ i → i < k + d → p i = false) → fsF p d k = none
  | 0, _, _ => rfl
  | d + 1, k, h => by
    rw [fsF, h k (by omega) (by omega), if_neg Bool.false_ne_true]
    exact fsF_no (fun i h1 h2 => h i (by omega) (by omega))
theorem fsF_cut {p : Nat → Bool} {e : Nat} : ∀ {d k : Nat}, (∀ i, k + d ≤ i → i < k + d + e → p i = false) → fsF p (d + e) k = fsF p d k
  | 0, k, h => by rw [Nat.zero_add]; exact fsF_no (fun i h1 h2 => h i (by omega) (by omega))
  | d + 1, k, h => by
    rw [Nat.succ_add_eq_add_succ] at *
    show fsF p (d + e + 1) k = fsF p (d + 1) k
    rw [fsF, fsF, fsF_cut (d := d) (fun i h1 h2 => h i (by omega) (by omega))]
/-- how many of n aren't in s -/
def unn (s : Nat) : Nat → Nat
  | 0 => 0
  | k + 1 => unn s k + (if s.testBit k = true then 0 else 1)
theorem unn_le (s : Nat) : ∀ n, unn s n ≤ n
  | 0 => Nat.le_refl _
  | n + 1 => by have := unn_le s n; rw [unn]; split <;> omega
theorem or_tb {s x i : Nat} : (s ||| 2 ^ x).testBit i = (s.testBit i || decide (x = i)) := by rw [Nat.testBit_or, tb_pow]
theorem unn_or0 {s x : Nat} : ∀ {n : Nat}, n ≤ x → unn (s ||| 2 ^ x) n = unn s n
  | 0, _ => rfl
  | n + 1, h => by
    rw [unn, unn, unn_or0 (by omega), or_tb, decide_eq_false (by omega), Bool.or_false]
theorem unn_or {s x : Nat} (hx : ¬ s.testBit x = true) : ∀ {n : Nat}, x < n → unn (s ||| 2 ^ x) n + 1 = unn s n
  | 0, h => by omega
  | n + 1, h => by
    rw [unn, unn]
    rcases (by omega : x < n ∨ x = n) with q | rfl
    · have := unn_or hx q
      rw [or_tb, decide_eq_false (by omega), Bool.or_false]; omega
    · rw [unn_or0 (Nat.le_refl _), or_tb, decide_eq_true rfl, Bool.or_true, if_pos rfl, if_neg hx]
theorem unn_0 {s : Nat} : ∀ {n : Nat}, unn s n = 0 → ∀ x, x < n → s.testBit x = true
  | 0, _, x, h => by omega
  | n + 1, h, x, hx => by
    rw [unn] at h
    rcases (by omega : x < n ∨ x = n) with q | rfl
    · exact unn_0 (by omega) x q
    · apply Classical.byContradiction
      intro z
      rw [if_neg z] at h; omega
def rp (T : Tx) : Nat → Nat → Nat → Option Nat
  | 0, _, _ => none
  | m + 1, s, c => fsF (fun x => (foesT T c).testBit x && !s.testBit x && (rp T m (s ||| 2 ^ x) x).isNone) (T 0 0) 0
theorem rp_st (T : Tx) : ∀ (m s c : Nat), unn s (T 0 0) ≤ m → rp T (m + 1) s c = rp T m s c
  | 0, s, c, h => by
    rw [rp, rp]
    apply fsF_no
    intro i _ hi
    rw [unn_0 (s := s) (n := T 0 0) (by omega) i (by omega)]; simp
  | m + 1, s, c, h => by
    rw [rp, rp]
    apply fsF_congr
    intro i _ hi
    by_cases q : s.testBit i = true
    · simp [q]
    · have := unn_or q (show i < T 0 0 by omega)
      rw [rp_st T m (s ||| 2 ^ i) i (by omega)]
def Rp (T : Tx) (s c : Nat) : Option Nat := rp T 8 s c
def pR (T : Tx) (s c x : Nat) : Bool := (foesT T c).testBit x && !s.testBit x && (Rp T (s ||| 2 ^ x) x).isNone
theorem Rp_eq {T : Tx} (F : WFT T) (s c : Nat) : Rp T s c = fsF (pR T s c) (T 0 0) 0 := by
  have := F.1.1
  have := unn_le s (T 0 0)
  unfold Rp
  rw [← rp_st T 8 s c (by omega)]; rfl
def oI : Option Nat → Int32
  | none => -nI 1
  | some k => nI k
theorem Rp_8 {T : Tx} (F : WFT T) (s c : Nat) : Rp T s c = fsF (pR T s c) 8 0 := by
  have h8 := F.1.1
  rw [Rp_eq F, ← fsF_cut (e := 8 - T 0 0) (fun i h1 h2 => by
    unfold pR; rw [lt_tb (foes_lt F c) (by omega)]; rfl)]
  rw [show T 0 0 + (8 - T 0 0) = 8 by omega]
theorem fsF_lt {p : Nat → Bool} : ∀ {d k x : Nat}, fsF p d k = some x → x < k + d
  | 0, _, _, h => by cases h
  | d + 1, k, x, h => by
    rw [fsF] at h
    split at h
    · cases h; omega
    · have := fsF_lt h; omega
section V
variable {hc hm : Hp} {S : Nat} {T : Tx}
theorem x_rp1 (F : WFT T) (slf : Hp → Int32 → Int32 → Int32 → Option (Int32 × Hp)) {s c x3 : Nat} (hs : s < 2 ^ T 0 0) (hx : x3 < 2 ^ 30) (ih0 : ∀ x, x < T 0 0 → ¬ s.testBit x = true → slf hc (nI x) (nI (s ||| 2 ^ x)) (nI (x3 + 1)) = some (oI (Rp T (s ||| 2 ^ x) x), hc)) : ∀ (d k fu : Nat), k + d = 8 → d < fu → fX0_replyTo_30 fu slf (S + 7) 8 hc (nI s) (nI x3) (nI (nob (foesT T c) s)) (nI k) = some (oI (fsF (pR T s c) d k), hc)
  | 0, k, fu + 1, hk, _ => by
    have e : k = 8 := by omega
    subst e
    rw [fX0_replyTo_30]; simp (disch := omega) only [lit, ↓reduceIte, leT]; rfl
  | d + 1, k, fu + 1, hk, hf => by
    have ih := x_rp1 F slf hs hx ih0 (c := c) d (k + 1) fu (by omega) (by omega)
    have h8 := F.1.1
    have hl := p8 (foes_lt F c) h8
    have hn := nob_le (foesT T c) s
    have nb : (nob (foesT T c) s).testBit k = ((foesT T c).testBit k && !s.testBit k) := nob_tb (by omega) k
    rw [fX0_replyTo_30, fsF]
    by_cases q : (nob (foesT T c) s).testBit k = true
    · have q' := q
      rw [nb, Bool.and_eq_true] at q'
      have q1 : ¬ s.testBit k = true := by
        intro z; rw [z] at q'; exact absurd q'.2 (by decide)
      have e := ih0 k (in_n (foes_lt F c) q'.1) q1
      cases z : Rp T (s ||| 2 ^ k) k with
      | none =>
        rw [z] at e
        have : pR T s c k = true := by unfold pR; rw [q'.1, q'.2, z]; rfl
        rw [if_pos this]
        simp (disch := omega) only [lit, ↓reduceIte, leF, shr1T, q, shl1, nx_o, nI_add, e, bnd_some, oI]
      | some w =>
        rw [z] at e
        have hw := fsF_lt ((Rp_eq F (s ||| 2 ^ k) k).symm.trans z)
        have : ¬ pR T s c k = true := by unfold pR; rw [z]; simp
        rw [if_neg this]
        simp (disch := omega) only [lit, ↓reduceIte, leF, shr1T, q, shl1, nx_o, nI_add, e, bnd_some, oI, ne_m1, fX0_replyTo_70]
        exact ih
    · have : ¬ pR T s c k = true := by
        unfold pR; rw [← nb]; rw [Bool.not_eq_true] at q; rw [q]; simp
      rw [if_neg this]
      simp (disch := omega) only [lit, ↓reduceIte, leF, shr1T, q, Bool.false_eq_true, nI_add, fX0_replyTo_70]
      exact ih
theorem x_rp (R : RSc hc S T) (F : WFT T) : ∀ (dp s c x3 : Nat), unn s (T 0 0) < dp → x3 + unn s (T 0 0) ≤ 8 → c < 8 → s < 2 ^ T 0 0 → fX0_replyTo_d dp (S + 7) 8 hc (nI c) (nI s) (nI x3) = some (oI (Rp T s c), hc)
  | 0, _, _, _, h, _, _, _ => by omega
  | dp + 1, s, c, x3, h, h3, hcl, hs => by
    have h8 := F.1.1
    obtain ⟨-, r7⟩ := R.2.2.1 c hcl
    have e := x_rp1 (hc := hc) (S := S) F (fX0_replyTo_d dp (S + 7) 8) (c := c) (x3 := x3) hs (by omega) (fun x hx hb => by
      have u := unn_or hb hx
      exact x_rp R F dp (s ||| 2 ^ x) x (x3 + 1) (by omega) (by omega) (by omega) (Nat.or_lt_two_pow hs (Nat.pow_lt_pow_right (by decide) hx))) 8 0 FU rfl (by decide)
    rw [fX0_replyTo_d, fX0_replyTo_s]
    simp (disch := omega) only [lit, ↓reduceIte, ltF, show Int32.ofNat 8 = nI 8 from rfl, ltT, inbN, nI_clamp, r7, nx_n, e, Rp_8 F]
theorem x_win (hS : isS S) (R : RSc hc S T) (F : WFT T) {c : Nat} (hcl : c < T 0 0) : fX0_winningReply (S + 1) hc (nI c) = some (oI (Rp T (2 ^ c) c), hc) := by
  have h8 := F.1.1
  have u := unn_le (2 ^ c) (T 0 0)
  have e := x_rp R F 12 (2 ^ c) c 0 (by omega) (by omega) (by omega) (Nat.pow_lt_pow_right (by decide) hcl)
  unfold fX0_winningReply fX0_replyTo
  simp (disch := omega) only [lit, rC4 hS, shl1, e, bnd_some]
def TB (h : Hp) (T : Tx) (s : Nat) : Prop := ∀ t x, s < t → t < 2 ^ T 0 0 → x < T 0 0 → t.testBit x = true → hI h 144 (8 * t + x) = nI (b2n (Rp T t x).isSome)
theorem lt_or {s x : Nat} (h : ¬ s.testBit x = true) : s < s ||| 2 ^ x := by
  have h1 : s ≤ s ||| 2 ^ x := Nat.left_le_or
  have h2 : s ≠ s ||| 2 ^ x := by
    intro z
    apply h
    rw [z, or_tb]; simp
  omega
theorem m_rb1 (R : RSm hm T) (F : WFT T) {s c : Nat} (hs : s < 2 ^ T 0 0) (tb : TB hm T s) : ∀ (d k fu : Nat), k + d = T 0 0 → d < fu → fX10_replyBy_11 fu hm (nI s) (nI (foesT T c)) (nI k) = some (oI (fsF (pR T s c) d k), hm)
  | 0, k, fu + 1, hk, _ => by
    have h8 := F.1.1
    rw [fX10_replyBy_11]; simp (disch := omega) only [lit, R.1.1, ↓reduceIte, leT]; rfl
  | d + 1, k, fu + 1, hk, hf => by
    have ih := m_rb1 R F hs tb (c := c) d (k + 1) fu (by omega) (by omega)
    have h8 := F.1.1
    have hl := p8 (foes_lt F c) h8
    have hl2 := p8 hs h8
    rw [fX10_replyBy_11, fsF]
    by_cases q : (foesT T c).testBit k = true
    · by_cases q1 : s.testBit k = true
      · have : ¬ pR T s c k = true := by unfold pR; rw [q1]; simp
        rw [if_neg this]
        simp (disch := omega) only [lit, R.1.1, ↓reduceIte, leF, m_isT q, m_isT q1, bnd_some, eqF, fX10_replyBy_61, nI_add]
        exact ih
      · have ho : s ||| 2 ^ k < 2 ^ T 0 0 := Nat.or_lt_two_pow hs (Nat.pow_lt_pow_right (by decide) (by omega))
        have ho8 := p8 ho h8
        have e := tb (s ||| 2 ^ k) k (lt_or q1) ho (by omega) (by rw [or_tb]; simp)
        cases z : Rp T (s ||| 2 ^ k) k with
        | none =>
          rw [z] at e
          have : pR T s c k = true := by unfold pR; rw [q, z]; simpa using q1
          rw [if_pos this]
          simp (disch := omega) only [lit, R.1.1, ↓reduceIte, leF, m_isT q, m_isF q1, bnd_some, eqF, shl1, nx_o, pk_mul, nI_add, inbN, nI_clamp, e, Option.isSome, b2nF, oI]
        | some w =>
          rw [z] at e
          have : ¬ pR T s c k = true := by unfold pR; rw [z]; simp
          rw [if_neg this]
          simp (disch := omega) only [lit, R.1.1, ↓reduceIte, leF, m_isT q, m_isF q1, bnd_some, eqF, shl1, nx_o, pk_mul, nI_add, inbN, nI_clamp, e, Option.isSome, b2nT, fX10_replyBy_61]
          exact ih
    · have : ¬ pR T s c k = true := by
        unfold pR; rw [Bool.not_eq_true] at q; rw [q]; simp
      rw [if_neg this]
      simp (disch := omega) only [lit, R.1.1, ↓reduceIte, leF, m_isF q, bnd_some, fX10_replyBy_61, nI_add]
      exact ih
theorem m_rb (R : RSm hm T) (F : WFT T) {s c : Nat} (hs : s < 2 ^ T 0 0) (hcl : c < 2 ^ 31) (tb : TB hm T s) : fX10_replyBy hm (nI s) (nI c) = some (oI (Rp T s c), hm) := by
  unfold fX10_replyBy
  have e := m_rb1 R F hs tb (c := c) (T 0 0) 0 FU (by omega) (Nat.lt_of_le_of_lt F.1.1 (by decide))
  simp (disch := omega) only [lit, m_againstIt R F, foesB_n F, bnd_some, e, Rp_eq F]
def PT (a i : Nat) : Prop := a = 144 ∨ (a = 107 ∧ i = 2)
theorem RSm_PT (R : RSm hm T) {h' : Hp} (f : Fr PT PN hm h') : RSm h' T := RSm_Fr R f (fun a i q z => by unfold PT at z; omega)
theorem oI_lt {o : Option Nat} (h : ∀ x, o = some x → x < 2 ^ 31) : (oI o < nI 0) = (o.isNone = true) := by
  cases o with
  | none => exact propext ⟨fun _ => rfl, fun _ => by decide⟩
  | some x => 
    have := h x rfl
    rw [oI, nI_lt0 this]; simp
theorem Rp_lt {T : Tx} (F : WFT T) {s c x : Nat} (h : Rp T s c = some x) : x < 8 := by
  have := fsF_lt ((Rp_eq F s c).symm.trans h)
  have := F.1.1
  omega
theorem m_re2 (R : RSm hm T) (F : WFT T) {s : Nat} (h0 : 1 ≤ s) (hs : s < 2 ^ T 0 0) (x y : Int32) (rec : Hp → Int32 → Int32 → Int32 → Option (Int32 × Hp)) : ∀ (d k fu : Nat) (h : Hp), k + d = T 0 0 → d < fu → Fr PT PN hm h → TB h T s → (∀ i, i < k → s.testBit i = true → hI h 144 (8 * s + i) = nI (b2n (Rp T s i).isSome)) → ∃ h', fX10_replies_40 fu rec h x y (nI s) (nI k) = rec h' x y (nI (s - 1)) ∧ Fr PT PN hm h' ∧ TB h' T (s - 1)
  | 0, k, fu + 1, h, hk, _, f, tb, row => by
    have h8 := F.1.1
    have M := RSm_PT R f
    refine ⟨h, ?_, f, fun t z h1 h2 h3 h4 => ?_⟩
    · rw [fX10_replies_40]; simp (disch := omega) only [lit, M.1.1, ↓reduceIte, leT, nI_dec]
    · rcases (by omega : s < t ∨ t = s) with q | rfl
      · exact tb t z q h2 h3 h4
      · exact row z (by omega) h4
  | d + 1, k, fu + 1, h, hk, hf, f, tb, row => by
    have h8 := F.1.1
    have hl2 := p8 hs h8
    have M := RSm_PT R f
    have nx : ∀ v : Nat, (s.testBit k = true → v = b2n (Rp T s k).isSome) → ∃ h', fX10_replies_40 fu rec (uI h 144 (8 * s + k) (nI v)) x y (nI s) (nI (k + 1)) = rec h' x y (nI (s - 1)) ∧ Fr PT PN hm h' ∧ TB h' T (s - 1) := by
      intro v hv
      refine m_re2 R F h0 hs x y rec d (k + 1) fu _ (by omega) (by omega) (f.uI (Or.inl rfl)) (fun t z h1 h2 h3 h4 => ?_) (fun i hi hb => ?_)
      · rw [hI_ne (by omega)]; exact tb t z h1 h2 h3 h4
      · by_cases q : i = k
        · subst q; rw [hI_at ⟨rfl, rfl⟩, hv hb]
        · rw [hI_ne (by omega)]; exact row i (by omega) hb
    rw [fX10_replies_40]
    by_cases q : s.testBit k = true
    · have e := m_rb M F hs (c := k) (by omega) tb
      have ol := oI_lt (o := Rp T s k) (fun x hx => by have := Rp_lt F hx; omega)
      cases z : (Rp T s k).isNone
      · obtain ⟨h', a1, a2⟩ := nx 1 (fun _ => by cases w : Rp T s k with | none => rw [w] at z; cases z | some _ => rfl)
        refine ⟨h', ?_, a2⟩
        simp (disch := omega) only [lit, M.1.1, ↓reduceIte, leF, m_isT q, bnd_some, eqF, e, ol, z, Bool.false_eq_true, pk_mul, nI_add, fX10_replies_84, isZ1, inbN, nI_clamp]
        exact a1
      · obtain ⟨h', a1, a2⟩ := nx 0 (fun _ => by cases w : Rp T s k with | none => rfl | some _ => rw [w] at z; cases z)
        refine ⟨h', ?_, a2⟩
        simp (disch := omega) only [lit, M.1.1, ↓reduceIte, leF, m_isT q, bnd_some, eqF, e, ol, z, pk_mul, nI_add, fX10_replies_83, fX10_replies_84, isZ0, inbN, nI_clamp]
        exact a1
    · obtain ⟨h', a1, a2⟩ := nx 0 (fun z => absurd z q)
      refine ⟨h', ?_, a2⟩
      simp (disch := omega) only [lit, M.1.1, ↓reduceIte, leF, m_isF q, bnd_some, pk_mul, nI_add, fX10_replies_83, fX10_replies_84, isZ0, inbN, nI_clamp]
      exact a1
theorem m_re1 (R : RSm hm T) (F : WFT T) {c y : Nat} (hcl : c < T 0 0) (hy : y ≤ 1) : ∀ (s fu : Nat) (h : Hp), s < fu → s < 2 ^ T 0 0 → Fr PT PN hm h → TB h T s → ∃ h', fX10_replies_33 fu h (nI c) (nI y) (nI s) = some (if y = 0 then nI (b2n (Rp T (2 ^ c) c).isSome) else (match Rp T (2 ^ c) c with | none => -nI 2 | some k => nI k), h') ∧ Fr PT PN hm h'
  | 0, fu + 1, h, _, hs, f, tb => by
    have h8 := F.1.1
    have M := RSm_PT R f
    have e := m_rb M F (s := 2 ^ c) (Nat.pow_lt_pow_right (by decide) hcl) (c := c) (by omega) (fun t z h1 h2 h3 h4 => tb t z (Nat.lt_of_le_of_lt (Nat.zero_le _) h1) h2 h3 h4)
    refine ⟨h, ?_, f⟩
    rw [fX10_replies_33]
    simp (disch := omega) only [lit, ↓reduceIte, leT, shl1, e, bnd_some]
    cases z : Rp T (2 ^ c) c with
    | none =>
      have : ¬ nI 0 ≤ -nI 1 := by decide
      simp only [oI, this, ↓reduceIte]
      rcases (by omega : y = 0 ∨ y = 1) with rfl | rfl
      · rfl
      · rfl
    | some w =>
      have := Rp_lt F z
      simp (disch := omega) only [oI, leT, ↓reduceIte]
      rcases (by omega : y = 0 ∨ y = 1) with rfl | rfl
      · rfl
      · rfl
  | s + 1, fu + 1, h, hf, hs, f, tb => by
    have h8 := F.1.1
    have hl := p8 hs h8
    obtain ⟨h1, a1, a2, a3⟩ := m_re2 R F (s := s + 1) (by omega) hs (nI c) (nI y) (fX10_replies_33 fu) (T 0 0) 0 FU h (by omega) (Nat.lt_of_le_of_lt h8 (by decide)) f tb (fun i hi => by omega)
    obtain ⟨h2, b1, b2⟩ := m_re1 R F hcl hy s fu h1 (by omega) (by omega) a2 a3
    refine ⟨h2, ?_, b2⟩
    rw [fX10_replies_33]
    simp (disch := omega) only [lit, ↓reduceIte, leF]
    exact a1.trans b1
theorem s_replies (s : R2 hc hm S T) (x y : Int32) : Ok2 hc hm (fX9_replies hc x y) (fX10_replies hm x y) := by
  have s0 := R2_thr s (nI 0)
  obtain ⟨hS, t1, -, F, Rc, Rm, -⟩ := s0.1
  have e0 := dref_of (q := (7, 20)) t1 (sS hS)
  have h8 := F.1.1
  have hp := pow8 h8
  unfold fX9_replies fX10_replies
  rcases v_claim s0.1 x with ⟨c, hcl, rfl, e1, e2⟩ | ⟨e1, e2⟩
  · rcases v_in (h := uI hm 107 2 (nI 0)) y 0 1 (by decide) (by decide) with ⟨n, -, h2, rfl, e⟩ | ⟨w, e⟩
    · obtain ⟨g, v1, v2⟩ := m_re1 Rm F hcl h2 (2 ^ T 0 0 - 1) FU _ (by show 2 ^ T 0 0 - 1 < 100000; omega) (by omega) Fr.rf (fun t z h1 h2 => by omega)
      refine ok_askF (v := (if n = 0 then nI (b2n (Rp T (2 ^ c) c).isSome) else (match Rp T (2 ^ c) c with | none => -nI 2 | some k => nI k))) (hc' := hc) (hm' := g) (PI := PN) (PJ := PN) (QI := PT) (QJ := PN) s ?_ ?_ Fr.rf ((Fr.rf.uI (by unfold PT; omega)).tr v2) ?_ ?_ ?_ ?_
      · simp (disch := omega) only [lit, e1, bnd_some, ↓reduceIte, eqF, ltF, leT, e0, bind_some', rS0 hS, x_win hS Rc F]
        cases z : Rp T (2 ^ c) c with
        | none =>
          rcases (by omega : n = 0 ∨ n = 1) with rfl | rfl
          · rfl
          · rfl
        | some w =>
          have := Rp_lt F z
          rcases (by omega : n = 0 ∨ n = 1) with rfl | rfl
          · simp (disch := omega) only [oI, ne_m1, ↓reduceIte, eqF]; rfl
          · simp (disch := omega) only [oI, ne_m1, ↓reduceIte, eqF]; rfl
      · simp (disch := omega) only [lit, e2, e, bnd_some, ↓reduceIte, eqF, Rm.1.1, shl1, pk_sub]
        exact v1
      · intro a i q; exact q.elim
      · intro a i q; exact q.elim
      · intro a i q; unfold PT at q; unfold irM; omega
      · intro a i q; exact q.elim
    · refine ok_same s (x := nI 0) (v := -nI 1) ?_ ?_
      · by_cases q : y < nI 0
        · simp (disch := omega) only [lit, e1, bnd_some, ↓reduceIte, eqF, q]
        · have w := w.resolve_left q
          have w' : ¬ y ≤ nI 1 := Int32.not_le.mpr w
          simp (disch := omega) only [lit, e1, bnd_some, ↓reduceIte, eqF, q, w']
      · simp (disch := omega) only [lit, e2, e, bnd_some, ↓reduceIte, eqF]
  · exact ok_same s (x := nI 0) (v := -nI 1) (by simp only [lit, e1, bnd_some, ↓reduceIte]) (by simp only [lit, e2, bnd_some, ↓reduceIte])
end V
