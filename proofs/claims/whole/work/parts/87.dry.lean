/-! dry. -/
theorem mod_half {b r : Nat} (h0 : 0 < r) (h : r < b) : 2 * (b % r) < b := by
  have h1 := Nat.div_add_mod b r
  have h2 := Nat.mod_lt b h0
  have h3 : 1 ≤ b / r := Nat.div_pos (Nat.le_of_lt h) h0
  have h4 : r * 1 ≤ r * (b / r) := Nat.mul_le_mul_left r h3
  omega
section V
variable {hc hm : Hp} {S : Nat} {T : Tx}
theorem x_cd1 : ∀ (d k fu a b : Nat), k + d = 100 → d < fu → b ≤ d → a ≤ 100 → b ≤ 100 → fX9_commonDivisor_7 fu hc (nI a) (nI b) (nI k) = some (nI (Nat.gcd a b), hc)
  | 0, k, fu + 1, a, b, hk, _, hb, ha, hb1 => by
    have e : b = 0 := by omega
    subst e
    have e : k = 100 := by omega
    subst e
    rw [fX9_commonDivisor_7]; simp (disch := omega) only [lit, ↓reduceIte, leT, Nat.gcd_zero_right]
  | d + 1, k, fu + 1, a, b, hk, hf, hb, ha, hb1 => by
    rw [fX9_commonDivisor_7]
    by_cases q : b = 0
    · subst q
      simp (disch := omega) only [lit, ↓reduceIte, leF, leT, Nat.gcd_zero_right]
    · have hm := Nat.mod_lt a (show 0 < b by omega)
      have ih := x_cd1 d (k + 1) fu b (a % b) (by omega) (by omega) (by omega) (by omega) (by omega)
      simp (disch := omega) only [lit, ↓reduceIte, leF, eqF, pk_rem, nI_add]
      rw [ih, Nat.gcd_comm a b, Nat.gcd_rec b a]
      rw [Nat.gcd_comm]
theorem x_dry1 {n x : Nat} (hn : n ≤ 6) (hx : x ≤ 100) : ∀ (d k fu : Nat), k + d = n → d < fu → fX9_dry_79 fu hc (nI n) (lN x) (lN (x ^ k)) (nI k) = some (lN (x ^ n), hc)
  | 0, k, fu + 1, hk, _ => by
    have e : k = n := by omega
    subst e
    rw [fX9_dry_79]; simp (disch := omega) only [↓reduceIte, leT]
  | d + 1, k, fu + 1, hk, hf => by
    have ih := x_dry1 hn hx d (k + 1) fu (by omega) (by omega)
    rw [fX9_dry_79]
    simp (disch := omega) only [lit, ↓reduceIte, leF, lN_mul, nI_add]
    rw [← Nat.pow_succ]; exact ih
theorem lgN {a : Nat} (ha : a < 2 ^ 63) : (lg_cmp (lN a) (lN 0) = nI 0) = (a = 0) := by
  rw [lgc_eq]; exact propext (pk_lEQ ha (by decide))
/-- the reference's divisor -/
theorem m_gcd {w U A : Nat} (hw : w ≤ 1) (hU : U < 2 ^ 63) (hA : A < 2 ^ 63) : ∀ (n fu a b : Nat), b < 2 ^ n → 2 * n + 1 < fu → a < 2 ^ 62 → b < 2 ^ 62 → 0 < a ∨ 0 < b → fX10_dry_76 fu hm (nI w) (lN U) (lN A) (lN a) (lN b) = some (if w = 0 then lN (U / Nat.gcd a b) else lN (A / Nat.gcd a b), hm) := by
  have base : ∀ (fu a : Nat), 0 < a → a < 2 ^ 62 → fX10_dry_76 (fu + 1) hm (nI w) (lN U) (lN A) (lN a) (lN 0) = some (if w = 0 then lN (U / a) else lN (A / a), hm) := by
    intro fu a h0 ha
    have ne : ¬ lN a = 0 := fun z => by
      have := (pk_lEQ (a := a) (b := 0) (by omega) (by decide)).mp z
      omega
    rw [fX10_dry_76]
    rw [if_pos (by rw [show (0 : Int32) = nI 0 from rfl, show (0 : Int64) = lN 0 from rfl, lgN (by decide)])]
    by_cases q : w = 0
    · subst q
      rw [if_pos (show nI 0 = 0 from rfl), if_neg ne, if_pos (show (0:Nat) = 0 from rfl), pk_lDiv hU h0 (by omega)]
    · have : w = 1 := by omega
      subst this
      rw [if_neg (show ¬ nI 1 = 0 by decide), if_neg ne, if_neg (show ¬ (1:Nat) = 0 by decide), pk_lDiv hA h0 (by omega)]
  have step : ∀ (fu a b : Nat), 0 < b → a < 2 ^ 62 → b < 2 ^ 62 → fX10_dry_76 (fu + 1) hm (nI w) (lN U) (lN A) (lN a) (lN b) = fX10_dry_76 fu hm (nI w) (lN U) (lN A) (lN b) (lN (a % b)) := by
    intro fu a b h0 ha hb
    have ne : ¬ lN b = 0 := fun z => by
      have := (pk_lEQ (a := b) (b := 0) (by omega) (by decide)).mp z
      omega
    rw [fX10_dry_76]
    rw [if_neg (by rw [show (0 : Int32) = nI 0 from rfl, show (0 : Int64) = lN 0 from rfl, lgN (by omega)]; omega), if_neg ne, pk_lRem (by omega) h0 (by omega)]
  intro n
  induction n with
  | zero =>
    intro fu a b hb hf ha hb2 hab
    have e : b = 0 := by omega
    subst e
    obtain ⟨fu, rfl⟩ : ∃ k, fu = k + 1 := ⟨fu - 1, by omega⟩
    rw [base fu a (by omega) ha, Nat.gcd_zero_right]
  | succ n ih =>
    intro fu a b hb hf ha hb2 hab
    obtain ⟨fu, rfl⟩ : ∃ k, fu = k + 2 := ⟨fu - 2, by omega⟩
    by_cases q : b = 0
    · subst q
      rw [base (fu + 1) a (by omega) ha, Nat.gcd_zero_right]
    · have hr := Nat.mod_lt a (show 0 < b by omega)
      have g1 : Nat.gcd a b = Nat.gcd b (a % b) := by rw [Nat.gcd_comm a b, Nat.gcd_rec b a, Nat.gcd_comm]
      rw [step (fu + 1) a b (by omega) ha hb2, g1]
      by_cases q2 : a % b = 0
      · rw [q2, base fu b (by omega) hb2, Nat.gcd_zero_right]
      · have g2 : Nat.gcd b (a % b) = Nat.gcd (a % b) (b % (a % b)) := by rw [Nat.gcd_comm b, Nat.gcd_rec (a % b) b, Nat.gcd_comm]
        have hh := mod_half (show 0 < a % b by omega) hr
        have hp : 2 ^ (n + 1) = 2 * 2 ^ n := by rw [Nat.pow_succ, Nat.mul_comm]
        rw [step fu b (a % b) (by omega) hb2 (by omega), g2]
        exact ih fu (a % b) (b % (a % b)) (by omega) (by omega) (by omega) (by omega) (Or.inl (by omega))
theorem pw_le {x k : Nat} (hx : x ≤ 100) (hk : k ≤ 6) : x ^ k ≤ 1000000000000 := by
  have h1 : x ^ k ≤ 100 ^ k := Nat.pow_le_pow_left hx k
  have h2 : 100 ^ k ≤ 100 ^ 6 := Nat.pow_le_pow_right (by decide) hk
  have h3 : (100 : Nat) ^ 6 = 1000000000000 := by decide
  omega
theorem m_dry1 {n w D : Nat} (hn : n ≤ 6) (hw : w ≤ 1) (hD : D ≤ 100) (h0 : hI hm 111 0 = nI (100 - D)) : ∀ (d k fu : Nat), k + d = n → d < fu → fX10_dry_36 fu hm (nI n) (nI w) (lN (D ^ k)) (lN (100 ^ k)) (nI k) = some (if w = 0 then lN (D ^ n / Nat.gcd (100 ^ n) (D ^ n)) else lN (100 ^ n / Nat.gcd (100 ^ n) (D ^ n)), hm)
  | 0, k, fu + 1, hk, _ => by
    have e : k = n := by omega
    subst e
    have p1 := pw_le hD hn
    have p2 := pw_le (Nat.le_refl 100) hn
    have p3 : 0 < 100 ^ k := Nat.pow_pos (by decide)
    rw [fX10_dry_36, if_pos (nI_le (Nat.le_refl _) (by omega))]
    exact m_gcd hw (by omega) (by omega) 62 FU (100 ^ k) (D ^ k) (by omega) (by decide) (by omega) (by omega) (Or.inl p3)
  | d + 1, k, fu + 1, hk, hf => by
    have ih := m_dry1 hn hw hD h0 d (k + 1) fu (by omega) (by omega)
    rw [fX10_dry_36]
    have e : nI 100 - nI (100 - D) = nI D := by rw [pk_sub (by omega)]; congr 1; omega
    simp (disch := omega) only [lit, llit, ↓reduceIte, leF, inbN, nI_clamp, h0, e, nI_l, lN_mul, nI_add]
    rw [← Nat.pow_succ, ← Nat.pow_succ]; exact ih
theorem dry_eq : ∀ D, D ≤ 100 → ∀ n, n ≤ 6 → D ^ n / Nat.gcd (100 ^ n) (D ^ n) = (D / Nat.gcd D 100) ^ n ∧ 100 ^ n / Nat.gcd (100 ^ n) (D ^ n) = (100 / Nat.gcd D 100) ^ n := by decide +kernel
theorem s_dry (s : R2 hc hm S T) (x y : Int32) : Ok2 hc hm (fX9_dry hc x y) (fX10_dry hm x y) := by
  have s0 := R2_thr s (nI 0)
  have no : fX9_dry hc x y = some ((-1 : Int64), hc) → fX10_dry hm x y = some ((-1 : Int64), uI hm 107 2 (nI 0)) → Ok2 hc hm (fX9_dry hc x y) (fX10_dry hm x y) := fun h1 h2 => ok_same s h1 h2
  rcases v_in (h := uI hm 107 2 (nI 0)) x 0 6 (by decide) (by decide) with ⟨n, -, hn, rfl, e0⟩ | ⟨q, e0⟩
  · rcases v_in (h := uI hm 107 2 (nI 0)) y 0 1 (by decide) (by decide) with ⟨w, -, hw, rfl, e1⟩ | ⟨q, e1⟩
    · obtain ⟨hS, t1, -, F, Rc, Rm, -⟩ := s0.1
      have ed := dref_of (q := (7, 20)) t1 (sS hS)
      have hd := F.1.2.2.2.2.2.2.2.1
      have c13 : hI hc S 13 = nI (T 0 7) := Rc.1.2.2.2.2.2.2.2.1
      have m0 : hI (uI hm 107 2 (nI 0)) 111 0 = nI (T 0 7) := Rm.1.2.2.2.2.2.2.2.1
      obtain ⟨D, hD, hDe⟩ : ∃ D, D ≤ 100 ∧ 100 - T 0 7 = D := ⟨100 - T 0 7, by omega, rfl⟩
      have eT : T 0 7 = 100 - D := by omega
      have gp : 0 < Nat.gcd D 100 := Nat.gcd_pos_of_pos_right _ (by decide)
      have gl : Nat.gcd D 100 ≤ 100 := Nat.le_of_dvd (by decide) (Nat.gcd_dvd_right _ _)
      have xc : fX9_commonDivisor hc (nI D) (nI 100) = some (nI (Nat.gcd D 100), hc) := by
        unfold fX9_commonDivisor
        exact x_cd1 100 0 FU D 100 rfl (by decide) (Nat.le_refl _) hD (Nat.le_refl _)
      have md := m_dry1 (hm := uI hm 107 2 (nI 0)) hn hw hD (by rw [m0, eT]) n 0 FU (by omega) (Nat.lt_of_le_of_lt hn (by decide))
      obtain ⟨q1, q2⟩ := dry_eq D hD n hn
      have dv : ∀ P, P ≤ 100 → fX9_dry_52 hc (nI n) (nI (Nat.gcd D 100)) (nI P) = some (lN ((P / Nat.gcd D 100) ^ n), hc) := by
        intro P hP
        have hq : P / Nat.gcd D 100 ≤ 100 := Nat.le_trans (Nat.div_le_self _ _) hP
        unfold fX9_dry_52 fX9_dry_71
        simp (disch := omega) only [lit, ↓reduceIte, leF, eqF, pk_div, nI_l]
        exact x_dry1 hn hq n 0 FU (by omega) (Nat.lt_of_le_of_lt hn (by decide))
      have es : nI 100 - nI (T 0 7) = nI D := by rw [pk_sub (by omega), hDe]
      refine ok_same s (v := if w = 0 then lN ((D / Nat.gcd D 100) ^ n) else lN ((100 / Nat.gcd D 100) ^ n)) (x := nI 0) ?_ ?_
      · unfold fX9_dry
        simp (disch := omega) only [lit, ↓reduceIte, ltF, leT, ed, bind_some', c13, es, xc, bnd_some]
        by_cases q : w = 0
        · subst q; rw [if_pos rfl, if_pos rfl]; exact dv D hD
        · rw [if_neg (fun z => q (nI_inj (by omega) (by omega) z)), if_neg q]; exact dv 100 (Nat.le_refl _)
      · unfold fX10_dry
        simp (disch := omega) only [lit, e0, e1, bnd_some, ↓reduceIte, eqF]
        have md' : fX10_dry_36 FU (uI hm 107 2 (nI 0)) (nI n) (nI w) 1 1 (nI 0) = some (if w = 0 then lN (D ^ n / Nat.gcd (100 ^ n) (D ^ n)) else lN (100 ^ n / Nat.gcd (100 ^ n) (D ^ n)), uI hm 107 2 (nI 0)) := md
        rw [md', q1, q2]
    · refine no ?_ ?_
      · unfold fX9_dry
        simp (disch := omega) only [lit, ↓reduceIte, ltF]
        rcases q with q | q
        · rw [if_pos q]
        · rw [if_neg (ltI_hi 1 0 (by decide) (by decide) q).1, if_neg (Int32.not_le.mpr q)]
      · unfold fX10_dry; simp (disch := omega) only [lit, e0, e1, bnd_some, ↓reduceIte, eqF]
  · refine no ?_ ?_
    · unfold fX9_dry
      simp only [lit]
      rcases q with q | q
      · rw [if_pos q]
      · rw [if_neg (ltI_hi 6 0 (by decide) (by decide) q).1, if_pos q]
    · unfold fX10_dry; simp (disch := omega) only [lit, e0, bnd_some, ↓reduceIte]
end V
