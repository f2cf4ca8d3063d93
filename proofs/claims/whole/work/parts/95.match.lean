/-! match: the class's table. -/
def wv (hm : Hp) (T : Tx) (m k : Nat) : Nat := wnT T 0 k (Int32.toNatClampNeg (hI hm 137 k)) (Int32.toNatClampNeg (hI hm 139 m)) (hI hm 140 m) (hI hm 143 0)
theorem wv_le (hm : Hp) (T : Tx) (m k : Nat) : wv hm T m k ≤ 1 := by unfold wv wnT; split <;> omega
/-- whom a member could beat now -/
def bmK (sh : Nat) (w : Nat → Nat → Nat) (m n : Nat) : Nat := orB (fun k => !sh.testBit k && decide (w m k = 1)) (fun k => k) n
def bmT (hm : Hp) (T : Tx) (sh m : Nat) : Nat := if m < T 0 3 then bmK sh (wv hm T) m (T 0 2) else 0
theorem bmK_lt (sh : Nat) (w : Nat → Nat → Nat) (m n : Nat) : bmK sh w m n < 2 ^ n := orB_lt (fun k hk => hk)
theorem bmT_lt {T : Tx} (F : WFT T) (hm : Hp) (sh m : Nat) : bmT hm T sh m < 32 := by
  unfold bmT
  split
  · exact Nat.lt_of_lt_of_le (bmK_lt _ _ _ _) (Nat.pow_le_pow_right (n := 2) (by decide) F.1.2.2.1)
  · decide
def ok1 (b t s : Nat) : Bool := b.testBit s && !t.testBit s
def mxk (b t : Nat) (nx : Nat → Nat) (base : Nat) : Nat → Nat
  | 0 => base
  | k + 1 => if ok1 b t k = true ∧ mxk b t nx base k < 1 + nx (t ||| 2 ^ k) then 1 + nx (t ||| 2 ^ k) else mxk b t nx base k
/-- the most that r members can have, t taken -/
def bs (b : Nat → Nat) : Nat → Nat → Nat
  | 0, _ => 0
  | r + 1, t => mxk (b (4 - r)) t (bs b r) (bs b r t) 5
theorem mxk_le {b t n base : Nat} {nx : Nat → Nat} (h : ∀ u, nx u ≤ n) (hb : base ≤ n) : ∀ k, mxk b t nx base k ≤ n + 1
  | 0 => by rw [mxk]; omega
  | k + 1 => by
    have := mxk_le (b := b) (t := t) h hb k
    have := h (t ||| 2 ^ k)
    rw [mxk]; split <;> omega
theorem bs_le (b : Nat → Nat) : ∀ r t, bs b r t ≤ r
  | 0, _ => Nat.le_refl _
  | r + 1, t => mxk_le (bs_le b r) (bs_le b r t) 5
/-- whom a member takes -/
def grN (b : Nat → Nat) (m t : Nat) : Option Nat := fsF (fun s => ok1 (b m) t s && decide (1 + bs b (4 - m) (t ||| 2 ^ s) = bs b (5 - m) t)) 5 0
def tkN (b : Nat → Nat) : Nat → Nat
  | 0 => 0
  | m + 1 => match grN b m (tkN b m) with | none => tkN b m | some s => tkN b m ||| 2 ^ s
def oI2 : Option Nat → Int32
  | none => -nI 2
  | some k => nI k
theorem ix32 : ∀ m, m < 6 → ∀ t, t < 32 → (nI m <<< (nI 5 &&& nI 31)) ||| nI t = nI (32 * m + t) := by decide +kernel
theorem or32 {t k : Nat} (ht : t < 32) (hk : k < 5) : t ||| 2 ^ k < 32 := Nat.or_lt_two_pow (n := 5) ht (Nat.pow_lt_pow_right (by decide) hk)
section V
variable {hc hm : Hp} {S : Nat} {T : Tx}
def P3 (a i : Nat) : Prop := (103 ≤ a ∧ a ≤ 105) ∨ (a = 106 ∧ i < 160)
def PJ3 (a _ : Nat) : Prop := PcJ 72 a
theorem x_w (s : R2 hc hm S T) {h : Hp} (f : Fr P3 PJ3 hc h) {m k : Nat} (hm' : m < T 0 3) (hk : k < T 0 2) : ∃ h', fX8_winsNow 72 h (nI m) (nI k) = some (nI (wv hm T m k), h') ∧ Fr P3 PJ3 hc h' ∧ Fr (fun _ _ => False) PJ3 h h' := by
  obtain ⟨⟨hS, -, -, F, Rc, -⟩, ⟨w, pl, -⟩, -⟩ := s
  obtain ⟨w1, w2, -, w4, w5, -, w9, -⟩ := w
  have h5 := F.1.2.2.1
  have h5' := F.1.2.2.2.1
  obtain ⟨fl, f1, f2, f3⟩ := w2 k hk
  obtain ⟨hl, l1, l2, l3⟩ := w4 m (by omega)
  rw [Nat.mul_zero, Nat.zero_add] at f3 l3
  have R' : RSc h S T := RSc_Fr hS Rc f (fun a i h1 h2 => by unfold P3; omega)
  have e : ∀ a i, a < 103 → hI h a i = hI hc a i := fun a i q => f.1 a i (by unfold P3; omega)
  have g3 := (w5 m (by omega)).1
  rw [Nat.mul_zero, Nat.zero_add] at g3
  obtain ⟨h', a1, -, a3⟩ := x_wins hS (Or.inl rfl) R' F (by rw [f.2.2]; exact w1) (m := m) (s := k) (by omega) hk (by rw [e _ _ (by omega)]; exact pl.2.2.2.1) (by omega) (by rw [e _ _ (by omega)]; exact l2) (hB_w l1) (by rw [e _ _ (by omega)]; exact f2) f1 ((e _ _ (by omega)).trans g3) ((e _ _ (by omega)).trans w9)
  have a3' : Fr (fun _ _ => False) PJ3 h h' := a3
  refine ⟨h', ?_, f.tr (a3'.mono (fun _ _ q => q.elim) (fun _ _ q => q)), a3'⟩
  have hl' := p8 (hB_w l1) F.1.1
  rw [a1]; unfold wv
  rw [f3, l3, nI_clamp (by omega), nI_clamp (by omega)]
theorem x_bb1 (s : R2 hc hm S T) {sh : Nat} (hsh : sh < 2 ^ 31) (h2 : hI hc 72 2 = nI sh) {m : Nat} (hm' : m < T 0 3) : ∀ (d k fu : Nat) (h : Hp), k + d = T 0 2 → d < fu → Fr P3 PJ3 hc h → ∃ h', fX3_beatableBy_5 fu 72 h (nI m) (nI (bmK sh (wv hm T) m k)) (nI k) = some (nI (bmK sh (wv hm T) m (T 0 2)), h') ∧ Fr P3 PJ3 hc h' ∧ Fr (fun _ _ => False) PJ3 h h'
  | 0, k, fu + 1, h, hk, _, f => by
    have e : k = T 0 2 := by omega
    obtain ⟨⟨hS, -, -, F, Rc, -⟩, ⟨w, -⟩, -⟩ := s
    have h5 := F.1.2.2.1
    have R' : RSc h S T := RSc_Fr hS Rc f (fun a i h1 h2 => by unfold P3; omega)
    have e0 := dref_of (h := h) (q := (7, 20)) (show hR h 72 0 = some S by rw [f.2.2]; exact w.1) (sS hS)
    refine ⟨h, ?_, f, Fr.rf⟩
    rw [fX3_beatableBy_5]; simp (disch := omega) only [lit, e0, bind_some', rS1 hS, R'.1.2.2.1, ↓reduceIte, leT]; rw [e]
  | d + 1, k, fu + 1, h, hk, hf, f => by
    have s' := s
    obtain ⟨⟨hS, -, -, F, Rc, -⟩, ⟨w, -⟩, -⟩ := s'
    have h5 := F.1.2.2.1
    have R' : RSc h S T := RSc_Fr hS Rc f (fun a i h1 h2 => by unfold P3; omega)
    have e0 := dref_of (h := h) (q := (7, 20)) (show hR h 72 0 = some S by rw [f.2.2]; exact w.1) (sS hS)
    have e2 : hI h 72 2 = nI sh := (f.1 _ _ (by unfold P3; omega)).trans h2
    have eo : bmK sh (wv hm T) m (k + 1) = bmK sh (wv hm T) m k ||| (if (!sh.testBit k && decide (wv hm T m k = 1)) = true then 2 ^ k else 0) := rfl
    have ih := fun h => x_bb1 s hsh h2 hm' d (k + 1) fu h (by omega) (by omega)
    rw [fX3_beatableBy_5]
    by_cases q : sh.testBit k = true
    · rw [q, if_neg (by simp), Nat.or_zero] at eo
      obtain ⟨h', a1, a2, a3⟩ := ih h f
      rw [eo] at a1
      refine ⟨h', ?_, a2, a3⟩
      simp (disch := omega) only [lit, e0, bind_some', rS1 hS, R'.1.2.2.1, ↓reduceIte, leF, fX8_inShed, ltF, e2, shr1T, q, bnd_some, eqF, fX3_beatableBy_46, nI_add]
      exact a1
    · obtain ⟨h1, b1, b2, b3⟩ := x_w s f hm' (show k < T 0 2 by omega)
      obtain ⟨h', a1, a2, a3⟩ := ih h1 b2
      refine ⟨h', ?_, a2, b3.tr a3⟩
      rcases (by have := wv_le hm T m k; omega : wv hm T m k = 0 ∨ wv hm T m k = 1) with z | z
      · rw [z, if_neg (by simp), Nat.or_zero] at eo
        rw [eo] at a1
        simp (disch := omega) only [lit, e0, bind_some', rS1 hS, R'.1.2.2.1, ↓reduceIte, leF, fX8_inShed, ltF, e2, shr1T, q, Bool.false_eq_true, bnd_some, b1, z, fX3_beatableBy_46, nI_add]
        exact a1
      · rw [z, if_pos (by simpa using q)] at eo
        rw [eo] at a1
        simp (disch := omega) only [lit, e0, bind_some', rS1 hS, R'.1.2.2.1, ↓reduceIte, leF, fX8_inShed, ltF, e2, shr1T, q, Bool.false_eq_true, bnd_some, b1, z, eqF, shl1, nx_o, fX3_beatableBy_46, nI_add]
        exact a1
/-- rows of the table from member m on -/
def TBm (h : Hp) (b : Nat → Nat) (m : Nat) : Prop := ∀ j t, m ≤ j → j ≤ 5 → t < 32 → hI h 106 (32 * j + t) = nI (bs b (5 - j) t)
def R4 (h : Hp) (b : Nat → Nat) : Prop := ∀ m, m < 5 → hI h 104 m = nI (b m) ∧ b m < 32
theorem x_pf {h : Hp} {m t : Nat} (hm' : m ≤ 5) (ht : t < 32) : fX3_pairsFrom h (nI m) (nI t) = some (hI h 106 (32 * m + t), h) := by
  unfold fX3_pairsFrom
  simp only [lit]
  rw [ix32 m (by omega) t ht]
  simp (disch := omega) only [↓reduceIte, ltF, leF, inbN, nI_clamp]
theorem x_ws {h : Hp} {b : Nat → Nat} (r4 : R4 h b) {m t k : Nat} (tb : TBm h b (m + 1)) (hm' : m < 5) (ht : t < 32) (hk : k < 5) : fX3_withStraw h (nI m) (nI t) (nI k) = some (if ok1 (b m) t k = true then nI (1 + bs b (4 - m) (t ||| 2 ^ k)) else -nI 1, h) := by
  obtain ⟨r1, r2⟩ := r4 m hm'
  have ho := or32 ht hk
  have hn := nob_le (b m) t
  have nb : (nob (b m) t).testBit k = ok1 (b m) t k := nob_tb (by omega) k
  have e := tb (m + 1) (t ||| 2 ^ k) (by omega) (by omega) ho
  rw [show 5 - (m + 1) = 4 - m by omega] at e
  unfold fX3_withStraw
  by_cases q : ok1 (b m) t k = true
  · rw [if_pos q]
    have q' : ¬ (nob (b m) t).testBit k = false := by rw [nb, q]; decide
    simp (disch := omega) only [lit, ↓reduceIte, ltF, leF, inbN, nI_clamp, r1, nx_n, shr1F, q', Bool.true_eq_false, shl1, nx_o, nI_add, x_pf, e, bnd_some]
  · rw [if_neg q]
    rw [Bool.not_eq_true] at q
    have q' : (nob (b m) t).testBit k = false := by rw [nb, q]
    simp (disch := omega) only [lit, ↓reduceIte, ltF, leF, inbN, nI_clamp, r1, nx_n, shr1F, q']
theorem x_mf1 {h : Hp} {b : Nat → Nat} (r4 : R4 h b) {m t : Nat} (tb : TBm h b (m + 1)) (hm' : m < 5) (ht : t < 32) : ∀ (d k fu : Nat), k + d = 5 → d < fu → fX3_mostFrom_12 fu h (nI m) (nI t) (nI (mxk (b m) t (bs b (4 - m)) (bs b (4 - m) t) k)) (nI k) = some (nI (bs b (5 - m) t), h)
  | 0, k, fu + 1, hk, _ => by
    have e : k = 5 := by omega
    subst e
    rw [fX3_mostFrom_12]; simp (disch := omega) only [lit, ↓reduceIte, leT]
    rw [show 5 - m = (4 - m) + 1 by omega, bs, show 4 - (4 - m) = m by omega]
  | d + 1, k, fu + 1, hk, hf => by
    have ih := x_mf1 r4 tb hm' ht d (k + 1) fu (by omega) (by omega)
    have l1 := mxk_le (b := b m) (t := t) (bs_le b (4 - m)) (bs_le b (4 - m) t) k
    have l2 := bs_le b (4 - m) (t ||| 2 ^ k)
    rw [mxk] at ih
    rw [fX3_mostFrom_12]
    simp (disch := omega) only [lit, ↓reduceIte, leF, x_ws r4 tb, bnd_some, nI_add]
    by_cases q : ok1 (b m) t k = true
    · rw [if_pos q]
      by_cases z : mxk (b m) t (bs b (4 - m)) (bs b (4 - m) t) k < 1 + bs b (4 - m) (t ||| 2 ^ k)
      · rw [if_pos ⟨q, z⟩] at ih
        simp (disch := omega) only [ltT, ↓reduceIte]
        exact ih
      · rw [if_neg (fun w => z w.2)] at ih
        simp (disch := omega) only [ltF, ↓reduceIte]
        exact ih
    · rw [if_neg q]
      rw [if_neg (fun w => q w.1)] at ih
      simp (disch := omega) only [lt_m1, ↓reduceIte]
      exact ih
theorem x_mf {h : Hp} {b : Nat → Nat} (r4 : R4 h b) {m t : Nat} (tb : TBm h b (m + 1)) (hm' : m < 5) (ht : t < 32) : fX3_mostFrom h (nI m) (nI t) = some (nI (bs b (5 - m) t), h) := by
  have e := tb (m + 1) t (by omega) (by omega) ht
  rw [show 5 - (m + 1) = 4 - m by omega] at e
  have g := x_mf1 r4 tb hm' ht 5 0 FU rfl (by decide)
  unfold fX3_mostFrom
  simp (disch := omega) only [lit, nI_add, x_pf, e, bnd_some]
  exact g
theorem x_p51 {b : Nat → Nat} {m : Nat} (hm' : m < 5) (rec : Hp → Int32 → Option Hp) : ∀ (d t fu : Nat) (h : Hp), t + d = 32 → d < fu → Fr P3 PJ3 hc h → R4 h b → TBm h b (m + 1) → (∀ u, u < t → hI h 106 (32 * m + u) = nI (bs b (5 - m) u)) → ∃ h', fX3_pair_51 fu 72 rec h (nI m) (nI t) = rec h' (nI m + -nI 1) ∧ Fr P3 PJ3 hc h' ∧ R4 h' b ∧ TBm h' b m
  | 0, t, fu + 1, h, hk, _, f, r4, tb, row => by
    refine ⟨h, ?_, f, r4, fun j u h1 h2 h3 => ?_⟩
    · rw [fX3_pair_51]; simp (disch := omega) only [lit, ↓reduceIte, leT]
    · rcases (by omega : m + 1 ≤ j ∨ j = m) with q | rfl
      · exact tb j u q h2 h3
      · exact row u (by omega)
  | d + 1, t, fu + 1, h, hk, hf, f, r4, tb, row => by
    obtain ⟨h', a1, a2⟩ := x_p51 hm' rec d (t + 1) fu (uI h 106 (32 * m + t) (nI (bs b (5 - m) t))) (by omega) (by omega) (f.uI (by unfold P3; omega)) (fun i hi => by rw [hI_ne (by omega)]; exact r4 i hi) (fun j u h1 h2 h3 => by rw [hI_ne (by omega)]; exact tb j u h1 h2 h3) (fun u hu => by
      by_cases q : u = t
      · subst q; rw [hI_at ⟨rfl, rfl⟩]
      · rw [hI_ne (by omega)]; exact row u (by omega))
    refine ⟨h', ?_, a2⟩
    rw [fX3_pair_51]
    simp (disch := omega) only [lit, ↓reduceIte, leF, x_mf r4 tb, bnd_some]
    rw [ix32 m (by omega) t (by omega)]
    simp (disch := omega) only [↓reduceIte, inbN, nI_clamp, nI_add]
    exact a1
end V
