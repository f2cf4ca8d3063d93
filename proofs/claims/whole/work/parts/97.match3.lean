/-! match: the codes, first best. -/
/-- the value of the digits of off for the last r of n members, t taken -/
def fsV (b : Nat → Nat) (nS n : Nat) : Nat → Nat → Nat → Option Nat
  | 0, t, _ => some (pop t)
  | r + 1, t, off => if off / (nS + 1) ^ r = nS then fsV b nS n r t (off % (nS + 1) ^ r) else if ok1 (b (n - r - 1)) t (off / (nS + 1) ^ r) = true then fsV b nS n r (t ||| 2 ^ (off / (nS + 1) ^ r)) (off % (nS + 1) ^ r) else none
def goV (b : Nat → Nat) (nS n : Nat) : Nat → Nat → Nat
  | 0, _ => 0
  | r + 1, t => match grN b (n - r - 1) t with | some s => s * (nS + 1) ^ r + goV b nS n r (t ||| 2 ^ s) | none => nS * (nS + 1) ^ r + goV b nS n r t
def vs : Option (Nat × Nat) → Nat
  | none => 0
  | some (_, v) => v + 1
def cmb (st : Option (Nat × Nat)) (c : Nat) : Option Nat → Option (Nat × Nat)
  | none => st
  | some v => if vs st < v + 1 then some (c, v) else st
def sc (f : Nat → Option Nat) : Nat → Nat → Option (Nat × Nat) → Option (Nat × Nat)
  | 0, _, st => st
  | d + 1, k, st => sc f d (k + 1) (cmb st k (f k))
theorem cmbT {st : Option (Nat × Nat)} {c v : Nat} (h : vs st < v + 1) : cmb st c (some v) = some (c, v) := if_pos h
theorem cmbF {st : Option (Nat × Nat)} {c v : Nat} (h : ¬ vs st < v + 1) : cmb st c (some v) = st := if_neg h
theorem vsS (c v : Nat) : vs (some (c, v)) = v + 1 := rfl
theorem sc_add {f : Nat → Option Nat} {e : Nat} : ∀ {d k : Nat} {st : Option (Nat × Nat)}, sc f (d + e) k st = sc f e (k + d) (sc f d k st)
  | 0, k, st => by rw [Nat.zero_add]; rfl
  | d + 1, k, st => by
    rw [show d + 1 + e = (d + e) + 1 by omega, sc, sc_add (d := d), sc, show k + 1 + d = k + (d + 1) by omega]
theorem sc_no {f : Nat → Option Nat} : ∀ {d k : Nat} {st : Option (Nat × Nat)}, (∀ i, i < d → f (k + i) = none) → sc f d k st = st
  | 0, _, _, _ => rfl
  | d + 1, k, st, h => by
    have h0 := h 0 (by omega)
    rw [Nat.add_zero] at h0
    rw [sc, h0]
    exact sc_no (fun i hi => by rw [show k + 1 + i = k + (i + 1) by omega]; exact h (i + 1) (by omega))
theorem mx1 {b t base : Nat} {nx : Nat → Nat} : ∀ {k : Nat}, base ≤ mxk b t nx base k
  | 0 => Nat.le_refl _
  | k + 1 => by
    have := mx1 (b := b) (t := t) (base := base) (nx := nx) (k := k)
    rw [mxk]; split <;> omega
theorem mx2 {b t base : Nat} {nx : Nat → Nat} : ∀ {k d : Nat}, d < k → ok1 b t d = true → 1 + nx (t ||| 2 ^ d) ≤ mxk b t nx base k
  | 0, d, h, _ => by omega
  | k + 1, d, h, q => by
    rw [mxk]
    rcases (by omega : d < k ∨ d = k) with z | rfl
    · have := mx2 (nx := nx) (base := base) z q
      split <;> omega
    · split
      · omega
      · rename_i w
        have : ¬ mxk b t nx base d < 1 + nx (t ||| 2 ^ d) := fun y => w ⟨q, y⟩
        omega
theorem mx3 {b t base : Nat} {nx : Nat → Nat} : ∀ {k : Nat}, mxk b t nx base k = base ∨ ∃ d, d < k ∧ ok1 b t d = true ∧ 1 + nx (t ||| 2 ^ d) = mxk b t nx base k
  | 0 => Or.inl rfl
  | k + 1 => by
    rw [mxk]
    split
    · rename_i w; exact Or.inr ⟨k, by omega, w.1, rfl⟩
    · rcases mx3 (b := b) (t := t) (base := base) (nx := nx) (k := k) with z | ⟨d, d1, d2, d3⟩
      · exact Or.inl z
      · exact Or.inr ⟨d, by omega, d2, d3⟩
theorem fsF_some {p : Nat → Bool} : ∀ {d k x : Nat}, fsF p d k = some x → p x = true ∧ k ≤ x ∧ x < k + d ∧ ∀ i, k ≤ i → i < x → ¬ p i = true
  | 0, _, _, h => by cases h
  | d + 1, k, x, h => by
    rw [fsF] at h
    split at h
    · rename_i q; cases h; exact ⟨q, Nat.le_refl _, by omega, fun i h1 h2 => by omega⟩
    · rename_i q
      obtain ⟨a, a1, a2, a3⟩ := fsF_some h
      refine ⟨a, by omega, by omega, fun i h1 h2 => ?_⟩
      rcases (by omega : i = k ∨ k + 1 ≤ i) with rfl | z
      · exact q
      · exact a3 i z h2
theorem fsF_none {p : Nat → Bool} : ∀ {d k : Nat}, fsF p d k = none → ∀ i, k ≤ i → i < k + d → ¬ p i = true
  | 0, _, _, i, h1, h2 => by omega
  | d + 1, k, h, i, h1, h2 => by
    rw [fsF] at h
    split at h
    · cases h
    · rename_i q
      rcases (by omega : i = k ∨ k + 1 ≤ i) with rfl | z
      · exact q
      · exact fsF_none h i z (by omega)
theorem fsF_first {p : Nat → Bool} {x d : Nat} (hx : p x = true) (hd : x < d) (h : ∀ i, i < x → ¬ p i = true) : fsF p d 0 = some x := by
  cases z : fsF p d 0 with
  | none => exact absurd hx (fsF_none z x (Nat.zero_le _) (by omega))
  | some y =>
    obtain ⟨a, -, -, a3⟩ := fsF_some z
    rcases Nat.lt_trichotomy x y with q | q | q
    · exact absurd hx (a3 x (Nat.zero_le _) q)
    · rw [q]
    · exact absurd a (h y q)
theorem popN_or0 {s x : Nat} : ∀ {n : Nat}, n ≤ x → popN (s ||| 2 ^ x) n = popN s n
  | 0, _ => rfl
  | n + 1, h => by
    rw [popN, popN, popN_or0 (by omega)]
    unfold bn
    rw [or_tb, decide_eq_false (by omega), Bool.or_false]
theorem popN_or {s x : Nat} (hx : ¬ s.testBit x = true) : ∀ {n : Nat}, x < n → popN (s ||| 2 ^ x) n = popN s n + 1
  | 0, h => by omega
  | n + 1, h => by
    rw [popN, popN]
    rcases (by omega : x < n ∨ x = n) with q | rfl
    · have := popN_or hx q
      unfold bn
      rw [or_tb, decide_eq_false (by omega), Bool.or_false]; omega
    · rw [popN_or0 (Nat.le_refl _)]
      unfold bn
      rw [or_tb, decide_eq_true rfl, Bool.or_true, if_pos rfl, if_neg hx]
theorem bs_0 {b : Nat → Nat} {n : Nat} (hb : ∀ m, n ≤ m → b m = 0) : ∀ {r t : Nat}, n + r ≤ 5 → bs b r t = 0
  | 0, _, _ => rfl
  | r + 1, t, h => by
    have e := bs_0 hb (r := r) (t := t) (by omega)
    have hm := hb (4 - r) (by omega)
    rw [bs, hm, e]
    rcases mx3 (b := 0) (t := t) (base := 0) (nx := bs b r) (k := 5) with z | ⟨d, -, d2, -⟩
    · exact z
    · unfold ok1 at d2; simp at d2
theorem blk_dm {D P off : Nat} (h : off < P) : (D * P + off) / P = D ∧ (D * P + off) % P = off := by
  constructor
  · rw [Nat.mul_comm, Nat.mul_add_div (by omega), Nat.div_eq_of_lt h, Nat.add_zero]
  · rw [Nat.mul_comm, Nat.mul_add_mod, Nat.mod_eq_of_lt h]
theorem sc_blk {b : Nat → Nat} {nS n : Nat} (hn : n ≤ 5) (hS : nS ≤ 5) (hb : ∀ m, n ≤ m → b m = 0) (hl : ∀ m, b m < 2 ^ nS) : ∀ (r : Nat), r ≤ n → ∀ (t : Nat) (f : Nat → Option Nat) (k0 : Nat) (st : Option (Nat × Nat)), (∀ off, off < (nS + 1) ^ r → f (k0 + off) = fsV b nS n r t off) → sc f ((nS + 1) ^ r) k0 st = cmb st (k0 + goV b nS n r t) (some (pop t + bs b (5 - (n - r)) t))
  | 0, _, t, f, k0, st, hf => by
    have e := hf 0 (by rw [Nat.pow_zero]; omega)
    rw [Nat.add_zero] at e
    rw [Nat.pow_zero, sc, sc, e, bs_0 hb (by omega)]; rfl
  | r + 1, hr, t, f, k0, st, hf => by
    have ih := sc_blk hn hS hb hl r (by omega)
    generalize hm : n - r - 1 = m at *
    have e4 : 5 - (n - r) = 4 - m := by omega
    have e5 : 5 - (n - (r + 1)) = (4 - m) + 1 := by omega
    rw [e4] at ih
    have hp : 0 < (nS + 1) ^ r := Nat.pow_pos (by omega)
    have okS : ∀ d, ok1 (b m) t d = true → d < nS := fun d q => by
      unfold ok1 at q
      exact in_n (hl m) (Bool.and_eq_true _ _ ▸ q).1
    have okT : ∀ d, ok1 (b m) t d = true → ¬ t.testBit d = true := fun d q z => by
      unfold ok1 at q; rw [z] at q; simp at q
    have size : (nS + 1) ^ (r + 1) = nS * (nS + 1) ^ r + (nS + 1) ^ r := by rw [Nat.pow_succ, Nat.mul_comm, Nat.succ_mul]
    have sub : ∀ D, D ≤ nS → ∀ off, off < (nS + 1) ^ r → f (k0 + D * (nS + 1) ^ r + off) = if D = nS then fsV b nS n r t off else if ok1 (b m) t D = true then fsV b nS n r (t ||| 2 ^ D) off else none := by
      intro D hD off ho
      have : D * (nS + 1) ^ r ≤ nS * (nS + 1) ^ r := Nat.mul_le_mul_right _ hD
      rw [Nat.add_assoc, hf _ (by omega), fsV, (blk_dm ho).1, (blk_dm ho).2, hm]
    have inv : ∀ D, D ≤ nS → ((∀ d, d < D → ok1 (b m) t d = true → pop t + (1 + bs b (4 - m) (t ||| 2 ^ d)) + 1 ≤ vs st) ∧ sc f (D * (nS + 1) ^ r) k0 st = st) ∨ (∃ d, d < D ∧ ok1 (b m) t d = true ∧ vs st < pop t + (1 + bs b (4 - m) (t ||| 2 ^ d)) + 1 ∧ (∀ e, e < D → ok1 (b m) t e = true → bs b (4 - m) (t ||| 2 ^ e) ≤ bs b (4 - m) (t ||| 2 ^ d)) ∧ (∀ e, e < d → ok1 (b m) t e = true → bs b (4 - m) (t ||| 2 ^ e) < bs b (4 - m) (t ||| 2 ^ d)) ∧ sc f (D * (nS + 1) ^ r) k0 st = some (k0 + (d * (nS + 1) ^ r + goV b nS n r (t ||| 2 ^ d)), pop t + (1 + bs b (4 - m) (t ||| 2 ^ d)))) := by
      intro D
      induction D with
      | zero => intro _; exact Or.inl ⟨fun d hd => by omega, by rw [Nat.zero_mul]; rfl⟩
      | succ D ihD =>
        intro hD
        have ihD := ihD (by omega)
        have sb := sub D (by omega)
        rw [Nat.succ_mul, sc_add]
        by_cases q : ok1 (b m) t D = true
        · have qT := okT D q
          have pt : pop (t ||| 2 ^ D) = pop t + 1 := popN_or qT (by omega)
          have e := fun st => ih (t ||| 2 ^ D) f (k0 + D * (nS + 1) ^ r) st (fun off ho => by rw [sb off ho, if_neg (by omega), if_pos q])
          rw [e, pt]
          rcases ihD with ⟨a1, a2⟩ | ⟨d, d1, d2, d3, d4, d5, d6⟩
          · rw [a2]
            by_cases z : vs st < pop t + 1 + bs b (4 - m) (t ||| 2 ^ D) + 1
            · rw [cmbT z]
              refine Or.inr ⟨D, by omega, q, by omega, fun e h1 h2 => ?_, fun e h1 h2 => ?_, by rw [Nat.add_assoc k0, Nat.add_assoc (pop t)]⟩
              · rcases (by omega : e < D ∨ e = D) with y | rfl
                · have := a1 e y h2; omega
                · exact Nat.le_refl _
              · have := a1 e h1 h2; omega
            · rw [cmbF z]
              refine Or.inl ⟨fun e h1 h2 => ?_, rfl⟩
              rcases (by omega : e < D ∨ e = D) with y | rfl
              · exact a1 e y h2
              · omega
          · rw [d6]
            by_cases z : bs b (4 - m) (t ||| 2 ^ d) < bs b (4 - m) (t ||| 2 ^ D)
            · rw [cmbT (by rw [vsS]; omega)]
              refine Or.inr ⟨D, by omega, q, by omega, fun e h1 h2 => ?_, fun e h1 h2 => ?_, by rw [Nat.add_assoc k0, Nat.add_assoc (pop t)]⟩
              · rcases (by omega : e < D ∨ e = D) with y | rfl
                · have := d4 e y h2; omega
                · exact Nat.le_refl _
              · have := d4 e h1 h2; omega
            · rw [cmbF (by rw [vsS]; omega)]
              refine Or.inr ⟨d, by omega, d2, d3, fun e h1 h2 => ?_, d5, rfl⟩
              rcases (by omega : e < D ∨ e = D) with y | rfl
              · exact d4 e y h2
              · omega
        · rw [sc_no (fun i hi => by rw [sb i hi, if_neg (by omega), if_neg q])]
          rcases ihD with ⟨a1, a2⟩ | ⟨d, d1, d2, d3, d4, d5, d6⟩
          · refine Or.inl ⟨fun e h1 h2 => ?_, a2⟩
            rcases (by omega : e < D ∨ e = D) with y | rfl
            · exact a1 e y h2
            · exact absurd h2 q
          · refine Or.inr ⟨d, by omega, d2, d3, fun e h1 h2 => ?_, d5, d6⟩
            rcases (by omega : e < D ∨ e = D) with y | rfl
            · exact d4 e y h2
            · exact absurd h2 q
    have last := fun st => ih t f (k0 + nS * (nS + 1) ^ r) st (fun off ho => by rw [sub nS (Nat.le_refl _) off ho, if_pos rfl])
    have eV : bs b ((4 - m) + 1) t = mxk (b m) t (bs b (4 - m)) (bs b (4 - m) t) 5 := by rw [bs, show 4 - (4 - m) = m by omega]
    have g5 : 5 - m = (4 - m) + 1 := by omega
    have v1 := mx1 (b := b m) (t := t) (base := bs b (4 - m) t) (nx := bs b (4 - m)) (k := 5)
    have v2 := fun d => mx2 (b := b m) (t := t) (base := bs b (4 - m) t) (nx := bs b (4 - m)) (k := 5) (d := d)
    have v3 := mx3 (b := b m) (t := t) (base := bs b (4 - m) t) (nx := bs b (4 - m)) (k := 5)
    rw [← eV] at v1 v2 v3
    rw [size, sc_add, last, g5]
    generalize hV : bs b ((4 - m) + 1) t = V at *
    have gn : (∀ d, ok1 (b m) t d = true → 1 + bs b (4 - m) (t ||| 2 ^ d) ≠ V) → goV b nS n (r + 1) t = nS * (nS + 1) ^ r + goV b nS n r t := by
      intro h
      have : grN b m t = none := fsF_no (fun i _ _ => by
        rw [← Bool.not_eq_true, Bool.and_eq_true, decide_eq_true_eq, g5, hV]
        exact fun z => h i z.1 z.2)
      rw [goV, hm, this]
    rcases inv nS (Nat.le_refl _) with ⟨a1, a2⟩ | ⟨d, d1, d2, d3, d4, d5, d6⟩
    · rw [a2]
      by_cases z : vs st < pop t + V + 1
      · have nn : ∀ d, ok1 (b m) t d = true → 1 + bs b (4 - m) (t ||| 2 ^ d) ≠ V := fun d q w => by
          have := a1 d (okS d q) q; omega
        have : V = bs b (4 - m) t := by
          rcases v3 with y | ⟨d, -, y1, y2⟩
          · exact y
          · exact absurd y2 (nn d y1)
        rw [gn nn, ← this, cmbT z, cmbT z, Nat.add_assoc]
      · rw [cmbF z, cmbF (by omega)]
    · rw [d6]
      have dV := v2 d (by omega) d2
      by_cases z : 1 + bs b (4 - m) (t ||| 2 ^ d) < bs b (4 - m) t
      · have nn : ∀ e, ok1 (b m) t e = true → 1 + bs b (4 - m) (t ||| 2 ^ e) ≠ V := fun e q w => by
          have := d4 e (okS e q) q; omega
        have : V = bs b (4 - m) t := by
          rcases v3 with y | ⟨d, -, y1, y2⟩
          · exact y
          · exact absurd y2 (nn d y1)
        rw [gn nn, ← this, cmbT (by rw [vsS]; omega), cmbT (by omega), Nat.add_assoc]
      · have eq : 1 + bs b (4 - m) (t ||| 2 ^ d) = V := by
          rcases v3 with y | ⟨e, -, y1, y2⟩
          · omega
          · have := d4 e (okS e y1) y1; omega
        have : grN b m t = some d := fsF_first (by
          rw [Bool.and_eq_true, decide_eq_true_eq, g5, hV]; exact ⟨d2, eq⟩) (by omega) (fun i hi => by
          rw [Bool.and_eq_true, decide_eq_true_eq, g5, hV]
          exact fun w => by have := d5 i hi w.1; omega)
        rw [cmbF (by rw [vsS]; omega), cmbT (by omega), goV, hm, this, eq]
