/-! text: how both sides stand while they read. -/
/-- a place of a text's numbers told anew -/
def tU (T : Tx) (r k v : Nat) : Tx := fun x y => if x = r ∧ y = k then v else T x y
theorem tU_ne {T : Tx} {r k v x y : Nat} (h : ¬ (x = r ∧ y = k)) : tU T r k v x y = T x y := if_neg h
theorem tU_at {T : Tx} {r k v x y : Nat} (h : x = r ∧ y = k) : tU T r k v x y = v := if_pos h
theorem tU_row {T : Tx} {r k v x : Nat} (h : x ≠ r) : tU T r k v x = T x := funext (fun y => if_neg (fun z => h z.1))
/-- the upper halves of the reference's rows -/
def uof (a : Nat) : Nat := if a = 111 then 2 else if a ≤ 114 then 8 else if a ≤ 116 then 16 else if a ≤ 121 then 5 else if a ≤ 124 then 12 else if a ≤ 126 then 6 else if a ≤ 129 then 3 else 64
def hup (h : Hp) : Hp := (fun a i => if a = 107 then h.1 107 (i + 7) else h.1 a (uof a + i), h.2.1, h.2.2)
theorem hup_I (h : Hp) (a i : Nat) : hI (hup h) a i = if a = 107 then hI h 107 (i + 7) else hI h a (uof a + i) := rfl
/-- which of the reference's places a text T stands at -/
def mrel (T : Tx) (K a i : Nat) : Prop := (a = 107 ∧ 12 ≤ i ∧ i ≤ 18) ∨ (a = 111 ∧ i < 2) ∨ (112 ≤ a ∧ a ≤ 114 ∧ i < T 0 0) ∨ (115 ≤ a ∧ a ≤ 116 ∧ i < T 0 1) ∨ (117 ≤ a ∧ a ≤ 119 ∧ i < T 0 2) ∨ (a = 120 ∧ i < T 0 3) ∨ (a = 121 ∧ i < 5) ∨ (122 ≤ a ∧ a ≤ 124 ∧ i < T 0 4) ∨ (125 ≤ a ∧ a ≤ 126 ∧ i < T 0 5) ∨ (127 ≤ a ∧ a ≤ 129 ∧ i < 3) ∨ (130 ≤ a ∧ a ≤ 132 ∧ i < K)
theorem mr0 {T : Tx} {K a i : Nat} (h : (a = 107 ∧ 12 ≤ i ∧ i ≤ 18)) : mrel T K a i := Or.inl h
theorem mr1 {T : Tx} {K a i : Nat} (h : (a = 111 ∧ i < 2)) : mrel T K a i := Or.inr (Or.inl h)
theorem mr2 {T : Tx} {K a i : Nat} (h : (112 ≤ a ∧ a ≤ 114 ∧ i < T 0 0)) : mrel T K a i := Or.inr (Or.inr (Or.inl h))
theorem mr3 {T : Tx} {K a i : Nat} (h : (115 ≤ a ∧ a ≤ 116 ∧ i < T 0 1)) : mrel T K a i := Or.inr (Or.inr (Or.inr (Or.inl h)))
theorem mr4 {T : Tx} {K a i : Nat} (h : (117 ≤ a ∧ a ≤ 119 ∧ i < T 0 2)) : mrel T K a i := Or.inr (Or.inr (Or.inr (Or.inr (Or.inl h))))
theorem mr5 {T : Tx} {K a i : Nat} (h : (a = 120 ∧ i < T 0 3)) : mrel T K a i := Or.inr (Or.inr (Or.inr (Or.inr (Or.inr (Or.inl h)))))
theorem mr6 {T : Tx} {K a i : Nat} (h : (a = 121 ∧ i < 5)) : mrel T K a i := Or.inr (Or.inr (Or.inr (Or.inr (Or.inr (Or.inr (Or.inl h))))))
theorem mr7 {T : Tx} {K a i : Nat} (h : (122 ≤ a ∧ a ≤ 124 ∧ i < T 0 4)) : mrel T K a i := Or.inr (Or.inr (Or.inr (Or.inr (Or.inr (Or.inr (Or.inr (Or.inl h)))))))
theorem mr8 {T : Tx} {K a i : Nat} (h : (125 ≤ a ∧ a ≤ 126 ∧ i < T 0 5)) : mrel T K a i := Or.inr (Or.inr (Or.inr (Or.inr (Or.inr (Or.inr (Or.inr (Or.inr (Or.inl h))))))))
theorem mr9 {T : Tx} {K a i : Nat} (h : (127 ≤ a ∧ a ≤ 129 ∧ i < 3)) : mrel T K a i := Or.inr (Or.inr (Or.inr (Or.inr (Or.inr (Or.inr (Or.inr (Or.inr (Or.inr (Or.inl h)))))))))
theorem mr10 {T : Tx} {K a i : Nat} (h : (130 ≤ a ∧ a ≤ 132 ∧ i < K)) : mrel T K a i := Or.inr (Or.inr (Or.inr (Or.inr (Or.inr (Or.inr (Or.inr (Or.inr (Or.inr (Or.inr (h))))))))))
theorem MLk_lo {h h' : Hp} {f m K : Nat} {p : Nat → Nat} (s : MLk h f p m) (hf : f + m ≤ K) (e : ∀ a i, 130 ≤ a → a ≤ 132 → i < K → hI h' a i = hI h a i) : MLk h' f p m := by
  intro j hj
  obtain ⟨b1, b2, b3, b4, b5⟩ := s j hj
  rw [e 130 _ (by decide) (by decide) (by omega), e 131 _ (by decide) (by decide) (by omega), e 132 _ (by decide) (by decide) (by omega)]
  exact ⟨b1, b2, b3, b4, b5⟩
theorem RSm_lo {h h' : Hp} {T : Tx} (K : Nat) (R : RSm h T) (e : ∀ a i, mrel T K a i → hI h' a i = hI h a i) (hk : ∀ w, w < 3 → T 16 w = 1 → ∀ f, hI h 128 w = nI f → f + T 17 w ≤ 64 → f + T 17 w ≤ K) : RSm h' T := by
  obtain ⟨a1, a2, a3, a4, a5, a6, a7, a8, a9⟩ := R
  refine ⟨?_, ?_, ?_, ?_, ?_, ?_, ?_, ?_, ?_⟩
  · rw [e 107 12 (mr0 (by omega)), e 107 13 (mr0 (by omega)), e 107 14 (mr0 (by omega)), e 107 15 (mr0 (by omega)), e 107 16 (mr0 (by omega)), e 107 17 (mr0 (by omega)), e 107 18 (mr0 (by omega)), e 111 0 (mr1 (by omega)), e 111 1 (mr1 (by omega))]; exact a1
  · intro i hi; rw [e 112 i (mr2 (by omega)), e 113 i (mr2 (by omega)), e 114 i (mr2 (by omega))]; exact a2 i hi
  · intro i hi; rw [e 115 i (mr3 (by omega)), e 116 i (mr3 (by omega))]; exact a3 i hi
  · intro i hi; rw [e 117 i (mr4 (by omega)), e 118 i (mr4 (by omega)), e 119 i (mr4 (by omega))]; exact a4 i hi
  · intro i hi; rw [e 120 i (mr5 (by omega))]; exact a5 i hi
  · intro i hi; rw [e 121 i (mr6 (by omega))]; exact a6 i hi
  · intro i hi; rw [e 122 i (mr7 (by omega)), e 123 i (mr7 (by omega)), e 124 i (mr7 (by omega))]; exact a7 i hi
  · intro i hi; rw [e 125 i (mr8 (by omega)), e 126 i (mr8 (by omega))]; exact a8 i hi
  · intro w hw
    obtain ⟨c1, c2⟩ := a9 w hw
    refine ⟨by rw [e 127 w (mr9 (by omega))]; exact c1, fun ht => ?_⟩
    obtain ⟨f, d1, d2, d3, d4⟩ := c2 ht
    exact ⟨f, by rw [e 128 w (mr9 (by omega))]; exact d1, by rw [e 129 w (mr9 (by omega))]; exact d2, d3, MLk_lo d4 (hk w hw ht f d1 d3) (fun a i h1 h2 h3 => e a i (mr10 (by omega)))⟩
/-- which of the class's places a text T stands at -/
def crel (S : Nat) (T : Tx) (a i : Nat) : Prop := (a = S ∧ (i = 6 ∨ i = 10 ∨ i = 13 ∨ i = 15 ∨ i = 18)) ∨ (a = S + 1 ∧ i = 5) ∨ (a = S + 2 ∧ i = 2) ∨ (a = S + 12 ∧ i = 2) ∨ (a = S + 16 ∧ i = 2) ∨ (S + 3 ≤ a ∧ a ≤ S + 5 ∧ i < T 0 0) ∨ (S + 6 ≤ a ∧ a ≤ S + 7) ∨ (S + 8 ≤ a ∧ a ≤ S + 9 ∧ i < T 0 1) ∨ (S + 13 ≤ a ∧ a ≤ S + 15 ∧ i < T 0 2) ∨ (S + 17 ≤ a ∧ a ≤ S + 18 ∧ i < T 0 3) ∨ (S + 19 ≤ a ∧ a ≤ S + 21 ∧ i < T 0 4) ∨ (S + 22 ≤ a ∧ a ≤ S + 23 ∧ i < T 0 5) ∨ ((a = S + 25 ∨ a = S + 28 ∨ a = S + 31) ∧ i = 0) ∨ (T 16 0 = 1 ∧ (a = S + 25 ∨ a = S + 26)) ∨ (T 16 1 = 1 ∧ (a = S + 28 ∨ a = S + 29)) ∨ (T 16 2 = 1 ∧ (a = S + 31 ∨ a = S + 32))
theorem cr0 {S : Nat} {T : Tx} {a i : Nat} (h : (a = S ∧ (i = 6 ∨ i = 10 ∨ i = 13 ∨ i = 15 ∨ i = 18))) : crel S T a i := Or.inl h
theorem cr1 {S : Nat} {T : Tx} {a i : Nat} (h : (a = S + 1 ∧ i = 5)) : crel S T a i := Or.inr (Or.inl h)
theorem cr2 {S : Nat} {T : Tx} {a i : Nat} (h : (a = S + 2 ∧ i = 2)) : crel S T a i := Or.inr (Or.inr (Or.inl h))
theorem cr3 {S : Nat} {T : Tx} {a i : Nat} (h : (a = S + 12 ∧ i = 2)) : crel S T a i := Or.inr (Or.inr (Or.inr (Or.inl h)))
theorem cr4 {S : Nat} {T : Tx} {a i : Nat} (h : (a = S + 16 ∧ i = 2)) : crel S T a i := Or.inr (Or.inr (Or.inr (Or.inr (Or.inl h))))
theorem cr5 {S : Nat} {T : Tx} {a i : Nat} (h : (S + 3 ≤ a ∧ a ≤ S + 5 ∧ i < T 0 0)) : crel S T a i := Or.inr (Or.inr (Or.inr (Or.inr (Or.inr (Or.inl h)))))
theorem cr6 {S : Nat} {T : Tx} {a i : Nat} (h : (S + 6 ≤ a ∧ a ≤ S + 7)) : crel S T a i := Or.inr (Or.inr (Or.inr (Or.inr (Or.inr (Or.inr (Or.inl h))))))
theorem cr7 {S : Nat} {T : Tx} {a i : Nat} (h : (S + 8 ≤ a ∧ a ≤ S + 9 ∧ i < T 0 1)) : crel S T a i := Or.inr (Or.inr (Or.inr (Or.inr (Or.inr (Or.inr (Or.inr (Or.inl h)))))))
theorem cr8 {S : Nat} {T : Tx} {a i : Nat} (h : (S + 13 ≤ a ∧ a ≤ S + 15 ∧ i < T 0 2)) : crel S T a i := Or.inr (Or.inr (Or.inr (Or.inr (Or.inr (Or.inr (Or.inr (Or.inr (Or.inl h))))))))
theorem cr9 {S : Nat} {T : Tx} {a i : Nat} (h : (S + 17 ≤ a ∧ a ≤ S + 18 ∧ i < T 0 3)) : crel S T a i := Or.inr (Or.inr (Or.inr (Or.inr (Or.inr (Or.inr (Or.inr (Or.inr (Or.inr (Or.inl h)))))))))
theorem cr10 {S : Nat} {T : Tx} {a i : Nat} (h : (S + 19 ≤ a ∧ a ≤ S + 21 ∧ i < T 0 4)) : crel S T a i := Or.inr (Or.inr (Or.inr (Or.inr (Or.inr (Or.inr (Or.inr (Or.inr (Or.inr (Or.inr (Or.inl h))))))))))
theorem cr11 {S : Nat} {T : Tx} {a i : Nat} (h : (S + 22 ≤ a ∧ a ≤ S + 23 ∧ i < T 0 5)) : crel S T a i := Or.inr (Or.inr (Or.inr (Or.inr (Or.inr (Or.inr (Or.inr (Or.inr (Or.inr (Or.inr (Or.inr (Or.inl h)))))))))))
theorem cr12 {S : Nat} {T : Tx} {a i : Nat} (h : ((a = S + 25 ∨ a = S + 28 ∨ a = S + 31) ∧ i = 0)) : crel S T a i := Or.inr (Or.inr (Or.inr (Or.inr (Or.inr (Or.inr (Or.inr (Or.inr (Or.inr (Or.inr (Or.inr (Or.inr (Or.inl h))))))))))))
theorem cr13 {S : Nat} {T : Tx} {a i : Nat} (h : (T 16 0 = 1 ∧ (a = S + 25 ∨ a = S + 26))) : crel S T a i := Or.inr (Or.inr (Or.inr (Or.inr (Or.inr (Or.inr (Or.inr (Or.inr (Or.inr (Or.inr (Or.inr (Or.inr (Or.inr (Or.inl h)))))))))))))
theorem cr14 {S : Nat} {T : Tx} {a i : Nat} (h : (T 16 1 = 1 ∧ (a = S + 28 ∨ a = S + 29))) : crel S T a i := Or.inr (Or.inr (Or.inr (Or.inr (Or.inr (Or.inr (Or.inr (Or.inr (Or.inr (Or.inr (Or.inr (Or.inr (Or.inr (Or.inr (Or.inl h))))))))))))))
theorem cr15 {S : Nat} {T : Tx} {a i : Nat} (h : (T 16 2 = 1 ∧ (a = S + 31 ∨ a = S + 32))) : crel S T a i := Or.inr (Or.inr (Or.inr (Or.inr (Or.inr (Or.inr (Or.inr (Or.inr (Or.inr (Or.inr (Or.inr (Or.inr (Or.inr (Or.inr (Or.inr (h)))))))))))))))
theorem RSc_lo {h h' : Hp} {S : Nat} {T : Tx} (R : RSc h S T) (e : ∀ a i, crel S T a i → hI h' a i = hI h a i) (er : ∀ i, hR h' (S + 24) i = hR h (S + 24) i) : RSc h' S T := by
  obtain ⟨a1, a2, a3, a4, a5, a6, a7, a8, a9⟩ := R
  refine ⟨?_, ?_, ?_, ?_, ?_, ?_, ?_, ?_, ?_⟩
  · rw [e S 6 (cr0 (by omega)), e S 10 (cr0 (by omega)), e S 13 (cr0 (by omega)), e S 15 (cr0 (by omega)), e S 18 (cr0 (by omega)), e (S + 1) 5 (cr1 (by omega)), e (S + 2) 2 (cr2 (by omega)), e (S + 12) 2 (cr3 (by omega)), e (S + 16) 2 (cr4 (by omega))]; exact a1
  · intro i hi; rw [e (S + 3) i (cr5 (by omega)), e (S + 4) i (cr5 (by omega)), e (S + 5) i (cr5 (by omega))]; exact a2 i hi
  · intro i hi; rw [e (S + 6) i (cr6 (by omega)), e (S + 7) i (cr6 (by omega))]; exact a3 i hi
  · intro i hi; rw [e (S + 8) i (cr7 (by omega)), e (S + 9) i (cr7 (by omega))]; exact a4 i hi
  · intro i hi; rw [e (S + 13) i (cr8 (by omega)), e (S + 14) i (cr8 (by omega)), e (S + 15) i (cr8 (by omega))]; exact a5 i hi
  · intro i hi; rw [e (S + 17) i (cr9 (by omega)), e (S + 18) i (cr9 (by omega))]; exact a6 i hi
  · intro i hi; rw [e (S + 19) i (cr10 (by omega)), e (S + 20) i (cr10 (by omega)), e (S + 21) i (cr10 (by omega))]; exact a7 i hi
  · intro i hi; rw [e (S + 22) i (cr11 (by omega)), e (S + 23) i (cr11 (by omega))]; exact a8 i hi
  · intro w hw
    obtain ⟨c1, c2, c3⟩ := a9 w hw
    have ci : w = 0 ∨ w = 1 ∨ w = 2 := by omega
    refine ⟨by rw [er]; exact c1, ?_, fun ht => ⟨?_, fun j hj => ?_⟩⟩
    · rw [e (S + 25 + 3 * w) 0 (cr12 (by omega))]; exact c2
    · rw [e (S + 25 + 3 * w) 1 (by rcases ci with rfl | rfl | rfl; exact cr13 ⟨ht, by omega⟩; exact cr14 ⟨ht, by omega⟩; exact cr15 ⟨ht, by omega⟩)]; exact (c3 ht).1
    · rw [e (S + 26 + 3 * w) j (by rcases ci with rfl | rfl | rfl; exact cr13 ⟨ht, by omega⟩; exact cr14 ⟨ht, by omega⟩; exact cr15 ⟨ht, by omega⟩)]; exact (c3 ht).2 j hj
/-- both sides while they read: X is the script that is filled, T what has been told so far -/
def RD (hc hm : Hp) (X : Nat) (T : Tx) (b : Nat → Nat) (n : Nat) : Prop :=
  (isS X ∧ hR hc 69 4 = some X ∧ RTp hc hm b n ∧ hI hc 69 14 = nI 0) ∧ (WFT T ∧ RSc hc X T ∧ RSm (hup hm) T) ∧
  (hI hc (X + 2) 1 = nI 8 ∧ hI hc (X + 12) 1 = nI 5 ∧ hI hc (X + 16) 1 = nI 5) ∧
  hI hm 107 54 = nI (T 0 6) ∧ (∀ w, w < 3 → T 16 w = 1 → ∀ f, hI (hup hm) 128 w = nI f → f + T 17 w ≤ 64 → f + T 17 w ≤ T 0 6)
/-- what a step may change of the reference besides the token: got, and what lies behind what has been told -/
def mfr (T : Tx) (a i : Nat) : Prop := (a = 107 ∧ 7 ≤ i ∧ i ≤ 11) ∨ (112 ≤ a ∧ a ≤ 114 ∧ 8 + T 0 0 ≤ i) ∨ (115 ≤ a ∧ a ≤ 116 ∧ 16 + T 0 1 ≤ i) ∨ (117 ≤ a ∧ a ≤ 119 ∧ 5 + T 0 2 ≤ i) ∨ (a = 120 ∧ 5 + T 0 3 ≤ i) ∨ (122 ≤ a ∧ a ≤ 124 ∧ 12 + T 0 4 ≤ i) ∨ (125 ≤ a ∧ a ≤ 126 ∧ 6 + T 0 5 ≤ i) ∨ a = 110
theorem RTp_fr {hc hm hc' hm' : Hp} {b : Nat → Nat} {n : Nat} (R : RTp hc hm b n) (e3 : ∀ i, i = 3 ∨ i = 15 → hI hc' 69 i = hI hc 69 i) (e70 : ∀ i, hI hc' 70 i = hI hc 70 i) (e71 : ∀ i, hI hc' 71 i = hI hc 71 i) (m6 : ∀ i, i = 4 ∨ i = 5 ∨ i = 6 → hI hm' 107 i = hI hm 107 i) (m8 : ∀ i, hI hm' 108 i = hI hm 108 i) (m9 : ∀ i, hI hm' 109 i = hI hm 109 i) : RTp hc' hm' b n := by
  obtain ⟨⟨t0, t1⟩, ⟨-, t2⟩, t3, t4, t5, t6, t7, t8, t9⟩ := R
  exact ⟨⟨t0, fun i hi => by rw [e70]; exact t1 i hi⟩, ⟨t0, fun i hi => by rw [m8]; exact t2 i hi⟩, by rw [e3 3 (by decide)]; exact t3, by rw [m6 6 (by decide)]; exact t4, fun i hi => by rw [e71]; exact t5 i hi, fun i hi => by rw [m9]; exact t6 i hi, by rw [e3 15 (by decide)]; exact t7, by rw [m6 4 (by decide)]; exact t8, by rw [m6 5 (by decide)]; exact t9⟩
theorem hup_lo {hm hm' : Hp} {T : Tx} {K : Nat} (hK : K ≤ 64) (F : WFT T) (e : ∀ a i, ¬ (mfr T a i ∨ (130 ≤ a ∧ a ≤ 132 ∧ 64 + K ≤ i)) → hI hm' a i = hI hm a i) : ∀ a i, mrel T K a i → hI (hup hm') a i = hI (hup hm) a i := by
  intro a i q
  obtain ⟨f1, f2, f3, f4, f5, f6, -⟩ := F.1
  rw [hup_I, hup_I]
  unfold mrel at q
  unfold mfr at e
  by_cases z : a = 107
  · rw [if_pos z, if_pos z]; exact e _ _ (by omega)
  · rw [if_neg z, if_neg z]
    apply e
    unfold uof
    rcases q with q | q | q | q | q | q | q | q | q | q | q
    · omega
    · rw [if_pos q.1]; omega
    · rw [if_neg (by omega), if_pos (by omega)]; omega
    · rw [if_neg (by omega), if_neg (by omega), if_pos (by omega)]; omega
    · rw [if_neg (by omega), if_neg (by omega), if_neg (by omega), if_pos (by omega)]; omega
    · rw [if_neg (by omega), if_neg (by omega), if_neg (by omega), if_pos (by omega)]; omega
    · rw [if_neg (by omega), if_neg (by omega), if_neg (by omega), if_pos (by omega)]; omega
    · rw [if_neg (by omega), if_neg (by omega), if_neg (by omega), if_neg (by omega), if_pos (by omega)]; omega
    · rw [if_neg (by omega), if_neg (by omega), if_neg (by omega), if_neg (by omega), if_neg (by omega), if_pos (by omega)]; omega
    · rw [if_neg (by omega), if_neg (by omega), if_neg (by omega), if_neg (by omega), if_neg (by omega), if_neg (by omega), if_pos (by omega)]; omega
    · rw [if_neg (by omega), if_neg (by omega), if_neg (by omega), if_neg (by omega), if_neg (by omega), if_neg (by omega), if_neg (by omega)]; omega
theorem RD_fr {hc hm hc' hm' : Hp} {X : Nat} {T : Tx} {b : Nat → Nat} {n : Nat} (R : RD hc hm X T b n) (fc : FNc hc hc') (fm : Fr (mfr T) (fun _ _ => False) hm hm') : RD hc' hm' X T b n := by
  obtain ⟨⟨r1, r2, r3, r4⟩, ⟨r5, r6, r7⟩, ⟨r8, r9, r10⟩, r11, r12⟩ := R
  have e : ∀ x i, ¬ (x = 69 ∧ 6 ≤ i ∧ i ≤ 13) → hI hc' x i = hI hc x i := fc.1
  have em : ∀ x i, ¬ mfr T x i → hI hm' x i = hI hm x i := fm.1
  have x0 : X = 1 ∨ X = 35 := r1
  have c6 : T 0 6 ≤ 64 := r5.1.2.2.2.2.2.2.1
  refine ⟨⟨r1, by rw [fc.2.2]; exact r2, ?_, by rw [e _ _ (by omega)]; exact r4⟩, ⟨r5, ?_, ?_⟩, ⟨?_, ?_, ?_⟩, ?_, ?_⟩
  · exact RTp_fr r3 (fun i hi => e _ _ (by omega)) (fun i => e _ _ (by omega)) (fun i => e _ _ (by omega)) (fun i hi => em _ _ (by unfold mfr; omega)) (fun i => em _ _ (by unfold mfr; omega)) (fun i => em _ _ (by unfold mfr; omega))
  · exact RSc_lo r6 (fun x i q => e _ _ (by unfold crel at q; omega)) (fun i => fc.2.2 _ _)
  · exact RSm_lo 64 r7 (hup_lo (by decide) r5 (fun x i q => em _ _ (fun z => q (Or.inl z)))) (fun _ _ _ _ _ h => h)
  · rw [e _ _ (by omega)]; exact r8
  · rw [e _ _ (by omega)]; exact r9
  · rw [e _ _ (by omega)]; exact r10
  · rw [em _ _ (by unfold mfr; omega)]; exact r11
  · intro w hw ht f hf hl
    refine r12 w hw ht f ?_ hl
    rw [← hf]
    exact (hup_lo (K := 64) (by decide) r5 (fun x i q => em _ _ (fun z => q (Or.inl z))) 128 w (mr9 (by omega))).symm
/-- damp and seed told, in step; a law that isn't told is empty -/
def RQ (hc hm : Hp) (X : Nat) : Prop := (∃ a c, a ≤ 1 ∧ c ≤ 1 ∧ hI hc X 14 = nI a ∧ hI hc X 16 = nI c ∧ hI hm 110 0 = nI a ∧ hI hm 110 1 = nI c) ∧ ∀ w, w < 3 → hI hc (X + 25 + 3 * w) 0 = nI 0 → hI hc (X + 25 + 3 * w) 1 = nI 0
theorem RQ_fr {hc hm hc' hm' : Hp} {X : Nat} (R : RQ hc hm X) (e1 : hI hc' X 14 = hI hc X 14) (e2 : hI hc' X 16 = hI hc X 16) (m : ∀ i, hI hm' 110 i = hI hm 110 i) (el : ∀ w i, w < 3 → hI hc' (X + 25 + 3 * w) i = hI hc (X + 25 + 3 * w) i) : RQ hc' hm' X := by
  obtain ⟨⟨a, c, a1, a2, a3, a4, a5, a6⟩, z⟩ := R
  exact ⟨⟨a, c, a1, a2, e1.trans a3, e2.trans a4, (m 0).trans a5, (m 1).trans a6⟩, fun w hw h0 => (el w 1 hw).trans (z w hw ((el w 0 hw).symm.trans h0))⟩
