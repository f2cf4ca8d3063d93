/-! What both sides hold: the text as numbers T (a row and a place), a world of the class beside a half of the reference's rows. -/
/-- rows of T: 0 counts (claims, contras, straws, members, debates, stuffs, knots, damp, seed), 1 claims' names, 2 weights, 3 tempers, 4 from, 5 to, 6 straws' names, 7 their claims, 8 full, 9 members' names, 10 what they hold, 11 who debates, 12 which straw, 13 the night, 14 stuffed straw, 15 the night, 16 laws told, 17 their sizes, 18 .. 20 their knots -/
abbrev Tx : Type := Nat → Nat → Nat
/-- the depth behind the first knots of a law, each behind what it joins -/
def dpt (p : Nat → Nat) : Nat → Nat
  | 0 => 0
  | j + 1 => if p j < 20000 then dpt p j + 1 else if p j = 20002 then dpt p j else dpt p j - 1
/-- the places on the stack, the top first -/
def stk (p : Nat → Nat) (f : Nat) : Nat → List Nat
  | 0 => []
  | j + 1 => if p j < 20000 then (f + j) :: stk p f j else if p j = 20002 then (f + j) :: (stk p f j).tail else (f + j) :: (stk p f j).tail.tail
/-- a law's knots are well made -/
def PfK (p : Nat → Nat) (j : Nat) : Prop := p j < 10007 ∨ (p j = 20002 ∧ 1 ≤ dpt p j) ∨ (20000 ≤ p j ∧ p j ≤ 20012 ∧ p j ≠ 20002 ∧ 2 ≤ dpt p j)
def Pf (p : Nat → Nat) (m : Nat) : Prop := m ≤ 64 ∧ dpt p m = 1 ∧ ∀ j, j < m → PfK p j
def isS (S : Nat) : Prop := S = 1 ∨ S = 35
def isW (W : Nat) : Prop := W = 72 ∨ W = 78 ∨ W = 84
def WFT (T : Tx) : Prop :=
  (T 0 0 ≤ 8 ∧ T 0 1 ≤ 16 ∧ T 0 2 ≤ 5 ∧ T 0 3 ≤ 5 ∧ T 0 4 ≤ 12 ∧ T 0 5 ≤ 6 ∧ T 0 6 ≤ 64 ∧ T 0 7 ≤ 100 ∧ T 0 8 ≤ 99999) ∧
  (∀ i, i < T 0 0 → T 1 i < 2 ^ 30 ∧ T 2 i ≤ 99 ∧ T 3 i ≤ 9) ∧
  (∀ k, k < T 0 1 → T 4 k < T 0 0 ∧ T 5 k < T 0 0 ∧ T 4 k ≠ T 5 k) ∧
  (∀ s, s < T 0 2 → T 6 s < 2 ^ 30 ∧ T 7 s < T 0 0 ∧ 1 ≤ T 8 s ∧ T 8 s ≤ 99) ∧
  (∀ i, i < 5 → T 10 i < 2 ^ T 0 0) ∧ (∀ i, i < T 0 3 → T 9 i < 2 ^ 30) ∧ (∀ i, T 0 3 ≤ i → T 10 i = 0) ∧
  (∀ d, d < T 0 4 → T 11 d < T 0 3 ∧ T 12 d < T 0 2 ∧ T 13 d ≤ 99) ∧
  (∀ f, f < T 0 5 → T 14 f < T 0 2 ∧ T 15 f ≤ 99) ∧
  (∀ w, w < 3 → T 16 w ≤ 1 ∧ (T 16 w = 1 → Pf (T (18 + w)) (T 17 w)))
/-- bits of the contras that p tells -/
def orB (p : Nat → Bool) (t : Nat → Nat) : Nat → Nat
  | 0 => 0
  | k + 1 => orB p t k ||| (if p k then 2 ^ t k else 0)
def hitsT (T : Tx) (i : Nat) : Nat := orB (fun k => decide (T 4 k = i)) (T 5) (T 0 1)
def foesT (T : Tx) (i : Nat) : Nat := orB (fun k => decide (T 5 k = i)) (T 4) (T 0 1)
/-- the class's script at S is T -/
def RSc (h : Hp) (S : Nat) (T : Tx) : Prop :=
  (hI h (S + 2) 2 = nI (T 0 0) ∧ hI h (S + 1) 5 = nI (T 0 1) ∧ hI h (S + 12) 2 = nI (T 0 2) ∧ hI h (S + 16) 2 = nI (T 0 3) ∧ hI h S 6 = nI (T 0 4) ∧ hI h S 10 = nI (T 0 5) ∧ hI h S 18 = nI (T 0 6) ∧ hI h S 13 = nI (T 0 7) ∧ hI h S 15 = nI (T 0 8)) ∧
  (∀ i, i < T 0 0 → hI h (S + 3) i = nI (T 1 i) ∧ hI h (S + 4) i = nI (T 2 i) ∧ hI h (S + 5) i = nI (T 3 i)) ∧
  (∀ i, i < 8 → hI h (S + 6) i = nI (hitsT T i) ∧ hI h (S + 7) i = nI (foesT T i)) ∧
  (∀ k, k < T 0 1 → hI h (S + 8) k = nI (T 4 k) ∧ hI h (S + 9) k = nI (T 5 k)) ∧
  (∀ s, s < T 0 2 → hI h (S + 13) s = nI (T 6 s) ∧ hI h (S + 14) s = nI (T 7 s) ∧ hI h (S + 15) s = nI (T 8 s)) ∧
  (∀ i, i < T 0 3 → hI h (S + 17) i = nI (T 9 i) ∧ hI h (S + 18) i = nI (T 10 i)) ∧
  (∀ d, d < T 0 4 → hI h (S + 19) d = nI (T 11 d) ∧ hI h (S + 20) d = nI (T 12 d) ∧ hI h (S + 21) d = nI (T 13 d)) ∧
  (∀ f, f < T 0 5 → hI h (S + 22) f = nI (T 14 f) ∧ hI h (S + 23) f = nI (T 15 f)) ∧
  (∀ w, w < 3 → hR h (S + 24) w = some (S + 25 + 3 * w) ∧ hI h (S + 25 + 3 * w) 0 = nI (T 16 w) ∧ (T 16 w = 1 → hI h (S + 25 + 3 * w) 1 = nI (T 17 w) ∧ ∀ j, j < T 17 w → hI h (S + 26 + 3 * w) j = nI (T (18 + w) j)))
/-- the reference's kind of a knot -/
def mkd (c : Nat) : Nat := if c < 10000 then 0 else if c < 20000 then 1 else if c = 20000 then 4 else if c = 20001 then 3 else if c = 20002 then 2 else c - 19998
/-- the reference's knots from f on are those of p -/
def MLk (h : Hp) (f : Nat) (p : Nat → Nat) (m : Nat) : Prop := ∀ j, j < m → hI h 130 (f + j) = nI (mkd (p j)) ∧ (p j < 10000 → hI h 131 (f + j) = nI (p j)) ∧ (10000 ≤ p j → p j < 20000 → hI h 131 (f + j) = nI (p j - 10000)) ∧ (p j = 20002 → hI h 131 (f + j) = nI ((stk p f j).headD 0)) ∧ (20000 ≤ p j → p j ≠ 20002 → hI h 132 (f + j) = nI ((stk p f j).headD 0) ∧ hI h 131 (f + j) = nI ((stk p f j).tail.headD 0))
/-- the reference's text is T -/
def RSm (h : Hp) (T : Tx) : Prop :=
  (hI h 107 12 = nI (T 0 0) ∧ hI h 107 13 = nI (T 0 1) ∧ hI h 107 14 = nI (T 0 2) ∧ hI h 107 15 = nI (T 0 3) ∧ hI h 107 16 = nI (T 0 4) ∧ hI h 107 17 = nI (T 0 5) ∧ hI h 107 18 = nI (T 0 6) ∧ hI h 111 0 = nI (T 0 7) ∧ hI h 111 1 = nI (T 0 8)) ∧
  (∀ i, i < T 0 0 → hI h 112 i = nI (T 1 i) ∧ hI h 113 i = nI (T 2 i) ∧ hI h 114 i = nI (T 3 i)) ∧
  (∀ k, k < T 0 1 → hI h 115 k = nI (T 4 k) ∧ hI h 116 k = nI (T 5 k)) ∧
  (∀ s, s < T 0 2 → hI h 117 s = nI (T 6 s) ∧ hI h 118 s = nI (T 7 s) ∧ hI h 119 s = nI (T 8 s)) ∧
  (∀ i, i < T 0 3 → hI h 120 i = nI (T 9 i)) ∧ (∀ i, i < 5 → hI h 121 i = nI (T 10 i)) ∧
  (∀ d, d < T 0 4 → hI h 122 d = nI (T 11 d) ∧ hI h 123 d = nI (T 12 d) ∧ hI h 124 d = nI (T 13 d)) ∧
  (∀ f, f < T 0 5 → hI h 125 f = nI (T 14 f) ∧ hI h 126 f = nI (T 15 f)) ∧
  (∀ w, w < 3 → hI h 127 w = nI (T 16 w) ∧ (T 16 w = 1 → ∃ f, hI h 128 w = nI f ∧ hI h 129 w = nI (f + T 17 w) ∧ f + T 17 w ≤ 64 ∧ MLk h f (T (18 + w)) (T 17 w)))
/-- bits that a member may hold -/
def hB (T : Tx) (i : Nat) : Nat := if i < T 0 3 then T 0 0 else 0
theorem hB_lt {T : Tx} {i : Nat} (h : i < T 0 3) : hB T i = T 0 0 := if_pos h
theorem hB_le (T : Tx) (i : Nat) : hB T i ≤ T 0 0 := by unfold hB; split <;> omega
theorem hB_w {T : Tx} {i n : Nat} (h : n < 2 ^ hB T i) : n < 2 ^ T 0 0 := Nat.lt_of_lt_of_le h (Nat.pow_le_pow_right (by decide) (hB_le T i))
/-- world W of the class (script S) and half b of the reference's rows are the same -/
def RW (hc hm : Hp) (S W b : Nat) (T : Tx) : Prop :=
  hR hc W 0 = some S ∧
  (∀ i, i < T 0 2 → ∃ n, n ≤ 99 ∧ hI hc (W + 1) i = nI n ∧ hI hm 137 (5 * b + i) = nI n) ∧
  (∀ i, i < 5 → T 0 2 ≤ i → hI hc (W + 1) i = nI 0) ∧
  (∀ i, i < 5 → ∃ n, n < 2 ^ hB T i ∧ hI hc (W + 2) i = nI n ∧ hI hm 139 (5 * b + i) = nI n) ∧
  (∀ i, i < 5 → hI hc (W + 3) i = hI hm 140 (5 * b + i) ∧ hI hc (W + 4) i = hI hm 141 (5 * b + i)) ∧
  (∃ n, n < 2 ^ T 0 2 ∧ hI hc W 2 = nI n ∧ ∀ i, i < 5 → hI hm 138 (5 * b + i) = nI (bn n i)) ∧
  hI hc W 1 = hI hm 143 b ∧ hI hc W 3 = hI hm 142 b
/-- how nights go: drawn, no damp, no wear, both ways, who is absent; the last number -/
def RG (hc hm : Hp) (W : Nat) : Prop :=
  (∃ a, a ≤ 1 ∧ hI hc W 10 = nI a ∧ hI hm 107 68 = nI a ∧ (a = 1 → ∃ n, n < 2 ^ 31 ∧ hI hc W 4 = nI n ∧ hJ hm 107 67 = lN n)) ∧
  (∃ a, a ≤ 1 ∧ hI hc W 11 = nI a ∧ hI hm 107 69 = nI a) ∧ (∃ a, a ≤ 1 ∧ hI hc W 12 = nI a ∧ hI hm 107 70 = nI a) ∧
  (∃ a, a ≤ 1 ∧ hI hc W 13 = nI a ∧ hI hm 107 71 = nI a) ∧ hI hc W 14 = hI hm 107 72
/-- what the class's world functions may change: ints, longs -/
def PcI (W a i : Nat) : Prop := (a = W ∧ 1 ≤ i ∧ i ≤ 4) ∨ (W < a ∧ a < W + 5)
def PcJ (W a : Nat) : Prop := a = W + 5 ∨ a < 69
/-- what the reference's may change of half b -/
def PmI (b a i : Nat) : Prop := (a = 107 ∧ i = 59) ∨ (137 ≤ a ∧ a ≤ 141 ∧ 5 * b ≤ i ∧ i < 5 * b + 5) ∨ ((a = 142 ∨ a = 143) ∧ i = b)
def PmJ (a i : Nat) : Prop := (a = 107 ∧ i = 67) ∨ a = 135 ∨ a = 136
/-- only what PI, PJ name has changed -/
def Fr (PI PJ : Nat → Nat → Prop) (h h' : Hp) : Prop := (∀ a i, ¬ PI a i → hI h' a i = hI h a i) ∧ (∀ a i, ¬ PJ a i → hJ h' a i = hJ h a i) ∧ ∀ a i, hR h' a i = hR h a i
theorem Fr.rf {PI PJ : Nat → Nat → Prop} {h : Hp} : Fr PI PJ h h := ⟨fun _ _ _ => rfl, fun _ _ _ => rfl, fun _ _ => rfl⟩
theorem Fr.tr {PI PJ : Nat → Nat → Prop} {h h1 h2 : Hp} (a : Fr PI PJ h h1) (b : Fr PI PJ h1 h2) : Fr PI PJ h h2 :=
  ⟨fun x i q => (b.1 x i q).trans (a.1 x i q), fun x i q => (b.2.1 x i q).trans (a.2.1 x i q), fun x i => (b.2.2 x i).trans (a.2.2 x i)⟩
theorem Fr.mono {PI PJ QI QJ : Nat → Nat → Prop} {h h1 : Hp} (a : Fr PI PJ h h1) (hI : ∀ x i, PI x i → QI x i) (hJ : ∀ x i, PJ x i → QJ x i) : Fr QI QJ h h1 :=
  ⟨fun x i q => a.1 x i (fun z => q (hI x i z)), fun x i q => a.2.1 x i (fun z => q (hJ x i z)), a.2.2⟩
theorem Fr.uI {PI PJ : Nat → Nat → Prop} {h h1 : Hp} (s : Fr PI PJ h h1) {a k : Nat} {v : Int32} (hp : PI a k) : Fr PI PJ h (uI h1 a k v) := by
  refine s.tr ⟨fun x i q => ?_, fun _ _ _ => rfl, fun _ _ => rfl⟩
  rw [hI_uI, if_neg]
  rintro ⟨rfl, rfl⟩
  exact q hp
theorem Fr.uJ {PI PJ : Nat → Nat → Prop} {h h1 : Hp} (s : Fr PI PJ h h1) {a k : Nat} {v : Int64} (hp : PJ a k) : Fr PI PJ h (uJ h1 a k v) := by
  refine s.tr ⟨fun _ _ _ => rfl, fun x i q => ?_, fun _ _ => rfl⟩
  rw [hJ_uJ, if_neg]
  rintro ⟨rfl, rfl⟩
  exact q hp
/-- class, world W -/
def FC (W : Nat) (h h' : Hp) : Prop := Fr (PcI W) (fun a _ => PcJ W a) h h'
/-- reference, half b -/
def FM (b : Nat) (h h' : Hp) : Prop := Fr (PmI b) PmJ h h'
/-! references of the class, by offsets -/
theorem rW (k : Nat) (hk : 5 ≤ k) (hk9 : k ≤ 9) {W : Nat} (h : isW W) : rf W k = W + (k - 4) := by
  have : ∀ k, k < 10 → 5 ≤ k → rf 72 k = 72 + (k - 4) ∧ rf 78 k = 78 + (k - 4) ∧ rf 84 k = 84 + (k - 4) := by decide
  obtain ⟨a, b, c⟩ := this k (by omega) hk
  rcases h with rfl | rfl | rfl
  · exact a
  · exact b
  · exact c
theorem rW5 {W : Nat} (h : isW W) : rf W 5 = W + 1 := rW 5 (by decide) (by decide) h
theorem rW6 {W : Nat} (h : isW W) : rf W 6 = W + 2 := rW 6 (by decide) (by decide) h
theorem rW7 {W : Nat} (h : isW W) : rf W 7 = W + 3 := rW 7 (by decide) (by decide) h
theorem rW8 {W : Nat} (h : isW W) : rf W 8 = W + 4 := rW 8 (by decide) (by decide) h
theorem rW9 {W : Nat} (h : isW W) : rf W 9 = W + 5 := rW 9 (by decide) (by decide) h
theorem sS {S : Nat} (h : isS S) : shp S = (7, 20) := by rcases h with rfl | rfl <;> rfl
theorem sL {S w : Nat} (h : isS S) (hw : w < 3) : shp (S + 25 + 3 * w) = (1, 4) := by
  have : ∀ w, w < 3 → shp (1 + 25 + 3 * w) = (1, 4) ∧ shp (35 + 25 + 3 * w) = (1, 4) := by decide
  rcases h with rfl | rfl
  · exact (this w hw).1
  · exact (this w hw).2
theorem rL2 {S w : Nat} (h : isS S) (hw : w < 3) : rf (S + 25 + 3 * w) 2 = S + 26 + 3 * w := by
  have : ∀ w, w < 3 → rf (1 + 25 + 3 * w) 2 = 1 + 26 + 3 * w ∧ rf (35 + 25 + 3 * w) 2 = 35 + 26 + 3 * w := by decide
  rcases h with rfl | rfl
  · exact (this w hw).1
  · exact (this w hw).2
theorem rL3 {S w : Nat} (h : isS S) (hw : w < 3) : rf (S + 25 + 3 * w) 3 = S + 27 + 3 * w := by
  have : ∀ w, w < 3 → rf (1 + 25 + 3 * w) 3 = 1 + 27 + 3 * w ∧ rf (35 + 25 + 3 * w) 3 = 35 + 27 + 3 * w := by decide
  rcases h with rfl | rfl
  · exact (this w hw).1
  · exact (this w hw).2
theorem rS0 {S : Nat} (h : isS S) : rf S 0 = S + 1 := by rcases h with rfl | rfl <;> rfl
theorem rS1 {S : Nat} (h : isS S) : rf S 1 = S + 12 := by rcases h with rfl | rfl <;> rfl
theorem rS2 {S : Nat} (h : isS S) : rf S 2 = S + 14 := by rcases h with rfl | rfl <;> rfl
theorem rS3 {S : Nat} (h : isS S) : rf S 3 = S + 15 := by rcases h with rfl | rfl <;> rfl
theorem rS4 {S : Nat} (h : isS S) : rf S 4 = S + 16 := by rcases h with rfl | rfl <;> rfl
theorem rS5 {S : Nat} (h : isS S) : rf S 5 = S + 18 := by rcases h with rfl | rfl <;> rfl
theorem rS7 {S : Nat} (h : isS S) : rf S 7 = S + 19 := by rcases h with rfl | rfl <;> rfl
theorem rS8 {S : Nat} (h : isS S) : rf S 8 = S + 20 := by rcases h with rfl | rfl <;> rfl
theorem rS9 {S : Nat} (h : isS S) : rf S 9 = S + 21 := by rcases h with rfl | rfl <;> rfl
theorem rS11 {S : Nat} (h : isS S) : rf S 11 = S + 22 := by rcases h with rfl | rfl <;> rfl
theorem rS12 {S : Nat} (h : isS S) : rf S 12 = S + 23 := by rcases h with rfl | rfl <;> rfl
theorem rS17 {S : Nat} (h : isS S) : rf S 17 = S + 24 := by rcases h with rfl | rfl <;> rfl
theorem rC0 {S : Nat} (h : isS S) : rf (S + 1) 0 = S + 2 := by rcases h with rfl | rfl <;> rfl
theorem rC1 {S : Nat} (h : isS S) : rf (S + 1) 1 = S + 4 := by rcases h with rfl | rfl <;> rfl
theorem rC2 {S : Nat} (h : isS S) : rf (S + 1) 2 = S + 5 := by rcases h with rfl | rfl <;> rfl
theorem rC3 {S : Nat} (h : isS S) : rf (S + 1) 3 = S + 6 := by rcases h with rfl | rfl <;> rfl
theorem rC4 {S : Nat} (h : isS S) : rf (S + 1) 4 = S + 7 := by rcases h with rfl | rfl <;> rfl
theorem rC6 {S : Nat} (h : isS S) : rf (S + 1) 6 = S + 8 := by rcases h with rfl | rfl <;> rfl
theorem rC7 {S : Nat} (h : isS S) : rf (S + 1) 7 = S + 9 := by rcases h with rfl | rfl <;> rfl
theorem rC8 {S : Nat} (h : isS S) : rf (S + 1) 8 = S + 10 := by rcases h with rfl | rfl <;> rfl
theorem rC9 {S : Nat} (h : isS S) : rf (S + 1) 9 = S + 11 := by rcases h with rfl | rfl <;> rfl
theorem rN0 {S : Nat} (h : isS S) : rf (S + 2) 0 = S + 3 := by rcases h with rfl | rfl <;> rfl
theorem rN12 {S : Nat} (h : isS S) : rf (S + 12) 0 = S + 13 := by rcases h with rfl | rfl <;> rfl
theorem rN16 {S : Nat} (h : isS S) : rf (S + 16) 0 = S + 17 := by rcases h with rfl | rfl <;> rfl
theorem RSc_Fr {h h' : Hp} {S : Nat} {T : Tx} {PI PJ : Nat → Nat → Prop} (hS : isS S) (R : RSc h S T) (hf : Fr PI PJ h h') (hp : ∀ a i, 1 ≤ a → a < 69 → ¬ PI a i) : RSc h' S T := by
  have e : ∀ k i, k < 34 → hI h' (S + k) i = hI h (S + k) i := fun k i hk => hf.1 _ _ (hp _ _ (by rcases hS with rfl | rfl <;> omega) (by rcases hS with rfl | rfl <;> omega))
  have e00 : ∀ i, hI h' S i = hI h S i := fun i => e 0 i (by decide)
  have eL : ∀ w i, w < 3 → hI h' (S + 25 + 3 * w) i = hI h (S + 25 + 3 * w) i := fun w i hw => by
    have := e (25 + 3 * w) i (by omega); rwa [← Nat.add_assoc] at this
  have eL2 : ∀ w i, w < 3 → hI h' (S + 26 + 3 * w) i = hI h (S + 26 + 3 * w) i := fun w i hw => by
    have := e (26 + 3 * w) i (by omega); rwa [← Nat.add_assoc] at this
  obtain ⟨a1, a2, a3, a4, a5, a6, a7, a8, a9⟩ := R
  refine ⟨?_, ?_, ?_, ?_, ?_, ?_, ?_, ?_, ?_⟩
  · simp (disch := omega) only [e, e00]; exact a1
  · simp (disch := omega) only [e]; exact a2
  · simp (disch := omega) only [e]; exact a3
  · simp (disch := omega) only [e]; exact a4
  · simp (disch := omega) only [e]; exact a5
  · simp (disch := omega) only [e]; exact a6
  · simp (disch := omega) only [e]; exact a7
  · simp (disch := omega) only [e]; exact a8
  · intro w hw
    rw [hf.2.2, eL w 0 hw, eL w 1 hw]
    refine ⟨(a9 w hw).1, (a9 w hw).2.1, fun ht => ⟨((a9 w hw).2.2 ht).1, fun j hj => ?_⟩⟩
    rw [eL2 w j hw]
    exact ((a9 w hw).2.2 ht).2 j hj
theorem MLk_ext {h h' : Hp} {f m : Nat} {p : Nat → Nat} (s : MLk h f p m) (e : ∀ a i, 130 ≤ a → a ≤ 132 → hI h' a i = hI h a i) : MLk h' f p m := by
  intro j hj
  obtain ⟨b1, b2, b3, b4, b5⟩ := s j hj
  refine ⟨?_, ?_, ?_, ?_, ?_⟩
  · rw [e _ _ (by decide) (by decide)]; exact b1
  · rw [e _ _ (by decide) (by decide)]; exact b2
  · rw [e _ _ (by decide) (by decide)]; exact b3
  · rw [e _ _ (by decide) (by decide)]; exact b4
  · rw [e _ _ (by decide) (by decide), e _ _ (by decide) (by decide)]; exact b5
theorem RSm_Fr {h h' : Hp} {T : Tx} {PI PJ : Nat → Nat → Prop} (R : RSm h T) (hf : Fr PI PJ h h') (hp : ∀ a i, (111 ≤ a ∧ a ≤ 132) ∨ (a = 107 ∧ 12 ≤ i ∧ i ≤ 18) → ¬ PI a i) : RSm h' T := by
  have e : ∀ a i, 111 ≤ a → a ≤ 132 → hI h' a i = hI h a i := fun a i h1 h2 => hf.1 _ _ (hp _ _ (Or.inl ⟨h1, h2⟩))
  have e2 : ∀ i, 12 ≤ i → i ≤ 18 → hI h' 107 i = hI h 107 i := fun i h1 h2 => hf.1 _ _ (hp _ _ (Or.inr ⟨rfl, h1, h2⟩))
  obtain ⟨a1, a2, a3, a4, a5, a6, a7, a8, a9⟩ := R
  refine ⟨?_, ?_, ?_, ?_, ?_, ?_, ?_, ?_, ?_⟩
  · simp (disch := omega) only [e, e2]; exact a1
  · simp (disch := omega) only [e]; exact a2
  · simp (disch := omega) only [e]; exact a3
  · simp (disch := omega) only [e]; exact a4
  · simp (disch := omega) only [e]; exact a5
  · simp (disch := omega) only [e]; exact a6
  · simp (disch := omega) only [e]; exact a7
  · simp (disch := omega) only [e]; exact a8
  · intro w hw
    obtain ⟨c1, c2⟩ := a9 w hw
    refine ⟨by rw [e _ _ (by decide) (by decide)]; exact c1, fun ht => ?_⟩
    obtain ⟨f, d1, d2, d3, d4⟩ := c2 ht
    exact ⟨f, by rw [e _ _ (by decide) (by decide)]; exact d1, by rw [e _ _ (by decide) (by decide)]; exact d2, d3, MLk_ext d4 (fun a i h1 h2 => e a i (by omega) h2)⟩
