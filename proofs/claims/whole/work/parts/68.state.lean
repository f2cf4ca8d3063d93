/-! The relation of both sides as a whole. -/
def langL : List Nat := [113288608, 116871745, 659097312, 441878706, 284562016, 139527813, 659200192, 135708672, 642945024, 404455424, 407943168, 777046016, 693712896, 522190848, 48365568, 486146048, 777297172, 676774066, 223752192, 217648288, 781667328, 274075648, 479437440]
def langN (i : Nat) : Nat := langL.getD i 0
def wordL : List Nat := [99, 108, 97, 105, 109, 32, 99, 111, 110, 116, 114, 97, 32, 115, 116, 114, 97, 119, 32, 109, 101, 109, 98, 101, 114, 32, 104, 111, 108, 100, 115, 32, 100, 101, 98, 97, 116, 101, 32, 115, 116, 117, 102, 102, 32, 100, 97, 109, 112, 32, 115, 101, 101, 100, 32, 108, 97, 119, 32, 108, 101, 97, 110, 32, 119, 101, 97, 114, 32, 116, 117, 114, 110, 32, 97, 110, 100, 32, 111, 114, 32, 110, 111, 116, 32, 119, 101, 105, 103, 104, 116, 32, 116, 101, 109, 112, 101, 114, 32, 102, 117, 108, 108, 32, 102, 111, 114, 99, 101, 32, 119, 105, 110, 115, 32, 104, 101, 108, 100, 32, 110, 105, 103, 104, 116, 32]
def wordN (i : Nat) : Nat := wordL.getD i 0
/-- the tapes -/
def RT2 (hc hm : Hp) : Prop := ∃ k, k ≤ 700 ∧ hI hc 69 1 = nI k ∧ hI hm 107 1 = nI k ∧ ∀ i, i < k → ∃ b, b < 256 ∧ hI hm 108 i = nI b ∧ hI hc 70 i = (nI b).toInt8.toInt32
/-- what never changes: the rolls' bounds, the words -/
def RKc (h : Hp) : Prop := (∀ S, isS S → hI h (S + 2) 1 = nI 8 ∧ hI h (S + 12) 1 = nI 5 ∧ hI h (S + 16) 1 = nI 5 ∧ ∀ w, w < 3 → hR h (S + 24) w = some (S + 25 + 3 * w)) ∧ (∀ i, i < 23 → hI h 71 i = nI (langN i)) ∧ ∀ i, 160 ≤ i → i < 192 → hI h 106 i = nI 0
def RKm (h : Hp) : Prop := ∀ i, i < 126 → hI h 109 i = nI (wordN i)
/-- the text, the tape, the fault -/
def StA (hc hm : Hp) (S : Nat) (T : Tx) : Prop := isS S ∧ hR hc 0 3 = some S ∧ hR hc 0 4 = some (36 - S) ∧ WFT T ∧ RSc hc S T ∧ RSm hm T ∧ RT2 hc hm ∧ (hI hc 0 1 = hI hm 107 4 ∧ hI hc 0 2 = hI hm 107 5) ∧ RKc hc ∧ RKm hm
/-- how it stands -/
def StW (hc hm : Hp) (S : Nat) (T : Tx) : Prop := RW hc hm S 72 0 T ∧ plainW hc 72 ∧ ∃ n, n < 2 ^ 31 ∧ hI hc 72 4 = nI n ∧ hJ hm 107 67 = lN n
/-- what an entry of the past undoes: rows 0 full, 1 holds, 2 won, 3 beaten -/
def unS (h : Hp) (q : Nat) (X : Nat → Nat → Int32) (r i : Nat) : Int32 :=
  if r = 0 then (if hI h 92 q = nI i then hI h 96 q else X 0 i)
  else if hI h 91 q = nI i then hI h (92 + r) q else X r i
def Xs (h : Hp) (p : Nat) : Nat → Nat → Nat → Int32
  | 0 => fun r i => hI h (73 + r) i
  | j + 1 => unS h ((p + 20 - j) % 20) (Xs h p j)
def RU (hc hm : Hp) (T : Tx) : Prop := ∃ n p, n ≤ 20 ∧ p < 20 ∧ hI hc 90 0 = nI n ∧ hI hc 90 1 = nI p ∧ hI hm 107 80 = nI n ∧
  (∀ j, j < n → (∃ m, m < T 0 3 ∧ hI hc 91 ((p + 20 - j) % 20) = nI m) ∧ (hI hc 92 ((p + 20 - j) % 20) = -nI 1 ∨ ∃ s, s < T 0 2 ∧ hI hc 92 ((p + 20 - j) % 20) = nI s)) ∧
  ∀ j, j < n → (∀ i, i < T 0 2 → ∃ x, x ≤ 99 ∧ Xs hc p (j + 1) 0 i = nI x ∧ hI hm 149 (20 * (n - 1 - j) + i) = nI x) ∧ (∀ i, i < 5 → ∃ x, x < 2 ^ hB T i ∧ Xs hc p (j + 1) 1 i = nI x ∧ hI hm 149 (20 * (n - 1 - j) + 5 + i) = nI x) ∧ (∀ i, i < 5 → Xs hc p (j + 1) 2 i = hI hm 149 (20 * (n - 1 - j) + 10 + i) ∧ Xs hc p (j + 1) 3 i = hI hm 149 (20 * (n - 1 - j) + 15 + i))
/-- the image -/
def RI (hc hm : Hp) (S : Nat) (T : Tx) : Prop := ∃ f, f ≤ 1 ∧ hI hc 0 8 = nI f ∧ hI hm 107 82 = nI f ∧ (f = 1 → hR hc 78 0 = some S ∧
  (∀ i, i < T 0 2 → ∃ n, n ≤ 99 ∧ hI hc 79 i = nI n ∧ hI hm 150 i = nI n) ∧ (∀ i, i < 5 → T 0 2 ≤ i → hI hc 79 i = nI 0) ∧
  (∀ i, i < 5 → ∃ n, n < 2 ^ hB T i ∧ hI hc 80 i = nI n ∧ hI hm 150 (5 + i) = nI n) ∧
  (∀ i, i < 5 → hI hc 81 i = hI hm 150 (10 + i) ∧ hI hc 82 i = hI hm 150 (15 + i)) ∧
  (∃ n, n < 2 ^ T 0 2 ∧ hI hc 78 2 = nI n ∧ ∀ i, i < 5 → hI hm 151 i = nI (bn n i)) ∧
  hI hc 78 1 = hI hm 107 86 ∧ hI hc 78 3 = hI hm 107 85 ∧ ∃ n, n < 2 ^ 31 ∧ hI hc 78 4 = nI n ∧ hJ hm 107 87 = lN n)
/-- what was seen -/
def RM (hc hm : Hp) (T : Tx) : Prop := ∃ n, n ≤ 24 ∧ hI hc 97 0 = nI n ∧ hI hm 107 76 = nI n ∧ hI hc 97 1 = hI hm 107 77 ∧ (hI hc 97 1 = -nI 1 ∨ ∃ k, k ≤ n ∧ hI hc 97 1 = nI k) ∧
  ∀ k, k < n → (hI hc 102 k = -nI 1 ∧ (∃ t, 1 ≤ t ∧ t ≤ 60 ∧ hI hc 98 k = nI t ∧ hI hm 147 (4 * k) = nI t) ∧ (∃ m, m < T 0 3 ∧ hI hc 99 k = nI m ∧ hI hm 147 (4 * k + 1) = nI m) ∧ (∃ x, x ≤ 12 ∧ hI hc 100 k = nI x ∧ hI hm 147 (4 * k + 2) = nI x) ∧ ∃ a, a ≤ 1 ∧ hI hc 101 k = nI a ∧ hI hm 147 (4 * k + 3) = nI a) ∨ (∃ t, t < k ∧ hI hc 102 k = nI t ∧ hI hm 147 (4 * k) = -nI 1 ∧ hI hm 147 (4 * k + 1) = nI t)
def R2 (hc hm : Hp) (S : Nat) (T : Tx) : Prop := StA hc hm S T ∧ StW hc hm S T ∧ RU hc hm T ∧ RI hc hm S T ∧ RM hc hm T
/-! which places each part looks at -/
def relA (a i : Nat) : Prop := (a = 0 ∧ (i = 1 ∨ i = 2)) ∨ (1 ≤ a ∧ a < 69 ∧ ¬ ((a = 2 ∨ a = 36) ∧ (i = 10 ∨ i = 11)) ∧ a ≠ 11 ∧ a ≠ 12 ∧ a ≠ 45 ∧ a ≠ 46) ∨ (a = 69 ∧ i = 1) ∨ a = 70 ∨ a = 71 ∨ (a = 106 ∧ 160 ≤ i ∧ i < 192)
def relMA (a i : Nat) : Prop := (a = 107 ∧ (i = 1 ∨ i = 4 ∨ i = 5 ∨ (12 ≤ i ∧ i ≤ 18))) ∨ a = 108 ∨ a = 109 ∨ (111 ≤ a ∧ a ≤ 132)
theorem RSc_ag {h h' : Hp} {S : Nat} {T : Tx} (hS : isS S) (R : RSc h S T) (hi : ∀ a i, relA a i → hI h' a i = hI h a i) (hr : ∀ a i, a < 69 → hR h' a i = hR h a i) : RSc h' S T := by
  have e : ∀ k i, k < 34 → ¬ (k = 1 ∧ (i = 10 ∨ i = 11)) → k ≠ 10 → k ≠ 11 → hI h' (S + k) i = hI h (S + k) i := fun k i h1 h2 h3 h4 => hi _ _ (by unfold relA; rcases hS with rfl | rfl <;> omega)
  have e00 : ∀ i, hI h' S i = hI h S i := fun i => e 0 i (by decide) (by omega) (by decide) (by decide)
  have eL : ∀ w i, w < 3 → hI h' (S + 25 + 3 * w) i = hI h (S + 25 + 3 * w) i := fun w i hw => by
    have := e (25 + 3 * w) i (by omega) (by omega) (by omega) (by omega); rwa [← Nat.add_assoc] at this
  have eL2 : ∀ w i, w < 3 → hI h' (S + 26 + 3 * w) i = hI h (S + 26 + 3 * w) i := fun w i hw => by
    have := e (26 + 3 * w) i (by omega) (by omega) (by omega) (by omega); rwa [← Nat.add_assoc] at this
  obtain ⟨a1, a2, a3, a4, a5, a6, a7, a8, a9⟩ := R
  refine ⟨?_, ?_, ?_, ?_, ?_, ?_, ?_, ?_, ?_⟩
  · simp (disch := omega) only [e, e00]; exact a1
  · simp (disch := omega) only [e]; exact a2
  · simp (disch := omega) only [e]; exact a3
  · simp (disch := omega) only [e]; exact a4
  · simp (disch := omega) only [e]; exact a5
  · simp (disch := omega) only [e]; exact a6
  · simp (disch := omega) only [e]; exact a7
  · simp (disch := omega) only [e]; exact a8
  · intro w hw
    rw [hr _ _ (by rcases hS with rfl | rfl <;> omega), eL w 0 hw, eL w 1 hw]
    refine ⟨(a9 w hw).1, (a9 w hw).2.1, fun ht => ⟨((a9 w hw).2.2 ht).1, fun j hj => ?_⟩⟩
    rw [eL2 w j hw]
    exact ((a9 w hw).2.2 ht).2 j hj
theorem StA_ag {hc hc' hm hm' : Hp} {S : Nat} {T : Tx} (s : StA hc hm S T) (hi : ∀ a i, relA a i → hI hc' a i = hI hc a i) (hr : ∀ a i, a < 69 → hR hc' a i = hR hc a i) (mi : ∀ a i, relMA a i → hI hm' a i = hI hm a i) : StA hc' hm' S T := by
  obtain ⟨hS, s1, s2, F, Rc, Rm, ⟨k, k1, k2, k3, k4⟩, ⟨f1, f2⟩, ⟨c1, c2, c4⟩, c3⟩ := s
  refine ⟨hS, by rw [hr _ _ (by decide)]; exact s1, by rw [hr _ _ (by decide)]; exact s2, F, RSc_ag hS Rc hi hr, ?_, ⟨k, k1, ?_, ?_, ?_⟩, ⟨?_, ?_⟩, ⟨?_, ?_, ?_⟩, ?_⟩
  · exact RSm_Fr (PI := fun a i => ¬ relMA a i) (PJ := fun _ _ => True) (h' := (hm'.1, hm'.2.1, hm.2.2)) Rm ⟨fun a i q => mi a i (Classical.not_not.mp q), fun a i q => absurd trivial q, fun _ _ => rfl⟩ (fun a i q z => z (by unfold relMA; omega))
  · rw [hi _ _ (by unfold relA; omega)]; exact k2
  · rw [mi _ _ (by unfold relMA; omega)]; exact k3
  · intro i h1
    rw [hi _ _ (by unfold relA; omega), mi _ _ (by unfold relMA; omega)]; exact k4 i h1
  · rw [hi _ _ (by unfold relA; omega), mi _ _ (by unfold relMA; omega)]; exact f1
  · rw [hi _ _ (by unfold relA; omega), mi _ _ (by unfold relMA; omega)]; exact f2
  · intro S' h'
    obtain ⟨b1, b2, b3, b4⟩ := c1 S' h'
    refine ⟨?_, ?_, ?_, fun w hw => ?_⟩
    · rw [hi _ _ (by unfold relA; rcases h' with rfl | rfl <;> omega)]; exact b1
    · rw [hi _ _ (by unfold relA; rcases h' with rfl | rfl <;> omega)]; exact b2
    · rw [hi _ _ (by unfold relA; rcases h' with rfl | rfl <;> omega)]; exact b3
    · rw [hr _ _ (by rcases h' with rfl | rfl <;> omega)]; exact b4 w hw
  · intro i h1
    rw [hi _ _ (by unfold relA; omega)]; exact c2 i h1
  · intro i h1 h2
    rw [hi _ _ (by unfold relA; omega)]; exact c4 i h1 h2
  · intro i h1
    rw [mi _ _ (by unfold relMA; omega)]; exact c3 i h1
theorem StW_ag {hc hc' hm hm' : Hp} {S : Nat} {T : Tx} (F : WFT T) (s : StW hc hm S T) (hi : ∀ a i, 72 ≤ a → a ≤ 76 → hI hc' a i = hI hc a i) (hr : hR hc' 72 0 = hR hc 72 0) (mi : ∀ a i, 137 ≤ a ∧ a ≤ 141 ∧ i < 5 ∨ (a = 142 ∨ a = 143) ∧ i = 0 → hI hm' a i = hI hm a i) (mj : hJ hm' 107 67 = hJ hm 107 67) : StW hc' hm' S T := by
  obtain ⟨⟨w1, w2, w3, w4, w5, ⟨sh, w6, w7, w8⟩, w9, w10⟩, ⟨p1, p2, p3, p4, p5⟩, n, n1, n2, n3⟩ := s
  refine ⟨⟨by rw [hr]; exact w1, ?_, ?_, ?_, ?_, ⟨sh, w6, ?_, ?_⟩, ?_, ?_⟩, ⟨?_, ?_, ?_, ?_, ?_⟩, n, n1, ?_, ?_⟩
  · intro i h1
    obtain ⟨x, x1, x2, x3⟩ := w2 i h1
    refine ⟨x, x1, by rw [hi _ _ (by omega) (by omega)]; exact x2, ?_⟩
    have := F.1.2.2.1
    rw [mi _ _ (by omega)]; exact x3
  · intro i h1 h2; rw [hi _ _ (by omega) (by omega)]; exact w3 i h1 h2
  · intro i h1; rw [hi _ _ (by omega) (by omega), mi _ _ (by omega)]; exact w4 i h1
  · intro i h1; rw [hi _ _ (by omega) (by omega), hi _ _ (by omega) (by omega), mi _ _ (by omega), mi _ _ (by omega)]; exact w5 i h1
  · rw [hi _ _ (by omega) (by omega)]; exact w7
  · intro i h1; rw [mi _ _ (by omega)]; exact w8 i h1
  · rw [hi _ _ (by omega) (by omega), mi _ _ (by omega)]; exact w9
  · rw [hi _ _ (by omega) (by omega), mi _ _ (by omega)]; exact w10
  · rw [hi _ _ (by omega) (by omega)]; exact p1
  · rw [hi _ _ (by omega) (by omega)]; exact p2
  · rw [hi _ _ (by omega) (by omega)]; exact p3
  · rw [hi _ _ (by omega) (by omega)]; exact p4
  · rw [hi _ _ (by omega) (by omega)]; exact p5
  · rw [hi _ _ (by omega) (by omega)]; exact n2
  · rw [mj]; exact n3
theorem Xs_ag {h h' : Hp} {p : Nat} (hi : ∀ a i, 73 ≤ a ∧ a ≤ 76 ∨ 91 ≤ a ∧ a ≤ 96 → hI h' a i = hI h a i) : ∀ j r i, r < 4 → Xs h' p j r i = Xs h p j r i
  | 0, r, i, hr => by show hI h' (73 + r) i = hI h (73 + r) i; exact hi _ _ (by omega)
  | j + 1, r, i, hr => by
    show unS h' _ _ r i = unS h _ _ r i
    unfold unS
    rw [hi 91 _ (by omega), hi 92 _ (by omega), hi 96 _ (by omega), hi (92 + r) _ (by omega), Xs_ag hi j 0 i (by omega), Xs_ag hi j r i hr]
theorem RU_ag {hc hc' hm hm' : Hp} {T : Tx} (s : RU hc hm T) (hi : ∀ a i, 73 ≤ a ∧ a ≤ 76 ∨ 90 ≤ a ∧ a ≤ 96 → hI hc' a i = hI hc a i) (mi : ∀ a i, (a = 107 ∧ i = 80) ∨ a = 149 → hI hm' a i = hI hm a i) : RU hc' hm' T := by
  obtain ⟨n, p, n1, n2, n3, n4, n5, n6, n7⟩ := s
  have X := Xs_ag (p := p) (fun a i q => hi a i (by omega))
  refine ⟨n, p, n1, n2, by rw [hi _ _ (by omega)]; exact n3, by rw [hi _ _ (by omega)]; exact n4, by rw [mi _ _ (by omega)]; exact n5, fun j hj => ?_, fun j hj => ?_⟩
  · rw [hi 91 _ (by omega), hi 92 _ (by omega)]; exact n6 j hj
  · obtain ⟨b1, b2, b3⟩ := n7 j hj
    refine ⟨fun i hi' => ?_, fun i hi' => ?_, fun i hi' => ?_⟩
    · rw [X _ 0 _ (by omega), mi _ _ (Or.inr rfl)]; exact b1 i hi'
    · rw [X _ 1 _ (by omega), mi _ _ (Or.inr rfl)]; exact b2 i hi'
    · rw [X _ 2 _ (by omega), X _ 3 _ (by omega), mi _ _ (Or.inr rfl), mi _ _ (Or.inr rfl)]; exact b3 i hi'
theorem RI_ag {hc hc' hm hm' : Hp} {S : Nat} {T : Tx} (s : RI hc hm S T) (hi : ∀ a i, (a = 0 ∧ i = 8) ∨ 78 ≤ a ∧ a ≤ 82 → hI hc' a i = hI hc a i) (hr : hR hc' 78 0 = hR hc 78 0) (mi : ∀ a i, (a = 107 ∧ (i = 82 ∨ i = 85 ∨ i = 86)) ∨ a = 150 ∨ a = 151 → hI hm' a i = hI hm a i) (mj : hJ hm' 107 87 = hJ hm 107 87) : RI hc' hm' S T := by
  obtain ⟨f, f1, f2, f3, f4⟩ := s
  refine ⟨f, f1, by rw [hi _ _ (by omega)]; exact f2, by rw [mi _ _ (by omega)]; exact f3, fun z => ?_⟩
  obtain ⟨w1, w2, w3, w4, w5, ⟨sh, w6, w7, w8⟩, w9, w10, n, n1, n2, n3⟩ := f4 z
  refine ⟨by rw [hr]; exact w1, ?_, ?_, ?_, ?_, ⟨sh, w6, ?_, ?_⟩, ?_, ?_, n, n1, ?_, ?_⟩
  · intro i h1; rw [hi _ _ (by omega), mi _ _ (by omega)]; exact w2 i h1
  · intro i h1 h2; rw [hi _ _ (by omega)]; exact w3 i h1 h2
  · intro i h1; rw [hi _ _ (by omega), mi _ _ (by omega)]; exact w4 i h1
  · intro i h1; rw [hi _ _ (by omega), hi _ _ (by omega), mi _ _ (by omega), mi _ _ (by omega)]; exact w5 i h1
  · rw [hi _ _ (by omega)]; exact w7
  · intro i h1; rw [mi _ _ (by omega)]; exact w8 i h1
  · rw [hi _ _ (by omega), mi _ _ (by omega)]; exact w9
  · rw [hi _ _ (by omega), mi _ _ (by omega)]; exact w10
  · rw [hi _ _ (by omega)]; exact n2
  · rw [mj]; exact n3
theorem RM_ag {hc hc' hm hm' : Hp} {T : Tx} (s : RM hc hm T) (hi : ∀ a i, 97 ≤ a ∧ a ≤ 102 → hI hc' a i = hI hc a i) (mi : ∀ a i, (a = 107 ∧ (i = 76 ∨ i = 77)) ∨ a = 147 → hI hm' a i = hI hm a i) : RM hc' hm' T := by
  obtain ⟨n, n1, n2, n3, n4, n5, n6⟩ := s
  refine ⟨n, n1, ?_, ?_, ?_, ?_, fun k hk => ?_⟩
  · rw [hi _ _ (by omega)]; exact n2
  · rw [mi _ _ (by omega)]; exact n3
  · rw [hi _ _ (by omega), mi _ _ (by omega)]; exact n4
  · rw [hi _ _ (by omega)]; exact n5
  · rw [hi 102 _ (by omega), hi 98 _ (by omega), hi 99 _ (by omega), hi 100 _ (by omega), hi 101 _ (by omega), mi 147 _ (by omega), mi 147 _ (by omega), mi 147 _ (by omega), mi 147 _ (by omega)]
    exact n6 k hk
/-- places that no part looks at -/
def irC (a i : Nat) : Prop := (a = 69 ∧ i ≠ 1) ∨ ((a = 2 ∨ a = 36) ∧ (i = 10 ∨ i = 11)) ∨ a = 11 ∨ a = 12 ∨ a = 45 ∨ a = 46 ∨ (84 ≤ a ∧ a ≤ 88) ∨ (103 ≤ a ∧ ¬ (a = 106 ∧ 160 ≤ i ∧ i < 192))
def irM (a i : Nat) : Prop := (a = 107 ∧ (i = 2 ∨ (6 ≤ i ∧ i ≤ 11) ∨ (19 ≤ i ∧ i ≤ 25) ∨ (51 ≤ i ∧ i ≤ 56) ∨ i = 59 ∨ (68 ≤ i ∧ i ≤ 72))) ∨ a = 110 ∨ a = 133 ∨ a = 134 ∨ (137 ≤ a ∧ a ≤ 141 ∧ 5 ≤ i) ∨ ((a = 142 ∨ a = 143) ∧ i = 1) ∨ (144 ≤ a ∧ a ≤ 146) ∨ a = 148 ∨ a < 107
/-- calls that only ask -/
theorem R2_ask {hc hc' hm hm' : Hp} {S : Nat} {T : Tx} (s : R2 hc hm S T) (hi : ∀ a i, ¬ irC a i → hI hc' a i = hI hc a i) (hr : ∀ a i, a ≠ 69 → a ≠ 84 → hR hc' a i = hR hc a i) (mi : ∀ a i, ¬ irM a i → hI hm' a i = hI hm a i) (mj : ∀ i, i = 67 ∨ i = 87 → hJ hm' 107 i = hJ hm 107 i) : R2 hc' hm' S T := by
  obtain ⟨a, b, c, d, e⟩ := s
  refine ⟨StA_ag a (fun x i q => hi x i (by unfold relA at q; unfold irC; omega)) (fun x i q => hr x i (by omega) (by omega)) (fun x i q => mi x i (by unfold relMA at q; unfold irM; omega)), StW_ag a.2.2.2.1 b (fun x i h1 h2 => hi x i (by unfold irC; omega)) (hr _ _ (by decide) (by decide)) (fun x i q => mi x i (by unfold irM; omega)) (mj _ (by omega)), RU_ag c (fun x i q => hi x i (by unfold irC; omega)) (fun x i q => mi x i (by unfold irM; omega)), RI_ag d (fun x i q => hi x i (by unfold irC; omega)) (hr _ _ (by decide) (by decide)) (fun x i q => mi x i (by unfold irM; omega)) (mj _ (by omega)), RM_ag e (fun x i q => hi x i (by unfold irC; omega)) (fun x i q => mi x i (by unfold irM; omega))⟩
