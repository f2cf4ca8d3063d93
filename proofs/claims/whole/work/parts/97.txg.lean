/-! text: the laws' sums: the reference's stacks. -/
/-- a stack in a row, the top first -/
def Skk (h : Hp) (a : Nat) : List Nat → Prop
  | [] => True
  | x :: l => hI h a l.length = nI x ∧ Skk h a l
theorem Skk_fr {h h' : Hp} {a : Nat} : ∀ {l : List Nat}, Skk h a l → (∀ i, i < l.length → hI h' a i = hI h a i) → Skk h' a l
  | [], _, _ => trivial
  | _ :: l, s, e => ⟨(e _ (Nat.lt_succ_self _)).trans s.1, Skk_fr s.2 (fun i hi => e i (Nat.lt_succ_of_lt hi))⟩
theorem Skk_push {h : Hp} {a x : Nat} {l : List Nat} (s : Skk h a l) : Skk (uI h a l.length (nI x)) a (x :: l) := ⟨hI_at ⟨rfl, rfl⟩, Skk_fr s (fun i hi => hI_ne (by omega))⟩
/-- how strongly a sign of the reference binds -/
def rkN (k : Nat) : Nat := if 13 ≤ k then 6 else if 11 ≤ k then 5 else if 5 ≤ k then 4 else if k = 2 then 3 else if k = 3 then 2 else if k = 4 then 1 else 0
theorem m_rank {h : Hp} {k : Nat} (hk : k < 15) : fX10_rank h (nI k) = some (nI (rkN k), h) := by
  unfold fX10_rank rkN
  by_cases q1 : 13 ≤ k
  · rw [if_pos q1]; simp (disch := omega) only [lit, ltF, ↓reduceIte]
  · rw [if_neg q1]
    by_cases q2 : 11 ≤ k
    · rw [if_pos q2]; simp (disch := omega) only [lit, ltT, ltF, ↓reduceIte]
    · rw [if_neg q2]
      by_cases q3 : 5 ≤ k
      · rw [if_pos q3]; simp (disch := omega) only [lit, ltT, ltF, ↓reduceIte]
      · rw [if_neg q3]
        by_cases q4 : k = 2
        · rw [if_pos q4]; simp (disch := omega) only [lit, ltT, ↓reduceIte, eqT]
        · rw [if_neg q4]
          by_cases q5 : k = 3
          · rw [if_pos q5]; simp (disch := omega) only [lit, ltT, ↓reduceIte, eqT, eqF]
          · rw [if_neg q5]
            by_cases q6 : k = 4
            · rw [if_pos q6]; simp (disch := omega) only [lit, ltT, ↓reduceIte, eqT, eqF]
            · rw [if_neg q6]; simp (disch := omega) only [lit, ltT, ↓reduceIte, eqF]
theorem rkN_lt (k : Nat) : rkN k < 7 := by unfold rkN; repeat' split <;> try decide
/-- the class's code of a sign -/
def cdN (k : Nat) : Nat := if k = 2 then 20002 else if k = 3 then 20001 else if k = 4 then 20000 else k + 19998
theorem mkd_cd : ∀ k, k < 15 → 2 ≤ k → mkd (cdN k) = k := by decide +kernel
theorem cd_f : ∀ k, k < 15 → 2 ≤ k → 20000 ≤ cdN k ∧ cdN k ≤ 20012 ∧ (cdN k = 20002 ↔ k = 2) := by decide +kernel
/-- signs that wait, brackets aside -/
def nop : List Nat → Nat
  | [] => 0
  | x :: l => nop l + (if x = 0 then 0 else 1)
theorem nop_app : ∀ (a l : List Nat), nop (a ++ l) = nop a + nop l
  | [], l => by rw [List.nil_append, nop, Nat.zero_add]
  | x :: a, l => by rw [List.cons_append, nop, nop, nop_app a l]; omega
/-- codes of waiting signs stand in p from m on -/
def PCd (p : Nat → Nat) : Nat → List Nat → Prop
  | _, [] => True
  | m, k :: P => p m = cdN k ∧ 2 ≤ k ∧ k ≤ 14 ∧ PCd p (m + 1) P
theorem PCd_nop {p : Nat → Nat} : ∀ {P : List Nat} {m : Nat}, PCd p m P → nop P = P.length
  | [], _, _ => rfl
  | k :: P, m, s => by rw [nop, PCd_nop s.2.2.2, if_neg (by have := s.2.1; omega)]; rfl
theorem PCd_ext {p q : Nat → Nat} : ∀ {P : List Nat} {m : Nat}, PCd p m P → (∀ j, j < m + P.length → q j = p j) → PCd q m P
  | [], _, _, _ => trivial
  | k :: P, m, s, e => ⟨(e m (by simp)).trans s.1, s.2.1, s.2.2.1, PCd_ext s.2.2.2 (fun j hj => e j (by simp only [List.length_cons]; omega))⟩
theorem PCd_snoc {p : Nat → Nat} {k : Nat} : ∀ {P : List Nat} {m : Nat}, PCd p m P → p (m + P.length) = cdN k → 2 ≤ k → k ≤ 14 → PCd p m (P ++ [k])
  | [], m, _, e, h1, h2 => ⟨e, h1, h2, trivial⟩
  | x :: P, m, s, e, h1, h2 => ⟨s.1, s.2.1, s.2.2.1, PCd_snoc s.2.2.2 (by rw [show m + 1 + P.length = m + (x :: P).length by simp only [List.length_cons]; omega]; exact e) h1 h2⟩
/-- the class while it reads a sum of law w -/
def XC (h : Hp) (X w : Nat) (p : Nat → Nat) (m c : Nat) : Prop := hR h 69 5 = some (X + 25 + 3 * w) ∧ hI h (X + 25 + 3 * w) 1 = nI m ∧ (∀ j, j < m → hI h (X + 26 + 3 * w) j = nI (p j)) ∧ hI h X 18 = nI c
/-- the reference, too: m knots of p are grown, Q waits -/
def XM (h : Hp) (f : Nat) (p : Nat → Nat) (m : Nat) (Q : List Nat) (c op : Nat) : Prop := hI h 107 25 = nI (f + m) ∧ MLk (hup h) f p m ∧ (hI h 107 52 = nI (stk p f m).length ∧ Skk h 134 (stk p f m)) ∧ (hI h 107 51 = nI Q.length ∧ Skk h 133 Q) ∧ hI h 107 53 = nI op ∧ hI h 107 54 = nI c
/-- what growing may change -/
def FEm (f : Nat) (h h' : Hp) : Prop := Fr (fun a i => (a = 107 ∧ (i = 25 ∨ i = 51 ∨ i = 52)) ∨ (130 ≤ a ∧ a ≤ 132 ∧ 64 + f ≤ i) ∨ a = 133 ∨ a = 134) (fun _ _ => False) h h'
theorem m_drop {h : Hp} {l x : Nat} (h1 : hI h 107 52 = nI (l + 1)) (h2 : hI h 134 l = nI x) (hl : l < 96) : fX10_dropHeld h = some (nI x, uI h 107 52 (nI l)) := by
  have e : nI (l + 1) - nI 1 = nI l := by rw [pk_sub (by omega)]; rfl
  have e2 : hI (uI h 107 52 (nI l)) 107 52 = nI l := hI_at ⟨rfl, rfl⟩
  have e3 : hI (uI h 107 52 (nI l)) 134 l = nI x := (hI_ne (by omega)).trans h2
  unfold fX10_dropHeld
  simp (disch := omega) only [lit, h1, e, e2, inbN, nI_clamp, ↓reduceIte, e3]
def grw (h : Hp) (kk hl : Nat) (x1 x2 x3 : Int32) : Hp := uI (uI (uI (uI (uI (uI h 130 (64 + kk) x1) 131 (64 + kk) x2) 132 (64 + kk) x3) 134 hl (nI kk)) 107 52 (nI (hl + 1))) 107 25 (nI (kk + 1))
theorem m_grown {h : Hp} {kk hl : Nat} {x1 x2 x3 : Int32} (h1 : hI h 107 25 = nI kk) (h2 : hI h 107 52 = nI hl) (hk : kk < 64) (hh : hl < 96) : fX10_grown h x1 x2 x3 = some (grw h kk hl x1 x2 x3) := by
  unfold fX10_grown grw
  simp (disch := omega) only [lit, h1, h2, nI_add, inbN, nI_clamp, ↓reduceIte, hI_ne]
theorem MLk_s {h h' : Hp} {f m : Nat} {p : Nat → Nat} (s : MLk h f p m) (e : ∀ a i, 130 ≤ a → a ≤ 132 → i ≠ f + m → hI h' a i = hI h a i) (z : hI h' 130 (f + m) = nI (mkd (p m)) ∧ (p m < 10000 → hI h' 131 (f + m) = nI (p m)) ∧ (10000 ≤ p m → p m < 20000 → hI h' 131 (f + m) = nI (p m - 10000)) ∧ (p m = 20002 → hI h' 131 (f + m) = nI ((stk p f m).headD 0)) ∧ (20000 ≤ p m → p m ≠ 20002 → hI h' 132 (f + m) = nI ((stk p f m).headD 0) ∧ hI h' 131 (f + m) = nI ((stk p f m).tail.headD 0))) : MLk h' f p (m + 1) := by
  intro j hj
  by_cases q : j = m
  · subst q; exact z
  · obtain ⟨b1, b2, b3, b4, b5⟩ := s j (by omega)
    rw [e 130 _ (by decide) (by decide) (by omega), e 131 _ (by decide) (by decide) (by omega), e 132 _ (by decide) (by decide) (by omega)]
    exact ⟨b1, b2, b3, b4, b5⟩
/-- growing: the reads behind it -/
theorem XM_grw {h g : Hp} {f m : Nat} {p : Nat → Nat} {Q : List Nat} {c op : Nat} {l : List Nat} {x1 x2 x3 : Int32} (M : MLk (hup h) f p m) (er : ∀ a, 130 ≤ a → a ≤ 132 → ∀ i, hI g a i = hI h a i) (hk : Skk g 134 l) (hw : hI g 107 51 = nI Q.length ∧ Skk g 133 Q) (h53 : hI g 107 53 = nI op) (h54 : hI g 107 54 = nI c) (hl : stk p f (m + 1) = (f + m) :: l) (z : x1 = nI (mkd (p m)) ∧ (p m < 10000 → x2 = nI (p m)) ∧ (10000 ≤ p m → p m < 20000 → x2 = nI (p m - 10000)) ∧ (p m = 20002 → x2 = nI ((stk p f m).headD 0)) ∧ (20000 ≤ p m → p m ≠ 20002 → x3 = nI ((stk p f m).headD 0) ∧ x2 = nI ((stk p f m).tail.headD 0))) : XM (grw g (f + m) l.length x1 x2 x3) f p (m + 1) Q c op := by
  have e130 : hI (grw g (f + m) l.length x1 x2 x3) 130 (64 + (f + m)) = x1 := by unfold grw; simp (disch := omega) only [hI_ne, hI_at]
  have e131 : hI (grw g (f + m) l.length x1 x2 x3) 131 (64 + (f + m)) = x2 := by unfold grw; simp (disch := omega) only [hI_ne, hI_at]
  have e132 : hI (grw g (f + m) l.length x1 x2 x3) 132 (64 + (f + m)) = x3 := by unfold grw; simp (disch := omega) only [hI_ne, hI_at]
  have eo : ∀ a i, 130 ≤ a → a ≤ 132 → i ≠ 64 + (f + m) → hI (grw g (f + m) l.length x1 x2 x3) a i = hI h a i := fun a i h1 h2 h3 => by unfold grw; simp (disch := omega) only [hI_ne]; exact er a h1 h2 i
  refine ⟨by unfold grw; rw [hI_at ⟨rfl, rfl⟩]; rfl, MLk_s M ?_ ?_, ⟨?_, ?_⟩, ⟨?_, ?_⟩, ?_, ?_⟩
  · intro a i h1 h2 h3
    rw [hup_I, hup_I, if_neg (by omega), if_neg (by omega)]
    have : uof a = 64 := by rcases (by omega : a = 130 ∨ a = 131 ∨ a = 132) with rfl | rfl | rfl <;> rfl
    rw [this]
    exact eo a _ h1 h2 (by omega)
  · obtain ⟨z1, z2, z3, z4, z5⟩ := z
    exact ⟨e130.trans z1, fun q => e131.trans (z2 q), fun q1 q2 => e131.trans (z3 q1 q2), fun q => e131.trans (z4 q), fun q1 q2 => ⟨e132.trans (z5 q1 q2).1, e131.trans (z5 q1 q2).2⟩⟩
  · rw [hl]; unfold grw; rw [hI_ne (by omega), hI_at ⟨rfl, rfl⟩]; rfl
  · rw [hl]
    refine ⟨by unfold grw; simp (disch := omega) only [hI_ne, hI_at], Skk_fr hk (fun i hi => by unfold grw; simp (disch := omega) only [hI_ne])⟩
  · unfold grw; simp (disch := omega) only [hI_ne]; exact hw.1
  · exact Skk_fr hw.2 (fun i hi => by unfold grw; simp (disch := omega) only [hI_ne])
  · unfold grw; simp (disch := omega) only [hI_ne]; exact h53
  · unfold grw; simp (disch := omega) only [hI_ne]; exact h54
theorem grw_F {h g : Hp} {f m hl : Nat} {x1 x2 x3 : Int32} (e : FEm f h g) : FEm f h (grw g (f + m) hl x1 x2 x3) := by
  unfold grw
  exact (((((e.uI (by omega)).uI (by omega)).uI (by omega)).uI (by omega)).uI (by omega)).uI (by omega)
theorem m_emit {h : Hp} {f m k c op : Nat} {p : Nat → Nat} {Q : List Nat} (M : XM h f p m (k :: Q) c op) (h2 : 2 ≤ k) (h14 : k ≤ 14) (hp : p m = cdN k) (pf : ∀ j, j ≤ m → PfK p j) (hfm : f + m < 64) (hQ : Q.length < 95) {r : Nat} (hr : r ≤ rkN k) (fu : Nat) : ∃ h', fX10_bind_0 (fu + 1) h (nI r) = fX10_bind_0 fu h' (nI r) ∧ XM h' f p (m + 1) Q c op ∧ FEm f h h' := by
  obtain ⟨m1, m2, ⟨m3, m4⟩, ⟨m5, m6, m7⟩, m8, m9⟩ := M
  have sl := stk_len (f := f) (fun i hi => pf i (by omega) : ∀ i, i < m → PfK p i)
  have dl := dpt_le p m
  have pk := pf m (Nat.le_refl _)
  obtain ⟨c1, c2, c3⟩ := cd_f k (by omega) h2
  have rl := rkN_lt k
  have m5 : hI h 107 51 = nI (Q.length + 1) := m5
  have s1 : nI (Q.length + 1) - nI 1 = nI Q.length := by rw [pk_sub (by omega)]; rfl
  have H51 : hI (uI h 107 51 (nI Q.length)) 107 51 = nI Q.length := hI_at ⟨rfl, rfl⟩
  have H133 : hI (uI h 107 51 (nI Q.length)) 133 Q.length = nI k := (hI_ne (by omega)).trans m6
  have H52 : hI (uI h 107 51 (nI Q.length)) 107 52 = nI (stk p f m).length := (hI_ne (by omega)).trans m3
  have H25 : hI (uI h 107 51 (nI Q.length)) 107 25 = nI (f + m) := (hI_ne (by omega)).trans m1
  have Hs : Skk (uI h 107 51 (nI Q.length)) 134 (stk p f m) := Skk_fr m4 (fun i _ => hI_ne (by omega))
  rw [fX10_bind_0]
  simp (disch := omega) only [lit, m5, leF, ↓reduceIte, s1, inbN, nI_clamp, m6, m_rank, bnd_some, ltF, H51, H133]
  by_cases q : k = 2
  · subst q
    have hp : p m = 20002 := hp
    have d1 : 1 ≤ dpt p m := by
      rcases pk with z | z | z
      · omega
      · exact z.2
      · omega
    obtain ⟨x, l, e⟩ : ∃ x l, stk p f m = x :: l := by
      cases e : stk p f m with
      | nil => rw [e] at sl; exact absurd sl (by simp only [List.length_nil]; omega)
      | cons x l => exact ⟨x, l, rfl⟩
    rw [e] at H52 Hs sl
    simp only [List.length_cons] at H52 sl
    simp only [↓reduceIte, fX10_bind_58]
    rw [m_drop H52 Hs.1 (by omega), bnd_some, m_grown (kk := f + m) (hl := l.length) ((hI_ne (by omega)).trans H25) (hI_at ⟨rfl, rfl⟩) hfm (by omega), bind_some']
    refine ⟨_, rfl, XM_grw m2 (fun a h1 h2 i => by rw [hI_ne (by omega), hI_ne (by omega)]) (Skk_fr Hs.2 (fun i _ => hI_ne (by omega))) ⟨by rw [hI_ne (by omega)]; exact H51, Skk_fr m7 (fun i _ => by rw [hI_ne (by omega), hI_ne (by omega)])⟩ (by rw [hI_ne (by omega), hI_ne (by omega)]; exact m8) (by rw [hI_ne (by omega), hI_ne (by omega)]; exact m9) ?_ ?_, grw_F ((Fr.rf.uI (by omega)).uI (by omega))⟩
    · rw [stk, if_neg (by omega), if_pos hp, e]; rfl
    · rw [hp, e]
      exact ⟨rfl, fun z => absurd z (by decide), fun _ z => absurd z (by decide), fun _ => rfl, fun _ z => absurd rfl z⟩
  · have d1 : 2 ≤ dpt p m := by
      rcases pk with z | z | z
      · omega
      · omega
      · exact z.2.2.2
    obtain ⟨x, y, l, e⟩ : ∃ x y l, stk p f m = x :: y :: l := by
      cases e : stk p f m with
      | nil => rw [e] at sl; exact absurd sl (by simp only [List.length_nil]; omega)
      | cons x l =>
        cases e2 : l with
        | nil => rw [e, e2] at sl; exact absurd sl (by simp only [List.length_cons, List.length_nil]; omega)
        | cons y l' => exact ⟨x, y, l', rfl⟩
    rw [e] at H52 Hs sl
    simp only [List.length_cons] at H52 sl
    have D1 := m_drop (l := l.length + 1) H52 Hs.1 (by omega)
    have D2 := m_drop (h := uI (uI h 107 51 (nI Q.length)) 107 52 (nI (l.length + 1))) (l := l.length) (x := y) (hI_at ⟨rfl, rfl⟩) ((hI_ne (by omega)).trans Hs.2.1) (by omega)
    simp (disch := omega) only [eqF, ↓reduceIte, D1, bnd_some, fX10_bind_58, D2]
    rw [m_grown (kk := f + m) (hl := l.length) (by rw [hI_ne (by omega), hI_ne (by omega)]; exact H25) (hI_at ⟨rfl, rfl⟩) hfm (by omega), bind_some']
    refine ⟨_, rfl, XM_grw m2 (fun a h1 h2 i => by rw [hI_ne (by omega), hI_ne (by omega), hI_ne (by omega)]) (Skk_fr Hs.2.2 (fun i _ => by rw [hI_ne (by omega), hI_ne (by omega)])) ⟨by rw [hI_ne (by omega), hI_ne (by omega)]; exact H51, Skk_fr m7 (fun i _ => by rw [hI_ne (by omega), hI_ne (by omega), hI_ne (by omega)])⟩ (by rw [hI_ne (by omega), hI_ne (by omega), hI_ne (by omega)]; exact m8) (by rw [hI_ne (by omega), hI_ne (by omega), hI_ne (by omega)]; exact m9) ?_ ?_, grw_F (((Fr.rf.uI (by omega)).uI (by omega)).uI (by omega))⟩
    · rw [stk, if_neg (by omega), if_neg (by omega), e]; rfl
    · rw [hp, e]
      exact ⟨by rw [mkd_cd k (by omega) h2], fun z => by omega, fun _ z => by omega, fun z => absurd (c3.mp z) q, fun _ _ => ⟨rfl, rfl⟩⟩
/-- the signs that bind at least as strongly as r are bound -/
theorem m_bindP {f c op : Nat} {p : Nat → Nat} {W : List Nat} {r : Nat} : ∀ (P : List Nat) (m : Nat) (h : Hp) (fu : Nat), XM h f p m (P ++ W) c op → PCd p m P → (∀ j, j < m + P.length → PfK p j) → f + m + P.length ≤ 64 → (P ++ W).length < 96 → (∀ k, k ∈ P → r ≤ rkN k) → P.length < fu → (∀ k, W.head? = some k → rkN k < r ∧ k < 15) → r < 10 → ∃ h', fX10_bind_0 fu h (nI r) = some h' ∧ XM h' f p (m + P.length) W c op ∧ FEm f h h'
  | [], m, h, fu, M, _, _, _, hl, _, hf, hw, r10 => by
    obtain ⟨fu, rfl⟩ : ∃ g, fu = g + 1 := ⟨fu - 1, by simp only [List.length_nil] at hf; omega⟩
    refine ⟨h, ?_, M, Fr.rf⟩
    obtain ⟨-, -, -, ⟨m5, m6⟩, -⟩ := M
    rw [List.nil_append] at m5 m6 hl
    rw [fX10_bind_0]
    cases W with
    | nil =>
      have m5 : hI h 107 51 = nI 0 := m5
      simp (disch := omega) only [lit, m5, leT, ↓reduceIte]
    | cons k W =>
      obtain ⟨h1, h2⟩ := hw k rfl
      simp only [List.length_cons] at m5 hl
      have s1 : nI (W.length + 1) - nI 1 = nI W.length := by rw [pk_sub (by omega)]; rfl
      simp (disch := omega) only [lit, m5, leF, ↓reduceIte, s1, inbN, nI_clamp, m6.1, m_rank, bnd_some, ltT]
  | k :: P, m, h, fu, M, pc, pf, hfm, hl, hr, hf, hw, r10 => by
    simp only [List.length_cons, List.cons_append] at hf hfm hl pf M
    obtain ⟨fu, rfl⟩ : ∃ g, fu = g + 1 := ⟨fu - 1, by omega⟩
    obtain ⟨h1, a1, a2, a3⟩ := m_emit M pc.2.1 pc.2.2.1 pc.1 (fun j hj => pf j (by omega)) (by omega) (by omega) (hr k (List.mem_cons_self ..)) fu
    obtain ⟨h2, b1, b2, b3⟩ := m_bindP P (m + 1) h1 fu a2 pc.2.2.2 (fun j hj => pf j (by omega)) (by omega) (by omega) (fun x hx => hr x (List.mem_cons_of_mem _ hx)) (by omega) hw r10
    refine ⟨h2, a1.trans b1, ?_, a3.tr b3⟩
    rw [show m + (k :: P).length = m + 1 + P.length by simp only [List.length_cons]; omega]
    exact b2
