/-! text: the steps that the lines are made of. -/
def FBc (h h' : Hp) : Prop := Fr (fun a i => a = 69 ∧ 6 ≤ i ∧ i ≤ 15) (fun _ _ => False) h h'
def FBm (h h' : Hp) : Prop := Fr (fun a i => a = 107 ∧ 4 ≤ i ∧ i ≤ 11 ∧ i ≠ 6) (fun _ _ => False) h h'
def FGm (h h' : Hp) : Prop := Fr (fun a i => a = 107 ∧ 7 ≤ i ∧ i ≤ 11) (fun _ _ => False) h h'
theorem FNc.B {h h' : Hp} (f : FNc h h') : FBc h h' := f.mono (fun a i q => by omega) (fun _ _ q => q)
theorem FGm.B {h h' : Hp} (f : FGm h h') : FBm h h' := f.mono (fun a i q => by omega) (fun _ _ q => q)
theorem FNm.G {h h' : Hp} (f : FNm h h') : FGm h h' := f.mono (fun a i q => by omega) (fun _ _ q => q)
theorem FGm.X {h h' : Hp} {T : Tx} (f : FGm h h') : Fr (mfr T) (fun _ _ => False) h h' := f.mono (fun a i q => by unfold mfr; omega) (fun _ _ q => q)
/-- both have found the same fault -/
def Bad (hc hm : Hp) : Prop := ∃ e, 1 ≤ e ∧ e ≤ 5 ∧ hI hc 69 14 = nI e ∧ hI hm 107 4 = nI e ∧ hI hc 69 15 = hI hm 107 5
theorem kM_lt (k v : Nat) : kM k v < 7 := by unfold kM; repeat' split <;> try decide
theorem kM_2 {k v : Nat} (h : k ≠ 2) : kM k v ≠ 2 := by
  unfold kM; repeat' split
  all_goals first | decide | omega
theorem kM_3 {k v : Nat} (h : k ≠ 4) : kM k v ≠ 3 := by
  unfold kM; repeat' split
  all_goals first | decide | omega
theorem kM_1 {k v : Nat} (h : k ≠ 3) (h8 : k ≠ 8) (h9 : k ≤ 8) : kM k v ≠ 1 := by
  unfold kM; repeat' split
  all_goals first | decide | omega
theorem x_passT {h : Hp} {w : Nat} (h14 : hI h 69 14 = nI 0) (h7 : hI h 69 7 = nI w) : fX5_pass h (nI w) = fX5_next h := by
  unfold fX5_pass fX5_pass_17
  simp only [h7, ↓reduceIte, lit, h14]
  cases fX5_next h <;> rfl
theorem x_passF {h : Hp} {w k : Nat} (h14 : hI h 69 14 = nI 0) (h7 : hI h 69 7 = nI k) (hk : k ≠ w) (hk2 : k < 100) (hw : w < 100) : fX5_pass h (nI w) = some (uI (uI h 69 14 (nI 1)) 69 15 (hI h 69 8)) := by
  unfold fX5_pass fX5_pass_17 fX5_fail
  simp (disch := omega) only [h7, ↓reduceIte, lit, h14, eqF, bind_some', hI_ne, hI_at]
theorem x_failI {h : Hp} {e : Nat} (h14 : hI h 69 14 = nI e) (he : 1 ≤ e) (he2 : e ≤ 5) (x y : Int32) : fX5_fail h x y = some h := by
  unfold fX5_fail
  simp (disch := omega) only [↓reduceIte, lit, h14, eqF]
theorem x_passI {h : Hp} {e : Nat} (h14 : hI h 69 14 = nI e) (he : 1 ≤ e) (he2 : e ≤ 5) (x : Int32) : fX5_pass h x = some h := by
  have p17 : fX5_pass_17 h = some h := by
    unfold fX5_pass_17
    simp (disch := omega) only [↓reduceIte, lit, h14, eqF]
  unfold fX5_pass
  rw [x_failI h14 he he2]
  split
  · exact p17
  · exact p17
theorem x_pwI {h : Hp} {e : Nat} (h14 : hI h 69 14 = nI e) (he : 1 ≤ e) (he2 : e ≤ 5) (x y : Int32) : fX5_passWord h x y = some h := by
  unfold fX5_passWord fX5_passWord_13
  rw [x_failI h14 he he2]
  simp only [bind_some', x_passI h14 he he2, lit]
  split <;> rfl
theorem x_numI {h : Hp} {e : Nat} (h14 : hI h 69 14 = nI e) (he : 1 ≤ e) (he2 : e ≤ 5) (x y : Int32) : fX5_numberWithin h x y = some (hI h 69 12, h) := by
  unfold fX5_numberWithin fX5_numberWithin_23 fX5_numberWithin_32
  rw [x_failI h14 he he2]
  simp only [bind_some', x_passI h14 he he2, lit]
  split
  · split
    · rfl
    · split <;> rfl
  · rfl
theorem x_find1 {h : Hp} {A R n : Nat} (hn : n ≤ 8) (r0 : rf A 0 = R) (hs : hI h A 2 = nI n) (x : Int32) : ∀ (d k fu : Nat), k + d = n → d < fu → ∃ y, fX6_find_2 fu A h x (nI k) = some (y, h) ∧ (y = -nI 1 ∨ ∃ i, i < n ∧ y = nI i)
  | 0, k, fu + 1, hk, _ => by
    refine ⟨-nI 1, ?_, Or.inl rfl⟩
    rw [fX6_find_2]; simp (disch := omega) only [lit, hs, ↓reduceIte, leT]
  | d + 1, k, fu + 1, hk, hf => by
    rw [fX6_find_2]
    by_cases q : hI h R k = x
    · refine ⟨nI k, ?_, Or.inr ⟨k, by omega, rfl⟩⟩
      simp (disch := omega) only [lit, hs, ↓reduceIte, leF, inbN, nI_clamp, r0, q]
    · obtain ⟨y, a1, a2⟩ := x_find1 hn r0 hs x d (k + 1) fu (by omega) (by omega)
      refine ⟨y, ?_, a2⟩
      simp (disch := omega) only [lit, hs, ↓reduceIte, leF, inbN, nI_clamp, r0, q, nI_add]
      exact a1
theorem x_findA {h : Hp} {A R n : Nat} (hn : n ≤ 8) (r0 : rf A 0 = R) (hs : hI h A 2 = nI n) (x : Int32) : ∃ y, fX6_find A h x = some (y, h) ∧ (y = -nI 1 ∨ ∃ i, i < n ∧ y = nI i) := x_find1 hn r0 hs x n 0 FU (by omega) (by unfold FU; omega)
theorem s_find2 {hc hm : Hp} {A R B n nB o : Nat} (hn : n ≤ 8) (hB : o + n ≤ nB) (hB2 : nB < 2 ^ 30) (r0 : rf A 0 = R) (hs : hI hc A 2 = nI n) (he : ∀ i, i < n → hI hc R i = hI hm B (o + i)) (x : Int32) : ∀ (d k fu fu' : Nat), k + d = n → d < fu → d < fu' → (∃ i, i < n ∧ fX6_find_2 fu A hc x (nI k) = some (nI i, hc) ∧ fX10_find_3 fu' B nB hm (nI o) (nI n) x (nI k) = some (nI i, hm)) ∨ (fX6_find_2 fu A hc x (nI k) = some (-nI 1, hc) ∧ fX10_find_3 fu' B nB hm (nI o) (nI n) x (nI k) = some (-nI 1, hm))
  | 0, k, fu + 1, fu' + 1, hk, _, _ => by
    right
    constructor
    · rw [fX6_find_2]; simp (disch := omega) only [lit, hs, ↓reduceIte, leT]
    · rw [fX10_find_3]; simp (disch := omega) only [lit, ↓reduceIte, leT]
  | d + 1, k, fu + 1, fu' + 1, hk, h1, h2 => by
    have e := he k (by omega)
    rw [fX6_find_2, fX10_find_3]
    by_cases q : hI hc R k = x
    · left
      refine ⟨k, by omega, ?_, ?_⟩
      · simp (disch := omega) only [lit, hs, ↓reduceIte, leF, inbN, nI_clamp, r0, q]
      · simp (disch := omega) only [lit, ↓reduceIte, leF, nI_add, inbN, nI_clamp, ← e, q]
    · have ih := s_find2 hn hB hB2 r0 hs he x d (k + 1) fu fu' (by omega) (by omega) (by omega)
      simp (disch := omega) only [lit, hs, ↓reduceIte, leF, inbN, nI_clamp, r0, q, nI_add, ← e]
      exact ih
/-- a roll of names, in step -/
def RO (hc hm : Hp) (A R B nB o n : Nat) : Prop := n ≤ 8 ∧ o + n ≤ nB ∧ nB < 100 ∧ rf A 0 = R ∧ hI hc A 2 = nI n ∧ ∀ i, i < n → hI hc R i = hI hm B (o + i)
theorem s_findR {hc hm : Hp} {A R B n nB o : Nat} (r : RO hc hm A R B nB o n) (x : Int32) : (∃ i, i < n ∧ fX6_find A hc x = some (nI i, hc) ∧ fX10_find B nB hm (nI o) (nI n) x = some (nI i, hm)) ∨ (fX6_find A hc x = some (-nI 1, hc) ∧ fX10_find B nB hm (nI o) (nI n) x = some (-nI 1, hm)) := by
  obtain ⟨r1, r2, r3, r4, r5, r6⟩ := r
  exact s_find2 r1 r2 (by omega) r4 r5 r6 x n 0 FU FU (by omega) (by unfold FU; omega) (by unfold FU; omega)
section V
variable {hc hm : Hp} {X : Nat} {T : Tx} {b : Nat → Nat} {n k v s p : Nat}
/-- a step went well: a new token is at hand -/
def Adv (hc' hm' : Hp) (X : Nat) (T : Tx) (b : Nat → Nat) (n s p : Nat) : Prop := ∃ k' v' s' p', TK hc' hm' n k' v' s' p' ∧ RD hc' hm' X T b n ∧ hI hc' 69 9 = nI s ∧ p ≤ s'
theorem s_adv (R : RD hc hm X T b n) (K : TK hc hm n k v s p) : ∃ hc' hm', fX5_next hc = some hc' ∧ fX10_token hm = some hm' ∧ FNc hc hc' ∧ FNm hm hm' ∧ Adv hc' hm' X T b n s p := by
  obtain ⟨hc', hm', k', v', s', p', a1, a2, a3, a4, a5, a6, a7⟩ := s_next R.1.2.2.1 K.1.2.2.1 K.2.1.2.2.1 K.2.2.2.2.1
  exact ⟨hc', hm', a1, a2, a3, a4, k', v', s', p', a5, RD_fr R a3 a4.G.X, a6.trans K.1.2.1, a7⟩
theorem TK_m {hm' : Hp} (K : TK hc hm n k v s p) (e : ∀ i, 7 ≤ i → i ≤ 10 → hI hm' 107 i = hI hm 107 i) : TK hc hm' n k v s p := by
  obtain ⟨k1, ⟨m1, m2, m3, m4⟩, k3⟩ := K
  exact ⟨k1, ⟨by rw [e 8 (by omega) (by omega)]; exact m1, by rw [e 10 (by omega) (by omega)]; exact m2, by rw [e 7 (by omega) (by omega)]; exact m3, by rw [e 9 (by omega) (by omega)]; exact m4⟩, k3⟩
theorem m_wrong (h : Hp) (x : Int32) : fX10_wrong h x = some (nI 0, uI (uI h 107 4 x) 107 5 (hI h 107 10)) := by
  unfold fX10_wrong
  simp (disch := omega) only [hI_ne, lit]
/-- both fail here -/
theorem bad_here (h14 : hI hc 69 14 = nI 0) (h8 : hI hc 69 8 = nI s) (h10 : hI hm 107 10 = nI s) {e : Nat} (h1 : 1 ≤ e) (h5 : e ≤ 5) : Bad (uI (uI hc 69 14 (nI e)) 69 15 (nI s)) (uI (uI hm 107 4 (nI e)) 107 5 (nI s)) ∧ FBc hc (uI (uI hc 69 14 (nI e)) 69 15 (nI s)) ∧ FBm hm (uI (uI hm 107 4 (nI e)) 107 5 (nI s)) :=
  ⟨⟨e, h1, h5, by rw [hI_ne (by omega), hI_at ⟨rfl, rfl⟩], by rw [hI_ne (by omega), hI_at ⟨rfl, rfl⟩], by rw [hI_at ⟨rfl, rfl⟩, hI_at ⟨rfl, rfl⟩]⟩, (Fr.rf.uI (by omega)).uI (by omega), (Fr.rf.uI (by omega)).uI (by omega)⟩
theorem s_num {lo hi : Nat} (R : RD hc hm X T b n) (K : TK hc hm n k v s p) (hlh : lo ≤ hi) (hh : hi < 1000000) : ∃ x hc' y hm', fX5_numberWithin hc (nI lo) (nI hi) = some (x, hc') ∧ fX10_number hm (nI lo) (nI hi) = some (y, hm') ∧ ((y = nI 1 ∧ (∃ w, lo ≤ w ∧ w ≤ hi ∧ x = nI w ∧ hI hm' 107 11 = nI w) ∧ FNc hc hc' ∧ FGm hm hm' ∧ Adv hc' hm' X T b n s p) ∨ (y = nI 0 ∧ Bad hc' hm' ∧ FBc hc hc' ∧ FBm hm hm')) := by
  obtain ⟨⟨c7, c8, c6, c2, c3, c4, c5⟩, ⟨m8, m10, m7, m9⟩, wk, -, -⟩ := id K
  have h14 := R.1.2.2.2
  have kl := kM_lt k v
  obtain ⟨k8, -, -, wv, -⟩ := wk
  unfold fX5_numberWithin fX10_number
  by_cases q : k = 4
  · subst q
    have m9 := m9 (Or.inl (by decide))
    have c4 := c4 rfl
    have wv := wv rfl
    have m8 : hI hm 107 8 = nI 3 := m8
    have m9 : hI hm 107 9 = nI v := m9
    by_cases z : lo ≤ v ∧ v ≤ hi
    · have K1 : TK hc (uI hm 107 11 (nI v)) n 4 v s p := TK_m K (fun i h1 h2 => hI_ne (by omega))
      have R1 : RD hc (uI hm 107 11 (nI v)) X T b n := RD_fr R Fr.rf (Fr.rf.uI (by unfold mfr; omega))
      obtain ⟨hc', hm', a1, a2, a3, a4, a5⟩ := s_adv R1 K1
      refine ⟨nI v, hc', nI 1, hm', ?_, ?_, Or.inl ⟨rfl, ⟨v, z.1, z.2, rfl, ?_⟩, a3, ?_, a5⟩⟩
      · simp (disch := omega) only [lit, c7, c4, ↓reduceIte, ltF, leT, fX5_numberWithin_32, x_passT h14 c7, a1, bind_some']
      · simp (disch := omega) only [lit, m8, m9, ↓reduceIte, fX10_isIn, ltF, bnd_some, eqF, a2, bind_some']
      · rw [a4.1 _ _ (by omega), hI_at ⟨rfl, rfl⟩]
      · exact Fr.tr (Fr.rf.uI (by omega)) a4.G
    · obtain ⟨b1, b2, b3⟩ := bad_here h14 c8 m10 (e := 2) (by decide) (by decide)
      refine ⟨nI v, _, nI 0, _, ?_, ?_, Or.inr ⟨rfl, b1, b2, b3⟩⟩
      · have i14 : hI (uI (uI hc 69 14 (nI 2)) 69 15 (nI s)) 69 14 = nI 2 := by rw [hI_ne (by omega), hI_at ⟨rfl, rfl⟩]
        have e23 : fX5_numberWithin_23 hc (nI v) = some (nI v, uI (uI hc 69 14 (nI 2)) 69 15 (nI s)) := by
          unfold fX5_numberWithin_23 fX5_fail fX5_numberWithin_32
          simp only [lit, h14, c8, ↓reduceIte, bind_some', x_passI i14 (by decide) (by decide)]
        by_cases z1 : v < lo
        · simp (disch := omega) only [lit, c7, c4, ↓reduceIte, ltT]; exact e23
        · simp (disch := omega) only [lit, c7, c4, ↓reduceIte, ltF, leF]; exact e23
      · by_cases z1 : v < lo
        · simp (disch := omega) only [lit, m8, m9, ↓reduceIte, fX10_isIn, ltT, bnd_some, m_wrong, m10, isZ0]
        · simp (disch := omega) only [lit, m8, m9, ↓reduceIte, fX10_isIn, ltF, ltT, bnd_some, m_wrong, m10, isZ0]
  · obtain ⟨b1, b2, b3⟩ := bad_here h14 c8 m10 (e := 1) (by decide) (by decide)
    have := kM_3 (v := v) q
    refine ⟨hI hc 69 12, _, nI 0, _, ?_, ?_, Or.inr ⟨rfl, b1, b2, b3⟩⟩
    · simp (disch := omega) only [lit, c7, ↓reduceIte, eqF, fX5_numberWithin_32, x_passF h14 c7 q (by omega) (by decide), bind_some', c8]
    · simp (disch := omega) only [lit, m8, ↓reduceIte, eqF, bnd_some, m_wrong, m10, isZ0]
theorem s_told {A Rr B nB o N : Nat} (R : RD hc hm X T b n) (K : TK hc hm n k v s p) (ro : RO hc hm A Rr B nB o N) : ∃ x hc' y hm', fX5_toldName A hc = some (x, hc') ∧ fX10_thereIn B nB hm (nI o) (nI N) = some (y, hm') ∧ ((y = nI 1 ∧ (∃ w, w < N ∧ x = nI w ∧ hI hm' 107 11 = nI w) ∧ FNc hc hc' ∧ FGm hm hm' ∧ Adv hc' hm' X T b n s p) ∨ (y = nI 0 ∧ (x = -nI 1 ∨ ∃ i, i < 8 ∧ x = nI i) ∧ Bad hc' hm' ∧ FBc hc hc' ∧ FBm hm hm')) := by
  obtain ⟨⟨c7, c8, c6, c2, c3, c4, c5⟩, ⟨m8, m10, m7, m9⟩, wk, -, -⟩ := id K
  have h14 := R.1.2.2.2
  have kl := kM_lt k v
  obtain ⟨k8, wv, -⟩ := wk
  have N8 := ro.1
  unfold fX5_toldName fX10_thereIn
  by_cases q : k = 2
  · subst q
    have m9 := m9 (Or.inl (by decide))
    have c2 := c2 rfl
    have m8 : hI hm 107 8 = nI 2 := m8
    have m9 : hI hm 107 9 = nI v := m9
    rcases s_findR ro (nI v) with ⟨i, i1, f1, f2⟩ | ⟨f1, f2⟩
    · obtain ⟨hc', hm', a1, a2, a3, a4, k', v', s', p', a5, a6, a7, a8⟩ := s_adv R K
      refine ⟨nI i, hc', nI 1, uI hm' 107 11 (nI i), ?_, ?_, Or.inl ⟨rfl, ⟨i, i1, rfl, hI_at ⟨rfl, rfl⟩⟩, a3, (a4.G).uI (by omega), k', v', s', p', TK_m a5 (fun i h1 h2 => hI_ne (by omega)), RD_fr a6 Fr.rf (Fr.rf.uI (by unfold mfr; omega)), a7, a8⟩⟩
      · simp (disch := omega) only [lit, c2, f1, bnd_some, c7, ↓reduceIte, ne_m1, fX5_toldName_31, x_passT h14 c7, a1, bind_some']
      · simp (disch := omega) only [lit, m8, m9, ↓reduceIte, f2, bnd_some, leT, a2, bind_some']
    · obtain ⟨b1, b2, b3⟩ := bad_here h14 c8 m10 (e := 4) (by decide) (by decide)
      have i14 : hI (uI (uI hc 69 14 (nI 4)) 69 15 (nI s)) 69 14 = nI 4 := by rw [hI_ne (by omega), hI_at ⟨rfl, rfl⟩]
      refine ⟨-nI 1, _, nI 0, _, ?_, ?_, Or.inr ⟨rfl, Or.inl rfl, b1, b2, b3⟩⟩
      · simp only [lit, c2, f1, bnd_some, c7, ↓reduceIte, fX5_fail, h14, c8, bind_some', fX5_toldName_31, x_passI i14 (by decide) (by decide)]
      · have : (nI 0 ≤ -nI 1) = False := eq_false (by decide)
        simp only [lit, m8, m9, ↓reduceIte, f2, bnd_some, this, m_wrong, m10, isZ0]
  · obtain ⟨b1, b2, b3⟩ := bad_here h14 c8 m10 (e := 1) (by decide) (by decide)
    have := kM_2 (v := v) q
    obtain ⟨r1, r2, r3, r4, r5, r6⟩ := ro
    obtain ⟨x, x1, x2⟩ := x_findA r1 r4 r5 (hI hc 69 10)
    refine ⟨x, _, nI 0, _, ?_, ?_, Or.inr ⟨rfl, ?_, b1, b2, b3⟩⟩
    · simp (disch := omega) only [lit, x1, bnd_some, c7, ↓reduceIte, eqF, fX5_toldName_31, x_passF h14 c7 q (by omega) (by decide), bind_some', c8]
    · simp (disch := omega) only [lit, m8, ↓reduceIte, eqF, bnd_some, m_wrong, m10, isZ0]
    · rcases x2 with x2 | ⟨i, i1, i2⟩
      · exact Or.inl x2
      · exact Or.inr ⟨i, by omega, i2⟩
theorem s_fresh {A Rr B nB o N : Nat} (R : RD hc hm X T b n) (K : TK hc hm n k v s p) (ro : RO hc hm A Rr B nB o N) (hB : o + N < nB) (hm0 : mfr T B (o + N)) (hB7 : B ≠ 107) : ∃ x hc' y hm', fX5_freshName A hc = some (x, hc') ∧ fX10_newName B nB hm (nI o) (nI N) = some (y, hm') ∧ ((y = nI 1 ∧ (∃ w, w < 2 ^ 30 ∧ x = nI w ∧ hI hm' B (o + N) = nI w) ∧ FNc hc hc' ∧ Fr (fun a i => (a = 107 ∧ 7 ≤ i ∧ i ≤ 11) ∨ (a = B ∧ i = o + N)) (fun _ _ => False) hm hm' ∧ Adv hc' hm' X T b n s p) ∨ (y = nI 0 ∧ Bad hc' hm' ∧ FBc hc hc' ∧ FBm hm hm')) := by
  obtain ⟨⟨c7, c8, c6, c2, c3, c4, c5⟩, ⟨m8, m10, m7, m9⟩, wk, -, -⟩ := id K
  have h14 := R.1.2.2.2
  have kl := kM_lt k v
  obtain ⟨k8, wv, -⟩ := wk
  have N8 := ro.1
  have nB1 := ro.2.2.1
  unfold fX5_freshName fX10_newName
  by_cases q : k = 2
  · subst q
    have m9 := m9 (Or.inl (by decide))
    have c2 := c2 rfl
    have m8 : hI hm 107 8 = nI 2 := m8
    have m9 : hI hm 107 9 = nI v := m9
    rcases s_findR ro (nI v) with ⟨i, i1, f1, f2⟩ | ⟨f1, f2⟩
    · obtain ⟨b1, b2, b3⟩ := bad_here h14 c8 m10 (e := 3) (by decide) (by decide)
      have i14 : hI (uI (uI hc 69 14 (nI 3)) 69 15 (nI s)) 69 14 = nI 3 := by rw [hI_ne (by omega), hI_at ⟨rfl, rfl⟩]
      refine ⟨nI v, _, nI 0, _, ?_, ?_, Or.inr ⟨rfl, b1, b2, b3⟩⟩
      · simp (disch := omega) only [lit, c2, f1, bnd_some, c7, ↓reduceIte, ne_m1, fX5_fail, h14, c8, bind_some', fX5_freshName_31, x_passI i14 (by decide) (by decide)]
      · simp (disch := omega) only [lit, m8, m9, ↓reduceIte, f2, bnd_some, ltF, m_wrong, m10, isZ0]
    · have K1 : TK hc (uI hm B (o + N) (nI v)) n 2 v s p := TK_m K (fun i h1 h2 => hI_ne (by omega))
      have R1 : RD hc (uI hm B (o + N) (nI v)) X T b n := RD_fr R Fr.rf (Fr.rf.uI hm0)
      obtain ⟨hc', hm', a1, a2, a3, a4, a5⟩ := s_adv R1 K1
      refine ⟨nI v, hc', nI 1, hm', ?_, ?_, Or.inl ⟨rfl, ⟨v, wv rfl, rfl, ?_⟩, a3, ?_, a5⟩⟩
      · simp only [lit, c7, c2, ↓reduceIte, f1, bnd_some, fX5_freshName_31, x_passT h14 c7, a1, bind_some']
      · have : (-nI 1 < nI 0) = True := eq_true (by decide)
        simp (disch := omega) only [lit, m8, m9, ↓reduceIte, f2, bnd_some, this, nI_add, inbN, nI_clamp, a2, bind_some']
      · rw [a4.1 _ _ (by omega), hI_at ⟨rfl, rfl⟩]
      · exact Fr.tr (Fr.rf.uI (by omega)) (a4.mono (fun a i q => by omega) (fun _ _ q => q))
  · obtain ⟨b1, b2, b3⟩ := bad_here h14 c8 m10 (e := 1) (by decide) (by decide)
    have := kM_2 (v := v) q
    refine ⟨hI hc 69 10, _, nI 0, _, ?_, ?_, Or.inr ⟨rfl, b1, b2, b3⟩⟩
    · simp (disch := omega) only [lit, c7, ↓reduceIte, eqF, fX5_freshName_31, x_passF h14 c7 q (by omega) (by decide), bind_some', c8]
    · simp (disch := omega) only [lit, m8, ↓reduceIte, eqF, bnd_some, m_wrong, m10, isZ0]
/-- the class goes on idly -/
theorem x_toldI {h : Hp} {e A Rr N : Nat} (h14 : hI h 69 14 = nI e) (he : 1 ≤ e) (he2 : e ≤ 5) (hn : N ≤ 8) (r0 : rf A 0 = Rr) (hs : hI h A 2 = nI N) : ∃ x, fX5_toldName A h = some (x, h) ∧ (x = -nI 1 ∨ ∃ i, i < 8 ∧ x = nI i) := by
  obtain ⟨x, x1, x2⟩ := x_findA hn r0 hs (hI h 69 10)
  refine ⟨x, ?_, ?_⟩
  · unfold fX5_toldName fX5_toldName_31
    simp only [x1, bnd_some, x_failI h14 he he2, x_passI h14 he he2, bind_some']
    split
    · split <;> rfl
    · rfl
  · rcases x2 with x2 | ⟨i, i1, i2⟩
    · exact Or.inl x2
    · exact Or.inr ⟨i, by omega, i2⟩
theorem x_freshI {h : Hp} {e A Rr N : Nat} (h14 : hI h 69 14 = nI e) (he : 1 ≤ e) (he2 : e ≤ 5) (hn : N ≤ 8) (r0 : rf A 0 = Rr) (hs : hI h A 2 = nI N) : ∃ x, fX5_freshName A h = some (x, h) := by
  obtain ⟨x, x1, x2⟩ := x_findA hn r0 hs (hI h 69 10)
  refine ⟨hI h 69 10, ?_⟩
  unfold fX5_freshName fX5_freshName_31
  simp only [x1, bnd_some, x_failI h14 he he2, x_passI h14 he he2, bind_some']
  split
  · split <;> rfl
  · rfl
end V
