/-! text: the laws' sums, steps of both sides. -/
theorem dpt_ext {p q : Nat → Nat} : ∀ {j : Nat}, (∀ i, i < j → q i = p i) → dpt q j = dpt p j
  | 0, _ => rfl
  | j + 1, h => by rw [dpt, dpt, h j (by omega), dpt_ext (fun i hi => h i (by omega))]
theorem stk_ext {p q : Nat → Nat} {f : Nat} : ∀ {j : Nat}, (∀ i, i < j → q i = p i) → stk q f j = stk p f j
  | 0, _ => rfl
  | j + 1, h => by rw [stk, stk, h j (by omega), stk_ext (fun i hi => h i (by omega))]
theorem PfK_ext {p q : Nat → Nat} {j : Nat} (h : ∀ i, i ≤ j → q i = p i) (s : PfK p j) : PfK q j := by
  unfold PfK at s ⊢
  rw [h j (Nat.le_refl _), dpt_ext (fun i hi => h i (by omega))]; exact s
theorem MLk_ex {h : Hp} {p q : Nat → Nat} {f m : Nat} (e : ∀ i, i < m → q i = p i) (s : MLk h f p m) : MLk h f q m := by
  intro j hj
  rw [e j hj, stk_ext (fun i hi => e i (by omega))]; exact s j hj
theorem XM_ex {h : Hp} {p q : Nat → Nat} {f m c op : Nat} {Q : List Nat} (e : ∀ i, i < m → q i = p i) (s : XM h f p m Q c op) : XM h f q m Q c op := by
  obtain ⟨m1, m2, m3, m4⟩ := s
  refine ⟨m1, MLk_ex e m2, ?_, m4⟩
  rw [stk_ext e]; exact m3
theorem XM_fr {h h' : Hp} {p : Nat → Nat} {f m c op : Nat} {Q : List Nat} (s : XM h f p m Q c op) (e : ∀ a i, (a = 107 ∧ (i = 25 ∨ (51 ≤ i ∧ i ≤ 54))) ∨ (130 ≤ a ∧ a ≤ 134) → hI h' a i = hI h a i) : XM h' f p m Q c op := by
  obtain ⟨m1, m2, ⟨m3, m4⟩, ⟨m5, m6⟩, m7, m8⟩ := s
  refine ⟨by rw [e _ _ (by omega)]; exact m1, MLk_ext m2 (fun a i h1 h2 => ?_), ⟨by rw [e _ _ (by omega)]; exact m3, Skk_fr m4 (fun i _ => e _ _ (by omega))⟩, ⟨by rw [e _ _ (by omega)]; exact m5, Skk_fr m6 (fun i _ => e _ _ (by omega))⟩, by rw [e _ _ (by omega)]; exact m7, by rw [e _ _ (by omega)]; exact m8⟩
  rw [hup_I, hup_I, if_neg (by omega), if_neg (by omega)]
  exact e _ _ (by omega)
theorem XC_fr {h h' : Hp} {X w m c : Nat} {p : Nat → Nat} (x0 : isS X) (s : XC h X w p m c) (hw : w < 3) (e : ∀ a i, a < 69 → hI h' a i = hI h a i) (er : ∀ a i, hR h' a i = hR h a i) : XC h' X w p m c := by
  obtain ⟨m1, m2, m3, m4⟩ := s
  have x1 : X = 1 ∨ X = 35 := x0
  exact ⟨by rw [er]; exact m1, by rw [e _ _ (by omega)]; exact m2, fun j hj => by rw [e _ _ (by omega)]; exact m3 j hj, by rw [e _ _ (by omega)]; exact m4⟩
def pU (p : Nat → Nat) (m v : Nat) : Nat → Nat := fun j => if j = m then v else p j
theorem pU_lt {p : Nat → Nat} {m v j : Nat} (h : j < m) : pU p m v j = p j := if_neg (by omega)
theorem pU_at {p : Nat → Nat} {m v : Nat} : pU p m v m = v := if_pos rfl
theorem XC_add {h : Hp} {X w m c v : Nat} {p : Nat → Nat} (x0 : isS X) (hw : w < 3) (s : XC h X w p m c) : XC (uI (uI h (X + 26 + 3 * w) m (nI v)) (X + 25 + 3 * w) 1 (nI (m + 1))) X w (pU p m v) (m + 1) c := by
  obtain ⟨m1, m2, m3, m4⟩ := s
  refine ⟨m1, hI_at ⟨rfl, rfl⟩, fun j hj => ?_, by rw [hI_ne (by omega), hI_ne (by omega)]; exact m4⟩
  by_cases q : j = m
  · subst q; rw [hI_ne (by omega), hI_at ⟨rfl, rfl⟩, pU_at]
  · rw [hI_ne (by omega), hI_ne (by omega), pU_lt (by omega)]; exact m3 j (by omega)
def FLc (X w : Nat) (h h' : Hp) : Prop := Fr (fun a i => (a = 69 ∧ 6 ≤ i ∧ i ≤ 15) ∨ (a = X ∧ i = 18) ∨ (a = X + 25 + 3 * w ∧ i = 1) ∨ a = X + 26 + 3 * w) (fun _ _ => False) h h'
def FLm (f : Nat) (h h' : Hp) : Prop := Fr (fun a i => (a = 107 ∧ ((4 ≤ i ∧ i ≤ 11 ∧ i ≠ 6) ∨ i = 25 ∨ (51 ≤ i ∧ i ≤ 56))) ∨ (130 ≤ a ∧ a ≤ 132 ∧ 64 + f ≤ i) ∨ a = 133 ∨ a = 134) (fun _ _ => False) h h'
theorem FEm.L {f : Nat} {h h' : Hp} (s : FEm f h h') : FLm f h h' := s.mono (fun a i q => by omega) (fun _ _ q => q)
theorem FNm.L {f : Nat} {h h' : Hp} (s : FNm h h') : FLm f h h' := s.mono (fun a i q => by omega) (fun _ _ q => q)
theorem FBm.L {f : Nat} {h h' : Hp} (s : FBm h h') : FLm f h h' := s.mono (fun a i q => by omega) (fun _ _ q => q)
theorem FNc.L {X w : Nat} {h h' : Hp} (s : FNc h h') : FLc X w h h' := s.mono (fun a i q => by omega) (fun _ _ q => q)
theorem FBc.L {X w : Nat} {h h' : Hp} (s : FBc h h') : FLc X w h h' := s.mono (fun a i q => by omega) (fun _ _ q => q)
theorem x_addT {h : Hp} {X w m : Nat} {x : Int32} (x0 : isS X) (hw : w < 3) (h1 : hI h (X + 25 + 3 * w) 1 = nI m) (hm : m < 64) : fX1_add (X + 25 + 3 * w) h x = some (uI (uI h (X + 26 + 3 * w) m x) (X + 25 + 3 * w) 1 (nI (m + 1))) := by
  have e : hI (uI h (X + 26 + 3 * w) m x) (X + 25 + 3 * w) 1 = nI m := (hI_ne (by omega)).trans h1
  unfold fX1_add
  simp (disch := omega) only [lit, h1, leF, ↓reduceIte, inbN, nI_clamp, rL2 x0 hw, e, nI_add]
theorem x_addA {h : Hp} {X w m : Nat} (x : Int32) (x0 : isS X) (hw : w < 3) (h1 : hI h (X + 25 + 3 * w) 1 = nI m) (hm : m ≤ 64) : ∃ h', fX1_add (X + 25 + 3 * w) h x = some h' ∧ FLc X w h h' ∧ (∀ i, hI h' 69 i = hI h 69 i) ∧ ∃ M, M ≤ 64 ∧ hI h' (X + 25 + 3 * w) 1 = nI M := by
  have x1 : X = 1 ∨ X = 35 := x0
  by_cases q : m < 64
  · exact ⟨_, x_addT x0 hw h1 q, (Fr.rf.uI (by omega)).uI (by omega), fun i => by rw [hI_ne (by omega), hI_ne (by omega)], m + 1, by omega, hI_at ⟨rfl, rfl⟩⟩
  · refine ⟨h, ?_, Fr.rf, fun _ => rfl, m, hm, h1⟩
    unfold fX1_add
    simp (disch := omega) only [lit, h1, leT, ↓reduceIte]
theorem x_knotT {h : Hp} {X c : Nat} (x0 : isS X) (hr : hR h 69 4 = some X) (h14 : hI h 69 14 = nI 0) (h18 : hI h X 18 = nI c) (hc : c < 64) : fX5_knot h = fX5_next (uI h X 18 (nI (c + 1))) := by
  have d := dref_of (q := (7, 20)) hr (sS x0)
  unfold fX5_knot fX5_knot_21
  simp (disch := omega) only [d, bind_some', lit, h18, ltT, ↓reduceIte, h14, nI_add]
  cases fX5_next (uI h X 18 (nI (c + 1))) <;> rfl
theorem x_knotF {h : Hp} {X s : Nat} (x0 : isS X) (hr : hR h 69 4 = some X) (h14 : hI h 69 14 = nI 0) (h8 : hI h 69 8 = nI s) (h18 : hI h X 18 = nI 64) : fX5_knot h = some (uI (uI h 69 14 (nI 2)) 69 15 (nI s)) := by
  have d := dref_of (q := (7, 20)) hr (sS x0)
  have i14 : hI (uI (uI h 69 14 (nI 2)) 69 15 (nI s)) 69 14 = nI 2 := by rw [hI_ne (by omega), hI_at ⟨rfl, rfl⟩]
  unfold fX5_knot fX5_knot_21
  simp (disch := omega) only [d, bind_some', lit, h18, ltF, ↓reduceIte, fX5_fail, h14, h8, i14, eqF]
theorem x_knotI {h : Hp} {X e c : Nat} (x0 : isS X) (hr : hR h 69 4 = some X) (h14 : hI h 69 14 = nI e) (h1 : 1 ≤ e) (h5 : e ≤ 5) (h18 : hI h X 18 = nI c) (hc : c ≤ 64) : fX5_knot h = some h := by
  have d := dref_of (q := (7, 20)) hr (sS x0)
  have p21 : fX5_knot_21 h = some h := by
    unfold fX5_knot_21
    simp (disch := omega) only [lit, h14, eqF, ↓reduceIte]
  unfold fX5_knot
  simp only [d, bind_some', x_failI h14 h1 h5, p21]
  split <;> rfl
theorem m_cntT {h : Hp} {c : Nat} (h1 : hI h 107 54 = nI c) (hc : c < 64) : fX10_isCounted h = some (nI 1, uI h 107 54 (nI (c + 1))) := by
  unfold fX10_isCounted
  simp (disch := omega) only [lit, h1, eqF, ↓reduceIte, nI_add]
theorem m_cntF {h : Hp} {s : Nat} (h1 : hI h 107 54 = nI 64) (h2 : hI h 107 10 = nI s) : fX10_isCounted h = some (nI 0, uI (uI h 107 4 (nI 2)) 107 5 (nI s)) := by
  unfold fX10_isCounted
  simp only [lit, h1, ↓reduceIte, m_wrong, bnd_some, isZ0, h2]
theorem m_wf {h : Hp} {l k : Nat} (h1 : hI h 107 51 = nI l) (hl : l < 96) : fX10_waitsFor h (nI k) = some (uI (uI h 133 l (nI k)) 107 51 (nI (l + 1))) := by
  have e : hI (uI h 133 l (nI k)) 107 51 = nI l := (hI_ne (by omega)).trans h1
  unfold fX10_waitsFor
  simp (disch := omega) only [lit, h1, inbN, nI_clamp, ↓reduceIte, e, nI_add]
theorem m_isS {h : Hp} {k v s p c : Nat} (K : TKm h k v s p) (wk : WK k v) (hc : c < 100) : fX10_isSign h (nI c) = some (nI (if kM k v = 4 ∧ wM k v = c then 1 else 0), h) := by
  obtain ⟨m8, m10, m7, m9⟩ := K
  obtain ⟨k8, -, -, -, k5, -⟩ := wk
  have kl := kM_lt k v
  unfold fX10_isSign
  by_cases q : kM k v = 4
  · have h9 : 2 ≤ k ∨ (k = 1 ∧ v = 37) := by
      unfold kM at q
      repeat' split at q
      all_goals omega
    have k15 : k = 1 ∨ 5 ≤ k := by
      unfold kM at q
      repeat' split at q
      all_goals omega
    have wl : wM k v < 100 := by
      unfold wM
      repeat' split
      all_goals omega
    rw [q] at m8
    by_cases z : wM k v = c
    · have e : (if kM k v = 4 ∧ wM k v = c then 1 else 0) = 1 := if_pos ⟨q, z⟩
      rw [e]
      simp only [lit, m8, m9 h9, z, ↓reduceIte]
    · have e : (if kM k v = 4 ∧ wM k v = c then 1 else 0) = 0 := if_neg (fun y => z y.2)
      rw [e]
      simp (disch := omega) only [lit, m8, m9 h9, eqF, ↓reduceIte]
  · have e : (if kM k v = 4 ∧ wM k v = c then 1 else 0) = 0 := if_neg (fun y => q y.1)
    rw [e]
    simp (disch := omega) only [lit, m8, eqF, ↓reduceIte]
theorem m_isK {h : Hp} {k v s p c : Nat} (K : TKm h k v s p) (wk : WK k v) (hc : c < 100) : fX10_isKey h (nI c) = some (nI (if kM k v = 1 ∧ wM k v = c then 1 else 0), h) := by
  obtain ⟨m8, m10, m7, m9⟩ := K
  obtain ⟨k8, -, k3, -, k5, -⟩ := wk
  have kl := kM_lt k v
  unfold fX10_isKey
  by_cases q : kM k v = 1
  · have h9 : k = 3 ∨ (k = 8 ∧ v < 2) := by
      unfold kM at q
      repeat' split at q
      all_goals omega
    have wl : wM k v < 100 := by
      unfold wM
      rcases h9 with rfl | ⟨rfl, h9⟩
      · have := (k3 rfl).1
        rw [if_neg (by decide), if_pos (by decide)]; omega
      · repeat' split
        all_goals omega
    rw [q] at m8
    by_cases z : wM k v = c
    · have e : (if kM k v = 1 ∧ wM k v = c then 1 else 0) = 1 := if_pos ⟨q, z⟩
      rw [e]
      simp only [lit, m8, m9 (Or.inl (by omega)), z, ↓reduceIte]
    · have e : (if kM k v = 1 ∧ wM k v = c then 1 else 0) = 0 := if_neg (fun y => z y.2)
      rw [e]
      simp (disch := omega) only [lit, m8, m9 (Or.inl (by omega)), eqF, ↓reduceIte]
  · have e : (if kM k v = 1 ∧ wM k v = c then 1 else 0) = 0 := if_neg (fun y => q y.1)
    rw [e]
    simp (disch := omega) only [lit, m8, eqF, ↓reduceIte]
/-- both go on to the next token, whatever was written besides -/
theorem j_adv {hc hm hc1 hm1 : Hp} {b : Nat → Nat} {n k v s q : Nat} (R : RTp hc hm b n) (K : TK hc hm n k v s q) (ec : ∀ a i, 69 ≤ a → a ≤ 71 → hI hc1 a i = hI hc a i) (em : ∀ i, 4 ≤ i → i ≤ 7 → hI hm1 107 i = hI hm 107 i) (em2 : ∀ a i, a = 108 ∨ a = 109 → hI hm1 a i = hI hm a i) : ∃ hc' hm' k' v' s' q', fX5_next hc1 = some hc' ∧ fX10_token hm1 = some hm' ∧ FNc hc1 hc' ∧ FNm hm1 hm' ∧ TK hc' hm' n k' v' s' q' ∧ RTp hc' hm' b n ∧ q ≤ s' := by
  have R1 : RTp hc1 hm1 b n := RTp_fr R (fun i hi => ec _ _ (by decide) (by decide)) (fun i => ec _ _ (by decide) (by decide)) (fun i => ec _ _ (by decide) (by decide)) (fun i hi => em i (by omega) (by omega)) (fun i => em2 _ _ (by decide)) (fun i => em2 _ _ (by decide))
  obtain ⟨hc', hm', k', v', s', q', a1, a2, a3, a4, a5, a6, a7⟩ := s_next R1 ((ec _ _ (by decide) (by decide)).trans K.1.2.2.1) ((em 7 (by decide) (by decide)).trans K.2.1.2.2.1) K.2.2.2.2.1
  exact ⟨hc', hm', k', v', s', q', a1, a2, a3, a4, a5, RTp_fr R1 (fun i hi => a3.1 _ _ (by omega)) (fun i => a3.1 _ _ (by omega)) (fun i => a3.1 _ _ (by omega)) (fun i hi => a4.1 _ _ (by omega)) (fun i => a4.1 _ _ (by omega)) (fun i => a4.1 _ _ (by omega)), a7⟩
/-- levels of the class's signs; the reference's number of a sign -/
def slN (g : Nat) : Nat := if g < 3 then g else if g < 9 then 3 else if g < 11 then 4 else 5
def kkN (g : Nat) : Nat := if g = 0 then 4 else if g = 1 then 3 else g + 2
theorem kk_f : ∀ g, g < 13 → g ≠ 2 → 3 ≤ kkN g ∧ kkN g ≤ 14 ∧ rkN (kkN g) = slN g + 1 ∧ cdN (kkN g) = 20000 + g ∧ slN g ≠ 2 ∧ slN g ≤ 5 := by decide +kernel
theorem slv_N : ∀ g, g < 13 → slv g = nI (slN g) := by decide +kernel
theorem x_isSo {h : Hp} {k v s p lv : Nat} (K : TKc h k v s p) (wk : WK k v) (hl : lv < 7) : fX5_isSignOf h (nI lv) = some (nI (if k = 8 ∧ slN v = lv then 1 else 0), h) := by
  obtain ⟨c7, -, -, -, -, -, c5⟩ := K
  obtain ⟨k8, -, -, -, k5, -⟩ := wk
  unfold fX5_isSignOf
  by_cases q : k = 8
  · subst q
    have k5 := k5 rfl
    have sl : slN v ≤ 5 := by
      unfold slN
      repeat' split
      all_goals omega
    by_cases z : slN v = lv
    · have e : (if 8 = 8 ∧ slN v = lv then 1 else 0) = 1 := if_pos ⟨rfl, z⟩
      rw [e]
      simp (disch := omega) only [lit, c7, ↓reduceIte, c5 rfl, ltF, leF, inbN, nI_clamp, slv_N, z]
    · have e : (if 8 = 8 ∧ slN v = lv then 1 else 0) = 0 := if_neg (fun y => z y.2)
      rw [e]
      simp (disch := omega) only [lit, c7, ↓reduceIte, c5 rfl, ltF, leF, inbN, nI_clamp, slv_N, eqF]
  · have e : (if k = 8 ∧ slN v = lv then 1 else 0) = 0 := if_neg (fun y => q y.1)
    rw [e]
    simp (disch := omega) only [lit, c7, eqF, ↓reduceIte]
/-- the first waiting sign that binds less than a sum's is a comparison -/
def ctp : List Nat → Prop
  | [] => False
  | k :: P => if 5 ≤ rkN k then ctp P else rkN k = 4
theorem ctp_app : ∀ {P Q : List Nat}, ctp P → ctp (P ++ Q)
  | [], _, h => absurd h (fun z => z)
  | k :: P, Q, h => by
    rw [List.cons_append, ctp]
    rw [ctp] at h
    by_cases q : 5 ≤ rkN k
    · rw [if_pos q] at h ⊢; exact ctp_app h
    · rw [if_neg q] at h ⊢; exact h
theorem ctp_snoc {k : Nat} (hk : rkN k = 4) : ∀ {P : List Nat}, (∀ x, x ∈ P → 5 ≤ rkN x) → ctp (P ++ [k])
  | [], _ => by rw [List.nil_append, ctp, if_neg (by omega)]; exact hk
  | x :: P, h => by
    rw [List.cons_append, ctp, if_pos (h x (List.mem_cons_self ..))]
    exact ctp_snoc hk (fun y hy => h y (List.mem_cons_of_mem _ hy))
theorem ctp_sp : ∀ {P : List Nat}, ctp P → ∃ A y B, P = A ++ y :: B ∧ (∀ x, x ∈ A → 5 ≤ rkN x) ∧ rkN y = 4
  | [], h => absurd h (fun z => z)
  | k :: P, h => by
    rw [ctp] at h
    by_cases q : 5 ≤ rkN k
    · rw [if_pos q] at h
      obtain ⟨A, y, B, e, h1, h2⟩ := ctp_sp h
      exact ⟨k :: A, y, B, by rw [e]; rfl, fun x hx => by
        rcases List.mem_cons.mp hx with rfl | hx
        · exact q
        · exact h1 x hx, h2⟩
    · rw [if_neg q] at h
      exact ⟨[], k, P, rfl, fun x hx => absurd hx (by simp), h⟩
theorem PCd_pre {p : Nat → Nat} : ∀ {A B : List Nat} {m : Nat}, PCd p m (A ++ B) → PCd p m A
  | [], _, _, _ => trivial
  | x :: A, B, m, s => ⟨s.1, s.2.1, s.2.2.1, PCd_pre s.2.2.2⟩
theorem PCd_lt {p : Nat → Nat} : ∀ {P : List Nat} {m : Nat}, PCd p m P → ∀ x, x ∈ P → x < 15
  | [], _, _, x, hx => absurd hx (by simp)
  | k :: P, m, s, x, hx => by
    rcases List.mem_cons.mp hx with rfl | hx
    · have := s.2.2.1; omega
    · exact PCd_lt s.2.2.2 x hx
