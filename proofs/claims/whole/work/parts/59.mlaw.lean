/-! The reference's laws, knot by knot. -/
theorem tlN_len (l : List Nat) : l.tail.length = l.length - 1 := by cases l <;> simp
theorem stk_len {p : Nat → Nat} {f : Nat} : ∀ {j : Nat}, (∀ i, i < j → PfK p i) → (stk p f j).length = dpt p j
  | 0, _ => rfl
  | j + 1, hp => by
    have ih := stk_len (f := f) (fun i hi => hp i (by omega) : ∀ i, i < j → PfK p i)
    have hk := hp j (by omega)
    unfold PfK at hk
    rw [stk, dpt]
    by_cases c1 : p j < 20000
    · rw [if_pos c1, if_pos c1, List.length_cons, ih]
    · rw [if_neg c1, if_neg c1]
      by_cases c3 : p j = 20002
      · rw [if_pos c3, if_pos c3, List.length_cons, tlN_len, ih]; omega
      · rw [if_neg c3, if_neg c3, List.length_cons, tlN_len, tlN_len, ih]; omega
theorem stk_lt {p : Nat → Nat} {f : Nat} : ∀ {j : Nat}, ∀ x ∈ stk p f j, x < f + j
  | 0 => by intro x hx; cases hx
  | j + 1 => by
    have ih := stk_lt (p := p) (f := f) (j := j)
    intro x hx
    rw [stk] at hx
    have ht : ∀ x ∈ (stk p f j).tail, x < f + j := fun x hx => ih x (List.mem_of_mem_tail hx)
    have ht2 : ∀ x ∈ (stk p f j).tail.tail, x < f + j := fun x hx => ht x (List.mem_of_mem_tail hx)
    split at hx
    · rcases List.mem_cons.mp hx with rfl | q
      · omega
      · have := ih x q; omega
    · split at hx
      · rcases List.mem_cons.mp hx with rfl | q
        · omega
        · have := ht x q; omega
      · rcases List.mem_cons.mp hx with rfl | q
        · omega
        · have := ht2 x q; omega
theorem hdD_lt {l : List Nat} {n : Nat} (h : ∀ x ∈ l, x < n) (hn : 0 < n) : l.headD 0 < n := by
  cases l with
  | nil => exact hn
  | cons a r => exact h a (by simp)
theorem stk_hd {p : Nat → Nat} {f j : Nat} : (stk p f (j + 1)).headD 0 = f + j := by
  rw [stk]; split
  · rfl
  · split <;> rfl
def MI (h : Hp) (l : List Int64) (is : List Nat) : Prop := ∀ t, t < l.length → hJ h 136 (is.getD t 0) = l.getD t 0
theorem MI_tail {h : Hp} {l : List Int64} {is : List Nat} (hl : is.length = l.length) (s : MI h l is) : MI h l.tail is.tail := by
  cases l with
  | nil => intro t ht; cases ht
  | cons a r =>
    cases is with
    | nil => simp at hl
    | cons b q => intro t ht; exact s (t + 1) (by simpa using ht)
theorem MI_head {h : Hp} {l : List Int64} {is : List Nat} (s : MI h l is) (hl : is.length = l.length) (h1 : 1 ≤ l.length) : hJ h 136 (is.headD 0) = l.headD 0 := by
  have := s 0 (by omega)
  cases l with
  | nil => simp at h1
  | cons a r =>
    cases is with
    | nil => simp at hl
    | cons b q => exact this
theorem MI_push {h : Hp} {l : List Int64} {is : List Nat} {k : Nat} {v : Int64} (s : MI h l is) (hl : is.length = l.length) (hk : ∀ x ∈ is, x < k) : MI (uJ h 136 k v) (v :: l) (k :: is) := by
  intro t ht
  cases t with
  | zero => exact hJ_at ⟨rfl, rfl⟩
  | succ t =>
    have ht : t < l.length := by simpa using ht
    have hx : is.getD t 0 < k := by
      rw [List.getD_eq_getElem?_getD, List.getElem?_eq_getElem (by omega)]
      exact hk _ (List.getElem_mem _)
    have e := s t ht
    show hJ (uJ h 136 k v) 136 (is.getD t 0) = l.getD t 0
    rw [hJ_ne (by omega), e]
theorem MI_Fr {h h' : Hp} {l : List Int64} {is : List Nat} (s : MI h l is) (hf : F59 h h') : MI h' l is := fun t ht => by rw [hf.2.1 _ _ (fun z => z)]; exact s t ht
theorem MLk_Fr {h h' : Hp} {f m : Nat} {p : Nat → Nat} {PJ : Nat → Nat → Prop} (s : MLk h f p m) (hf : Fr (fun a i => a = 107 ∧ i = 59) PJ h h') : MLk h' f p m := by
  intro j hj
  have e : ∀ x, 130 ≤ x → ∀ i, hI h' x i = hI h x i := fun x hx i => hf.1 x i (by omega)
  simp only [e 130 (by decide), e 131 (by decide), e 132 (by decide)]
  exact s j hj
theorem mkd_lt {c : Nat} (h : c < 10007 ∨ 20000 ≤ c ∧ c ≤ 20012) : mkd c < 15 := by unfold mkd; (repeat' split) <;> omega
def ML59 (h h' : Hp) : Prop := Fr (fun a i => a = 107 ∧ i = 59) (fun a _ => a = 136) h h'
theorem F59_ML {h h' : Hp} (s : F59 h h') : ML59 h h' := s.mono (fun _ _ q => q) (fun _ _ q => q.elim)
theorem ML_uJ {h h' : Hp} {k : Nat} {v : Int64} (s : ML59 h h') : ML59 h (uJ h' 136 k v) := Fr.uJ s rfl
theorem m_val1 {w f m : Nat} {p : Nat → Nat} {nm : Nat → Int64} (hw : w < 6) (hfm : f + m ≤ 64) (P : Pf p m) (hn : ∀ i, i < 7 → bd (nm i)) : ∀ (d j fu : Nat) (h : Hp), j + d = m → d < fu → hI h 129 w = nI (f + m) → MLk h f p m → (∀ i, i < 7 → hJ h 135 i = nm i) → ((hI h 107 59 = nI 0 ∧ ∃ l, evS p nm j = some l ∧ MI h l (stk p f j)) ∨ (hI h 107 59 = nI 1 ∧ evS p nm j = none)) → ∃ h', fX10_lawOf_12 fu h (nI w) (nI (f + j)) = some ((lawV p nm m).getD 0, h') ∧ hI h' 107 59 = nI (if (lawV p nm m).isSome then 0 else 1) ∧ ML59 h h'
  | 0, j, fu + 1, h, hj, _, hl, hM, hN, hc => by
    have ej : j = m := by omega
    subst ej
    refine ⟨h, ?_, ?_, Fr.rf⟩
    · rw [fX10_lawOf_12]
      have hP1 := P.2.1
      have hj1 : 1 ≤ j := by
        rcases j with _ | j
        · rw [dpt] at hP1; omega
        · omega
      rcases hc with ⟨h0, l, he, hs⟩ | ⟨h0, he⟩
      · simp (disch := omega) only [lit, inbN, ↓reduceIte, leT, leF, ltT, ltF, eqT, eqF, nI_clamp, hl, h0, pk_sub]
        have hlen := evS_len P.2.2 he
        have hil := stk_len (f := f) P.2.2
        have := MI_head hs (by omega) (by omega)
        obtain ⟨k, rfl⟩ : ∃ k, j = k + 1 := ⟨j - 1, by omega⟩
        rw [stk_hd] at this
        unfold lawV
        rw [he, show f + (k + 1) - 1 = f + k by omega, this]
        rfl
      · simp (disch := omega) only [lit, inbN, ↓reduceIte, leT, leF, ltT, ltF, eqT, eqF, nI_clamp, hl, h0]
        unfold lawV
        rw [he]
        rfl
    · unfold lawV
      rcases hc with ⟨h0, l, he, hs⟩ | ⟨h0, he⟩
      · rw [h0, he]; rfl
      · rw [h0, he]; rfl
  | d + 1, j, fu + 1, h, hj, hf, hl, hM, hN, hc => by
    have hpk := P.2.2 j (by omega)
    unfold PfK at hpk
    have hil := stk_len (f := f) (fun i hi => P.2.2 i (by omega) : ∀ i, i < j → PfK p i)
    have hlt := stk_lt (p := p) (f := f) (j := j)
    obtain ⟨kk, kn, km, ko, kb⟩ := hM j (by omega)
    have hq : f + j < 64 := by omega
    have go : ∀ (v : Int64) (h1 : Hp), fX10_valueOf h (nI (f + j)) = some (v, h1) → F59 h h1 → ((hI h1 107 59 = nI 0 ∧ ∃ l, evS p nm (j + 1) = some l ∧ MI (uJ h1 136 (f + j) v) l (stk p f (j + 1))) ∨ (hI h1 107 59 = nI 1 ∧ evS p nm (j + 1) = none)) → ∃ h', fX10_lawOf_12 (fu + 1) h (nI w) (nI (f + j)) = some ((lawV p nm m).getD 0, h') ∧ hI h' 107 59 = nI (if (lawV p nm m).isSome then 0 else 1) ∧ ML59 h h' := by
      intro v h1 e1 e2 e3
      have s1 : ML59 h (uJ h1 136 (f + j) v) := ML_uJ (F59_ML e2)
      obtain ⟨h', a1, a2, a3⟩ := m_val1 hw hfm P hn d (j + 1) fu (uJ h1 136 (f + j) v) (by omega) (by omega) (by rw [s1.1 129 w (by omega)]; exact hl) (MLk_Fr hM s1) (fun i hi => by rw [s1.2.1 135 i (by omega)]; exact hN i hi) e3
      refine ⟨h', ?_, a2, s1.tr a3⟩
      rw [fX10_lawOf_12]
      simp (disch := omega) only [lit, inbN, ↓reduceIte, leT, leF, ltT, ltF, eqT, eqF, nI_clamp, hl, e1, bnd_some, nI_add]
      rw [show f + j + 1 = f + (j + 1) by omega]
      exact a1
    have h129 : mkd (p j) < 15 := mkd_lt (by omega)
    rcases hc with ⟨h0, l, he, hs⟩ | ⟨h0, he⟩
    · have hlen := evS_len (fun i hi => P.2.2 i (by omega)) he
      have hbd := evS_bd hn (fun i hi => P.2.2 i (by omega)) he
      have he1 : evS p nm (j + 1) = stepE (p j) nm l := by rw [evS, he]; rfl
      unfold stepE at he1
      by_cases c1 : p j < 20000
      · have hst : stk p f (j + 1) = (f + j) :: stk p f j := by rw [stk, if_pos c1]
        by_cases c2 : p j < 10000
        · rw [if_pos c2] at he1
          have hk : hI h 130 (f + j) = nI 0 := by rw [kk]; unfold mkd; rw [if_pos c2]
          have h1 := kn c2
          refine go (nI (p j)).toInt64 h ?_ Fr.rf (Or.inl ⟨h0, _, he1, ?_⟩)
          · simp (disch := omega) only [fX10_valueOf, lit, hk, h1, inbN, ↓reduceIte, leT, leF, ltT, ltF, eqT, eqF, nI_clamp]
          · rw [hst]; exact MI_push hs (by omega) hlt
        · rw [if_neg c2, if_pos c1] at he1
          have hk : hI h 130 (f + j) = nI 1 := by rw [kk]; unfold mkd; rw [if_neg c2, if_pos c1]
          have h1 := km (by omega) c1
          have hN1 := hN (p j - 10000) (by omega)
          refine go (nm (p j - 10000)) h ?_ Fr.rf (Or.inl ⟨h0, _, he1, ?_⟩)
          · simp (disch := omega) only [fX10_valueOf, lit, hk, h1, inbN, ↓reduceIte, leT, leF, ltT, ltF, eqT, eqF, nI_clamp, hN1]
          · rw [hst]; exact MI_push hs (by omega) hlt
      · rw [if_neg (by omega), if_neg c1] at he1
        by_cases c3 : p j = 20002
        · rw [if_pos c3] at he1
          have hst : stk p f (j + 1) = (f + j) :: (stk p f j).tail := by rw [stk, if_neg c1, if_pos c3]
          have hk : hI h 130 (f + j) = nI 2 := by rw [kk, c3]; rfl
          have h1 := ko c3
          have hi1 : (stk p f j).headD 0 < 64 := hdD_lt (fun x hx => by have := hlt x hx; omega) (by omega)
          have hv := MI_head hs (by omega) (by omega)
          refine go (if l.headD 0 = 0 then 1 else 0) h ?_ Fr.rf (Or.inl ⟨h0, _, he1, ?_⟩)
          · simp (disch := omega) only [fX10_valueOf, lit, hk, h1, inbN, ↓reduceIte, leT, leF, ltT, ltF, eqT, eqF, nI_clamp, hv, lgc_eq]
            by_cases q : l.headD 0 = 0
            · rw [if_pos q, if_pos q]
            · rw [if_neg q, if_neg q]
          · rw [hst]; exact MI_push (MI_tail (by omega) hs) (by rw [tlN_len, tl_len]; omega) (fun x hx => hlt x (List.mem_of_mem_tail hx))
        · rw [if_neg c3] at he1
          have hst : stk p f (j + 1) = (f + j) :: (stk p f j).tail.tail := by rw [stk, if_neg c1, if_neg c3]
          obtain ⟨h2, h1⟩ := kb (by omega) c3
          have hi1 : (stk p f j).headD 0 < 64 := hdD_lt (fun x hx => by have := hlt x hx; omega) (by omega)
          have hi2 : (stk p f j).tail.headD 0 < 64 := hdD_lt (fun x hx => by have := hlt x (List.mem_of_mem_tail hx); omega) (by omega)
          have hvb := MI_head hs (by omega) (by omega)
          have hva := MI_head (MI_tail (by omega) hs) (by rw [tlN_len, tl_len]; omega) (by rw [tl_len]; omega)
          obtain ⟨v, h', e1, e2, e3, e4⟩ := m_vbin (c := p j) hq (by omega) (by omega) c3 kk h1 h2 hi2 hi1 h0 hva hvb (bdL_head (bdL_tail hbd)) (bdL_head hbd)
          refine go v h' e1 e2 ?_
          cases hjn : jn (p j) (l.tail.headD 0) (l.headD 0) with
          | none =>
            rw [hjn] at he1
            exact Or.inr ⟨e4 hjn, he1⟩
          | some x =>
            rw [hjn] at he1
            obtain ⟨rfl, e59⟩ := e3 x hjn
            refine Or.inl ⟨e59, _, he1, ?_⟩
            rw [hst]
            exact MI_push (MI_Fr (MI_tail (by rw [tlN_len, tl_len]; omega) (MI_tail (by omega) hs)) e2) (by rw [tlN_len, tlN_len, tl_len, tl_len]; omega) (fun x hx => hlt x (List.mem_of_mem_tail (List.mem_of_mem_tail hx)))
    · have he1 : evS p nm (j + 1) = none := evS_none he (by omega)
      have hex : ∃ ia ib, hI h 131 (f + j) = nI ia ∧ (mkd (p j) = 1 → ia < 7) ∧ (2 ≤ mkd (p j) → ia < 64) ∧ (3 ≤ mkd (p j) → hI h 132 (f + j) = nI ib ∧ ib < 64) := by
        by_cases c1 : p j < 20000
        · by_cases c2 : p j < 10000
          · have hk : mkd (p j) = 0 := by unfold mkd; rw [if_pos c2]
            exact ⟨p j, 0, kn c2, by omega, by omega, by omega⟩
          · have hk : mkd (p j) = 1 := by unfold mkd; rw [if_neg c2, if_pos c1]
            exact ⟨p j - 10000, 0, km (by omega) c1, by omega, by omega, by omega⟩
        · have hi1 : (stk p f j).headD 0 < 64 := hdD_lt (fun x hx => by have := hlt x hx; omega) (by omega)
          have hi2 : (stk p f j).tail.headD 0 < 64 := hdD_lt (fun x hx => by have := hlt x (List.mem_of_mem_tail hx); omega) (by omega)
          by_cases c3 : p j = 20002
          · have hk : mkd (p j) = 2 := by rw [c3]; rfl
            exact ⟨_, 0, ko c3, by omega, fun _ => hi1, by omega⟩
          · obtain ⟨h2, h1⟩ := kb (by omega) c3
            have hk : 3 ≤ mkd (p j) := by unfold mkd; (repeat' split) <;> omega
            exact ⟨_, _, h1, by omega, fun _ => hi2, fun _ => ⟨h2, hi1⟩⟩
      obtain ⟨ia, ib, g1, g2, g3, g4⟩ := hex
      obtain ⟨v, h', e1, e2, e3⟩ := m_verr hq kk h129 g1 g2 g3 g4 h0
      exact go v h' e1 e2 (Or.inr ⟨e3, he1⟩)
theorem m_lawOf {h : Hp} {w f m : Nat} {p : Nat → Nat} {nm : Nat → Int64} (hw : w < 3) (h1 : hI h 128 w = nI f) (h2 : hI h 129 w = nI (f + m)) (hfm : f + m ≤ 64) (hM : MLk h f p m) (P : Pf p m) (hn : ∀ i, i < 7 → bd (nm i)) (hN : ∀ i, i < 7 → hJ h 135 i = nm i) : ∃ h', fX10_lawOf h (nI w) = some ((lawV p nm m).getD 0, h') ∧ hI h' 107 59 = nI (if (lawV p nm m).isSome then 0 else 1) ∧ ML59 h h' := by
  have s : ML59 h (uI h 107 59 (nI 0)) := F59_ML F59_u
  have hm := P.1
  obtain ⟨h', a1, a2, a3⟩ := m_val1 (w := w) (by omega) hfm P hn m 0 FU (uI h 107 59 (nI 0)) (by omega) (Nat.lt_of_le_of_lt hm (by decide)) (by rw [s.1 129 w (by omega)]; exact h2) (MLk_Fr hM s) (fun i hi => hN i hi) (Or.inl ⟨hI_at ⟨rfl, rfl⟩, [], rfl, fun t ht => by cases ht⟩)
  refine ⟨h', ?_, a2, s.tr a3⟩
  unfold fX10_lawOf
  simp (disch := omega) only [lit, inbN, ↓reduceIte, leT, leF, ltT, ltF, eqT, eqF, nI_clamp, hI_ne (show ¬ (128 = 107 ∧ w = 59) by omega), h1]
  exact a1
