/-! A law's value by its knots. -/
def stepE (c : Nat) (nm : Nat → Int64) (l : List Int64) : Option (List Int64) :=
  if c < 10000 then some ((nI c).toInt64 :: l) else if c < 20000 then some (nm (c - 10000) :: l) else if c = 20002 then some ((if l.headD 0 = 0 then 1 else 0) :: l.tail) else (jn c (l.tail.headD 0) (l.headD 0)).map (fun v => v :: l.tail.tail)
def evS (p : Nat → Nat) (nm : Nat → Int64) : Nat → Option (List Int64)
  | 0 => some []
  | j + 1 => (evS p nm j).bind (fun l => stepE (p j) nm l)
def lawV (p : Nat → Nat) (nm : Nat → Int64) (m : Nat) : Option Int64 := (evS p nm m).map (fun l => l.headD 0)
theorem evS_none {p : Nat → Nat} {nm : Nat → Int64} {j : Nat} (h : evS p nm j = none) : ∀ {m : Nat}, j ≤ m → evS p nm m = none
  | 0, hm => by
    have : j = 0 := by omega
    subst this; exact h
  | m + 1, hm => by
    rcases (by omega : j ≤ m ∨ j = m + 1) with q | rfl
    · rw [evS, evS_none h q]; rfl
    · exact h
theorem tl_len (l : List Int64) : l.tail.length = l.length - 1 := by cases l <;> simp
theorem evS_len {p : Nat → Nat} {nm : Nat → Int64} : ∀ {j : Nat} {l : List Int64}, (∀ i, i < j → PfK p i) → evS p nm j = some l → l.length = dpt p j
  | 0, l, _, h => by cases h; rfl
  | j + 1, l, hp, h => by
    rw [evS] at h
    cases e : evS p nm j with
    | none => rw [e] at h; cases h
    | some l0 =>
      rw [e] at h
      have h : stepE (p j) nm l0 = some l := h
      have ih := evS_len (fun i hi => hp i (by omega)) e
      have hk := hp j (by omega)
      unfold stepE at h
      rw [dpt]
      unfold PfK at hk
      by_cases c1 : p j < 10000
      · rw [if_pos c1] at h; cases h; rw [if_pos (by omega)]; simp [ih]
      · rw [if_neg c1] at h
        by_cases c2 : p j < 20000
        · rw [if_pos c2] at h; cases h; rw [if_pos c2]; simp [ih]
        · rw [if_neg c2] at h
          rw [if_neg c2]
          by_cases c3 : p j = 20002
          · rw [if_pos c3] at h; cases h
            rw [if_pos c3, List.length_cons, tl_len, ih]; omega
          · rw [if_neg c3] at h
            rw [if_neg c3]
            obtain ⟨v, hv, rfl⟩ := Option.map_eq_some_iff.mp h
            rw [List.length_cons, tl_len, tl_len, ih]; omega
def bdL (l : List Int64) : Prop := ∀ t, t < l.length → bd (l.getD t 0)
theorem bd_i2l (n : Nat) (h : n < 2 ^ 31) : bd (nI n).toInt64 := by
  rw [nI_l h]; unfold bd; rw [pk_lT (by omega)]; omega
theorem bdL_cons {v : Int64} {l : List Int64} (hv : bd v) (hl : bdL l) : bdL (v :: l) := by
  intro t ht
  cases t with
  | zero => exact hv
  | succ t => exact hl t (by simpa using ht)
theorem bdL_tail {l : List Int64} (hl : bdL l) : bdL l.tail := by
  cases l with
  | nil => exact hl
  | cons a r => intro t ht; exact hl (t + 1) (by simpa using ht)
theorem bdL_head {l : List Int64} (hl : bdL l) : bd (l.headD 0) := by
  cases l with
  | nil => exact bd_0
  | cons a r => exact hl 0 (by simp)
theorem evS_bd {p : Nat → Nat} {nm : Nat → Int64} (hn : ∀ i, i < 7 → bd (nm i)) : ∀ {j : Nat} {l : List Int64}, (∀ i, i < j → PfK p i) → evS p nm j = some l → bdL l
  | 0, l, _, h => by cases h; intro t ht; cases ht
  | j + 1, l, hp, h => by
    rw [evS] at h
    cases e : evS p nm j with
    | none => rw [e] at h; cases h
    | some l0 =>
      rw [e] at h
      have h : stepE (p j) nm l0 = some l := h
      have ih := evS_bd hn (fun i hi => hp i (by omega)) e
      have hk := hp j (by omega)
      unfold stepE at h
      unfold PfK at hk
      by_cases c1 : p j < 10000
      · rw [if_pos c1] at h; cases h; exact bdL_cons (bd_i2l _ (by omega)) ih
      · rw [if_neg c1] at h
        by_cases c2 : p j < 20000
        · rw [if_pos c2] at h; cases h; exact bdL_cons (hn _ (by omega)) ih
        · rw [if_neg c2] at h
          by_cases c3 : p j = 20002
          · rw [if_pos c3] at h; cases h
            exact bdL_cons (by split; exact bd_1; exact bd_0) (bdL_tail ih)
          · rw [if_neg c3] at h
            obtain ⟨v, hv, rfl⟩ := Option.map_eq_some_iff.mp h
            exact bdL_cons (jn_bd (bdL_head (bdL_tail ih)) (bdL_head ih) hv) (bdL_tail (bdL_tail ih))
theorem dpt_le (p : Nat → Nat) : ∀ j, dpt p j ≤ j
  | 0 => Nat.le_refl _
  | j + 1 => by
    have := dpt_le p j
    rw [dpt]; split
    · omega
    · split <;> omega
/-- the stack's row holds the list -/
def SI (h : Hp) (Z : Nat) (l : List Int64) : Prop := ∀ t, t < l.length → hJ h Z (l.length - 1 - t) = l.getD t 0
theorem SI_tail {h : Hp} {Z : Nat} {l : List Int64} (s : SI h Z l) : SI h Z l.tail := by
  cases l with
  | nil => exact s
  | cons a r =>
    intro t ht
    have := s (t + 1) (by simpa using ht)
    rw [List.length_cons, show r.length + 1 - 1 - (t + 1) = r.length - 1 - t by omega] at this
    exact this
theorem SI_push {h : Hp} {Z k : Nat} {r : List Int64} {v : Int64} (s : SI h Z r) (hk : k = r.length) : SI (uJ h Z k v) Z (v :: r) := by
  subst hk
  intro t ht
  cases t with
  | zero => rw [List.length_cons, hJ_at ⟨rfl, by omega⟩]; rfl
  | succ t =>
    have ht : t < r.length := by simpa using ht
    rw [List.length_cons, hJ_ne (by omega), show r.length + 1 - 1 - (t + 1) = r.length - 1 - t by omega]
    exact s t ht
theorem SI_top {h : Hp} {Z : Nat} {l : List Int64} (s : SI h Z l) (hl : 1 ≤ l.length) : hJ h Z (l.length - 1) = l.headD 0 := by
  have := s 0 (by omega)
  rw [Nat.sub_zero] at this
  rw [this]; cases l <;> rfl
theorem m1a {p : Nat} (h : 0 < p) : nI p + -nI 1 = nI (p - 1) := sb_m1 h
theorem sub_ltP {a b k : Nat} (ha : a < 2 ^ 30) (hb : b < 2 ^ 30) (hk : k < 2 ^ 30) : (nI a - nI b < nI k) = (a < b + k) := by
  rw [Int32.lt_iff_toInt_lt, pk_sub_toInt ha hb, nI_toInt (by omega)]
  exact propext ⟨fun h => by omega, fun h => by omega⟩
theorem sub_geP {a b : Nat} (ha : a < 2 ^ 30) (hb : b < 2 ^ 30) : (nI 0 ≤ nI a - nI b) = (b ≤ a) := by
  rw [Int32.le_iff_toInt_le, pk_sub_toInt ha hb, nI_toInt (by omega)]
  exact propext ⟨fun h => by omega, fun h => by omega⟩
def LK (h : Hp) (L K N m : Nat) (p : Nat → Nat) (nm : Nat → Int64) : Prop := hI h L 1 = nI m ∧ (∀ j, j < m → hI h K j = nI (p j)) ∧ ∀ i, i < 7 → hJ h N i = nm i
theorem LK_uJ {h : Hp} {L K N m Z k : Nat} {p : Nat → Nat} {nm : Nat → Int64} {v : Int64} (s : LK h L K N m p nm) (hz : N ≠ Z) : LK (uJ h Z k v) L K N m p nm :=
  ⟨s.1, s.2.1, fun i hi => by rw [hJ_ne (by omega)]; exact s.2.2 i hi⟩
theorem x_val1 {L K Z N m : Nat} {p : Nat → Nat} {nm : Nat → Int64} (r2 : rf L 2 = K) (r3 : rf L 3 = Z) (hNZ : N ≠ Z) (P : Pf p m) (hn : ∀ i, i < 7 → bd (nm i)) : ∀ (d j fu : Nat) (h : Hp) (l : List Int64), j + d = m → d < fu → LK h L K N m p nm → evS p nm j = some l → SI h Z l → ∃ h', fX1_value_4 fu L N 7 h (nI (dpt p j)) (nI j) = some ((lawV p nm m).getD (-9223372036854775808), h') ∧ Fr (fun _ _ => False) (fun a _ => a = Z) h h'
  | 0, j, fu + 1, h, l, hj, _, hK, he, hs => by
    have ej : j = m := by omega
    subst ej
    refine ⟨h, ?_, Fr.rf⟩
    have hlen := evS_len P.2.2 he
    have ht := SI_top hs (by rw [hlen, P.2.1]; omega)
    rw [hlen, P.2.1] at ht
    have hm := P.1
    rw [fX1_value_4, hK.1, if_pos (nI_le (Nat.le_refl _) (by omega))]
    unfold fX1_value_219
    rw [P.2.1, if_pos (show nI 1 = 1 from rfl), if_pos (by decide), r3]
    unfold lawV
    rw [he]
    simp only [Option.map_some, Option.getD_some]
    rw [show (Int32.toNatClampNeg 0) = 0 from rfl, ← ht]
  | d + 1, j, fu + 1, h, l, hj, hf, hK, he, hs => by
    have hm := P.1
    have hlen := evS_len (fun i hi => P.2.2 i (by omega)) he
    have hbd := evS_bd hn (fun i hi => P.2.2 i (by omega)) he
    have hdl := dpt_le p j
    have hkn := hK.2.1 j (by omega)
    have hpk := P.2.2 j (by omega)
    have hsz := hK.1
    have he1 : evS p nm (j + 1) = stepE (p j) nm l := by rw [evS, he]; rfl
    have hd1 : dpt p (j + 1) = if p j < 20000 then dpt p j + 1 else if p j = 20002 then dpt p j else dpt p j - 1 := rfl
    unfold stepE at he1
    unfold PfK at hpk
    have fin : ∀ (k t : Nat) (v : Int64) (r : List Int64), evS p nm (j + 1) = some (v :: r) → SI h Z r → k = r.length → dpt p (j + 1) = t → ∃ h', fX1_value_4 fu L N 7 (uJ h Z k v) (nI t) (nI (j + 1)) = some ((lawV p nm m).getD (-9223372036854775808), h') ∧ Fr (fun _ _ => False) (fun a _ => a = Z) h h' := by
      intro k t v r h1 h2 h3 h4
      subst h4
      obtain ⟨h', a1, a2⟩ := x_val1 r2 r3 hNZ P hn d (j + 1) fu (uJ h Z k v) (v :: r) (by omega) (by omega) (LK_uJ hK hNZ) h1 (SI_push h2 h3)
      exact ⟨h', a1, Fr.tr (Fr.uJ Fr.rf rfl) a2⟩
    rw [fX1_value_4]
    by_cases c1 : p j < 20000
    · rw [if_pos c1] at hd1
      by_cases c2 : p j < 10000
      · rw [if_pos c2] at he1
        obtain ⟨h', a1, a2⟩ := fin (dpt p j) (dpt p j + 1) _ _ he1 hs hlen.symm hd1
        refine ⟨h', ?_, a2⟩
        simp (disch := omega) only [lit, hsz, nI_leP, nI_ltP, nI_eqP, ifP, ifN, inbN, if_true, nI_clamp, r2, r3, hkn, sub_ltP, sub_geP, fX1_value_209, fX1_value_213, nI_add, show Int32.ofNat 7 = nI 7 from rfl]
        exact a1
      · rw [if_neg c2, if_pos c1] at he1
        obtain ⟨h', a1, a2⟩ := fin (dpt p j) (dpt p j + 1) _ _ he1 hs hlen.symm hd1
        refine ⟨h', ?_, a2⟩
        have hN := hK.2.2 (p j - 10000) (by omega)
        simp (disch := omega) only [lit, hsz, nI_leP, nI_ltP, nI_eqP, ifP, ifN, inbN, if_true, nI_clamp, r2, r3, hkn, sub_ltP, sub_geP, pk_sub, fX1_value_209, fX1_value_213, nI_add, show Int32.ofNat 7 = nI 7 from rfl, hN]
        exact a1
    · rw [if_neg (by omega), if_neg c1] at he1
      rw [if_neg c1] at hd1
      by_cases c3 : p j = 20002
      · rw [if_pos c3] at he1 hd1
        have h1 : 1 ≤ dpt p j := by omega
        have htop := SI_top hs (by omega)
        rw [hlen] at htop
        have htl : l.tail.length = dpt p j - 1 := by rw [tl_len, hlen]
        obtain ⟨h', a1, a2⟩ := fin (dpt p j - 1) (dpt p j) _ _ he1 (SI_tail hs) htl.symm hd1
        refine ⟨h', ?_, a2⟩
        rw [c3] at hkn
        simp (disch := omega) only [lit, hsz, nI_leP, nI_ltP, nI_eqP, ifP, ifN, inbN, if_true, nI_clamp, r2, r3, hkn, pk_sub, fX1_value_74, fX1_value_213, nI_add, htop, lgc_eq]
        by_cases q : l.headD 0 = 0
        · rw [if_pos q] at a1 ⊢; exact a1
        · rw [if_neg q] at a1 ⊢; exact a1
      · rw [if_neg c3] at he1 hd1
        have h2 : 20000 ≤ p j ∧ p j ≤ 20012 ∧ p j ≠ 20002 ∧ 2 ≤ dpt p j := by omega
        have htop := SI_top hs (by omega)
        rw [hlen] at htop
        have htl : l.tail.length = dpt p j - 1 := by rw [tl_len, hlen]
        have htop2 := SI_top (SI_tail hs) (by omega)
        rw [htl] at htop2
        have htl2 : l.tail.tail.length = dpt p j - 2 := by rw [tl_len, htl]; omega
        obtain ⟨v, e1, e2, e3⟩ := x_joined (h := h) h2.1 h2.2.1 h2.2.2.1 (bdL_head (bdL_tail hbd)) (bdL_head hbd)
        simp (disch := omega) only [lit, hsz, nI_leP, nI_ltP, nI_eqP, ifP, ifN, inbN, if_true, nI_clamp, r2, r3, hkn, pk_sub, m1a, htop, show dpt p j - 1 - 1 = dpt p j - 1 - 1 from rfl, htop2, e1, bnd_some, lgc_gt, lgc_ge]
        by_cases q : bd v
        · have q2 := bdP.mp q
          cases hjn : jn (p j) (l.tail.headD 0) (l.headD 0) with
          | none => exact absurd q (e3 hjn)
          | some w =>
            obtain ⟨rfl, -⟩ := e2 w hjn
            rw [hjn] at he1
            obtain ⟨h', a1, a2⟩ := fin (dpt p j - 1 - 1) (dpt p j - 1) _ _ he1 (SI_tail (SI_tail hs)) (by omega) hd1
            refine ⟨h', ?_, a2⟩
            rw [if_neg q2.1, if_pos q2.2]
            simp only [fX1_value_213, lit, nI_add]
            exact a1
        · have hnone : jn (p j) (l.tail.headD 0) (l.headD 0) = none := by
            cases hjn : jn (p j) (l.tail.headD 0) (l.headD 0) with
            | none => rfl
            | some w => exact absurd (e2 w hjn).2 q
          rw [hnone] at he1
          have hz : lawV p nm m = none := by unfold lawV; rw [evS_none he1 (by omega)]; rfl
          refine ⟨h, ?_, Fr.rf⟩
          rw [hz]
          by_cases q1 : (1000000000000 : Int64) < v
          · rw [if_pos q1]; rfl
          · rw [if_neg q1, if_neg (fun z => q (bdP.mpr ⟨q1, z⟩))]; rfl
theorem x_value {h : Hp} {L K Z N m : Nat} {p : Nat → Nat} {nm : Nat → Int64} (r2 : rf L 2 = K) (r3 : rf L 3 = Z) (hNZ : N ≠ Z) (P : Pf p m) (hn : ∀ i, i < 7 → bd (nm i)) (hK : LK h L K N m p nm) : ∃ h', fX1_value L N 7 h = some ((lawV p nm m).getD (-9223372036854775808), h') ∧ Fr (fun _ _ => False) (fun a _ => a = Z) h h' := by
  have hm := P.1
  obtain ⟨h', a1, a2⟩ := x_val1 r2 r3 hNZ P hn m 0 FU h [] (by omega) (Nat.lt_of_le_of_lt hm (by decide)) hK rfl (fun t ht => by cases ht)
  exact ⟨h', a1, a2⟩
