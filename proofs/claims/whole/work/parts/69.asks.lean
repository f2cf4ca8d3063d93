/-! Calls: what each owes; the ones that only read. -/
def FCl (h h' : Hp) : Prop := (∀ a i, 107 ≤ a → hI h' a i = hI h a i) ∧ (∀ a i, 107 ≤ a → hJ h' a i = hJ h a i) ∧ ∀ a i, 107 ≤ a → hR h' a i = hR h a i
def FMo (h h' : Hp) : Prop := (∀ a i, a < 107 ∨ 152 ≤ a → hI h' a i = hI h a i) ∧ (∀ a i, a < 107 ∨ 152 ≤ a → hJ h' a i = hJ h a i) ∧ ∀ a i, hR h' a i = hR h a i
theorem FCl.rf {h : Hp} : FCl h h := ⟨fun _ _ _ => rfl, fun _ _ _ => rfl, fun _ _ _ => rfl⟩
theorem FMo.rf {h : Hp} : FMo h h := ⟨fun _ _ _ => rfl, fun _ _ _ => rfl, fun _ _ => rfl⟩
theorem FCl.tr {h h1 h2 : Hp} (a : FCl h h1) (b : FCl h1 h2) : FCl h h2 := ⟨fun x i q => (b.1 x i q).trans (a.1 x i q), fun x i q => (b.2.1 x i q).trans (a.2.1 x i q), fun x i q => (b.2.2 x i q).trans (a.2.2 x i q)⟩
theorem FMo.tr {h h1 h2 : Hp} (a : FMo h h1) (b : FMo h1 h2) : FMo h h2 := ⟨fun x i q => (b.1 x i q).trans (a.1 x i q), fun x i q => (b.2.1 x i q).trans (a.2.1 x i q), fun x i => (b.2.2 x i).trans (a.2.2 x i)⟩
theorem FCl_Fr {PI PJ : Nat → Nat → Prop} {h h' : Hp} (f : Fr PI PJ h h') (h1 : ∀ a i, PI a i → a < 107) (h2 : ∀ a i, PJ a i → a < 107) : FCl h h' := ⟨fun a i q => f.1 a i (fun z => by have := h1 a i z; omega), fun a i q => f.2.1 a i (fun z => by have := h2 a i z; omega), fun a i _ => f.2.2 a i⟩
theorem FMo_Fr {PI PJ : Nat → Nat → Prop} {h h' : Hp} (f : Fr PI PJ h h') (h1 : ∀ a i, PI a i → 107 ≤ a ∧ a < 152) (h2 : ∀ a i, PJ a i → 107 ≤ a ∧ a < 152) : FMo h h' := ⟨fun a i q => f.1 a i (fun z => by have := h1 a i z; omega), fun a i q => f.2.1 a i (fun z => by have := h2 a i z; omega), fun a i => f.2.2 a i⟩
theorem FMo_uI {h h1 : Hp} (s : FMo h h1) {a k : Nat} {v : Int32} (hp : 107 ≤ a ∧ a < 152) : FMo h (uI h1 a k v) := s.tr ⟨fun x i q => hI_ne (by omega), fun _ _ _ => rfl, fun _ _ => rfl⟩
theorem FCl_uI {h h1 : Hp} (s : FCl h h1) {a k : Nat} {v : Int32} (hp : a < 107) : FCl h (uI h1 a k v) := s.tr ⟨fun x i q => hI_ne (by omega), fun _ _ _ => rfl, fun _ _ _ => rfl⟩
/-- both answer the same, and stay related -/
def Ok2 {α : Type} (hc hm : Hp) (oc om : Option (α × Hp)) : Prop := ∃ v hc' hm', oc = some (v, hc') ∧ om = some (v, hm') ∧ (∃ S T, R2 hc' hm' S T) ∧ FCl hc hc' ∧ FMo hm hm'
theorem R2_thr {hc hm : Hp} {S : Nat} {T : Tx} (s : R2 hc hm S T) (v : Int32) : R2 hc (uI hm 107 2 v) S T :=
  R2_ask s (fun _ _ _ => rfl) (fun _ _ _ _ => rfl) (fun a i q => hI_ne (by unfold irM at q; omega)) (fun _ _ => rfl)
theorem ok_same {α : Type} {hc hm : Hp} {S : Nat} {T : Tx} {oc om : Option (α × Hp)} {v : α} {x : Int32} (s : R2 hc hm S T) (h1 : oc = some (v, hc)) (h2 : om = some (v, uI hm 107 2 x)) : Ok2 hc hm oc om :=
  ⟨v, hc, _, h1, h2, ⟨S, T, R2_thr s x⟩, FCl.rf, FMo_uI FMo.rf (by omega)⟩
theorem inT_ex {x : Int32} {hi : Int} (h : inT x 0 hi = true) : ∃ n : Nat, (n : Int) ≤ hi ∧ x = nI n ∧ n < 2 ^ 31 := by
  unfold inT at h
  have h := of_decide_eq_true h
  have h0 : ¬ x < 0 := by rw [Int32.lt_iff_toInt_lt]; have := h.1; show ¬ x.toInt < 0; omega
  obtain ⟨n, hn, rfl⟩ := nI_of h0
  rw [nI_toInt hn] at h
  exact ⟨n, h.2, rfl, hn⟩
theorem inT_no {x : Int32} {hi : Int} (h : ¬ inT x 0 hi = true) (n : Nat) (hn : (n : Int) ≤ hi) (h31 : n < 2 ^ 31) : x ≠ nI n := by
  intro e
  apply h
  unfold inT
  rw [e, nI_toInt h31]
  exact decide_eq_true ⟨by omega, hn⟩
section V
variable {hc hm : Hp} {S : Nat} {T : Tx}
theorem v_straw (s : StA hc hm S T) (x : Int32) : (∃ i, i < T 0 2 ∧ x = nI i ∧ fX9_isStraw hc x = some (nI 1, hc) ∧ fX10_isStraw hm x = some (nI 1, hm)) ∨ (fX9_isStraw hc x = some (nI 0, hc) ∧ fX10_isStraw hm x = some (nI 0, hm)) := by
  obtain ⟨hS, s1, -, F, Rc, Rm, -⟩ := s
  have c := Rc.1.2.2.1
  have m := Rm.1.2.2.1
  have h5 := F.1.2.2.1
  have e0 := dref_of (q := (7, 20)) s1 (sS hS)
  unfold fX9_isStraw fX10_isStraw
  simp only [lit, e0, bind_some', rS1 hS, c, m]
  rcases pk_ix x (show T 0 2 < 2 ^ 31 by omega) with q | q | ⟨j, hj, rfl⟩
  · have q : x < nI 0 := q
    simp only [if_pos q]; exact Or.inr ⟨trivial, trivial⟩
  · have q0 : ¬ x < nI 0 := by
      rw [Int32.lt_iff_toInt_lt]
      have := Int32.le_iff_toInt_le.mp q
      rw [nI_toInt (by omega)] at this
      rw [nI_toInt (by omega)]; omega
    simp only [if_neg q0, if_pos q]; exact Or.inr ⟨trivial, trivial⟩
  · simp (disch := omega) only [↓reduceIte, ltF, leF]
    exact Or.inl ⟨j, hj, rfl, trivial, trivial⟩
theorem v_member (s : StA hc hm S T) (x : Int32) : (∃ i, i < T 0 3 ∧ x = nI i ∧ fX9_isMember hc x = some (nI 1, hc) ∧ fX10_isMember hm x = some (nI 1, hm)) ∨ (fX9_isMember hc x = some (nI 0, hc) ∧ fX10_isMember hm x = some (nI 0, hm)) := by
  obtain ⟨hS, s1, -, F, Rc, Rm, -⟩ := s
  have c := Rc.1.2.2.2.1
  have m := Rm.1.2.2.2.1
  have h5 := F.1.2.2.2.1
  have e0 := dref_of (q := (7, 20)) s1 (sS hS)
  unfold fX9_isMember fX10_isMember
  simp only [lit, e0, bind_some', rS4 hS, c, m]
  rcases pk_ix x (show T 0 3 < 2 ^ 31 by omega) with q | q | ⟨j, hj, rfl⟩
  · have q : x < nI 0 := q
    simp only [if_pos q]; exact Or.inr ⟨trivial, trivial⟩
  · have q0 : ¬ x < nI 0 := by
      rw [Int32.lt_iff_toInt_lt]
      have := Int32.le_iff_toInt_le.mp q
      rw [nI_toInt (by omega)] at this
      rw [nI_toInt (by omega)]; omega
    simp only [if_neg q0, if_pos q]; exact Or.inr ⟨trivial, trivial⟩
  · simp (disch := omega) only [↓reduceIte, ltF, leF]
    exact Or.inl ⟨j, hj, rfl, trivial, trivial⟩
theorem v_claim (s : StA hc hm S T) (x : Int32) : (∃ i, i < T 0 0 ∧ x = nI i ∧ fX9_isClaim hc x = some (nI 1, hc) ∧ fX10_isClaim hm x = some (nI 1, hm)) ∨ (fX9_isClaim hc x = some (nI 0, hc) ∧ fX10_isClaim hm x = some (nI 0, hm)) := by
  obtain ⟨hS, s1, -, F, Rc, Rm, -⟩ := s
  have c := Rc.1.1
  have m := Rm.1.1
  have h5 := F.1.1
  have e0 := dref_of (q := (7, 20)) s1 (sS hS)
  unfold fX9_isClaim fX10_isClaim
  simp only [lit, e0, bind_some', rS0 hS, rC0 hS, c, m]
  rcases pk_ix x (show T 0 0 < 2 ^ 31 by omega) with q | q | ⟨j, hj, rfl⟩
  · have q : x < nI 0 := q
    simp only [if_pos q]; exact Or.inr ⟨trivial, trivial⟩
  · have q0 : ¬ x < nI 0 := by
      rw [Int32.lt_iff_toInt_lt]
      have := Int32.le_iff_toInt_le.mp q
      rw [nI_toInt (by omega)] at this
      rw [nI_toInt (by omega)]; omega
    simp only [if_neg q0, if_pos q]; exact Or.inr ⟨trivial, trivial⟩
  · simp (disch := omega) only [↓reduceIte, ltF, leF]
    exact Or.inl ⟨j, hj, rfl, trivial, trivial⟩
/-- the reference's range check -/
theorem v_in {h : Hp} (x : Int32) (lo hi : Nat) (h1 : lo < 2 ^ 31) (h2 : hi < 2 ^ 31) : (∃ n, lo ≤ n ∧ n ≤ hi ∧ x = nI n ∧ fX10_isIn h x (nI lo) (nI hi) = some (nI 1, h)) ∨ ((x < nI lo ∨ nI hi < x) ∧ fX10_isIn h x (nI lo) (nI hi) = some (nI 0, h)) := by
  unfold fX10_isIn
  simp only [lit]
  by_cases q1 : x < nI lo
  · rw [if_pos q1]; exact Or.inr ⟨Or.inl q1, rfl⟩
  · rw [if_neg q1]
    by_cases q2 : nI hi < x
    · rw [if_pos q2]; exact Or.inr ⟨Or.inr q2, rfl⟩
    · rw [if_neg q2]
      have q3 : ¬ x < 0 := by
        rw [Int32.lt_iff_toInt_lt] at q1 ⊢
        rw [nI_toInt h1] at q1
        show ¬ x.toInt < 0
        omega
      obtain ⟨n, hn, rfl⟩ := nI_of q3
      refine Or.inl ⟨n, ?_, ?_, rfl, rfl⟩
      · exact Nat.le_of_not_lt (fun z => q1 (nI_lt z h1))
      · exact Nat.le_of_not_lt (fun z => q2 (nI_lt z hn))
theorem s_fault (s : R2 hc hm S T) (x : Int32) : Ok2 hc hm (fX9_fault hc x) (fX10_fault hm x) := by
  obtain ⟨f1, f2⟩ := s.1.2.2.2.2.2.2.2.1
  unfold fX9_fault fX10_fault
  simp only [lit]
  by_cases q : x = nI 0
  · refine ok_same s (v := hI hc 0 1) (x := nI 0) ?_ ?_
    · rw [if_pos q]
    · rw [if_pos q, hI_ne (by omega), f1]
  · by_cases q1 : x = nI 1
    · refine ok_same s (v := hI hc 0 2) (x := nI 0) ?_ ?_
      · rw [if_neg q, if_pos q1]
      · rw [if_neg q, if_pos q1, hI_ne (by omega), f2]
    · refine ok_same s (v := -nI 1) (x := nI 0) ?_ ?_
      · rw [if_neg q, if_neg q1]
      · rw [if_neg q, if_neg q1]
/-- both look a name up: rows of n names -/
theorem s_find {A B n nB : Nat} {R : Nat} (hn : n ≤ 8) (hB : n ≤ nB) (hB2 : nB < 2 ^ 30) (r0 : rf A 0 = R) (hs : hI hc A 2 = nI n) (he : ∀ i, i < n → hI hc R i = hI hm B i) (x : Int32) : ∀ (d k fu fu' : Nat), k + d = n → d < fu → d < fu' → ∃ v, fX6_find_2 fu A hc x (nI k) = some (v, hc) ∧ fX10_find_3 fu' B nB hm (nI 0) (nI n) x (nI k) = some (v, hm)
  | 0, k, fu + 1, fu' + 1, hk, _, _ => by
    have e : k = n := by omega
    subst e
    refine ⟨-nI 1, ?_, ?_⟩
    · rw [fX6_find_2]; simp (disch := omega) only [lit, hs, ↓reduceIte, leT]
    · rw [fX10_find_3]; simp (disch := omega) only [lit, ↓reduceIte, leT]
  | d + 1, k, fu + 1, fu' + 1, hk, h1, h2 => by
    obtain ⟨v, a1, a2⟩ := s_find hn hB hB2 r0 hs he x d (k + 1) fu fu' (by omega) (by omega) (by omega)
    have hek := he k (by omega)
    rw [fX6_find_2, fX10_find_3]
    by_cases q : hI hm B k = x
    · refine ⟨nI k, ?_, ?_⟩
      · simp (disch := omega) only [lit, hs, ↓reduceIte, leF, inbN, nI_clamp, r0, hek, q]
      · simp (disch := omega) only [lit, ↓reduceIte, leF, nI_add, inbN, nI_clamp, Nat.zero_add, q]
    · refine ⟨v, ?_, ?_⟩
      · simp (disch := omega) only [lit, hs, ↓reduceIte, leF, inbN, nI_clamp, r0, hek, q, nI_add]
        exact a1
      · simp (disch := omega) only [lit, ↓reduceIte, leF, nI_add, inbN, nI_clamp, Nat.zero_add, q]
        exact a2
theorem s_named (s : R2 hc hm S T) (x y : Int32) : Ok2 hc hm (fX9_named hc x y) (fX10_named hm x y) := by
  have s0 := R2_thr s (nI 0)
  obtain ⟨hS, s1, -, F, Rc, Rm, -⟩ := s0.1
  have e0 := dref_of (q := (7, 20)) s1 (sS hS)
  have h8 := F.1.1
  have h5 := F.1.2.2.1
  have h5m := F.1.2.2.2.1
  obtain ⟨c0, -, c2, c3, -⟩ := Rc.1
  obtain ⟨m0, -, m2, m3, -⟩ := Rm.1
  unfold fX9_named fX10_named fX6_find fX10_find
  by_cases q : inT x 0 2 = true
  · obtain ⟨n, hn, rfl, -⟩ := inT_ex q
    have cn : n = 0 ∨ n = 1 ∨ n = 2 := by omega
    rcases cn with rfl | rfl | rfl
    · obtain ⟨v, a1, a2⟩ := s_find (A := S + 2) (B := 112) (nB := 16) h8 (by omega) (by decide) (rN0 hS) c0 (fun i hi => by rw [(Rc.2.1 i hi).1, (Rm.2.1 i hi).1]) y (T 0 0) 0 FU FU (by omega) (Nat.lt_of_le_of_lt h8 (by decide)) (Nat.lt_of_le_of_lt h8 (by decide))
      refine ok_same s (v := v) (x := nI 0) ?_ ?_
      · simp (disch := omega) only [lit, q, ↓reduceIte, e0, bind_some', rS0 hS, rC0 hS, a1, bnd_some]
      · simp (disch := omega) only [lit, q, ↓reduceIte, m0, a2, bnd_some]
    · obtain ⟨v, a1, a2⟩ := s_find (A := S + 12) (B := 117) (nB := 10) (show T 0 2 ≤ 8 by omega) (by omega) (by decide) (rN12 hS) c2 (fun i hi => by rw [(Rc.2.2.2.2.1 i hi).1, (Rm.2.2.2.1 i hi).1]) y (T 0 2) 0 FU FU (by omega) (Nat.lt_of_le_of_lt h5 (by decide)) (Nat.lt_of_le_of_lt h5 (by decide))
      refine ok_same s (v := v) (x := nI 0) ?_ ?_
      · simp (disch := omega) only [lit, q, ↓reduceIte, eqF, e0, bind_some', rS1 hS, a1, bnd_some]
      · simp (disch := omega) only [lit, q, ↓reduceIte, eqF, m2, a2, bnd_some]
    · obtain ⟨v, a1, a2⟩ := s_find (A := S + 16) (B := 120) (nB := 10) (show T 0 3 ≤ 8 by omega) (by omega) (by decide) (rN16 hS) c3 (fun i hi => by rw [(Rc.2.2.2.2.2.1 i hi).1, Rm.2.2.2.2.1 i hi]) y (T 0 3) 0 FU FU (by omega) (Nat.lt_of_le_of_lt h5m (by decide)) (Nat.lt_of_le_of_lt h5m (by decide))
      refine ok_same s (v := v) (x := nI 0) ?_ ?_
      · simp (disch := omega) only [lit, q, ↓reduceIte, eqF, e0, bind_some', rS4 hS, a1, bnd_some]
      · simp (disch := omega) only [lit, q, ↓reduceIte, eqF, m3, a2, bnd_some]
  · refine ok_same s (v := -nI 1) (x := nI 0) ?_ ?_
    · simp only [lit]; rw [if_neg q]
    · simp only [lit]; rw [if_neg q]
theorem s_straw (s : R2 hc hm S T) (x y : Int32) : Ok2 hc hm (fX9_straw hc x y) (fX10_straw hm x y) := by
  have s0 := R2_thr s (nI 0)
  obtain ⟨hS, s1, -, F, Rc, Rm, -⟩ := s0.1
  have e0 := dref_of (q := (7, 20)) s1 (sS hS)
  have h5 := F.1.2.2.1
  have hW : isW 72 := Or.inl rfl
  obtain ⟨⟨w1, w2, w3, w4, w5, ⟨sh, w6, w7, w8⟩, w9, w10⟩, -, -⟩ := s0.2.1
  have hsh : sh < 2 ^ 31 := Nat.lt_of_lt_of_le w6 (Nat.pow_le_pow_right (by decide) (by omega))
  unfold fX9_straw fX10_straw
  simp only [lit]
  rcases v_straw s0.1 x with ⟨i, hi, rfl, e1, e2⟩ | ⟨e1, e2⟩
  · have c7 := (Rc.2.2.2.2.1 i hi).2.1
    have m7 := (Rm.2.2.2.1 i hi).2.1
    obtain ⟨fl, f1, f2, f3⟩ := w2 i hi
    have w8' := w8 i (by omega)
    rw [show 5 * 0 + i = i by omega] at f3 w8'
    by_cases q : inT y 0 2 = true
    · obtain ⟨n, hn, rfl, -⟩ := inT_ex q
      have cn : n = 0 ∨ n = 1 ∨ n = 2 := by omega
      rcases cn with rfl | rfl | rfl
      · refine ok_same s (v := nI (T 7 i)) (x := nI 0) ?_ ?_
        · simp (disch := omega) only [lit, e1, bnd_some, q, ↓reduceIte, eqF, e0, bind_some', fX7_claimOf, ltF, leF, inbN, nI_clamp, rS2 hS, c7]
        · simp (disch := omega) only [lit, e2, bnd_some, ↓reduceIte, eqF, inbN, nI_clamp, m7]
      · refine ok_same s (v := nI fl) (x := nI 0) ?_ ?_
        · simp (disch := omega) only [lit, e1, bnd_some, q, ↓reduceIte, eqF, fX8_fullOf, ltF, leF, inbN, nI_clamp, rW5 hW, f2]
        · simp (disch := omega) only [lit, e2, bnd_some, ↓reduceIte, eqF, inbN, nI_clamp, f3]
      · refine ok_same s (v := nI (bn sh i)) (x := nI 0) ?_ ?_
        · simp (disch := omega) only [lit, e1, bnd_some, q, ↓reduceIte, eqF, fX8_inShed, ltF, leF, w7, shr1T]
          unfold bn
          by_cases qs : sh.testBit i = true
          · simp only [qs, ↓reduceIte, bnd_some]; rw [if_neg (by decide)]
          · simp only [qs, ↓reduceIte, bnd_some, Bool.false_eq_true]
        · simp (disch := omega) only [lit, e2, bnd_some, ↓reduceIte, eqF, inbN, nI_clamp, w8']
          unfold bn
          by_cases qs : sh.testBit i = true
          · simp only [qs, ↓reduceIte]; rw [if_neg (by decide)]
          · simp only [qs, ↓reduceIte, Bool.false_eq_true]
    · have q0 := inT_no q 0 (by omega) (by decide)
      have q1 := inT_no q 1 (by omega) (by decide)
      have q2 := inT_no q 2 (by omega) (by decide)
      refine ok_same s (v := -nI 1) (x := nI 0) ?_ ?_
      · simp (disch := omega) only [lit, e1, bnd_some, ↓reduceIte, eqF, q, Bool.false_eq_true]
      · simp (disch := omega) only [lit, e2, bnd_some, ↓reduceIte, eqF, q0, q1, q2]
  · refine ok_same s (v := -nI 1) (x := nI 0) ?_ ?_
    · simp only [e1, bnd_some, ↓reduceIte]
    · simp only [e2, bnd_some, ↓reduceIte]
theorem s_member (s : R2 hc hm S T) (x y : Int32) : Ok2 hc hm (fX9_member hc x y) (fX10_member hm x y) := by
  have s0 := R2_thr s (nI 0)
  have F := s0.1.2.2.2.1
  have h5 := F.1.2.2.2.1
  have hW : isW 72 := Or.inl rfl
  obtain ⟨⟨w1, w2, w3, w4, w5, -, w9, w10⟩, -, -⟩ := s0.2.1
  unfold fX9_member fX10_member
  simp only [lit]
  rcases v_member s0.1 x with ⟨i, hi, rfl, e1, e2⟩ | ⟨e1, e2⟩
  · obtain ⟨hl, f1, f2, f3⟩ := w4 i (by omega)
    obtain ⟨g1, g2⟩ := w5 i (by omega)
    rw [show 5 * 0 + i = i by omega] at f3 g1 g2
    by_cases q : inT y 0 2 = true
    · obtain ⟨n, hn, rfl, -⟩ := inT_ex q
      have cn : n = 0 ∨ n = 1 ∨ n = 2 := by omega
      rcases cn with rfl | rfl | rfl
      · refine ok_same s (v := nI hl) (x := nI 0) ?_ ?_
        · simp (disch := omega) only [lit, e1, bnd_some, q, ↓reduceIte, eqF, fX8_holdsOf, ltF, leF, inbN, nI_clamp, rW6 hW, f2]
        · simp (disch := omega) only [lit, e2, bnd_some, ↓reduceIte, eqF, inbN, nI_clamp, f3]
      · refine ok_same s (v := hI hc 75 i) (x := nI 0) ?_ ?_
        · simp (disch := omega) only [lit, e1, bnd_some, q, ↓reduceIte, eqF, fX8_wonBy, ltF, leF, inbN, nI_clamp, rW7 hW]
        · simp (disch := omega) only [lit, e2, bnd_some, ↓reduceIte, eqF, inbN, nI_clamp, ← g1]
      · refine ok_same s (v := hI hc 76 i) (x := nI 0) ?_ ?_
        · simp (disch := omega) only [lit, e1, bnd_some, q, ↓reduceIte, eqF, fX8_beatenOf, ltF, leF, inbN, nI_clamp, rW8 hW]
        · simp (disch := omega) only [lit, e2, bnd_some, ↓reduceIte, eqF, inbN, nI_clamp, ← g2]
    · have q0 := inT_no q 0 (by omega) (by decide)
      have q1 := inT_no q 1 (by omega) (by decide)
      have q2 := inT_no q 2 (by omega) (by decide)
      refine ok_same s (v := -nI 1) (x := nI 0) ?_ ?_
      · simp (disch := omega) only [lit, e1, bnd_some, ↓reduceIte, eqF, q, Bool.false_eq_true]
      · simp (disch := omega) only [lit, e2, bnd_some, ↓reduceIte, eqF, q0, q1, q2]
  · refine ok_same s (v := -nI 1) (x := nI 0) ?_ ?_
    · simp only [e1, bnd_some, ↓reduceIte]
    · simp only [e2, bnd_some, ↓reduceIte]
end V
