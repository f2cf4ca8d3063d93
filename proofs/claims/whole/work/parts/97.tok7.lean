/-! text: which word of the language it is, by the class and by the reference. -/
def wixA (w : Nat) : Nat → Nat → Nat
  | 0, x => x
  | d + 1, x => if langN x = w then x else wixA w d (x + 1)
theorem wixA_le (w : Nat) : ∀ d x, x ≤ wixA w d x ∧ wixA w d x ≤ x + d
  | 0, x => ⟨Nat.le_refl _, Nat.le_refl _⟩
  | d + 1, x => by
    have := wixA_le w d (x + 1)
    rw [wixA]; split <;> omega
theorem wixA_eq (w : Nat) : ∀ d x, wixA w d x < x + d → langN (wixA w d x) = w
  | 0, x, h => absurd h (by rw [wixA]; omega)
  | d + 1, x, h => by
    rw [wixA] at h ⊢
    by_cases q : langN x = w
    · rw [if_pos q]; exact q
    · rw [if_neg q] at h ⊢; exact wixA_eq w d (x + 1) (by omega)
theorem wixA_ne (w : Nat) : ∀ d x, wixA w d x = x + d → ∀ i, x ≤ i → i < x + d → langN i ≠ w
  | 0, x, h, i, h1, h2 => absurd h2 (by omega)
  | d + 1, x, h, i, h1, h2 => by
    rw [wixA] at h
    by_cases q : langN x = w
    · rw [if_pos q] at h; omega
    · rw [if_neg q] at h
      by_cases e : i = x
      · rw [e]; exact q
      · exact wixA_ne w d (x + 1) (by omega) i (by omega) (by omega)
def wix (w : Nat) : Nat := wixA w 23 0
theorem wix_lt {w : Nat} (h : wix w < 23) : langN (wix w) = w := wixA_eq w 23 0 (by unfold wix at h; omega)
theorem wix_ge {w : Nat} (h : ¬ wix w < 23) : ∀ i, i < 23 → langN i ≠ w := fun i hi => wixA_ne w 23 0 (by have := (wixA_le w 23 0).2; unfold wix at h; omega) i (Nat.zero_le _) (by omega)
theorem x_wl {w : Nat} (hw : w < 2 ^ 31) : ∀ (d x fu : Nat) (h : Hp), x + d = 23 → d + 1 < fu → (∀ i, i < 23 → hI h 71 i = nI (langN i)) → hI h 69 10 = nI w → hI h 69 7 = nI 2 → fX5_readWord_119 fu h (nI x) = if wixA w d x < 23 then fX5_readWord_162 (uI (uI h 69 11 (nI (wixA w d x))) 69 7 (nI 3)) else fX5_readWord_162 h
  | 0, x, fu + 1, h, hx, _, _, _, _ => by
    rw [fX5_readWord_119, wixA, if_neg (show ¬ x < 23 by omega)]
    simp (disch := omega) only [lit, ↓reduceIte, leT]
  | d + 1, x, fu + 1, h, hx, hf, kc, h10, h7 => by
    have l := lgN_lt x (by omega)
    rw [fX5_readWord_119, wixA]
    by_cases q : langN x = w
    · rw [if_pos q, if_pos (show x < 23 by omega)]
      obtain ⟨fu', rfl⟩ : ∃ fu', fu = fu' + 1 := ⟨fu - 1, by omega⟩
      simp (disch := omega) only [lit, ↓reduceIte, leF, h7, inbN, nI_clamp, kc, h10, q, fX5_readWord_156, fX5_readWord_119, nI_add, hI_at]
      by_cases z : 23 ≤ x + 1
      · simp (disch := omega) only [↓reduceIte, leT]
      · simp (disch := omega) only [↓reduceIte, leF, eqF]
    · rw [if_neg q]
      simp (disch := omega) only [lit, ↓reduceIte, leF, h7, inbN, nI_clamp, kc, h10, eqF, fX5_readWord_156, nI_add]
      exact x_wl hw d (x + 1) fu h (by omega) (by omega) kc h10 h7
theorem x_j6 {j : Nat} (hj : j ≤ 800) : (-nI 5 ≤ nI 25 - nI (5 * j)) = (j ≤ 6) := by
  rw [Int32.le_iff_toInt_le, pk_sub_toInt (by omega) (by omega), show (-nI 5).toInt = -5 by decide]
  exact propext ⟨fun h => by omega, fun h => by omega⟩
/-- kind, value of a word of packed letters w -/
def wkk (w : Nat) : Nat := if wix w = 13 ∨ wix w = 14 then 8 else if wix w < 23 then 3 else 2
def wkv (w : Nat) : Nat := if wix w = 13 then 0 else if wix w = 14 then 1 else if wix w < 23 then wix w else w
/-- what the class's token may change -/
def FNc (h h' : Hp) : Prop := Fr (fun a i => a = 69 ∧ 6 ≤ i ∧ i ≤ 13) (fun _ _ => False) h h'
def FNm (h h' : Hp) : Prop := Fr (fun a i => a = 107 ∧ 7 ≤ i ∧ i ≤ 10) (fun _ _ => False) h h'
/-- the class's token at hand -/
def TKc (h : Hp) (k v s p : Nat) : Prop := hI h 69 7 = nI k ∧ hI h 69 8 = nI s ∧ hI h 69 6 = nI p ∧ (k = 2 → hI h 69 10 = nI v) ∧ (k = 3 → hI h 69 11 = nI v) ∧ (k = 4 → hI h 69 12 = nI v) ∧ (k = 8 → hI h 69 13 = nI v)
def kM (k v : Nat) : Nat := if k = 0 then 0 else if k = 1 then (if v = 37 then 4 else 6) else if k = 2 then 2 else if k = 3 then 1 else if k = 4 then 3 else if k < 8 then 4 else if v < 2 then 1 else if v < 9 then 5 else 4
def wM (k v : Nat) : Nat := if k = 1 then 37 else if k < 5 then v else if k = 5 then 59 else if k = 6 then 40 else if k = 7 then 41 else if v = 0 then 14 else if v = 1 then 13 else if v < 9 then v - 3 else if v = 9 then 43 else if v = 10 then 45 else if v = 11 then 42 else 47
/-- the reference's -/
def TKm (h : Hp) (k v s p : Nat) : Prop := hI h 107 8 = nI (kM k v) ∧ hI h 107 10 = nI s ∧ hI h 107 7 = nI p ∧ (2 ≤ k ∨ (k = 1 ∧ v = 37) → hI h 107 9 = nI (wM k v))
theorem x_word {h : Hp} {b : Nat → Nat} {n s : Nat} (tp : TPc h b n) (h3 : hI h 69 3 = nI n) (h6 : hI h 69 6 = nI s) (hs : s < n) (kc : ∀ i, i < 23 → hI h 71 i = nI (langN i)) (h11 : hI h 69 11 = -nI 1) (h8 : hI h 69 8 = nI s) : ∃ h', fX5_readWord h = some h' ∧ FNc h h' ∧ hI h' 69 9 = hI h 69 9 ∧ TKc h' (if 6 < (wdp b (n - s) s 0 0).1 - s then 1 else wkk (wdp b (n - s) s 0 0).2) (if 6 < (wdp b (n - s) s 0 0).1 - s then 0 else wkv (wdp b (n - s) s 0 0).2) s (wdp b (n - s) s 0 0).1 := by
  have h7 := tp.1
  have g1 := wdp_ge b (n - s) s 0 0
  have g2 := wdp_le b (n - s) s 0 0
  have gl := wdp_l b (n - s) s 0 0
  have hr : (wdp b (n - s) s 0 0).1 ≤ s + 6 → (wdp b (n - s) s 0 0).2 = hrN b s (wdp b (n - s) s 0 0).1 6 := fun q => wdp_hr q (n - s) s 0 0 rfl rfl (by rw [hrN, Nat.zero_mul])
  have x1 := x_wdp (b := b) (n := n) (n - s) s 0 0 FU (uI h 69 10 (nI 0)) (by omega) (by unfold FU; omega) (Nat.zero_le _) ⟨h7, fun i hi => by rw [hI_ne (by omega)]; exact tp.2 i hi⟩ (by rw [hI_ne (by omega)]; exact h3) (by rw [hI_ne (by omega)]; exact h6) (hI_at ⟨rfl, rfl⟩)
  generalize wdp b (n - s) s 0 0 = r at *
  obtain ⟨e, w⟩ := r
  simp only at *
  have e1 : fX5_readWord h = fX5_readWord_102 (uI (uI (uI h 69 10 (nI 0)) 69 10 (nI w)) 69 6 (nI e)) (nI 25 - nI (5 * (0 + (e - s)))) := by
    rw [← x1]; unfold fX5_readWord; simp only [lit]; rw [show nI 25 - nI (5 * 0) = nI 25 by decide]
  rw [uI_uI] at e1
  generalize hh : uI (uI h 69 10 (nI w)) 69 6 (nI e) = h1 at e1
  have o : ∀ a i, ¬ (a = 69 ∧ (i = 10 ∨ i = 6)) → hI h1 a i = hI h a i := fun a i q => by rw [← hh, hI_ne (by omega), hI_ne (by omega)]
  have o10 : hI h1 69 10 = nI w := by rw [← hh, hI_ne (by omega), hI_at ⟨rfl, rfl⟩]
  have o6 : hI h1 69 6 = nI e := by rw [← hh, hI_at ⟨rfl, rfl⟩]
  have f1 : FNc h h1 := by rw [← hh]; exact (Fr.rf.uI (by omega)).uI (by omega)
  rw [e1]
  unfold fX5_readWord_102
  simp (disch := omega) only [lit, Nat.zero_add, x_j6]
  by_cases q : 6 < e - s
  · have q' : ¬ e - s ≤ 6 := by omega
    rw [if_neg q', if_pos q, if_pos q]
    refine ⟨uI h1 69 7 (nI 1), ?_, f1.uI (by omega), by rw [hI_ne (by omega), o _ _ (by omega)], ?_⟩
    · unfold fX5_readWord_114
      obtain ⟨fu, hfu⟩ := FUs
      rw [hfu, fX5_readWord_119]
      simp (disch := omega) only [lit, ↓reduceIte, leF, hI_at, eqF, fX5_readWord_162, hI_ne, o, h11, m1_ne]
    · refine ⟨hI_at ⟨rfl, rfl⟩, by rw [hI_ne (by omega), o _ _ (by omega)]; exact h8, by rw [hI_ne (by omega)]; exact o6, fun z => absurd z (by decide), fun z => absurd z (by decide), fun z => absurd z (by decide), fun z => absurd z (by decide)⟩
  · have q' : e - s ≤ 6 := by omega
    have hw : w < 2 ^ 30 := by
      rw [hr (by omega)]; exact hrN_lt (fun i h1 h2 => gl i h1 h2) 6
    rw [if_pos q', if_neg q, if_neg q]
    have f2 : FNc h (uI h1 69 7 (nI 2)) := f1.uI (by omega)
    have c7 : hI (uI h1 69 7 (nI 2)) 69 7 = nI 2 := hI_at ⟨rfl, rfl⟩
    have c10 : hI (uI h1 69 7 (nI 2)) 69 10 = nI w := by rw [hI_ne (by omega)]; exact o10
    have c6 : hI (uI h1 69 7 (nI 2)) 69 6 = nI e := by rw [hI_ne (by omega)]; exact o6
    have c8 : hI (uI h1 69 7 (nI 2)) 69 8 = nI s := by rw [hI_ne (by omega), o _ _ (by omega)]; exact h8
    have c9 : hI (uI h1 69 7 (nI 2)) 69 9 = hI h 69 9 := by rw [hI_ne (by omega), o _ _ (by omega)]
    have c11 : hI (uI h1 69 7 (nI 2)) 69 11 = -nI 1 := by rw [hI_ne (by omega), o _ _ (by omega)]; exact h11
    have ck : ∀ i, i < 23 → hI (uI h1 69 7 (nI 2)) 71 i = nI (langN i) := fun i hi => by rw [hI_ne (by omega), o _ _ (by omega)]; exact kc i hi
    have l := x_wl (show w < 2 ^ 31 by omega) 23 0 FU (uI h1 69 7 (nI 2)) rfl (by decide) ck c10 c7
    unfold fX5_readWord_114
    simp only [lit]
    rw [l]
    generalize uI h1 69 7 (nI 2) = h2 at *
    show ∃ h', (if wix w < 23 then _ else _) = some h' ∧ _
    unfold wkk wkv
    by_cases z : wix w < 23
    · have g11 : hI (uI (uI h2 69 11 (nI (wix w))) 69 7 (nI 3)) 69 11 = nI (wix w) := by rw [hI_ne (by omega), hI_at ⟨rfl, rfl⟩]
      have f3 : FNc h (uI (uI h2 69 11 (nI (wix w))) 69 7 (nI 3)) := (f2.uI (by omega)).uI (by omega)
      have p6 : hI (uI (uI h2 69 11 (nI (wix w))) 69 7 (nI 3)) 69 6 = nI e := by rw [hI_ne (by omega), hI_ne (by omega)]; exact c6
      have p8 : hI (uI (uI h2 69 11 (nI (wix w))) 69 7 (nI 3)) 69 8 = nI s := by rw [hI_ne (by omega), hI_ne (by omega)]; exact c8
      have p9 : hI (uI (uI h2 69 11 (nI (wix w))) 69 7 (nI 3)) 69 9 = hI h 69 9 := by rw [hI_ne (by omega), hI_ne (by omega)]; exact c9
      have p7 : hI (uI (uI h2 69 11 (nI (wix w))) 69 7 (nI 3)) 69 7 = nI 3 := hI_at ⟨rfl, rfl⟩
      rw [if_pos z]
      show ∃ h', fX5_readWord_162 (uI (uI h2 69 11 (nI (wix w))) 69 7 (nI 3)) = some h' ∧ _
      generalize uI (uI h2 69 11 (nI (wix w))) 69 7 (nI 3) = h4 at *
      by_cases z3 : wix w = 13
      · rw [if_pos (Or.inl z3), if_pos z3]
        rw [z3] at g11
        refine ⟨uI (uI h4 69 7 (nI 8)) 69 13 (nI 0), ?_, (f3.uI (by omega)).uI (by omega), by rw [hI_ne (by omega), hI_ne (by omega)]; exact p9, by rw [hI_ne (by omega), hI_at ⟨rfl, rfl⟩], by rw [hI_ne (by omega), hI_ne (by omega)]; exact p8, by rw [hI_ne (by omega), hI_ne (by omega)]; exact p6, fun y => absurd y (by decide), fun y => absurd y (by decide), fun y => absurd y (by decide), fun _ => hI_at ⟨rfl, rfl⟩⟩
        unfold fX5_readWord_162 fX5_readWord_180
        simp (disch := omega) only [lit, g11, hI_ne, ↓reduceIte]
      · by_cases z4 : wix w = 14
        · rw [if_pos (Or.inr z4), if_neg z3, if_pos z4]
          rw [z4] at g11
          refine ⟨uI (uI h4 69 7 (nI 8)) 69 13 (nI 1), ?_, (f3.uI (by omega)).uI (by omega), by rw [hI_ne (by omega), hI_ne (by omega)]; exact p9, by rw [hI_ne (by omega), hI_at ⟨rfl, rfl⟩], by rw [hI_ne (by omega), hI_ne (by omega)]; exact p8, by rw [hI_ne (by omega), hI_ne (by omega)]; exact p6, fun y => absurd y (by decide), fun y => absurd y (by decide), fun y => absurd y (by decide), fun _ => hI_at ⟨rfl, rfl⟩⟩
          unfold fX5_readWord_162 fX5_readWord_180
          simp (disch := omega) only [lit, g11, hI_ne, ↓reduceIte, eqF]
        · rw [if_neg (by omega), if_pos z, if_neg z3, if_neg z4, if_pos z]
          refine ⟨h4, ?_, f3, p9, p7, p8, p6, fun y => absurd y (by decide), fun _ => g11, fun y => absurd y (by decide), fun y => absurd y (by decide)⟩
          unfold fX5_readWord_162
          simp (disch := omega) only [lit, g11, ↓reduceIte, eqF]
    · rw [if_neg z, if_neg (by omega), if_neg z, if_neg (by omega), if_neg (by omega), if_neg z]
      refine ⟨h2, ?_, f2, c9, c7, c8, c6, fun _ => c10, fun y => absurd y (by decide), fun y => absurd y (by decide), fun y => absurd y (by decide)⟩
      unfold fX5_readWord_162
      simp (disch := omega) only [lit, c11, ↓reduceIte, m1_ne]
