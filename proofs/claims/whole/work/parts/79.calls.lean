/-! debate, take, drop, undo: the calls. -/
section V
variable {hc hm : Hp} {S : Nat} {T : Tx}
theorem R2_call {hc' hm' : Hp} (s : R2 hc hm S T) (w : RW hc' hm' S 72 0 T) (u : RU hc' hm' T) (fi : ∀ a i, ¬ ((73 ≤ a ∧ a ≤ 76) ∨ (90 ≤ a ∧ a ≤ 96)) → hI hc' a i = hI hc a i) (fr : ∀ a i, hR hc' a i = hR hc a i) (mi : ∀ a i, ¬ ((137 ≤ a ∧ a ≤ 141) ∨ a = 149 ∨ (a = 107 ∧ (i = 2 ∨ i = 59 ∨ (68 ≤ i ∧ i ≤ 72) ∨ i = 80))) → hI hm' a i = hI hm a i) (mj : ∀ i, i = 67 ∨ i = 87 → hJ hm' 107 i = hJ hm 107 i) : R2 hc' hm' S T := by
  obtain ⟨a, ⟨b1, ⟨p1, p2, p3, p4, p5⟩, n, n1, n2, n3⟩, c, d, e⟩ := s
  refine ⟨StA_ag a (fun x i q => fi x i (by unfold relA at q; omega)) (fun x i q => fr x i) (fun x i q => mi x i (by unfold relMA at q; omega)), ⟨w, ⟨?_, ?_, ?_, ?_, ?_⟩, n, n1, ?_, ?_⟩, u, RI_ag d (fun x i q => fi x i (by omega)) (fr _ _) (fun x i q => mi x i (by omega)) (mj _ (by omega)), RM_ag e (fun x i q => fi x i (by omega)) (fun x i q => mi x i (by omega))⟩
  · rw [fi _ _ (by omega)]; exact p1
  · rw [fi _ _ (by omega)]; exact p2
  · rw [fi _ _ (by omega)]; exact p3
  · rw [fi _ _ (by omega)]; exact p4
  · rw [fi _ _ (by omega)]; exact p5
  · rw [fi _ _ (by omega)]; exact n2
  · rw [mj _ (by omega)]; exact n3
theorem full_m1 : ∀ g : Hp, (∀ i, hI g 73 i = hI hc 73 i) → fX8_fullOf 72 g (-nI 1) = some (nI 0, g) := by
  intro g _
  unfold fX8_fullOf
  simp only [lit]
  rw [if_pos (by decide)]
theorem full_s {s : Nat} (hs : s < 5) : ∀ g : Hp, (∀ i, hI g 73 i = hI hc 73 i) → fX8_fullOf 72 g (nI s) = some (hI hc 73 s, g) := by
  intro g hg
  unfold fX8_fullOf
  simp (disch := omega) only [lit, ↓reduceIte, ltF, leF, inbN, nI_clamp, rW5 (Or.inl rfl : isW 72)]
  rw [show (72 : Nat) + 1 = 73 from rfl, hg]
theorem s_debate (s : R2 hc hm S T) (x y : Int32) : Ok2 hc hm (fX9_debate hc x y) (fX10_debate hm x y) := by
  have s0 := R2_thr s (nI 0)
  have no : fX9_debate hc x y = some (-nI 1, hc) → fX10_debate hm x y = some (-nI 1, uI hm 107 2 (nI 0)) → Ok2 hc hm (fX9_debate hc x y) (fX10_debate hm x y) := fun h1 h2 => ok_same s h1 h2
  rcases v_member s0.1 x with ⟨m, hmM, rfl, e1, e2⟩ | ⟨e1, e2⟩
  · rcases v_straw s0.1 y with ⟨i, hi, rfl, e3, e4⟩ | ⟨e3, e4⟩
    · obtain ⟨hS, t1, t2, F, Rc, Rm, -⟩ := s0.1
      have hW : isW 72 := Or.inl rfl
      have h5 := F.1.2.2.1
      have h5m := F.1.2.2.2.1
      obtain ⟨w, pl, -⟩ := s0.2.1
      obtain ⟨sh, w6, w7, w8⟩ := w.2.2.2.2.2.1
      have hsh : sh < 2 ^ 31 := Nat.lt_of_lt_of_le w6 (Nat.pow_le_pow_right (by decide) (by omega))
      have w8' := w8 i (by omega)
      rw [show 5 * 0 + i = i by omega] at w8'
      by_cases qs : sh.testBit i = true
      · have hb : bn sh i = 1 := by unfold bn; rw [if_pos qs]
        rw [hb] at w8'
        refine ok_same s (v := -nI 2) (x := nI 0) ?_ ?_
        · unfold fX9_debate
          simp (disch := omega) only [lit, e1, e3, bnd_some, ↓reduceIte, eqF, fX8_inShed, ltF, leF, w7, shr1T, qs]
        · unfold fX10_debate
          simp (disch := omega) only [lit, e2, e4, bnd_some, ↓reduceIte, eqF, inbN, nI_clamp, w8']
      · have hb : bn sh i = 0 := by unfold bn; rw [if_neg qs]
        rw [hb] at w8'
        obtain ⟨hmP, p1, p2, p3⟩ := m_plain (h := uI hm 107 2 (nI 0))
        have sP : R2 hc hmP S T := R2_A s0 AskC.rf (AskM_Fr p3 (fun a i z => by unfold irM; omega) (fun _ _ z => z.elim))
        obtain ⟨n, p, n1, n2, n3, n4, n5, n6, n7⟩ := sP.2.2.1
        obtain ⟨hc1, r1, rc⟩ := x_record (m := m) (p := p) (n := n) (y := nI i) (by omega) n2 n1 n3 n4 (full_s (hc := hc) (s := i) (by omega))
        obtain ⟨hmR, q1, q2, q3, q4, q5⟩ := m_remember n1 n5
        have fr := rc.2.2.2.2.2.2.2.2
        have Rc1 : RSc hc1 S T := RSc_Fr hS sP.1.2.2.2.2.1 fr (fun a i h1 h2 q => by omega)
        have RmR : RSm hmR T := RSm_Fr sP.1.2.2.2.2.2.1 q5 (fun a i h1 q => by omega)
        have wR : RW hc1 hmR S 72 0 T := RW_ag h5 sP.2.1.1 (fun a i q => fr.1 _ _ (by omega)) (fr.2.2 _ _) (fun a i q => q5.1 _ _ (by omega))
        obtain ⟨win, hc2, hm2, b0, b1, b2, b3, b4, b5⟩ := s_contendW (nw := 0) (bw := 0) hS hW (by decide : 0 ≤ 1) Rc1 RmR F wR (by decide) (by rw [fr.1 _ _ (by omega)]; exact pl.2.2.1) (by rw [q5.1 _ _ (by omega)]; exact p2.2.2.1) (by decide) (by rw [fr.1 _ _ (by omega)]; exact pl.2.2.2.1) (by rw [q5.1 _ _ (by omega)]; exact p2.2.2.2.1) hmM hi
        have u : RU hc2 hm2 T := RU_step F sP.2.1.1 hmM n1 n2 n6 n7 rc q2 q3 q4 (Or.inr ⟨i, hi, rfl, rfl⟩) (fun a k q => b4.1 _ _ (by unfold PdI; omega)) (fun r k hr hk z1 z2 => by
          have hz : ¬ (r = 0 ∧ k = i) := fun z => z1 ⟨z.1, by rw [z.2]⟩
          rw [b4.1 _ _ (by unfold PdI; omega), fr.1 _ _ (by omega)]) (b5.1 _ _ (by unfold PeI; omega)) (fun k => b5.1 _ _ (by unfold PeI; omega))
        have hcA : fX9_debate hc (nI m) (nI i) = some (nI win, hc2) := by
          unfold fX9_debate
          simp (disch := omega) only [lit, e1, e3, bnd_some, ↓reduceIte, eqF, fX8_inShed, ltF, leF, w7, shr1T, qs, Bool.false_eq_true, r1, bind_some', b1]
          by_cases qw : win = 0
          · subst qw; rfl
          · have : win = 1 := by omega
            subst this; rw [if_neg (by decide)]
        have hmA : fX10_debate hm (nI m) (nI i) = some (nI win, hm2) := by
          unfold fX10_debate
          simp (disch := omega) only [lit, e2, e4, bnd_some, ↓reduceIte, eqF, inbN, nI_clamp, w8', p1, bind_some', q1, b2]
          by_cases qw : win = 0
          · subst qw; rfl
          · have : win = 1 := by omega
            subst this; rw [if_neg (by decide)]
        refine ⟨nI win, hc2, hm2, hcA, hmA, ⟨S, T, R2_call sP b3 u (fun a k q => ?_) (fun a k => ?_) (fun a k q => ?_) (fun k hk => ?_)⟩, ?_, ?_⟩
        · rw [b4.1 _ _ (by unfold PdI; omega), fr.1 _ _ (by omega)]
        · rw [b4.2.2, fr.2.2]
        · rw [b5.1 _ _ (by unfold PeI; omega), q5.1 _ _ (by omega)]
        · rw [b5.2.1 _ _ (by omega), q5.2.1 _ _ (fun z => z)]
        · exact FCl.tr (FCl_Fr fr (fun a k z => by omega) (fun _ _ z => z.elim)) (FCl_Fr b4 (fun a k z => by unfold PdI at z; omega) (fun a k z => by unfold PcJ at z; omega))
        · exact FMo.tr (FMo.tr (FMo_uI FMo.rf (by omega)) (FMo_Fr p3 (fun a k z => by omega) (fun _ _ z => z.elim))) (FMo.tr (FMo_Fr q5 (fun a k z => by omega) (fun _ _ z => z.elim)) (FMo_Fr b5 (fun a k z => by unfold PeI at z; omega) (fun a k z => by omega)))
    · refine no ?_ ?_
      · unfold fX9_debate; simp (disch := omega) only [lit, e1, e3, bnd_some, ↓reduceIte, eqF]
      · unfold fX10_debate; simp (disch := omega) only [lit, e2, e4, bnd_some, ↓reduceIte, eqF]
  · refine no ?_ ?_
    · unfold fX9_debate; simp (disch := omega) only [lit, e1, bnd_some, ↓reduceIte]
    · unfold fX10_debate; simp (disch := omega) only [lit, e2, bnd_some, ↓reduceIte]
/-- what he holds becomes k, and that can be undone -/
theorem s_hold {m k : Nat} (s : R2 hc hm S T) (hmM : m < T 0 3) (hk : k < 2 ^ T 0 0) : ∃ hc1 hmR, fX4_record 72 hc (nI m) (-nI 1) = some hc1 ∧ fX10_remember hm = some hmR ∧ (∀ i, hI hc1 74 i = hI hc 74 i) ∧ (∀ i, hI hmR 139 i = hI hm 139 i) ∧ R2 (uI hc1 74 m (nI k)) (uI hmR 139 m (nI k)) S T ∧ FCl hc (uI hc1 74 m (nI k)) ∧ FMo hm (uI hmR 139 m (nI k)) := by
  obtain ⟨hS, t1, t2, F, Rc, Rm, -⟩ := s.1
  have h5 := F.1.2.2.1
  have h5m := F.1.2.2.2.1
  obtain ⟨n, p, n1, n2, n3, n4, n5, n6, n7⟩ := s.2.2.1
  obtain ⟨hc1, r1, rc⟩ := x_record (m := m) (p := p) (n := n) (y := -nI 1) (by omega) n2 n1 n3 n4 (full_m1 (hc := hc))
  obtain ⟨hmR, q1, q2, q3, q4, q5⟩ := m_remember n1 n5
  have fr := rc.2.2.2.2.2.2.2.2
  have w : RW (uI hc1 74 m (nI k)) (uI hmR 139 m (nI k)) S 72 0 T := by
    obtain ⟨w1, w2, w3, w4, w5, ⟨sh, w6, w7, w8⟩, w9, w10⟩ := s.2.1.1
    refine ⟨by rw [hR_uI, fr.2.2]; exact w1, ?_, ?_, ?_, ?_, ⟨sh, w6, ?_, ?_⟩, ?_, ?_⟩
    · intro i hi; rw [hI_ne (by omega), hI_ne (by omega), fr.1 _ _ (by omega), q5.1 _ _ (by omega)]; exact w2 i hi
    · intro i hi h2; rw [hI_ne (by omega), fr.1 _ _ (by omega)]; exact w3 i hi h2
    · intro i hi
      by_cases q : i = m
      · subst q
        exact ⟨k, by rw [hB_lt hmM]; exact hk, hI_at ⟨rfl, rfl⟩, hI_at ⟨rfl, by omega⟩⟩
      · rw [hI_ne (by omega), hI_ne (by omega), fr.1 _ _ (by omega), q5.1 _ _ (by omega)]; exact w4 i hi
    · intro i hi; rw [hI_ne (by omega), hI_ne (by omega), hI_ne (by omega), hI_ne (by omega), fr.1 _ _ (by omega), fr.1 _ _ (by omega), q5.1 _ _ (by omega), q5.1 _ _ (by omega)]; exact w5 i hi
    · rw [hI_ne (by omega), fr.1 _ _ (by omega)]; exact w7
    · intro i hi; rw [hI_ne (by omega), q5.1 _ _ (by omega)]; exact w8 i hi
    · rw [hI_ne (by omega), hI_ne (by omega), fr.1 _ _ (by omega), q5.1 _ _ (by omega)]; exact w9
    · rw [hI_ne (by omega), hI_ne (by omega), fr.1 _ _ (by omega), q5.1 _ _ (by omega)]; exact w10
  have u : RU (uI hc1 74 m (nI k)) (uI hmR 139 m (nI k)) T := RU_step F s.2.1.1 hmM n1 n2 n6 n7 rc q2 q3 q4 (Or.inl rfl) (fun a i q => hI_ne (by omega)) (fun r i hr hi z1 z2 => by
    rw [hI_ne (by omega), fr.1 _ _ (by omega)]) (hI_ne (by omega)) (fun i => hI_ne (by omega))
  refine ⟨hc1, hmR, r1, q1, fun i => fr.1 _ _ (by omega), fun i => q5.1 _ _ (by omega), R2_call s w u (fun a i q => ?_) (fun a i => ?_) (fun a i q => ?_) (fun i hi => ?_), ?_, ?_⟩
  · rw [hI_ne (by omega), fr.1 _ _ (by omega)]
  · rw [hR_uI, fr.2.2]
  · rw [hI_ne (by omega), q5.1 _ _ (by omega)]
  · rw [hJ_uI, q5.2.1 _ _ (fun z => z)]
  · exact FCl_uI (FCl_Fr fr (fun a i z => by omega) (fun _ _ z => z.elim)) (by omega)
  · exact FMo_uI (FMo_Fr q5 (fun a i z => by omega) (fun _ _ z => z.elim)) (by omega)
theorem s_take (s : R2 hc hm S T) (x y : Int32) : Ok2 hc hm (fX9_take hc x y) (fX10_take hm x y) := by
  have s0 := R2_thr s (nI 0)
  have no : fX9_take hc x y = some (-nI 1, hc) → fX10_take hm x y = some (-nI 1, uI hm 107 2 (nI 0)) → Ok2 hc hm (fX9_take hc x y) (fX10_take hm x y) := fun h1 h2 => ok_same s h1 h2
  rcases v_member s0.1 x with ⟨m, hmM, rfl, e1, e2⟩ | ⟨e1, e2⟩
  · rcases v_claim s0.1 y with ⟨c, hc0, rfl, e3, e4⟩ | ⟨e3, e4⟩
    · obtain ⟨hS, t1, t2, F, Rc, Rm, -⟩ := s0.1
      have hW : isW 72 := Or.inl rfl
      have h5m := F.1.2.2.2.1
      have h8 := F.1.1
      obtain ⟨hl, l1, l2, l3⟩ := s0.2.1.1.2.2.2.1 m (by omega)
      rw [hB_lt hmM] at l1
      rw [show 5 * 0 + m = m by omega] at l3
      have h256 := p8 l1 h8
      by_cases q : hl.testBit c = true
      · refine no ?_ ?_
        · unfold fX9_take
          simp (disch := omega) only [lit, e1, e3, bnd_some, ↓reduceIte, eqF, fX8_holdsClaim, fX8_holdsOf, ltF, leF, inbN, nI_clamp, rW6 hW, l2, shr1T, q]
        · unfold fX10_take
          simp (disch := omega) only [lit, e2, e4, bnd_some, ↓reduceIte, eqF, inbN, nI_clamp, l3, fX10_isOf, shr1T, q]
      · have hk : hl ||| 2 ^ c < 2 ^ T 0 0 := Nat.or_lt_two_pow l1 (Nat.pow_lt_pow_right (by decide) hc0)
        have hk8 := p8 hk h8
        obtain ⟨hc1, hmR, r1, r2, r3, r4, r5, r6, r7⟩ := s_hold s0 hmM hk
        have l2' : hI hc1 (72 + 2) m = nI hl := by rw [show (72 : Nat) + 2 = 74 from rfl, r3]; exact l2
        have l3' : hI hmR 139 m = nI hl := by rw [r4]; exact l3
        refine ⟨nI (pop (hl ||| 2 ^ c)), uI hc1 74 m (nI (hl ||| 2 ^ c)), uI hmR 139 m (nI (hl ||| 2 ^ c)), ?_, ?_, ⟨S, T, r5⟩, r6, FMo.tr (FMo_uI FMo.rf (by omega)) r7⟩
        · unfold fX9_take
          simp (disch := omega) only [lit, e1, e3, bnd_some, ↓reduceIte, eqF, fX8_holdsClaim, fX8_holdsOf, ltF, leF, inbN, nI_clamp, rW6 hW, l2, shr1T, q, Bool.false_eq_true, r1, bind_some', l2', shl1, nx_o, fX8_setHolds, fX8_isMember]
          rw [show (72 : Nat) + 2 = 74 from rfl, hI_at ⟨rfl, rfl⟩, x_bc hk8]
          rfl
        · unfold fX10_take
          simp (disch := omega) only [lit, e2, e4, bnd_some, ↓reduceIte, eqF, inbN, nI_clamp, l3, fX10_isOf, shr1T, q, Bool.false_eq_true, r2, bind_some', l3', shl1, nx_o, hI_at, m_many]
    · refine no ?_ ?_
      · unfold fX9_take; simp (disch := omega) only [lit, e1, e3, bnd_some, ↓reduceIte, eqF]
      · unfold fX10_take; simp (disch := omega) only [lit, e2, e4, bnd_some, ↓reduceIte, eqF]
  · refine no ?_ ?_
    · unfold fX9_take; simp (disch := omega) only [lit, e1, bnd_some, ↓reduceIte]
    · unfold fX10_take; simp (disch := omega) only [lit, e2, bnd_some, ↓reduceIte]
theorem s_drop (s : R2 hc hm S T) (x y : Int32) : Ok2 hc hm (fX9_drop hc x y) (fX10_drop hm x y) := by
  have s0 := R2_thr s (nI 0)
  have no : fX9_drop hc x y = some (nI 0, hc) → fX10_drop hm x y = some (nI 0, uI hm 107 2 (nI 0)) → Ok2 hc hm (fX9_drop hc x y) (fX10_drop hm x y) := fun h1 h2 => ok_same s h1 h2
  rcases v_member s0.1 x with ⟨m, hmM, rfl, e1, e2⟩ | ⟨e1, e2⟩
  · rcases v_claim s0.1 y with ⟨c, hc0, rfl, e3, e4⟩ | ⟨e3, e4⟩
    · obtain ⟨hS, t1, t2, F, Rc, Rm, -⟩ := s0.1
      have hW : isW 72 := Or.inl rfl
      have h5m := F.1.2.2.2.1
      have h8 := F.1.1
      obtain ⟨hl, l1, l2, l3⟩ := s0.2.1.1.2.2.2.1 m (by omega)
      rw [hB_lt hmM] at l1
      rw [show 5 * 0 + m = m by omega] at l3
      have h256 := p8 l1 h8
      by_cases q : hl.testBit c = true
      · have hk : nob hl (2 ^ c) < 2 ^ T 0 0 := Nat.lt_of_le_of_lt (nob_le _ _) l1
        obtain ⟨hc1, hmR, r1, r2, r3, r4, r5, r6, r7⟩ := s_hold s0 hmM hk
        have l2' : hI hc1 (72 + 2) m = nI hl := by rw [show (72 : Nat) + 2 = 74 from rfl, r3]; exact l2
        have l3' : hI hmR 139 m = nI hl := by rw [r4]; exact l3
        refine ⟨nI 1, uI hc1 74 m (nI (nob hl (2 ^ c))), uI hmR 139 m (nI (nob hl (2 ^ c))), ?_, ?_, ⟨S, T, r5⟩, r6, FMo.tr (FMo_uI FMo.rf (by omega)) r7⟩
        · unfold fX9_drop
          simp (disch := omega) only [lit, e1, e3, bnd_some, ↓reduceIte, eqF, fX8_holdsClaim, fX8_holdsOf, ltF, leF, inbN, nI_clamp, rW6 hW, l2, shr1T, q, r1, bind_some', l2', shl1, nx_n, fX8_setHolds, fX8_isMember]
        · unfold fX10_drop
          simp (disch := omega) only [lit, e2, e4, bnd_some, ↓reduceIte, eqF, inbN, nI_clamp, l3, fX10_isOf, shr1T, q, r2, bind_some', l3', shl1, nx_n]
      · refine no ?_ ?_
        · unfold fX9_drop
          simp (disch := omega) only [lit, e1, e3, bnd_some, ↓reduceIte, eqF, fX8_holdsClaim, fX8_holdsOf, ltF, leF, inbN, nI_clamp, rW6 hW, l2, shr1T, q, Bool.false_eq_true]
        · unfold fX10_drop
          simp (disch := omega) only [lit, e2, e4, bnd_some, ↓reduceIte, eqF, inbN, nI_clamp, l3, fX10_isOf, shr1T, q, Bool.false_eq_true]
    · refine no ?_ ?_
      · unfold fX9_drop; simp (disch := omega) only [lit, e1, e3, bnd_some, ↓reduceIte, eqF]
      · unfold fX10_drop; simp (disch := omega) only [lit, e2, e4, bnd_some, ↓reduceIte, eqF]
  · refine no ?_ ?_
    · unfold fX9_drop; simp (disch := omega) only [lit, e1, bnd_some, ↓reduceIte]
    · unfold fX10_drop; simp (disch := omega) only [lit, e2, bnd_some, ↓reduceIte]
end V
