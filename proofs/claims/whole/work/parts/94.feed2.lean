/-! feed, of both. -/
section V
variable {hc hm : Hp} {S : Nat} {T : Tx}
theorem s_feed (s : R2 hc hm S T) (x1 x2 x3 x4 x5 : Int32) : Ok2 hc hm (fX9_feed hc x1 x2 x3 x4 x5) (fX10_feed hm x1 x2 x3 x4 x5) := by
  have s00 := s
  obtain ⟨⟨hS, t1, t2, F, Rc, Rm, ⟨k, hk7, c1, m1, tp⟩, fa, ⟨kc1, kc2, kc3⟩, km⟩, sW, sU, sI, sM⟩ := s
  by_cases hk : k + 20 ≤ 700
  · obtain ⟨h2, e1, e2, e3, e4⟩ := x_feed (x1 := x1) (x2 := x2) (x3 := x3) (x4 := x4) (x5 := x5) c1 hk
    have m2 : hI (uI hm 107 2 (0 : Int32)) 107 1 = nI k := by
      rw [hI_uI, if_neg (by omega), m1]
    obtain ⟨h4, f1, f2, f3, f4⟩ := m_feedL (x1 := x1) (x2 := x2) (x3 := x3) (x4 := x4) (x5 := x5) hk 20 0 FU (uI hm 107 2 (0 : Int32)) rfl (by decide) m2
    have ec : ∀ a i, a ≠ 70 → ¬ (a = 69 ∧ i = 1) → hI h2 a i = hI hc a i := fun a i q1 q2 => e4.1 a i (by omega)
    have em : ∀ a i, a ≠ 108 → ¬ (a = 107 ∧ (i = 1 ∨ i = 2)) → hI h4 a i = hI hm a i := fun a i q1 q2 => (f4.1 a i (by omega)).trans (hI_ne (by omega))
    have ej : ∀ a i, hJ h2 a i = hJ hc a i := fun a i => e4.2.1 a i
    have mj : ∀ a i, hJ h4 a i = hJ hm a i := fun a i => f4.2.1 a i
    have er : ∀ a i, hR h2 a i = hR hc a i := fun a i => e4.2.2 a i
    have mr : ∀ a i, hR h4 a i = hR hm a i := fun a i => f4.2.2 a i
    have fc : Fr (fun a i => a = 70 ∨ (a = 69 ∧ i = 1)) PN hc h2 := ⟨fun a i q => ec a i (by omega) (by omega), fun a i _ => ej a i, er⟩
    have fm : Fr (fun a i => a = 108 ∨ (a = 107 ∧ (i = 1 ∨ i = 2))) PN hm h4 := ⟨fun a i q => em a i (by omega) (by omega), fun a i _ => mj a i, mr⟩
    refine ⟨nI (k + 20), h2, h4, e1, ?_, ⟨S, T, ⟨hS, by rw [er]; exact t1, by rw [er]; exact t2, F, RSc_Fr hS Rc fc (fun a i _ _ => by omega), RSm_Fr Rm fm (fun a i _ => by omega), ⟨k + 20, hk, e2, f2, ?_⟩, ?_, ⟨?_, ?_, ?_⟩, ?_⟩, ?_, ?_, ?_, ?_⟩, ?_, ?_⟩
    · unfold fX10_feed
      rw [m2, show (20 : Int32) = nI 20 by decide, nI_add, if_pos (show nI (k + 20) ≤ (700 : Int32) from nI_le hk (by decide))]
      exact f1
    · intro i hi
      by_cases hik : i < k
      · obtain ⟨b, hb, b1, b2⟩ := tp i hik
        refine ⟨b, hb, ?_, ?_⟩
        · rw [f4.1 108 i (by omega), hI_ne (by omega), b1]
        · rw [e4.1 70 i (by omega), b2]
      · obtain ⟨j, rfl⟩ : ∃ j, i = k + j := ⟨i - k, by omega⟩
        obtain ⟨b, hb, b1, b2⟩ := by_both x1 x2 x3 x4 x5 (j := j) (by omega)
        refine ⟨b, hb, ?_, ?_⟩
        · rw [f3 j (by omega) (by omega), b1]
        · rw [e3 j (by omega), b2]
    · rw [ec _ _ (by omega) (by omega), ec _ _ (by omega) (by omega), em _ _ (by omega) (by omega), em _ _ (by omega) (by omega)]; exact fa
    · intro S' h'
      obtain ⟨b1, b2, b3, b4⟩ := kc1 S' h'
      have : S' ≤ 35 := by rcases h' with rfl | rfl <;> omega
      refine ⟨by rw [ec _ _ (by omega) (by omega)]; exact b1, by rw [ec _ _ (by omega) (by omega)]; exact b2, by rw [ec _ _ (by omega) (by omega)]; exact b3, fun w hw => by rw [er]; exact b4 w hw⟩
    · intro i hi; rw [ec _ _ (by omega) (by omega)]; exact kc2 i hi
    · intro i h1 h2; rw [ec _ _ (by omega) (by omega)]; exact kc3 i h1 h2
    · intro i hi; rw [em _ _ (by omega) (by omega)]; exact km i hi
    · exact StW_ag F sW (fun a i h1 h2 => ec _ _ (by omega) (by omega)) (er _ _) (fun a i q => em _ _ (by omega) (by omega)) (mj _ _)
    · exact RU_ag sU (fun a i q => ec _ _ (by omega) (by omega)) (fun a i q => em _ _ (by omega) (by omega))
    · exact RI_ag sI (fun a i q => ec _ _ (by omega) (by omega)) (er _ _) (fun a i q => em _ _ (by omega) (by omega)) (mj _ _)
    · exact RM_ag sM (fun a i q => ec _ _ (by omega) (by omega)) (fun a i q => em _ _ (by omega) (by omega))
    · exact FCl_Fr fc (fun a i q => by omega) (fun a i q => q.elim)
    · exact FMo_Fr fm (fun a i q => by omega) (fun a i q => q.elim)
  · have c : ¬ nI (k + 20) ≤ (700 : Int32) := by
      have : nI (700 : Nat) < nI (k + 20) := nI_lt (by omega) (by omega)
      exact Int32.not_le.mpr this
    refine ok_same s00 (v := -1) (x := 0) ?_ ?_
    · unfold fX9_feed
      rw [c1, show (20 : Int32) = nI 20 by decide, nI_add, if_neg c]
    · unfold fX10_feed
      have m2 : hI (uI hm 107 2 (0 : Int32)) 107 1 = nI k := by rw [hI_uI, if_neg (by omega), m1]
      rw [m2, show (20 : Int32) = nI 20 by decide, nI_add, if_neg c]
end V
