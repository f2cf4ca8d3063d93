/-! The law's loop: both sides stay in step. -/
def TextOk : Prop := ∀ (hc hm : Hp) (S : Nat) (T : Tx) (x : Int32), R2 hc hm S T → Ok2 hc hm (fX9_text hc x) (fX10_text hm x)
theorem R2_mid {h h1 : Hp} {S : Nat} {T : Tx} (s : R2 h h S T) (f : FCl h h1) : R2 h h1 S T :=
  R2_ask s (fun _ _ _ => rfl) (fun _ _ _ _ => rfl) (fun a i q => f.1 a i (by unfold irM at q; omega)) (fun i _ => f.2.1 _ _ (by omega))
theorem R2_end {h1 h2 : Hp} {S : Nat} {T : Tx} (s : R2 h1 h2 S T) (f : FMo h1 h2) : R2 h2 h2 S T :=
  R2_ask s (fun a i q => f.1 a i (by unfold irC at q; omega)) (fun a i _ _ => f.2.2 a i) (fun _ _ _ => rfl) (fun _ _ => rfl)
theorem join {α : Type} {oc om : Hp → Option (α × Hp)} (ok : ∀ hc hm S T, R2 hc hm S T → Ok2 hc hm (oc hc) (om hm)) {h : Hp} (R : ∃ S T, R2 h h S T) : ∃ v h1 h2, oc h = some (v, h1) ∧ om h1 = some (v, h2) ∧ ∃ S T, R2 h2 h2 S T := by
  obtain ⟨S, T, s⟩ := R
  obtain ⟨v, h1, m1, a1, -, -, a4, -⟩ := ok h h S T s
  obtain ⟨w, g1, h2, b1, b2, ⟨S', T', b3⟩, -, b5⟩ := ok h h1 S T (R2_mid s a4)
  rw [a1] at b1
  cases b1
  exact ⟨v, h1, h2, a1, b2, S', T', R2_end b3 b5⟩
section V
variable {L i : Nat} {xs : Nat → Int32} {h : Hp}
theorem lc_0 (hL : i + 6 ≤ L) (hL2 : L ≤ 3072) (R : ∃ S T, R2 h h S T) (kk : Hp → Option Unit) : ∃ h2, fLc_0 L xs kk h i = kk h2 ∧ ∃ S T, R2 h2 h2 S T := by
  obtain ⟨v, h1, h2, e1, e2, e3⟩ := join (oc := fun h => fX9_feed h (xs (i + 1)) (xs (i + 2)) (xs (i + 3)) (xs (i + 4)) (xs (i + 5))) (om := fun h => fX10_feed h (xs (i + 1)) (xs (i + 2)) (xs (i + 3)) (xs (i + 4)) (xs (i + 5))) (fun hc hm S T s => s_feed s _ _ _ _ _) R
  refine ⟨h2, ?_, e3⟩
  unfold fLc_0
  simp (disch := omega) only [lit, nI_add, inbN, ↓reduceIte, nI_clamp, e1, e2, bnd_some]
theorem lc_1 (hT : TextOk) (hL : i + 6 ≤ L) (hL2 : L ≤ 3072) (R : ∃ S T, R2 h h S T) (kk : Hp → Option Unit) : ∃ h2, fLc_1 L xs kk h i = kk h2 ∧ ∃ S T, R2 h2 h2 S T := by
  obtain ⟨v, h1, h2, e1, e2, e3⟩ := join (oc := fun h => fX9_text h (xs (i + 1))) (om := fun h => fX10_text h (xs (i + 1))) (fun hc hm S T s => hT hc hm S T _ s) R
  refine ⟨h2, ?_, e3⟩
  unfold fLc_1
  simp (disch := omega) only [lit, nI_add, inbN, ↓reduceIte, nI_clamp, e1, e2, bnd_some]
theorem lc_2 (hL : i + 6 ≤ L) (hL2 : L ≤ 3072) (R : ∃ S T, R2 h h S T) (kk : Hp → Option Unit) : ∃ h2, fLc_2 L xs kk h i = kk h2 ∧ ∃ S T, R2 h2 h2 S T := by
  obtain ⟨v, h1, h2, e1, e2, e3⟩ := join (oc := fun h => fX9_fault h (xs (i + 1))) (om := fun h => fX10_fault h (xs (i + 1))) (fun hc hm S T s => s_fault s _) R
  refine ⟨h2, ?_, e3⟩
  unfold fLc_2
  simp (disch := omega) only [lit, nI_add, inbN, ↓reduceIte, nI_clamp, e1, e2, bnd_some]
theorem lc_3 (hL : i + 6 ≤ L) (hL2 : L ≤ 3072) (R : ∃ S T, R2 h h S T) (kk : Hp → Option Unit) : ∃ h2, fLc_3 L xs kk h i = kk h2 ∧ ∃ S T, R2 h2 h2 S T := by
  obtain ⟨v, h1, h2, e1, e2, e3⟩ := join (oc := fun h => fX9_named h (xs (i + 1)) (xs (i + 2))) (om := fun h => fX10_named h (xs (i + 1)) (xs (i + 2))) (fun hc hm S T s => s_named s _ _) R
  refine ⟨h2, ?_, e3⟩
  unfold fLc_3
  simp (disch := omega) only [lit, nI_add, inbN, ↓reduceIte, nI_clamp, e1, e2, bnd_some]
theorem lc_4 (hL : i + 6 ≤ L) (hL2 : L ≤ 3072) (R : ∃ S T, R2 h h S T) (kk : Hp → Option Unit) : ∃ h2, fLc_4 L xs kk h i = kk h2 ∧ ∃ S T, R2 h2 h2 S T := by
  obtain ⟨S, T, s⟩ := R
  obtain ⟨k1, v1, h1, m1, a1, -, -, -, -, a6, a7, a8, -⟩ := s_claim s (xs (i + 1)) (xs (i + 2))
  have s1 : R2 h h1 S T := R2_ask s (fun _ _ _ => rfl) (fun _ _ _ _ => rfl) (fun a i _ => a6 a i) (fun i _ => a7 _ _ (by omega))
  obtain ⟨k2, v2, g1, h2, b1, b2, b3, b4, ⟨S', T', b5⟩, -, -, -, b9⟩ := s_claim s1 (xs (i + 1)) (xs (i + 2))
  rw [a1] at b1
  cases b1
  refine ⟨h2, ?_, S', T', R2_end b5 b9⟩
  have ej : hJ h2 152 0 = hJ h1 152 0 := b9.2.1 _ _ (by omega)
  unfold fLc_4
  simp (disch := omega) only [lit, nI_add, inbN, ↓reduceIte, nI_clamp, a1, b2, bnd_some, fX10_thrown, b3]
  by_cases q : k1 = nI 0
  · simp (disch := omega) only [q, ↓reduceIte, ej, b4 q, lgc_eq]
  · simp (disch := omega) only [q, ↓reduceIte]
theorem lc_5 (hL : i + 6 ≤ L) (hL2 : L ≤ 3072) (R : ∃ S T, R2 h h S T) (kk : Hp → Option Unit) : ∃ h2, fLc_5 L xs kk h i = kk h2 ∧ ∃ S T, R2 h2 h2 S T := by
  obtain ⟨v, h1, h2, e1, e2, e3⟩ := join (oc := fun h => fX9_straw h (xs (i + 1)) (xs (i + 2))) (om := fun h => fX10_straw h (xs (i + 1)) (xs (i + 2))) (fun hc hm S T s => s_straw s _ _) R
  refine ⟨h2, ?_, e3⟩
  unfold fLc_5
  simp (disch := omega) only [lit, nI_add, inbN, ↓reduceIte, nI_clamp, e1, e2, bnd_some]
theorem lc_6 (hL : i + 6 ≤ L) (hL2 : L ≤ 3072) (R : ∃ S T, R2 h h S T) (kk : Hp → Option Unit) : ∃ h2, fLc_6 L xs kk h i = kk h2 ∧ ∃ S T, R2 h2 h2 S T := by
  obtain ⟨v, h1, h2, e1, e2, e3⟩ := join (oc := fun h => fX9_member h (xs (i + 1)) (xs (i + 2))) (om := fun h => fX10_member h (xs (i + 1)) (xs (i + 2))) (fun hc hm S T s => s_member s _ _) R
  refine ⟨h2, ?_, e3⟩
  unfold fLc_6
  simp (disch := omega) only [lit, nI_add, inbN, ↓reduceIte, nI_clamp, e1, e2, bnd_some]
theorem lc_7 (hL : i + 6 ≤ L) (hL2 : L ≤ 3072) (R : ∃ S T, R2 h h S T) (kk : Hp → Option Unit) : ∃ h2, fLc_7 L xs kk h i = kk h2 ∧ ∃ S T, R2 h2 h2 S T := by
  obtain ⟨v, h1, h2, e1, e2, e3⟩ := join (oc := fun h => fX9_force h (xs (i + 1)) (xs (i + 2))) (om := fun h => fX10_force h (xs (i + 1)) (xs (i + 2))) (fun hc hm S T s => s_force s _ _) R
  refine ⟨h2, ?_, e3⟩
  unfold fLc_7
  simp (disch := omega) only [lit, nI_add, inbN, ↓reduceIte, nI_clamp, e1, e2, bnd_some]
theorem lc_8 (hL : i + 6 ≤ L) (hL2 : L ≤ 3072) (R : ∃ S T, R2 h h S T) (kk : Hp → Option Unit) : ∃ h2, fLc_8 L xs kk h i = kk h2 ∧ ∃ S T, R2 h2 h2 S T := by
  obtain ⟨v, h1, h2, e1, e2, e3⟩ := join (oc := fun h => fX9_law h (xs (i + 1)) (xs (i + 2)) (xs (i + 3))) (om := fun h => fX10_law h (xs (i + 1)) (xs (i + 2)) (xs (i + 3))) (fun hc hm S T s => s_law s _ _ _) R
  refine ⟨h2, ?_, e3⟩
  unfold fLc_8
  simp (disch := omega) only [lit, nI_add, inbN, ↓reduceIte, nI_clamp, e1, e2, bnd_some, lgc_eq]
theorem lc_9 (hL : i + 6 ≤ L) (hL2 : L ≤ 3072) (R : ∃ S T, R2 h h S T) (kk : Hp → Option Unit) : ∃ h2, fLc_9 L xs kk h i = kk h2 ∧ ∃ S T, R2 h2 h2 S T := by
  obtain ⟨v, h1, h2, e1, e2, e3⟩ := join (oc := fun h => fX9_debate h (xs (i + 1)) (xs (i + 2))) (om := fun h => fX10_debate h (xs (i + 1)) (xs (i + 2))) (fun hc hm S T s => s_debate s _ _) R
  refine ⟨h2, ?_, e3⟩
  unfold fLc_9
  simp (disch := omega) only [lit, nI_add, inbN, ↓reduceIte, nI_clamp, e1, e2, bnd_some]
theorem lc_10 (hL : i + 6 ≤ L) (hL2 : L ≤ 3072) (R : ∃ S T, R2 h h S T) (kk : Hp → Option Unit) : ∃ h2, fLc_10 L xs kk h i = kk h2 ∧ ∃ S T, R2 h2 h2 S T := by
  obtain ⟨v, h1, h2, e1, e2, e3⟩ := join (oc := fun h => fX9_take h (xs (i + 1)) (xs (i + 2))) (om := fun h => fX10_take h (xs (i + 1)) (xs (i + 2))) (fun hc hm S T s => s_take s _ _) R
  refine ⟨h2, ?_, e3⟩
  unfold fLc_10
  simp (disch := omega) only [lit, nI_add, inbN, ↓reduceIte, nI_clamp, e1, e2, bnd_some]
theorem lc_11 (hL : i + 6 ≤ L) (hL2 : L ≤ 3072) (R : ∃ S T, R2 h h S T) (kk : Hp → Option Unit) : ∃ h2, fLc_11 L xs kk h i = kk h2 ∧ ∃ S T, R2 h2 h2 S T := by
  obtain ⟨v, h1, h2, e1, e2, e3⟩ := join (oc := fun h => fX9_drop h (xs (i + 1)) (xs (i + 2))) (om := fun h => fX10_drop h (xs (i + 1)) (xs (i + 2))) (fun hc hm S T s => s_drop s _ _) R
  refine ⟨h2, ?_, e3⟩
  unfold fLc_11
  simp (disch := omega) only [lit, nI_add, inbN, ↓reduceIte, nI_clamp, e1, e2, bnd_some]
theorem lc_12 (hL : i + 6 ≤ L) (hL2 : L ≤ 3072) (R : ∃ S T, R2 h h S T) (kk : Hp → Option Unit) : ∃ h2, fLc_12 L xs kk h i = kk h2 ∧ ∃ S T, R2 h2 h2 S T := by
  obtain ⟨v, h1, h2, e1, e2, e3⟩ := join (oc := fun h => fX9_go h (xs (i + 1))) (om := fun h => fX10_go h (xs (i + 1))) (fun hc hm S T s => s_go s _) R
  refine ⟨h2, ?_, e3⟩
  unfold fLc_12
  simp (disch := omega) only [lit, nI_add, inbN, ↓reduceIte, nI_clamp, e1, e2, bnd_some]
theorem lc_13 (hL : i + 6 ≤ L) (hL2 : L ≤ 3072) (R : ∃ S T, R2 h h S T) (kk : Hp → Option Unit) : ∃ h2, fLc_13 L xs kk h i = kk h2 ∧ ∃ S T, R2 h2 h2 S T := by
  obtain ⟨v, h1, h2, e1, e2, e3⟩ := join (oc := fun h => fX9_ahead h (xs (i + 1)) (xs (i + 2)) (xs (i + 3))) (om := fun h => fX10_ahead h (xs (i + 1)) (xs (i + 2)) (xs (i + 3))) (fun hc hm S T s => s_ahead s _ _ _) R
  refine ⟨h2, ?_, e3⟩
  unfold fLc_13
  simp (disch := omega) only [lit, nI_add, inbN, ↓reduceIte, nI_clamp, e1, e2, bnd_some]
theorem lc_14 (hL : i + 6 ≤ L) (hL2 : L ≤ 3072) (R : ∃ S T, R2 h h S T) (kk : Hp → Option Unit) : ∃ h2, fLc_14 L xs kk h i = kk h2 ∧ ∃ S T, R2 h2 h2 S T := by
  obtain ⟨v, h1, h2, e1, e2, e3⟩ := join (oc := fun h => fX9_sheds h (xs (i + 1))) (om := fun h => fX10_sheds h (xs (i + 1))) (fun hc hm S T s => s_sheds s _) R
  refine ⟨h2, ?_, e3⟩
  unfold fLc_14
  simp (disch := omega) only [lit, nI_add, inbN, ↓reduceIte, nI_clamp, e1, e2, bnd_some]
theorem lc_15 (hL : i + 6 ≤ L) (hL2 : L ≤ 3072) (R : ∃ S T, R2 h h S T) (kk : Hp → Option Unit) : ∃ h2, fLc_15 L xs kk h i = kk h2 ∧ ∃ S T, R2 h2 h2 S T := by
  obtain ⟨v, h1, h2, e1, e2, e3⟩ := join (oc := fun h => fX9_set h (xs (i + 1)) (xs (i + 2))) (om := fun h => fX10_set h (xs (i + 1)) (xs (i + 2))) (fun hc hm S T s => s_set s _ _) R
  refine ⟨h2, ?_, e3⟩
  unfold fLc_15
  simp (disch := omega) only [lit, nI_add, inbN, ↓reduceIte, nI_clamp, e1, e2, bnd_some]
theorem lc_16 (hL : i + 6 ≤ L) (hL2 : L ≤ 3072) (R : ∃ S T, R2 h h S T) (kk : Hp → Option Unit) : ∃ h2, fLc_16 L xs kk h i = kk h2 ∧ ∃ S T, R2 h2 h2 S T := by
  obtain ⟨v, h1, h2, e1, e2, e3⟩ := join (oc := fun h => fX9_standing h (xs (i + 1))) (om := fun h => fX10_standing h (xs (i + 1))) (fun hc hm S T s => s_standing s _) R
  refine ⟨h2, ?_, e3⟩
  unfold fLc_16
  simp (disch := omega) only [lit, nI_add, inbN, ↓reduceIte, nI_clamp, e1, e2, bnd_some]
theorem lc_17 (hL : i + 6 ≤ L) (hL2 : L ≤ 3072) (R : ∃ S T, R2 h h S T) (kk : Hp → Option Unit) : ∃ h2, fLc_17 L xs kk h i = kk h2 ∧ ∃ S T, R2 h2 h2 S T := by
  obtain ⟨v, h1, h2, e1, e2, e3⟩ := join (oc := fun h => fX9_stand h (xs (i + 1))) (om := fun h => fX10_stand h (xs (i + 1))) (fun hc hm S T s => s_stand s _) R
  refine ⟨h2, ?_, e3⟩
  unfold fLc_17
  simp (disch := omega) only [lit, nI_add, inbN, ↓reduceIte, nI_clamp, e1, e2, bnd_some]
theorem lc_18 (hL : i + 6 ≤ L) (hL2 : L ≤ 3072) (R : ∃ S T, R2 h h S T) (kk : Hp → Option Unit) : ∃ h2, fLc_18 L xs kk h i = kk h2 ∧ ∃ S T, R2 h2 h2 S T := by
  obtain ⟨v, h1, h2, e1, e2, e3⟩ := join (oc := fun h => fX9_ground h) (om := fun h => fX10_ground h) (fun hc hm S T s => s_ground s) R
  refine ⟨h2, ?_, e3⟩
  unfold fLc_18
  simp (disch := omega) only [lit, nI_add, inbN, ↓reduceIte, nI_clamp, e1, e2, bnd_some]
theorem lc_19 (hL : i + 6 ≤ L) (hL2 : L ≤ 3072) (R : ∃ S T, R2 h h S T) (kk : Hp → Option Unit) : ∃ h2, fLc_19 L xs kk h i = kk h2 ∧ ∃ S T, R2 h2 h2 S T := by
  obtain ⟨v, h1, h2, e1, e2, e3⟩ := join (oc := fun h => fX9_largest h) (om := fun h => fX10_largest h) (fun hc hm S T s => s_largest s) R
  refine ⟨h2, ?_, e3⟩
  unfold fLc_19
  simp (disch := omega) only [lit, nI_add, inbN, ↓reduceIte, nI_clamp, e1, e2, bnd_some]
theorem lc_20 (hL : i + 6 ≤ L) (hL2 : L ≤ 3072) (R : ∃ S T, R2 h h S T) (kk : Hp → Option Unit) : ∃ h2, fLc_20 L xs kk h i = kk h2 ∧ ∃ S T, R2 h2 h2 S T := by
  obtain ⟨v, h1, h2, e1, e2, e3⟩ := join (oc := fun h => fX9_replies h (xs (i + 1)) (xs (i + 2))) (om := fun h => fX10_replies h (xs (i + 1)) (xs (i + 2))) (fun hc hm S T s => s_replies s _ _) R
  refine ⟨h2, ?_, e3⟩
  unfold fLc_20
  simp (disch := omega) only [lit, nI_add, inbN, ↓reduceIte, nI_clamp, e1, e2, bnd_some]
theorem lc_21 (hL : i + 6 ≤ L) (hL2 : L ≤ 3072) (R : ∃ S T, R2 h h S T) (kk : Hp → Option Unit) : ∃ h2, fLc_21 L xs kk h i = kk h2 ∧ ∃ S T, R2 h2 h2 S T := by
  obtain ⟨v, h1, h2, e1, e2, e3⟩ := join (oc := fun h => fX9_weaker h (xs (i + 1))) (om := fun h => fX10_weaker h (xs (i + 1))) (fun hc hm S T s => s_weaker s _) R
  refine ⟨h2, ?_, e3⟩
  unfold fLc_21
  simp (disch := omega) only [lit, nI_add, inbN, ↓reduceIte, nI_clamp, e1, e2, bnd_some]
theorem lc_22 (hL : i + 6 ≤ L) (hL2 : L ≤ 3072) (R : ∃ S T, R2 h h S T) (kk : Hp → Option Unit) : ∃ h2, fLc_22 L xs kk h i = kk h2 ∧ ∃ S T, R2 h2 h2 S T := by
  obtain ⟨v, h1, h2, e1, e2, e3⟩ := join (oc := fun h => fX9_dropFor h (xs (i + 1)) (xs (i + 2))) (om := fun h => fX10_dropFor h (xs (i + 1)) (xs (i + 2))) (fun hc hm S T s => s_dropFor s _ _) R
  refine ⟨h2, ?_, e3⟩
  unfold fLc_22
  simp (disch := omega) only [lit, nI_add, inbN, ↓reduceIte, nI_clamp, e1, e2, bnd_some]
theorem lc_23 (hL : i + 6 ≤ L) (hL2 : L ≤ 3072) (R : ∃ S T, R2 h h S T) (kk : Hp → Option Unit) : ∃ h2, fLc_23 L xs kk h i = kk h2 ∧ ∃ S T, R2 h2 h2 S T := by
  obtain ⟨v, h1, h2, e1, e2, e3⟩ := join (oc := fun h => fX9_points h (xs (i + 1)) (xs (i + 2))) (om := fun h => fX10_points h (xs (i + 1)) (xs (i + 2))) (fun hc hm S T s => s_points s _ _) R
  refine ⟨h2, ?_, e3⟩
  unfold fLc_23
  simp (disch := omega) only [lit, nI_add, inbN, ↓reduceIte, nI_clamp, e1, e2, bnd_some]
theorem lc_24 (hL : i + 6 ≤ L) (hL2 : L ≤ 3072) (R : ∃ S T, R2 h h S T) (kk : Hp → Option Unit) : ∃ h2, fLc_24 L xs kk h i = kk h2 ∧ ∃ S T, R2 h2 h2 S T := by
  obtain ⟨v, h1, h2, e1, e2, e3⟩ := join (oc := fun h => fX9_agreed h (xs (i + 1)) (xs (i + 2))) (om := fun h => fX10_agreed h (xs (i + 1)) (xs (i + 2))) (fun hc hm S T s => s_agreed s _ _) R
  refine ⟨h2, ?_, e3⟩
  unfold fLc_24
  simp (disch := omega) only [lit, nI_add, inbN, ↓reduceIte, nI_clamp, e1, e2, bnd_some]
theorem lc_25 (hL : i + 6 ≤ L) (hL2 : L ≤ 3072) (R : ∃ S T, R2 h h S T) (kk : Hp → Option Unit) : ∃ h2, fLc_25 L xs kk h i = kk h2 ∧ ∃ S T, R2 h2 h2 S T := by
  obtain ⟨v, h1, h2, e1, e2, e3⟩ := join (oc := fun h => fX9_match h (xs (i + 1))) (om := fun h => fX10_match h (xs (i + 1))) (fun hc hm S T s => s_match s _) R
  refine ⟨h2, ?_, e3⟩
  unfold fLc_25
  simp (disch := omega) only [lit, nI_add, inbN, ↓reduceIte, nI_clamp, e1, e2, bnd_some]
theorem lc_26 (hL : i + 6 ≤ L) (hL2 : L ≤ 3072) (R : ∃ S T, R2 h h S T) (kk : Hp → Option Unit) : ∃ h2, fLc_26 L xs kk h i = kk h2 ∧ ∃ S T, R2 h2 h2 S T := by
  obtain ⟨v, h1, h2, e1, e2, e3⟩ := join (oc := fun h => fX9_rests h (xs (i + 1)) (xs (i + 2))) (om := fun h => fX10_rests h (xs (i + 1)) (xs (i + 2))) (fun hc hm S T s => s_rests s _ _) R
  refine ⟨h2, ?_, e3⟩
  unfold fLc_26
  simp (disch := omega) only [lit, nI_add, inbN, ↓reduceIte, nI_clamp, e1, e2, bnd_some]
theorem lc_27 (hL : i + 6 ≤ L) (hL2 : L ≤ 3072) (R : ∃ S T, R2 h h S T) (kk : Hp → Option Unit) : ∃ h2, fLc_27 L xs kk h i = kk h2 ∧ ∃ S T, R2 h2 h2 S T := by
  obtain ⟨v, h1, h2, e1, e2, e3⟩ := join (oc := fun h => fX9_rest h (xs (i + 1)) (xs (i + 2)) (xs (i + 3))) (om := fun h => fX10_rest h (xs (i + 1)) (xs (i + 2)) (xs (i + 3))) (fun hc hm S T s => s_rest s _ _ _) R
  refine ⟨h2, ?_, e3⟩
  unfold fLc_27
  simp (disch := omega) only [lit, nI_add, inbN, ↓reduceIte, nI_clamp, e1, e2, bnd_some]
theorem lc_28 (hL : i + 6 ≤ L) (hL2 : L ≤ 3072) (R : ∃ S T, R2 h h S T) (kk : Hp → Option Unit) : ∃ h2, fLc_28 L xs kk h i = kk h2 ∧ ∃ S T, R2 h2 h2 S T := by
  obtain ⟨v, h1, h2, e1, e2, e3⟩ := join (oc := fun h => fX9_dry h (xs (i + 1)) (xs (i + 2))) (om := fun h => fX10_dry h (xs (i + 1)) (xs (i + 2))) (fun hc hm S T s => s_dry s _ _) R
  refine ⟨h2, ?_, e3⟩
  unfold fLc_28
  simp (disch := omega) only [lit, nI_add, inbN, ↓reduceIte, nI_clamp, e1, e2, bnd_some, lgc_eq]
theorem lc_29 (hL : i + 6 ≤ L) (hL2 : L ≤ 3072) (R : ∃ S T, R2 h h S T) (kk : Hp → Option Unit) : ∃ h2, fLc_29 L xs kk h i = kk h2 ∧ ∃ S T, R2 h2 h2 S T := by
  by_cases q : xs (i + 4) = nI 0
  · obtain ⟨v, h1, h2, e1, e2, e3⟩ := join (oc := fun h => fX9_see h (xs (i + 1)) (xs (i + 2)) (xs (i + 3)) (nI 0)) (om := fun h => fX10_see h (xs (i + 1)) (xs (i + 2)) (xs (i + 3)) (nI 0)) (fun hc hm S T s => s_see s _ _ _ 0 (by omega)) R
    refine ⟨h2, ?_, e3⟩
    unfold fLc_29
    simp (disch := omega) only [lit, nI_add, inbN, ↓reduceIte, nI_clamp, q, e1, e2, bnd_some]
  · obtain ⟨v, h1, h2, e1, e2, e3⟩ := join (oc := fun h => fX9_see h (xs (i + 1)) (xs (i + 2)) (xs (i + 3)) (nI 1)) (om := fun h => fX10_see h (xs (i + 1)) (xs (i + 2)) (xs (i + 3)) (nI 1)) (fun hc hm S T s => s_see s _ _ _ 1 (by omega)) R
    refine ⟨h2, ?_, e3⟩
    unfold fLc_29
    simp (disch := omega) only [lit, nI_add, inbN, ↓reduceIte, nI_clamp, q, e1, e2, bnd_some]
theorem lc_30 (hL : i + 6 ≤ L) (hL2 : L ≤ 3072) (R : ∃ S T, R2 h h S T) (kk : Hp → Option Unit) : ∃ h2, fLc_30 L xs kk h i = kk h2 ∧ ∃ S T, R2 h2 h2 S T := by
  obtain ⟨v, h1, h2, e1, e2, e3⟩ := join (oc := fun h => fX9_strike h (xs (i + 1))) (om := fun h => fX10_strike h (xs (i + 1))) (fun hc hm S T s => s_strike s _) R
  refine ⟨h2, ?_, e3⟩
  unfold fLc_30
  simp (disch := omega) only [lit, nI_add, inbN, ↓reduceIte, nI_clamp, e1, e2, bnd_some]
theorem lc_31 (hL : i + 6 ≤ L) (hL2 : L ≤ 3072) (R : ∃ S T, R2 h h S T) (kk : Hp → Option Unit) : ∃ h2, fLc_31 L xs kk h i = kk h2 ∧ ∃ S T, R2 h2 h2 S T := by
  obtain ⟨v, h1, h2, e1, e2, e3⟩ := join (oc := fun h => fX9_known h (xs (i + 1))) (om := fun h => fX10_known h (xs (i + 1))) (fun hc hm S T s => s_known s _) R
  refine ⟨h2, ?_, e3⟩
  unfold fLc_31
  simp (disch := omega) only [lit, nI_add, inbN, ↓reduceIte, nI_clamp, e1, e2, bnd_some]
theorem lc_32 (hL : i + 6 ≤ L) (hL2 : L ≤ 3072) (R : ∃ S T, R2 h h S T) (kk : Hp → Option Unit) : ∃ h2, fLc_32 L xs kk h i = kk h2 ∧ ∃ S T, R2 h2 h2 S T := by
  obtain ⟨v, h1, h2, e1, e2, e3⟩ := join (oc := fun h => fX9_held h (xs (i + 1))) (om := fun h => fX10_held h (xs (i + 1))) (fun hc hm S T s => s_held s _) R
  refine ⟨h2, ?_, e3⟩
  unfold fLc_32
  simp (disch := omega) only [lit, nI_add, inbN, ↓reduceIte, nI_clamp, e1, e2, bnd_some]
theorem lc_33 (hL : i + 6 ≤ L) (hL2 : L ≤ 3072) (R : ∃ S T, R2 h h S T) (kk : Hp → Option Unit) : ∃ h2, fLc_33 L xs kk h i = kk h2 ∧ ∃ S T, R2 h2 h2 S T := by
  obtain ⟨v, h1, h2, e1, e2, e3⟩ := join (oc := fun h => fX9_ask h (xs (i + 1)) (xs (i + 2))) (om := fun h => fX10_ask h (xs (i + 1)) (xs (i + 2))) (fun hc hm S T s => s_ask s _ _) R
  refine ⟨h2, ?_, e3⟩
  unfold fLc_33
  simp (disch := omega) only [lit, nI_add, inbN, ↓reduceIte, nI_clamp, e1, e2, bnd_some]
theorem lc_34 (hL : i + 6 ≤ L) (hL2 : L ≤ 3072) (R : ∃ S T, R2 h h S T) (kk : Hp → Option Unit) : ∃ h2, fLc_34 L xs kk h i = kk h2 ∧ ∃ S T, R2 h2 h2 S T := by
  obtain ⟨v, h1, h2, e1, e2, e3⟩ := join (oc := fun h => fX9_chance h (xs (i + 1)) (xs (i + 2)) (xs (i + 3))) (om := fun h => fX10_chance h (xs (i + 1)) (xs (i + 2)) (xs (i + 3))) (fun hc hm S T s => s_chance s _ _ _) R
  refine ⟨h2, ?_, e3⟩
  unfold fLc_34
  simp (disch := omega) only [lit, nI_add, inbN, ↓reduceIte, nI_clamp, e1, e2, bnd_some]
theorem lc_35 (hL : i + 6 ≤ L) (hL2 : L ≤ 3072) (R : ∃ S T, R2 h h S T) (kk : Hp → Option Unit) : ∃ h2, fLc_35 L xs kk h i = kk h2 ∧ ∃ S T, R2 h2 h2 S T := by
  obtain ⟨v, h1, h2, e1, e2, e3⟩ := join (oc := fun h => fX9_tried h (xs (i + 1)) (xs (i + 2)) (xs (i + 3))) (om := fun h => fX10_tried h (xs (i + 1)) (xs (i + 2)) (xs (i + 3))) (fun hc hm S T s => s_tried s _ _ _) R
  refine ⟨h2, ?_, e3⟩
  unfold fLc_35
  simp (disch := omega) only [lit, nI_add, inbN, ↓reduceIte, nI_clamp, e1, e2, bnd_some]
theorem lc_36 (hL : i + 6 ≤ L) (hL2 : L ≤ 3072) (R : ∃ S T, R2 h h S T) (kk : Hp → Option Unit) : ∃ h2, fLc_36 L xs kk h i = kk h2 ∧ ∃ S T, R2 h2 h2 S T := by
  obtain ⟨v, h1, h2, e1, e2, e3⟩ := join (oc := fun h => fX9_undo h) (om := fun h => fX10_undo h) (fun hc hm S T s => s_undo s) R
  refine ⟨h2, ?_, e3⟩
  unfold fLc_36
  simp (disch := omega) only [lit, nI_add, inbN, ↓reduceIte, nI_clamp, e1, e2, bnd_some]
theorem lc_37 (hL : i + 6 ≤ L) (hL2 : L ≤ 3072) (R : ∃ S T, R2 h h S T) (kk : Hp → Option Unit) : ∃ h2, fLc_37 L xs kk h i = kk h2 ∧ ∃ S T, R2 h2 h2 S T := by
  obtain ⟨v, h1, h2, e1, e2, e3⟩ := join (oc := fun h => fX9_keep h) (om := fun h => fX10_keep h) (fun hc hm S T s => s_keep s) R
  refine ⟨h2, ?_, e3⟩
  unfold fLc_37
  simp (disch := omega) only [lit, nI_add, inbN, ↓reduceIte, nI_clamp, e1, e2, bnd_some]
theorem lc_38 (hL : i + 6 ≤ L) (hL2 : L ≤ 3072) (R : ∃ S T, R2 h h S T) (kk : Hp → Option Unit) : ∃ h2, fLc_38 L xs kk h i = kk h2 ∧ ∃ S T, R2 h2 h2 S T := by
  obtain ⟨v, h1, h2, e1, e2, e3⟩ := join (oc := fun h => fX9_back h) (om := fun h => fX10_back h) (fun hc hm S T s => s_back s) R
  refine ⟨h2, ?_, e3⟩
  unfold fLc_38
  simp (disch := omega) only [lit, nI_add, inbN, ↓reduceIte, nI_clamp, e1, e2, bnd_some]
theorem lc_39 (hL : i + 6 ≤ L) (hL2 : L ≤ 3072) (R : ∃ S T, R2 h h S T) (kk : Hp → Option Unit) : ∃ h2, fLc_39 L xs kk h i = kk h2 ∧ ∃ S T, R2 h2 h2 S T := by
  obtain ⟨v, h1, h2, e1, e2, e3⟩ := join (oc := fun h => fX9_count h (xs (i + 1))) (om := fun h => fX10_count h (xs (i + 1))) (fun hc hm S T s => s_count s _) R
  refine ⟨h2, ?_, e3⟩
  unfold fLc_39
  simp (disch := omega) only [lit, nI_add, inbN, ↓reduceIte, nI_clamp, e1, e2, bnd_some]
theorem l_loop (hT : TextOk) (hL2 : L ≤ 3072) : ∀ (d fu : Nat) (h : Hp) (i : Nat), L < i + d → d < fu → i ≤ L + 6 → (∃ S T, R2 h h S T) → fL_loop L xs fu h i = some ()
  | 0, fu + 1, h, i, hd, _, hi, _ => by
    rw [fL_loop, if_pos]
    rw [Int32.lt_iff_toInt_lt, show Int32.ofNat L = nI L from rfl, show (6 : Int32) = nI 6 from rfl, pk_sub_toInt (by omega) (by omega), nI_toInt (by omega)]; omega
  | d + 1, fu + 1, h, i, hd, hf, hi, R => by
    rw [fL_loop]
    by_cases q : L < i + 6
    · rw [if_pos]
      rw [Int32.lt_iff_toInt_lt, show Int32.ofNat L = nI L from rfl, show (6 : Int32) = nI 6 from rfl, pk_sub_toInt (by omega) (by omega), nI_toInt (by omega)]; omega
    · rw [if_neg (by rw [Int32.lt_iff_toInt_lt, show Int32.ofNat L = nI L from rfl, show (6 : Int32) = nI 6 from rfl, pk_sub_toInt (by omega) (by omega), nI_toInt (by omega)]; omega), if_pos (inb_nI (by omega) (by omega))]
      have nx : ∀ h2, (∃ S T, R2 h2 h2 S T) → fL_loop L xs fu h2 (i + 6) = some () := fun h2 R2' => l_loop hT hL2 d fu h2 (i + 6) (by omega) (by omega) (by omega) R2'
      have go : ∀ (o : Option Unit), (∃ h2, o = fL_loop L xs fu h2 (i + 6) ∧ ∃ S T, R2 h2 h2 S T) → o = some () := fun o ⟨h2, e, r⟩ => e.trans (nx h2 r)
      generalize (xs (Int32.toNatClampNeg (nI i)) &&& (63 : Int32)) = c
      by_cases qt : inT c 0 39 = true
      · rw [if_pos qt]
        have hL : i + 6 ≤ L := by omega
        obtain ⟨n, hn, rfl, -⟩ := inT_ex qt
        by_cases q0 : nI n = (0 : Int32)
        · rw [if_pos q0]; exact go _ (lc_0 hL hL2 R _)
        rw [if_neg q0]
        by_cases q1 : nI n = (1 : Int32)
        · rw [if_pos q1]; exact go _ (lc_1 hT hL hL2 R _)
        rw [if_neg q1]
        by_cases q2 : nI n = (2 : Int32)
        · rw [if_pos q2]; exact go _ (lc_2 hL hL2 R _)
        rw [if_neg q2]
        by_cases q3 : nI n = (3 : Int32)
        · rw [if_pos q3]; exact go _ (lc_3 hL hL2 R _)
        rw [if_neg q3]
        by_cases q4 : nI n = (4 : Int32)
        · rw [if_pos q4]; exact go _ (lc_4 hL hL2 R _)
        rw [if_neg q4]
        by_cases q5 : nI n = (5 : Int32)
        · rw [if_pos q5]; exact go _ (lc_5 hL hL2 R _)
        rw [if_neg q5]
        by_cases q6 : nI n = (6 : Int32)
        · rw [if_pos q6]; exact go _ (lc_6 hL hL2 R _)
        rw [if_neg q6]
        by_cases q7 : nI n = (7 : Int32)
        · rw [if_pos q7]; exact go _ (lc_7 hL hL2 R _)
        rw [if_neg q7]
        by_cases q8 : nI n = (8 : Int32)
        · rw [if_pos q8]; exact go _ (lc_8 hL hL2 R _)
        rw [if_neg q8]
        by_cases q9 : nI n = (9 : Int32)
        · rw [if_pos q9]; exact go _ (lc_9 hL hL2 R _)
        rw [if_neg q9]
        by_cases q10 : nI n = (10 : Int32)
        · rw [if_pos q10]; exact go _ (lc_10 hL hL2 R _)
        rw [if_neg q10]
        by_cases q11 : nI n = (11 : Int32)
        · rw [if_pos q11]; exact go _ (lc_11 hL hL2 R _)
        rw [if_neg q11]
        by_cases q12 : nI n = (12 : Int32)
        · rw [if_pos q12]; exact go _ (lc_12 hL hL2 R _)
        rw [if_neg q12]
        by_cases q13 : nI n = (13 : Int32)
        · rw [if_pos q13]; exact go _ (lc_13 hL hL2 R _)
        rw [if_neg q13]
        by_cases q14 : nI n = (14 : Int32)
        · rw [if_pos q14]; exact go _ (lc_14 hL hL2 R _)
        rw [if_neg q14]
        by_cases q15 : nI n = (15 : Int32)
        · rw [if_pos q15]; exact go _ (lc_15 hL hL2 R _)
        rw [if_neg q15]
        by_cases q16 : nI n = (16 : Int32)
        · rw [if_pos q16]; exact go _ (lc_16 hL hL2 R _)
        rw [if_neg q16]
        by_cases q17 : nI n = (17 : Int32)
        · rw [if_pos q17]; exact go _ (lc_17 hL hL2 R _)
        rw [if_neg q17]
        by_cases q18 : nI n = (18 : Int32)
        · rw [if_pos q18]; exact go _ (lc_18 hL hL2 R _)
        rw [if_neg q18]
        by_cases q19 : nI n = (19 : Int32)
        · rw [if_pos q19]; exact go _ (lc_19 hL hL2 R _)
        rw [if_neg q19]
        by_cases q20 : nI n = (20 : Int32)
        · rw [if_pos q20]; exact go _ (lc_20 hL hL2 R _)
        rw [if_neg q20]
        by_cases q21 : nI n = (21 : Int32)
        · rw [if_pos q21]; exact go _ (lc_21 hL hL2 R _)
        rw [if_neg q21]
        by_cases q22 : nI n = (22 : Int32)
        · rw [if_pos q22]; exact go _ (lc_22 hL hL2 R _)
        rw [if_neg q22]
        by_cases q23 : nI n = (23 : Int32)
        · rw [if_pos q23]; exact go _ (lc_23 hL hL2 R _)
        rw [if_neg q23]
        by_cases q24 : nI n = (24 : Int32)
        · rw [if_pos q24]; exact go _ (lc_24 hL hL2 R _)
        rw [if_neg q24]
        by_cases q25 : nI n = (25 : Int32)
        · rw [if_pos q25]; exact go _ (lc_25 hL hL2 R _)
        rw [if_neg q25]
        by_cases q26 : nI n = (26 : Int32)
        · rw [if_pos q26]; exact go _ (lc_26 hL hL2 R _)
        rw [if_neg q26]
        by_cases q27 : nI n = (27 : Int32)
        · rw [if_pos q27]; exact go _ (lc_27 hL hL2 R _)
        rw [if_neg q27]
        by_cases q28 : nI n = (28 : Int32)
        · rw [if_pos q28]; exact go _ (lc_28 hL hL2 R _)
        rw [if_neg q28]
        by_cases q29 : nI n = (29 : Int32)
        · rw [if_pos q29]; exact go _ (lc_29 hL hL2 R _)
        rw [if_neg q29]
        by_cases q30 : nI n = (30 : Int32)
        · rw [if_pos q30]; exact go _ (lc_30 hL hL2 R _)
        rw [if_neg q30]
        by_cases q31 : nI n = (31 : Int32)
        · rw [if_pos q31]; exact go _ (lc_31 hL hL2 R _)
        rw [if_neg q31]
        by_cases q32 : nI n = (32 : Int32)
        · rw [if_pos q32]; exact go _ (lc_32 hL hL2 R _)
        rw [if_neg q32]
        by_cases q33 : nI n = (33 : Int32)
        · rw [if_pos q33]; exact go _ (lc_33 hL hL2 R _)
        rw [if_neg q33]
        by_cases q34 : nI n = (34 : Int32)
        · rw [if_pos q34]; exact go _ (lc_34 hL hL2 R _)
        rw [if_neg q34]
        by_cases q35 : nI n = (35 : Int32)
        · rw [if_pos q35]; exact go _ (lc_35 hL hL2 R _)
        rw [if_neg q35]
        by_cases q36 : nI n = (36 : Int32)
        · rw [if_pos q36]; exact go _ (lc_36 hL hL2 R _)
        rw [if_neg q36]
        by_cases q37 : nI n = (37 : Int32)
        · rw [if_pos q37]; exact go _ (lc_37 hL hL2 R _)
        rw [if_neg q37]
        by_cases q38 : nI n = (38 : Int32)
        · rw [if_pos q38]; exact go _ (lc_38 hL hL2 R _)
        rw [if_neg q38]
        by_cases q39 : nI n = (39 : Int32)
        · rw [if_pos q39]; exact go _ (lc_39 hL hL2 R _)
        rw [if_neg q39]
        exfalso
        have cn : n = 0 ∨ n = 1 ∨ n = 2 ∨ n = 3 ∨ n = 4 ∨ n = 5 ∨ n = 6 ∨ n = 7 ∨ n = 8 ∨ n = 9 ∨ n = 10 ∨ n = 11 ∨ n = 12 ∨ n = 13 ∨ n = 14 ∨ n = 15 ∨ n = 16 ∨ n = 17 ∨ n = 18 ∨ n = 19 ∨ n = 20 ∨ n = 21 ∨ n = 22 ∨ n = 23 ∨ n = 24 ∨ n = 25 ∨ n = 26 ∨ n = 27 ∨ n = 28 ∨ n = 29 ∨ n = 30 ∨ n = 31 ∨ n = 32 ∨ n = 33 ∨ n = 34 ∨ n = 35 ∨ n = 36 ∨ n = 37 ∨ n = 38 ∨ n = 39 := by omega
        rcases cn with rfl | rfl | rfl | rfl | rfl | rfl | rfl | rfl | rfl | rfl | rfl | rfl | rfl | rfl | rfl | rfl | rfl | rfl | rfl | rfl | rfl | rfl | rfl | rfl | rfl | rfl | rfl | rfl | rfl | rfl | rfl | rfl | rfl | rfl | rfl | rfl | rfl | rfl | rfl | rfl
        · exact q0 rfl
        · exact q1 rfl
        · exact q2 rfl
        · exact q3 rfl
        · exact q4 rfl
        · exact q5 rfl
        · exact q6 rfl
        · exact q7 rfl
        · exact q8 rfl
        · exact q9 rfl
        · exact q10 rfl
        · exact q11 rfl
        · exact q12 rfl
        · exact q13 rfl
        · exact q14 rfl
        · exact q15 rfl
        · exact q16 rfl
        · exact q17 rfl
        · exact q18 rfl
        · exact q19 rfl
        · exact q20 rfl
        · exact q21 rfl
        · exact q22 rfl
        · exact q23 rfl
        · exact q24 rfl
        · exact q25 rfl
        · exact q26 rfl
        · exact q27 rfl
        · exact q28 rfl
        · exact q29 rfl
        · exact q30 rfl
        · exact q31 rfl
        · exact q32 rfl
        · exact q33 rfl
        · exact q34 rfl
        · exact q35 rfl
        · exact q36 rfl
        · exact q37 rfl
        · exact q38 rfl
        · exact q39 rfl
      · rw [if_neg qt]; exact nx h R
end V
