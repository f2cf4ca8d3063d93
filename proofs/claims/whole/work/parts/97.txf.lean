/-! text: contra, holds, damp, seed (printed by gen_once.py). -/
theorem hup_row {h : Hp} {B j : Nat} {v : Int32} {a i : Nat} (hB : B ≠ 107) : hI (hup (uI h B j v)) a i = if a = B ∧ uof B + i = j then v else hI (hup h) a i := by
  rw [hup_I, hup_I]
  by_cases q : a = 107
  · rw [if_pos q, if_pos q, if_neg (fun y => hB (y.1.symm.trans q)), hI_ne (fun y => hB y.1.symm)]
  · rw [if_neg q, if_neg q, hI_uI]
    by_cases z : a = B
    · subst z
      by_cases y : uof a + i = j
      · rw [if_pos ⟨rfl, y⟩]
      · rw [if_neg (fun w => y w.2)]
    · rw [if_neg (fun w => z w.1), if_neg (fun w => z w.1)]
section V
variable {hc hm : Hp} {X : Nat} {T : Tx} {b : Nat → Nat} {n k v s p : Nat}
theorem RD_ho (R : RD hc hm X T b n) {m c : Nat} (hM : m < T 0 3) (hC : c < T 0 0) : ∃ T', RD (uI hc (X + 18) m (nI (T 10 m ||| 2 ^ c))) (uI hm 121 (5 + m) (nI (T 10 m ||| 2 ^ c))) X T' b n := by
  obtain ⟨⟨r1, r2, r3, r4⟩, ⟨r5, r6, r7⟩, ⟨r8, r9, r10⟩, r11, r12⟩ := R
  have x0 : X = 1 ∨ X = 35 := r1
  generalize hU : tU T 10 m (T 10 m ||| 2 ^ c) = U
  have u10 : ∀ i, i ≠ m → U 10 i = T 10 i := fun k q => by rw [← hU]; simp (disch := omega) only [tU_ne]
  have u10N : U 10 m = T 10 m ||| 2 ^ c := by rw [← hU]; simp (disch := omega) only [tU_at]
  have ur : ∀ r, r ≠ 10 → U r = T r := fun r _ => by rw [← hU]; simp (disch := omega) only [tU_row]
  clear hU
  have eh : ∀ x i, ¬ (x = 121 ∧ i = m) → hI (hup (uI hm 121 (5 + m) (nI (T 10 m ||| 2 ^ c)))) x i = hI (hup hm) x i := fun x i q => by rw [hup_row (by decide), if_neg (fun z => q ⟨z.1, by have := z.2; have := uofs.2.2.2.2.2.2.2.2.2.2.1; omega⟩)]
  have ev : hI (hup (uI hm 121 (5 + m) (nI (T 10 m ||| 2 ^ c)))) 121 m = nI (T 10 m ||| 2 ^ c) := by rw [hup_row (by decide), if_pos ⟨rfl, rfl⟩]
  refine ⟨U, ⟨r1, r2, ?_, by simp (disch := omega) only [hI_ne]; exact r4⟩, ⟨?_, ?_, ?_⟩, ⟨?_, ?_, ?_⟩, ?_, ?_⟩
  · exact RTp_fr r3 (fun i hi => by simp (disch := omega) only [hI_ne]) (fun i => by simp (disch := omega) only [hI_ne]) (fun i => by simp (disch := omega) only [hI_ne]) (fun i hi => by simp (disch := omega) only [hI_ne]) (fun i => by simp (disch := omega) only [hI_ne]) (fun i => by simp (disch := omega) only [hI_ne])
  · obtain ⟨f1, a2, a3, a4, a5, a6, a7, a8, a9, a10⟩ := r5
    have z0 := ur 0 (by decide)
    refine ⟨by rw [z0]; exact f1, ?_, ?_, ?_, ?_, ?_, ?_, ?_, ?_, ?_⟩
    · rw [z0, ur 1 (by decide), ur 2 (by decide), ur 3 (by decide)]; exact a2
    · rw [z0, ur 4 (by decide), ur 5 (by decide)]; exact a3
    · rw [z0, ur 6 (by decide), ur 7 (by decide), ur 8 (by decide)]; exact a4
    · intro i hi
      rw [z0]
      by_cases z : i = m
      · rw [z, u10N]; exact Nat.or_lt_two_pow (a5 m (by omega)) (Nat.pow_lt_pow_right (by decide) hC)
      · rw [u10 i z]; exact a5 i hi
    · rw [z0, ur 9 (by decide)]; exact a6
    · intro i hi
      rw [z0] at hi
      rw [u10 i (by omega)]; exact a7 i hi
    · rw [z0, ur 11 (by decide), ur 12 (by decide), ur 13 (by decide)]; exact a8
    · rw [z0, ur 14 (by decide), ur 15 (by decide)]; exact a9
    · intro w hw; rw [ur 16 (by decide), ur 17 (by decide), ur (18 + w) (by omega)]; exact a10 w hw
  · obtain ⟨a1, a2, a3, a4, a5, a6, a7, a8, a9⟩ := r6
    have z0 := ur 0 (by decide)
    have e : ∀ a i, ¬ (a = X + 18 ∧ i = m) → hI (uI hc (X + 18) m (nI (T 10 m ||| 2 ^ c))) a i = hI hc a i := fun a i q => hI_ne q
    refine ⟨?_, ?_, ?_, ?_, ?_, ?_, ?_, ?_, ?_⟩
    · rw [z0]; simp (disch := omega) only [e]; exact a1
    · rw [z0, ur 1 (by decide), ur 2 (by decide), ur 3 (by decide)]; simp (disch := omega) only [e]; exact a2
    · unfold hitsT foesT; rw [z0, ur 4 (by decide), ur 5 (by decide)]; simp (disch := omega) only [e]; exact a3
    · rw [z0, ur 4 (by decide), ur 5 (by decide)]; simp (disch := omega) only [e]; exact a4
    · rw [z0, ur 6 (by decide), ur 7 (by decide), ur 8 (by decide)]; simp (disch := omega) only [e]; exact a5
    · intro i hi
      rw [z0] at hi
      rw [ur 9 (by decide), e (X + 17) i (by omega)]
      refine ⟨(a6 i hi).1, ?_⟩
      by_cases z : i = m
      · rw [z, hI_at ⟨rfl, rfl⟩, u10N]
      · rw [e _ _ (by omega), u10 i z]; exact (a6 i hi).2
    · rw [z0, ur 11 (by decide), ur 12 (by decide), ur 13 (by decide)]; simp (disch := omega) only [e]; exact a7
    · rw [z0, ur 14 (by decide), ur 15 (by decide)]; simp (disch := omega) only [e]; exact a8
    · exact RSc9_lo a9 (fun a i q => e _ _ (by omega)) (fun _ _ => rfl) (fun r q => ur r (by omega))
  · obtain ⟨a1, a2, a3, a4, a5, a6, a7, a8, a9⟩ := r7
    have z0 := ur 0 (by decide)
    refine ⟨?_, ?_, ?_, ?_, ?_, ?_, ?_, ?_, ?_⟩
    · rw [z0]; simp (disch := omega) only [eh]; exact a1
    · rw [z0, ur 1 (by decide), ur 2 (by decide), ur 3 (by decide)]; simp (disch := omega) only [eh]; exact a2
    · rw [z0, ur 4 (by decide), ur 5 (by decide)]; simp (disch := omega) only [eh]; exact a3
    · rw [z0, ur 6 (by decide), ur 7 (by decide), ur 8 (by decide)]; simp (disch := omega) only [eh]; exact a4
    · rw [z0, ur 9 (by decide)]; simp (disch := omega) only [eh]; exact a5
    · intro i hi
      by_cases z : i = m
      · rw [z, u10N]; exact ev
      · rw [u10 i z, eh _ _ (by omega)]; exact a6 i hi
    · rw [z0, ur 11 (by decide), ur 12 (by decide), ur 13 (by decide)]; simp (disch := omega) only [eh]; exact a7
    · rw [z0, ur 14 (by decide), ur 15 (by decide)]; simp (disch := omega) only [eh]; exact a8
    · exact RSm9_lo a9 (fun a i q => eh _ _ (by omega)) (fun r q => ur r (by omega))
  · simp (disch := omega) only [hI_ne]; exact r8
  · simp (disch := omega) only [hI_ne]; exact r9
  · simp (disch := omega) only [hI_ne]; exact r10
  · rw [ur 0 (by decide)]; simp (disch := omega) only [hI_ne]; exact r11
  · rw [ur 0 (by decide), ur 16 (by decide), ur 17 (by decide)]
    intro x hx ht f hf hl
    rw [eh _ _ (by omega)] at hf
    exact r12 x hx ht f hf hl
theorem RD_da (R : RD hc hm X T b n) {d : Nat} (hd : d ≤ 100) : ∃ T', RD (uI (uI hc X 13 (nI d)) X 14 (nI 1)) (uI hm 111 2 (nI d)) X T' b n := by
  obtain ⟨⟨r1, r2, r3, r4⟩, ⟨r5, r6, r7⟩, ⟨r8, r9, r10⟩, r11, r12⟩ := R
  have x0 : X = 1 ∨ X = 35 := r1
  generalize hU : tU T 0 7 d = U
  have u0 : ∀ i, i ≠ 7 → U 0 i = T 0 i := fun k q => by rw [← hU]; simp (disch := omega) only [tU_ne]
  have u0c : U 0 7 = d := by rw [← hU]; simp (disch := omega) only [tU_at]
  have ur : ∀ r, r ≠ 0 → U r = T r := fun r _ => by rw [← hU]; simp (disch := omega) only [tU_row]
  clear hU
  have eh : ∀ x i, ¬ (x = 111 ∧ i = 0) → hI (hup (uI hm 111 2 (nI d))) x i = hI (hup hm) x i := fun x i q => by rw [hup_row (by decide), if_neg (fun z => q ⟨z.1, by have := z.2; have := uofs.1; omega⟩)]
  have ev : hI (hup (uI hm 111 2 (nI d))) 111 0 = nI d := by rw [hup_row (by decide), if_pos ⟨rfl, rfl⟩]
  have e : ∀ a i, ¬ (a = X ∧ (i = 13 ∨ i = 14)) → hI (uI (uI hc X 13 (nI d)) X 14 (nI 1)) a i = hI hc a i := fun a i q => by rw [hI_ne (by omega), hI_ne (by omega)]
  have ec : hI (uI (uI hc X 13 (nI d)) X 14 (nI 1)) X 13 = nI d := by rw [hI_ne (by omega), hI_at ⟨rfl, rfl⟩]
  refine ⟨U, ⟨r1, r2, ?_, by rw [e _ _ (by omega)]; exact r4⟩, ⟨?_, ?_, ?_⟩, ⟨?_, ?_, ?_⟩, ?_, ?_⟩
  · exact RTp_fr r3 (fun i hi => e _ _ (by omega)) (fun i => e _ _ (by omega)) (fun i => e _ _ (by omega)) (fun i hi => hI_ne (by omega)) (fun i => hI_ne (by omega)) (fun i => hI_ne (by omega))
  · obtain ⟨⟨f0, f1, f2, f3, f4, f5, f6, f7, f8⟩, a2, a3, a4, a5, a6, a7, a8, a9, a10⟩ := r5
    refine ⟨⟨?_, ?_, ?_, ?_, ?_, ?_, ?_, ?_, ?_⟩, ?_, ?_, ?_, ?_, ?_, ?_, ?_, ?_, ?_⟩
    · rw [u0 0 (by decide)]; exact f0
    · rw [u0 1 (by decide)]; exact f1
    · rw [u0 2 (by decide)]; exact f2
    · rw [u0 3 (by decide)]; exact f3
    · rw [u0 4 (by decide)]; exact f4
    · rw [u0 5 (by decide)]; exact f5
    · rw [u0 6 (by decide)]; exact f6
    · rw [u0c]; exact hd
    · rw [u0 8 (by decide)]; exact f8
    · rw [u0 0 (by decide), ur 1 (by decide), ur 2 (by decide), ur 3 (by decide)]; exact a2
    · rw [u0 0 (by decide), u0 1 (by decide), ur 4 (by decide), ur 5 (by decide)]; exact a3
    · rw [u0 0 (by decide), u0 2 (by decide), ur 6 (by decide), ur 7 (by decide), ur 8 (by decide)]; exact a4
    · rw [u0 0 (by decide), ur 10 (by decide)]; exact a5
    · rw [u0 3 (by decide), ur 9 (by decide)]; exact a6
    · rw [u0 3 (by decide), ur 10 (by decide)]; exact a7
    · rw [u0 2 (by decide), u0 3 (by decide), u0 4 (by decide), ur 11 (by decide), ur 12 (by decide), ur 13 (by decide)]; exact a8
    · rw [u0 2 (by decide), u0 5 (by decide), ur 14 (by decide), ur 15 (by decide)]; exact a9
    · intro w hw; rw [ur 16 (by decide), ur 17 (by decide), ur (18 + w) (by omega)]; exact a10 w hw
  · obtain ⟨⟨f0, f1, f2, f3, f4, f5, f6, f7, f8⟩, a2, a3, a4, a5, a6, a7, a8, a9⟩ := r6
    refine ⟨⟨?_, ?_, ?_, ?_, ?_, ?_, ?_, ?_, ?_⟩, ?_, ?_, ?_, ?_, ?_, ?_, ?_, ?_⟩
    · rw [u0 0 (by decide), e _ _ (by omega)]; exact f0
    · rw [u0 1 (by decide), e _ _ (by omega)]; exact f1
    · rw [u0 2 (by decide), e _ _ (by omega)]; exact f2
    · rw [u0 3 (by decide), e _ _ (by omega)]; exact f3
    · rw [u0 4 (by decide), e _ _ (by omega)]; exact f4
    · rw [u0 5 (by decide), e _ _ (by omega)]; exact f5
    · rw [u0 6 (by decide), e _ _ (by omega)]; exact f6
    · rw [u0c]; exact ec
    · rw [u0 8 (by decide), e _ _ (by omega)]; exact f8
    · rw [u0 0 (by decide), ur 1 (by decide), ur 2 (by decide), ur 3 (by decide)]; simp (disch := omega) only [e]; exact a2
    · unfold hitsT foesT; rw [u0 1 (by decide), ur 4 (by decide), ur 5 (by decide)]; simp (disch := omega) only [e]; exact a3
    · rw [u0 1 (by decide), ur 4 (by decide), ur 5 (by decide)]; simp (disch := omega) only [e]; exact a4
    · rw [u0 2 (by decide), ur 6 (by decide), ur 7 (by decide), ur 8 (by decide)]; simp (disch := omega) only [e]; exact a5
    · rw [u0 3 (by decide), ur 9 (by decide), ur 10 (by decide)]; simp (disch := omega) only [e]; exact a6
    · rw [u0 4 (by decide), ur 11 (by decide), ur 12 (by decide), ur 13 (by decide)]; simp (disch := omega) only [e]; exact a7
    · rw [u0 5 (by decide), ur 14 (by decide), ur 15 (by decide)]; simp (disch := omega) only [e]; exact a8
    · exact RSc9_lo a9 (fun a i q => e _ _ (by omega)) (fun _ _ => rfl) (fun r q => ur r (by omega))
  · obtain ⟨⟨f0, f1, f2, f3, f4, f5, f6, f7, f8⟩, a2, a3, a4, a5, a6, a7, a8, a9⟩ := r7
    refine ⟨⟨?_, ?_, ?_, ?_, ?_, ?_, ?_, ?_, ?_⟩, ?_, ?_, ?_, ?_, ?_, ?_, ?_, ?_⟩
    · rw [u0 0 (by decide), eh _ _ (by omega)]; exact f0
    · rw [u0 1 (by decide), eh _ _ (by omega)]; exact f1
    · rw [u0 2 (by decide), eh _ _ (by omega)]; exact f2
    · rw [u0 3 (by decide), eh _ _ (by omega)]; exact f3
    · rw [u0 4 (by decide), eh _ _ (by omega)]; exact f4
    · rw [u0 5 (by decide), eh _ _ (by omega)]; exact f5
    · rw [u0 6 (by decide), eh _ _ (by omega)]; exact f6
    · rw [u0c]; exact ev
    · rw [u0 8 (by decide), eh _ _ (by omega)]; exact f8
    · rw [u0 0 (by decide), ur 1 (by decide), ur 2 (by decide), ur 3 (by decide)]; simp (disch := omega) only [eh]; exact a2
    · rw [u0 1 (by decide), ur 4 (by decide), ur 5 (by decide)]; simp (disch := omega) only [eh]; exact a3
    · rw [u0 2 (by decide), ur 6 (by decide), ur 7 (by decide), ur 8 (by decide)]; simp (disch := omega) only [eh]; exact a4
    · rw [u0 3 (by decide), ur 9 (by decide)]; simp (disch := omega) only [eh]; exact a5
    · rw [ur 10 (by decide)]; simp (disch := omega) only [eh]; exact a6
    · rw [u0 4 (by decide), ur 11 (by decide), ur 12 (by decide), ur 13 (by decide)]; simp (disch := omega) only [eh]; exact a7
    · rw [u0 5 (by decide), ur 14 (by decide), ur 15 (by decide)]; simp (disch := omega) only [eh]; exact a8
    · exact RSm9_lo a9 (fun a i q => eh _ _ (by omega)) (fun r q => ur r (by omega))
  · rw [e _ _ (by omega)]; exact r8
  · rw [e _ _ (by omega)]; exact r9
  · rw [e _ _ (by omega)]; exact r10
  · rw [u0 6 (by decide), hI_ne (by omega)]; exact r11
  · rw [u0 6 (by decide), ur 16 (by decide), ur 17 (by decide)]
    intro x hx ht f hf hl
    rw [eh _ _ (by omega)] at hf
    exact r12 x hx ht f hf hl
theorem RD_se (R : RD hc hm X T b n) {d : Nat} (hd : d ≤ 99999) : ∃ T', RD (uI (uI hc X 15 (nI d)) X 16 (nI 1)) (uI hm 111 3 (nI d)) X T' b n := by
  obtain ⟨⟨r1, r2, r3, r4⟩, ⟨r5, r6, r7⟩, ⟨r8, r9, r10⟩, r11, r12⟩ := R
  have x0 : X = 1 ∨ X = 35 := r1
  generalize hU : tU T 0 8 d = U
  have u0 : ∀ i, i ≠ 8 → U 0 i = T 0 i := fun k q => by rw [← hU]; simp (disch := omega) only [tU_ne]
  have u0c : U 0 8 = d := by rw [← hU]; simp (disch := omega) only [tU_at]
  have ur : ∀ r, r ≠ 0 → U r = T r := fun r _ => by rw [← hU]; simp (disch := omega) only [tU_row]
  clear hU
  have eh : ∀ x i, ¬ (x = 111 ∧ i = 1) → hI (hup (uI hm 111 3 (nI d))) x i = hI (hup hm) x i := fun x i q => by rw [hup_row (by decide), if_neg (fun z => q ⟨z.1, by have := z.2; have := uofs.1; omega⟩)]
  have ev : hI (hup (uI hm 111 3 (nI d))) 111 1 = nI d := by rw [hup_row (by decide), if_pos ⟨rfl, rfl⟩]
  have e : ∀ a i, ¬ (a = X ∧ (i = 15 ∨ i = 16)) → hI (uI (uI hc X 15 (nI d)) X 16 (nI 1)) a i = hI hc a i := fun a i q => by rw [hI_ne (by omega), hI_ne (by omega)]
  have ec : hI (uI (uI hc X 15 (nI d)) X 16 (nI 1)) X 15 = nI d := by rw [hI_ne (by omega), hI_at ⟨rfl, rfl⟩]
  refine ⟨U, ⟨r1, r2, ?_, by rw [e _ _ (by omega)]; exact r4⟩, ⟨?_, ?_, ?_⟩, ⟨?_, ?_, ?_⟩, ?_, ?_⟩
  · exact RTp_fr r3 (fun i hi => e _ _ (by omega)) (fun i => e _ _ (by omega)) (fun i => e _ _ (by omega)) (fun i hi => hI_ne (by omega)) (fun i => hI_ne (by omega)) (fun i => hI_ne (by omega))
  · obtain ⟨⟨f0, f1, f2, f3, f4, f5, f6, f7, f8⟩, a2, a3, a4, a5, a6, a7, a8, a9, a10⟩ := r5
    refine ⟨⟨?_, ?_, ?_, ?_, ?_, ?_, ?_, ?_, ?_⟩, ?_, ?_, ?_, ?_, ?_, ?_, ?_, ?_, ?_⟩
    · rw [u0 0 (by decide)]; exact f0
    · rw [u0 1 (by decide)]; exact f1
    · rw [u0 2 (by decide)]; exact f2
    · rw [u0 3 (by decide)]; exact f3
    · rw [u0 4 (by decide)]; exact f4
    · rw [u0 5 (by decide)]; exact f5
    · rw [u0 6 (by decide)]; exact f6
    · rw [u0 7 (by decide)]; exact f7
    · rw [u0c]; exact hd
    · rw [u0 0 (by decide), ur 1 (by decide), ur 2 (by decide), ur 3 (by decide)]; exact a2
    · rw [u0 0 (by decide), u0 1 (by decide), ur 4 (by decide), ur 5 (by decide)]; exact a3
    · rw [u0 0 (by decide), u0 2 (by decide), ur 6 (by decide), ur 7 (by decide), ur 8 (by decide)]; exact a4
    · rw [u0 0 (by decide), ur 10 (by decide)]; exact a5
    · rw [u0 3 (by decide), ur 9 (by decide)]; exact a6
    · rw [u0 3 (by decide), ur 10 (by decide)]; exact a7
    · rw [u0 2 (by decide), u0 3 (by decide), u0 4 (by decide), ur 11 (by decide), ur 12 (by decide), ur 13 (by decide)]; exact a8
    · rw [u0 2 (by decide), u0 5 (by decide), ur 14 (by decide), ur 15 (by decide)]; exact a9
    · intro w hw; rw [ur 16 (by decide), ur 17 (by decide), ur (18 + w) (by omega)]; exact a10 w hw
  · obtain ⟨⟨f0, f1, f2, f3, f4, f5, f6, f7, f8⟩, a2, a3, a4, a5, a6, a7, a8, a9⟩ := r6
    refine ⟨⟨?_, ?_, ?_, ?_, ?_, ?_, ?_, ?_, ?_⟩, ?_, ?_, ?_, ?_, ?_, ?_, ?_, ?_⟩
    · rw [u0 0 (by decide), e _ _ (by omega)]; exact f0
    · rw [u0 1 (by decide), e _ _ (by omega)]; exact f1
    · rw [u0 2 (by decide), e _ _ (by omega)]; exact f2
    · rw [u0 3 (by decide), e _ _ (by omega)]; exact f3
    · rw [u0 4 (by decide), e _ _ (by omega)]; exact f4
    · rw [u0 5 (by decide), e _ _ (by omega)]; exact f5
    · rw [u0 6 (by decide), e _ _ (by omega)]; exact f6
    · rw [u0 7 (by decide), e _ _ (by omega)]; exact f7
    · rw [u0c]; exact ec
    · rw [u0 0 (by decide), ur 1 (by decide), ur 2 (by decide), ur 3 (by decide)]; simp (disch := omega) only [e]; exact a2
    · unfold hitsT foesT; rw [u0 1 (by decide), ur 4 (by decide), ur 5 (by decide)]; simp (disch := omega) only [e]; exact a3
    · rw [u0 1 (by decide), ur 4 (by decide), ur 5 (by decide)]; simp (disch := omega) only [e]; exact a4
    · rw [u0 2 (by decide), ur 6 (by decide), ur 7 (by decide), ur 8 (by decide)]; simp (disch := omega) only [e]; exact a5
    · rw [u0 3 (by decide), ur 9 (by decide), ur 10 (by decide)]; simp (disch := omega) only [e]; exact a6
    · rw [u0 4 (by decide), ur 11 (by decide), ur 12 (by decide), ur 13 (by decide)]; simp (disch := omega) only [e]; exact a7
    · rw [u0 5 (by decide), ur 14 (by decide), ur 15 (by decide)]; simp (disch := omega) only [e]; exact a8
    · exact RSc9_lo a9 (fun a i q => e _ _ (by omega)) (fun _ _ => rfl) (fun r q => ur r (by omega))
  · obtain ⟨⟨f0, f1, f2, f3, f4, f5, f6, f7, f8⟩, a2, a3, a4, a5, a6, a7, a8, a9⟩ := r7
    refine ⟨⟨?_, ?_, ?_, ?_, ?_, ?_, ?_, ?_, ?_⟩, ?_, ?_, ?_, ?_, ?_, ?_, ?_, ?_⟩
    · rw [u0 0 (by decide), eh _ _ (by omega)]; exact f0
    · rw [u0 1 (by decide), eh _ _ (by omega)]; exact f1
    · rw [u0 2 (by decide), eh _ _ (by omega)]; exact f2
    · rw [u0 3 (by decide), eh _ _ (by omega)]; exact f3
    · rw [u0 4 (by decide), eh _ _ (by omega)]; exact f4
    · rw [u0 5 (by decide), eh _ _ (by omega)]; exact f5
    · rw [u0 6 (by decide), eh _ _ (by omega)]; exact f6
    · rw [u0 7 (by decide), eh _ _ (by omega)]; exact f7
    · rw [u0c]; exact ev
    · rw [u0 0 (by decide), ur 1 (by decide), ur 2 (by decide), ur 3 (by decide)]; simp (disch := omega) only [eh]; exact a2
    · rw [u0 1 (by decide), ur 4 (by decide), ur 5 (by decide)]; simp (disch := omega) only [eh]; exact a3
    · rw [u0 2 (by decide), ur 6 (by decide), ur 7 (by decide), ur 8 (by decide)]; simp (disch := omega) only [eh]; exact a4
    · rw [u0 3 (by decide), ur 9 (by decide)]; simp (disch := omega) only [eh]; exact a5
    · rw [ur 10 (by decide)]; simp (disch := omega) only [eh]; exact a6
    · rw [u0 4 (by decide), ur 11 (by decide), ur 12 (by decide), ur 13 (by decide)]; simp (disch := omega) only [eh]; exact a7
    · rw [u0 5 (by decide), ur 14 (by decide), ur 15 (by decide)]; simp (disch := omega) only [eh]; exact a8
    · exact RSm9_lo a9 (fun a i q => eh _ _ (by omega)) (fun r q => ur r (by omega))
  · rw [e _ _ (by omega)]; exact r8
  · rw [e _ _ (by omega)]; exact r9
  · rw [e _ _ (by omega)]; exact r10
  · rw [u0 6 (by decide), hI_ne (by omega)]; exact r11
  · rw [u0 6 (by decide), ur 16 (by decide), ur 17 (by decide)]
    intro x hx ht f hf hl
    rw [eh _ _ (by omega)] at hf
    exact r12 x hx ht f hf hl
theorem l_damp (R : RD hc hm X T b n) (Q : RQ hc hm X) (K : TK hc hm n 3 v s p) : ∃ hc' y hm', fX5_dampLine hc = some hc' ∧ fX10_onceLine hm (nI 0) (nI 100) = some (y, hm') ∧ LO hc hm hc' y hm' X b n p := by
  have hS := R.1.1
  have x0 : X = 1 ∨ X = 35 := hS
  obtain ⟨⟨a, c, qa, qc, qa1, qc1, qa2, qc2⟩, ql⟩ := Q
  have l0 := K.2.2.2.1
  unfold fX5_dampLine fX10_onceLine
  by_cases q : a = 0
  · subst q
    have K1 : TK hc (uI hm 110 0 (nI 1)) n 3 v s p := TK_m K (fun i h1 h2 => hI_ne (by omega))
    have R1 : RD hc (uI hm 110 0 (nI 1)) X T b n := RD_fr R Fr.rf (Fr.rf.uI (by unfold mfr; omega))
    obtain ⟨hc1, hm1, a1, a2, a3, a4, k1, v1, s1, p1, K1, R1, -, g1⟩ := s_adv R1 K1
    have l1 := K1.2.2.2.1
    simp (disch := omega) only [R.dref, bind_some', qa1, ↓reduceIte, fX5_dampLine_16, lit, x_pwT R K, a1, inbN, nI_clamp, qa2, a2]
    obtain ⟨x2, hc2, y2, hm2, e2, d2, ⟨rfl, ⟨w2, w2a, w2b, rfl, w2c⟩, f2, f2m, k2, v2, s2, p2, K2, R2, -, g2⟩ | ⟨rfl, B, f2, f2m⟩⟩ := s_num R1 K1 (show 0 ≤ 100 by decide) (by decide)
    · have l2 := K2.2.2.2.1
      have h14 := R2.1.2.2.2
      have dr : dref shp (uI hc2 X 13 (nI w2)) 69 4 (7, 20) = some X := (dref_uI _ _ _ _ _ _ _).trans R2.dref
      obtain ⟨U, RU⟩ := RD_da R2 w2b
      refine ⟨_, nI 1, _, ?_, ?_, ?_, ?_, Or.inl ⟨rfl, U, k2, v2, s2, p2, ?_, RU, by omega, ?_, fun _ => ?_⟩⟩
      · simp only [e2, bnd_some, h14, ↓reduceIte, R2.dref, bind_some', dr, lit]
      · simp (disch := omega) only [d2, bnd_some, eqF, ↓reduceIte, lit, nI_add, inbN, nI_clamp, w2c]
      · have f0 : FNc hc hc2 := a3.tr f2
        exact FXc.of (PI := fcX X) (((f0.mono (fun a i q => by unfold fcX; omega) (fun _ _ q => q)).uI (by unfold fcX; omega)).uI (by unfold fcX; omega)) (fun _ _ q => q)
      · have f0 : FXm hm (uI hm 110 0 (nI 1)) := Fr.rf.uI (Or.inr (Or.inl rfl))
        exact (((f0.tr a4.M).tr f2m.M).uI (fmR (by decide) (by decide) (by show 2 ≤ _; omega)))
      · exact TK_c (TK_m K2 (fun i h1 h2 => hI_ne (by omega))) (fun i => by simp (disch := omega) only [hI_ne])
      · simp (disch := omega) only [hI_ne]; rw [f2.1 _ _ (by omega), a3.1 _ _ (by omega)]
      · refine ⟨⟨1, c, by decide, qc, ?_, ?_, ?_, ?_⟩, ?_⟩
        · rw [hI_at ⟨rfl, rfl⟩]
        · simp (disch := omega) only [hI_ne]; rw [f2.1 _ _ (by omega), a3.1 _ _ (by omega)]; exact qc1
        · rw [hI_ne (by omega), f2m.1 _ _ (by omega), a4.1 _ _ (by omega), hI_at ⟨rfl, rfl⟩]
        · rw [hI_ne (by omega), f2m.1 _ _ (by omega), a4.1 _ _ (by omega), hI_ne (by omega)]; exact qc2
        · intro x hx
          simp (disch := omega) only [hI_ne]; rw [f2.1 _ _ (by omega), a3.1 _ _ (by omega), f2.1 _ _ (by omega), a3.1 _ _ (by omega)]; exact ql x hx
    · have I := R1.idle B f2
      obtain ⟨e, q1, q2, q3⟩ := I.2.2.1
      have f0 : FXm hm (uI hm 110 0 (nI 1)) := Fr.rf.uI (Or.inr (Or.inl rfl))
      refine ⟨hc2, nI 0, hm2, ?_, ?_, (FNc.X a3).tr f2.X, (f0.tr a4.M).tr f2m.M, Or.inr ⟨rfl, B⟩⟩
      · simp (disch := omega) only [e2, bnd_some, q3, eqF, ↓reduceIte]
      · simp only [d2, bnd_some, ↓reduceIte]
  · have q1 : a = 1 := by omega
    subst q1
    obtain ⟨b1, b2, b3⟩ := bad_here R.1.2.2.2 K.1.2.1 K.2.1.2.1 (e := 3) (by decide) (by decide)
    have I := R.idle b1 b2
    obtain ⟨e, q1, q2, q3⟩ := I.2.2.1
    refine ⟨_, nI 0, _, ?_, ?_, b2.X, b3.M, Or.inr ⟨rfl, b1⟩⟩
    · simp (disch := omega) only [R.dref, bind_some', qa1, eqF, ↓reduceIte, fX5_dampLine_16, lit, x_pwF R K (show 1 ≤ 3 by decide) (by decide), x_numI q3 q1 q2, bnd_some, q3]
    · simp (disch := omega) only [lit, inbN, nI_clamp, ↓reduceIte, qa2, eqF, m_wrong, bnd_some, isZ0, K.2.1.2.1]
theorem l_seed (R : RD hc hm X T b n) (Q : RQ hc hm X) (K : TK hc hm n 3 v s p) : ∃ hc' y hm', fX5_seedLine hc = some hc' ∧ fX10_onceLine hm (nI 1) (nI 99999) = some (y, hm') ∧ LO hc hm hc' y hm' X b n p := by
  have hS := R.1.1
  have x0 : X = 1 ∨ X = 35 := hS
  obtain ⟨⟨a, c, qa, qc, qa1, qc1, qa2, qc2⟩, ql⟩ := Q
  have l0 := K.2.2.2.1
  unfold fX5_seedLine fX10_onceLine
  by_cases q : c = 0
  · subst q
    have K1 : TK hc (uI hm 110 1 (nI 1)) n 3 v s p := TK_m K (fun i h1 h2 => hI_ne (by omega))
    have R1 : RD hc (uI hm 110 1 (nI 1)) X T b n := RD_fr R Fr.rf (Fr.rf.uI (by unfold mfr; omega))
    obtain ⟨hc1, hm1, a1, a2, a3, a4, k1, v1, s1, p1, K1, R1, -, g1⟩ := s_adv R1 K1
    have l1 := K1.2.2.2.1
    simp (disch := omega) only [R.dref, bind_some', qc1, ↓reduceIte, fX5_seedLine_16, lit, x_pwT R K, a1, inbN, nI_clamp, qc2, a2]
    obtain ⟨x2, hc2, y2, hm2, e2, d2, ⟨rfl, ⟨w2, w2a, w2b, rfl, w2c⟩, f2, f2m, k2, v2, s2, p2, K2, R2, -, g2⟩ | ⟨rfl, B, f2, f2m⟩⟩ := s_num R1 K1 (show 0 ≤ 99999 by decide) (by decide)
    · have l2 := K2.2.2.2.1
      have h14 := R2.1.2.2.2
      have dr : dref shp (uI hc2 X 15 (nI w2)) 69 4 (7, 20) = some X := (dref_uI _ _ _ _ _ _ _).trans R2.dref
      obtain ⟨U, RU⟩ := RD_se R2 w2b
      refine ⟨_, nI 1, _, ?_, ?_, ?_, ?_, Or.inl ⟨rfl, U, k2, v2, s2, p2, ?_, RU, by omega, ?_, fun _ => ?_⟩⟩
      · simp only [e2, bnd_some, h14, ↓reduceIte, R2.dref, bind_some', dr, lit]
      · simp (disch := omega) only [d2, bnd_some, eqF, ↓reduceIte, lit, nI_add, inbN, nI_clamp, w2c]
      · have f0 : FNc hc hc2 := a3.tr f2
        exact FXc.of (PI := fcX X) (((f0.mono (fun a i q => by unfold fcX; omega) (fun _ _ q => q)).uI (by unfold fcX; omega)).uI (by unfold fcX; omega)) (fun _ _ q => q)
      · have f0 : FXm hm (uI hm 110 1 (nI 1)) := Fr.rf.uI (Or.inr (Or.inl rfl))
        exact (((f0.tr a4.M).tr f2m.M).uI (fmR (by decide) (by decide) (by show 2 ≤ _; omega)))
      · exact TK_c (TK_m K2 (fun i h1 h2 => hI_ne (by omega))) (fun i => by simp (disch := omega) only [hI_ne])
      · simp (disch := omega) only [hI_ne]; rw [f2.1 _ _ (by omega), a3.1 _ _ (by omega)]
      · refine ⟨⟨a, 1, qa, by decide, ?_, ?_, ?_, ?_⟩, ?_⟩
        · simp (disch := omega) only [hI_ne]; rw [f2.1 _ _ (by omega), a3.1 _ _ (by omega)]; exact qa1
        · rw [hI_at ⟨rfl, rfl⟩]
        · rw [hI_ne (by omega), f2m.1 _ _ (by omega), a4.1 _ _ (by omega), hI_ne (by omega)]; exact qa2
        · rw [hI_ne (by omega), f2m.1 _ _ (by omega), a4.1 _ _ (by omega), hI_at ⟨rfl, rfl⟩]
        · intro x hx
          simp (disch := omega) only [hI_ne]; rw [f2.1 _ _ (by omega), a3.1 _ _ (by omega), f2.1 _ _ (by omega), a3.1 _ _ (by omega)]; exact ql x hx
    · have I := R1.idle B f2
      obtain ⟨e, q1, q2, q3⟩ := I.2.2.1
      have f0 : FXm hm (uI hm 110 1 (nI 1)) := Fr.rf.uI (Or.inr (Or.inl rfl))
      refine ⟨hc2, nI 0, hm2, ?_, ?_, (FNc.X a3).tr f2.X, (f0.tr a4.M).tr f2m.M, Or.inr ⟨rfl, B⟩⟩
      · simp (disch := omega) only [e2, bnd_some, q3, eqF, ↓reduceIte]
      · simp only [d2, bnd_some, ↓reduceIte]
  · have q1 : c = 1 := by omega
    subst q1
    obtain ⟨b1, b2, b3⟩ := bad_here R.1.2.2.2 K.1.2.1 K.2.1.2.1 (e := 3) (by decide) (by decide)
    have I := R.idle b1 b2
    obtain ⟨e, q1, q2, q3⟩ := I.2.2.1
    refine ⟨_, nI 0, _, ?_, ?_, b2.X, b3.M, Or.inr ⟨rfl, b1⟩⟩
    · simp (disch := omega) only [R.dref, bind_some', qc1, eqF, ↓reduceIte, fX5_seedLine_16, lit, x_pwF R K (show 1 ≤ 3 by decide) (by decide), x_numI q3 q1 q2, bnd_some, q3]
    · simp (disch := omega) only [lit, inbN, nI_clamp, ↓reduceIte, qc2, eqF, m_wrong, bnd_some, isZ0, K.2.1.2.1]
theorem x_hitI {h : Hp} {x : Int32} (q : x = -nI 1 ∨ ∃ i, i < 8 ∧ x = nI i) (A : Nat) : ∃ z, fX0_hitBy A h x = some (z, h) := by
  unfold fX0_hitBy
  rcases q with rfl | ⟨i, i1, rfl⟩
  · exact ⟨nI 0, by simp only [lit, show (-nI 1 < nI 0) = True from eq_true (by decide), ↓reduceIte]⟩
  · exact ⟨hI h (rf A 3) i, by simp (disch := omega) only [lit, ltF, leF, ↓reduceIte, inbN, nI_clamp]⟩
/-- the contra's line behind the names, idle -/
theorem xi_co {h : Hp} (I : Idle h X) {x y : Int32} (q : x = -nI 1 ∨ ∃ i, i < 8 ∧ x = nI i) : (bnd (fX0_hitBy (X + 1) h x) (fun v_16 h_17 => if ((v_16 >>> (y &&& nI 31)) &&& nI 1) = nI 1 then ((fX5_fail h_17 (nI 3) (hI h_17 69 9)).bind (fun h_20 => fX5_contraLine_83 h_20 x y)) else (fX5_contraLine_83 h_17 x y))) = some h := by
  obtain ⟨e, q1, q2, q3⟩ := I.2.2.1
  obtain ⟨z, z1⟩ := x_hitI (h := h) q (X + 1)
  have e97 : fX5_contraLine_97 h x y = some h := by
    unfold fX5_contraLine_97
    simp (disch := omega) only [lit, q3, eqF, ↓reduceIte]
  have e83 : fX5_contraLine_83 h x y = some h := by
    unfold fX5_contraLine_83
    simp only [x_failI q3 q1 q2, bind_some', e97]
    split <;> rfl
  simp only [z1, bnd_some, x_failI q3 q1 q2, bind_some', e83]
  split <;> rfl
def ctB (T : Tx) (a c : Nat) : Nat → Nat → Nat → Nat
  | 0, _, x => x
  | d + 1, k, x => ctB T a c d (k + 1) (if T 4 k = a ∧ T 5 k = c then 3 else x)
theorem ctB_3 (T : Tx) (a c : Nat) : ∀ d k, ctB T a c d k 3 = 3
  | 0, k => rfl
  | d + 1, k => by rw [ctB]; split <;> exact ctB_3 T a c d (k + 1)
theorem ctB_T (T : Tx) (a c : Nat) : ∀ d k x, (∃ j, k ≤ j ∧ j < k + d ∧ T 4 j = a ∧ T 5 j = c) → ctB T a c d k x = 3
  | 0, k, x, ⟨j, h1, h2, _⟩ => by omega
  | d + 1, k, x, ⟨j, h1, h2, h3⟩ => by
    rw [ctB]
    by_cases q : T 4 k = a ∧ T 5 k = c
    · rw [if_pos q]; exact ctB_3 T a c d (k + 1)
    · rw [if_neg q]
      have : j ≠ k := fun z => q (z ▸ h3)
      exact ctB_T T a c d (k + 1) x ⟨j, by omega, by omega, h3⟩
theorem ctB_F (T : Tx) (a c : Nat) : ∀ d k x, (¬ ∃ j, k ≤ j ∧ j < k + d ∧ T 4 j = a ∧ T 5 j = c) → ctB T a c d k x = x
  | 0, k, x, _ => rfl
  | d + 1, k, x, h => by
    rw [ctB, if_neg (fun q => h ⟨k, Nat.le_refl _, by omega, q⟩)]
    exact ctB_F T a c d (k + 1) x (fun ⟨j, h1, h2, h3⟩ => h ⟨j, by omega, by omega, h3⟩)
theorem m_ct {h : Hp} (R : RSm (hup h) T) (F : WFT T) {a c : Nat} (ha : a < 8) (hc : c < 8) (pl : Int32) : ∀ (d k x fu : Nat), k + d = T 0 1 → d < fu → ∃ fu', fX10_contraLine_88 fu h (nI a) pl (nI c) (nI x) (nI (16 + k)) = fX10_contraLine_88 (fu' + 1) h (nI a) pl (nI c) (nI (ctB T a c d k x)) (nI (16 + T 0 1))
  | 0, k, x, fu + 1, hk, _ => ⟨fu, by rw [show k = T 0 1 by omega]; rfl⟩
  | d + 1, k, x, fu + 1, hk, hf => by
    have h16 := F.1.2.1
    have h8 := F.1.1
    have cm : hI h 107 20 = nI (T 0 1) := R.1.2.1
    have t4 : hI h 115 (16 + k) = nI (T 4 k) := (R.2.2.1 k (by omega)).1
    have t5 : hI h 116 (16 + k) = nI (T 5 k) := (R.2.2.1 k (by omega)).2
    obtain ⟨f1, f2, -⟩ := F.2.2.1 k (by omega)
    obtain ⟨fu', ih⟩ := m_ct R F ha hc pl d (k + 1) (if T 4 k = a ∧ T 5 k = c then 3 else x) fu (by omega) (by omega)
    refine ⟨fu', ?_⟩
    rw [ctB, ← ih, fX10_contraLine_88]
    by_cases q4 : T 4 k = a
    · by_cases q5 : T 5 k = c
      · rw [if_pos (show T 4 k = a ∧ T 5 k = c from ⟨q4, q5⟩)]
        simp (disch := omega) only [lit, cm, nI_add, leF, ↓reduceIte, inbN, nI_clamp, t4, t5, q4, q5, fX10_contraLine_125]
        rfl
      · rw [if_neg (show ¬ (T 4 k = a ∧ T 5 k = c) from fun z => q5 z.2)]
        simp (disch := omega) only [lit, cm, nI_add, leF, ↓reduceIte, inbN, nI_clamp, t4, t5, q4, eqF, fX10_contraLine_125]
        rfl
    · rw [if_neg (show ¬ (T 4 k = a ∧ T 5 k = c) from fun z => q4 z.1)]
      simp (disch := omega) only [lit, cm, nI_add, leF, ↓reduceIte, inbN, nI_clamp, t4, eqF, fX10_contraLine_125]
      rfl
/-- what is told a second time, or stands against itself -/
theorem m_ctE {h : Hp} (R : RSm (hup h) T) (F : WFT T) {a c : Nat} (ha : a < 8) (hc : c < 8) (h16 : T 0 1 < 16) (pl : Int32) (x : Nat) : fX10_contraLine_82 h (nI a) pl (nI c) (nI x) = if ctB T a c (T 0 1) 0 x = 0 then some (nI 1, uI (uI (uI h 115 (16 + T 0 1) (nI a)) 116 (16 + T 0 1) (nI c)) 107 20 (nI (T 0 1 + 1))) else if x ≤ 5 then some (nI 0, uI (uI (uI h 107 10 pl) 107 4 (nI (ctB T a c (T 0 1) 0 x))) 107 5 pl) else fX10_contraLine_82 h (nI a) pl (nI c) (nI x) := by
  by_cases x5 : x ≤ 5
  · have cb : ctB T a c (T 0 1) 0 x ≤ 5 := by
      by_cases z : ∃ j, 0 ≤ j ∧ j < 0 + T 0 1 ∧ T 4 j = a ∧ T 5 j = c
      · rw [ctB_T T a c _ _ _ z]; decide
      · rw [ctB_F T a c _ _ _ z]; exact x5
    have cm : hI h 107 20 = nI (T 0 1) := R.1.2.1
    have cm1 : hI (uI h 115 (16 + T 0 1) (nI a)) 107 20 = nI (T 0 1) := (hI_ne (by omega)).trans cm
    have cm2 : hI (uI (uI h 115 (16 + T 0 1) (nI a)) 116 (16 + T 0 1) (nI c)) 107 20 = nI (T 0 1) := (hI_ne (by omega)).trans cm1
    have cp : hI (uI h 107 10 pl) 107 10 = pl := hI_at ⟨rfl, rfl⟩
    obtain ⟨fu', e⟩ := m_ct R F ha hc pl (T 0 1) 0 x FU (by omega) (by unfold FU; omega)
    have e82 : fX10_contraLine_82 h (nI a) pl (nI c) (nI x) = fX10_contraLine_88 FU h (nI a) pl (nI c) (nI x) (nI (16 + 0)) := rfl
    rw [e82, e, fX10_contraLine_88]
    by_cases z : ctB T a c (T 0 1) 0 x = 0
    · rw [if_pos z, z]
      simp (disch := omega) only [lit, cm, nI_add, leT, ↓reduceIte, inbN, nI_clamp, cm1, cm2]
    · rw [if_neg z, if_pos x5]
      simp (disch := omega) only [lit, cm, nI_add, leT, leF, ↓reduceIte, m_wrong, cp, bnd_some, isZ0]
  · have cz : ctB T a c (T 0 1) 0 x ≠ 0 := by
      by_cases z : ∃ j, 0 ≤ j ∧ j < 0 + T 0 1 ∧ T 4 j = a ∧ T 5 j = c
      · rw [ctB_T T a c _ _ _ z]; decide
      · rw [ctB_F T a c _ _ _ z]; omega
    rw [if_neg cz, if_neg x5]
theorem l_contra (R : RD hc hm X T b n) (K : TK hc hm n 3 v s p) : ∃ hc' y hm', fX5_contraLine hc = some hc' ∧ fX10_contraLine hm = some (y, hm') ∧ LO hc hm hc' y hm' X b n p := by
  have hS := R.1.1
  have x0 : X = 1 ∨ X = 35 := hS
  obtain ⟨N0, N1, N2, N3, N4, N5, -⟩ := R.2.1.1.1
  obtain ⟨cn0, cn1, cn2, cn3, cn4, cn5, -⟩ := R.2.1.2.1.1
  have cm : hI hm 107 20 = nI (T 0 1) := R.2.1.2.2.1.2.1
  have l0 := K.2.2.2.1
  unfold fX5_contraLine fX10_contraLine
  by_cases q : T 0 1 = 16
  · obtain ⟨b1, b2, b3⟩ := bad_here R.1.2.2.2 K.1.2.1 K.2.1.2.1 (e := 2) (by decide) (by decide)
    have I := R.idle b1 b2
    obtain ⟨e, q1, q2, q3⟩ := I.2.2.1
    obtain ⟨nn0, nn0a, nn0b⟩ := I.2.2.2.1
    obtain ⟨xx0, xx0a, xx0b⟩ := x_toldI q3 q1 q2 nn0a (rN0 hS) nn0b
    refine ⟨_, nI 0, _, ?_, ?_, b2.X, b3.M, Or.inr ⟨rfl, b1⟩⟩
    · simp (disch := omega) only [R.dref, bind_some', rS0 hS, rC0 hS, cn1, leT, fX5_contraLine_21, bnd_some, lit, x_pwF R K (show 1 ≤ 2 by decide) (by decide), dref_of I.1 (sS hS), ↓reduceIte, xx0a]
      exact xi_co I xx0b
    · simp only [lit, cm, q, ↓reduceIte, m_wrong, bnd_some, isZ0, K.2.1.2.1]
  · obtain ⟨hc1, hm1, a1, a2, a3, a4, k1, v1, s1, p1, K1, R1, -, g1⟩ := s_adv R K
    have l1 := K1.2.2.2.1
    have m10 : hI hm1 107 19 = nI (T 0 0) := R1.2.1.2.2.1.1
    simp (disch := omega) only [R.dref, bind_some', rS0 hS, rC0 hS, cn1, leF, fX5_contraLine_21, bnd_some, lit, x_pwT R K, a1, R1.dref, cm, eqF, ↓reduceIte, a2, m10]
    obtain ⟨x2, hc2, y2, hm2, e2, d2, ⟨rfl, ⟨w2, w2a, rfl, w2c⟩, f2, f2m, k2, v2, s2, p2, K2, R2, -, g2⟩ | ⟨rfl, xq, B, f2, f2m⟩⟩ := s_told R1 K1 R1.roC
    · have l2 := K2.2.2.2.1
      have m20 : hI hm2 107 19 = nI (T 0 0) := R2.2.1.2.2.1.1
      have pl : hI hm2 107 10 = nI s2 := K2.2.1.2.1
      simp (disch := omega) only [e2, d2, bnd_some, bind_some', R2.dref, rS0 hS, rC0 hS, eqF, ↓reduceIte, lit, m20, w2c, pl]
      obtain ⟨x3, hc3, y3, hm3, e3, d3, ⟨rfl, ⟨w3, w3a, rfl, w3c⟩, f3, f3m, k3, v3, s3, p3, K3, R3, bf, g3⟩ | ⟨rfl, xq, B, f3, f3m⟩⟩ := s_told R2 K2 R2.roC
      · have l3 := K3.2.2.2.1
        have h14 := R3.1.2.2.2
        have hh := (R3.2.1.2.1.2.2.1 w2 (by omega)).1
        have h31 : hitsT T w2 < 2 ^ 31 := Nat.lt_of_lt_of_le (hits_lt R3.2.1.1 w2) (Nat.pow_le_pow_right (by decide) (by omega))
        have hx : fX0_hitBy (X + 1) hc3 (nI w2) = some (nI (hitsT T w2), hc3) := by
          unfold fX0_hitBy
          simp (disch := omega) only [lit, ltF, leF, ↓reduceIte, inbN, nI_clamp, rC3 hS, hh]
        have ex : (hitsT T w2).testBit w3 = true ↔ ∃ j, 0 ≤ j ∧ j < 0 + T 0 1 ∧ T 4 j = w2 ∧ T 5 j = w3 := by
          unfold hitsT
          rw [orB_tb]
          exact ⟨fun ⟨k, h1, h2, h3⟩ => ⟨k, Nat.zero_le _, by omega, of_decide_eq_true h2, h3⟩, fun ⟨k, _, h1, h2, h3⟩ => ⟨k, by omega, decide_eq_true h2, h3⟩⟩
        have nw : ∀ j, j < T 0 1 → T 4 j = w2 → T 5 j = w3 → w2 ≠ w3 := fun j hj h1 h2 => by
          have := (R3.2.1.1.2.2.1 j hj).2.2
          rw [h1, h2] at this; exact this
        have e82 := fun x => m_ctE R3.2.1.2.2 R3.2.1.1 (a := w2) (c := w3) (by omega) (by omega) (by omega) (nI s2) x
        have sq : ((nI (hitsT T w2) >>> (nI w3 &&& nI 31)) &&& nI 1) = nI (bn (hitsT T w2) w3) := shr1 h31 (by omega)
        simp (disch := omega) only [e3, d3, bnd_some, bind_some', R3.dref, rS0 hS, hx, sq, eqF, ↓reduceIte, w3c]
        have bad : ∀ e, 1 ≤ e → e ≤ 5 → Bad (uI (uI hc3 69 14 (nI e)) 69 15 (nI s2)) (uI (uI (uI hm3 107 10 (nI s2)) 107 4 (nI e)) 107 5 (nI s2)) ∧ FXc X hc (uI (uI hc3 69 14 (nI e)) 69 15 (nI s2)) ∧ FXm hm (uI (uI (uI hm3 107 10 (nI s2)) 107 4 (nI e)) 107 5 (nI s2)) := fun e h1 h2 => ⟨⟨e, h1, h2, by rw [hI_ne (by omega), hI_at ⟨rfl, rfl⟩], by rw [hI_ne (by omega), hI_at ⟨rfl, rfl⟩], by rw [hI_at ⟨rfl, rfl⟩, hI_at ⟨rfl, rfl⟩]⟩, FBc.X (((FNc.B ((a3.tr f2).tr f3)).uI (by omega)).uI (by omega)), FBm.M ((((FGm.B ((a4.G.tr f2m).tr f3m)).uI (by omega)).uI (by omega)).uI (by omega))⟩
        have i14 : ∀ e, hI (uI (uI hc3 69 14 (nI e)) 69 15 (nI s2)) 69 14 = nI e := fun e => by rw [hI_ne (by omega), hI_at ⟨rfl, rfl⟩]
        have h16 : T 0 1 < 16 := by omega
        by_cases z : ∃ j, 0 ≤ j ∧ j < 0 + T 0 1 ∧ T 4 j = w2 ∧ T 5 j = w3
        · obtain ⟨b1, b2, b3⟩ := bad 3 (by decide) (by decide)
          have zz : bn (hitsT T w2) w3 = 1 := by rw [bn_1]; exact ex.mpr z
          have zne : w2 ≠ w3 := by obtain ⟨j, _, j2, j3, j4⟩ := z; exact nw j (by omega) j3 j4
          refine ⟨_, nI 0, _, ?_, ?_, b2, b3, Or.inr ⟨rfl, b1⟩⟩
          · simp (disch := omega) only [zz, ↓reduceIte, fX5_fail, h14, lit, bf, bind_some', fX5_contraLine_83, eqF, fX5_contraLine_97, i14]
          · have := e82 0
            rw [ctB_T T w2 w3 _ _ _ z, if_neg (by decide), if_pos (by decide)] at this
            simp (disch := omega) only [eqF, ↓reduceIte]
            exact this
        · have zz : bn (hitsT T w2) w3 = 0 := by rw [bn_0]; exact Bool.eq_false_iff.mpr (fun y => z (ex.mp y))
          have c0 := e82 0
          have c5 := e82 5
          rw [ctB_F T w2 w3 _ _ _ z, if_pos rfl] at c0
          rw [ctB_F T w2 w3 _ _ _ z, if_neg (by decide), if_pos (by decide)] at c5
          clear z ex e82 nw
          by_cases y : w2 = w3
          · obtain ⟨b1, b2, b3⟩ := bad 5 (by decide) (by decide)
            refine ⟨_, nI 0, _, ?_, ?_, b2, b3, Or.inr ⟨rfl, b1⟩⟩
            · simp (disch := omega) only [zz, eqF, ↓reduceIte, fX5_contraLine_83]
              rw [if_pos (congrArg nI y)]
              simp (disch := omega) only [eqF, ↓reduceIte, fX5_fail, h14, lit, bf, bind_some', fX5_contraLine_97, i14]
            · rw [if_pos (congrArg nI y.symm)]
              exact c5
          · have K3' : TK hc3 (uI (uI hm3 115 (16 + T 0 1) (nI w2)) 116 (16 + T 0 1) (nI w3)) n k3 v3 s3 p3 := TK_m K3 (fun i h1 h2 => by rw [hI_ne (by omega), hI_ne (by omega)])
            have R3' : RD hc3 (uI (uI hm3 115 (16 + T 0 1) (nI w2)) 116 (16 + T 0 1) (nI w3)) X T b n := RD_fr R3 Fr.rf ((Fr.rf.uI (by unfold mfr; omega)).uI (by unfold mfr; omega))
            obtain ⟨U, RU⟩ := RD_co R3' (v4 := w2) (v5 := w3) (by omega) w2a w3a y (by rw [hI_ne (by omega), hI_at ⟨rfl, rfl⟩]) (hI_at ⟨rfl, rfl⟩)
            obtain ⟨cf0, cf1, -⟩ := R3.2.1.2.1.1
            have hf := (R3.2.1.2.1.2.2.1 w3 (by omega)).2
            refine ⟨_, nI 1, _, ?_, ?_, ?_, ?_, Or.inl ⟨rfl, U, k3, v3, s3, p3, ?_, RU, by omega, ?_, fun rq => RQ_fr rq ?_ ?_ ?_ ?_⟩⟩
            · have o1 : fX0_isOne (X + 1) hc3 (nI w2) = some (nI 1, hc3) := by
                unfold fX0_isOne
                simp (disch := omega) only [lit, ltF, ↓reduceIte, rC0 hS, cf0, leF]
              have o2 : fX0_isOne (X + 1) hc3 (nI w3) = some (nI 1, hc3) := by
                unfold fX0_isOne
                simp (disch := omega) only [lit, ltF, ↓reduceIte, rC0 hS, cf0, leF]
              simp (disch := omega) only [zz, eqF, ↓reduceIte, fX5_contraLine_83, fX5_contraLine_97, h14, lit, R3.dref, bind_some', rS0 hS, fX0_addContra, cf1, leF, o1, o2, bnd_some, inbN, nI_clamp, rC3 hS, rC4 hS, rC6 hS, rC7 hS, hI_ne, nI_add, hh, hf, shl1, nx_o]
            · rw [if_neg (fun yy => y (nI_inj (by omega) (by omega) yy).symm)]
              exact c0
            · have f0 : FNc hc hc3 := (a3.tr f2).tr f3
              exact FXc.of (PI := fcX X) ((((((f0.mono (fun a i q => by unfold fcX; omega) (fun _ _ q => q)).uI (by unfold fcX; omega)).uI (by unfold fcX; omega)).uI (by unfold fcX; omega)).uI (by unfold fcX; omega)).uI (by unfold fcX; omega)) (fun _ _ q => q)
            · exact ((((a4.M.tr f2m.M).tr f3m.M).uI (fmR (by decide) (by decide) (by show 16 ≤ _; omega))).uI (fmR (by decide) (by decide) (by show 16 ≤ _; omega))).uI (fm7 (by omega))
            · exact TK_c (TK_m K3' (fun i h1 h2 => hI_ne (by omega))) (fun i => by simp (disch := omega) only [hI_ne])
            · simp (disch := omega) only [hI_ne]; rw [f3.1 _ _ (by omega), f2.1 _ _ (by omega), a3.1 _ _ (by omega)]
            · simp (disch := omega) only [hI_ne]; rw [f3.1 _ _ (by omega), f2.1 _ _ (by omega), a3.1 _ _ (by omega)]
            · simp (disch := omega) only [hI_ne]; rw [f3.1 _ _ (by omega), f2.1 _ _ (by omega), a3.1 _ _ (by omega)]
            · intro i
              rw [hI_ne (by omega), hI_ne (by omega), hI_ne (by omega), f3m.1 _ _ (by omega), f2m.1 _ _ (by omega), a4.1 _ _ (by omega)]
            · intro x i hx
              simp (disch := omega) only [hI_ne]; rw [f3.1 _ _ (by omega), f2.1 _ _ (by omega), a3.1 _ _ (by omega)]
      · have I := R2.idle B f3
        refine ⟨hc3, nI 0, hm3, ?_, ?_, (FNc.X (a3.tr f2)).tr f3.X, (a4.M.tr f2m.M).tr f3m.M, Or.inr ⟨rfl, B⟩⟩
        · simp only [e3, bnd_some, bind_some', dref_of I.1 (sS hS), rS0 hS]
          exact xi_co I (Or.inr ⟨w2, by omega, rfl⟩)
        · simp only [d3, bnd_some, ↓reduceIte]
    · have I := R1.idle B f2
      obtain ⟨e, q1, q2, q3⟩ := I.2.2.1
      obtain ⟨nn0, nn0a, nn0b⟩ := I.2.2.2.1
      obtain ⟨xx0, xx0a, xx0b⟩ := x_toldI q3 q1 q2 nn0a (rN0 hS) nn0b
      refine ⟨hc2, nI 0, hm2, ?_, ?_, (FNc.X a3).tr f2.X, a4.M.tr f2m.M, Or.inr ⟨rfl, B⟩⟩
      · simp only [e2, bnd_some, bind_some', dref_of I.1 (sS hS), rS0 hS, rC0 hS, xx0a]
        exact xi_co I xq
      · simp only [d2, bnd_some, ↓reduceIte, lit]
/-- the line of what is held, behind the names, idle -/
theorem xi_ho {h : Hp} (I : Idle h X) {x y : Int32} (q : x = -nI 1 ∨ ∃ i, i < 8 ∧ x = nI i) : (bnd (fX7_isHeld X h x y) (fun v_13 h_14 => if v_13 = nI 0 then (fX5_holdsLine_54 h_14 x y) else ((fX5_fail h_14 (nI 3) (hI h_14 69 9)).bind (fun h_17 => fX5_holdsLine_54 h_17 x y)))) = some h := by
  obtain ⟨e, q1, q2, q3⟩ := I.2.2.1
  have hz : ∃ z, fX7_isHeld X h x y = some (z, h) := by
    unfold fX7_isHeld
    rcases q with rfl | ⟨i, i1, rfl⟩
    · exact ⟨nI 0, by simp only [lit, show (-nI 1 < nI 0) = True from eq_true (by decide), ↓reduceIte]⟩
    · by_cases i5 : 5 ≤ i
      · exact ⟨nI 0, by simp (disch := omega) only [lit, ltF, leT, ↓reduceIte]⟩
      · simp (disch := omega) only [lit, ltF, leF, ↓reduceIte, inbN, nI_clamp]
        split
        · exact ⟨_, rfl⟩
        · exact ⟨_, rfl⟩
  obtain ⟨z, z1⟩ := hz
  have e54 : fX5_holdsLine_54 h x y = some h := by
    unfold fX5_holdsLine_54
    simp (disch := omega) only [lit, q3, eqF, ↓reduceIte]
  simp only [z1, bnd_some, x_failI q3 q1 q2, bind_some', e54]
  split <;> rfl
theorem l_hold (R : RD hc hm X T b n) (K : TK hc hm n 3 v s p) : ∃ hc' y hm', fX5_holdsLine hc = some hc' ∧ fX10_holdsLine hm = some (y, hm') ∧ LO hc hm hc' y hm' X b n p := by
  have hS := R.1.1
  have x0 : X = 1 ∨ X = 35 := hS
  obtain ⟨N0, N1, N2, N3, N4, N5, -⟩ := R.2.1.1.1
  have l0 := K.2.2.2.1
  unfold fX5_holdsLine fX10_holdsLine
  obtain ⟨hc1, hm1, a1, a2, a3, a4, k1, v1, s1, p1, K1, R1, -, g1⟩ := s_adv R K
  have l1 := K1.2.2.2.1
  have m13 : hI hm1 107 22 = nI (T 0 3) := R1.2.1.2.2.1.2.2.2.1
  simp (disch := omega) only [bind_some', rS4 hS, bnd_some, lit, x_pwT R K, a1, R1.dref, ↓reduceIte, a2, m13]
  obtain ⟨x2, hc2, y2, hm2, e2, d2, ⟨rfl, ⟨w2, w2a, rfl, w2c⟩, f2, f2m, k2, v2, s2, p2, K2, R2, -, g2⟩ | ⟨rfl, xq, B, f2, f2m⟩⟩ := s_told R1 K1 R1.roM
  · have l2 := K2.2.2.2.1
    have m20 : hI hm2 107 19 = nI (T 0 0) := R2.2.1.2.2.1.1
    have pl : hI hm2 107 10 = nI s2 := K2.2.1.2.1
    simp (disch := omega) only [e2, d2, bnd_some, bind_some', R2.dref, rS0 hS, rC0 hS, eqF, ↓reduceIte, lit, m20, w2c, pl, nI_add, inbN, nI_clamp]
    obtain ⟨x3, hc3, y3, hm3, e3, d3, ⟨rfl, ⟨w3, w3a, rfl, w3c⟩, f3, f3m, k3, v3, s3, p3, K3, R3, bf, g3⟩ | ⟨rfl, xq, B, f3, f3m⟩⟩ := s_told R2 K2 R2.roC
    · have l3 := K3.2.2.2.1
      have h14 := R3.1.2.2.2
      have hh := (R3.2.1.2.1.2.2.2.2.2.1 w2 w2a).2
      have hmh : hI hm3 121 (5 + w2) = nI (T 10 w2) := R3.2.1.2.2.2.2.2.2.2.1 w2 (by omega)
      have h31 : T 10 w2 < 2 ^ 31 := Nat.lt_of_lt_of_le (R3.2.1.1.2.2.2.2.1 w2 (by omega)) (Nat.pow_le_pow_right (by decide) (by omega))
      have sq : ((nI (T 10 w2) >>> (nI w3 &&& nI 31)) &&& nI 1) = nI (bn (T 10 w2) w3) := shr1 h31 (by omega)
      simp (disch := omega) only [e3, d3, bnd_some, bind_some', R3.dref, eqF, ↓reduceIte, w3c, fX7_isHeld, lit, ltF, leF, inbN, nI_clamp, rS5 hS, hh, sq, fX10_isOf, hmh]
      by_cases z : bn (T 10 w2) w3 = 1
      · have b1 : Bad (uI (uI hc3 69 14 (nI 3)) 69 15 (nI s2)) (uI (uI (uI hm3 107 10 (nI s2)) 107 4 (nI 3)) 107 5 (nI s2)) := ⟨3, by decide, by decide, by rw [hI_ne (by omega), hI_at ⟨rfl, rfl⟩], by rw [hI_ne (by omega), hI_at ⟨rfl, rfl⟩], by rw [hI_at ⟨rfl, rfl⟩, hI_at ⟨rfl, rfl⟩]⟩
        have i14 : hI (uI (uI hc3 69 14 (nI 3)) 69 15 (nI s2)) 69 14 = nI 3 := by rw [hI_ne (by omega), hI_at ⟨rfl, rfl⟩]
        have cp : hI (uI hm3 107 10 (nI s2)) 107 10 = nI s2 := hI_at ⟨rfl, rfl⟩
        refine ⟨_, nI 0, _, ?_, ?_, ?_, ?_, Or.inr ⟨rfl, b1⟩⟩
        · simp (disch := omega) only [z, ↓reduceIte, bnd_some, eqF, fX5_fail, h14, lit, bf, bind_some', fX5_holdsLine_54, i14]
        · simp (disch := omega) only [z, ↓reduceIte, bnd_some, eqF, m_wrong, cp, isZ0]
        · exact FBc.X (((FNc.B ((a3.tr f2).tr f3)).uI (by omega)).uI (by omega))
        · exact FBm.M ((((FGm.B ((a4.G.tr f2m).tr f3m)).uI (by omega)).uI (by omega)).uI (by omega))
      · have z0 : bn (T 10 w2) w3 = 0 := by have := bn_le (T 10 w2) w3; omega
        obtain ⟨U, RU⟩ := RD_ho R3 w2a w3a
        refine ⟨_, nI 1, _, ?_, ?_, ?_, ?_, Or.inl ⟨rfl, U, k3, v3, s3, p3, ?_, RU, by omega, ?_, fun rq => RQ_fr rq ?_ ?_ ?_ ?_⟩⟩
        · simp (disch := omega) only [z0, eqF, ↓reduceIte, bnd_some, fX5_holdsLine_54, h14, lit, R3.dref, bind_some', fX7_addHeld, ltF, leF, inbN, nI_clamp, rS5 hS, hh, shl1, nx_o]
        · simp (disch := omega) only [z0, eqF, ↓reduceIte, bnd_some, w3c, hmh, shl1, nx_o]
        · have f0 : FNc hc hc3 := (a3.tr f2).tr f3
          exact FXc.of (PI := fcX X) ((f0.mono (fun a i q => by unfold fcX; omega) (fun _ _ q => q)).uI (by unfold fcX; omega)) (fun _ _ q => q)
        · exact ((a4.M.tr f2m.M).tr f3m.M).uI (fmR (by decide) (by decide) (by show 5 ≤ _; omega))
        · exact TK_c (TK_m K3 (fun i h1 h2 => hI_ne (by omega))) (fun i => by simp (disch := omega) only [hI_ne])
        · simp (disch := omega) only [hI_ne]; rw [f3.1 _ _ (by omega), f2.1 _ _ (by omega), a3.1 _ _ (by omega)]
        · simp (disch := omega) only [hI_ne]; rw [f3.1 _ _ (by omega), f2.1 _ _ (by omega), a3.1 _ _ (by omega)]
        · simp (disch := omega) only [hI_ne]; rw [f3.1 _ _ (by omega), f2.1 _ _ (by omega), a3.1 _ _ (by omega)]
        · intro i
          rw [hI_ne (by omega), f3m.1 _ _ (by omega), f2m.1 _ _ (by omega), a4.1 _ _ (by omega)]
        · intro x i hx
          simp (disch := omega) only [hI_ne]; rw [f3.1 _ _ (by omega), f2.1 _ _ (by omega), a3.1 _ _ (by omega)]
    · have I := R2.idle B f3
      refine ⟨hc3, nI 0, hm3, ?_, ?_, (FNc.X (a3.tr f2)).tr f3.X, (a4.M.tr f2m.M).tr f3m.M, Or.inr ⟨rfl, B⟩⟩
      · simp only [e3, bnd_some, bind_some', dref_of I.1 (sS hS)]
        exact xi_ho I (Or.inr ⟨w2, by omega, rfl⟩)
      · simp only [d3, bnd_some, ↓reduceIte]
  · have I := R1.idle B f2
    obtain ⟨e, q1, q2, q3⟩ := I.2.2.1
    obtain ⟨nn0, nn0a, nn0b⟩ := I.2.2.2.1
    obtain ⟨xx0, xx0a, xx0b⟩ := x_toldI q3 q1 q2 nn0a (rN0 hS) nn0b
    refine ⟨hc2, nI 0, hm2, ?_, ?_, (FNc.X a3).tr f2.X, a4.M.tr f2m.M, Or.inr ⟨rfl, B⟩⟩
    · simp only [e2, bnd_some, bind_some', dref_of I.1 (sS hS), rS0 hS, rC0 hS, xx0a]
      exact xi_ho I xq
    · simp only [d2, bnd_some, ↓reduceIte, lit]
end V
