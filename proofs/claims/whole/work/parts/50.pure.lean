/-! The pure side: which places change. -/
/-- h' is h but for the places of P -/
def Sm (P : Nat → Nat → Prop) (h h' : Hp) : Prop := (∀ a i, ¬ P a i → hI h' a i = hI h a i) ∧ (∀ a i, hJ h' a i = hJ h a i) ∧ ∀ a i, hR h' a i = hR h a i
theorem Sm.rf {P : Nat → Nat → Prop} {h : Hp} : Sm P h h := ⟨fun _ _ _ => rfl, fun _ _ => rfl, fun _ _ => rfl⟩
theorem Sm.tr {P : Nat → Nat → Prop} {h h1 h2 : Hp} (a : Sm P h h1) (b : Sm P h1 h2) : Sm P h h2 :=
  ⟨fun x i q => (b.1 x i q).trans (a.1 x i q), fun x i => (b.2.1 x i).trans (a.2.1 x i), fun x i => (b.2.2 x i).trans (a.2.2 x i)⟩
theorem Sm.mono {P R : Nat → Nat → Prop} {h h1 : Hp} (a : Sm P h h1) (hPR : ∀ x i, P x i → R x i) : Sm R h h1 :=
  ⟨fun x i q => a.1 x i (fun z => q (hPR x i z)), a.2.1, a.2.2⟩
theorem Sm.uI {P : Nat → Nat → Prop} {h h1 : Hp} (s : Sm P h h1) {a k : Nat} {v : Int32} (hp : P a k) : Sm P h (uI h1 a k v) := by
  refine s.tr ⟨fun x i q => ?_, fun _ _ => rfl, fun _ _ => rfl⟩
  rw [hI_uI, if_neg]
  rintro ⟨rfl, rfl⟩
  exact q hp
theorem inb_nI {j n : Nat} (h : j < n) (hn : n < 2 ^ 31) : inb (nI j) n = true := decide_eq_true (vp_in_nI h hn)
theorem FU_s : ∃ fu, FU = fu + 6 ∧ 90000 ≤ fu := ⟨99994, rfl, by decide⟩
/-- a byte of an int, as the class keeps it -/
def byt (x s : Int32) : Int32 := (x >>> (s &&& 31)).toInt8.toInt32
theorem byt_idem (x s : Int32) : (byt x s).toInt8.toInt32 = byt x s := by
  unfold byt
  simp
/-- one byte comes behind the tape -/
theorem p_app1 {h : Hp} {x sh : Int32} {k fu : Nat} (hk : hI h 69 1 = nI k) (hk7 : k < 700) (hs : ¬ sh < 0) : fX5_append_3 (fu + 1) h x sh = fX5_append_3 fu (uI (uI h 70 k (byt x sh)) 69 1 (nI (k + 1))) x (sh + (-8 : Int32)) := by
  rw [fX5_append_3, if_neg hs, hk, if_neg (show ¬ (700 : Int32) ≤ nI k from nI_ge hk7 (by decide)), if_pos (inb_nI hk7 (by decide)), nI_clamp (by omega)]
  unfold fX5_append_40
  have h1 : hI (uI h 70 k (byt x sh)) 69 1 = nI k := by rw [hI_uI, if_neg (by omega), hk]
  rw [show ((x >>> (sh &&& 31)).toInt8.toInt32).toInt8.toInt32 = byt x sh from byt_idem x sh, h1, nI_1]
/-- Reader.append: four bytes come behind the tape, nothing else changes -/
theorem p_append {h : Hp} {x : Int32} {k : Nat} (hk : hI h 69 1 = nI k) (hk4 : k + 4 ≤ 700) : ∃ h', fX5_append h x = some h' ∧ hI h' 69 1 = nI (k + 4) ∧ (hI h' 70 k = byt x 24 ∧ hI h' 70 (k + 1) = byt x 16 ∧ hI h' 70 (k + 2) = byt x 8 ∧ hI h' 70 (k + 3) = byt x 0) ∧ Sm (fun a i => (a = 70 ∧ k ≤ i ∧ i < k + 4) ∨ (a = 69 ∧ i = 1)) h h' := by
  obtain ⟨fu, hfu, -⟩ := FU_s
  have hr : ∀ (g : Hp) (v : Int32) (i : Nat), hI (uI g 69 1 v) 70 i = hI g 70 i := fun g v i => by rw [hI_uI, if_neg (by omega)]
  have hs : ∀ (g : Hp) (v : Int32), hI (uI g 69 1 v) 69 1 = v := fun g v => by rw [hI_uI, if_pos ⟨rfl, rfl⟩]
  have e : fX5_append h x = fX5_append_3 (fu + 6) h x (24 : Int32) := by unfold fX5_append; rw [hfu]
  rw [p_app1 hk (by omega) (by decide), p_app1 (k := k + 1) (hs _ _) (by omega) (by decide), p_app1 (k := k + 2) (hs _ _) (by omega) (by decide), p_app1 (k := k + 3) (hs _ _) (by omega) (by decide), fX5_append_3, if_pos (by decide)] at e
  refine ⟨_, e, hs _ _, ?_, ?_⟩
  · simp only [hr, hI_uI]
    refine ⟨?_, ?_, ?_, ?_⟩ <;> simp <;> rfl
  · exact ((((((((Sm.rf.uI (Or.inl ⟨rfl, by omega, by omega⟩)).uI (Or.inr ⟨rfl, rfl⟩)).uI (Or.inl ⟨rfl, by omega, by omega⟩)).uI (Or.inr ⟨rfl, rfl⟩)).uI (Or.inl ⟨rfl, by omega, by omega⟩)).uI (Or.inr ⟨rfl, rfl⟩)).uI (Or.inl ⟨rfl, by omega, by omega⟩)).uI (Or.inr ⟨rfl, rfl⟩))
