/-! text: the plain lines. -/
def fcX (X a i : Nat) : Prop := (a = 69 ∧ 6 ≤ i ∧ i ≤ 15) ∨ (X ≤ a ∧ a < X + 34 ∧ ¬ (i = 1 ∧ (a = X + 2 ∨ a = X + 12 ∨ a = X + 16)))
def FXc (X : Nat) (h h' : Hp) : Prop := (∀ a i, ¬ fcX X a i → hI h' a i = hI h a i) ∧ (∀ a i, hJ h' a i = hJ h a i) ∧ ∀ a i, a ≠ 69 → hR h' a i = hR h a i
def fmX (a i : Nat) : Prop := (a = 107 ∧ ((4 ≤ i ∧ i ≤ 11 ∧ i ≠ 6) ∨ (19 ≤ i ∧ i ≤ 25) ∨ (51 ≤ i ∧ i ≤ 56))) ∨ a = 110 ∨ (111 ≤ a ∧ a ≤ 132 ∧ uof a ≤ i) ∨ a = 133 ∨ a = 134
def FXm (h h' : Hp) : Prop := Fr fmX (fun _ _ => False) h h'
theorem FXc.tr {X : Nat} {h h1 h2 : Hp} (a : FXc X h h1) (b : FXc X h1 h2) : FXc X h h2 := ⟨fun x i q => (b.1 x i q).trans (a.1 x i q), fun x i => (b.2.1 x i).trans (a.2.1 x i), fun x i q => (b.2.2 x i q).trans (a.2.2 x i q)⟩
theorem FXc.of {X : Nat} {h h' : Hp} {PI : Nat → Nat → Prop} (f : Fr PI (fun _ _ => False) h h') (hp : ∀ a i, PI a i → fcX X a i) : FXc X h h' := ⟨fun x i q => f.1 x i (fun z => q (hp x i z)), fun x i => f.2.1 x i (fun z => z), fun x i _ => f.2.2 x i⟩
theorem FBc.X {X : Nat} {h h' : Hp} (f : FBc h h') : FXc X h h' := FXc.of f (fun a i q => Or.inl q)
theorem FNc.X {X : Nat} {h h' : Hp} (f : FNc h h') : FXc X h h' := f.B.X
theorem FBm.M {h h' : Hp} (f : FBm h h') : FXm h h' := f.mono (fun a i q => by unfold fmX; omega) (fun _ _ q => q)
theorem FGm.M {h h' : Hp} (f : FGm h h') : FXm h h' := f.B.M
theorem FNm.M {h h' : Hp} (f : FNm h h') : FXm h h' := f.G.M
theorem uofs : uof 111 = 2 ∧ uof 112 = 8 ∧ uof 113 = 8 ∧ uof 114 = 8 ∧ uof 115 = 16 ∧ uof 116 = 16 ∧ uof 117 = 5 ∧ uof 118 = 5 ∧ uof 119 = 5 ∧ uof 120 = 5 ∧ uof 121 = 5 ∧ uof 122 = 12 ∧ uof 123 = 12 ∧ uof 124 = 12 ∧ uof 125 = 6 ∧ uof 126 = 6 ∧ uof 127 = 3 ∧ uof 128 = 3 ∧ uof 129 = 3 ∧ uof 130 = 64 ∧ uof 131 = 64 ∧ uof 132 = 64 := by decide
theorem FFm {h h' : Hp} {B j : Nat} (f : Fr (fun a i => (a = 107 ∧ 7 ≤ i ∧ i ≤ 11) ∨ (a = B ∧ i = j)) (fun _ _ => False) h h') (h1 : 111 ≤ B) (h2 : B ≤ 132) (h3 : uof B ≤ j) : FXm h h' := f.mono (fun a i q => by
  rcases q with q | ⟨rfl, rfl⟩
  · exact Or.inl ⟨q.1, by omega⟩
  · exact Or.inr (Or.inr (Or.inl ⟨h1, h2, h3⟩))) (fun _ _ q => q)
theorem fmR {B j : Nat} (h1 : 111 ≤ B) (h2 : B ≤ 132) (h3 : uof B ≤ j) : fmX B j := Or.inr (Or.inr (Or.inl ⟨h1, h2, h3⟩))
theorem fm7 {j : Nat} (h : (4 ≤ j ∧ j ≤ 11 ∧ j ≠ 6) ∨ (19 ≤ j ∧ j ≤ 25) ∨ (51 ≤ j ∧ j ≤ 56)) : fmX 107 j := Or.inl ⟨rfl, h⟩
/-- the token at hand stands, whatever else is written -/
theorem TK_c {hc hm hc' : Hp} {n k v s p : Nat} (K : TK hc hm n k v s p) (e : ∀ i, hI hc' 69 i = hI hc 69 i) : TK hc' hm n k v s p := by
  obtain ⟨⟨j1, j2, j3, j4, j5, j6, j7⟩, jm⟩ := K
  exact ⟨⟨by rw [e]; exact j1, by rw [e]; exact j2, by rw [e]; exact j3, by rw [e]; exact j4, by rw [e]; exact j5, by rw [e]; exact j6, by rw [e]; exact j7⟩, jm⟩
/-- what a line comes to -/
def LO (hc hm hc' : Hp) (y : Int32) (hm' : Hp) (X : Nat) (b : Nat → Nat) (n p : Nat) : Prop := FXc X hc hc' ∧ FXm hm hm' ∧ ((y = nI 1 ∧ ∃ T' k' v' s' p', TK hc' hm' n k' v' s' p' ∧ RD hc' hm' X T' b n ∧ p ≤ s' ∧ hI hc' X 19 = hI hc X 19 ∧ (RQ hc hm X → RQ hc' hm' X)) ∨ (y = nI 0 ∧ Bad hc' hm'))
section V
variable {hc hm : Hp} {X : Nat} {T : Tx} {b : Nat → Nat} {n k v s p : Nat}
/-- the class may go on idly -/
def Idle (h : Hp) (X : Nat) : Prop := hR h 69 4 = some X ∧ isS X ∧ (∃ e, 1 ≤ e ∧ e ≤ 5 ∧ hI h 69 14 = nI e) ∧ (∃ N, N ≤ 8 ∧ hI h (X + 2) 2 = nI N) ∧ (∃ N, N ≤ 8 ∧ hI h (X + 12) 2 = nI N) ∧ (∃ N, N ≤ 8 ∧ hI h (X + 16) 2 = nI N)
theorem RD.idle {hc' hm' : Hp} (R : RD hc hm X T b n) (B : Bad hc' hm') (f : FBc hc hc') : Idle hc' X := by
  obtain ⟨⟨r1, r2, r3, r4⟩, ⟨r5, ⟨⟨c0, c1, c2, c3, -⟩, -⟩, r7⟩, -⟩ := R
  obtain ⟨⟨f0, f1, f2, f3, -⟩, -⟩ := r5
  obtain ⟨e, e1, e2, e3, -⟩ := B
  have x0 : X = 1 ∨ X = 35 := r1
  exact ⟨(f.2.2 _ _).trans r2, r1, ⟨e, e1, e2, e3⟩, ⟨T 0 0, f0, by rw [f.1 _ _ (by omega)]; exact c0⟩, ⟨T 0 2, by omega, by rw [f.1 _ _ (by omega)]; exact c2⟩, ⟨T 0 3, by omega, by rw [f.1 _ _ (by omega)]; exact c3⟩⟩
theorem RD.dref (R : RD hc hm X T b n) : dref shp hc 69 4 (7, 20) = some X := dref_of R.1.2.1 (sS R.1.1)
theorem RD.roC (R : RD hc hm X T b n) : RO hc hm (X + 2) (X + 3) 112 16 8 (T 0 0) := by
  obtain ⟨⟨r1, -⟩, ⟨r5, r6, r7⟩, -⟩ := R
  have := r5.1.1
  exact ⟨this, by omega, by decide, rN0 r1, r6.1.1, fun i hi => (r6.2.1 i hi).1.trans ((r7.2.1 i hi).1).symm⟩
theorem RD.roS (R : RD hc hm X T b n) : RO hc hm (X + 12) (X + 13) 117 10 5 (T 0 2) := by
  obtain ⟨⟨r1, -⟩, ⟨r5, r6, r7⟩, -⟩ := R
  have := r5.1.2.2.1
  exact ⟨by omega, by omega, by decide, rN12 r1, r6.1.2.2.1, fun i hi => (r6.2.2.2.2.1 i hi).1.trans ((r7.2.2.2.1 i hi).1).symm⟩
theorem RD.roM (R : RD hc hm X T b n) : RO hc hm (X + 16) (X + 17) 120 10 5 (T 0 3) := by
  obtain ⟨⟨r1, -⟩, ⟨r5, r6, r7⟩, -⟩ := R
  have := r5.1.2.2.2.1
  exact ⟨by omega, by omega, by decide, rN16 r1, r6.1.2.2.2.1, fun i hi => (r6.2.2.2.2.2.1 i hi).1.trans (r7.2.2.2.2.1 i hi).symm⟩
/-- the word of a line is passed, if it is fine -/
theorem x_pwT (R : RD hc hm X T b n) (K : TK hc hm n 3 v s p) (x : Int32) : fX5_passWord hc (nI 1) x = fX5_next hc := by
  unfold fX5_passWord fX5_passWord_13
  simp (disch := omega) only [lit, eqF, ↓reduceIte, x_passT R.1.2.2.2 K.1.1]
  cases fX5_next hc <;> rfl
theorem x_pwF (R : RD hc hm X T b n) (K : TK hc hm n k v s p) {e : Nat} (h1 : 1 ≤ e) (h5 : e ≤ 5) : fX5_passWord hc (nI 0) (nI e) = some (uI (uI hc 69 14 (nI e)) 69 15 (nI s)) := by
  have i14 : hI (uI (uI hc 69 14 (nI e)) 69 15 (nI s)) 69 14 = nI e := by rw [hI_ne (by omega), hI_at ⟨rfl, rfl⟩]
  unfold fX5_passWord fX5_passWord_13 fX5_fail
  simp only [lit, ↓reduceIte, R.1.2.2.2, K.1.2.1, bind_some', x_passI i14 h1 h5]
theorem x_roomT {h : Hp} {A N M : Nat} (h1 : hI h A 1 = nI M) (h2 : hI h A 2 = nI N) (hn : N < M) (h8 : M ≤ 8) : fX6_hasRoom A h = some (nI 1, h) := by
  unfold fX6_hasRoom
  simp (disch := omega) only [lit, h1, h2, leF, ↓reduceIte]
theorem x_roomF {h : Hp} {A N M : Nat} (h1 : hI h A 1 = nI M) (h2 : hI h A 2 = nI N) (hn : M ≤ N) (h8 : N ≤ 8) : fX6_hasRoom A h = some (nI 0, h) := by
  unfold fX6_hasRoom
  simp (disch := omega) only [lit, h1, h2, leT, ↓reduceIte]
theorem x_radd {h : Hp} {A Rr N M : Nat} (r0 : rf A 0 = Rr) (hR : Rr ≠ A) (h1 : hI h A 1 = nI M) (h2 : hI h A 2 = nI N) (hn : N < M) (h8 : M ≤ 8) (x : Int32) : fX6_add A h x = some (uI (uI h Rr N x) A 2 (nI (N + 1))) := by
  have e2 : hI (uI h Rr N x) A 2 = nI N := (hI_ne (by omega)).trans h2
  unfold fX6_add
  simp (disch := omega) only [x_roomT h1 h2 hn h8, bnd_some, lit, eqF, ↓reduceIte, h2, inbN, nI_clamp, r0, e2, nI_add]
end V
