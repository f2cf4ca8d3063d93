/-! The law answers, given text. -/
theorem bind2 {f : Option Hp} {g : Hp → Option Hp} {l : Hp → Option Unit} {a b : Hp} (h1 : f = some a) (h2 : g a = some b) (h3 : l b = some ()) : (f.bind (fun h1 => (g h1).bind (fun h2 => l h2))) = some () := by
  rw [h1]
  show (g a).bind _ = some ()
  rw [h2]
  exact h3
theorem l_lawT (hT : TextOk) {L : Nat} {xs : Nat → Int32} (hL : L ≤ 3072) : fL_law L xs = some () := by
  have e1 : fX9_init_0 h00 = some hS1 := getD_e hS1_e
  have e2 : fX10_init_107 hS1 = some hS2 := getD_e hS2_e
  have e3 : fL_loop L xs FU (zo hS2 152) 0 = some () := l_loop hT hL (L + 1) FU hS3 0 (by omega) (by show L + 1 < 100000; omega) (by omega) ⟨1, Tst, st_R2⟩
  generalize hS1 = a at e1 e2
  generalize hS2 = b at e2 e3
  unfold fL_law
  exact bind2 e1 e2 e3
