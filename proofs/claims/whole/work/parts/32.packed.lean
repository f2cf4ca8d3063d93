/-! the words of the language, packed: still open -/
def jS (sb : State) : Prop := True
def fX5_packed (h : Hp) (x0 : Int32) : Option (Int32 × Hp) := none
theorem c_X5_packed {l : Launch} {sb : State} {D : va_G} {ids : Nat → ClassId} {n : Nat} {SP : Hp → Prop} (hW : jS sb) (h : Hp) (x0 : Int32) (r : Int32 × Hp) (hr : fX5_packed h x0 = some r) : jM l yX5_packed cX5_packed 4 (some .int) 5 sb D ids shp SP n [.int x0] h (jQi sb D ids shp SP n r) := by cases hr
