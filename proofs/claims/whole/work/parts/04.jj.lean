/-! The judgement: from this place of a method, with this abstract heap, the machine comes to the end that the pure answer o tells. -/
def TW : List Cond := lw_tbl.filter goodWord
theorem TW_good : GoodIn TW TW := fun w hw => ⟨hw, good_of_word (List.mem_filter.mp hw).2⟩
theorem TW_in {w : Cond} (h : w ∈ lw_tbl) (hg : goodWord w = true) : w ∈ TW := List.mem_filter.mpr ⟨h, hg⟩
def jtys (ids : Nat → ClassId) : List (ClassId × FieldType) := [(ids 20, .byte), (ids 21, .int), (ids 22, .long), (ids 23, .boolean), (ids 24, .object "StrawMen$Law")]
/-- what stays while entries are resolved: the nest mate's link, the String constants -/
def jWm (sb U : State) : Prop := va_Nw nestW U ∧ ∀ (own : String) (k : Nat) (tx : String) (a : Nat), vk_R own k tx a sb → vk_R own k tx a U
theorem jWm.same {sb u U : State} (hv : u.vm = U.vm) (h : jWm sb u) : jWm sb U := ⟨va_Nw.same rfl hv h.1, fun own k tx a q => (h.2 own k tx a q).same hv.symm⟩
theorem jWm.warm {sb s U : State} (hW : s.WarmedH U.vm) (h : jWm sb s) : jWm sb U := ⟨va_Nw.warmF hW h.1, fun own k tx a q => (h.2 own k tx a q).warm hW⟩
/-- what holds all through a method: the machine, its code, the words, the classes; the cells from sb's end on are ours -/
def jC (p : Program) (s : State) (m : MethodId) (args : Array Value) (meth : Method) (c : Code) (cc : ByteArray) (own : String) (nL : Nat) (sb : State) (D : va_G) (ids : Nat → ClassId) : Prop :=
  p.tables.exec = Jvm.exec ∧ c.code = cc ∧ c.maxLocals = nL ∧ s.vm.findClass own = some m.cls ∧ (∀ w ∈ TW, w.before args s = true) ∧ meth.locks = false ∧ va_K D vwCl (jtys ids) s ∧ sb.heap.size ≤ s.heap.size ∧ (∀ q : Nat, q < sb.heap.size → s.heap[q]? = sb.heap[q]?) ∧ sb.vm.Alike s.vm ∧ jWm sb s
abbrev jA (sb : State) : Nat → Prop := fun q => sb.heap.size ≤ q
def jJ {ρ : Type} (p : Program) (l : Launch) (e : Env) (R : Room) (s : State) (m : MethodId) (args : Array Value) (below : List Frame) (meth : Method) (c : Code) (nL : Nat) (sb : State) (D : va_G) (ids : Nat → ClassId) (sh : Nat → Nat × Nat) (SP : Hp → Prop) (Q : ρ → State → Prop) (n kc ks : Nat) (h : Hp) (pc : Nat) (lv : List (Nat × Value)) (st : List Value) (o : Option ρ) : Prop :=
  ∀ r : ρ, o = some r → SP h → ∀ (H : Heap) (locs : List Loc) (ls : Array Slot), va_P D vwCl (wls ids sh sb.heap.size n h) H → va_S (jA sb) s.heap H locs → lv_has ls nL (mvL sb.heap.size lv) → W p l e R s m args below meth c H locs kc ks (Q r) (F0 m pc ls (mvS sb.heap.size st))
/-- what is kept when ints and longs are written -/
def jSP (SP : Hp → Prop) : Prop := (∀ h a k v, SP h → SP (uI h a k v)) ∧ ∀ h a k v, SP h → SP (uJ h a k v)
section JJ
variable {ρ : Type} {p : Program} {l : Launch} {e : Env} {R : Room} {s : State} {m : MethodId} {args : Array Value} {below : List Frame} {meth : Method} {c : Code} {cc : ByteArray} {own : String} {nL : Nat} {sb : State} {D : va_G} {ids : Nat → ClassId} {sh : Nat → Nat × Nat} {SP : Hp → Prop} {Q : ρ → State → Prop} {n kc ks : Nat} {h : Hp} {pc : Nat} {lv lv' : List (Nat × Value)} {st : List Value} {o o1 o2 : Option ρ}
theorem jl_at {ls : Array Slot} {b : Nat} (hl : lv_has ls nL (mvL b lv)) {j i : Nat} {v : Value} (hj : lv[j]? = some (i, v)) : ls[i]? = some (.val (mv b v)) := by
  refine lv_at hl j ?_
  rw [List.getElem?_map, hj]
  rfl
theorem j_none {lv : List (Nat × Value)} : jJ p l e R s m args below meth c nL sb D ids sh SP Q n kc ks h pc lv st none := fun r hr => by cases hr
theorem j_iconst (hC : jC p s m args meth c cc own nL sb D ids) {x : Int} {v : Int32} (hv : Int32.ofInt x = v) (hd : decode cc pc = .ok (.iconst x, 1)) (k : jJ p l e R s m args below meth c nL sb D ids sh SP Q n kc ks h (pc + 1) lv (.int v :: st) o) : jJ p l e R s m args below meth c nL sb D ids sh SP Q n kc ks h pc lv (st) o := by
  intro r hr hs H locs ls hP hS hl
  obtain ⟨hx, hb, hC⟩ := hC
  refine lv_iconst hx hb hd hv ?_
  exact k r hr hs H locs ls hP hS hl
theorem j_bipush (hC : jC p s m args meth c cc own nL sb D ids) {x : Int} {v : Int32} (hv : (Int8.ofInt x).toInt32 = v) (hd : decode cc pc = .ok (.bipush x, 2)) (k : jJ p l e R s m args below meth c nL sb D ids sh SP Q n kc ks h (pc + 2) lv (.int v :: st) o) : jJ p l e R s m args below meth c nL sb D ids sh SP Q n kc ks h pc lv (st) o := by
  intro r hr hs H locs ls hP hS hl
  obtain ⟨hx, hb, hC⟩ := hC
  refine lv_bipush hx hb hd hv ?_
  exact k r hr hs H locs ls hP hS hl
theorem j_sipush (hC : jC p s m args meth c cc own nL sb D ids) {x : Int} {v : Int32} (hv : (Int16.ofInt x).toInt32 = v) (hd : decode cc pc = .ok (.sipush x, 3)) (k : jJ p l e R s m args below meth c nL sb D ids sh SP Q n kc ks h (pc + 3) lv (.int v :: st) o) : jJ p l e R s m args below meth c nL sb D ids sh SP Q n kc ks h pc lv (st) o := by
  intro r hr hs H locs ls hP hS hl
  obtain ⟨hx, hb, hC⟩ := hC
  refine lv_sipush hx hb hd hv ?_
  exact k r hr hs H locs ls hP hS hl
theorem j_lconst (hC : jC p s m args meth c cc own nL sb D ids) {x : Fin 2} {v : Int64} (hv : Int64.ofNat (x : Nat) = v) (hd : decode cc pc = .ok (.lconst x, 1)) (k : jJ p l e R s m args below meth c nL sb D ids sh SP Q n kc ks h (pc + 1) lv (.long v :: st) o) : jJ p l e R s m args below meth c nL sb D ids sh SP Q n kc ks h pc lv (st) o := by
  intro r hr hs H locs ls hP hS hl
  obtain ⟨hx, hb, hC⟩ := hC
  refine lv_lconst hx hb hd hv ?_
  exact k r hr hs H locs ls hP hS hl
theorem j_iload_n (hC : jC p s m args meth c cc own nL sb D ids) {kf : Fin 4} {i : Nat} {x : Int32} (j : Nat) (hj : lv[j]? = some (i, .int x)) (hi : (kf : Nat) = i) (hd : decode cc pc = .ok (.iload_n kf, 1)) (k : jJ p l e R s m args below meth c nL sb D ids sh SP Q n kc ks h (pc + 1) lv (.int x :: st) o) : jJ p l e R s m args below meth c nL sb D ids sh SP Q n kc ks h pc lv (st) o := by
  intro r hr hs H locs ls hP hS hl
  obtain ⟨hx, hb, hC⟩ := hC
  refine lv_iload_n hx hb hd hi (jl_at hl hj) ?_
  exact k r hr hs H locs ls hP hS hl
theorem j_iload (hC : jC p s m args meth c cc own nL sb D ids) {i : Nat} {x : Int32} (j : Nat) (hj : lv[j]? = some (i, .int x)) (hd : decode cc pc = .ok (.iload i, 2)) (k : jJ p l e R s m args below meth c nL sb D ids sh SP Q n kc ks h (pc + 2) lv (.int x :: st) o) : jJ p l e R s m args below meth c nL sb D ids sh SP Q n kc ks h pc lv (st) o := by
  intro r hr hs H locs ls hP hS hl
  obtain ⟨hx, hb, hC⟩ := hC
  refine lv_iload hx hb hd (jl_at hl hj) ?_
  exact k r hr hs H locs ls hP hS hl
theorem j_lload_n (hC : jC p s m args meth c cc own nL sb D ids) {kf : Fin 4} {i : Nat} {x : Int64} (j : Nat) (hj : lv[j]? = some (i, .long x)) (hi : (kf : Nat) = i) (hd : decode cc pc = .ok (.lload_n kf, 1)) (k : jJ p l e R s m args below meth c nL sb D ids sh SP Q n kc ks h (pc + 1) lv (.long x :: st) o) : jJ p l e R s m args below meth c nL sb D ids sh SP Q n kc ks h pc lv (st) o := by
  intro r hr hs H locs ls hP hS hl
  obtain ⟨hx, hb, hC⟩ := hC
  refine lv_lload_n hx hb hd hi (jl_at hl hj) ?_
  exact k r hr hs H locs ls hP hS hl
theorem j_lload (hC : jC p s m args meth c cc own nL sb D ids) {i : Nat} {x : Int64} (j : Nat) (hj : lv[j]? = some (i, .long x)) (hd : decode cc pc = .ok (.lload i, 2)) (k : jJ p l e R s m args below meth c nL sb D ids sh SP Q n kc ks h (pc + 2) lv (.long x :: st) o) : jJ p l e R s m args below meth c nL sb D ids sh SP Q n kc ks h pc lv (st) o := by
  intro r hr hs H locs ls hP hS hl
  obtain ⟨hx, hb, hC⟩ := hC
  refine lv_lload hx hb hd (jl_at hl hj) ?_
  exact k r hr hs H locs ls hP hS hl
theorem j_aload_n (hC : jC p s m args meth c cc own nL sb D ids) {kf : Fin 4} {i a : Nat} (j : Nat) (hj : lv[j]? = some (i, .ref a)) (hi : (kf : Nat) = i) (hd : decode cc pc = .ok (.aload_n kf, 1)) (k : jJ p l e R s m args below meth c nL sb D ids sh SP Q n kc ks h (pc + 1) lv (.ref a :: st) o) : jJ p l e R s m args below meth c nL sb D ids sh SP Q n kc ks h pc lv (st) o := by
  intro r hr hs H locs ls hP hS hl
  obtain ⟨hx, hb, hC⟩ := hC
  refine lv_aload_n hx hb hd hi (jl_at hl hj) ?_
  exact k r hr hs H locs ls hP hS hl
theorem j_aload (hC : jC p s m args meth c cc own nL sb D ids) {i a : Nat} (j : Nat) (hj : lv[j]? = some (i, .ref a)) (hd : decode cc pc = .ok (.aload i, 2)) (k : jJ p l e R s m args below meth c nL sb D ids sh SP Q n kc ks h (pc + 2) lv (.ref a :: st) o) : jJ p l e R s m args below meth c nL sb D ids sh SP Q n kc ks h pc lv (st) o := by
  intro r hr hs H locs ls hP hS hl
  obtain ⟨hx, hb, hC⟩ := hC
  refine lv_aload hx hb hd (jl_at hl hj) ?_
  exact k r hr hs H locs ls hP hS hl
theorem j_iadd (hC : jC p s m args meth c cc own nL sb D ids) {x y : Int32} (hd : decode cc pc = .ok (.iadd, 1)) (k : jJ p l e R s m args below meth c nL sb D ids sh SP Q n kc ks h (pc + 1) lv (.int (x + y) :: st) o) : jJ p l e R s m args below meth c nL sb D ids sh SP Q n kc ks h pc lv (.int y :: .int x :: st) o := by
  intro r hr hs H locs ls hP hS hl
  obtain ⟨hx, hb, hC⟩ := hC
  refine lv_iadd hx hb hd ?_
  exact k r hr hs H locs ls hP hS hl
theorem j_isub (hC : jC p s m args meth c cc own nL sb D ids) {x y : Int32} (hd : decode cc pc = .ok (.isub, 1)) (k : jJ p l e R s m args below meth c nL sb D ids sh SP Q n kc ks h (pc + 1) lv (.int (x - y) :: st) o) : jJ p l e R s m args below meth c nL sb D ids sh SP Q n kc ks h pc lv (.int y :: .int x :: st) o := by
  intro r hr hs H locs ls hP hS hl
  obtain ⟨hx, hb, hC⟩ := hC
  refine lv_isub hx hb hd ?_
  exact k r hr hs H locs ls hP hS hl
theorem j_imul (hC : jC p s m args meth c cc own nL sb D ids) {x y : Int32} (hd : decode cc pc = .ok (.imul, 1)) (k : jJ p l e R s m args below meth c nL sb D ids sh SP Q n kc ks h (pc + 1) lv (.int (x * y) :: st) o) : jJ p l e R s m args below meth c nL sb D ids sh SP Q n kc ks h pc lv (.int y :: .int x :: st) o := by
  intro r hr hs H locs ls hP hS hl
  obtain ⟨hx, hb, hC⟩ := hC
  refine lv_imul hx hb hd ?_
  exact k r hr hs H locs ls hP hS hl
theorem j_iand (hC : jC p s m args meth c cc own nL sb D ids) {x y : Int32} (hd : decode cc pc = .ok (.iand, 1)) (k : jJ p l e R s m args below meth c nL sb D ids sh SP Q n kc ks h (pc + 1) lv (.int (x &&& y) :: st) o) : jJ p l e R s m args below meth c nL sb D ids sh SP Q n kc ks h pc lv (.int y :: .int x :: st) o := by
  intro r hr hs H locs ls hP hS hl
  obtain ⟨hx, hb, hC⟩ := hC
  refine lv_iand hx hb hd ?_
  exact k r hr hs H locs ls hP hS hl
theorem j_ior (hC : jC p s m args meth c cc own nL sb D ids) {x y : Int32} (hd : decode cc pc = .ok (.ior, 1)) (k : jJ p l e R s m args below meth c nL sb D ids sh SP Q n kc ks h (pc + 1) lv (.int (x ||| y) :: st) o) : jJ p l e R s m args below meth c nL sb D ids sh SP Q n kc ks h pc lv (.int y :: .int x :: st) o := by
  intro r hr hs H locs ls hP hS hl
  obtain ⟨hx, hb, hC⟩ := hC
  refine lv_ior hx hb hd ?_
  exact k r hr hs H locs ls hP hS hl
theorem j_ixor (hC : jC p s m args meth c cc own nL sb D ids) {x y : Int32} (hd : decode cc pc = .ok (.ixor, 1)) (k : jJ p l e R s m args below meth c nL sb D ids sh SP Q n kc ks h (pc + 1) lv (.int (x ^^^ y) :: st) o) : jJ p l e R s m args below meth c nL sb D ids sh SP Q n kc ks h pc lv (.int y :: .int x :: st) o := by
  intro r hr hs H locs ls hP hS hl
  obtain ⟨hx, hb, hC⟩ := hC
  refine lv_ixor hx hb hd ?_
  exact k r hr hs H locs ls hP hS hl
theorem j_ladd (hC : jC p s m args meth c cc own nL sb D ids) {x y : Int64} (hd : decode cc pc = .ok (.ladd, 1)) (k : jJ p l e R s m args below meth c nL sb D ids sh SP Q n kc ks h (pc + 1) lv (.long (x + y) :: st) o) : jJ p l e R s m args below meth c nL sb D ids sh SP Q n kc ks h pc lv (.long y :: .long x :: st) o := by
  intro r hr hs H locs ls hP hS hl
  obtain ⟨hx, hb, hC⟩ := hC
  refine lv_ladd hx hb hd ?_
  exact k r hr hs H locs ls hP hS hl
theorem j_lsub (hC : jC p s m args meth c cc own nL sb D ids) {x y : Int64} (hd : decode cc pc = .ok (.lsub, 1)) (k : jJ p l e R s m args below meth c nL sb D ids sh SP Q n kc ks h (pc + 1) lv (.long (x - y) :: st) o) : jJ p l e R s m args below meth c nL sb D ids sh SP Q n kc ks h pc lv (.long y :: .long x :: st) o := by
  intro r hr hs H locs ls hP hS hl
  obtain ⟨hx, hb, hC⟩ := hC
  refine lv_lsub hx hb hd ?_
  exact k r hr hs H locs ls hP hS hl
theorem j_lmul (hC : jC p s m args meth c cc own nL sb D ids) {x y : Int64} (hd : decode cc pc = .ok (.lmul, 1)) (k : jJ p l e R s m args below meth c nL sb D ids sh SP Q n kc ks h (pc + 1) lv (.long (x * y) :: st) o) : jJ p l e R s m args below meth c nL sb D ids sh SP Q n kc ks h pc lv (.long y :: .long x :: st) o := by
  intro r hr hs H locs ls hP hS hl
  obtain ⟨hx, hb, hC⟩ := hC
  refine lv_lmul hx hb hd ?_
  exact k r hr hs H locs ls hP hS hl
theorem j_land (hC : jC p s m args meth c cc own nL sb D ids) {x y : Int64} (hd : decode cc pc = .ok (.land, 1)) (k : jJ p l e R s m args below meth c nL sb D ids sh SP Q n kc ks h (pc + 1) lv (.long (x &&& y) :: st) o) : jJ p l e R s m args below meth c nL sb D ids sh SP Q n kc ks h pc lv (.long y :: .long x :: st) o := by
  intro r hr hs H locs ls hP hS hl
  obtain ⟨hx, hb, hC⟩ := hC
  refine lv_land hx hb hd ?_
  exact k r hr hs H locs ls hP hS hl
theorem j_ishl (hC : jC p s m args meth c cc own nL sb D ids) {x y : Int32} (hd : decode cc pc = .ok (.ishl, 1)) (k : jJ p l e R s m args below meth c nL sb D ids sh SP Q n kc ks h (pc + 1) lv (.int (x <<< (y &&& 31)) :: st) o) : jJ p l e R s m args below meth c nL sb D ids sh SP Q n kc ks h pc lv (.int y :: .int x :: st) o := by
  intro r hr hs H locs ls hP hS hl
  obtain ⟨hx, hb, hC⟩ := hC
  refine lv_ishl hx hb hd ?_
  exact k r hr hs H locs ls hP hS hl
theorem j_ishr (hC : jC p s m args meth c cc own nL sb D ids) {x y : Int32} (hd : decode cc pc = .ok (.ishr, 1)) (k : jJ p l e R s m args below meth c nL sb D ids sh SP Q n kc ks h (pc + 1) lv (.int (x >>> (y &&& 31)) :: st) o) : jJ p l e R s m args below meth c nL sb D ids sh SP Q n kc ks h pc lv (.int y :: .int x :: st) o := by
  intro r hr hs H locs ls hP hS hl
  obtain ⟨hx, hb, hC⟩ := hC
  refine lv_ishr hx hb hd ?_
  exact k r hr hs H locs ls hP hS hl
theorem j_lneg (hC : jC p s m args meth c cc own nL sb D ids) {x : Int64} (hd : decode cc pc = .ok (.lneg, 1)) (k : jJ p l e R s m args below meth c nL sb D ids sh SP Q n kc ks h (pc + 1) lv (.long (-x) :: st) o) : jJ p l e R s m args below meth c nL sb D ids sh SP Q n kc ks h pc lv (.long x :: st) o := by
  intro r hr hs H locs ls hP hS hl
  obtain ⟨hx, hb, hC⟩ := hC
  refine lv_lneg hx hb hd ?_
  exact k r hr hs H locs ls hP hS hl
theorem j_i2l (hC : jC p s m args meth c cc own nL sb D ids) {x : Int32} (hd : decode cc pc = .ok (.i2l, 1)) (k : jJ p l e R s m args below meth c nL sb D ids sh SP Q n kc ks h (pc + 1) lv (.long x.toInt64 :: st) o) : jJ p l e R s m args below meth c nL sb D ids sh SP Q n kc ks h pc lv (.int x :: st) o := by
  intro r hr hs H locs ls hP hS hl
  obtain ⟨hx, hb, hC⟩ := hC
  refine lv_i2l hx hb hd rfl ?_
  exact k r hr hs H locs ls hP hS hl
theorem j_l2i (hC : jC p s m args meth c cc own nL sb D ids) {x : Int64} (hd : decode cc pc = .ok (.l2i, 1)) (k : jJ p l e R s m args below meth c nL sb D ids sh SP Q n kc ks h (pc + 1) lv (.int x.toInt32 :: st) o) : jJ p l e R s m args below meth c nL sb D ids sh SP Q n kc ks h pc lv (.long x :: st) o := by
  intro r hr hs H locs ls hP hS hl
  obtain ⟨hx, hb, hC⟩ := hC
  refine lv_l2i hx hb hd rfl ?_
  exact k r hr hs H locs ls hP hS hl
theorem j_i2b (hC : jC p s m args meth c cc own nL sb D ids) {x : Int32} (hd : decode cc pc = .ok (.i2b, 1)) (k : jJ p l e R s m args below meth c nL sb D ids sh SP Q n kc ks h (pc + 1) lv (.int x.toInt8.toInt32 :: st) o) : jJ p l e R s m args below meth c nL sb D ids sh SP Q n kc ks h pc lv (.int x :: st) o := by
  intro r hr hs H locs ls hP hS hl
  obtain ⟨hx, hb, hC⟩ := hC
  refine lv_i2b hx hb hd rfl ?_
  exact k r hr hs H locs ls hP hS hl
theorem j_lcmp (hC : jC p s m args meth c cc own nL sb D ids) {x y : Int64} (hd : decode cc pc = .ok (.lcmp, 1)) (k : jJ p l e R s m args below meth c nL sb D ids sh SP Q n kc ks h (pc + 1) lv (.int (lg_cmp x y) :: st) o) : jJ p l e R s m args below meth c nL sb D ids sh SP Q n kc ks h pc lv (.long y :: .long x :: st) o := by
  intro r hr hs H locs ls hP hS hl
  obtain ⟨hx, hb, hC⟩ := hC
  refine W.lcmp hx hb hd ?_
  exact k r hr hs H locs ls hP hS hl
theorem j_dupi (hC : jC p s m args meth c cc own nL sb D ids) {x : Int32} (hd : decode cc pc = .ok (.dup, 1)) (k : jJ p l e R s m args below meth c nL sb D ids sh SP Q n kc ks h (pc + 1) lv (.int x :: .int x :: st) o) : jJ p l e R s m args below meth c nL sb D ids sh SP Q n kc ks h pc lv (.int x :: st) o := by
  intro r hr hs H locs ls hP hS hl
  obtain ⟨hx, hb, hC⟩ := hC
  refine lv_dup hx hb hd rfl ?_
  exact k r hr hs H locs ls hP hS hl
theorem j_dupr (hC : jC p s m args meth c cc own nL sb D ids) {a : Nat} (hd : decode cc pc = .ok (.dup, 1)) (k : jJ p l e R s m args below meth c nL sb D ids sh SP Q n kc ks h (pc + 1) lv (.ref a :: .ref a :: st) o) : jJ p l e R s m args below meth c nL sb D ids sh SP Q n kc ks h pc lv (.ref a :: st) o := by
  intro r hr hs H locs ls hP hS hl
  obtain ⟨hx, hb, hC⟩ := hC
  refine lv_dup hx hb hd rfl ?_
  exact k r hr hs H locs ls hP hS hl
theorem j_pop (hC : jC p s m args meth c cc own nL sb D ids) {x : Int32} (hd : decode cc pc = .ok (.pop, 1)) (k : jJ p l e R s m args below meth c nL sb D ids sh SP Q n kc ks h (pc + 1) lv (st) o) : jJ p l e R s m args below meth c nL sb D ids sh SP Q n kc ks h pc lv (.int x :: st) o := by
  intro r hr hs H locs ls hP hS hl
  obtain ⟨hx, hb, hC⟩ := hC
  refine lv_pop hx hb hd rfl ?_
  exact k r hr hs H locs ls hP hS hl
theorem j_dup2 (hC : jC p s m args meth c cc own nL sb D ids) {x : Int32} {a : Nat} (hd : decode cc pc = .ok (.dup2, 1)) (k : jJ p l e R s m args below meth c nL sb D ids sh SP Q n kc ks h (pc + 1) lv (.int x :: .ref a :: .int x :: .ref a :: st) o) : jJ p l e R s m args below meth c nL sb D ids sh SP Q n kc ks h pc lv (.int x :: .ref a :: st) o := by
  intro r hr hs H locs ls hP hS hl
  obtain ⟨hx, hb, hC⟩ := hC
  refine lv_dup2_11 hx hb hd rfl rfl ?_
  exact k r hr hs H locs ls hP hS hl
theorem j_dup2ii (hC : jC p s m args meth c cc own nL sb D ids) {x y : Int32} (hd : decode cc pc = .ok (.dup2, 1)) (k : jJ p l e R s m args below meth c nL sb D ids sh SP Q n kc ks h (pc + 1) lv (.int x :: .int y :: .int x :: .int y :: st) o) : jJ p l e R s m args below meth c nL sb D ids sh SP Q n kc ks h pc lv (.int x :: .int y :: st) o := by
  intro r hr hs H locs ls hP hS hl
  obtain ⟨hx, hb, hC⟩ := hC
  refine lv_dup2_11 hx hb hd rfl rfl ?_
  exact k r hr hs H locs ls hP hS hl
theorem j_dup_x1 (hC : jC p s m args meth c cc own nL sb D ids) {x : Int32} {a : Nat} (hd : decode cc pc = .ok (.dup_x1, 1)) (k : jJ p l e R s m args below meth c nL sb D ids sh SP Q n kc ks h (pc + 1) lv (.int x :: .ref a :: .int x :: st) o) : jJ p l e R s m args below meth c nL sb D ids sh SP Q n kc ks h pc lv (.int x :: .ref a :: st) o := by
  intro r hr hs H locs ls hP hS hl
  obtain ⟨hx, hb, hC⟩ := hC
  refine lv_dup_x1 hx hb hd rfl rfl ?_
  exact k r hr hs H locs ls hP hS hl
theorem j_idiv (hC : jC p s m args meth c cc own nL sb D ids) {x y : Int32} (hd : decode cc pc = .ok (.idiv, 1)) (k : jJ p l e R s m args below meth c nL sb D ids sh SP Q n kc ks h (pc + 1) lv (.int (x / y) :: st) o) : jJ p l e R s m args below meth c nL sb D ids sh SP Q n kc ks h pc lv (.int y :: .int x :: st) (if y = 0 then none else o) := by
  intro r hr hs H locs ls hP hS hl
  obtain ⟨hx, hb, hC⟩ := hC
  by_cases hy : y = 0
  · rw [if_pos hy] at hr; cases hr
  · rw [if_neg hy] at hr
    refine lv_idiv hx hb hd hy ?_
    exact k r hr hs H locs ls hP hS hl
theorem j_irem (hC : jC p s m args meth c cc own nL sb D ids) {x y : Int32} (hd : decode cc pc = .ok (.irem, 1)) (k : jJ p l e R s m args below meth c nL sb D ids sh SP Q n kc ks h (pc + 1) lv (.int (x - x / y * y) :: st) o) : jJ p l e R s m args below meth c nL sb D ids sh SP Q n kc ks h pc lv (.int y :: .int x :: st) (if y = 0 then none else o) := by
  intro r hr hs H locs ls hP hS hl
  obtain ⟨hx, hb, hC⟩ := hC
  by_cases hy : y = 0
  · rw [if_pos hy] at hr; cases hr
  · rw [if_neg hy] at hr
    refine lv_irem hx hb hd hy ?_
    exact k r hr hs H locs ls hP hS hl
theorem j_ldiv (hC : jC p s m args meth c cc own nL sb D ids) {x y : Int64} (hd : decode cc pc = .ok (.ldiv, 1)) (k : jJ p l e R s m args below meth c nL sb D ids sh SP Q n kc ks h (pc + 1) lv (.long (x / y) :: st) o) : jJ p l e R s m args below meth c nL sb D ids sh SP Q n kc ks h pc lv (.long y :: .long x :: st) (if y = 0 then none else o) := by
  intro r hr hs H locs ls hP hS hl
  obtain ⟨hx, hb, hC⟩ := hC
  by_cases hy : y = 0
  · rw [if_pos hy] at hr; cases hr
  · rw [if_neg hy] at hr
    refine lv_ldiv hx hb hd hy ?_
    exact k r hr hs H locs ls hP hS hl
theorem j_lrem (hC : jC p s m args meth c cc own nL sb D ids) {x y : Int64} (hd : decode cc pc = .ok (.lrem, 1)) (k : jJ p l e R s m args below meth c nL sb D ids sh SP Q n kc ks h (pc + 1) lv (.long (x - x / y * y) :: st) o) : jJ p l e R s m args below meth c nL sb D ids sh SP Q n kc ks h pc lv (.long y :: .long x :: st) (if y = 0 then none else o) := by
  intro r hr hs H locs ls hP hS hl
  obtain ⟨hx, hb, hC⟩ := hC
  by_cases hy : y = 0
  · rw [if_pos hy] at hr; cases hr
  · rw [if_neg hy] at hr
    refine lv_lrem hx hb hd hy ?_
    exact k r hr hs H locs ls hP hS hl
theorem j_idivK (hC : jC p s m args meth c cc own nL sb D ids) {x y : Int32} (hy : ¬ y = 0) (hd : decode cc pc = .ok (.idiv, 1)) (k : jJ p l e R s m args below meth c nL sb D ids sh SP Q n kc ks h (pc + 1) lv (.int (x / y) :: st) o) : jJ p l e R s m args below meth c nL sb D ids sh SP Q n kc ks h pc lv (.int y :: .int x :: st) o := by
  intro r hr hs H locs ls hP hS hl
  obtain ⟨hx, hb, hC⟩ := hC
  refine lv_idiv hx hb hd hy ?_
  exact k r hr hs H locs ls hP hS hl
theorem j_iremK (hC : jC p s m args meth c cc own nL sb D ids) {x y : Int32} (hy : ¬ y = 0) (hd : decode cc pc = .ok (.irem, 1)) (k : jJ p l e R s m args below meth c nL sb D ids sh SP Q n kc ks h (pc + 1) lv (.int (x - x / y * y) :: st) o) : jJ p l e R s m args below meth c nL sb D ids sh SP Q n kc ks h pc lv (.int y :: .int x :: st) o := by
  intro r hr hs H locs ls hP hS hl
  obtain ⟨hx, hb, hC⟩ := hC
  refine lv_irem hx hb hd hy ?_
  exact k r hr hs H locs ls hP hS hl
theorem j_ldivK (hC : jC p s m args meth c cc own nL sb D ids) {x y : Int64} (hy : ¬ y = 0) (hd : decode cc pc = .ok (.ldiv, 1)) (k : jJ p l e R s m args below meth c nL sb D ids sh SP Q n kc ks h (pc + 1) lv (.long (x / y) :: st) o) : jJ p l e R s m args below meth c nL sb D ids sh SP Q n kc ks h pc lv (.long y :: .long x :: st) o := by
  intro r hr hs H locs ls hP hS hl
  obtain ⟨hx, hb, hC⟩ := hC
  refine lv_ldiv hx hb hd hy ?_
  exact k r hr hs H locs ls hP hS hl
theorem j_lremK (hC : jC p s m args meth c cc own nL sb D ids) {x y : Int64} (hy : ¬ y = 0) (hd : decode cc pc = .ok (.lrem, 1)) (k : jJ p l e R s m args below meth c nL sb D ids sh SP Q n kc ks h (pc + 1) lv (.long (x - x / y * y) :: st) o) : jJ p l e R s m args below meth c nL sb D ids sh SP Q n kc ks h pc lv (.long y :: .long x :: st) o := by
  intro r hr hs H locs ls hP hS hl
  obtain ⟨hx, hb, hC⟩ := hC
  refine lv_lrem hx hb hd hy ?_
  exact k r hr hs H locs ls hP hS hl
theorem jl_filt (b : Nat) (lv : List (Nat × Value)) (f g : Nat × Value → Bool) (z : Nat × Value) {z' : Nat × Value} (hz : z' = (z.1, mv b z.2)) (hfg : ∀ q, f (q.1, mv b q.2) = g q) : z' :: (mvL b lv).filter f = mvL b (z :: lv.filter g) := by
  subst hz
  show _ = (z.1, mv b z.2) :: mvL b (lv.filter g)
  congr 1
  induction lv with
  | nil => rfl
  | cons a t ih =>
    simp only [mvL, List.map_cons, List.filter_cons, hfg a]
    split <;> simp_all [mvL]
theorem j_istore_n (hC : jC p s m args meth c cc own nL sb D ids) {kf : Fin 4} {i : Nat} (hi : (kf : Nat) = i) {x : Int32} (hn : i < nL) (hv : (i, .int x) :: lv.filter (fun q => !(q.1 == i) && !(q.1 + 1 == i && q.2.category == 2)) = lv') (hd : decode cc pc = .ok (.istore_n kf, 1)) (k : jJ p l e R s m args below meth c nL sb D ids sh SP Q n kc ks h (pc + 1) lv' st o) : jJ p l e R s m args below meth c nL sb D ids sh SP Q n kc ks h pc lv (.int x :: st) o := by
  intro r hr hs H locs ls hP hS hl
  obtain ⟨hx, hb, hC⟩ := hC
  refine lv_istore_n (lv' := mvL sb.heap.size lv') hx hb hd hi hl hn ?_ (fun ls' hl' => k r hr hs H locs ls' hP hS hl')
  rw [← hv]
  exact jl_filt sb.heap.size lv _ _ (i, .int x) rfl (fun q => by simp [mv_cat])
theorem j_istore (hC : jC p s m args meth c cc own nL sb D ids) {i : Nat} {x : Int32} (hn : i < nL) (hv : (i, .int x) :: lv.filter (fun q => !(q.1 == i) && !(q.1 + 1 == i && q.2.category == 2)) = lv') (hd : decode cc pc = .ok (.istore i, 2)) (k : jJ p l e R s m args below meth c nL sb D ids sh SP Q n kc ks h (pc + 2) lv' st o) : jJ p l e R s m args below meth c nL sb D ids sh SP Q n kc ks h pc lv (.int x :: st) o := by
  intro r hr hs H locs ls hP hS hl
  obtain ⟨hx, hb, hC⟩ := hC
  refine lv_istore (lv' := mvL sb.heap.size lv') hx hb hd hl hn ?_ (fun ls' hl' => k r hr hs H locs ls' hP hS hl')
  rw [← hv]
  exact jl_filt sb.heap.size lv _ _ (i, .int x) rfl (fun q => by simp [mv_cat])
theorem j_lstore_n (hC : jC p s m args meth c cc own nL sb D ids) {kf : Fin 4} {i : Nat} (hi : (kf : Nat) = i) {x : Int64} (hn : i + 1 < nL) (hv : (i, .long x) :: lv.filter (fun q => !(q.1 == i) && (!(q.1 == i + 1) && !(q.1 + 1 == i && q.2.category == 2))) = lv') (hd : decode cc pc = .ok (.lstore_n kf, 1)) (k : jJ p l e R s m args below meth c nL sb D ids sh SP Q n kc ks h (pc + 1) lv' st o) : jJ p l e R s m args below meth c nL sb D ids sh SP Q n kc ks h pc lv (.long x :: st) o := by
  intro r hr hs H locs ls hP hS hl
  obtain ⟨hx, hb, hC⟩ := hC
  refine lv_lstore_n (lv' := mvL sb.heap.size lv') hx hb hd hi hl hn ?_ (fun ls' hl' => k r hr hs H locs ls' hP hS hl')
  rw [← hv]
  exact jl_filt sb.heap.size lv _ _ (i, .long x) rfl (fun q => by simp [mv_cat])
theorem j_lstore (hC : jC p s m args meth c cc own nL sb D ids) {i : Nat} {x : Int64} (hn : i + 1 < nL) (hv : (i, .long x) :: lv.filter (fun q => !(q.1 == i) && (!(q.1 == i + 1) && !(q.1 + 1 == i && q.2.category == 2))) = lv') (hd : decode cc pc = .ok (.lstore i, 2)) (k : jJ p l e R s m args below meth c nL sb D ids sh SP Q n kc ks h (pc + 2) lv' st o) : jJ p l e R s m args below meth c nL sb D ids sh SP Q n kc ks h pc lv (.long x :: st) o := by
  intro r hr hs H locs ls hP hS hl
  obtain ⟨hx, hb, hC⟩ := hC
  refine lv_lstore (lv' := mvL sb.heap.size lv') hx hb hd hl hn ?_ (fun ls' hl' => k r hr hs H locs ls' hP hS hl')
  rw [← hv]
  exact jl_filt sb.heap.size lv _ _ (i, .long x) rfl (fun q => by simp [mv_cat])
theorem j_astore_n (hC : jC p s m args meth c cc own nL sb D ids) {kf : Fin 4} {i : Nat} (hi : (kf : Nat) = i) {x : Nat} (hn : i < nL) (hv : (i, .ref x) :: lv.filter (fun q => !(q.1 == i) && !(q.1 + 1 == i && q.2.category == 2)) = lv') (hd : decode cc pc = .ok (.astore_n kf, 1)) (k : jJ p l e R s m args below meth c nL sb D ids sh SP Q n kc ks h (pc + 1) lv' st o) : jJ p l e R s m args below meth c nL sb D ids sh SP Q n kc ks h pc lv (.ref x :: st) o := by
  intro r hr hs H locs ls hP hS hl
  obtain ⟨hx, hb, hC⟩ := hC
  refine lv_astore_n (lv' := mvL sb.heap.size lv') hx hb hd hi hl hn ?_ (fun ls' hl' => k r hr hs H locs ls' hP hS hl')
  rw [← hv]
  exact jl_filt sb.heap.size lv _ _ (i, .ref x) rfl (fun q => by simp [mv_cat])
theorem j_astore (hC : jC p s m args meth c cc own nL sb D ids) {i : Nat} {x : Nat} (hn : i < nL) (hv : (i, .ref x) :: lv.filter (fun q => !(q.1 == i) && !(q.1 + 1 == i && q.2.category == 2)) = lv') (hd : decode cc pc = .ok (.astore i, 2)) (k : jJ p l e R s m args below meth c nL sb D ids sh SP Q n kc ks h (pc + 2) lv' st o) : jJ p l e R s m args below meth c nL sb D ids sh SP Q n kc ks h pc lv (.ref x :: st) o := by
  intro r hr hs H locs ls hP hS hl
  obtain ⟨hx, hb, hC⟩ := hC
  refine lv_astore (lv' := mvL sb.heap.size lv') hx hb hd hl hn ?_ (fun ls' hl' => k r hr hs H locs ls' hP hS hl')
  rw [← hv]
  exact jl_filt sb.heap.size lv _ _ (i, .ref x) rfl (fun q => by simp [mv_cat])
theorem j_iinc (hC : jC p s m args meth c cc own nL sb D ids) {i : Nat} {d : Int} {x v : Int32} (j : Nat) (hj : lv[j]? = some (i, .int x)) (hw : x + Int32.ofInt d = v) (hn : i < nL) (hv : (i, Value.int v) :: lv.filter (fun q => !(q.1 == i) && !(q.1 + 1 == i && q.2.category == 2)) = lv') (hd : decode cc pc = .ok (.iinc i d, 3)) (k : jJ p l e R s m args below meth c nL sb D ids sh SP Q n kc ks h (pc + 3) lv' st o) : jJ p l e R s m args below meth c nL sb D ids sh SP Q n kc ks h pc lv st o := by
  intro r hr hs H locs ls hP hS hl
  obtain ⟨hx, hb, hC⟩ := hC
  refine lv_iinc (k := j) (lv' := mvL sb.heap.size lv') hx hb hd hl (by rw [List.getElem?_map, hj]; rfl) hw hn ?_ (fun ls' hl' => k r hr hs H locs ls' hP hS hl')
  rw [← hv]
  exact jl_filt sb.heap.size lv _ _ (i, .int v) rfl (fun q => by simp [mv_cat])
theorem j_if_eq (hC : jC p s m args meth c cc own nL sb D ids) {x : Int32} {off : Int} {tgt : Nat} (ht : (pc : Int) + off = (tgt : Int)) (hd : decode cc pc = .ok (.ifCond .eq off, 3)) (kt : x = 0 → jJ p l e R s m args below meth c nL sb D ids sh SP Q n kc ks h tgt lv st o1) (kf : ¬ x = 0 → jJ p l e R s m args below meth c nL sb D ids sh SP Q n kc ks h (pc + 3) lv st o2) : jJ p l e R s m args below meth c nL sb D ids sh SP Q n kc ks h pc lv (.int x :: st) (if x = 0 then o1 else o2) := by
  intro r hr hs H locs ls hP hS hl
  obtain ⟨hx, hb, hC⟩ := hC
  refine lv_if_eq hx hb hd ht (fun q => ?_) (fun q => ?_)
  · rw [if_pos q] at hr; exact kt q r hr hs H locs ls hP hS hl
  · rw [if_neg q] at hr; exact kf q r hr hs H locs ls hP hS hl
theorem j_icmp_eq (hC : jC p s m args meth c cc own nL sb D ids) {x y : Int32} {off : Int} {tgt : Nat} (ht : (pc : Int) + off = (tgt : Int)) (hd : decode cc pc = .ok (.if_icmp .eq off, 3)) (kt : x = y → jJ p l e R s m args below meth c nL sb D ids sh SP Q n kc ks h tgt lv st o1) (kf : ¬ x = y → jJ p l e R s m args below meth c nL sb D ids sh SP Q n kc ks h (pc + 3) lv st o2) : jJ p l e R s m args below meth c nL sb D ids sh SP Q n kc ks h pc lv (.int y :: .int x :: st) (if x = y then o1 else o2) := by
  intro r hr hs H locs ls hP hS hl
  obtain ⟨hx, hb, hC⟩ := hC
  refine lv_icmp_eq hx hb hd ht (fun q => ?_) (fun q => ?_)
  · rw [if_pos q] at hr; exact kt q r hr hs H locs ls hP hS hl
  · rw [if_neg q] at hr; exact kf q r hr hs H locs ls hP hS hl
theorem j_if_ne (hC : jC p s m args meth c cc own nL sb D ids) {x : Int32} {off : Int} {tgt : Nat} (ht : (pc : Int) + off = (tgt : Int)) (hd : decode cc pc = .ok (.ifCond .ne off, 3)) (kt : ¬ x = 0 → jJ p l e R s m args below meth c nL sb D ids sh SP Q n kc ks h tgt lv st o1) (kf : x = 0 → jJ p l e R s m args below meth c nL sb D ids sh SP Q n kc ks h (pc + 3) lv st o2) : jJ p l e R s m args below meth c nL sb D ids sh SP Q n kc ks h pc lv (.int x :: st) (if x = 0 then o2 else o1) := by
  intro r hr hs H locs ls hP hS hl
  obtain ⟨hx, hb, hC⟩ := hC
  refine lv_if_ne hx hb hd ht (fun q => ?_) (fun q => ?_)
  · rw [if_neg q] at hr; exact kt q r hr hs H locs ls hP hS hl
  · rw [if_pos q] at hr; exact kf q r hr hs H locs ls hP hS hl
theorem j_icmp_ne (hC : jC p s m args meth c cc own nL sb D ids) {x y : Int32} {off : Int} {tgt : Nat} (ht : (pc : Int) + off = (tgt : Int)) (hd : decode cc pc = .ok (.if_icmp .ne off, 3)) (kt : ¬ x = y → jJ p l e R s m args below meth c nL sb D ids sh SP Q n kc ks h tgt lv st o1) (kf : x = y → jJ p l e R s m args below meth c nL sb D ids sh SP Q n kc ks h (pc + 3) lv st o2) : jJ p l e R s m args below meth c nL sb D ids sh SP Q n kc ks h pc lv (.int y :: .int x :: st) (if x = y then o2 else o1) := by
  intro r hr hs H locs ls hP hS hl
  obtain ⟨hx, hb, hC⟩ := hC
  refine lv_icmp_ne hx hb hd ht (fun q => ?_) (fun q => ?_)
  · rw [if_neg q] at hr; exact kt q r hr hs H locs ls hP hS hl
  · rw [if_pos q] at hr; exact kf q r hr hs H locs ls hP hS hl
theorem j_if_lt (hC : jC p s m args meth c cc own nL sb D ids) {x : Int32} {off : Int} {tgt : Nat} (ht : (pc : Int) + off = (tgt : Int)) (hd : decode cc pc = .ok (.ifCond .lt off, 3)) (kt : x < 0 → jJ p l e R s m args below meth c nL sb D ids sh SP Q n kc ks h tgt lv st o1) (kf : ¬ x < 0 → jJ p l e R s m args below meth c nL sb D ids sh SP Q n kc ks h (pc + 3) lv st o2) : jJ p l e R s m args below meth c nL sb D ids sh SP Q n kc ks h pc lv (.int x :: st) (if x < 0 then o1 else o2) := by
  intro r hr hs H locs ls hP hS hl
  obtain ⟨hx, hb, hC⟩ := hC
  refine lv_if_lt hx hb hd ht (fun q => ?_) (fun q => ?_)
  · rw [if_pos q] at hr; exact kt q r hr hs H locs ls hP hS hl
  · rw [if_neg q] at hr; exact kf q r hr hs H locs ls hP hS hl
theorem j_icmp_lt (hC : jC p s m args meth c cc own nL sb D ids) {x y : Int32} {off : Int} {tgt : Nat} (ht : (pc : Int) + off = (tgt : Int)) (hd : decode cc pc = .ok (.if_icmp .lt off, 3)) (kt : x < y → jJ p l e R s m args below meth c nL sb D ids sh SP Q n kc ks h tgt lv st o1) (kf : ¬ x < y → jJ p l e R s m args below meth c nL sb D ids sh SP Q n kc ks h (pc + 3) lv st o2) : jJ p l e R s m args below meth c nL sb D ids sh SP Q n kc ks h pc lv (.int y :: .int x :: st) (if x < y then o1 else o2) := by
  intro r hr hs H locs ls hP hS hl
  obtain ⟨hx, hb, hC⟩ := hC
  refine lv_icmp_lt hx hb hd ht (fun q => ?_) (fun q => ?_)
  · rw [if_pos q] at hr; exact kt q r hr hs H locs ls hP hS hl
  · rw [if_neg q] at hr; exact kf q r hr hs H locs ls hP hS hl
theorem j_if_ge (hC : jC p s m args meth c cc own nL sb D ids) {x : Int32} {off : Int} {tgt : Nat} (ht : (pc : Int) + off = (tgt : Int)) (hd : decode cc pc = .ok (.ifCond .ge off, 3)) (kt : 0 ≤ x → jJ p l e R s m args below meth c nL sb D ids sh SP Q n kc ks h tgt lv st o1) (kf : ¬ 0 ≤ x → jJ p l e R s m args below meth c nL sb D ids sh SP Q n kc ks h (pc + 3) lv st o2) : jJ p l e R s m args below meth c nL sb D ids sh SP Q n kc ks h pc lv (.int x :: st) (if 0 ≤ x then o1 else o2) := by
  intro r hr hs H locs ls hP hS hl
  obtain ⟨hx, hb, hC⟩ := hC
  refine lv_if_ge hx hb hd ht (fun q => ?_) (fun q => ?_)
  · rw [if_pos q] at hr; exact kt q r hr hs H locs ls hP hS hl
  · rw [if_neg q] at hr; exact kf q r hr hs H locs ls hP hS hl
theorem j_icmp_ge (hC : jC p s m args meth c cc own nL sb D ids) {x y : Int32} {off : Int} {tgt : Nat} (ht : (pc : Int) + off = (tgt : Int)) (hd : decode cc pc = .ok (.if_icmp .ge off, 3)) (kt : y ≤ x → jJ p l e R s m args below meth c nL sb D ids sh SP Q n kc ks h tgt lv st o1) (kf : ¬ y ≤ x → jJ p l e R s m args below meth c nL sb D ids sh SP Q n kc ks h (pc + 3) lv st o2) : jJ p l e R s m args below meth c nL sb D ids sh SP Q n kc ks h pc lv (.int y :: .int x :: st) (if y ≤ x then o1 else o2) := by
  intro r hr hs H locs ls hP hS hl
  obtain ⟨hx, hb, hC⟩ := hC
  refine lv_icmp_ge hx hb hd ht (fun q => ?_) (fun q => ?_)
  · rw [if_pos q] at hr; exact kt q r hr hs H locs ls hP hS hl
  · rw [if_neg q] at hr; exact kf q r hr hs H locs ls hP hS hl
theorem j_if_gt (hC : jC p s m args meth c cc own nL sb D ids) {x : Int32} {off : Int} {tgt : Nat} (ht : (pc : Int) + off = (tgt : Int)) (hd : decode cc pc = .ok (.ifCond .gt off, 3)) (kt : 0 < x → jJ p l e R s m args below meth c nL sb D ids sh SP Q n kc ks h tgt lv st o1) (kf : ¬ 0 < x → jJ p l e R s m args below meth c nL sb D ids sh SP Q n kc ks h (pc + 3) lv st o2) : jJ p l e R s m args below meth c nL sb D ids sh SP Q n kc ks h pc lv (.int x :: st) (if 0 < x then o1 else o2) := by
  intro r hr hs H locs ls hP hS hl
  obtain ⟨hx, hb, hC⟩ := hC
  refine lv_if_gt hx hb hd ht (fun q => ?_) (fun q => ?_)
  · rw [if_pos q] at hr; exact kt q r hr hs H locs ls hP hS hl
  · rw [if_neg q] at hr; exact kf q r hr hs H locs ls hP hS hl
theorem j_icmp_gt (hC : jC p s m args meth c cc own nL sb D ids) {x y : Int32} {off : Int} {tgt : Nat} (ht : (pc : Int) + off = (tgt : Int)) (hd : decode cc pc = .ok (.if_icmp .gt off, 3)) (kt : y < x → jJ p l e R s m args below meth c nL sb D ids sh SP Q n kc ks h tgt lv st o1) (kf : ¬ y < x → jJ p l e R s m args below meth c nL sb D ids sh SP Q n kc ks h (pc + 3) lv st o2) : jJ p l e R s m args below meth c nL sb D ids sh SP Q n kc ks h pc lv (.int y :: .int x :: st) (if y < x then o1 else o2) := by
  intro r hr hs H locs ls hP hS hl
  obtain ⟨hx, hb, hC⟩ := hC
  refine lv_icmp_gt hx hb hd ht (fun q => ?_) (fun q => ?_)
  · rw [if_pos q] at hr; exact kt q r hr hs H locs ls hP hS hl
  · rw [if_neg q] at hr; exact kf q r hr hs H locs ls hP hS hl
theorem j_if_le (hC : jC p s m args meth c cc own nL sb D ids) {x : Int32} {off : Int} {tgt : Nat} (ht : (pc : Int) + off = (tgt : Int)) (hd : decode cc pc = .ok (.ifCond .le off, 3)) (kt : x ≤ 0 → jJ p l e R s m args below meth c nL sb D ids sh SP Q n kc ks h tgt lv st o1) (kf : ¬ x ≤ 0 → jJ p l e R s m args below meth c nL sb D ids sh SP Q n kc ks h (pc + 3) lv st o2) : jJ p l e R s m args below meth c nL sb D ids sh SP Q n kc ks h pc lv (.int x :: st) (if x ≤ 0 then o1 else o2) := by
  intro r hr hs H locs ls hP hS hl
  obtain ⟨hx, hb, hC⟩ := hC
  refine lv_if_le hx hb hd ht (fun q => ?_) (fun q => ?_)
  · rw [if_pos q] at hr; exact kt q r hr hs H locs ls hP hS hl
  · rw [if_neg q] at hr; exact kf q r hr hs H locs ls hP hS hl
theorem j_icmp_le (hC : jC p s m args meth c cc own nL sb D ids) {x y : Int32} {off : Int} {tgt : Nat} (ht : (pc : Int) + off = (tgt : Int)) (hd : decode cc pc = .ok (.if_icmp .le off, 3)) (kt : x ≤ y → jJ p l e R s m args below meth c nL sb D ids sh SP Q n kc ks h tgt lv st o1) (kf : ¬ x ≤ y → jJ p l e R s m args below meth c nL sb D ids sh SP Q n kc ks h (pc + 3) lv st o2) : jJ p l e R s m args below meth c nL sb D ids sh SP Q n kc ks h pc lv (.int y :: .int x :: st) (if x ≤ y then o1 else o2) := by
  intro r hr hs H locs ls hP hS hl
  obtain ⟨hx, hb, hC⟩ := hC
  refine lv_icmp_le hx hb hd ht (fun q => ?_) (fun q => ?_)
  · rw [if_pos q] at hr; exact kt q r hr hs H locs ls hP hS hl
  · rw [if_neg q] at hr; exact kf q r hr hs H locs ls hP hS hl
theorem j_goto (hC : jC p s m args meth c cc own nL sb D ids) {off : Int} {tgt : Nat} (ht : (pc : Int) + off = (tgt : Int)) (hd : decode cc pc = .ok (.goto off, 3)) (k : jJ p l e R s m args below meth c nL sb D ids sh SP Q n kc ks h tgt lv st o) : jJ p l e R s m args below meth c nL sb D ids sh SP Q n kc ks h pc lv st o := by
  intro r hr hs H locs ls hP hS hl
  obtain ⟨hx, hb, hC⟩ := hC
  refine lv_goto hx hb hd ht ?_
  exact k r hr hs H locs ls hP hS hl
end JJ
