/-! The rest of the rows: constants, Math, fewer locals; decode rows by a table. -/
theorem lv_pick_mv (b : Nat) (lv : List (Nat × Value)) : ∀ (is : List Nat), lv_pick (mvL b lv) is = mvL b (lv_pick lv is)
  | [] => rfl
  | i :: t => by
    have ih := lv_pick_mv b lv t
    unfold lv_pick at ih ⊢
    simp only [List.filterMap_cons, mvL, List.getElem?_map] at ih ⊢
    cases hi : lv[i]? with
    | none => simpa using ih
    | some q => simpa using ih
section JY
variable {ρ : Type} {p : Program} {l : Launch} {e : Env} {R : Room} {s : State} {m : MethodId} {args : Array Value} {below : List Frame} {meth : Method} {c : Code} {cc : ByteArray} {own : String} {nL index : Nat} {sb : State} {D : va_G} {ids : Nat → ClassId} {sh : Nat → Nat × Nat} {SP : Hp → Prop} {Q : ρ → State → Prop} {n kc ks : Nat} {h : Hp} {pc : Nat} {lv lv' : List (Nat × Value)} {st : List Value} {o : Option ρ}
theorem j_sub (is : List Nat) (hv : lv_pick lv is = lv') (k : jJ p l e R s m args below meth c nL sb D ids sh SP Q n kc ks h pc lv' st o) : jJ p l e R s m args below meth c nL sb D ids sh SP Q n kc ks h pc lv st o := by
  intro r hr hsp H locs ls hP hS hl
  refine k r hr hsp H locs ls hP hS (lv_sub hl is ?_)
  rw [← hv]
  exact lv_pick_mv _ _ _
theorem j_ldc {v : Int32} (hC : jC p s m args meth c cc own nL sb D ids) (hw : Cond.constant own index v ∈ TW) (hd : decode cc pc = .ok (.ldc index, 2)) (k : jJ p l e R s m args below meth c nL sb D ids sh SP Q n kc ks h (pc + 2) lv (.int v :: st) o) : jJ p l e R s m args below meth c nL sb D ids sh SP Q n kc ks h pc lv st o := by
  intro r hr hsp H locs ls hP hS hl
  obtain ⟨hx, hb, hml, hown, hts, -⟩ := hC
  refine lv_ldc hx hb hown (hts _ hw) hd ?_
  exact k r hr hsp H locs ls hP hS hl
theorem j_ldcw {v : Int32} (hC : jC p s m args meth c cc own nL sb D ids) (hw : Cond.constant own index v ∈ TW) (hd : decode cc pc = .ok (.ldc_w index, 3)) (k : jJ p l e R s m args below meth c nL sb D ids sh SP Q n kc ks h (pc + 3) lv (.int v :: st) o) : jJ p l e R s m args below meth c nL sb D ids sh SP Q n kc ks h pc lv st o := by
  intro r hr hsp H locs ls hP hS hl
  obtain ⟨hx, hb, hml, hown, hts, -⟩ := hC
  refine lv_ldcw hx hb hown (hts _ hw) hd ?_
  exact k r hr hsp H locs ls hP hS hl
theorem j_ldc2 {v : Int64} (hC : jC p s m args meth c cc own nL sb D ids) (hw : Cond.constantLong own index v ∈ TW) (hd : decode cc pc = .ok (.ldc2_w index, 3)) (k : jJ p l e R s m args below meth c nL sb D ids sh SP Q n kc ks h (pc + 3) lv (.long v :: st) o) : jJ p l e R s m args below meth c nL sb D ids sh SP Q n kc ks h pc lv st o := by
  intro r hr hsp H locs ls hP hS hl
  obtain ⟨hx, hb, hml, hown, hts, -⟩ := hC
  refine lv_ldc2 hx hb hown (hts _ hw) hd ?_
  exact k r hr hsp H locs ls hP hS hl
theorem j_iushr {x y : Int32} (hC : jC p s m args meth c cc own nL sb D ids) (hd : decode cc pc = .ok (.iushr, 1)) (k : jJ p l e R s m args below meth c nL sb D ids sh SP Q n kc ks h (pc + 1) lv (.int (x.toUInt32 >>> (y.toUInt32 &&& Int32.toUInt32 31)).toInt32 :: st) o) : jJ p l e R s m args below meth c nL sb D ids sh SP Q n kc ks h pc lv (.int y :: .int x :: st) o := by
  intro r hr hsp H locs ls hP hS hl
  obtain ⟨hx, hb, -⟩ := hC
  refine lv_iushr hx hb hd rfl ?_
  exact k r hr hsp H locs ls hP hS hl
def jMth (own : String) (index : Nat) (y : MethodName) (b : ByteArray) : Prop := Cond.methodLink own index y ∈ TW ∧ Cond.static y ∈ TW ∧ Cond.initialized "java/lang/Math" ∈ TW ∧ Cond.code y b 2 (some .int) ∈ TW
theorem j_mmax {x y : Int32} (hC : jC p s m args meth c cc own nL sb D ids) (hw : jMth own index Lib.Math.max.name Lib.Math.max.code) (hR : 1 ≤ R.frames ∧ 64 ≤ R.locals) (hcs : kc ≤ R.cells ∧ ks ≤ R.slots) (hcat : (st.map fun v => v.category).sum ≤ 8) (hd : decode cc pc = .ok (.invokestatic index, 3)) (k : jJ p l e R s m args below meth c nL sb D ids sh SP Q n kc ks h (pc + 3) lv (.int (if x < y then y else x) :: st) o) : jJ p l e R s m args below meth c nL sb D ids sh SP Q n kc ks h pc lv (.int y :: .int x :: st) o := by
  intro r hr hsp H locs ls hP hS hl
  obtain ⟨hx, hb, hml, hown, hts, -⟩ := hC
  obtain ⟨w1, w2, w3, w4⟩ := hw
  refine va_mmax hx hb (by rw [hml]; exact hl.1.symm) hown (hts _ w1) (hts _ w2) (hts _ w3) (hts _ w4) hR.1 (by have := hcat; rw [← mvS_cat sb.heap.size] at this; exact Nat.le_trans (Nat.add_le_add_right this 13) (Nat.le_trans (by decide) hR.2)) hcs.1 hcs.2 hd ?_
  exact k r hr hsp H locs ls hP hS hl
theorem j_mmin {x y : Int32} (hC : jC p s m args meth c cc own nL sb D ids) (hw : jMth own index Lib.Math.min.name Lib.Math.min.code) (hR : 1 ≤ R.frames ∧ 64 ≤ R.locals) (hcs : kc ≤ R.cells ∧ ks ≤ R.slots) (hcat : (st.map fun v => v.category).sum ≤ 8) (hd : decode cc pc = .ok (.invokestatic index, 3)) (k : jJ p l e R s m args below meth c nL sb D ids sh SP Q n kc ks h (pc + 3) lv (.int (if y < x then y else x) :: st) o) : jJ p l e R s m args below meth c nL sb D ids sh SP Q n kc ks h pc lv (.int y :: .int x :: st) o := by
  intro r hr hsp H locs ls hP hS hl
  obtain ⟨hx, hb, hml, hown, hts, -⟩ := hC
  obtain ⟨w1, w2, w3, w4⟩ := hw
  refine va_mmin hx hb (by rw [hml]; exact hl.1.symm) hown (hts _ w1) (hts _ w2) (hts _ w3) (hts _ w4) hR.1 (by have := hcat; rw [← mvS_cat sb.heap.size] at this; exact Nat.le_trans (Nat.add_le_add_right this 13) (Nat.le_trans (by decide) hR.2)) hcs.1 hcs.2 hd ?_
  exact k r hr hsp H locs ls hP hS hl
end JY
/-- decode rows, by a table -/
def dOk (cc : ByteArray) (tb : List (Nat × Instr × Nat)) : Bool := tb.all (fun q => decide (decode cc q.1 = .ok (q.2.1, q.2.2)))
theorem dOk_at {cc : ByteArray} {tb : List (Nat × Instr × Nat)} (h : dOk cc tb = true) (k : Nat) {pc : Nat} {i : Instr} {len : Nat} (hk : tb[k]? = some (pc, i, len)) : decode cc pc = .ok (i, len) := by
  have h1 := List.all_eq_true.mp h _ (List.mem_of_getElem? hk)
  exact of_decide_eq_true h1
/-- words among the good ones, by their places -/
theorem tw_sub {ws : List Cond} (ps : List Nat) (hp : ws = ps.filterMap (fun i => lw_tbl[i]?)) (hg : ws.all goodWord = true) : ∀ w ∈ ws, w ∈ TW := by
  intro w hw
  refine TW_in ?_ (List.all_eq_true.mp hg w hw)
  rw [hp] at hw
  obtain ⟨i, -, hi⟩ := List.mem_filterMap.mp hw
  exact List.mem_of_getElem? hi
theorem tw_at {w : Cond} (i : Nat) (hi : lw_tbl[i]? = some w) (hg : goodWord w = true) : w ∈ TW := TW_in (List.mem_of_getElem? hi) hg
/-- more turns than any loop takes -/
def FU : Nat := 100000
