/-! Contracts: from every state that holds the abstract heap h, the method returns what the pure function says. -/
def rmD (d : Nat) : Room := { frames := d, cells := 0, slots := 0, locals := 64 * d }
def jU (sb : State) (D : va_G) (ids : Nat → ClassId) (sh : Nat → Nat × Nat) (n : Nat) (h : Hp) (U : State) : Prop :=
  sb.heap.size ≤ U.heap.size ∧ (∀ q : Nat, q < sb.heap.size → U.heap[q]? = sb.heap[q]?) ∧ sb.vm.Alike U.vm ∧ va_K D vwCl (jtys ids) U ∧ jWm sb U ∧ va_P D vwCl (wls ids sh sb.heap.size n h) U.heap
theorem jU.moved {sb : State} {D : va_G} {ids : Nat → ClassId} {sh : Nat → Nat × Nat} {n : Nat} {h : Hp} {U V : State} (hu : jU sb D ids sh n h U) (hh : V.heap = U.heap) (hv : U.vm = V.vm) : jU sb D ids sh n h V := by
  obtain ⟨h1, h2, h3, h4, h6, h5⟩ := hu
  exact ⟨by rw [hh]; exact h1, fun q hq => by rw [hh]; exact h2 q hq, hv ▸ h3, va_K.moved (hv ▸ Vm.Alike.refl U.vm) h4, jWm.same hv h6, by rw [hh]; exact h5⟩
def jB (sb : State) (D : va_G) (ids : Nat → ClassId) (sh : Nat → Nat × Nat) (SP : Hp → Prop) (n : Nat) (h : Hp) : Unit → State → Prop := fun _ t => va_P D vwCl (wls ids sh sb.heap.size n h) t.heap ∧ SP h
def jQi (sb : State) (D : va_G) (ids : Nat → ClassId) (sh : Nat → Nat × Nat) (SP : Hp → Prop) (n : Nat) (r : Int32 × Hp) : Array Value → State → Outcome → State → Prop := va_Qi (fun v (_ : Unit) => v = r.1) (jB sb D ids sh SP n r.2) (jA sb)
def jQl (sb : State) (D : va_G) (ids : Nat → ClassId) (sh : Nat → Nat × Nat) (SP : Hp → Prop) (n : Nat) (r : Int64 × Hp) : Array Value → State → Outcome → State → Prop := va_Ql (fun v (_ : Unit) => v = r.1) (jB sb D ids sh SP n r.2) (jA sb)
def jQv (sb : State) (D : va_G) (ids : Nat → ClassId) (sh : Nat → Nat × Nat) (SP : Hp → Prop) (n : Nat) (r : Hp) : Array Value → State → Outcome → State → Prop := va_Qv (fun (_ : Unit) => True) (jB sb D ids sh SP n r) (jA sb)
/-- a method that makes nothing: at depth d, from h, by the arguments As, the end Qc -/
def jM (l : Launch) (y : MethodName) (cc : ByteArray) (maxL : Nat) (ret : Option FieldType) (d : Nat) (sb : State) (D : va_G) (ids : Nat → ClassId) (sh : Nat → Nat × Nat) (SP : Hp → Prop) (n : Nat) (As : List Value) (h : Hp) (Qc : Array Value → State → Outcome → State → Prop) : Prop :=
  Met l y (Cond.code y cc maxL ret :: TW) (rmD d) (va_Pc (mvS sb.heap.size As) (fun U => jU sb D ids sh n h U ∧ SP h)) Qc 0 0 (jA sb)
theorem lv_args_mv (b : Nat) : ∀ (i : Nat) (As : List Value), lv_args i (mvS b As) = mvL b (lv_args i As)
  | _, [] => rfl
  | i, v :: vs => by
    show (i, mv b v) :: lv_args (if (mv b v).category = 2 then i + 2 else i + 1) (mvS b vs) = (i, mv b v) :: mvL b (lv_args (if v.category = 2 then i + 2 else i + 1) vs)
    rw [mv_cat, lv_args_mv b _ vs]
theorem lg_sl_mv (b : Nat) : ∀ (As : List Value), (lg_sl (mvS b As)).length = (lg_sl As).length
  | [] => rfl
  | v :: vs => by
    have ih := lg_sl_mv b vs
    unfold lg_sl at ih ⊢
    simp only [mvS, List.map_cons, List.flatMap_cons, List.length_append, mv_cat] at ih ⊢
    rw [ih]
    split <;> rfl
theorem jM_of {ρ : Type} {l : Launch} {y : MethodName} {cc : ByteArray} {maxL : Nat} {ret : Option FieldType} {d : Nat} {sb : State} {D : va_G} {ids : Nat → ClassId} {sh : Nat → Nat × Nat} {SP : Hp → Prop} {n : Nat} {As : List Value} {h : Hp} {Qc : ρ → Array Value → State → Outcome → State → Prop} {o : Option ρ} {r : ρ} (ho : o = some r) (hy : plainName y.cls = true) (hlen : (lg_sl As).length ≤ maxL)
    (body : ∀ (p : Program) (e : Env) (s : State) (m : MethodId) (args : Array Value) (below : List Frame) (meth : Method) (c : Code), jC p s m args meth c cc y.cls maxL sb D ids → meth.sig.returnType = ret → jJ p l e (rmD d) s m args below meth c maxL sb D ids sh SP (fun r => MQ below (Qc r) args s 0 0 (jA sb)) n 0 0 h 0 (lv_args 0 As) [] o) : jM l y cc maxL ret d sb D ids sh SP n As h (Qc r) := by
  refine Met.ofW (cc := cc) (maxL := maxL) (ret := ret) hy rfl ?_
  intro p e s m args below meth c s₁ B hml hv
  obtain ⟨rfl, ⟨hu1, hu2, hu3, hu4, hu6, hu5⟩, hsp⟩ := hv
  have hts := atoms_spec (ws := Cond.code y cc maxL ret :: TW) B.pre
  have hown : s.vm.findClass y.cls = some m.cls := findClass_of_methodNamed B.named
  have hl := lv_entry (mvS sb.heap.size As) (n := maxL) (by rw [lg_sl_mv]; exact hlen)
  rw [lg_entry_eq]
  rw [lv_args_mv] at hl
  exact body p e s m _ below meth c ⟨B.exec, B.bytes, hml, hown, fun w hw => hts w (List.mem_cons_of_mem _ hw), B.notSynchronized, hu4, hu1, hu2, hu3, hu6⟩ B.returns r ho hsp s.heap [] _ hu5 va_S.rf hl
section JR
variable {ρ : Type} {p : Program} {l : Launch} {e : Env} {R : Room} {s : State} {m : MethodId} {args : Array Value} {below : List Frame} {meth : Method} {c : Code} {cc : ByteArray} {own : String} {nL : Nat} {sb : State} {D : va_G} {ids : Nat → ClassId} {sh : Nat → Nat × Nat} {SP : Hp → Prop} {Q : ρ → State → Prop} {n kc ks : Nat} {h : Hp} {pc : Nat} {lv : List (Nat × Value)} {st : List Value}
theorem j_iret {v : Int32} (hC : jC p s m args meth c cc own nL sb D ids) (hr : meth.sig.returnType = some .int) (hd : decode cc pc = .ok (.ireturn, 1)) : jJ p l e R s m args below meth c nL sb D ids sh SP (fun r => MQ below (jQi sb D ids sh SP n r) args s kc ks (jA sb)) n kc ks h pc lv [.int v] (some (v, h)) := by
  intro r hr0 hsp H locs ls hP hS hl
  cases hr0
  obtain ⟨hx, hb, hml, hown, hts, hlocks, -⟩ := hC
  exact W.iret (v := v) hx hb hr (fun t ht hW => ⟨⟨v, (), rfl, rfl, by rw [ht]; exact hP, hsp⟩, hS.F ht⟩) hS.2.2 hd
theorem j_lret {v : Int64} (hC : jC p s m args meth c cc own nL sb D ids) (hr : meth.sig.returnType = some .long) (hd : decode cc pc = .ok (.lreturn, 1)) : jJ p l e R s m args below meth c nL sb D ids sh SP (fun r => MQ below (jQl sb D ids sh SP n r) args s kc ks (jA sb)) n kc ks h pc lv [.long v] (some (v, h)) := by
  intro r hr0 hsp H locs ls hP hS hl
  cases hr0
  obtain ⟨hx, hb, hml, hown, hts, hlocks, -⟩ := hC
  exact W.lret (v := v) hx hb hr (fun t ht hW => ⟨⟨v, (), rfl, rfl, by rw [ht]; exact hP, hsp⟩, hS.F ht⟩) hS.2.2 hd
theorem j_zretK {v : Int32} (hC : jC p s m args meth c cc own nL sb D ids) (hr : meth.sig.returnType = some .boolean) (hz : isZ v = true) (hd : decode cc pc = .ok (.ireturn, 1)) : jJ p l e R s m args below meth c nL sb D ids sh SP (fun r => MQ below (jQi sb D ids sh SP n r) args s kc ks (jA sb)) n kc ks h pc lv [.int v] (some (v, h)) := by
  intro r hr0 hsp H locs ls hP hS hl
  cases hr0
  obtain ⟨hx, hb, hml, hown, hts, hlocks, -⟩ := hC
  exact W.zret (v := v) hx hb hr (isZ_nar hz) (fun t ht hW => ⟨⟨v, (), rfl, rfl, by rw [ht]; exact hP, hsp⟩, hS.F ht⟩) hS.2.2 hd
theorem j_zret {v : Int32} (hC : jC p s m args meth c cc own nL sb D ids) (hr : meth.sig.returnType = some .boolean) (hd : decode cc pc = .ok (.ireturn, 1)) : jJ p l e R s m args below meth c nL sb D ids sh SP (fun r => MQ below (jQi sb D ids sh SP n r) args s kc ks (jA sb)) n kc ks h pc lv [.int v] (if isZ v then some (v, h) else none) := by
  by_cases hz : isZ v = true
  · rw [if_pos hz]; exact j_zretK hC hr hz hd
  · rw [if_neg hz]; intro r hr0; cases hr0
theorem j_vret (hC : jC p s m args meth c cc own nL sb D ids) (hr : meth.sig.returnType = none) (hd : decode cc pc = .ok (.return_, 1)) : jJ p l e R s m args below meth c nL sb D ids sh SP (fun r => MQ below (jQv sb D ids sh SP n r) args s kc ks (jA sb)) n kc ks h pc lv [] (some h) := by
  intro r hr0 hsp H locs ls hP hS hl
  cases hr0
  obtain ⟨hx, hb, hml, hown, hts, hlocks, -⟩ := hC
  exact W.vret hx hb hr (fun t ht hW => ⟨⟨(), rfl, trivial, by rw [ht]; exact hP, hsp⟩, hS.F ht⟩) hS.2.2 hd
end JR
/-- the words of a call of an instance's method, and of a class's -/
def jCl (own : String) (index : Nat) (y : MethodName) (cc : ByteArray) (maxL : Nat) (ret : Option FieldType) (np : Nat) : Prop :=
  Cond.methodLink own index y ∈ TW ∧ Cond.instanceMethod y ∈ TW ∧ Cond.selects y.cls y y ∈ TW ∧ Cond.initialized y.cls ∈ TW ∧ Cond.code y cc maxL ret ∈ TW ∧ y.cls ≠ "java/lang/invoke/MethodHandle" ∧ y.cls ≠ "java/lang/invoke/VarHandle" ∧ (parseMethodDescriptor y.desc).map (fun d => d.parameters.length) = some np
def jCs (own : String) (index : Nat) (y : MethodName) (cc : ByteArray) (maxL : Nat) (ret : Option FieldType) (np : Nat) : Prop :=
  Cond.methodLink own index y ∈ TW ∧ Cond.static y ∈ TW ∧ Cond.initialized y.cls ∈ TW ∧ Cond.code y cc maxL ret ∈ TW ∧ y.cls ≠ "java/lang/invoke/MethodHandle" ∧ y.cls ≠ "java/lang/invoke/VarHandle" ∧ (parseMethodDescriptor y.desc).map (fun d => d.parameters.length) = some np
/-- a call's answer and heap, then what follows -/
def bnd {α ρ : Type} (o : Option (α × Hp)) (k : α → Hp → Option ρ) : Option ρ := o.bind (fun q => k q.1 q.2)
section JX
variable {ρ : Type} {p : Program} {l : Launch} {e : Env} {R : Room} {s : State} {m : MethodId} {args : Array Value} {below : List Frame} {meth : Method} {c : Code} {cc bytes : ByteArray} {own : String} {nL maxL np d index a ci N : Nat} {ret : Option FieldType} {y : MethodName} {sb : State} {D : va_G} {ids : Nat → ClassId} {sh : Nat → Nat × Nat} {SP : Hp → Prop} {Q : ρ → State → Prop} {n kc ks : Nat} {h : Hp} {pc : Nat} {lv : List (Nat × Value)} {st stk As : List Value}
theorem jws_good (hc : Cond.code y bytes maxL ret ∈ TW) : GoodIn TW (Cond.code y bytes maxL ret :: TW) := fun w hw => by
  rcases List.mem_cons.mp hw with rfl | hw
  · exact TW_good _ hc
  · exact TW_good _ hw
theorem jPc_blind : FrameBlind (va_Pc (mvS sb.heap.size As) (fun U => jU sb D ids sh n h U ∧ SP h)) := fun a U g mk q => ⟨q.1, q.2.1.moved rfl rfl, q.2.2⟩
theorem jPc_at (hC : jC p s m args meth c cc own nL sb D ids) (hsp : SP h) {H : Heap} {locs : List Loc} (hP : va_P D vwCl (wls ids sh sb.heap.size n h) H) (hS : va_S (jA sb) s.heap H locs) : ∀ U : State, U.heap = H → s.WarmedH U.vm → jU sb D ids sh n h U ∧ SP h := by
  intro U hU hW
  obtain ⟨-, -, -, -, -, -, hK, h1, h2, h3, h4⟩ := hC
  refine ⟨⟨by rw [hU]; exact Nat.le_trans h1 hS.1, fun q hq => ?_, h3.trans hW.alike, va_K.moved hW.alike hK, jWm.warm hW h4, by rw [hU]; exact hP⟩, hsp⟩
  rw [hU, hS.2.1 q (Nat.lt_of_lt_of_le hq h1) (Nat.not_le.mpr hq)]
  exact h2 q hq
theorem j_callVi {fo : Option (Int32 × Hp)} {kf : Int32 → Hp → Option ρ} (hC : jC p s m args meth c cc own nL sb D ids) (hL : jCl own index y bytes maxL ret np) (hM : ∀ r0, fo = some r0 → jM l y bytes maxL ret d sb D ids sh SP n (.ref a :: As) h (jQi sb D ids sh SP n r0)) (hs : sh a = (ci, N)) (ha : a < n) (hc10 : ci ≤ 10) (hcn : (vwCl[ci]?).map (fun q => q.1) = some y.cls) (hnp : As.length = np) (hR : d + 1 ≤ R.frames ∧ 8 + (maxL + 11) + 64 * d ≤ R.locals) (hcs : kc ≤ R.cells ∧ ks ≤ R.slots) (hstk : stk = As.reverse ++ .ref a :: st) (hcat : (st.map fun v => v.category).sum ≤ 8) (hd : decode cc pc = .ok (.invokevirtual index, 3))
    (kk : ∀ (v : Int32) (h' : Hp), fo = some (v, h') → jJ p l e R s m args below meth c nL sb D ids sh SP Q n kc ks h' (pc + 3) lv (.int v :: st) (kf v h')) : jJ p l e R s m args below meth c nL sb D ids sh SP Q n kc ks h pc lv stk (bnd fo kf) := by
  intro r hr hsp H locs ls hP hS hl
  obtain ⟨r0, hfo, hr⟩ := Option.bind_eq_some_iff.mp hr
  have hPc := jPc_at hC hsp hP hS
  obtain ⟨hx, hb, hml, hown, hts, hlocks, hK, hg1, hg2, hg3⟩ := hC
  obtain ⟨w1, w2, w3, w4, w5, w6⟩ := hL
  subst hstk
  obtain ⟨qc, hqc, hqn⟩ := Option.map_eq_some_iff.mp hcn
  refine va_calli (va_runV (S := ⟨hx, hb, hml, hown, hts⟩) (hM r0 hfo) (C := y.cls) (b := sb.heap.size + a) (As := mvS sb.heap.size As) (rest := mvS sb.heap.size st) (n := np) ⟨callB_of np hts (jws_good w5) rfl rfl rfl (hts _ w4) (hts _ w1) w6 hR, hts _ w2, hts _ w3⟩ ⟨jPc_blind, ?_, fun U hU hW => ⟨rfl, hPc U hU hW⟩⟩ rfl (by simpa using hnp) hl.1 (by simp [mvS, mv, List.map_reverse]) (lv_room (by rw [mvS_cat]; exact hcat)) hd ⟨by simpa using hcs.1, by simpa using hcs.2⟩) hS (fun q _ h => h) (fun q h => h) (fun v u t H1 locs1 ht hvm hw hB hz1 hk1 hS1 => ?_)
  · rw [← hqn]
    exact va_recv hK hP hqc (q0 := a) (fs := (List.range N).map (fun k => fvl sb.heap.size h (tyC ci k) a k)) (by rw [wls_get ha, cel_obj hs hc10])
  · have hB : jB sb D ids sh SP n r0.2 u t := hB
    obtain ⟨r1, h1'⟩ := r0
    have hw : v = r1 := hw
    subst hw
    exact kk v h1' hfo r hr hB.2 H1 locs1 ls (by rw [← ht]; exact hB.1) hS1 hl
theorem j_callSi {fo : Option (Int32 × Hp)} {kf : Int32 → Hp → Option ρ} (hC : jC p s m args meth c cc own nL sb D ids) (hL : jCs own index y bytes maxL ret np) (hM : ∀ r0, fo = some r0 → jM l y bytes maxL ret d sb D ids sh SP n As h (jQi sb D ids sh SP n r0)) (hnp : As.length = np) (hR : d + 1 ≤ R.frames ∧ 8 + (maxL + 11) + 64 * d ≤ R.locals) (hcs : kc ≤ R.cells ∧ ks ≤ R.slots) (hstk : stk = As.reverse ++ st) (hcat : (st.map fun v => v.category).sum ≤ 8) (hd : decode cc pc = .ok (.invokestatic index, 3))
    (kk : ∀ (v : Int32) (h' : Hp), fo = some (v, h') → jJ p l e R s m args below meth c nL sb D ids sh SP Q n kc ks h' (pc + 3) lv (.int v :: st) (kf v h')) : jJ p l e R s m args below meth c nL sb D ids sh SP Q n kc ks h pc lv stk (bnd fo kf) := by
  intro r hr hsp H locs ls hP hS hl
  obtain ⟨r0, hfo, hr⟩ := Option.bind_eq_some_iff.mp hr
  have hPc := jPc_at hC hsp hP hS
  obtain ⟨hx, hb, hml, hown, hts, hlocks, hK, hg1, hg2, hg3⟩ := hC
  obtain ⟨w1, w2, w4, w5, w6⟩ := hL
  subst hstk
  refine va_calli (va_runS (S := ⟨hx, hb, hml, hown, hts⟩) (hM r0 hfo) (As := mvS sb.heap.size As) (rest := mvS sb.heap.size st) (n := np) ⟨callB_of np hts (jws_good w5) rfl rfl rfl (hts _ w4) (hts _ w1) w6 hR, hts _ w2⟩ ⟨jPc_blind, fun U hU hW => ⟨rfl, hPc U hU hW⟩⟩ rfl (by simpa using hnp) hl.1 (by simp [mvS, List.map_reverse]) (lv_room (by rw [mvS_cat]; exact hcat)) hd ⟨by simpa using hcs.1, by simpa using hcs.2⟩) hS (fun q _ h => h) (fun q h => h) (fun v u t H1 locs1 ht hvm hw hB hz1 hk1 hS1 => ?_)
  have hB : jB sb D ids sh SP n r0.2 u t := hB
  obtain ⟨r1, h1'⟩ := r0
  have hw : v = r1 := hw
  subst hw
  exact kk v h1' hfo r hr hB.2 H1 locs1 ls (by rw [← ht]; exact hB.1) hS1 hl
theorem j_callVl {fo : Option (Int64 × Hp)} {kf : Int64 → Hp → Option ρ} (hC : jC p s m args meth c cc own nL sb D ids) (hL : jCl own index y bytes maxL ret np) (hM : ∀ r0, fo = some r0 → jM l y bytes maxL ret d sb D ids sh SP n (.ref a :: As) h (jQl sb D ids sh SP n r0)) (hs : sh a = (ci, N)) (ha : a < n) (hc10 : ci ≤ 10) (hcn : (vwCl[ci]?).map (fun q => q.1) = some y.cls) (hnp : As.length = np) (hR : d + 1 ≤ R.frames ∧ 8 + (maxL + 11) + 64 * d ≤ R.locals) (hcs : kc ≤ R.cells ∧ ks ≤ R.slots) (hstk : stk = As.reverse ++ .ref a :: st) (hcat : (st.map fun v => v.category).sum ≤ 8) (hd : decode cc pc = .ok (.invokevirtual index, 3))
    (kk : ∀ (v : Int64) (h' : Hp), fo = some (v, h') → jJ p l e R s m args below meth c nL sb D ids sh SP Q n kc ks h' (pc + 3) lv (.long v :: st) (kf v h')) : jJ p l e R s m args below meth c nL sb D ids sh SP Q n kc ks h pc lv stk (bnd fo kf) := by
  intro r hr hsp H locs ls hP hS hl
  obtain ⟨r0, hfo, hr⟩ := Option.bind_eq_some_iff.mp hr
  have hPc := jPc_at hC hsp hP hS
  obtain ⟨hx, hb, hml, hown, hts, hlocks, hK, hg1, hg2, hg3⟩ := hC
  obtain ⟨w1, w2, w3, w4, w5, w6⟩ := hL
  subst hstk
  obtain ⟨qc, hqc, hqn⟩ := Option.map_eq_some_iff.mp hcn
  refine va_calll (va_runV (S := ⟨hx, hb, hml, hown, hts⟩) (hM r0 hfo) (C := y.cls) (b := sb.heap.size + a) (As := mvS sb.heap.size As) (rest := mvS sb.heap.size st) (n := np) ⟨callB_of np hts (jws_good w5) rfl rfl rfl (hts _ w4) (hts _ w1) w6 hR, hts _ w2, hts _ w3⟩ ⟨jPc_blind, ?_, fun U hU hW => ⟨rfl, hPc U hU hW⟩⟩ rfl (by simpa using hnp) hl.1 (by simp [mvS, mv, List.map_reverse]) (lv_room (by rw [mvS_cat]; exact hcat)) hd ⟨by simpa using hcs.1, by simpa using hcs.2⟩) hS (fun q _ h => h) (fun q h => h) (fun v u t H1 locs1 ht hvm hw hB hz1 hk1 hS1 => ?_)
  · rw [← hqn]
    exact va_recv hK hP hqc (q0 := a) (fs := (List.range N).map (fun k => fvl sb.heap.size h (tyC ci k) a k)) (by rw [wls_get ha, cel_obj hs hc10])
  · have hB : jB sb D ids sh SP n r0.2 u t := hB
    obtain ⟨r1, h1'⟩ := r0
    have hw : v = r1 := hw
    subst hw
    exact kk v h1' hfo r hr hB.2 H1 locs1 ls (by rw [← ht]; exact hB.1) hS1 hl
theorem j_callSl {fo : Option (Int64 × Hp)} {kf : Int64 → Hp → Option ρ} (hC : jC p s m args meth c cc own nL sb D ids) (hL : jCs own index y bytes maxL ret np) (hM : ∀ r0, fo = some r0 → jM l y bytes maxL ret d sb D ids sh SP n As h (jQl sb D ids sh SP n r0)) (hnp : As.length = np) (hR : d + 1 ≤ R.frames ∧ 8 + (maxL + 11) + 64 * d ≤ R.locals) (hcs : kc ≤ R.cells ∧ ks ≤ R.slots) (hstk : stk = As.reverse ++ st) (hcat : (st.map fun v => v.category).sum ≤ 8) (hd : decode cc pc = .ok (.invokestatic index, 3))
    (kk : ∀ (v : Int64) (h' : Hp), fo = some (v, h') → jJ p l e R s m args below meth c nL sb D ids sh SP Q n kc ks h' (pc + 3) lv (.long v :: st) (kf v h')) : jJ p l e R s m args below meth c nL sb D ids sh SP Q n kc ks h pc lv stk (bnd fo kf) := by
  intro r hr hsp H locs ls hP hS hl
  obtain ⟨r0, hfo, hr⟩ := Option.bind_eq_some_iff.mp hr
  have hPc := jPc_at hC hsp hP hS
  obtain ⟨hx, hb, hml, hown, hts, hlocks, hK, hg1, hg2, hg3⟩ := hC
  obtain ⟨w1, w2, w4, w5, w6⟩ := hL
  subst hstk
  refine va_calll (va_runS (S := ⟨hx, hb, hml, hown, hts⟩) (hM r0 hfo) (As := mvS sb.heap.size As) (rest := mvS sb.heap.size st) (n := np) ⟨callB_of np hts (jws_good w5) rfl rfl rfl (hts _ w4) (hts _ w1) w6 hR, hts _ w2⟩ ⟨jPc_blind, fun U hU hW => ⟨rfl, hPc U hU hW⟩⟩ rfl (by simpa using hnp) hl.1 (by simp [mvS, List.map_reverse]) (lv_room (by rw [mvS_cat]; exact hcat)) hd ⟨by simpa using hcs.1, by simpa using hcs.2⟩) hS (fun q _ h => h) (fun q h => h) (fun v u t H1 locs1 ht hvm hw hB hz1 hk1 hS1 => ?_)
  have hB : jB sb D ids sh SP n r0.2 u t := hB
  obtain ⟨r1, h1'⟩ := r0
  have hw : v = r1 := hw
  subst hw
  exact kk v h1' hfo r hr hB.2 H1 locs1 ls (by rw [← ht]; exact hB.1) hS1 hl
theorem j_callVv {fo : Option (Hp)} {kf : Hp → Option ρ} (hC : jC p s m args meth c cc own nL sb D ids) (hL : jCl own index y bytes maxL ret np) (hM : ∀ r0, fo = some r0 → jM l y bytes maxL ret d sb D ids sh SP n (.ref a :: As) h (jQv sb D ids sh SP n r0)) (hs : sh a = (ci, N)) (ha : a < n) (hc10 : ci ≤ 10) (hcn : (vwCl[ci]?).map (fun q => q.1) = some y.cls) (hnp : As.length = np) (hR : d + 1 ≤ R.frames ∧ 8 + (maxL + 11) + 64 * d ≤ R.locals) (hcs : kc ≤ R.cells ∧ ks ≤ R.slots) (hstk : stk = As.reverse ++ .ref a :: st) (hcat : (st.map fun v => v.category).sum ≤ 8) (hd : decode cc pc = .ok (.invokevirtual index, 3))
    (kk : ∀ (h' : Hp), fo = some h' → jJ p l e R s m args below meth c nL sb D ids sh SP Q n kc ks h' (pc + 3) lv st (kf h')) : jJ p l e R s m args below meth c nL sb D ids sh SP Q n kc ks h pc lv stk (fo.bind kf) := by
  intro r hr hsp H locs ls hP hS hl
  obtain ⟨r0, hfo, hr⟩ := Option.bind_eq_some_iff.mp hr
  have hPc := jPc_at hC hsp hP hS
  obtain ⟨hx, hb, hml, hown, hts, hlocks, hK, hg1, hg2, hg3⟩ := hC
  obtain ⟨w1, w2, w3, w4, w5, w6⟩ := hL
  subst hstk
  obtain ⟨qc, hqc, hqn⟩ := Option.map_eq_some_iff.mp hcn
  refine va_callv (va_runV (S := ⟨hx, hb, hml, hown, hts⟩) (hM r0 hfo) (C := y.cls) (b := sb.heap.size + a) (As := mvS sb.heap.size As) (rest := mvS sb.heap.size st) (n := np) ⟨callB_of np hts (jws_good w5) rfl rfl rfl (hts _ w4) (hts _ w1) w6 hR, hts _ w2, hts _ w3⟩ ⟨jPc_blind, ?_, fun U hU hW => ⟨rfl, hPc U hU hW⟩⟩ rfl (by simpa using hnp) hl.1 (by simp [mvS, mv, List.map_reverse]) (lv_room (by rw [mvS_cat]; exact hcat)) hd ⟨by simpa using hcs.1, by simpa using hcs.2⟩) hS (fun q _ h => h) (fun q h => h) (fun u t H1 locs1 ht hvm hw hB hz1 hk1 hS1 => ?_)
  · rw [← hqn]
    exact va_recv hK hP hqc (q0 := a) (fs := (List.range N).map (fun k => fvl sb.heap.size h (tyC ci k) a k)) (by rw [wls_get ha, cel_obj hs hc10])
  · have hB : jB sb D ids sh SP n r0 u t := hB
    exact kk r0 hfo r hr hB.2 H1 locs1 ls (by rw [← ht]; exact hB.1) hS1 hl
theorem j_callSv {fo : Option (Hp)} {kf : Hp → Option ρ} (hC : jC p s m args meth c cc own nL sb D ids) (hL : jCs own index y bytes maxL ret np) (hM : ∀ r0, fo = some r0 → jM l y bytes maxL ret d sb D ids sh SP n As h (jQv sb D ids sh SP n r0)) (hnp : As.length = np) (hR : d + 1 ≤ R.frames ∧ 8 + (maxL + 11) + 64 * d ≤ R.locals) (hcs : kc ≤ R.cells ∧ ks ≤ R.slots) (hstk : stk = As.reverse ++ st) (hcat : (st.map fun v => v.category).sum ≤ 8) (hd : decode cc pc = .ok (.invokestatic index, 3))
    (kk : ∀ (h' : Hp), fo = some h' → jJ p l e R s m args below meth c nL sb D ids sh SP Q n kc ks h' (pc + 3) lv st (kf h')) : jJ p l e R s m args below meth c nL sb D ids sh SP Q n kc ks h pc lv stk (fo.bind kf) := by
  intro r hr hsp H locs ls hP hS hl
  obtain ⟨r0, hfo, hr⟩ := Option.bind_eq_some_iff.mp hr
  have hPc := jPc_at hC hsp hP hS
  obtain ⟨hx, hb, hml, hown, hts, hlocks, hK, hg1, hg2, hg3⟩ := hC
  obtain ⟨w1, w2, w4, w5, w6⟩ := hL
  subst hstk
  refine va_callv (va_runS (S := ⟨hx, hb, hml, hown, hts⟩) (hM r0 hfo) (As := mvS sb.heap.size As) (rest := mvS sb.heap.size st) (n := np) ⟨callB_of np hts (jws_good w5) rfl rfl rfl (hts _ w4) (hts _ w1) w6 hR, hts _ w2⟩ ⟨jPc_blind, fun U hU hW => ⟨rfl, hPc U hU hW⟩⟩ rfl (by simpa using hnp) hl.1 (by simp [mvS, List.map_reverse]) (lv_room (by rw [mvS_cat]; exact hcat)) hd ⟨by simpa using hcs.1, by simpa using hcs.2⟩) hS (fun q _ h => h) (fun q h => h) (fun u t H1 locs1 ht hvm hw hB hz1 hk1 hS1 => ?_)
  have hB : jB sb D ids sh SP n r0 u t := hB
  exact kk r0 hfo r hr hB.2 H1 locs1 ls (by rw [← ht]; exact hB.1) hS1 hl
end JX
