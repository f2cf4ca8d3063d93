/-! Cells that aren't ours (String constants, static rows, the script): retAddr t stands for the machine's cell t. -/
section JE
variable {ρ : Type} {p : Program} {l : Launch} {e : Env} {R : Room} {s : State} {m : MethodId} {args : Array Value} {below : List Frame} {meth : Method} {c : Code} {cc bytes : ByteArray} {own : String} {nL maxL np d index t N : Nat} {ret : Option FieldType} {y : MethodName} {sb : State} {D : va_G} {ids : Nat → ClassId} {sh : Nat → Nat × Nat} {SP : Hp → Prop} {Q : ρ → State → Prop} {n kc ks : Nat} {h : Hp} {pc : Nat} {lv lv' : List (Nat × Value)} {st stk As : List Value} {o : Option ρ}
theorem j_xaload_n {kf : Fin 4} {i : Nat} (hC : jC p s m args meth c cc own nL sb D ids) (j : Nat) (hj : lv[j]? = some (i, .retAddr t)) (hi : (kf : Nat) = i) (hd : decode cc pc = .ok (.aload_n kf, 1)) (k : jJ p l e R s m args below meth c nL sb D ids sh SP Q n kc ks h (pc + 1) lv (.retAddr t :: st) o) : jJ p l e R s m args below meth c nL sb D ids sh SP Q n kc ks h pc lv st o := by
  intro r hr hs H locs ls hP hS hl
  obtain ⟨hx, hb, hC⟩ := hC
  refine lv_aload_n hx hb hd hi (jl_at hl hj) ?_
  exact k r hr hs H locs ls hP hS hl
theorem j_naload_n {kf : Fin 4} {i : Nat} (hC : jC p s m args meth c cc own nL sb D ids) (j : Nat) (hj : lv[j]? = some (i, .null)) (hi : (kf : Nat) = i) (hd : decode cc pc = .ok (.aload_n kf, 1)) (k : jJ p l e R s m args below meth c nL sb D ids sh SP Q n kc ks h (pc + 1) lv (.null :: st) o) : jJ p l e R s m args below meth c nL sb D ids sh SP Q n kc ks h pc lv st o := by
  intro r hr hs H locs ls hP hS hl
  obtain ⟨hx, hb, hC⟩ := hC
  refine lv_aload_nN hx hb hd hi (jl_at hl hj) ?_
  exact k r hr hs H locs ls hP hS hl
theorem jx_at {P : State → Heap → Prop} (hC : jC p s m args meth c cc own nL sb D ids) (hm : ∀ u U H, u.vm.Alike U.vm → P u H → P U H) (hk : ∀ U H H1, (∀ q : Nat, q < H.size → ¬ jA sb q → H1[q]? = H[q]?) → P U H → P U H1) (h0 : P sb sb.heap) : P s s.heap := by
  obtain ⟨-, -, -, -, -, -, -, hg1, hg2, hg3, -⟩ := hC
  exact hk s sb.heap s.heap (fun q hq _ => hg2 q hq) (hm sb s sb.heap hg3 h0)
theorem j_xgetI {cn fn ds : String} {v : Int32} (hC : jC p s m args meth c cc own nL sb D ids) (hE : va_OF cn fn ds (.int v) t (jA sb) sb sb.heap) (hw : Cond.fieldLink own index cn fn ds ∈ TW) (hd : decode cc pc = .ok (.getfield index, 3)) (k : jJ p l e R s m args below meth c nL sb D ids sh SP Q n kc ks h (pc + 3) lv (.int v :: st) o) : jJ p l e R s m args below meth c nL sb D ids sh SP Q n kc ks h pc lv (.retAddr t :: st) o := by
  intro r hr hs H locs ls hP hS hl
  have hE := jx_at (P := fun U H => va_OF cn fn ds (.int v) t (jA sb) U H) hC (fun u U H hv hp => va_OF.moved hv hp) (fun U H H1 hq hp => va_OF.kept hp hq) hE
  obtain ⟨hx, hb, hml, hown, hts, -⟩ := hC
  refine vk_getf hx hb hE hS hown (hts _ hw) (fun x hx => hx) hd ?_
  exact k r hr hs H locs ls hP hS hl
theorem j_xgetR {cn fn ds : String} {v : Nat} (hC : jC p s m args meth c cc own nL sb D ids) (hE : va_OF cn fn ds (.ref v) t (jA sb) sb sb.heap) (hw : Cond.fieldLink own index cn fn ds ∈ TW) (hd : decode cc pc = .ok (.getfield index, 3)) (k : jJ p l e R s m args below meth c nL sb D ids sh SP Q n kc ks h (pc + 3) lv (.retAddr v :: st) o) : jJ p l e R s m args below meth c nL sb D ids sh SP Q n kc ks h pc lv (.retAddr t :: st) o := by
  intro r hr hs H locs ls hP hS hl
  have hE := jx_at (P := fun U H => va_OF cn fn ds (.ref v) t (jA sb) U H) hC (fun u U H hv hp => va_OF.moved hv hp) (fun U H H1 hq hp => va_OF.kept hp hq) hE
  obtain ⟨hx, hb, hml, hown, hts, -⟩ := hC
  refine vk_getf hx hb hE hS hown (hts _ hw) (fun x hx => hx) hd ?_
  exact k r hr hs H locs ls hP hS hl
theorem j_xgetsI {cn fn ds : String} {v : Int32} (hC : jC p s m args meth c cc own nL sb D ids) (hE : va_Z cn fn ds (.int v) (jA sb) sb sb.heap) (hw : Cond.fieldLink own index cn fn ds ∈ TW) (hd : decode cc pc = .ok (.getstatic index, 3)) (k : jJ p l e R s m args below meth c nL sb D ids sh SP Q n kc ks h (pc + 3) lv (.int v :: st) o) : jJ p l e R s m args below meth c nL sb D ids sh SP Q n kc ks h pc lv st o := by
  intro r hr hs H locs ls hP hS hl
  have hE := jx_at (P := fun U H => va_Z cn fn ds (.int v) (jA sb) U H) hC (fun u U H hv hp => va_Z.moved hv hp) (fun U H H1 hq hp => va_Z.kept hp hq) hE
  obtain ⟨hx, hb, hml, hown, hts, -⟩ := hC
  refine va_gets hx hb hE hS hown (hts _ hw) (fun x hx => hx) hd ?_
  exact k r hr hs H locs ls hP hS hl
theorem j_xgetsQ {cn fn ds : String} (hC : jC p s m args meth c cc own nL sb D ids) (hE : va_Zq cn fn ds (jA sb) sb sb.heap) (hw : Cond.fieldLink own index cn fn ds ∈ TW) (hd : decode cc pc = .ok (.getstatic index, 3)) (kn : jJ p l e R s m args below meth c nL sb D ids sh SP Q n kc ks h (pc + 3) lv (.null :: st) o) (k : ∀ t, jJ p l e R s m args below meth c nL sb D ids sh SP Q n kc ks h (pc + 3) lv (.retAddr t :: st) o) : jJ p l e R s m args below meth c nL sb D ids sh SP Q n kc ks h pc lv st o := by
  intro r hr hs H locs ls hP hS hl
  have hE := jx_at (P := fun U H => va_Zq cn fn ds (jA sb) U H) hC (fun u U H hv hp => va_Zq.moved hv hp) (fun U H H1 hq hp => va_Zq.kept hp hq) hE
  obtain ⟨hx, hb, hml, hown, hts, -⟩ := hC
  rcases hE with hE | ⟨t, hE⟩
  · refine va_gets hx hb hE hS hown (hts _ hw) (fun x hx => hx) hd ?_
    exact kn r hr hs H locs ls hP hS hl
  · refine va_gets hx hb hE hS hown (hts _ hw) (fun x hx => hx) hd ?_
    exact k t r hr hs H locs ls hP hS hl
theorem j_xlen {ty : FieldType} {f : Nat → Value} {v : Int32} (hC : jC p s m args meth c cc own nL sb D ids) (hT : va_T ty t N f (jA sb) sb sb.heap) (hv : Int32.ofNat N = v) (hd : decode cc pc = .ok (.arraylength, 1)) (k : jJ p l e R s m args below meth c nL sb D ids sh SP Q n kc ks h (pc + 1) lv (.int v :: st) o) : jJ p l e R s m args below meth c nL sb D ids sh SP Q n kc ks h pc lv (.retAddr t :: st) o := by
  intro r hr hs H locs ls hP hS hl
  have hT := jx_at (P := fun U H => va_T ty t N f (jA sb) U H) hC (fun u U H hv hp => va_T.moved hv hp) (fun U H H1 hq hp => va_T.kept hp hq) hT
  obtain ⟨hx, hb, -⟩ := hC
  refine va_tlen hx hb hT hS hv hd ?_
  exact k r hr hs H locs ls hP hS hl
theorem j_xbald {f : Nat → Int32} {i : Int32} (hC : jC p s m args meth c cc own nL sb D ids) (hT : va_T .byte t N (fun j => .int (f j)) (jA sb) sb sb.heap) (hd : decode cc pc = .ok (.baload, 1)) (k : jJ p l e R s m args below meth c nL sb D ids sh SP Q n kc ks h (pc + 1) lv (.int (f i.toNatClampNeg) :: st) o) : jJ p l e R s m args below meth c nL sb D ids sh SP Q n kc ks h pc lv (.int i :: .retAddr t :: st) (if inb i N then o else none) := by
  intro r hr hs H locs ls hP hS hl
  by_cases hin : inb i N = true
  · rw [if_pos hin] at hr
    have hT := jx_at (P := fun U H => va_T .byte t N (fun j => .int (f j)) (jA sb) U H) hC (fun u U H hv hp => va_T.moved hv hp) (fun U H H1 hq hp => va_T.kept hp hq) hT
    obtain ⟨hx, hb, -⟩ := hC
    refine va_tb hx hb hT hS (inb_in hin) rfl hd ?_
    exact k r hr hs H locs ls hP hS hl
  · rw [if_neg hin] at hr; cases hr
theorem j_xiald {f : Nat → Int32} {i : Int32} (hC : jC p s m args meth c cc own nL sb D ids) (hT : va_T .int t N (fun j => .int (f j)) (jA sb) sb sb.heap) (hd : decode cc pc = .ok (.iaload, 1)) (k : jJ p l e R s m args below meth c nL sb D ids sh SP Q n kc ks h (pc + 1) lv (.int (f i.toNatClampNeg) :: st) o) : jJ p l e R s m args below meth c nL sb D ids sh SP Q n kc ks h pc lv (.int i :: .retAddr t :: st) (if inb i N then o else none) := by
  intro r hr hs H locs ls hP hS hl
  by_cases hin : inb i N = true
  · rw [if_pos hin] at hr
    have hT := jx_at (P := fun U H => va_T .int t N (fun j => .int (f j)) (jA sb) U H) hC (fun u U H hv hp => va_T.moved hv hp) (fun U H H1 hq hp => va_T.kept hp hq) hT
    obtain ⟨hx, hb, -⟩ := hC
    refine va_ti hx hb hT hS (inb_in hin) rfl hd ?_
    exact k r hr hs H locs ls hP hS hl
  · rw [if_neg hin] at hr; cases hr
theorem j_i2c {x : Int32} (hC : jC p s m args meth c cc own nL sb D ids) (hd : decode cc pc = .ok (.i2c, 1)) (k : jJ p l e R s m args below meth c nL sb D ids sh SP Q n kc ks h (pc + 1) lv (.int (x.toUInt32 % 65536).toInt32 :: st) o) : jJ p l e R s m args below meth c nL sb D ids sh SP Q n kc ks h pc lv (.int x :: st) o := by
  intro r hr hs H locs ls hP hS hl
  obtain ⟨hx, hb, -⟩ := hC
  refine lv_i2c hx hb hd rfl ?_
  exact k r hr hs H locs ls hP hS hl
theorem j_ldcS {tx : String} (hC : jC p s m args meth c cc own nL sb D ids) (hZ : vk_R own index tx t sb) (hd : decode cc pc = .ok (.ldc index, 2)) (k : jJ p l e R s m args below meth c nL sb D ids sh SP Q n kc ks h (pc + 2) lv (.retAddr t :: st) o) : jJ p l e R s m args below meth c nL sb D ids sh SP Q n kc ks h pc lv st o := by
  intro r hr hs H locs ls hP hS hl
  obtain ⟨hx, hb, hml, hown, hts, -, -, -, -, -, hW⟩ := hC
  refine va_ldcS hx hb hown (hW.2 _ _ _ _ hZ) hd ?_
  exact k r hr hs H locs ls hP hS hl
/-- a return of a small type: the value fits -/
theorem j_tret {v : Int32} {ty : FieldType} (hC : jC p s m args meth c cc own nL sb D ids) (hr : meth.sig.returnType = some ty) (hz : narrow ty (.int v) = .int v) (hd : decode cc pc = .ok (.ireturn, 1)) : jJ p l e R s m args below meth c nL sb D ids sh SP (fun r => MQ below (jQi sb D ids sh SP n r) args s kc ks (jA sb)) n kc ks h pc lv [.int v] (some (v, h)) := by
  intro r hr0 hsp H locs ls hP hS hl
  cases hr0
  obtain ⟨hx, hb, hml, hown, hts, hlocks, -⟩ := hC
  exact W.zret (v := v) hx hb hr hz (fun t ht hW => ⟨⟨v, (), rfl, rfl, by rw [ht]; exact hP, hsp⟩, hS.F ht⟩) hS.2.2 hd
/-- a method of a cell that isn't ours -/
theorem j_callXi {fo : Option (Int32 × Hp)} {kf : Int32 → Hp → Option ρ} (hC : jC p s m args meth c cc own nL sb D ids) (hL : jCl own index y bytes maxL ret np) (hM : ∀ r0, fo = some r0 → jM l y bytes maxL ret d sb D ids sh SP n (.retAddr t :: As) h (jQi sb D ids sh SP n r0)) (hO : va_O y.cls t (jA sb) sb sb.heap) (hnp : As.length = np) (hRm : d + 1 ≤ R.frames ∧ 8 + (maxL + 11) + 64 * d ≤ R.locals) (hcs : kc ≤ R.cells ∧ ks ≤ R.slots) (hstk : stk = As.reverse ++ .retAddr t :: st) (hcat : (st.map fun v => v.category).sum ≤ 8) (hd : decode cc pc = .ok (.invokevirtual index, 3))
    (kk : ∀ (v : Int32) (h' : Hp), fo = some (v, h') → jJ p l e R s m args below meth c nL sb D ids sh SP Q n kc ks h' (pc + 3) lv (.int v :: st) (kf v h')) : jJ p l e R s m args below meth c nL sb D ids sh SP Q n kc ks h pc lv stk (bnd fo kf) := by
  intro r hr hsp H locs ls hP hS hl
  obtain ⟨r0, hfo, hr⟩ := Option.bind_eq_some_iff.mp hr
  have hPc := jPc_at hC hsp hP hS
  have hO := jx_at (P := fun U H => va_O y.cls t (jA sb) U H) hC (fun u U H hv hp => va_O.moved hv hp) (fun U H H1 hq hp => va_O.kept hp hq) hO
  obtain ⟨hx, hb, hml, hown, hts, hlocks, hK, hg1, hg2, hg3⟩ := hC
  obtain ⟨w1, w2, w3, w4, w5, w6⟩ := hL
  subst hstk
  obtain ⟨cell, c1, c2, c3, -⟩ := hO.kept hS.2.1
  refine va_calli (va_runV (S := ⟨hx, hb, hml, hown, hts⟩) (hM r0 hfo) (C := y.cls) (b := t) (As := mvS sb.heap.size As) (rest := mvS sb.heap.size st) (n := np) ⟨callB_of np hts (jws_good w5) rfl rfl rfl (hts _ w4) (hts _ w1) w6 hRm, hts _ w2, hts _ w3⟩ ⟨jPc_blind, ⟨cell, c1, c2, c3⟩, fun U hU hW => ⟨rfl, hPc U hU hW⟩⟩ rfl (by simpa using hnp) hl.1 (by simp [mvS, mv, List.map_reverse]) (lv_room (by rw [mvS_cat]; exact hcat)) hd ⟨by simpa using hcs.1, by simpa using hcs.2⟩) hS (fun q _ h => h) (fun q h => h) (fun v u t H1 locs1 ht hvm hw hB hz1 hk1 hS1 => ?_)
  have hB : jB sb D ids sh SP n r0.2 u t := hB
  obtain ⟨r1, h1'⟩ := r0
  have hw : v = r1 := hw
  subst hw
  exact kk v h1' hfo r hr hB.2 H1 locs1 ls (by rw [← ht]; exact hB.1) hS1 hl
end JE
