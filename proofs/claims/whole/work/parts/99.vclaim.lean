/-! StrawMen.claim, StrawMenLaw.claim; the law's call of it. -/
def xE (k : Nat) : String := if k = 1 then "java/lang/IndexOutOfBoundsException" else "java/util/NoSuchElementException"
def xN : List String := ["java/lang/RuntimeException", "java/lang/Exception"]
def xB (E : String) : List Cond := [.castable E E, .declares (Bundle.initS "java/lang/RuntimeException"), .declares (Bundle.initS "java/lang/Exception"), .declares (Bundle.initS Bundle.tN)]
theorem xw1 : ∀ w ∈ (vx_atS RX9 136 "java/lang/IndexOutOfBoundsException" xN).filter goodWord, w ∈ lw_tbl := by decide +kernel
theorem xw2 : ∀ w ∈ (ux_at RX9 155 "java/util/NoSuchElementException" 13 prog_27_method_4_code xN).filter goodWord, w ∈ lw_tbl := by decide +kernel
theorem xh1 : ∀ w ∈ (vx_atS RX9 136 "java/lang/IndexOutOfBoundsException" xN).filter (fun w => !goodWord w), w ∈ xB "java/lang/IndexOutOfBoundsException" := by decide +kernel
theorem xh2 : ∀ w ∈ (ux_at RX9 155 "java/util/NoSuchElementException" 13 prog_27_method_4_code xN).filter (fun w => !goodWord w), w ∈ xB "java/util/NoSuchElementException" := by decide +kernel
theorem xo1 : ∀ w ∈ Cond.classLink RX9 132 "java/lang/IndexOutOfBoundsException" :: Cond.initialized "java/lang/IndexOutOfBoundsException" :: vx_atS RX9 136 "java/lang/IndexOutOfBoundsException" xN, vx_ot w = true := by decide +kernel
theorem xo2 : ∀ w ∈ Cond.classLink RX9 151 "java/util/NoSuchElementException" :: Cond.initialized "java/util/NoSuchElementException" :: ux_at RX9 155 "java/util/NoSuchElementException" 13 prog_27_method_4_code xN, vx_ot w = true := by decide +kernel
theorem al_cast {sb s : State} {A A' : Array Value} {C T : String} (ha : sb.vm.Alike s.vm) (h : (Cond.castable C T).before A sb = true) : (Cond.castable C T).before A' s = true := va_tabs rfl (rfl : (sb.setVm s.vm).vm = s.vm) (by rw [Cond.castable_setVm ha]; exact h)
theorem al_decl {sb s : State} {A A' : Array Value} {x : MethodName} (ha : sb.vm.Alike s.vm) (h : (Cond.declares x).before A sb = true) : (Cond.declares x).before A' s = true := va_tabs rfl (rfl : (sb.setVm s.vm).vm = s.vm) (by rw [Cond.declares_setVm ha]; exact h)
theorem al_B {E : String} {sb s : State} {A : Array Value} (ha : sb.vm.Alike s.vm) (h : ∀ w ∈ xB E, w.before #[] sb = true) : ∀ w ∈ xB E, w.before A s = true :=
  vx_c (al_cast ha (h _ (List.mem_of_getElem? (i := 0) rfl))) (vx_c (al_decl ha (h _ (List.mem_of_getElem? (i := 1) rfl))) (vx_c (al_decl ha (h _ (List.mem_of_getElem? (i := 2) rfl))) (vx_c (al_decl ha (h _ (List.mem_of_getElem? (i := 3) rfl))) vx_n)))
/-- what the throws need of the start -/
def jXp (sb : State) : Prop := (∃ a, vk_R RX9 134 "no such claim" a sb) ∧ (∃ a, vk_R RX9 153 "no such what" a sb) ∧ vx_Zq Bundle.tN "UNASSIGNED_STACK" Bundle.steD (jA sb) sb sb.heap ∧ vx_Zq Bundle.tN "SUPPRESSED_SENTINEL" Bundle.listD (jA sb) sb sb.heap ∧ va_Nc "java/util/NoSuchElementException" "java/lang/IndexOutOfBoundsException" sb ∧ (∀ w ∈ xB "java/lang/IndexOutOfBoundsException", w.before #[] sb = true) ∧ ∀ w ∈ xB "java/util/NoSuchElementException", w.before #[] sb = true
theorem xl1 : Cond.classLink RX9 132 "java/lang/IndexOutOfBoundsException" ∈ TW := sg6 (List.mem_of_getElem? (i := 98) rfl) rfl
theorem xl2 : Cond.classLink RX9 151 "java/util/NoSuchElementException" ∈ TW := sg6 (List.mem_of_getElem? (i := 168) rfl) rfl
theorem xi1 : Cond.initialized "java/lang/IndexOutOfBoundsException" ∈ TW := sg1 (List.mem_of_getElem? (i := 20) rfl) rfl
theorem xi2 : Cond.initialized "java/util/NoSuchElementException" ∈ TW := sg1 (List.mem_of_getElem? (i := 21) rfl) rfl
def rmX : Room := { frames := 8, cells := 1, slots := 6, locals := 512 }
/-- claim returns r's number, if r's kind is 0 -/
def xQc (sb : State) (D : va_G) (ids : Nat → ClassId) (n : Nat) (r : Int32 × Hp × Nat) : Array Value → State → Outcome → State → Prop := va_Qi (fun v (_ : Unit) => v = r.1 ∧ r.2.2 = 0) (jB sb D ids shp St n r.2.1) (jA sb)
/-- .. or throws -/
def xX (sb : State) (D : va_G) (ids : Nat → ClassId) (n : Nat) (r : Int32 × Hp × Nat) : String → State → State → Prop := vx_X (fun (_ : Unit) => r.2.2 ≠ 0) (fun E _ t => E = xE r.2.2 ∧ va_P D vwCl (wls ids shp sb.heap.size n r.2.1) t.heap ∧ St r.2.1) (jA sb)
def xQ (below : List Frame) (args : Array Value) (s sb : State) (D : va_G) (ids : Nat → ClassId) (n : Nat) : Int32 × Hp × Nat → State → Prop := fun r => vx_MQ below (xQc sb D ids n r) (xX sb D ids n r) args s 1 6 (jA sb)
def tb_X9_claim : List (Nat × Instr × Nat) := [(0, .aload_n 0, 1), (1, .iload_n 1, 1), (2, .invokevirtual 128, 3), (5, .ifCond .ne 13, 3), (8, .new 132, 3), (11, .dup, 1), (12, .ldc 134, 2), (14, .invokespecial 136, 3), (17, .athrow, 1), (18, .iload_n 2, 1), (19, .tableswitch 77 0 3 #[29, 41, 53, 65], 29), (48, .aload_n 0, 1), (49, .getfield 10, 3), (52, .getfield 106, 3), (55, .iload_n 1, 1), (56, .invokevirtual 139, 3), (59, .ireturn, 1), (60, .aload_n 0, 1), (61, .getfield 10, 3), (64, .getfield 106, 3), (67, .iload_n 1, 1), (68, .invokevirtual 142, 3), (71, .ireturn, 1), (72, .aload_n 0, 1), (73, .getfield 10, 3), (76, .getfield 106, 3), (79, .iload_n 1, 1), (80, .invokevirtual 145, 3), (83, .ireturn, 1), (84, .aload_n 0, 1), (85, .getfield 10, 3), (88, .getfield 106, 3), (91, .iload_n 1, 1), (92, .invokevirtual 148, 3), (95, .ireturn, 1), (96, .new 151, 3), (99, .dup, 1), (100, .ldc 153, 2), (102, .invokespecial 155, 3), (105, .athrow, 1)]
theorem dt_X9_claim : dOk cX9_claim tb_X9_claim = true := by decide +kernel
section XC
variable {p : Program} {l : Launch} {e : Env} {s : State} {m : MethodId} {args : Array Value} {below : List Frame} {meth : Method} {c : Code} {sb : State} {D : va_G} {ids : Nat → ClassId} {n : Nat} {h : Hp} {lv : List (Nat × Value)}
theorem j_thr1 (hl : l.stackTraces = false) (hX : jXp sb) (hC : jC p s m args meth c cX9_claim RX9 3 sb D ids) (hno : ∀ x ∈ c.exceptionTable.toList, False) : jJ p l e rmX s m args below meth c 3 sb D ids shp St (xQ below args s sb D ids n) n 0 0 h 8 lv [] (some ((0 : Int32), h, 1)) := by
  intro r hr0 hsp H locs ls hP hS hle
  cases hr0
  obtain ⟨hx, hb, hml, hown, hts, hlocks, hK, hg1, hg2, hg3, hg4⟩ := hC
  obtain ⟨⟨a1, hs1⟩, -, zU, zS, -, hB, -⟩ := hX
  have kp : ∀ a : Nat, a < sb.heap.size → ¬ jA sb a → s.heap[a]? = sb.heap[a]? := fun a ha _ => hg2 a ha
  exact vx_throwS (cc := cX9_claim) (pc := 8) (names := xN) (sa := a1) (A := jA sb) (text := "no such claim") (own := RX9) (cls := "java/lang/IndexOutOfBoundsException") (ik := 132) (is := 134) (ic := 136) (mc := 1) (ms := 6) (rest := []) hx hb hl hown (by decide) (by decide) (hts _ xl1) (hts _ xi1) (hg4.2 _ _ _ _ hs1) (vx_hat (fun w hw => hts w (TW_in (xw1 w hw) (List.mem_filter.mp hw).2)) xh1 (al_B hg3 hB)) xo1 (vx_Zq.moved hg3 (zU.kept kp)) (vx_Zq.moved hg3 (zS.kept kp)) hS (hle.1.trans hml.symm) (dOk_at dt_X9_claim 4 rfl) (dOk_at dt_X9_claim 5 rfl) (dOk_at dt_X9_claim 6 rfl) (dOk_at dt_X9_claim 7 rfl) (dOk_at dt_X9_claim 8 rfl) (fun x hx => (hno x hx).elim) (by decide) (by decide) (by decide) (by decide) hlocks (fun t h1 h2 h3 => ⟨(), (show (1 : Nat) ≠ 0 by decide), ⟨rfl, va_P.kept hP (fun k q hk => h3 _ (vx_lt hP hk)), hsp⟩, Nat.le_trans hS.1 h2, fun q hq hA => (h3 q (Nat.lt_of_lt_of_le hq hS.1)).trans (hS.2.1 q hq hA)⟩) hS.2.2 (by decide) (by decide)
theorem j_thr2 (hl : l.stackTraces = false) (hX : jXp sb) (hC : jC p s m args meth c cX9_claim RX9 3 sb D ids) (hno : ∀ x ∈ c.exceptionTable.toList, False) : jJ p l e rmX s m args below meth c 3 sb D ids shp St (xQ below args s sb D ids n) n 0 0 h 96 lv [] (some ((0 : Int32), h, 2)) := by
  intro r hr0 hsp H locs ls hP hS hle
  cases hr0
  obtain ⟨hx, hb, hml, hown, hts, hlocks, hK, hg1, hg2, hg3, hg4⟩ := hC
  obtain ⟨-, ⟨a1, hs1⟩, zU, zS, -, -, hB⟩ := hX
  have kp : ∀ a : Nat, a < sb.heap.size → ¬ jA sb a → s.heap[a]? = sb.heap[a]? := fun a ha _ => hg2 a ha
  exact ux_throw (cc := cX9_claim) (pc := 96) (names := xN) (sa := a1) (A := jA sb) (text := "no such what") (own := RX9) (cls := "java/util/NoSuchElementException") (ik := 151) (is := 153) (ic := 155) (ix := 13) (rx := prog_27_method_4_code) (mc := 1) (ms := 6) (rest := []) hx hb hl (by decide +kernel) (by decide +kernel) (by decide +kernel) (by decide +kernel) hown (by decide) (by decide) (hts _ xl2) (hts _ xi2) (hg4.2 _ _ _ _ hs1) (vx_hat (fun w hw => hts w (TW_in (xw2 w hw) (List.mem_filter.mp hw).2)) xh2 (al_B hg3 hB)) xo2 (vx_Zq.moved hg3 (zU.kept kp)) (vx_Zq.moved hg3 (zS.kept kp)) hS (hle.1.trans hml.symm) (dOk_at dt_X9_claim 35 rfl) (dOk_at dt_X9_claim 36 rfl) (dOk_at dt_X9_claim 37 rfl) (dOk_at dt_X9_claim 38 rfl) (dOk_at dt_X9_claim 39 rfl) (fun x hx => (hno x hx).elim) (by decide) (by decide) (by decide) (by decide) hlocks (fun t h1 h2 h3 => ⟨(), (show (2 : Nat) ≠ 0 by decide), ⟨rfl, va_P.kept hP (fun k q hk => h3 _ (vx_lt hP hk)), hsp⟩, Nat.le_trans hS.1 h2, fun q hq hA => (h3 q (Nat.lt_of_lt_of_le hq hS.1)).trans (hS.2.1 q hq hA)⟩) hS.2.2 (by decide) (by decide)
theorem j_iretX {cc : ByteArray} {own : String} {nL pc : Nat} {v : Int32} (hC : jC p s m args meth c cc own nL sb D ids) (hr : meth.sig.returnType = some .int) (hd : decode cc pc = .ok (.ireturn, 1)) : jJ p l e rmX s m args below meth c nL sb D ids shp St (xQ below args s sb D ids n) n 0 0 h pc lv [.int v] (some (v, h, 0)) := by
  intro r hr0 hsp H locs ls hP hS hle
  cases hr0
  obtain ⟨hx, hb, hml, hown, hts, hlocks, -⟩ := hC
  refine vx_ret ?_
  refine W.widen (k := 1) (n := 6) (Nat.zero_le _) (Nat.zero_le _) ?_
  exact W.iret (v := v) hx hb hr (fun t ht hW => ⟨⟨v, (), rfl, ⟨rfl, rfl⟩, by rw [ht]; exact hP, hsp⟩, hS.F ht⟩) hS.2.2 hd
end XC
def fC_claim (h : Hp) (x1 x2 : Int32) : Option (Int32 × Hp × Nat) := bnd (fX9_isClaim h x1) (fun v h1 => if v = 0 then (some ((0 : Int32), h1, 1)) else (if inT x2 0 3 = true then (if x2 = (0 : Int32) then (dref shp h1 0 3 (7, 20)).bind (fun z => bnd (fX0_weightOf (rf z 0) h1 x1) (fun w h2 => some (w, h2, 0))) else (if x2 = (1 : Int32) then (dref shp h1 0 3 (7, 20)).bind (fun z => bnd (fX0_temperOf (rf z 0) h1 x1) (fun w h2 => some (w, h2, 0))) else (if x2 = (2 : Int32) then (dref shp h1 0 3 (7, 20)).bind (fun z => bnd (fX0_hitBy (rf z 0) h1 x1) (fun w h2 => some (w, h2, 0))) else (if x2 = (3 : Int32) then (dref shp h1 0 3 (7, 20)).bind (fun z => bnd (fX0_foesOf (rf z 0) h1 x1) (fun w h2 => some (w, h2, 0))) else none)))) else (some ((0 : Int32), h1, 2))))
set_option maxRecDepth 100000 in
set_option maxHeartbeats 4000000 in
theorem c_X9_claim {l : Launch} {sb : State} {D : va_G} {ids : Nat → ClassId} {n : Nat} (hl : l.stackTraces = false) (hX : jXp sb) (hN : 152 ≤ n) (h : Hp) (x1 x2 : Int32) (r : Int32 × Hp × Nat) (hr : fC_claim h x1 x2 = some r) : vx_Met l yX9_claim (Cond.code yX9_claim cX9_claim 3 (some .int) :: TW) rmX (va_Pc (mvS sb.heap.size [.ref 0, .int x1, .int x2]) (fun U => jU sb D ids shp n h U ∧ St h)) (xQc sb D ids n r) (xX sb D ids n r) 1 6 (jA sb) := by
  refine vx_ofW (cc := cX9_claim) (maxL := 3) (ret := some .int) rfl rfl ?_
  intro p e s m args below meth c s₁ B hml hno hv
  obtain ⟨rfl, ⟨hu1, hu2, hu3, hu4, hu6, hu5⟩, hsp⟩ := hv
  have hts := atoms_spec (ws := Cond.code yX9_claim cX9_claim 3 (some .int) :: TW) B.pre
  have hown : s.vm.findClass yX9_claim.cls = some m.cls := findClass_of_methodNamed B.named
  have hle := lv_entry (mvS sb.heap.size [.ref 0, .int x1, .int x2]) (n := 3) (by rw [lg_sl_mv]; exact Nat.le_of_ble_eq_true rfl)
  rw [lg_entry_eq]
  rw [lv_args_mv] at hle
  have hC : jC p s m (mvS sb.heap.size [.ref 0, .int x1, .int x2]).toArray meth c cX9_claim RX9 3 sb D ids := ⟨B.exec, B.bytes, hml, hown, fun w hw => hts w (List.mem_cons_of_mem _ hw), B.notSynchronized, hu4, hu1, hu2, hu3, hu6⟩
  have hret := B.returns
  have J : jJ p l e rmX s m (mvS sb.heap.size [.ref 0, .int x1, .int x2]).toArray below meth c 3 sb D ids shp St (xQ below (mvS sb.heap.size [.ref 0, .int x1, .int x2]).toArray s sb D ids n) n 0 0 h 0 (lv_args 0 [.ref 0, .int x1, .int x2]) [] (fC_claim h x1 x2) := by
    unfold fC_claim
    refine j_aload_n hC 0 rfl rfl (dOk_at dt_X9_claim 0 rfl) ?_
    refine j_iload_n hC 1 rfl rfl (dOk_at dt_X9_claim 1 rfl) ?_
    refine j_callVi hC clX9_128 (fun rz hrz => c_X9_isClaim hN _ _ rz hrz) (show shp 0 = (9, 12) from rfl) (Nat.lt_of_lt_of_le (Nat.le_of_ble_eq_true rfl : 0 < 152) hN) (by decide) rfl rfl ⟨Nat.le_of_ble_eq_true rfl, Nat.le_of_ble_eq_true rfl⟩ ⟨Nat.zero_le _, Nat.zero_le _⟩ (As := [.int x1]) (st := []) rfl (Nat.le_of_ble_eq_true rfl) (dOk_at dt_X9_claim 2 rfl) (fun v_1 h_2 _ => ?_)
    refine j_if_ne hC (tgt := 18) (by decide) (dOk_at dt_X9_claim 3 rfl) (fun q_3 => ?_) (fun q_3 => ?_)
    · refine j_iload_n hC 2 rfl rfl (dOk_at dt_X9_claim 9 rfl) ?_
      refine j_ite (P := inT x2 0 3 = true) (fun _ => ?_) (fun q => ?_)
      · refine j_ite (P := x2 = (0 : Int32)) (fun q_4 => ?_) (fun _ => ?_)
        · refine j_tswIn hC (tgt := 48) q_4 (by decide) (by decide) rfl (by decide) (dOk_at dt_X9_claim 10 rfl) ?_
          refine j_aload_n hC 0 rfl rfl (dOk_at dt_X9_claim 11 rfl) ?_
          refine j_getD (q := (7, 20)) hC flX9_10 (show shp 0 = (9, 12) from rfl) (Nat.lt_of_lt_of_le (Nat.le_of_ble_eq_true rfl : 0 < 152) hN) (by decide) (by decide) (fun _ _ _ => rfl) (dOk_at dt_X9_claim 12 rfl) (fun z_5 _ g_6 => ?_)
          refine j_getR hC flX9_106 g_6 (jlt hN g_6 (by decide)) (by decide) (by decide) (fun _ _ _ => rfl) (fun hs => hs _ _ _ (sf_7_0 g_6).1) (dOk_at dt_X9_claim 13 rfl) ?_
          refine j_iload_n hC 1 rfl rfl (dOk_at dt_X9_claim 14 rfl) ?_
          refine j_callVi hC clX9_139 (fun rz hrz => c_X0_weightOf hN (sf_7_0 g_6).2.1 _ _ rz hrz) (sf_7_0 g_6).2.1 (Nat.lt_of_lt_of_le (sf_7_0 g_6).2.2 hN) (by decide) rfl rfl ⟨Nat.le_of_ble_eq_true rfl, Nat.le_of_ble_eq_true rfl⟩ ⟨Nat.zero_le _, Nat.zero_le _⟩ (As := [.int x1]) (st := []) rfl (Nat.le_of_ble_eq_true rfl) (dOk_at dt_X9_claim 15 rfl) (fun v_7 h_8 _ => ?_)
          exact j_iretX hC hret (dOk_at dt_X9_claim 16 rfl)
        refine j_ite (P := x2 = (1 : Int32)) (fun q_4 => ?_) (fun _ => ?_)
        · refine j_tswIn hC (tgt := 60) q_4 (by decide) (by decide) rfl (by decide) (dOk_at dt_X9_claim 10 rfl) ?_
          refine j_aload_n hC 0 rfl rfl (dOk_at dt_X9_claim 17 rfl) ?_
          refine j_getD (q := (7, 20)) hC flX9_10 (show shp 0 = (9, 12) from rfl) (Nat.lt_of_lt_of_le (Nat.le_of_ble_eq_true rfl : 0 < 152) hN) (by decide) (by decide) (fun _ _ _ => rfl) (dOk_at dt_X9_claim 18 rfl) (fun z_5 _ g_6 => ?_)
          refine j_getR hC flX9_106 g_6 (jlt hN g_6 (by decide)) (by decide) (by decide) (fun _ _ _ => rfl) (fun hs => hs _ _ _ (sf_7_0 g_6).1) (dOk_at dt_X9_claim 19 rfl) ?_
          refine j_iload_n hC 1 rfl rfl (dOk_at dt_X9_claim 20 rfl) ?_
          refine j_callVi hC clX9_142 (fun rz hrz => c_X0_temperOf hN (sf_7_0 g_6).2.1 _ _ rz hrz) (sf_7_0 g_6).2.1 (Nat.lt_of_lt_of_le (sf_7_0 g_6).2.2 hN) (by decide) rfl rfl ⟨Nat.le_of_ble_eq_true rfl, Nat.le_of_ble_eq_true rfl⟩ ⟨Nat.zero_le _, Nat.zero_le _⟩ (As := [.int x1]) (st := []) rfl (Nat.le_of_ble_eq_true rfl) (dOk_at dt_X9_claim 21 rfl) (fun v_7 h_8 _ => ?_)
          exact j_iretX hC hret (dOk_at dt_X9_claim 22 rfl)
        refine j_ite (P := x2 = (2 : Int32)) (fun q_4 => ?_) (fun _ => ?_)
        · refine j_tswIn hC (tgt := 72) q_4 (by decide) (by decide) rfl (by decide) (dOk_at dt_X9_claim 10 rfl) ?_
          refine j_aload_n hC 0 rfl rfl (dOk_at dt_X9_claim 23 rfl) ?_
          refine j_getD (q := (7, 20)) hC flX9_10 (show shp 0 = (9, 12) from rfl) (Nat.lt_of_lt_of_le (Nat.le_of_ble_eq_true rfl : 0 < 152) hN) (by decide) (by decide) (fun _ _ _ => rfl) (dOk_at dt_X9_claim 24 rfl) (fun z_5 _ g_6 => ?_)
          refine j_getR hC flX9_106 g_6 (jlt hN g_6 (by decide)) (by decide) (by decide) (fun _ _ _ => rfl) (fun hs => hs _ _ _ (sf_7_0 g_6).1) (dOk_at dt_X9_claim 25 rfl) ?_
          refine j_iload_n hC 1 rfl rfl (dOk_at dt_X9_claim 26 rfl) ?_
          refine j_callVi hC clX9_145 (fun rz hrz => c_X0_hitBy hN (sf_7_0 g_6).2.1 _ _ rz hrz) (sf_7_0 g_6).2.1 (Nat.lt_of_lt_of_le (sf_7_0 g_6).2.2 hN) (by decide) rfl rfl ⟨Nat.le_of_ble_eq_true rfl, Nat.le_of_ble_eq_true rfl⟩ ⟨Nat.zero_le _, Nat.zero_le _⟩ (As := [.int x1]) (st := []) rfl (Nat.le_of_ble_eq_true rfl) (dOk_at dt_X9_claim 27 rfl) (fun v_7 h_8 _ => ?_)
          exact j_iretX hC hret (dOk_at dt_X9_claim 28 rfl)
        refine j_ite (P := x2 = (3 : Int32)) (fun q_4 => ?_) (fun _ => ?_)
        · refine j_tswIn hC (tgt := 84) q_4 (by decide) (by decide) rfl (by decide) (dOk_at dt_X9_claim 10 rfl) ?_
          refine j_aload_n hC 0 rfl rfl (dOk_at dt_X9_claim 29 rfl) ?_
          refine j_getD (q := (7, 20)) hC flX9_10 (show shp 0 = (9, 12) from rfl) (Nat.lt_of_lt_of_le (Nat.le_of_ble_eq_true rfl : 0 < 152) hN) (by decide) (by decide) (fun _ _ _ => rfl) (dOk_at dt_X9_claim 30 rfl) (fun z_5 _ g_6 => ?_)
          refine j_getR hC flX9_106 g_6 (jlt hN g_6 (by decide)) (by decide) (by decide) (fun _ _ _ => rfl) (fun hs => hs _ _ _ (sf_7_0 g_6).1) (dOk_at dt_X9_claim 31 rfl) ?_
          refine j_iload_n hC 1 rfl rfl (dOk_at dt_X9_claim 32 rfl) ?_
          refine j_callVi hC clX9_148 (fun rz hrz => c_X0_foesOf hN (sf_7_0 g_6).2.1 _ _ rz hrz) (sf_7_0 g_6).2.1 (Nat.lt_of_lt_of_le (sf_7_0 g_6).2.2 hN) (by decide) rfl rfl ⟨Nat.le_of_ble_eq_true rfl, Nat.le_of_ble_eq_true rfl⟩ ⟨Nat.zero_le _, Nat.zero_le _⟩ (As := [.int x1]) (st := []) rfl (Nat.le_of_ble_eq_true rfl) (dOk_at dt_X9_claim 33 rfl) (fun v_7 h_8 _ => ?_)
          exact j_iretX hC hret (dOk_at dt_X9_claim 34 rfl)
        exact j_none
      · refine j_tswOut hC (tgt := 96) q (by decide) (dOk_at dt_X9_claim 10 rfl) ?_
        exact j_thr2 hl hX hC hno
    · exact j_thr1 hl hX hC hno
  exact J r hr hsp s.heap [] _ hu5 va_S.rf hle
