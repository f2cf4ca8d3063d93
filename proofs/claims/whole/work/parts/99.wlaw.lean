/-! StrawMenLaw.claim with its two handlers; the law's call of it. -/
theorem sm1 {w : Cond} (h : w ∈ tables_1_1) : w ∈ lw_tbl := List.mem_append_right _ (show w ∈ tables_1 from List.mem_append_left _ h)
theorem sm6 {w : Cond} (h : w ∈ tables_1_6) : w ∈ lw_tbl := List.mem_append_right _ (show w ∈ tables_1 from List.mem_append_right _ (List.mem_append_right _ (List.mem_append_right _ (List.mem_append_right _ (List.mem_append_right _ (List.mem_append_left _ h))))))
set_option maxRecDepth 20000 in
theorem pr_X {args : Array Value} {s : State} (hq : (Jvm.Cond.and given_1 narrow_1).before args s = true) (hts : ∀ w ∈ lw_tbl, w.before args s = true) : jXp s := by
  obtain ⟨a1, c1, cA1, kA1, q1, -⟩ := Cond.exactly_spec (args := args) (first := s) (o := none) (s := s) (idx := []) (t := .string "StrawMen" 134) (cls := "java/lang/String") ((show (.exactly (.string "StrawMen" 134) "java/lang/String" : Cond).before args s = true from (andR (andR (andR (andL (andR (andL (andR (andR (andR hq)))))))))))
  obtain ⟨a2, c2, cA2, kA2, q2, -⟩ := Cond.exactly_spec (args := args) (first := s) (o := none) (s := s) (idx := []) (t := .string "StrawMen" 153) (cls := "java/lang/String") ((show (.exactly (.string "StrawMen" 153) "java/lang/String" : Cond).before args s = true from (andL (andL (andR (andR (andL (andR (andR (andR (andR hq)))))))))))
  have al : s.vm.Alike s.vm := Vm.Alike.refl _
  refine ⟨⟨a1, vk_R.of (A := args) (hts _ (sm6 (List.mem_of_getElem? (i := 138) rfl))) q1⟩, ⟨a2, vk_R.of (A := args) (hts _ (sm6 (List.mem_of_getElem? (i := 177) rfl))) q2⟩, ?_, ?_, ?_, ?_, ?_⟩
  · exact vx_Zqof (args := args) (hts _ (sm6 (List.mem_of_getElem? (i := 125) rfl))) (hts _ (sm1 (List.mem_of_getElem? (i := 17) rfl))) (show (.isRef (.static "java/lang/Throwable" "UNASSIGNED_STACK" "[Ljava/lang/StackTraceElement;") : Cond).before args s = true from (andR (andR (andL (andR (andR (andL (andL (andL (andR hq)))))))))) pr_A
  · exact vx_Zqof (args := args) (hts _ (sm6 (List.mem_of_getElem? (i := 127) rfl))) (hts _ (sm1 (List.mem_of_getElem? (i := 17) rfl))) (show (.isRef (.static "java/lang/Throwable" "SUPPRESSED_SENTINEL" "Ljava/util/List;") : Cond).before args s = true from (andL (andL (andR (andR (andR (andL (andL (andL (andR hq)))))))))) pr_A
  · exact va_Nc.of (args := args) (show (Cond.not (.castable "java/util/NoSuchElementException" "java/lang/IndexOutOfBoundsException")).before args s = true from (andL (andR (andL (andR (andL (andR (andL (andL (andR hq))))))))))
  · exact vx_c (al_cast (A := args) al (hts _ (sm6 (List.mem_of_getElem? (i := 100) rfl)))) (vx_c (al_decl (A := args) al (hts _ (sm6 (List.mem_of_getElem? (i := 102) rfl)))) (vx_c (al_decl (A := args) al (hts _ (sm6 (List.mem_of_getElem? (i := 104) rfl)))) (vx_c (al_decl (A := args) al (hts _ (sm6 (List.mem_of_getElem? (i := 106) rfl)))) vx_n)))
  · exact vx_c (al_cast (A := args) al (hts _ (sm6 (List.mem_of_getElem? (i := 170) rfl)))) (vx_c (al_decl (A := args) al (hts _ (sm6 (List.mem_of_getElem? (i := 102) rfl)))) (vx_c (al_decl (A := args) al (hts _ (sm6 (List.mem_of_getElem? (i := 104) rfl)))) (vx_c (al_decl (A := args) al (hts _ (sm6 (List.mem_of_getElem? (i := 106) rfl)))) vx_n)))
def tb_L_claim : List (Nat × Instr × Nat) := [(0, .aload_n 3, 1), (1, .iconst 0, 1), (2, .aload_n 0, 1), (3, .iload_n 1, 1), (4, .iload_n 2, 1), (5, .invokevirtual 7, 3), (8, .i2l, 1), (9, .lastore, 1), (10, .goto 11, 3), (13, .astore 4, 2), (15, .iconst 1, 1), (16, .ireturn, 1), (17, .astore 4, 2), (19, .iconst 2, 1), (20, .ireturn, 1), (21, .iconst 0, 1), (22, .ireturn, 1)]
theorem dt_L_claim : dOk cL_claim tb_L_claim = true := by decide +kernel
def hhL : List (Nat × Nat × Nat × Nat) := [(0, 10, 13, 13), (0, 10, 17, 15)]
theorem cwL : Cond.codeWith yL_claim cL_claim 5 (some .int) hhL ∈ TW := sg6 (List.mem_of_getElem? (i := 91) rfl) rfl
theorem klL_13 : Cond.classLink RL 13 "java/lang/IndexOutOfBoundsException" ∈ TW := sg6 (List.mem_of_getElem? (i := 92) rfl) rfl
theorem klL_15 : Cond.classLink RL 15 "java/util/NoSuchElementException" ∈ TW := sg6 (List.mem_of_getElem? (i := 93) rfl) rfl
def rmL : Room := { frames := 9, cells := 1, slots := 6, locals := 1024 }
/-- StrawMenLaw.claim, by what StrawMen.claim does -/
def fL2 (h : Hp) (x1 x2 : Int32) : Option (Int32 × Hp) := (fC_claim h x1 x2).bind (fun r => if r.2.2 = 0 then (if inb 0 1 then some ((0 : Int32), uJ r.2.1 152 (0 : Int32).toNatClampNeg r.1.toInt64) else none) else some ((if r.2.2 = 1 then (1 : Int32) else 2), r.2.1))
theorem inT_3 {x : Int32} (h : inT x 0 3 = true) (h0 : ¬ x = 0) (h1 : ¬ x = 1) (h2 : ¬ x = 2) : x = 3 := by
  obtain ⟨ha, hb⟩ := of_decide_eq_true h
  have n0 : x.toInt ≠ 0 := fun e => h0 (Int32.toInt_inj.mp e)
  have n1 : x.toInt ≠ 1 := fun e => h1 (Int32.toInt_inj.mp e)
  have n2 : x.toInt ≠ 2 := fun e => h2 (Int32.toInt_inj.mp e)
  have n3 : x.toInt = 3 := by omega
  exact Int32.toInt_inj.mp n3
theorem fL2_of {h : Hp} {x1 x2 : Int32} {r : Int32 × Hp} (hr : fL_claim h x1 x2 = some r) : fL2 h x1 x2 = some r := by
  unfold fL_claim at hr
  obtain ⟨⟨v, h1⟩, e1, hr⟩ := Option.bind_eq_some_iff.mp hr
  dsimp only at hr
  unfold fL2 fC_claim bnd
  rw [e1, Option.bind_some]
  dsimp only
  by_cases hv : v = 0
  · rw [if_pos hv] at hr ⊢
    exact hr
  · rw [if_neg hv] at hr ⊢
    by_cases ht : inT x2 0 3 = true
    · rw [if_pos ht] at hr ⊢
      obtain ⟨z, ez, hr⟩ := Option.bind_eq_some_iff.mp hr
      rw [ez]
      simp only [Option.bind_some]
      by_cases k0 : x2 = 0
      · rw [if_pos k0] at hr ⊢
        obtain ⟨⟨w, h2⟩, e2, hr⟩ := Option.bind_eq_some_iff.mp hr
        rw [e2]
        exact hr
      rw [if_neg k0] at hr ⊢
      by_cases k1 : x2 = 1
      · rw [if_pos k1] at hr ⊢
        obtain ⟨⟨w, h2⟩, e2, hr⟩ := Option.bind_eq_some_iff.mp hr
        rw [e2]
        exact hr
      rw [if_neg k1] at hr ⊢
      by_cases k2 : x2 = 2
      · rw [if_pos k2] at hr ⊢
        obtain ⟨⟨w, h2⟩, e2, hr⟩ := Option.bind_eq_some_iff.mp hr
        rw [e2]
        exact hr
      rw [if_neg k2] at hr ⊢
      rw [if_pos (inT_3 ht k0 k1 k2)]
      obtain ⟨⟨w, h2⟩, e2, hr⟩ := Option.bind_eq_some_iff.mp hr
      rw [e2]
      exact hr
    · rw [if_neg ht] at hr ⊢
      exact hr
/-- it throws nothing -/
def xNo (sb : State) : String → State → State → Prop := vx_X (fun (_ : Unit) => False) (fun _ _ _ => True) (jA sb)
def xL (below : List Frame) (args : Array Value) (s sb : State) (D : va_G) (ids : Nat → ClassId) : Int32 × Hp → State → Prop := fun r => vx_MQ below (jQi sb D ids shp St 153 r) (xNo sb) args s 1 6 (jA sb)
section WL
variable {p : Program} {l : Launch} {e : Env} {s : State} {m : MethodId} {args : Array Value} {below : List Frame} {meth : Method} {c : Code} {sb : State} {D : va_G} {ids : Nat → ClassId} {h : Hp} {lv : List (Nat × Value)} {st : List Value}
theorem j_lastO {ρ : Type} {R : Room} {cc : ByteArray} {own : String} {nL pc kc ks : Nat} {Q : ρ → State → Prop} {o : Option ρ} {i : Int32} {x : Int64} (hC : jC p s m args meth c cc own nL sb D ids) (hd : decode cc pc = .ok (.lastore, 1)) (kk : jJ p l e R s m args below meth c nL sb D ids shp St Q 153 kc ks (uJ h 152 i.toNatClampNeg x) (pc + 1) lv st o) : jJ p l e R s m args below meth c nL sb D ids shp St Q 153 kc ks h pc lv (.long x :: .int i :: .ref 152 :: st) (if inb i 1 then o else none) := by
  intro r hr hsp H locs ls hP hS hl
  have hs : shp 152 = (25, 1) := rfl
  by_cases hi : inb i 1 = true
  · rw [if_pos hi] at hr
    obtain ⟨hx, hb, -, -, -, -, hK, -⟩ := hC
    refine va_last hx hb hK hP wls_D hS 152 2 (n := 1) (f := fun i => hJ h 152 i) (by rw [wls_get (by decide), cel_out hs]) rfl (inb_in hi) hd (fun H1 locs1 hP1 hD1 hS1 => ?_)
    refine kk r hr (St_SP.2 _ _ _ _ hsp) H1 locs1 ls ?_ hS1 hl
    rw [wls_set (h' := uJ h 152 i.toNatClampNeg x) ?_ (fun y hy => cel_uJ_ne hy)] at hP1
    · exact hP1
    · rw [cel_out hs]
      congr 5
      funext j
      rw [hJ_uJ]
      unfold vp_updL
      simp
  · rw [if_neg hi] at hr; cases hr
theorem j_iretL {pc : Nat} {v : Int32} (hC : jC p s m args meth c cL_claim RL 5 sb D ids) (hr : meth.sig.returnType = some .int) (hd : decode cL_claim pc = .ok (.ireturn, 1)) : jJ p l e rmL s m args below meth c 5 sb D ids shp St (xL below args s sb D ids) 153 1 6 h pc lv [.int v] (some (v, h)) := by
  intro r hr0 hsp H locs ls hP hS hle
  cases hr0
  obtain ⟨hx, hb, hml, hown, hts, hlocks, -⟩ := hC
  refine vx_ret ?_
  exact W.iret (v := v) hx hb hr (fun t ht hW => ⟨⟨v, (), rfl, rfl, by rw [ht]; exact hP, hsp⟩, hS.F ht⟩) hS.2.2 hd
theorem j_catL {H1 : Heap} {locs1 : List Loc} {ls : Array Slot} {q9 : Nat} {k : Int} {v : Int32} {p0 : Nat} (hC : jC p s m args meth c cL_claim RL 5 sb D ids) (hr : meth.sig.returnType = some .int) (d0 : decode cL_claim p0 = .ok (.astore 4, 2)) (d1 : decode cL_claim (p0 + 2) = .ok (.iconst k, 1)) (d2 : decode cL_claim (p0 + 2 + 1) = .ok (.ireturn, 1)) (hv : Int32.ofInt k = v) (hsp : St h) (hP : va_P D vwCl (wls ids shp sb.heap.size 153 h) H1) (hS : va_S (jA sb) s.heap H1 locs1) (hle : lv_has ls 5 (mvL sb.heap.size lv)) : W p l e rmL s m args below meth c H1 locs1 1 6 (xL below args s sb D ids (v, h)) (F0 m p0 ls [.ref q9]) := by
  obtain ⟨hx, hb, hml, hown, hts, hlocks, -⟩ := hC
  refine lv_astore hx hb d0 hle (by decide) rfl (fun ls' hl' => ?_)
  refine lv_iconst hx hb d1 hv ?_
  refine vx_ret ?_
  exact W.iret (v := v) hx hb hr (fun t ht hW => ⟨⟨v, (), rfl, rfl, by rw [ht]; exact hP, hsp⟩, hS.F ht⟩) hS.2.2 d2
end WL
set_option maxHeartbeats 4000000 in
theorem c_L_claim {l : Launch} {sb : State} {D : va_G} {ids : Nat → ClassId} (hl : l.stackTraces = false) (hX : jXp sb) (h : Hp) (x1 x2 : Int32) (r : Int32 × Hp) (hr : fL2 h x1 x2 = some r) : vx_Met l yL_claim (Cond.codeWith yL_claim cL_claim 5 (some .int) hhL :: TW) rmL (va_Pc (mvS sb.heap.size [.ref 0, .int x1, .int x2, .ref 152]) (fun U => jU sb D ids shp 153 h U ∧ St h)) (jQi sb D ids shp St 153 r) (xNo sb) 1 6 (jA sb) := by
  refine vx_ofWH (cc := cL_claim) (maxL := 5) (ret := some .int) (hh := hhL) rfl rfl ?_
  intro p e s m args below meth c s₁ B hml hv
  obtain ⟨rfl, ⟨hu1, hu2, hu3, hu4, hu6, hu5⟩, hsp⟩ := hv
  have hts := atoms_spec (ws := Cond.codeWith yL_claim cL_claim 5 (some .int) hhL :: TW) B.pre
  have htab : c.exceptionTable.toList = tableOf hhL   := vx_table (x := yL_claim) B (hts _ List.mem_cons_self)
  have hown : s.vm.findClass yL_claim.cls = some m.cls := findClass_of_methodNamed B.named
  have hle := lv_entry (mvS sb.heap.size [.ref 0, .int x1, .int x2, .ref 152]) (n := 5) (by rw [lg_sl_mv]; exact Nat.le_of_ble_eq_true rfl)
  rw [lg_entry_eq]
  rw [lv_args_mv] at hle
  generalize hA : (mvS sb.heap.size [.ref 0, .int x1, .int x2, .ref 152]).toArray = A at *
  have hC : jC p s m A meth c cL_claim RL 5 sb D ids := ⟨B.exec, B.bytes, hml, hown, fun w hw => hts w (List.mem_cons_of_mem _ hw), B.notSynchronized, hu4, hu1, hu2, hu3, hu6⟩
  have hret := B.returns
  have J2 : ∀ (w : Int32) (h1 : Hp) (lv : List (Nat × Value)), jJ p l e rmL s m A below meth c 5 sb D ids shp St (xL below A s sb D ids) 153 1 6 h1 8 lv [.int w, .int 0, .ref 152] (if inb 0 1 then some ((0 : Int32), uJ h1 152 (0 : Int32).toNatClampNeg w.toInt64) else none) := by
    intro w h1 lv
    refine j_i2l hC (dOk_at dt_L_claim 6 rfl) ?_
    refine j_lastO hC (dOk_at dt_L_claim 7 rfl) ?_
    refine j_goto hC (tgt := 21) (by decide) (dOk_at dt_L_claim 8 rfl) ?_
    refine j_iconst hC (v := 0) rfl (dOk_at dt_L_claim 15 rfl) ?_
    exact j_iretL hC hret (dOk_at dt_L_claim 16 rfl)
  have J : jJ p l e rmL s m A below meth c 5 sb D ids shp St (xL below A s sb D ids) 153 0 0 h 0 (lv_args 0 [.ref 0, .int x1, .int x2, .ref 152]) [] (fL2 h x1 x2) := by
    refine j_aload_n hC 3 rfl rfl (dOk_at dt_L_claim 0 rfl) ?_
    refine j_iconst hC (v := 0) rfl (dOk_at dt_L_claim 1 rfl) ?_
    refine j_aload_n hC 0 rfl rfl (dOk_at dt_L_claim 2 rfl) ?_
    refine j_iload_n hC 1 rfl rfl (dOk_at dt_L_claim 3 rfl) ?_
    refine j_iload_n hC 2 rfl rfl (dOk_at dt_L_claim 4 rfl) ?_
    intro r hr hsp H locs ls hP hS hle
    obtain ⟨r0, hfo, hr⟩ := Option.bind_eq_some_iff.mp hr
    have hPc := jPc_at hC hsp hP hS
    have hC9 := hC
    obtain ⟨hx, hb, hml, hown, hts, hlocks, hK, hg1, hg2, hg3, hg4⟩ := hC
    obtain ⟨w1, w2, w3, w4, w5, w6⟩ := clL_7
    refine vx_calli (vx_runV (S := ⟨hx, hb, hml, hown, hts⟩) (c_X9_claim hl hX (by decide) h x1 x2 r0 hfo) (C := yX9_claim.cls) (b := sb.heap.size + 0) (As := mvS sb.heap.size [.int x1, .int x2]) (rest := mvS sb.heap.size [.int 0, .ref 152]) (n := 2) ⟨callB_of 2 hts (jws_good w5) rfl rfl rfl (hts _ w4) (hts _ w1) w6 ⟨by decide, by decide⟩, hts _ w2, hts _ w3⟩ ⟨jPc_blind, ?_, fun U hU hW => ⟨rfl, hPc U hU hW⟩⟩ rfl rfl hle.1 rfl (lv_room (by rw [mvS_cat]; decide)) (dOk_at dt_L_claim 5 rfl) ⟨by decide, by decide⟩) hS (fun q _ h => h) (fun q h => h) (fun q _ h => h) ?_ ?_
    · exact va_recv hK hP (show vwCl[9]? = some _ from rfl) (q0 := 0) (fs := (List.range 12).map (fun k => fvl sb.heap.size h (tyC 9 k) 0 k)) (by rw [wls_get (by decide), cel_obj (show shp 0 = (9, 12) from rfl) (by decide)])
    · intro E ce q9 u t H1 locs1 ht hvm hpx hbx hz1 hk1 hS1 hcell hcv hcl
      obtain ⟨r1, h1, k⟩ := r0
      have hpx : k ≠ 0 := hpx
      obtain ⟨rfl, hP1, hsp1⟩ : E = xE k ∧ va_P D vwCl (wls ids shp sb.heap.size 153 h1) t.heap ∧ St h1 := hbx
      rw [ht] at hP1
      have hr : (if k = 0 then (if inb 0 1 then some ((0 : Int32), uJ h1 152 (0 : Int32).toNatClampNeg r1.toInt64) else none) else some ((if k = 1 then (1 : Int32) else 2), h1)) = some r := hr
      rw [if_neg hpx] at hr
      by_cases k1 : k = 1
      · subst k1
        cases hr
        exact vx_catch (own := RL) (name := "java/lang/IndexOutOfBoundsException") (E := "java/lang/IndexOutOfBoundsException") hown [] ⟨0, 10, 13, 13⟩ [⟨0, 10, 17, 15⟩] htab (fun z hz => nomatch hz) rfl (by decide) (hts _ klL_13) (al_cast hg3 (hX.2.2.2.2.2.1 _ (List.mem_of_getElem? (i := 0) rfl))) hcell hcv hcl (j_catL hC9 hret (dOk_at dt_L_claim 9 rfl) (dOk_at dt_L_claim 10 rfl) (dOk_at dt_L_claim 11 rfl) rfl hsp1 hP1 hS1 hle)
      · rw [if_neg k1] at hr
        cases hr
        have hE : xE k = "java/util/NoSuchElementException" := if_neg k1
        rw [hE] at hcl
        refine vx_catch (own := RL) (name := "java/util/NoSuchElementException") (E := "java/util/NoSuchElementException") hown [⟨0, 10, 13, 13⟩] ⟨0, 10, 17, 15⟩ [] htab (fun z hz => ?_) rfl (by decide) (hts _ klL_15) (al_cast hg3 (hX.2.2.2.2.2.2 _ (List.mem_of_getElem? (i := 0) rfl))) hcell hcv hcl (j_catL hC9 hret (dOk_at dt_L_claim 12 rfl) (dOk_at dt_L_claim 13 rfl) (dOk_at dt_L_claim 14 rfl) rfl hsp1 hP1 hS1 hle)
        rw [List.mem_singleton.mp hz]
        exact Or.inr ⟨by decide, _, hts _ klL_13, va_Nc.moved hg3 hX.2.2.2.2.1⟩
    · intro v u t H1 locs1 ht hvm hw hB hz1 hk1 hS1
      obtain ⟨r1, h1, k⟩ := r0
      obtain ⟨rfl, rfl⟩ : v = r1 ∧ k = 0 := hw
      have hB : va_P D vwCl (wls ids shp sb.heap.size 153 h1) t.heap ∧ St h1 := hB
      rw [ht] at hB
      exact J2 v h1 _ r hr hB.2 H1 locs1 ls hB.1 hS1 hle
  exact J r hr hsp s.heap [] _ hu5 va_S.rf hle
theorem gwL : GoodIn TW (va_wsS RL 39 yL_claim (Cond.codeWith yL_claim cL_claim 5 (some .int) hhL :: TW)) := fun w hw => by
  unfold va_wsS at hw
  rcases List.mem_append.mp hw with hw | hw
  · refine TW_good _ ?_
    rcases List.mem_cons.mp hw with rfl | hw
    · exact sg6 (List.mem_of_getElem? (i := 89) rfl) rfl
    rcases List.mem_cons.mp hw with rfl | hw
    · exact sg6 (List.mem_of_getElem? (i := 90) rfl) rfl
    rcases List.mem_cons.mp hw with rfl | hw
    · exact sg1 (List.mem_of_getElem? (i := 0) rfl) rfl
    · cases hw
  · rcases List.mem_cons.mp hw with rfl | hw
    · exact TW_good _ cwL
    · exact TW_good _ hw
set_option maxHeartbeats 4000000 in
theorem jLc_of {l : Launch} {s : State} {D : va_G} {ids : Nat → ClassId} (hl : l.stackTraces = false) (hX : jXp s) : jLc l s D ids := by
  intro p e m args below meth c nL Q kc ks pc h x1 x2 lv st kf hC h1 h2 hcat hd kk r hr hsp H locs ls hP hS hle
  obtain ⟨r0, hfo, hr⟩ := Option.bind_eq_some_iff.mp hr
  have hPc := jPc_at hC hsp hP hS
  obtain ⟨hx, hb, hml, hown, hts, hlocks, hK, hg1, hg2, hg3⟩ := hC
  refine vx_calli (vx_runSX (S := ⟨hx, hb, hml, hown, hts⟩) (c_L_claim hl hX h x1 x2 r0 (fL2_of hfo)) (As := mvS s.heap.size [.ref 0, .int x1, .int x2, .ref 152]) (rest := mvS s.heap.size st) (n := 4) (vx_cwSW 4 hts gwL rfl rfl rfl ⟨by decide, by decide, by decide +kernel⟩ ⟨Nat.le_of_ble_eq_true rfl, Nat.le_of_ble_eq_true rfl⟩) ⟨jPc_blind, fun U hU hW => ⟨rfl, hPc U hU hW⟩⟩ rfl rfl hle.1 rfl (lv_room (by rw [mvS_cat]; exact hcat)) hd ⟨Nat.le_trans (Nat.add_le_add_left (by decide) kc) h1, Nat.le_trans (Nat.add_le_add_left (by decide) ks) h2⟩) hS (fun q _ h => h) (fun q h => h) (fun q _ h => h) (fun E ce q9 u t H1 locs1 ht hvm hpx => False.elim hpx) (fun v u t H1 locs1 ht hvm hw hB hz1 hk1 hS1 => ?_)
  obtain ⟨r1, h1'⟩ := r0
  have hw : v = r1 := hw
  subst hw
  have hB : va_P D vwCl (wls ids shp s.heap.size 153 h1') t.heap ∧ St h1' := hB
  refine W.widen (k := kc + 8) (n := ks + 64) (Nat.add_le_add_left (by decide) kc) (Nat.add_le_add_left (by decide) ks) ?_
  exact kk v h1' hfo r hr hB.2 H1 locs1 ls (by rw [← ht]; exact hB.1) hS1 hle
