/-! What holds at the law's entry; whole_start out of the pure answer. Printed by wip/whole/gen_prem.py. -/
def ntm : Term := .field (.string "StrawMen$Reader" 44) "java/lang/String" "value" "[B"
theorem nr_words : ∀ j, j < 138 → (flatC (Jvm.Cond.and given_1 narrow_1))[55 + j]? = some (Cond.eq (.elem ntm (.int (Int32.ofNat j))) (.int (wrd j))) := by decide +kernel
theorem nr_signs : ∀ j, j < 13 → (flatC (Jvm.Cond.and given_1 narrow_1))[12 + j]? = some (Cond.eq (.elem (.static "StrawMen" "SIGN_LEVELS" "[I") (.int (Int32.ofNat j))) (.int (slv j))) := by decide +kernel
section PRM
variable {args : Array Value} {s : State} (hq : ∀ c ∈ flatC (Jvm.Cond.and given_1 narrow_1), c.before args s = true) (hts : ∀ w ∈ lw_tbl, w.before args s = true)
theorem pr_A : ∀ a : Nat, a < s.heap.size → ¬ jA s a := fun a h => Nat.not_le.mpr h
theorem pr_G : jG s := by
  obtain ⟨t, ht, hT⟩ := va_Tof (tm := .static "StrawMen" "SIGN_LEVELS" "[I") (ty := .int) (N := 13) (f := fun j => .int (slv j)) (A := jA s) (by decide) (hq (.arrayOf (.static "StrawMen" "SIGN_LEVELS" "[I") .int) (List.mem_of_getElem? (i := 10) (by decide +kernel))) (va_eqt (hq (.eq (.length (.static "StrawMen" "SIGN_LEVELS" "[I")) (.int 13)) (List.mem_of_getElem? (i := 11) (by decide +kernel)))) (fun j hj => va_eqt (hq _ (List.mem_of_getElem? (nr_signs j hj)))) pr_A
  exact ⟨t, va_Zref (hts _ (List.mem_append_right _ (show _ ∈ tables_1 from (List.mem_append_right _ (List.mem_append_right _ (List.mem_append_right _ (List.mem_append_left _ (List.mem_of_getElem? (i := 8) rfl)))))))) (hts _ (List.mem_append_right _ (show _ ∈ tables_1 from (List.mem_append_left _ (List.mem_of_getElem? (i := 1) rfl))))) ht pr_A, hT⟩
theorem pr_S : jS s := by
  obtain ⟨a, c, cA, kA, q1, q2, q3, q4, q5, q6, -⟩ := Cond.exactly_spec (args := args) (first := s) (o := none) (s := s) (idx := []) (t := .string "StrawMen$Reader" 44) (cls := "java/lang/String") (hq (.exactly (.string "StrawMen$Reader" 44) "java/lang/String") (List.mem_of_getElem? (i := 51) (by decide +kernel)))
  obtain ⟨t, ht, hT⟩ := va_Tof (tm := ntm) (ty := .byte) (N := 138) (f := fun j => .int (wrd j)) (A := jA s) (by decide) (hq (.arrayOf ntm .byte) (List.mem_of_getElem? (i := 53) (by decide +kernel))) (va_eqt (hq (.eq (.length ntm) (.int 138)) (List.mem_of_getElem? (i := 54) (by decide +kernel)))) (fun j hj => va_eqt (hq _ (List.mem_of_getElem? (nr_words j hj)))) pr_A
  refine ⟨a, t, vk_R.of (A := args) (hts _ (List.mem_append_right _ (show _ ∈ tables_1 from (List.mem_append_left _ (List.mem_of_getElem? (i := 237) rfl))))) q1, ⟨cA, q3, q5, by rw [q6]; exact q2, pr_A a (Array.getElem?_eq_some_iff.mp q3).1⟩, vk_OFof q1 (va_eqt (hq (.eq (.field (.string "StrawMen$Reader" 44) "java/lang/String" "coder" "B") (.int 0)) (List.mem_of_getElem? (i := 52) (by decide +kernel)))) pr_A, vk_OFof q1 ht pr_A, hT, ?_, ?_⟩
  · exact va_Zof (hts _ (List.mem_append_right _ (show _ ∈ tables_1 from (List.mem_append_right _ (List.mem_append_left _ (List.mem_of_getElem? (i := 7) rfl)))))) (hts _ (List.mem_append_right _ (show _ ∈ tables_1 from (List.mem_append_left _ (List.mem_of_getElem? (i := 7) rfl))))) (va_eqi (hq (.eq (.static "java/lang/String" "COMPACT_STRINGS" "Z") (.int 1)) (List.mem_of_getElem? (i := 4) (by decide +kernel)))) pr_A
  · exact va_Zqof (hts _ (List.mem_append_right _ (show _ ∈ tables_1 from (List.mem_append_right _ (List.mem_append_left _ (List.mem_of_getElem? (i := 23) rfl)))))) (hts _ (List.mem_append_right _ (show _ ∈ tables_1 from (List.mem_append_left _ (List.mem_of_getElem? (i := 9) rfl))))) (hq (.isRef (.static "jdk/internal/util/Preconditions" "SIOOBE_FORMATTER" "Ljava/util/function/BiFunction;")) (List.mem_of_getElem? (i := 5) (by decide +kernel))) pr_A
theorem pr_AO : va_AO "StrawMen$Law" s := va_AO.of (hts _ (List.mem_append_right _ (show _ ∈ tables_1 from (List.mem_append_left _ (List.mem_of_getElem? (i := 109) rfl)))))
theorem pr_N : va_Nw nestW s := va_Nw.of rfl (hts nestW (List.mem_append_right _ (show _ ∈ tables_1 from (List.mem_append_right _ (List.mem_append_right _ (List.mem_append_right _ (List.mem_append_left _ (List.mem_of_getElem? (i := 7) rfl))))))))
theorem pr_arr {ty : FieldType} (h : (Cond.arrayClass ty).before args s = true) (hn : ∀ C, ty ≠ .object C) : ∃ cA : ClassId, ArrOfT s cA ty ∧ va_RA s cA ty := by
  obtain ⟨cA, kA, comp, h1, h2, h3⟩ := Cond.arrayClass_spec h
  refine ⟨cA, fun n z => ⟨fun k h => (by cases h), kA, h2, comp, h3⟩, ?_⟩
  cases ty <;> first | exact absurd rfl (hn _) | exact h1
theorem pr_ids : ∃ ids : Nat → ClassId, ∀ (k : Nat) (q : ClassId × FieldType), (jtys ids)[k]? = some q → ArrOfT s q.1 q.2 ∧ va_RA s q.1 q.2 := by
  obtain ⟨c0, a0⟩ := pr_arr (hts _ (List.mem_append_right _ (show _ ∈ tables_1 from (List.mem_append_right _ (List.mem_append_left _ (List.mem_of_getElem? (i := 98) rfl)))))) (fun C q => by cases q)
  obtain ⟨c1, a1⟩ := pr_arr (hts _ (List.mem_append_right _ (show _ ∈ tables_1 from (List.mem_append_left _ (List.mem_of_getElem? (i := 64) rfl))))) (fun C q => by cases q)
  obtain ⟨c2, a2⟩ := pr_arr (hts _ (List.mem_append_right _ (show _ ∈ tables_1 from (List.mem_append_left _ (List.mem_of_getElem? (i := 130) rfl))))) (fun C q => by cases q)
  obtain ⟨c3, a3⟩ := pr_arr (hts _ (List.mem_append_right _ (show _ ∈ tables_1 from (List.mem_append_right _ (List.mem_append_left _ (List.mem_of_getElem? (i := 228) rfl)))))) (fun C q => by cases q)
  obtain ⟨comp, c4, k4, g1, -, g2, g3, g4⟩ := Cond.arrayOver_spec (hts (.arrayOver (.object "StrawMen$Law")) (List.mem_append_right _ (show _ ∈ tables_1 from (List.mem_append_left _ (List.mem_of_getElem? (i := 109) rfl)))))
  refine ⟨fun k => if k = 20 then c0 else if k = 21 then c1 else if k = 22 then c2 else if k = 23 then c3 else c4, fun k q hk => ?_⟩
  match k, hk with
  | 0, hk => cases hk; exact a0
  | 1, hk => cases hk; exact a1
  | 2, hk => cases hk; exact a2
  | 3, hk => cases hk; exact a3
  | 4, hk => cases hk; exact ⟨fun n z => ⟨fun k h => (by cases h), k4, g2, comp, g3⟩, k4, comp, g2, g3, g1, g4⟩
  | k + 5, hk => simp [jtys] at hk
end PRM
theorem TW_lw {w : Cond} (h : w ∈ TW) : w ∈ lw_tbl := (List.mem_filter.mp h).1
set_option maxHeartbeats 4000000 in
/-- the law from its entry, out of the pure answer; open: the call of StrawMenLaw.claim -/
theorem whole_start_open {p : Program} {e : Env} {s : State} {m : MethodId} {below : List Frame} {meth : Method} {c : Code} (l : Launch) {b L : Nat} {xs : Nat → Int32} (hL : L ≤ 3072) (C0 : lw_At p s m meth c b L xs) (hpure : fL_law L xs = some ()) (hLc : ∀ (D : va_G) (ids : Nat → ClassId), va_K D vwCl (jtys ids) s → jLc l s D ids) : W p l e room_1 s m #[Value.ref b] below meth c s.heap [] 0 0 (lw_Z below #[Value.ref b] s) (entryFrame m ([Value.ref b] : List Value).toArray 7) := by
  obtain ⟨hx, hb, hr, hml, hown, hts, hX, hbl, hlocks, hgv⟩ := C0
  have hq := flat_of_before _ hgv
  obtain ⟨c0, iS0, hKn0⟩ := u_known (C := RX0) (T := TX0) (N := 12) (n := 12) hts (fun w h => TW_lw (uX0 w h)) (hts (.instantiable RX0 12) (List.mem_append_right _ (show _ ∈ tables_1 from (List.mem_append_left _ (List.mem_of_getElem? (i := 38) rfl)))))
  obtain ⟨c1, iS1, hKn1⟩ := u_known (C := RX1) (T := TX1) (N := 4) (n := 4) hts (fun w h => TW_lw (uX1 w h)) (hts (.instantiable RX1 4) (List.mem_append_right _ (show _ ∈ tables_1 from (List.mem_append_left _ (List.mem_of_getElem? (i := 110) rfl)))))
  obtain ⟨c2, iS2, hKn2⟩ := u_known (C := RX2) (T := TX2) (N := 7) (n := 7) hts (fun w h => TW_lw (uX2 w h)) (hts (.instantiable RX2 7) (List.mem_append_right _ (show _ ∈ tables_1 from (List.mem_append_right _ (List.mem_append_left _ (List.mem_of_getElem? (i := 199) rfl))))))
  obtain ⟨c3, iS3, hKn3⟩ := u_known (C := RX3) (T := TX3) (N := 4) (n := 4) hts (fun w h => TW_lw (uX3 w h)) (hts (.instantiable RX3 4) (List.mem_append_right _ (show _ ∈ tables_1 from (List.mem_append_right _ (List.mem_append_left _ (List.mem_of_getElem? (i := 230) rfl))))))
  obtain ⟨c4, iS4, hKn4⟩ := u_known (C := RX4) (T := TX4) (N := 8) (n := 8) hts (fun w h => TW_lw (uX4 w h)) (hts (.instantiable RX4 8) (List.mem_append_right _ (show _ ∈ tables_1 from (List.mem_append_right _ (List.mem_append_left _ (List.mem_of_getElem? (i := 167) rfl))))))
  obtain ⟨c5, iS5, hKn5⟩ := u_known (C := RX5) (T := TX5) (N := 16) (n := 16) hts (fun w h => TW_lw (uX5 w h)) (hts (.instantiable RX5 16) (List.mem_append_right _ (show _ ∈ tables_1 from (List.mem_append_left _ (List.mem_of_getElem? (i := 229) rfl)))))
  obtain ⟨c6, iS6, hKn6⟩ := u_known (C := RX6) (T := TX6) (N := 3) (n := 3) hts (fun w h => TW_lw (uX6 w h)) (hts (.instantiable RX6 3) (List.mem_append_right _ (show _ ∈ tables_1 from (List.mem_append_left _ (List.mem_of_getElem? (i := 44) rfl)))))
  obtain ⟨c7, iS7, hKn7⟩ := u_known (C := RX7) (T := TX7) (N := 20) (n := 20) hts (fun w h => TW_lw (uX7 w h)) (hts (.instantiable RX7 20) (List.mem_append_right _ (show _ ∈ tables_1 from (List.mem_append_left _ (List.mem_of_getElem? (i := 32) rfl)))))
  obtain ⟨c8, iS8, hKn8⟩ := u_known (C := RX8) (T := TX8) (N := 15) (n := 15) hts (fun w h => TW_lw (uX8 w h)) (hts (.instantiable RX8 15) (List.mem_append_right _ (show _ ∈ tables_1 from (List.mem_append_right _ (List.mem_append_left _ (List.mem_of_getElem? (i := 100) rfl))))))
  obtain ⟨c9, iS9, hKn9⟩ := u_known (C := RX9) (T := TX9) (N := 12) (n := 12) hts (fun w h => TW_lw (uX9 w h)) (hts (.instantiable RX9 12) (List.mem_append_right _ (show _ ∈ tables_1 from (List.mem_append_left _ (List.mem_of_getElem? (i := 24) rfl)))))
  obtain ⟨c10, iS10, hKn10⟩ := u_known (C := RX10) (T := TX10) (N := 88) (n := 88) hts (fun w h => TW_lw (uX10 w h)) (hts (.instantiable RX10 88) (List.mem_append_right _ (show _ ∈ tables_1 from (List.mem_append_right _ (List.mem_append_right _ (List.mem_append_right _ (List.mem_append_right _ (List.mem_append_right _ (List.mem_append_left _ (List.mem_of_getElem? (i := 184) rfl))))))))))
  obtain ⟨dC, dI, hKc⟩ : ∃ (dC : Nat → ClassId) (dI : Nat → Nat → Nat), ∀ (k : Nat) (q : vw_C), vwCl[k]? = some q → u_Kn s q.1 q.2.1 q.2.2 (dC k) (dI k) := by
    refine ⟨fun k => if k = 0 then c0 else if k = 1 then c1 else if k = 2 then c2 else if k = 3 then c3 else if k = 4 then c4 else if k = 5 then c5 else if k = 6 then c6 else if k = 7 then c7 else if k = 8 then c8 else if k = 9 then c9 else c10, fun k => if k = 0 then iS0 else if k = 1 then iS1 else if k = 2 then iS2 else if k = 3 then iS3 else if k = 4 then iS4 else if k = 5 then iS5 else if k = 6 then iS6 else if k = 7 then iS7 else if k = 8 then iS8 else if k = 9 then iS9 else iS10, ?_⟩
    intro k q hq
    match k, hq with
    | 0, hq => cases hq; exact hKn0
    | 1, hq => cases hq; exact hKn1
    | 2, hq => cases hq; exact hKn2
    | 3, hq => cases hq; exact hKn3
    | 4, hq => cases hq; exact hKn4
    | 5, hq => cases hq; exact hKn5
    | 6, hq => cases hq; exact hKn6
    | 7, hq => cases hq; exact hKn7
    | 8, hq => cases hq; exact hKn8
    | 9, hq => cases hq; exact hKn9
    | 10, hq => cases hq; exact hKn10
    | k + 11, hq => simp [vwCl] at hq
  obtain ⟨ids, hids⟩ := pr_ids hts
  have hK : va_K (dC, dI) vwCl (jtys ids) s := ⟨hKc, hids⟩
  have hC : jC p s m #[Value.ref b] meth c code RL 7 s (dC, dI) ids := ⟨hx, hb, hml, hown, fun w hw => hts w (TW_lw hw), hlocks, hK, Nat.le_refl _, fun _ _ => rfl, Vm.Alike.refl _, pr_N hts, fun _ _ _ _ h => h⟩
  obtain ⟨scr, h1, h2, h3, h4, h5⟩ := hX
  have hT : va_T .int b L (fun j => .int (xs j)) (jA s) s s.heap := ⟨scr, h1, h2, h3, Nat.le_of_eq h4.symm, by rw [h4]; rfl, h5, Nat.not_le.mpr hbl⟩
  have k := cL_start (l := l) (e := e) (below := below) hC (pr_G hq hts) hT (hLc _ _ hK) (pr_S hq hts) (pr_AO hts) hr hL () hpure h00_Zr s.heap [] _ (fun k q h => by simp [wls] at h) va_S.rf (show lv_has _ 7 (mvL s.heap.size [(0, .retAddr b)]) from lv_entry ([.ref b]) (n := 7) (Nat.le_of_ble_eq_true rfl))
  rw [lg_entry_eq]
  exact k
