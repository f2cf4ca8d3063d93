/-! THE CLAIM OUT OF ONE WALK OF THE LAW'S BODY. Your part is whole_start (and what it stands on); all else here is the same for every law, but numbers. -/
def R_law : String := "StrawMenLaw"
def lw_P (b : Addr) (xs : List Int32) (args : Array Value) (s : State) : Prop := args = #[.ref b] ∧ s.IntsAt b xs ∧ xs.length ≤ 3072 ∧ (Jvm.Cond.and given_1 narrow_1).before args s = true
def lw_Q (_ : Array Value) (s : State) (o : Outcome) (t : State) : Prop := o = .returned (some (.int 1)) ∧ Framed s o t [] 601024 7293033
def lw_Z (below : List Frame) (a : Array Value) (s : State) : State → Prop := fun t => ∃ o, t.status = .running ∧ Ended t below o ∧ lw_Q a s o t
/-- the law's own end, with 1 on the stack, nothing written that was there before, its room as the claim has it -/
theorem lw_ret {p : Program} {l : Launch} {e : Env} {s : State} {m : MethodId} {below : List Frame} {meth : Method} {c : Code} {b : Nat} (hx : p.tables.exec = Jvm.exec) (hb : c.code = code) (hr : meth.sig.returnType = ret) (hlocks : meth.locks = false) {pc : Nat} {H : Heap} {ls : Array Slot} (hdg : decode code pc = .ok (.ireturn, 1)) : W p l e room_1 s m #[Value.ref b] below meth c H [] 601024 7293033 (lw_Z below #[Value.ref b] s) (F0 m pc ls [.int 1]) := by
  intro T hT X
  obtain ⟨fs, hret, hrun, hended, hW, hframe⟩ := X.leave (v := some (.int 1)) (hlocks := hlocks) (fun h => by rw [hr] at h; cases h)
  have hmeth' : T.vm.method? m = some meth := X.method'
  refine ⟨T.setFrames fs, ?_, .returned (some (.int 1)), hrun, hended, rfl, ⟨_, rfl⟩, hW, hframe⟩
  jvm_step X.here [X.here.top, hx, hb, hdg, hmeth', hr, ret, narrow_b1]
  (try refine ⟨rfl, ?_⟩); (try refine ⟨rfl, ?_⟩)
  first | (intro acts; rw [hret _ acts rfl rfl rfl]) | rw [hret _ _ rfl rfl rfl]
  exact Steps.refl _
/-- what holds at the law's entry: the machine, the code, the tables' words (any of lw_tbl by 'hts w (by decide +kernel)'), the script of L ints xs at the cell b, what the Statement gives of the start (any of its parts by flat_of_before) -/
def lw_At (p : Program) (s : State) (m : MethodId) (meth : Method) (c : Code) (b L : Nat) (xs : Nat → Int32) : Prop :=
  p.tables.exec = Jvm.exec ∧ c.code = code ∧ meth.sig.returnType = ret ∧ c.maxLocals = 7 ∧ s.vm.findClass R_law = some m.cls ∧ (∀ w ∈ lw_tbl, w.before #[Value.ref b] s = true) ∧ va_X b L xs s s.heap ∧ b < s.heap.size ∧ meth.locks = false ∧ (Jvm.Cond.and given_1 narrow_1).before #[Value.ref b] s = true
/-! Rows of the law. -/
theorem nI_6 (i : Nat) : nI i + Int32.ofInt 6 = nI (i + 6) := by
  rw [show Int32.ofInt 6 = nI 6 by decide, nI_add]
section LWR
variable {ρ : Type} {p : Program} {l : Launch} {e : Env} {R : Room} {s : State} {m : MethodId} {args : Array Value} {below : List Frame} {meth : Method} {c : Code} {cc : ByteArray} {own : String} {nL index t N : Nat} {sb : State} {D : va_G} {ids : Nat → ClassId} {sh : Nat → Nat × Nat} {SP : Hp → Prop} {Q : ρ → State → Prop} {n kc ks kc' ks' a : Nat} {h : Hp} {pc : Nat} {lv lv' : List (Nat × Value)} {st : List Value} {o : Option ρ}
theorem j_widen (h1 : kc ≤ kc') (h2 : ks ≤ ks') (k : jJ p l e R s m args below meth c nL sb D ids sh SP Q n kc' ks' h pc lv st o) : jJ p l e R s m args below meth c nL sb D ids sh SP Q n kc ks h pc lv st o := fun r hr hs H locs ls hP hS hl => W.widen h1 h2 (k r hr hs H locs ls hP hS hl)
theorem j_lald25 {i : Int32} (hC : jC p s m args meth c cc own nL sb D ids) (hs : sh a = (25, N)) (ha : a < n) (hd : decode cc pc = .ok (.laload, 1)) (kk : jJ p l e R s m args below meth c nL sb D ids sh SP Q n kc ks h (pc + 1) lv (.long (hJ h a i.toNatClampNeg) :: st) o) : jJ p l e R s m args below meth c nL sb D ids sh SP Q n kc ks h pc lv (.int i :: .ref a :: st) (if inb i N then o else none) := by
  intro r hr hsp H locs ls hP hS hl
  by_cases hi : inb i N = true
  · rw [if_pos hi] at hr
    obtain ⟨hx, hb, -, -, -, -, hK, -⟩ := hC
    refine va_lald hx hb hK hP a 2 (n := N) (f := fun i => hJ h a i) (by rw [wls_get ha, cel_out hs]) rfl (inb_in hi) hd ?_
    exact kk r hr hsp H locs ls hP hS hl
  · rw [if_neg hi] at hr; cases hr
theorem j_xialdK {f : Nat → Int32} {i : Int32} (hC : jC p s m args meth c cc own nL sb D ids) (hT : va_T .int t N (fun j => .int (f j)) (jA sb) sb sb.heap) (hi : inb i N = true) (hd : decode cc pc = .ok (.iaload, 1)) (k : jJ p l e R s m args below meth c nL sb D ids sh SP Q n kc ks h (pc + 1) lv (.int (f i.toNatClampNeg) :: st) o) : jJ p l e R s m args below meth c nL sb D ids sh SP Q n kc ks h pc lv (.int i :: .retAddr t :: st) o := by
  have k2 := j_xiald hC hT hd k
  rw [if_pos hi] at k2
  exact k2
/-- the law's own row of longs, empty -/
def zo (h : Hp) (n : Nat) : Hp := (h.1, fun x y => if x = n then 0 else h.2.1 x y, h.2.2)
theorem zo_cel {b x : Nat} {q : Nat × Nat} (hx : x ≠ n) : celE ids b q (zo h n) x = celE ids b q h x := by
  have h1 : ∀ i, hJ (zo h n) x i = hJ h x i := fun i => if_neg hx
  have h2 : ∀ i, hI (zo h n) x i = hI h x i := fun i => rfl
  have h3 : ∀ i, hR (zo h n) x i = hR h x i := fun i => rfl
  have h4 : ∀ ty i, fvl b (zo h n) ty x i = fvl b h ty x i := fun ty i => by unfold fvl; split <;> simp [h1, h2, h3]
  unfold celE
  simp [h1, h2, h3, h4]
theorem zo_wls {b : Nat} : wls ids sh b n (zo h n) = wls ids sh b n h := by
  unfold wls
  apply List.map_congr_left
  intro x hx
  rw [zo_cel (Nat.ne_of_lt (List.mem_range.mp hx))]
theorem j_newOut (hC : jC p s m args meth c cc own nL sb D ids) (hw : Cond.arrayClass .long ∈ TW) (hs : shp n = (25, 1)) (hsz : s.heap.size + kc = sb.heap.size + n) (hRm : kc + 1 ≤ R.cells ∧ ks + 1 ≤ R.slots) (hd : decode cc pc = .ok (.newarray .long, 2))
    (kk : jJ p l e R s m args below meth c nL sb D ids shp St Q (n + 1) (kc + 1) (ks + 1) (zo h n) (pc + 2) lv (.ref n :: st) o) : jJ p l e R s m args below meth c nL sb D ids shp St Q n kc ks h pc lv (.int 1 :: st) o := by
  intro r hr hsp H locs ls hP hS hl
  obtain ⟨hx, hb, hml, hown, hts, hlk, hK, hg1, hg2, hg3, hg4⟩ := hC
  rw [← zo_wls] at hP
  refine va_newa (atype := .long) (ty := .long) (N' := 1) hx hb (hts _ hw) rfl hK hP wls_D hS (fun q hq => Nat.le_trans hg1 hq) (a0 := (1, .inr (.inl (fun i => hJ (zo h n) n i)))) (fun cA => ?_) (by decide) (by decide) (Nat.le_of_ble_eq_true rfl) hRm.1 hRm.2 hd (fun q cA H1 hK1 hP1 hD1 hS1 => ?_)
  · rw [vp_cell_l]
    congr 1
    funext j
    rw [show hJ (zo h n) n j = 0 from if_pos rfl]
    rfl
  · refine W_size (fun hz => ?_)
    have hq := q_new hsz hP1 hD1 hz
    have hcA := jarr_id (t := 2) hK1 rfl (fun C q => by cases q)
    subst hq
    subst hcA
    refine kk r hr hsp H1 locs ls ?_ hS1 hl
    rw [wls_push, cel_out hs]
    exact hP1
theorem j_lawret {b : Nat} {lv : List (Nat × Value)} (hC : jC p s m #[Value.ref b] meth c code own nL s D ids) (hr : meth.sig.returnType = ret) (h1 : kc ≤ 601024) (h2 : ks ≤ 7293033) (hd : decode code pc = .ok (.ireturn, 1)) : jJ p l e room_1 s m #[Value.ref b] below meth c nL s D ids sh SP (fun (_ : Unit) => lw_Z below #[Value.ref b] s) n kc ks h pc lv [.int 1] (some ()) := by
  intro r hr0 hsp H locs ls hP hS hl
  obtain ⟨hx, hb, hml, hown, hts, hlocks, -⟩ := hC
  refine va_forget (fun q hq => hS.2.2 q hq) ?_
  refine W.widen (k := 601024) (n := 7293033) h1 h2 ?_
  exact lw_ret hx hb hr hlocks hd
end LWR
/-- StrawMenLaw.claim: 0 and the answer in the law's row, 1, or 2 -/
def fL_claim (h : Hp) (x1 x2 : Int32) : Option (Int32 × Hp) := bnd (fX9_isClaim h x1) (fun v h1 => if v = 0 then some ((1 : Int32), h1) else (if inT x2 0 3 then (dref shp h1 0 3 (7, 20)).bind (fun z => if x2 = 0 then bnd (fX0_weightOf (rf z 0) h1 x1) (fun w h2 => some ((0 : Int32), uJ h2 152 0 (Int32.toInt64 w))) else (if x2 = 1 then bnd (fX0_temperOf (rf z 0) h1 x1) (fun w h2 => some ((0 : Int32), uJ h2 152 0 (Int32.toInt64 w))) else (if x2 = 2 then bnd (fX0_hitBy (rf z 0) h1 x1) (fun w h2 => some ((0 : Int32), uJ h2 152 0 (Int32.toInt64 w))) else bnd (fX0_foesOf (rf z 0) h1 x1) (fun w h2 => some ((0 : Int32), uJ h2 152 0 (Int32.toInt64 w)))))) else some ((2 : Int32), h1)))
/-- a call of it in the law -/
def jLc (l : Launch) (s : State) (D : va_G) (ids : Nat → ClassId) : Prop := ∀ {p : Program} {e : Env} {m : MethodId} {args : Array Value} {below : List Frame} {meth : Method} {c : Code} {nL : Nat} {Q : Unit → State → Prop} {kc ks pc : Nat} {h : Hp} {x1 x2 : Int32} {lv : List (Nat × Value)} {st : List Value} {kf : Int32 → Hp → Option Unit}, jC p s m args meth c code RL nL s D ids → kc + 8 ≤ 601024 → ks + 64 ≤ 7293033 → (st.map fun v => v.category).sum ≤ 8 → decode code pc = .ok (.invokestatic 39, 3) → (∀ v h', fL_claim h x1 x2 = some (v, h') → jJ p l e room_1 s m args below meth c nL s D ids shp St Q 153 (kc + 8) (ks + 64) h' (pc + 3) lv (.int v :: st) (kf v h')) → jJ p l e room_1 s m args below meth c nL s D ids shp St Q 153 kc ks h pc lv (.ref 152 :: .int x2 :: .int x1 :: .ref 0 :: st) (bnd (fL_claim h x1 x2) kf)
