/-! Rows of the constructors: new cells, final fields; what is made comes in its order. -/
def Zr (n : Nat) (h : Hp) : Prop := ∀ a, n ≤ a → ∀ k, hI h a k = 0 ∧ hJ h a k = 0 ∧ hR h a k = none
theorem Zr_up {n : Nat} {h : Hp} (hz : Zr n h) : Zr (n + 1) h := fun a ha k => hz a (by omega) k
theorem Zr_uI {n : Nat} {h : Hp} {a k : Nat} {v : Int32} (ha : a < n) (hz : Zr n h) : Zr n (uI h a k v) := fun x hx j => by
  rw [hI_uI, hJ_uI, hR_uI, if_neg (fun q => by omega)]
  exact hz x hx j
theorem Zr_uJ {n : Nat} {h : Hp} {a k : Nat} {v : Int64} (ha : a < n) (hz : Zr n h) : Zr n (uJ h a k v) := fun x hx j => by
  rw [hI_uJ, hJ_uJ, hR_uJ, if_neg (fun q => by omega)]
  exact hz x hx j
theorem Zr_uR {n : Nat} {h : Hp} {a k : Nat} {v : Option Nat} (ha : a < n) (hz : Zr n h) : Zr n (uR h a k v) := fun x hx j => by
  rw [hI_uR, hJ_uR, hR_uR, if_neg (fun q => by omega)]
  exact hz x hx j
def okTy (ty : FieldType) : Bool := match ty with
  | .int => true
  | .boolean => true
  | .long => true
  | .object _ => true
  | .array _ => true
  | _ => false
theorem fvl_0 {b n a k : Nat} {h : Hp} {ty : FieldType} (hz : Zr n h) (ha : n ≤ a) (hok : okTy ty = true) : defaultValue ty = fvl b h ty a k := by
  obtain ⟨h1, h2, h3⟩ := hz a ha k
  cases ty <;> first | (simp [okTy] at hok; done) | (simp [fvl, defaultValue, h1, h2, h3, jrf, va_rf])
section JK
variable {ρ : Type} {p : Program} {l : Launch} {e : Env} {R : Room} {s : State} {m : MethodId} {args : Array Value} {below : List Frame} {meth : Method} {c : Code} {cc : ByteArray} {own : String} {nL index : Nat} {sb : State} {D : va_G} {ids : Nat → ClassId} {sh : Nat → Nat × Nat} {SP : Hp → Prop} {Q : ρ → State → Prop} {n kc ks : Nat} {h : Hp} {pc : Nat} {lv lv' : List (Nat × Value)} {st : List Value} {o : Option ρ} {a k ci N fx : Nat}
theorem W_size {H : Heap} {locs : List Loc} {Qw : State → Prop} {g : JFrame} (kk : H.size ≤ s.heap.size + kc → W p l e R s m args below meth c H locs kc ks Qw g) : W p l e R s m args below meth c H locs kc ks Qw g := by
  intro T hT X
  refine kk ?_ T hT X
  have h1 := X.same.2.2.1
  rw [← hT]
  exact h1
theorem q_new {H1 : Heap} {q : Nat} {E : va_E} (hsz : s.heap.size + kc = sb.heap.size + n) (hP1 : va_P D vwCl (wls ids sh sb.heap.size n h ++ [(q, E)]) H1) (hD1 : va_D (jA sb) (wls ids sh sb.heap.size n h ++ [(q, E)])) (hz : H1.size ≤ s.heap.size + (kc + 1)) : q = sb.heap.size + n := by
  have hlen : (wls ids sh sb.heap.size n h).length = n := by simp [wls]
  have hat : (wls ids sh sb.heap.size n h ++ [(q, E)])[n]? = some (q, E) := by
    rw [List.getElem?_append_right (by omega), hlen, Nat.sub_self]
    rfl
  have h1 := (hP1 n _ hat).lt
  have h2 : sb.heap.size ≤ q := hD1.2 n _ hat
  have h1 : q < H1.size := h1
  rcases Nat.lt_or_ge q (sb.heap.size + n) with hlt | hge
  · exfalso
    have hk : q - sb.heap.size < n := by omega
    have h3 : (wls ids sh sb.heap.size n h ++ [(q, E)])[q - sb.heap.size]? = some (sb.heap.size + (q - sb.heap.size), celE ids sb.heap.size (sh (q - sb.heap.size)) h (q - sb.heap.size)) := by
      rw [List.getElem?_append_left (by omega), wls_get hk]
    have h4 := hD1.1 _ _ _ _ h3 hat (by show sb.heap.size + (q - sb.heap.size) = q; omega)
    omega
  · omega
/-- the words of a class whose objects are made -/
def jNw (own : String) (index ci : Nat) : Prop := ∃ (C : String) (T : u_T) (N : Nat), vwCl[ci]? = some (C, T, N) ∧ (∀ w ∈ u_ws C T N, w ∈ TW) ∧ (∀ k, k < N → parseFieldDescriptor (T k).2.2.1 = some (tyC ci k)) ∧ Cond.classLink own index C ∈ TW ∧ Cond.instantiable C N ∈ TW ∧ Cond.initialized C ∈ TW
theorem j_new {C : String} {T : u_T} (hC : jC p s m args meth c cc own nL sb D ids) (hw : jNw own index ci) (hcl : vwCl[ci]? = some (C, T, N)) (hs : sh n = (ci, N)) (hc10 : ci ≤ 10) (hok : ∀ j, j < N → okTy (tyC ci j) = true) (hsz : s.heap.size + kc = sb.heap.size + n) (hRm : kc + 1 ≤ R.cells ∧ ks + N ≤ R.slots) (hd : decode cc pc = .ok (.new index, 3))
    (kk : jJ p l e R s m args below meth c nL sb D ids sh (Zr (n + 1)) Q (n + 1) (kc + 1) (ks + N) h (pc + 3) lv (.ref n :: st) o) : jJ p l e R s m args below meth c nL sb D ids sh (Zr n) Q n kc ks h pc lv st o := by
  intro r hr hsp H locs ls hP hS hl
  obtain ⟨hx, hb, hml, hown, hts, hlk, hK, hg1, hg2, hg3, hg4⟩ := hC
  obtain ⟨C', T', N', h1, h2, h3, h4, h5, h6⟩ := hw
  rw [hcl] at h1
  cases h1
  refine va_new hx hb hts h2 (tyC ci) h3 hown (hts _ h4) (hts _ h5) (hts _ h6) hK hP wls_D hS (fun q hq => Nat.le_trans hg1 hq) hcl (fs := (List.range N).map (fun k => fvl sb.heap.size h (tyC ci k) n k)) (fun j hj => ?_) hRm.1 hRm.2 hd (fun q H1 hP1 hD1 hS1 => ?_)
  · unfold vp_V
    rw [List.getD_eq_getElem?_getD, rng_get _ hj]
    exact fvl_0 hsp (Nat.le_refl n) (hok j hj)
  · refine W_size (fun hz => ?_)
    have hq := q_new hsz hP1 hD1 hz
    subst hq
    refine kk r hr (Zr_up hsp) H1 locs ls ?_ hS1 hl
    rw [wls_push, cel_obj hs hc10]
    exact hP1
theorem jarr_id {ty : FieldType} {t : Nat} {cA : ClassId} (hK : va_K D vwCl (jtys ids ++ [(cA, ty)]) s) (ht : (jtys ids)[t]? = some (ids (20 + t), ty)) (hty : ∀ C, ty ≠ .object C) : cA = ids (20 + t) := by
  have h1 := (hK.2 5 (cA, ty) rfl).2
  have h2 := (hK.2 t (ids (20 + t), ty) (by rw [List.getElem?_append_left (List.getElem?_eq_some_iff.mp ht).1]; exact ht)).2
  cases ty <;> first | exact absurd rfl (hty _) | (exact Option.some.inj (h1.symm.trans h2))
theorem j_newaI {atype : ArrayType} {ty : FieldType} {t : Nat} {x : Int32} {N : Nat} (hC : jC p s m args meth c cc own nL sb D ids) (hw : Cond.arrayClass (newarray.typeOf atype) ∈ TW) (hty : newarray.typeOf atype = ty) (ht : (jtys ids)[t]? = some (ids (20 + t), ty)) (htn : ∀ C, ty ≠ .object C) (hs : sh n = (20 + t, N)) (hdv : defaultValue ty = .int 0) (ht4 : t = 0 ∨ t = 1 ∨ t = 3) (hn : ¬ x < 0) (hxN : x.toNatClampNeg = N) (hby : N * componentBytes ty ≤ 536870912) (hsz : s.heap.size + kc = sb.heap.size + n) (hRm : kc + 1 ≤ R.cells ∧ ks + N ≤ R.slots) (hd : decode cc pc = .ok (.newarray atype, 2))
    (kk : jJ p l e R s m args below meth c nL sb D ids sh (Zr (n + 1)) Q (n + 1) (kc + 1) (ks + N) h (pc + 2) lv (.ref n :: st) o) : jJ p l e R s m args below meth c nL sb D ids sh (Zr n) Q n kc ks h pc lv (.int x :: st) o := by
  intro r hr hsp H locs ls hP hS hl
  obtain ⟨hx, hb, hml, hown, hts, hlk, hK, hg1, hg2, hg3, hg4⟩ := hC
  refine va_newa hx hb (hts _ hw) hty hK hP wls_D hS (fun q hq => Nat.le_trans hg1 hq) (a0 := (N, .inl (fun i => hI h n i))) (fun cA => ?_) hn hxN hby hRm.1 hRm.2 hd (fun q cA H1 hK1 hP1 hD1 hS1 => ?_)
  · rw [vp_cell_i, hdv]
    congr 1
    funext j
    rw [(hsp n (Nat.le_refl n) j).1]
  · refine W_size (fun hz => ?_)
    have hq := q_new hsz hP1 hD1 hz
    have hcA := jarr_id hK1 ht htn
    subst hq
    subst hcA
    refine kk r hr (Zr_up hsp) H1 locs ls ?_ hS1 hl
    rw [wls_push, cel_int hs (by rcases ht4 with rfl | rfl | rfl <;> decide)]
    exact hP1
theorem j_newaJ {x : Int32} {N : Nat} (hC : jC p s m args meth c cc own nL sb D ids) (hw : Cond.arrayClass .long ∈ TW) (hs : sh n = (22, N)) (hn : ¬ x < 0) (hxN : x.toNatClampNeg = N) (hby : N * componentBytes .long ≤ 536870912) (hsz : s.heap.size + kc = sb.heap.size + n) (hRm : kc + 1 ≤ R.cells ∧ ks + N ≤ R.slots) (hd : decode cc pc = .ok (.newarray .long, 2))
    (kk : jJ p l e R s m args below meth c nL sb D ids sh (Zr (n + 1)) Q (n + 1) (kc + 1) (ks + N) h (pc + 2) lv (.ref n :: st) o) : jJ p l e R s m args below meth c nL sb D ids sh (Zr n) Q n kc ks h pc lv (.int x :: st) o := by
  intro r hr hsp H locs ls hP hS hl
  obtain ⟨hx, hb, hml, hown, hts, hlk, hK, hg1, hg2, hg3, hg4⟩ := hC
  refine va_newa (atype := .long) (ty := .long) hx hb (hts _ hw) rfl hK hP wls_D hS (fun q hq => Nat.le_trans hg1 hq) (a0 := (N, .inr (.inl (fun i => hJ h n i)))) (fun cA => ?_) hn hxN hby hRm.1 hRm.2 hd (fun q cA H1 hK1 hP1 hD1 hS1 => ?_)
  · rw [vp_cell_l]
    congr 1
    funext j
    rw [(hsp n (Nat.le_refl n) j).2.1]
    rfl
  · refine W_size (fun hz => ?_)
    have hq := q_new hsz hP1 hD1 hz
    have hcA := jarr_id (t := 2) hK1 rfl (fun C q => by cases q)
    subst hq
    subst hcA
    refine kk r hr (Zr_up hsp) H1 locs ls ?_ hS1 hl
    rw [wls_push, cel_long hs]
    exact hP1
theorem j_newaR {x : Int32} {N : Nat} (hC : jC p s m args meth c cc own nL sb D ids) (hw : Cond.classLink own index "StrawMen$Law" ∈ TW) (hao : va_AO "StrawMen$Law" sb) (hs : sh n = (24, N)) (hn : ¬ x < 0) (hxN : x.toNatClampNeg = N) (hby : N * 4 ≤ 536870912) (hsz : s.heap.size + kc = sb.heap.size + n) (hRm : kc + 1 ≤ R.cells ∧ ks + N ≤ R.slots) (hd : decode cc pc = .ok (.anewarray index, 3))
    (kk : jJ p l e R s m args below meth c nL sb D ids sh (Zr (n + 1)) Q (n + 1) (kc + 1) (ks + N) h (pc + 3) lv (.ref n :: st) o) : jJ p l e R s m args below meth c nL sb D ids sh (Zr n) Q n kc ks h pc lv (.int x :: st) o := by
  intro r hr hsp H locs ls hP hS hl
  obtain ⟨hx, hb, hml, hown, hts, hlk, hK, hg1, hg2, hg3, hg4⟩ := hC
  refine va_newq hx hb hown (hts _ hw) (hao.moved hg3) hK hP wls_D hS (fun q hq => Nat.le_trans hg1 hq) hn hxN hby hRm.1 hRm.2 hd (fun q cA H1 hK1 hP1 hD1 hS1 => ?_)
  refine W_size (fun hz => ?_)
  have hq := q_new hsz hP1 hD1 hz
  have hcA : cA = ids 24 := by
    obtain ⟨kA, comp, -, -, -, h4⟩ := (hK1.2 5 (cA, .object "StrawMen$Law") rfl).2
    obtain ⟨kB, comp2, -, -, -, h5⟩ := (hK1.2 4 (ids 24, .object "StrawMen$Law") rfl).2
    exact Option.some.inj (h4.symm.trans h5)
  subst hq
  subst hcA
  refine kk r hr (Zr_up hsp) H1 locs ls ?_ hS1 hl
  rw [wls_push, cel_ref hs]
  have h0 : (fun i => (hR h n i).map (fun x => sb.heap.size + x)) = (fun _ => (none : Option Nat)) := by
    funext i
    rw [(hsp n (Nat.le_refl n) i).2.2]
    rfl
  rw [h0]
  exact hP1
/-- a field is put in a constructor: final, or not -/
theorem jputc {v : Value} {h' : Hp} (hC : jC p s m args meth c cc own nL sb D ids) (hin : meth.name = "<init>") (hF : jFl own index ci k) (hown0 : ∀ q, vwCl[ci]? = some q → jFin ci k = true → q.1 = own) (hs : sh a = (ci, N)) (ha : a < n) (hk : k < N) (hc10 : ci ≤ 10) (hn : narrow (tyC ci k) v = v) (hfit : fits (tyC ci k) v = true)
    (hv : fvl sb.heap.size h' (tyC ci k) a k = v) (ho : ∀ j, j ≠ k → fvl sb.heap.size h' (tyC ci j) a j = fvl sb.heap.size h (tyC ci j) a j) (hoc : ∀ x, x ≠ a → celE ids sb.heap.size (sh x) h' x = celE ids sb.heap.size (sh x) h x) {H : Heap} {locs : List Loc} {ls : Array Slot} {rest : List Value} {Qw : State → Prop} (hP : va_P D vwCl (wls ids sh sb.heap.size n h) H) (hS : va_S (jA sb) s.heap H locs) (hd : decode cc pc = .ok (.putfield index, 3))
    (kk : ∀ (H1 : Heap) (locs1 : List Loc), va_P D vwCl (wls ids sh sb.heap.size n h') H1 → va_S (jA sb) s.heap H1 locs1 → W p l e R s m args below meth c H1 locs1 kc ks Qw (F0 m (pc + 3) ls rest)) : W p l e R s m args below meth c H locs kc ks Qw (F0 m pc ls (v :: .ref (sb.heap.size + a) :: rest)) := by
  cases hfin : jFin ci k with
  | false => exact jput hC hF hs ha hk hc10 hfin hn hfit hv ho hoc hP hS hd kk
  | true =>
    obtain ⟨hx, hb, hml, hown, hts, hlk, hK, -⟩ := hC
    obtain ⟨C, T, N', h1, h2, h3, h4, h5, h6, h7⟩ := hF
    have hCo : C = own := hown0 _ h1 hfin
    refine va_putF hx hb hts h2 (tyC ci) h7 h6 hown hK hP wls_D hS a (fs := (List.range N).map (fun k => fvl sb.heap.size h (tyC ci k) a k)) (by rw [wls_get ha, cel_obj hs hc10]) h1 k h3 (ref := C) (hts _ h5) (fun x hx => by rw [h4] at hx; exact hx) ?_ hin (by rw [h4]; exact hCo) (h7 k h3) hn hfit (by simpa using hk) hd ?_
    · simpa [jFin, h1] using hfin
    · intro H1 locs1 hP1 hD1 hS1
      refine kk H1 locs1 ?_ hS1
      rw [wls_set (h' := h') (e := .inr (ci, ((List.range N).map (fun k => fvl sb.heap.size h (tyC ci k) a k)).set k v)) ?_ hoc] at hP1
      · exact hP1
      · rw [cel_obj hs hc10, rng_set N k _ (fun k => fvl sb.heap.size h' (tyC ci k) a k) v hv ho]
theorem j_putIc {x : Int32} (hC : jC p s m args meth c cc own nL sb D ids) (hin : meth.name = "<init>") (hF : jFl own index ci k) (hown0 : ∀ q, vwCl[ci]? = some q → jFin ci k = true → q.1 = own) (hs : sh a = (ci, N)) (ha : a < n) (hk : k < N) (hc10 : ci ≤ 10) (hty : tyC ci k = .int) (hd : decode cc pc = .ok (.putfield index, 3))
    (kk : jJ p l e R s m args below meth c nL sb D ids sh (Zr n) Q n kc ks (uI h a k x) (pc + 3) lv st o) : jJ p l e R s m args below meth c nL sb D ids sh (Zr n) Q n kc ks h pc lv (.int x :: .ref a :: st) o := by
  intro r hr hsp H locs ls hP hS hl
  refine jputc (v := .int x) (h' := uI h a k x) hC hin hF hown0 hs ha hk hc10 (by rw [hty]; rfl) (by rw [hty]; rfl) (by rw [hty]; show Value.int (hI (uI h a k x) a k) = _; rw [hI_uI, if_pos ⟨rfl, rfl⟩]) (fun j hj => fvl_uI_ne _ _ _ _ _ _ _ hj) (fun y hy => cel_uI_ne hy) hP hS hd (fun H1 locs1 hP1 hS1 => ?_)
  exact kk r hr (Zr_uI ha hsp) H1 locs1 ls hP1 hS1 hl
theorem j_putZc {x : Int32} (hC : jC p s m args meth c cc own nL sb D ids) (hin : meth.name = "<init>") (hF : jFl own index ci k) (hown0 : ∀ q, vwCl[ci]? = some q → jFin ci k = true → q.1 = own) (hs : sh a = (ci, N)) (ha : a < n) (hk : k < N) (hc10 : ci ≤ 10) (hty : tyC ci k = .boolean) (hz : isZ x = true) (hd : decode cc pc = .ok (.putfield index, 3))
    (kk : jJ p l e R s m args below meth c nL sb D ids sh (Zr n) Q n kc ks (uI h a k x) (pc + 3) lv st o) : jJ p l e R s m args below meth c nL sb D ids sh (Zr n) Q n kc ks h pc lv (.int x :: .ref a :: st) o := by
  intro r hr hsp H locs ls hP hS hl
  refine jputc (v := .int x) (h' := uI h a k x) hC hin hF hown0 hs ha hk hc10 (by rw [hty]; exact isZ_nar hz) (by rw [hty]; exact isZ_fit hz) (by rw [hty]; show Value.int (hI (uI h a k x) a k) = _; rw [hI_uI, if_pos ⟨rfl, rfl⟩]) (fun j hj => fvl_uI_ne _ _ _ _ _ _ _ hj) (fun y hy => cel_uI_ne hy) hP hS hd (fun H1 locs1 hP1 hS1 => ?_)
  exact kk r hr (Zr_uI ha hsp) H1 locs1 ls hP1 hS1 hl
/-- a reference is put in a constructor -/
theorem j_putRc {x : Nat} (hC : jC p s m args meth c cc own nL sb D ids) (hin : meth.name = "<init>") (hF : jFl own index ci k) (hown0 : ∀ q, vwCl[ci]? = some q → jFin ci k = true → q.1 = own) (hs : sh a = (ci, N)) (ha : a < n) (hk : k < N) (hc10 : ci ≤ 10) (hty : (∃ C, tyC ci k = .object C) ∨ ∃ t, tyC ci k = .array t) (hd : decode cc pc = .ok (.putfield index, 3))
    (kk : jJ p l e R s m args below meth c nL sb D ids sh (Zr n) Q n kc ks (uR h a k (some x)) (pc + 3) lv st o) : jJ p l e R s m args below meth c nL sb D ids sh (Zr n) Q n kc ks h pc lv (.ref x :: .ref a :: st) o := by
  intro r hr hsp H locs ls hP hS hl
  have h1 : narrow (tyC ci k) (.ref (sb.heap.size + x)) = .ref (sb.heap.size + x) := by rcases hty with ⟨C, q⟩ | ⟨t, q⟩ <;> rw [q] <;> rfl
  have h2 : fits (tyC ci k) (.ref (sb.heap.size + x)) = true := by rcases hty with ⟨C, q⟩ | ⟨t, q⟩ <;> rw [q] <;> rfl
  have h3 : fvl sb.heap.size (uR h a k (some x)) (tyC ci k) a k = .ref (sb.heap.size + x) := by
    have h4 : fvl sb.heap.size (uR h a k (some x)) (tyC ci k) a k = jrf sb.heap.size (hR (uR h a k (some x)) a k) := by rcases hty with ⟨C, q⟩ | ⟨t, q⟩ <;> rw [q] <;> rfl
    rw [h4, hR_uR, if_pos ⟨rfl, rfl⟩]; rfl
  refine jputc (v := .ref (sb.heap.size + x)) (h' := uR h a k (some x)) hC hin hF hown0 hs ha hk hc10 h1 h2 h3 (fun j hj => fvl_uR_ne _ _ _ _ _ _ _ hj) (fun y hy => cel_uR_ne hy) hP hS hd (fun H1 locs1 hP1 hS1 => ?_)
  exact kk r hr (Zr_uR ha hsp) H1 locs1 ls hP1 hS1 hl
theorem j_iastc {i x : Int32} (hC : jC p s m args meth c cc own nL sb D ids) (hs : sh a = (21, N)) (ha : a < n) (hi : inb i N = true) (hd : decode cc pc = .ok (.iastore, 1)) (kk : jJ p l e R s m args below meth c nL sb D ids sh (Zr n) Q n kc ks (uI h a i.toNatClampNeg x) (pc + 1) lv st o) : jJ p l e R s m args below meth c nL sb D ids sh (Zr n) Q n kc ks h pc lv (.int x :: .int i :: .ref a :: st) o := by
  intro r hr hsp H locs ls hP hS hl
  obtain ⟨hx, hb, -, -, -, -, hK, -⟩ := hC
  refine va_iast hx hb hK hP wls_D hS a 1 (n := N) (f := fun i => hI h a i) (by rw [wls_get ha, cel_int hs (by decide)]) rfl (inb_in hi) hd (fun H1 locs1 hP1 hD1 hS1 => ?_)
  refine kk r hr (Zr_uI ha hsp) H1 locs1 ls ?_ hS1 hl
  rw [wls_set (h' := uI h a i.toNatClampNeg x) ?_ (fun y hy => cel_uI_ne hy)] at hP1
  · exact hP1
  · rw [cel_int hs (by decide)]
    congr 4
    funext j
    rw [hI_uI]
    unfold upd
    simp
/-- a law is put into its row -/
theorem j_aastc {i : Int32} {x N : Nat} (hC : jC p s m args meth c cc own nL sb D ids) (hs : sh a = (24, N)) (ha : a < n) (hx4 : sh x = (1, 4)) (hxn : x < n) (hi : inb i N = true) (hd : decode cc pc = .ok (.aastore, 1)) (kk : jJ p l e R s m args below meth c nL sb D ids sh (Zr n) Q n kc ks (uR h a i.toNatClampNeg (some x)) (pc + 1) lv st o) : jJ p l e R s m args below meth c nL sb D ids sh (Zr n) Q n kc ks h pc lv (.ref x :: .int i :: .ref a :: st) o := by
  intro r hr hsp H locs ls hP hS hl
  obtain ⟨hx, hb, -, -, -, -, hK, -⟩ := hC
  refine va_astq hx hb hK hP wls_D hS a 4 x 1 (r := (RX1, TX1, 4)) (n := N) (f := fun i => (hR h a i).map (fun x => sb.heap.size + x)) (v := sb.heap.size + x) (vs := (List.range 4).map (fun k => fvl sb.heap.size h (tyC 1 k) x k)) (by rw [wls_get ha, cel_ref hs]) rfl (by rw [wls_get hxn, cel_obj hx4 (by decide)]) rfl (inb_in hi) hd (fun H1 locs1 hP1 hD1 hS1 => ?_)
  refine kk r hr (Zr_uR ha hsp) H1 locs1 ls ?_ hS1 hl
  rw [wls_set (h' := uR h a i.toNatClampNeg (some x)) ?_ (fun y hy => cel_uR_ne hy)] at hP1
  · exact hP1
  · rw [cel_ref hs]
    congr 7
    funext j
    rw [hR_uR]
    unfold va_up
    by_cases hj : j = i.toNatClampNeg
    · simp [hj]
    · simp [hj]
theorem j_objInit (hC : jC p s m args meth c cc own nL sb D ids) (hw : Cond.methodLink own index Lib.objectInit ∈ TW ∧ Cond.instanceMethod Lib.objectInit ∈ TW ∧ Cond.code Lib.objectInit ⟨#[0xb1]⟩ 1 none ∈ TW) (hRm : 1 ≤ R.frames ∧ 64 ≤ R.locals) (hcat : (st.map fun v => v.category).sum ≤ 8) (hd : decode cc pc = .ok (.invokespecial index, 3)) (kk : jJ p l e R s m args below meth c nL sb D ids sh SP Q n kc ks h (pc + 3) lv st o) : jJ p l e R s m args below meth c nL sb D ids sh SP Q n kc ks h pc lv (.ref a :: st) o := by
  intro r hr hsp H locs ls hP hS hl
  obtain ⟨hx, hb, hml, hown, hts, -⟩ := hC
  refine W.objInit hx hb hown (hts _ hw.1) (hts _ hw.2.1) (hts _ hw.2.2) rfl (by rw [hml]; exact hl.1) rfl hd hRm.1 ?_ ?_
  · have h1 : 2 * (F0 m pc ls ((mv sb.heap.size (.ref a)) :: mvS sb.heap.size st)).monitorRoom + ((mvS sb.heap.size st).map fun v => v.category).sum ≤ 8 := lv_room (by rw [mvS_cat]; exact hcat)
    exact Nat.le_trans (Nat.add_le_add_right h1 12) (Nat.le_trans (by decide) hRm.2)
  · exact kk r hr hsp H locs ls hP hS hl
/-- a reference that is held to be x -/
theorem j_getE {x : Nat} (hC : jC p s m args meth c cc own nL sb D ids) (hF : jFl own index ci k) (hs : sh a = (ci, N)) (ha : a < n) (hk : k < N) (hc10 : ci ≤ 10) (hty : ∀ b h a, fvl b h (tyC ci k) a k = jrf b (hR h a k)) (hd : decode cc pc = .ok (.getfield index, 3))
    (kk : jJ p l e R s m args below meth c nL sb D ids sh SP Q n kc ks h (pc + 3) lv (.ref x :: st) o) : jJ p l e R s m args below meth c nL sb D ids sh SP Q n kc ks h pc lv (.ref a :: st) (if hR h a k = some x then o else none) := by
  intro r hr hsp H locs ls hP hS hl
  by_cases hq : hR h a k = some x
  · rw [if_pos hq] at hr
    refine jget hC hF hs ha hk hc10 hP hd ?_
    rw [hty, hq]
    exact kk r hr hsp H locs ls hP hS hl
  · rw [if_neg hq] at hr; cases hr
theorem j_aaldE {i : Int32} {x : Nat} (hC : jC p s m args meth c cc own nL sb D ids) (hs : sh a = (24, N)) (ha : a < n) (hi : inb i N = true) (hd : decode cc pc = .ok (.aaload, 1)) (kk : jJ p l e R s m args below meth c nL sb D ids sh SP Q n kc ks h (pc + 1) lv (.ref x :: st) o) : jJ p l e R s m args below meth c nL sb D ids sh SP Q n kc ks h pc lv (.int i :: .ref a :: st) (if hR h a i.toNatClampNeg = some x then o else none) := by
  intro r hr hsp H locs ls hP hS hl
  by_cases hq : hR h a i.toNatClampNeg = some x
  · rw [if_pos hq] at hr
    obtain ⟨hx, hb, -, -, -, -, hK, -⟩ := hC
    refine va_aldq hx hb hK hP a 4 (C := "StrawMen$Law") (n := N) (f := fun i => (hR h a i).map (fun x => sb.heap.size + x)) (by rw [wls_get ha, cel_ref hs]) rfl (inb_in hi) hd ?_
    rw [hq]
    exact kk r hr hsp H locs ls hP hS hl
  · rw [if_neg hq] at hr; cases hr
end JK
/-- the room of a constructor: depth d, mc cells, ms slots -/
def rmC (d mc ms : Nat) : Room := { frames := d, cells := mc, slots := ms, locals := 64 * d }
def jQc (sb : State) (D : va_G) (ids : Nat → ClassId) (sh : Nat → Nat × Nat) (n : Nat) (r : Hp) : Array Value → State → Outcome → State → Prop := va_Qv (fun (_ : Unit) => True) (jB sb D ids sh (Zr n) n r) (jA sb)
/-- a constructor: with n cells before it, mc more of ms slots behind it -/
def jMc (l : Launch) (y : MethodName) (cc : ByteArray) (maxL : Nat) (d : Nat) (sb : State) (D : va_G) (ids : Nat → ClassId) (sh : Nat → Nat × Nat) (n mc ms : Nat) (As : List Value) (h : Hp) (Qc : Array Value → State → Outcome → State → Prop) : Prop :=
  Met l y (Cond.code y cc maxL none :: TW) (rmC d mc ms) (va_Pc (mvS sb.heap.size As) (fun U => jU sb D ids sh n h U ∧ Zr n h ∧ U.heap.size = sb.heap.size + n)) Qc mc ms (jA sb)
theorem jMc_of {l : Launch} {y : MethodName} {cc : ByteArray} {maxL : Nat} {d : Nat} {sb : State} {D : va_G} {ids : Nat → ClassId} {sh : Nat → Nat × Nat} {n mc ms : Nat} {As : List Value} {h r : Hp} {o : Option Hp} {Qc : Hp → Array Value → State → Outcome → State → Prop} (ho : o = some r) (hy : plainName y.cls = true) (hyn : y.name = "<init>") (hlen : (lg_sl As).length ≤ maxL)
    (body : ∀ (p : Program) (e : Env) (s : State) (m : MethodId) (args : Array Value) (below : List Frame) (meth : Method) (c : Code), jC p s m args meth c cc y.cls maxL sb D ids → meth.sig.returnType = none → meth.name = "<init>" → s.heap.size + 0 = sb.heap.size + n → jJ p l e (rmC d mc ms) s m args below meth c maxL sb D ids sh (Zr n) (fun r => MQ below (Qc r) args s mc ms (jA sb)) n 0 0 h 0 (lv_args 0 As) [] o) : jMc l y cc maxL d sb D ids sh n mc ms As h (Qc r) := by
  refine Met.ofW (cc := cc) (maxL := maxL) (ret := none) hy rfl ?_
  intro p e s m args below meth c s₁ B hml hv
  obtain ⟨rfl, ⟨hu1, hu2, hu3, hu4, hu6, hu5⟩, hsp, hsz⟩ := hv
  have hts := atoms_spec (ws := Cond.code y cc maxL none :: TW) B.pre
  have hown : s.vm.findClass y.cls = some m.cls := findClass_of_methodNamed B.named
  have hin : meth.name = "<init>" := by rw [← hyn]; exact (name_of_methodNamed B.named B.method).1
  have hl := lv_entry (mvS sb.heap.size As) (n := maxL) (by rw [lg_sl_mv]; exact hlen)
  rw [lg_entry_eq]
  rw [lv_args_mv] at hl
  exact body p e s m _ below meth c ⟨B.exec, B.bytes, hml, hown, fun w hw => hts w (List.mem_cons_of_mem _ hw), B.notSynchronized, hu4, hu1, hu2, hu3, hu6⟩ B.returns hin hsz r ho hsp s.heap [] _ hu5 va_S.rf hl
section JCC
variable {ρ : Type} {p : Program} {l : Launch} {e : Env} {R : Room} {s : State} {m : MethodId} {args : Array Value} {below : List Frame} {meth : Method} {c : Code} {cc bytes : ByteArray} {own : String} {nL maxL np d index a ci N : Nat} {y : MethodName} {sb : State} {D : va_G} {ids : Nat → ClassId} {sh : Nat → Nat × Nat} {Q : ρ → State → Prop} {n kc ks mc ms : Nat} {h : Hp} {pc : Nat} {lv : List (Nat × Value)} {st stk As : List Value} {o : Option ρ}
theorem j_vretc (hC : jC p s m args meth c cc own nL sb D ids) (hr : meth.sig.returnType = none) (hd : decode cc pc = .ok (.return_, 1)) : jJ p l e R s m args below meth c nL sb D ids sh (Zr n) (fun r => MQ below (jQc sb D ids sh n r) args s kc ks (jA sb)) n kc ks h pc lv [] (some h) := by
  intro r hr0 hsp H locs ls hP hS hl
  cases hr0
  obtain ⟨hx, hb, hml, hown, hts, hlocks, -⟩ := hC
  exact W.vret hx hb hr (fun t ht hW => ⟨⟨(), rfl, trivial, by rw [ht]; exact hP, hsp⟩, hS.F ht⟩) hS.2.2 hd
/-- the words of a constructor's call -/
def jCi (own : String) (index : Nat) (y : MethodName) (cc : ByteArray) (maxL : Nat) (np : Nat) : Prop :=
  Cond.methodLink own index y ∈ TW ∧ Cond.instanceMethod y ∈ TW ∧ Cond.initialized y.cls ∈ TW ∧ Cond.code y cc maxL none ∈ TW ∧ y.name = "<init>" ∧ y.cls ≠ "java/lang/invoke/MethodHandle" ∧ y.cls ≠ "java/lang/invoke/VarHandle" ∧ (parseMethodDescriptor y.desc).map (fun d => d.parameters.length) = some np
theorem j_callC {SP1 : Hp → Prop} {fo : Option Hp} {kf : Hp → Option ρ} (hC : jC p s m args meth c cc own nL sb D ids) (hL : jCi own index y bytes maxL np) (hM : ∀ r0, fo = some r0 → jMc l y bytes maxL d sb D ids sh n mc ms (.ref a :: As) h (va_Qv (fun (_ : Unit) => True) (jB sb D ids sh SP1 (n + mc) r0) (jA sb))) (hnp : As.length = np) (hRm : d + 1 ≤ R.frames ∧ 8 + (maxL + 11) + 64 * d ≤ R.locals) (hcs : kc + mc ≤ R.cells ∧ ks + ms ≤ R.slots) (hsz : s.heap.size + kc = sb.heap.size + n) (hstk : stk = As.reverse ++ .ref a :: st) (hcat : (st.map fun v => v.category).sum ≤ 8) (hd : decode cc pc = .ok (.invokespecial index, 3))
    (kk : ∀ h1, fo = some h1 → jJ p l e R s m args below meth c nL sb D ids sh SP1 Q (n + mc) (kc + mc) (ks + ms) h1 (pc + 3) lv st (kf h1)) : jJ p l e R s m args below meth c nL sb D ids sh (Zr n) Q n kc ks h pc lv stk (fo.bind kf) := by
  intro r hr hsp H locs ls hP hS hl
  obtain ⟨h1, hfo, hr⟩ := Option.bind_eq_some_iff.mp hr
  refine W_size (fun hz => ?_)
  have hPc := jPc_at (SP := Zr n) hC hsp hP hS
  obtain ⟨hx, hb, hml, hown, hts, hlocks, hK, hg1, hg2, hg3, hg4⟩ := hC
  obtain ⟨w1, w2, w4, w5, w7, w6⟩ := hL
  subst hstk
  have hHs : H.size = sb.heap.size + n := by
    rcases Nat.eq_zero_or_pos n with rfl | hn
    · have := hS.1; omega
    · have h5 := (hP (n - 1) _ (wls_get (by omega))).lt
      have h5 : sb.heap.size + (n - 1) < H.size := h5
      omega
  refine va_callv (va_runI (S := ⟨hx, hb, hml, hown, hts⟩) (hM h1 hfo) (b := sb.heap.size + a) (As := mvS sb.heap.size As) (rest := mvS sb.heap.size st) (n := np) ⟨callB_of np hts (jws_good w5) rfl rfl rfl (hts _ w4) (hts _ w1) w6 hRm, w7, hts _ w2⟩ ⟨fun a U g mk q => ⟨q.1, q.2.1.moved rfl rfl, q.2.2⟩, fun U hU hW => ⟨rfl, (hPc U hU hW).1, hsp, by rw [hU]; exact hHs⟩⟩ rfl (by simpa using hnp) hl.1 (by simp [mvS, mv, List.map_reverse]) (lv_room (by rw [mvS_cat]; exact hcat)) hd hcs) hS (fun q _ h => h) (fun q h => h) (fun u t H1 locs1 ht hvm hw hB hz1 hk1 hS1 => ?_)
  have hB : jB sb D ids sh SP1 (n + mc) h1 u t := hB
  exact kk h1 hfo r hr hB.2 H1 locs1 ls (by rw [← ht]; exact hB.1) hS1 hl
theorem j_icmp_geF {x y : Int32} {off : Int} (hC : jC p s m args meth c cc own nL sb D ids) {SP : Hp → Prop} (hq : ¬ y ≤ x) {tgt : Nat} (ht : (pc : Int) + off = (tgt : Int)) (hd : decode cc pc = .ok (.if_icmp .ge off, 3)) (kk : jJ p l e R s m args below meth c nL sb D ids sh SP Q n kc ks h (pc + 3) lv st o) : jJ p l e R s m args below meth c nL sb D ids sh SP Q n kc ks h pc lv (.int y :: .int x :: st) o := by
  have k := j_icmp_ge (o1 := o) (o2 := o) hC ht hd (fun q => absurd q hq) (fun _ => kk)
  rw [if_neg hq] at k
  exact k
theorem j_icmp_geT {x y : Int32} {off : Int} (hC : jC p s m args meth c cc own nL sb D ids) {SP : Hp → Prop} (hq : y ≤ x) {tgt : Nat} (ht : (pc : Int) + off = (tgt : Int)) (hd : decode cc pc = .ok (.if_icmp .ge off, 3)) (kk : jJ p l e R s m args below meth c nL sb D ids sh SP Q n kc ks h tgt lv st o) : jJ p l e R s m args below meth c nL sb D ids sh SP Q n kc ks h pc lv (.int y :: .int x :: st) o := by
  have k := j_icmp_ge (o1 := o) (o2 := o) hC ht hd (fun _ => kk) (fun q => absurd hq q)
  rw [if_pos hq] at k
  exact k
end JCC
/-- the references that never change, as they are asked -/
def stB (h : Hp) : Bool := (List.range 152).all (fun a => (List.range 88).all (fun k => match Rf a k with
  | some x => decide (hR h a k = some x)
  | none => true))
theorem Rf_lt {a k x : Nat} (hx : Rf a k = some x) : a < 152 ∧ k < 88 := by
  have hall : ∀ r ∈ RfL, r.length ≤ 88 := by decide +kernel
  unfold Rf at hx
  have ha : a < RfL.length := by
    rcases Nat.lt_or_ge a RfL.length with q | q
    · exact q
    · rw [show RfL.getD a [] = [] by rw [List.getD_eq_getElem?_getD, List.getElem?_eq_none q]; rfl] at hx
      cases hx
  refine ⟨ha, ?_⟩
  rw [show RfL.getD a [] = RfL[a] by rw [List.getD_eq_getElem?_getD, List.getElem?_eq_getElem ha]; rfl] at hx
  have hr := hall _ (List.getElem_mem ha)
  rcases Nat.lt_or_ge k 88 with q | q
  · exact q
  · rw [List.getD_eq_getElem?_getD, List.getElem?_eq_none (Nat.le_trans hr q)] at hx
    cases hx
theorem stB_St {h : Hp} (hs : stB h = true) : St h := by
  intro a k x hx
  obtain ⟨h1, h2⟩ := Rf_lt hx
  have h3 := List.all_eq_true.mp (List.all_eq_true.mp hs a (List.mem_range.mpr h1)) k (List.mem_range.mpr h2)
  rw [hx] at h3
  exact of_decide_eq_true h3
theorem j_toSt {ρ : Type} {p : Program} {l : Launch} {e : Env} {R : Room} {s : State} {m : MethodId} {args : Array Value} {below : List Frame} {meth : Method} {c : Code} {nL : Nat} {sb : State} {D : va_G} {ids : Nat → ClassId} {SP : Hp → Prop} {Q : ρ → State → Prop} {n kc ks : Nat} {h : Hp} {pc : Nat} {lv : List (Nat × Value)} {st : List Value} {o : Option ρ} (kk : jJ p l e R s m args below meth c nL sb D ids shp St Q n kc ks h pc lv st o) : jJ p l e R s m args below meth c nL sb D ids shp SP Q n kc ks h pc lv st (if stB h then o else none) := by
  intro r hr hsp
  by_cases hs : stB h = true
  · rw [if_pos hs] at hr
    exact kk r hr (stB_St hs)
  · rw [if_neg hs] at hr; cases hr
