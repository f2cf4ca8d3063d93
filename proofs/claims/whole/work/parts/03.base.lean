/-! The abstract heap: ints, longs and references by cell and place; the shapes of the cells; the kit's world of it. -/
abbrev Hp : Type := (Nat → Nat → Int32) × (Nat → Nat → Int64) × (Nat → Nat → Option Nat)
def hI (h : Hp) (a k : Nat) : Int32 := h.1 a k
def hJ (h : Hp) (a k : Nat) : Int64 := h.2.1 a k
def hR (h : Hp) (a k : Nat) : Option Nat := h.2.2 a k
def uI (h : Hp) (a k : Nat) (v : Int32) : Hp := (fun x y => if x = a ∧ y = k then v else h.1 x y, h.2)
def uJ (h : Hp) (a k : Nat) (v : Int64) : Hp := (h.1, fun x y => if x = a ∧ y = k then v else h.2.1 x y, h.2.2)
def uR (h : Hp) (a k : Nat) (v : Option Nat) : Hp := (h.1, h.2.1, fun x y => if x = a ∧ y = k then v else h.2.2 x y)
theorem hI_uI (h : Hp) (a k : Nat) (v : Int32) (x y : Nat) : hI (uI h a k v) x y = if x = a ∧ y = k then v else hI h x y := rfl
theorem hJ_uI (h : Hp) (a k : Nat) (v : Int32) (x y : Nat) : hJ (uI h a k v) x y = hJ h x y := rfl
theorem hR_uI (h : Hp) (a k : Nat) (v : Int32) (x y : Nat) : hR (uI h a k v) x y = hR h x y := rfl
theorem hI_uJ (h : Hp) (a k : Nat) (v : Int64) (x y : Nat) : hI (uJ h a k v) x y = hI h x y := rfl
theorem hJ_uJ (h : Hp) (a k : Nat) (v : Int64) (x y : Nat) : hJ (uJ h a k v) x y = if x = a ∧ y = k then v else hJ h x y := rfl
theorem hR_uJ (h : Hp) (a k : Nat) (v : Int64) (x y : Nat) : hR (uJ h a k v) x y = hR h x y := rfl
theorem hI_uR (h : Hp) (a k : Nat) (v : Option Nat) (x y : Nat) : hI (uR h a k v) x y = hI h x y := rfl
theorem hJ_uR (h : Hp) (a k : Nat) (v : Option Nat) (x y : Nat) : hJ (uR h a k v) x y = hJ h x y := rfl
theorem hR_uR (h : Hp) (a k : Nat) (v : Option Nat) (x y : Nat) : hR (uR h a k v) x y = if x = a ∧ y = k then v else hR h x y := rfl
/-- a field's type: by the class's number and the slot -/
def tyC (c k : Nat) : FieldType := match c with
  | 0 => tyX0 k
  | 1 => tyX1 k
  | 2 => tyX2 k
  | 3 => tyX3 k
  | 4 => tyX4 k
  | 5 => tyX5 k
  | 6 => tyX6 k
  | 7 => tyX7 k
  | 8 => tyX8 k
  | 9 => tyX9 k
  | _ => tyX10 k
def jrf (b : Nat) (r : Option Nat) : Value := va_rf (r.map (fun x => b + x))
def fvl (b : Nat) (h : Hp) (ty : FieldType) (a k : Nat) : Value := match ty with
  | .long => .long (hJ h a k)
  | .object _ => jrf b (hR h a k)
  | .array _ => jrf b (hR h a k)
  | _ => .int (hI h a k)
/-- a cell of shape q: kinds 0 .. 10 objects of the classes, 20 bytes, 21 ints, 22 longs, 23 booleans, 24 laws, 25 the law's own row of longs -/
def celE (ids : Nat → ClassId) (b : Nat) (q : Nat × Nat) (h : Hp) (a : Nat) : va_E :=
  if q.1 ≤ 10 then .inr (q.1, (List.range q.2).map (fun k => fvl b h (tyC q.1 k) a k))
  else if q.1 = 22 then .inl (ids 22, q.2, .inr (.inl (fun i => hJ h a i)))
  else if q.1 = 25 then .inl (ids 22, q.2, .inr (.inl (fun i => hJ h a i)))
  else if q.1 = 24 then .inl (ids 24, q.2, .inr (.inr (.inr (.inr (fun i => (hR h a i).map (fun x => b + x))))))
  else .inl (ids q.1, q.2, .inl (fun i => hI h a i))
/-- the world of the first n cells, shapes by sh -/
def wls (ids : Nat → ClassId) (sh : Nat → Nat × Nat) (b n : Nat) (h : Hp) : va_W := (List.range n).map (fun a => (b + a, celE ids b (sh a) h a))
theorem wls_get {ids : Nat → ClassId} {sh : Nat → Nat × Nat} {b n : Nat} {h : Hp} {a : Nat} (ha : a < n) : (wls ids sh b n h)[a]? = some (b + a, celE ids b (sh a) h a) := by
  unfold wls
  rw [List.getElem?_map, List.getElem?_range ha]
  rfl
theorem wls_of {ids : Nat → ClassId} {sh : Nat → Nat × Nat} {b n : Nat} {h : Hp} {k : Nat} {q : Nat × va_E} (hk : (wls ids sh b n h)[k]? = some q) : k < n ∧ q = (b + k, celE ids b (sh k) h k) := by
  have hl : k < n := by
    have := (List.getElem?_eq_some_iff.mp hk).1
    simpa [wls] using this
  rw [wls_get hl] at hk
  exact ⟨hl, (Option.some.inj hk).symm⟩
theorem wls_D {ids : Nat → ClassId} {sh : Nat → Nat × Nat} {b n : Nat} {h : Hp} : va_D (fun q => b ≤ q) (wls ids sh b n h) := by
  refine ⟨fun i j x y hi hj hxy => ?_, fun k q hk => ?_⟩
  · obtain ⟨-, rfl⟩ := wls_of hi
    obtain ⟨-, rfl⟩ := wls_of hj
    have : b + i = b + j := hxy
    omega
  · obtain ⟨-, rfl⟩ := wls_of hk
    exact Nat.le_add_right _ _
theorem wls_set {ids : Nat → ClassId} {sh : Nat → Nat × Nat} {b n : Nat} {h h' : Hp} {a : Nat} {e : va_E} (he : e = celE ids b (sh a) h' a) (hx : ∀ x, x ≠ a → celE ids b (sh x) h' x = celE ids b (sh x) h x) : (wls ids sh b n h).set a (b + a, e) = wls ids sh b n h' := by
  subst he
  apply List.ext_getElem?
  intro k
  by_cases hk : k < n
  · by_cases hka : k = a
    · subst hka
      rw [List.getElem?_set_self (by simpa [wls] using hk), wls_get hk]
    · rw [List.getElem?_set_ne (Ne.symm hka), wls_get hk, wls_get hk, hx k hka]
  · have h1 : ((wls ids sh b n h).set a (b + a, celE ids b (sh a) h' a))[k]? = none := by
      apply List.getElem?_eq_none
      simp [wls]
      omega
    have h2 : (wls ids sh b n h')[k]? = none := by
      apply List.getElem?_eq_none
      simp [wls]
      omega
    rw [h1, h2]
theorem wls_push {ids : Nat → ClassId} {sh : Nat → Nat × Nat} {b n : Nat} {h : Hp} : wls ids sh b (n + 1) h = wls ids sh b n h ++ [(b + n, celE ids b (sh n) h n)] := by
  unfold wls
  rw [List.range_succ, List.map_append]
  rfl
theorem rng_set (N k : Nat) (f g : Nat → Value) (v : Value) (hk : g k = v) (hx : ∀ j, j ≠ k → g j = f j) : ((List.range N).map f).set k v = (List.range N).map g := by
  apply List.ext_getElem?
  intro j
  by_cases hj : j < N
  · by_cases hjk : j = k
    · subst hjk
      rw [List.getElem?_set_self (by simpa using hj), List.getElem?_map, List.getElem?_range hj]
      simp [hk]
    · rw [List.getElem?_set_ne (Ne.symm hjk), List.getElem?_map, List.getElem?_map, List.getElem?_range hj]
      simp [hx j hjk]
  · rw [List.getElem?_eq_none (by simp; omega), List.getElem?_eq_none (by simp; omega)]
theorem rng_get {N k : Nat} (f : Nat → Value) (hk : k < N) : ((List.range N).map f)[k]? = some (f k) := by
  rw [List.getElem?_map, List.getElem?_range hk]
  rfl
theorem cel_obj {ids : Nat → ClassId} {b : Nat} {q : Nat × Nat} {h : Hp} {a ci N : Nat} (hq : q = (ci, N)) (hc : ci ≤ 10) : celE ids b q h a = .inr (ci, (List.range N).map (fun k => fvl b h (tyC ci k) a k)) := by
  subst hq; simp [celE, hc]
theorem cel_int {ids : Nat → ClassId} {b : Nat} {q : Nat × Nat} {h : Hp} {a t N : Nat} (hq : q = (t, N)) (ht : t = 20 ∨ t = 21 ∨ t = 23) : celE ids b q h a = .inl (ids t, N, .inl (fun i => hI h a i)) := by
  subst hq
  rcases ht with rfl | rfl | rfl <;> simp [celE]
theorem cel_long {ids : Nat → ClassId} {b : Nat} {q : Nat × Nat} {h : Hp} {a N : Nat} (hq : q = (22, N)) : celE ids b q h a = .inl (ids 22, N, .inr (.inl (fun i => hJ h a i))) := by
  subst hq; simp [celE]
theorem cel_out {ids : Nat → ClassId} {b : Nat} {q : Nat × Nat} {h : Hp} {a N : Nat} (hq : q = (25, N)) : celE ids b q h a = .inl (ids 22, N, .inr (.inl (fun i => hJ h a i))) := by
  subst hq; simp [celE]
theorem cel_ref {ids : Nat → ClassId} {b : Nat} {q : Nat × Nat} {h : Hp} {a N : Nat} (hq : q = (24, N)) : celE ids b q h a = .inl (ids 24, N, .inr (.inr (.inr (.inr (fun i => (hR h a i).map (fun x => b + x)))))) := by
  subst hq; simp [celE]
theorem cel_uI_ne {ids : Nat → ClassId} {b : Nat} {q : Nat × Nat} {h : Hp} {a k : Nat} {v : Int32} {x : Nat} (hx : x ≠ a) : celE ids b q (uI h a k v) x = celE ids b q h x := by
  have h1 : ∀ i, hI (uI h a k v) x i = hI h x i := fun i => by rw [hI_uI, if_neg (fun z => hx z.1)]
  have h2 : ∀ ty i, fvl b (uI h a k v) ty x i = fvl b h ty x i := fun ty i => by unfold fvl; split <;> simp [h1, hJ_uI, hR_uI]
  unfold celE
  simp [h1, h2, hJ_uI, hR_uI]
theorem cel_uJ_ne {ids : Nat → ClassId} {b : Nat} {q : Nat × Nat} {h : Hp} {a k : Nat} {v : Int64} {x : Nat} (hx : x ≠ a) : celE ids b q (uJ h a k v) x = celE ids b q h x := by
  have h1 : ∀ i, hJ (uJ h a k v) x i = hJ h x i := fun i => by rw [hJ_uJ, if_neg (fun z => hx z.1)]
  have h2 : ∀ ty i, fvl b (uJ h a k v) ty x i = fvl b h ty x i := fun ty i => by unfold fvl; split <;> simp [h1, hI_uJ, hR_uJ]
  unfold celE
  simp [h1, h2, hI_uJ, hR_uJ]
theorem cel_uR_ne {ids : Nat → ClassId} {b : Nat} {q : Nat × Nat} {h : Hp} {a k : Nat} {v : Option Nat} {x : Nat} (hx : x ≠ a) : celE ids b q (uR h a k v) x = celE ids b q h x := by
  have h1 : ∀ i, hR (uR h a k v) x i = hR h x i := fun i => by rw [hR_uR, if_neg (fun z => hx z.1)]
  have h2 : ∀ ty i, fvl b (uR h a k v) ty x i = fvl b h ty x i := fun ty i => by unfold fvl; split <;> simp [h1, hI_uR, hJ_uR]
  unfold celE
  simp [h1, h2, hI_uR, hJ_uR]
/-- values: abstract addresses to the machine's; a cell that isn't ours is a retAddr of its own address -/
def mv (b : Nat) (v : Value) : Value := match v with
  | .ref a => .ref (b + a)
  | .retAddr t => .ref t
  | v => v
abbrev mvS (b : Nat) (st : List Value) : List Value := st.map (mv b)
abbrev mvL (b : Nat) (lv : List (Nat × Value)) : List (Nat × Value) := lv.map (fun q => (q.1, mv b q.2))
theorem mv_cat (b : Nat) (v : Value) : (mv b v).category = v.category := by cases v <;> rfl
theorem mvS_cat (b : Nat) (st : List Value) : ((mvS b st).map fun v => v.category) = st.map fun v => v.category := by
  induction st with
  | nil => rfl
  | cons a t ih => simp [mv_cat, ih]
/-- an index in its row -/
def inb (i : Int32) (n : Nat) : Bool := decide (¬ (i < 0 ∨ n ≤ i.toNatClampNeg))
theorem inb_in {i : Int32} {n : Nat} (h : inb i n = true) : vp_in i n := by
  unfold vp_in
  exact of_decide_eq_true h
/-- 0 or 1 -/
def isZ (x : Int32) : Bool := decide (x = 0 ∨ x = 1)
theorem isZ_or {x : Int32} (h : isZ x = true) : x = 0 ∨ x = 1 := of_decide_eq_true h
theorem isZ_nar {x : Int32} (h : isZ x = true) : narrow .boolean (.int x) = .int x := by
  rcases isZ_or h with rfl | rfl <;> rfl
theorem isZ_fit {x : Int32} (h : isZ x = true) : fits .boolean (.int x) = true := by
  rcases isZ_or h with rfl | rfl <;> rfl
