/-! THE OBJECTS BY POOL AND NUMBER: every object of class, reference and law lies in a pool (one for each class, one for each array field) and bears a number there; g gives its address. -/
/-- a value: an int, a long, a reference by pool and number (none: null), a bare address -/
abbrev XV : Type := Int32 ⊕ (Int64 ⊕ ((Nat × Option Nat) ⊕ Nat))
abbrev xI (x : Int32) : XV := .inl x
abbrev xL (x : Int64) : XV := .inr (.inl x)
abbrev xR (q : Nat) (o : Option Nat) : XV := .inr (.inr (.inl (q, o)))
abbrev xA (a : Nat) : XV := .inr (.inr (.inr a))
/-- what all objects hold: ints, longs, references, by pool, number and slot; and how many of each pool there are -/
abbrev XS : Type := (Nat → Nat → Nat → Int32) × (Nat → Nat → Nat → Int64) × (Nat → Nat → Nat → Option Nat) × (Nat → Nat)
abbrev XS.I (st : XS) : Nat → Nat → Nat → Int32 := st.1
abbrev XS.J (st : XS) : Nat → Nat → Nat → Int64 := st.2.1
abbrev XS.R (st : XS) : Nat → Nat → Nat → Option Nat := st.2.2.1
abbrev XS.N (st : XS) : Nat → Nat := st.2.2.2
def x_up {α : Type} (f : Nat → Nat → Nat → α) (q i k : Nat) (v : α) : Nat → Nat → Nat → α := fun a b c => if a = q ∧ b = i ∧ c = k then v else f a b c
def xsI (st : XS) (q i k : Nat) (v : Int32) : XS := (x_up st.1 q i k v, st.2)
def xsJ (st : XS) (q i k : Nat) (v : Int64) : XS := (st.1, x_up st.2.1 q i k v, st.2.2)
def xsR (st : XS) (q i k : Nat) (v : Option Nat) : XS := (st.1, st.2.1, x_up st.2.2.1 q i k v, st.2.2.2)
/-- a new object of the pool q: all its slots 0 or null -/
def xsN (st : XS) (q : Nat) : XS := (fun a b c => if a = q ∧ b = st.2.2.2 q then 0 else st.1 a b c, fun a b c => if a = q ∧ b = st.2.2.2 q then 0 else st.2.1 a b c, fun a b c => if a = q ∧ b = st.2.2.2 q then none else st.2.2.1 a b c, fun a => if a = q then st.2.2.2 q + 1 else st.2.2.2 a)
def xrf (g : Nat → Nat → Nat) (q : Nat) (o : Option Nat) : Value := match o with
  | none => .null
  | some i => .ref (g q i)
def xv (g : Nat → Nat → Nat) : XV → Value
  | .inl x => .int x
  | .inr (.inl y) => .long y
  | .inr (.inr (.inl (q, o))) => xrf g q o
  | .inr (.inr (.inr a)) => .ref a
def xok (cnt : Nat → Nat) : XV → Prop
  | .inr (.inr (.inl (q, some i))) => i < cnt q
  | _ => True
/-- which pool is what: its class's number (none: an array), how many slots, each slot's sort (0 int, 1 long, else a reference) and the pool that a reference leads to, an array's type -/
def xval (g : Nat → Nat → Nat) (st : XS) (q i k : Nat) : Value := match xk_s q k with
  | 0 => .int (st.1 q i k)
  | 1 => .long (st.2.1 q i k)
  | _ => xrf g (xk_t q k) (st.2.2.1 q i k)
def xarr (g : Nat → Nat → Nat) (st : XS) (q i : Nat) : vp_A := (xk_n q, match xk_s q 0 with
  | 0 => .inl (fun k => st.1 q i k)
  | 1 => .inr (.inl (fun k => st.2.1 q i k))
  | _ => .inr (.inr (.inr (.inr (fun k => (st.2.2.1 q i k).map (g (xk_t q 0)))))))
def xent (cA : Nat → ClassId) (g : Nat → Nat → Nat) (st : XS) (q i : Nat) : va_E := match xk_c q with
  | some ci => .inr (ci, (List.range (xk_n q)).map (xval g st q i))
  | none => .inl (cA q, xarr g st q i)
/-- the world: each object as st says, at its address; the addresses apart; every reference leads to an object that is there -/
def x_W (D : va_G) (cA : Nat → ClassId) (A : Nat → Prop) (g : Nat → Nat → Nat) (st : XS) (H : Heap) : Prop :=
  (∀ q i, i < st.2.2.2 q → va_at D xk_cl (g q i, xent cA g st q i) H ∧ A (g q i)) ∧
  (∀ q i r j, i < st.2.2.2 q → j < st.2.2.2 r → g q i = g r j → q = r ∧ i = j) ∧
  (∀ q i k j, i < st.2.2.2 q → xk_s q k = 2 → st.2.2.1 q i k = some j → j < st.2.2.2 (xk_t q k))
/-- what the tables say of the classes and the array classes -/
def x_K (D : va_G) (cA : Nat → ClassId) (U : State) : Prop :=
  (∀ (c : Nat) (q : vw_C), xk_cl[c]? = some q → u_Kn U q.1 q.2.1 q.2.2 (D.1 c) (D.2 c)) ∧
  (∀ (q : Nat) (ty : FieldType), xk_a q = some ty → ArrOfT U (cA q) ty ∧ va_RA U (cA q) ty) ∧
  (∀ w ∈ xk_nest, va_Nw w U)
def xcat : XV → Nat
  | .inr (.inl _) => 2
  | _ => 1
theorem xcat_v (g : Nat → Nat → Nat) (v : XV) : (xv g v).category = xcat v := by
  rcases v with x | y | ⟨q, _ | i⟩ | a <;> rfl
theorem xok_cs {cnt : Nat → Nat} {a : XV} {K : List XV} (h : xok cnt a) (hK : ∀ v ∈ K, xok cnt v) : ∀ v ∈ a :: K, xok cnt v := fun v hv => (List.mem_cons.mp hv).elim (fun e => e ▸ h) (hK v)
theorem xok_tl {cnt : Nat → Nat} {a : XV} {K : List XV} (hK : ∀ v ∈ a :: K, xok cnt v) : ∀ v ∈ K, xok cnt v := fun v hv => hK v (List.mem_cons_of_mem _ hv)
theorem xok_hd {cnt : Nat → Nat} {a : XV} {K : List XV} (hK : ∀ v ∈ a :: K, xok cnt v) : xok cnt a := hK a List.mem_cons_self
theorem x_lat {g : Nat → Nat → Nat} {L : List (Nat × XV)} {w i : Nat} {v : XV} (h : L[w]? = some (i, v)) : (L.map fun z => (z.1, xv g z.2))[w]? = some (i, xv g v) := by
  rw [List.getElem?_map, h]; rfl
def x_f1 (i : Nat) : Nat × XV → Bool := fun z => !(z.1 == i) && !(z.1 + 1 == i && xcat z.2 == 2)
def x_f2 (i : Nat) : Nat × XV → Bool := fun z => !(z.1 == i) && (!(z.1 == i + 1) && !(z.1 + 1 == i && xcat z.2 == 2))
theorem x_m1 (g : Nat → Nat → Nat) (i : Nat) (v : XV) (L : List (Nat × XV)) : (i, xv g v) :: (L.map fun z => (z.1, xv g z.2)).filter (fun q => !(q.1 == i) && !(q.1 + 1 == i && q.2.category == 2)) = ((i, v) :: L.filter (x_f1 i)).map fun z => (z.1, xv g z.2) := by
  rw [List.map_cons, List.filter_map]
  congr 2
  refine congrArg (fun f => List.filter f L) (funext fun z => ?_)
  simp [x_f1, xcat_v, Function.comp]
theorem x_m2 (g : Nat → Nat → Nat) (i : Nat) (v : XV) (L : List (Nat × XV)) : (i, xv g v) :: (L.map fun z => (z.1, xv g z.2)).filter (fun q => !(q.1 == i) && (!(q.1 == i + 1) && !(q.1 + 1 == i && q.2.category == 2))) = ((i, v) :: L.filter (x_f2 i)).map fun z => (z.1, xv g z.2) := by
  rw [List.map_cons, List.filter_map]
  congr 2
  refine congrArg (fun f => List.filter f L) (funext fun z => ?_)
  simp [x_f2, xcat_v, Function.comp]
theorem xokL_cs {cnt : Nat → Nat} {i : Nat} {v : XV} {L : List (Nat × XV)} (h : xok cnt v) (hL : ∀ z ∈ L, xok cnt z.2) : ∀ z ∈ (i, v) :: L, xok cnt z.2 := fun z hz => (List.mem_cons.mp hz).elim (fun e => by rw [e]; exact h) (hL z)
theorem xokL_f {cnt : Nat → Nat} {L : List (Nat × XV)} {f : Nat × XV → Bool} (hL : ∀ z ∈ L, xok cnt z.2) : ∀ z ∈ L.filter f, xok cnt z.2 := fun z hz => hL z (List.mem_filter.mp hz).1
/-- which cells a method may change: those of its world, and those that it makes -/
def x_A (g : Nat → Nat → Nat) (n : Nat → Nat) (sz : Nat) : Nat → Prop := fun a => (∃ q i, i < n q ∧ a = g q i) ∨ sz ≤ a
/-- a static of Throwable that holds a reference or null, at a cell that is not in A -/
def x_St (n d : String) (A : Nat → Prop) (U : State) (H : Heap) : Prop := ∃ (c : ClassId) (k : Class) (i : Nat) (f : Field) (a : Nat) (cell : Cell) (v : Value), U.vm.findClass Bundle.tN = some c ∧ U.fieldFound? Bundle.tN n d = some (c, k, i, f) ∧ f.isStatic = true ∧ k.statics = some a ∧ H[a]? = some cell ∧ cell.vm.isStatics = true ∧ cell.cls = c ∧ f.slot < cell.slots.size ∧ k.staticTypes[f.slot]? = some f.type ∧ cell.slots[f.slot]? = some v ∧ (v = .null ∨ ∃ b, v = .ref b) ∧ ¬ A a
theorem x_St.moved {n d : String} {A : Nat → Prop} {u U : State} {H : Heap} (hvm : u.vm.Alike U.vm) (h : x_St n d A u H) : x_St n d A U H := by
  obtain ⟨c, k, i, f, a, cell, v, h0, h1, h2, h3, h4, h5, h6, h7, h8, h9⟩ := h
  obtain ⟨k', hi', he⟩ := State.fieldFound?_setVm hvm h1
  exact ⟨c, k', i, f, a, cell, v, by rw [hvm.findClass]; exact h0, hi', h2, by rw [he]; exact h3, h4, h5, h6, h7, by rw [he]; exact h8, h9⟩
theorem x_St.kept {n d : String} {A : Nat → Prop} {U : State} {H H1 : Heap} (h : x_St n d A U H) (hq : ∀ a : Nat, a < H.size → ¬ A a → H1[a]? = H[a]?) : x_St n d A U H1 := by
  obtain ⟨c, k, i, f, a, cell, v, h0, h1, h2, h3, h4, h5, h6, h7, h8, h9, h10, h11⟩ := h
  exact ⟨c, k, i, f, a, cell, v, h0, h1, h2, h3, by rw [hq a (Array.getElem?_eq_some_iff.mp h4).1 h11]; exact h4, h5, h6, h7, h8, h9, h10, h11⟩
theorem x_St.narrow {n d : String} {A B : Nat → Prop} {U : State} {H : Heap} (h : x_St n d A U H) (hAB : ∀ q, q < H.size → B q → A q) : x_St n d B U H := by
  obtain ⟨c, k, i, f, a, cell, v, h0, h1, h2, h3, h4, h5, h6, h7, h8, h9, h10, h11⟩ := h
  exact ⟨c, k, i, f, a, cell, v, h0, h1, h2, h3, h4, h5, h6, h7, h8, h9, h10, fun z => h11 (hAB a (Array.getElem?_eq_some_iff.mp h4).1 z)⟩
/-- what a throw needs beside the words that keep -/
def x_Th (A : Nat → Prop) (U : State) (H : Heap) : Prop := (va_Nw (.castable "java/lang/IllegalStateException" "java/lang/IllegalStateException") U ∧ va_Nw (.castable "java/lang/IllegalArgumentException" "java/lang/IllegalArgumentException") U) ∧ x_St "UNASSIGNED_STACK" Bundle.steD A U H ∧ x_St "SUPPRESSED_SENTINEL" Bundle.listD A U H ∧ (∀ z ∈ xk_str, ∃ a, vk_R z.1 z.2.1 z.2.2 a U) ∧ (∀ nm ∈ xk_over, va_AO nm U) ∧ (∀ z ∈ xk_unc, va_Nc z.1 z.2 U) ∧ (∀ x ∈ xk_dec, va_Nw (.declares x) U)
theorem x_Th.moved {A : Nat → Prop} {u U : State} {H : Heap} (hW : u.WarmedH U.vm) (h : x_Th A u H) : x_Th A U H :=
  ⟨⟨va_Nw.warmC hW h.1.1, va_Nw.warmC hW h.1.2⟩, h.2.1.moved hW.alike, h.2.2.1.moved hW.alike, fun z hz => (h.2.2.2.1 z hz).imp fun _ q => q.warm hW, fun nm hn => (h.2.2.2.2.1 nm hn).moved hW.alike, fun z hz => (h.2.2.2.2.2.1 z hz).moved hW.alike, fun x hx => va_Nw.warmD hW (h.2.2.2.2.2.2 x hx)⟩
theorem x_Th.kept {A : Nat → Prop} {U : State} {H H1 : Heap} (h : x_Th A U H) (hq : ∀ a : Nat, a < H.size → ¬ A a → H1[a]? = H[a]?) : x_Th A U H1 := ⟨h.1, h.2.1.kept hq, h.2.2.1.kept hq, h.2.2.2⟩
theorem x_Th.narrow {A B : Nat → Prop} {U : State} {H : Heap} (h : x_Th A U H) (hAB : ∀ q, q < H.size → B q → A q) : x_Th B U H := ⟨h.1, h.2.1.narrow hAB, h.2.2.1.narrow hAB, h.2.2.2⟩
/-- the fixed facts of an invocation -/
def x_C (p : Program) (e : Env) (R : Room) (s : State) (m : MethodId) (args : Array Value) (meth : Method) (c : Code) (D : va_G) (cA : Nat → ClassId) (A : Nat → Prop) (cc : ByteArray) (own : String) (nL : Nat) : Prop :=
  p.tables.exec = Jvm.exec ∧ c.code = cc ∧ c.maxLocals = nL ∧ s.vm.findClass own = some m.cls ∧ (∀ w ∈ x_tb, w.before args s = true) ∧ x_K D cA s ∧ meth.locks = false ∧ (∀ q, s.heap.size ≤ q → A q) ∧ x_Th A s s.heap
/-- the addresses of the start are kept, and no pool has fewer objects than at the start -/
def x_E (g0 : Nat → Nat → Nat) (n0 : Nat → Nat) (g : Nat → Nat → Nat) (cnt : Nat → Nat) : Prop := (∀ q i, i < n0 q → g q i = g0 q i) ∧ ∀ q, n0 q ≤ cnt q
/-- THE WALK over pools: from every heap that holds st (at addresses g, which keep those of the start), with the locals L and the stack K, the machine comes to Q -/
def x_V (p : Program) (l : Launch) (e : Env) (R : Room) (s : State) (m : MethodId) (args : Array Value) (below : List Frame) (meth : Method) (c : Code) (D : va_G) (cA : Nat → ClassId) (A : Nat → Prop) (nL : Nat) (g0 : Nat → Nat → Nat) (n0 : Nat → Nat) (Q : State → Prop) (pc : Nat) (L : List (Nat × XV)) (K : List XV) (st : XS) (cells slots : Nat) : Prop :=
  ∀ (g : Nat → Nat → Nat) (H : Heap) (locs : List Loc) (ls : Array Slot), x_W D cA A g st H → x_E g0 n0 g st.2.2.2 → va_S A s.heap H locs → lv_has ls nL (L.map fun z => (z.1, xv g z.2)) → (∀ z ∈ L, xok st.2.2.2 z.2) → (∀ v ∈ K, xok st.2.2.2 v) → W p l e R s m args below meth c H locs cells slots Q (F0 m pc ls (K.map (xv g)))
section XF
variable {p : Program} {l : Launch} {e : Env} {R : Room} {s : State} {m : MethodId} {args : Array Value} {below : List Frame} {meth : Method} {c : Code} {D : va_G} {cA : Nat → ClassId} {A : Nat → Prop} {nL : Nat} {g0 : Nat → Nat → Nat} {n0 : Nat → Nat} {Q : State → Prop} {cc : ByteArray} {own : String} {pc : Nat} {L : List (Nat × XV)} {K : List XV} {st : XS} {cells slots : Nat}
theorem x_iconst (C : x_C p e R s m args meth c D cA A cc own nL) {n : Int} {v : Int32} (hv : Int32.ofInt n = v) (hd : decode cc pc = .ok (.iconst n, 1)) (k : x_V p l e R s m args below meth c D cA A nL g0 n0 Q (pc + 1) L (xI v :: K) st cells slots) : x_V p l e R s m args below meth c D cA A nL g0 n0 Q pc L (K) st cells slots := by
  intro g H locs ls hW hg hS hl hL hK
  exact lv_iconst C.1 C.2.1 hd hv (k g H locs ls hW hg hS hl hL (xok_cs trivial hK))
theorem x_bipush (C : x_C p e R s m args meth c D cA A cc own nL) {n : Int} {v : Int32} (hv : (Int8.ofInt n).toInt32 = v) (hd : decode cc pc = .ok (.bipush n, 2)) (k : x_V p l e R s m args below meth c D cA A nL g0 n0 Q (pc + 2) L (xI v :: K) st cells slots) : x_V p l e R s m args below meth c D cA A nL g0 n0 Q pc L (K) st cells slots := by
  intro g H locs ls hW hg hS hl hL hK
  exact lv_bipush C.1 C.2.1 hd hv (k g H locs ls hW hg hS hl hL (xok_cs trivial hK))
theorem x_sipush (C : x_C p e R s m args meth c D cA A cc own nL) {n : Int} {v : Int32} (hv : (Int16.ofInt n).toInt32 = v) (hd : decode cc pc = .ok (.sipush n, 3)) (k : x_V p l e R s m args below meth c D cA A nL g0 n0 Q (pc + 3) L (xI v :: K) st cells slots) : x_V p l e R s m args below meth c D cA A nL g0 n0 Q pc L (K) st cells slots := by
  intro g H locs ls hW hg hS hl hL hK
  exact lv_sipush C.1 C.2.1 hd hv (k g H locs ls hW hg hS hl hL (xok_cs trivial hK))
theorem x_lconst (C : x_C p e R s m args meth c D cA A cc own nL) {n : Fin 2} {v : Int64} (hv : Int64.ofNat (n : Nat) = v) (hd : decode cc pc = .ok (.lconst n, 1)) (k : x_V p l e R s m args below meth c D cA A nL g0 n0 Q (pc + 1) L (xL v :: K) st cells slots) : x_V p l e R s m args below meth c D cA A nL g0 n0 Q pc L (K) st cells slots := by
  intro g H locs ls hW hg hS hl hL hK
  exact lv_lconst C.1 C.2.1 hd hv (k g H locs ls hW hg hS hl hL (xok_cs trivial hK))
theorem x_null (C : x_C p e R s m args meth c D cA A cc own nL)  (hd : decode cc pc = .ok (.aconst_null, 1)) (k : x_V p l e R s m args below meth c D cA A nL g0 n0 Q (pc + 1) L (xR 0 none :: K) st cells slots) : x_V p l e R s m args below meth c D cA A nL g0 n0 Q pc L (K) st cells slots := by
  intro g H locs ls hW hg hS hl hL hK
  exact lv_null C.1 C.2.1 hd (k g H locs ls hW hg hS hl hL (xok_cs trivial hK))
theorem x_iadd (C : x_C p e R s m args meth c D cA A cc own nL) {x y : Int32} (hd : decode cc pc = .ok (.iadd, 1)) (k : x_V p l e R s m args below meth c D cA A nL g0 n0 Q (pc + 1) L (xI (x + y) :: K) st cells slots) : x_V p l e R s m args below meth c D cA A nL g0 n0 Q pc L (xI y :: xI x :: K) st cells slots := by
  intro g H locs ls hW hg hS hl hL hK
  exact lv_iadd C.1 C.2.1 hd (k g H locs ls hW hg hS hl hL (xok_cs trivial (xok_tl (xok_tl hK))))
theorem x_isub (C : x_C p e R s m args meth c D cA A cc own nL) {x y : Int32} (hd : decode cc pc = .ok (.isub, 1)) (k : x_V p l e R s m args below meth c D cA A nL g0 n0 Q (pc + 1) L (xI (x - y) :: K) st cells slots) : x_V p l e R s m args below meth c D cA A nL g0 n0 Q pc L (xI y :: xI x :: K) st cells slots := by
  intro g H locs ls hW hg hS hl hL hK
  exact lv_isub C.1 C.2.1 hd (k g H locs ls hW hg hS hl hL (xok_cs trivial (xok_tl (xok_tl hK))))
theorem x_imul (C : x_C p e R s m args meth c D cA A cc own nL) {x y : Int32} (hd : decode cc pc = .ok (.imul, 1)) (k : x_V p l e R s m args below meth c D cA A nL g0 n0 Q (pc + 1) L (xI (x * y) :: K) st cells slots) : x_V p l e R s m args below meth c D cA A nL g0 n0 Q pc L (xI y :: xI x :: K) st cells slots := by
  intro g H locs ls hW hg hS hl hL hK
  exact lv_imul C.1 C.2.1 hd (k g H locs ls hW hg hS hl hL (xok_cs trivial (xok_tl (xok_tl hK))))
theorem x_iand (C : x_C p e R s m args meth c D cA A cc own nL) {x y : Int32} (hd : decode cc pc = .ok (.iand, 1)) (k : x_V p l e R s m args below meth c D cA A nL g0 n0 Q (pc + 1) L (xI (x &&& y) :: K) st cells slots) : x_V p l e R s m args below meth c D cA A nL g0 n0 Q pc L (xI y :: xI x :: K) st cells slots := by
  intro g H locs ls hW hg hS hl hL hK
  exact lv_iand C.1 C.2.1 hd (k g H locs ls hW hg hS hl hL (xok_cs trivial (xok_tl (xok_tl hK))))
theorem x_ior (C : x_C p e R s m args meth c D cA A cc own nL) {x y : Int32} (hd : decode cc pc = .ok (.ior, 1)) (k : x_V p l e R s m args below meth c D cA A nL g0 n0 Q (pc + 1) L (xI (x ||| y) :: K) st cells slots) : x_V p l e R s m args below meth c D cA A nL g0 n0 Q pc L (xI y :: xI x :: K) st cells slots := by
  intro g H locs ls hW hg hS hl hL hK
  exact lv_ior C.1 C.2.1 hd (k g H locs ls hW hg hS hl hL (xok_cs trivial (xok_tl (xok_tl hK))))
theorem x_ixor (C : x_C p e R s m args meth c D cA A cc own nL) {x y : Int32} (hd : decode cc pc = .ok (.ixor, 1)) (k : x_V p l e R s m args below meth c D cA A nL g0 n0 Q (pc + 1) L (xI (x ^^^ y) :: K) st cells slots) : x_V p l e R s m args below meth c D cA A nL g0 n0 Q pc L (xI y :: xI x :: K) st cells slots := by
  intro g H locs ls hW hg hS hl hL hK
  exact lv_ixor C.1 C.2.1 hd (k g H locs ls hW hg hS hl hL (xok_cs trivial (xok_tl (xok_tl hK))))
theorem x_ishl (C : x_C p e R s m args meth c D cA A cc own nL) {x y : Int32} (hd : decode cc pc = .ok (.ishl, 1)) (k : x_V p l e R s m args below meth c D cA A nL g0 n0 Q (pc + 1) L (xI (x <<< (y &&& 31)) :: K) st cells slots) : x_V p l e R s m args below meth c D cA A nL g0 n0 Q pc L (xI y :: xI x :: K) st cells slots := by
  intro g H locs ls hW hg hS hl hL hK
  exact lv_ishl C.1 C.2.1 hd (k g H locs ls hW hg hS hl hL (xok_cs trivial (xok_tl (xok_tl hK))))
theorem x_ishr (C : x_C p e R s m args meth c D cA A cc own nL) {x y : Int32} (hd : decode cc pc = .ok (.ishr, 1)) (k : x_V p l e R s m args below meth c D cA A nL g0 n0 Q (pc + 1) L (xI (x >>> (y &&& 31)) :: K) st cells slots) : x_V p l e R s m args below meth c D cA A nL g0 n0 Q pc L (xI y :: xI x :: K) st cells slots := by
  intro g H locs ls hW hg hS hl hL hK
  exact lv_ishr C.1 C.2.1 hd (k g H locs ls hW hg hS hl hL (xok_cs trivial (xok_tl (xok_tl hK))))
theorem x_iushr (C : x_C p e R s m args meth c D cA A cc own nL) {x y : Int32} (hd : decode cc pc = .ok (.iushr, 1)) (k : x_V p l e R s m args below meth c D cA A nL g0 n0 Q (pc + 1) L (xI (x.toUInt32 >>> (y.toUInt32 &&& Int32.toUInt32 31)).toInt32 :: K) st cells slots) : x_V p l e R s m args below meth c D cA A nL g0 n0 Q pc L (xI y :: xI x :: K) st cells slots := by
  intro g H locs ls hW hg hS hl hL hK
  exact lv_iushr C.1 C.2.1 hd rfl (k g H locs ls hW hg hS hl hL (xok_cs trivial (xok_tl (xok_tl hK))))
theorem x_idiv (C : x_C p e R s m args meth c D cA A cc own nL) {x y : Int32} (hne : ¬ y = 0) (hd : decode cc pc = .ok (.idiv, 1)) (k : x_V p l e R s m args below meth c D cA A nL g0 n0 Q (pc + 1) L (xI (x / y) :: K) st cells slots) : x_V p l e R s m args below meth c D cA A nL g0 n0 Q pc L (xI y :: xI x :: K) st cells slots := by
  intro g H locs ls hW hg hS hl hL hK
  exact lv_idiv C.1 C.2.1 hd hne (k g H locs ls hW hg hS hl hL (xok_cs trivial (xok_tl (xok_tl hK))))
theorem x_ladd (C : x_C p e R s m args meth c D cA A cc own nL) {x y : Int64} (hd : decode cc pc = .ok (.ladd, 1)) (k : x_V p l e R s m args below meth c D cA A nL g0 n0 Q (pc + 1) L (xL (x + y) :: K) st cells slots) : x_V p l e R s m args below meth c D cA A nL g0 n0 Q pc L (xL y :: xL x :: K) st cells slots := by
  intro g H locs ls hW hg hS hl hL hK
  exact lv_ladd C.1 C.2.1 hd (k g H locs ls hW hg hS hl hL (xok_cs trivial (xok_tl (xok_tl hK))))
theorem x_lsub (C : x_C p e R s m args meth c D cA A cc own nL) {x y : Int64} (hd : decode cc pc = .ok (.lsub, 1)) (k : x_V p l e R s m args below meth c D cA A nL g0 n0 Q (pc + 1) L (xL (x - y) :: K) st cells slots) : x_V p l e R s m args below meth c D cA A nL g0 n0 Q pc L (xL y :: xL x :: K) st cells slots := by
  intro g H locs ls hW hg hS hl hL hK
  exact lv_lsub C.1 C.2.1 hd (k g H locs ls hW hg hS hl hL (xok_cs trivial (xok_tl (xok_tl hK))))
theorem x_land (C : x_C p e R s m args meth c D cA A cc own nL) {x y : Int64} (hd : decode cc pc = .ok (.land, 1)) (k : x_V p l e R s m args below meth c D cA A nL g0 n0 Q (pc + 1) L (xL (x &&& y) :: K) st cells slots) : x_V p l e R s m args below meth c D cA A nL g0 n0 Q pc L (xL y :: xL x :: K) st cells slots := by
  intro g H locs ls hW hg hS hl hL hK
  exact lv_land C.1 C.2.1 hd (k g H locs ls hW hg hS hl hL (xok_cs trivial (xok_tl (xok_tl hK))))
theorem x_lor (C : x_C p e R s m args meth c D cA A cc own nL) {x y : Int64} (hd : decode cc pc = .ok (.lor, 1)) (k : x_V p l e R s m args below meth c D cA A nL g0 n0 Q (pc + 1) L (xL (x ||| y) :: K) st cells slots) : x_V p l e R s m args below meth c D cA A nL g0 n0 Q pc L (xL y :: xL x :: K) st cells slots := by
  intro g H locs ls hW hg hS hl hL hK
  exact lv_lor C.1 C.2.1 hd (k g H locs ls hW hg hS hl hL (xok_cs trivial (xok_tl (xok_tl hK))))
theorem x_lshl (C : x_C p e R s m args meth c D cA A cc own nL) {x : Int64} {y : Int32} (hd : decode cc pc = .ok (.lshl, 1)) (k : x_V p l e R s m args below meth c D cA A nL g0 n0 Q (pc + 1) L (xL (x <<< (y.toInt64 &&& 63)) :: K) st cells slots) : x_V p l e R s m args below meth c D cA A nL g0 n0 Q pc L (xI y :: xL x :: K) st cells slots := by
  intro g H locs ls hW hg hS hl hL hK
  exact lv_lshl C.1 C.2.1 hd rfl (k g H locs ls hW hg hS hl hL (xok_cs trivial (xok_tl (xok_tl hK))))
theorem x_lshr (C : x_C p e R s m args meth c D cA A cc own nL) {x : Int64} {y : Int32} (hd : decode cc pc = .ok (.lshr, 1)) (k : x_V p l e R s m args below meth c D cA A nL g0 n0 Q (pc + 1) L (xL (x >>> (y.toInt64 &&& 63)) :: K) st cells slots) : x_V p l e R s m args below meth c D cA A nL g0 n0 Q pc L (xI y :: xL x :: K) st cells slots := by
  intro g H locs ls hW hg hS hl hL hK
  exact lv_lshr C.1 C.2.1 hd rfl (k g H locs ls hW hg hS hl hL (xok_cs trivial (xok_tl (xok_tl hK))))
theorem x_lushr (C : x_C p e R s m args meth c D cA A cc own nL) {x : Int64} {y : Int32} (hd : decode cc pc = .ok (.lushr, 1)) (k : x_V p l e R s m args below meth c D cA A nL g0 n0 Q (pc + 1) L (xL (x.toUInt64 >>> (y.toInt64.toUInt64 &&& Int64.toUInt64 63)).toInt64 :: K) st cells slots) : x_V p l e R s m args below meth c D cA A nL g0 n0 Q pc L (xI y :: xL x :: K) st cells slots := by
  intro g H locs ls hW hg hS hl hL hK
  exact lv_lushr C.1 C.2.1 hd rfl (k g H locs ls hW hg hS hl hL (xok_cs trivial (xok_tl (xok_tl hK))))
theorem x_i2l (C : x_C p e R s m args meth c D cA A cc own nL) {x : Int32} (hd : decode cc pc = .ok (.i2l, 1)) (k : x_V p l e R s m args below meth c D cA A nL g0 n0 Q (pc + 1) L (xL x.toInt64 :: K) st cells slots) : x_V p l e R s m args below meth c D cA A nL g0 n0 Q pc L (xI x :: K) st cells slots := by
  intro g H locs ls hW hg hS hl hL hK
  exact lv_i2l C.1 C.2.1 hd rfl (k g H locs ls hW hg hS hl hL (xok_cs trivial (xok_tl hK)))
theorem x_l2i (C : x_C p e R s m args meth c D cA A cc own nL) {x : Int64} (hd : decode cc pc = .ok (.l2i, 1)) (k : x_V p l e R s m args below meth c D cA A nL g0 n0 Q (pc + 1) L (xI x.toInt32 :: K) st cells slots) : x_V p l e R s m args below meth c D cA A nL g0 n0 Q pc L (xL x :: K) st cells slots := by
  intro g H locs ls hW hg hS hl hL hK
  exact lv_l2i C.1 C.2.1 hd rfl (k g H locs ls hW hg hS hl hL (xok_cs trivial (xok_tl hK)))
theorem x_lcmp (C : x_C p e R s m args meth c D cA A cc own nL) {x y : Int64} (hd : decode cc pc = .ok (.lcmp, 1)) (k : x_V p l e R s m args below meth c D cA A nL g0 n0 Q (pc + 1) L (xI (lg_cmp x y) :: K) st cells slots) : x_V p l e R s m args below meth c D cA A nL g0 n0 Q pc L (xL y :: xL x :: K) st cells slots := by
  intro g H locs ls hW hg hS hl hL hK
  exact W.lcmp C.1 C.2.1 hd (k g H locs ls hW hg hS hl hL (xok_cs trivial (xok_tl (xok_tl hK))))
theorem x_pop (C : x_C p e R s m args meth c D cA A cc own nL) {x : Int32} (hd : decode cc pc = .ok (.pop, 1)) (k : x_V p l e R s m args below meth c D cA A nL g0 n0 Q (pc + 1) L (K) st cells slots) : x_V p l e R s m args below meth c D cA A nL g0 n0 Q pc L (xI x :: K) st cells slots := by
  intro g H locs ls hW hg hS hl hL hK
  exact lv_pop C.1 C.2.1 hd rfl (k g H locs ls hW hg hS hl hL (xok_tl hK))
theorem x_dup (C : x_C p e R s m args meth c D cA A cc own nL) {v : XV} (hv : xcat v = 1) (hd : decode cc pc = .ok (.dup, 1)) (k : x_V p l e R s m args below meth c D cA A nL g0 n0 Q (pc + 1) L (v :: v :: K) st cells slots) : x_V p l e R s m args below meth c D cA A nL g0 n0 Q pc L (v :: K) st cells slots := by
  intro g H locs ls hW hg hS hl hL hK
  exact lv_dup C.1 C.2.1 hd ((xcat_v g v).trans hv) (k g H locs ls hW hg hS hl hL (xok_cs (xok_hd hK) hK))
theorem x_dup2 (C : x_C p e R s m args meth c D cA A cc own nL) {v w : XV} (hv : xcat v = 1) (hw : xcat w = 1) (hd : decode cc pc = .ok (.dup2, 1)) (k : x_V p l e R s m args below meth c D cA A nL g0 n0 Q (pc + 1) L (v :: w :: v :: w :: K) st cells slots) : x_V p l e R s m args below meth c D cA A nL g0 n0 Q pc L (v :: w :: K) st cells slots := by
  intro g H locs ls hW hg hS hl hL hK
  exact lv_dup2_11 C.1 C.2.1 hd ((xcat_v g v).trans hv) ((xcat_v g w).trans hw) (k g H locs ls hW hg hS hl hL (xok_cs (xok_hd hK) (xok_cs (xok_hd (xok_tl hK)) hK)))
theorem x_iload (C : x_C p e R s m args meth c D cA A cc own nL) {i : Nat} {x : Int32} (hd : decode cc pc = .ok (.iload i, 2)) (w : Nat) (hw : L[w]? = some (i, xI x)) (k : x_V p l e R s m args below meth c D cA A nL g0 n0 Q (pc + 2) L (xI x :: K) st cells slots) : x_V p l e R s m args below meth c D cA A nL g0 n0 Q pc L K st cells slots := by
  intro g H locs ls hW hg hS hl hL hK
  exact lv_iload C.1 C.2.1 hd (lv_at hl w (x_lat hw)) (k g H locs ls hW hg hS hl hL (xok_cs trivial hK))
theorem x_iload_n (C : x_C p e R s m args meth c D cA A cc own nL) {j : Fin 4} {i : Nat} {x : Int32} (hd : decode cc pc = .ok (.iload_n j, 1)) (hi : (j : Nat) = i) (w : Nat) (hw : L[w]? = some (i, xI x)) (k : x_V p l e R s m args below meth c D cA A nL g0 n0 Q (pc + 1) L (xI x :: K) st cells slots) : x_V p l e R s m args below meth c D cA A nL g0 n0 Q pc L K st cells slots := by
  intro g H locs ls hW hg hS hl hL hK
  exact lv_iload_n C.1 C.2.1 hd hi (lv_at hl w (x_lat hw)) (k g H locs ls hW hg hS hl hL (xok_cs trivial hK))
theorem x_lload (C : x_C p e R s m args meth c D cA A cc own nL) {i : Nat} {x : Int64} (hd : decode cc pc = .ok (.lload i, 2)) (w : Nat) (hw : L[w]? = some (i, xL x)) (k : x_V p l e R s m args below meth c D cA A nL g0 n0 Q (pc + 2) L (xL x :: K) st cells slots) : x_V p l e R s m args below meth c D cA A nL g0 n0 Q pc L K st cells slots := by
  intro g H locs ls hW hg hS hl hL hK
  exact lv_lload C.1 C.2.1 hd (lv_at hl w (x_lat hw)) (k g H locs ls hW hg hS hl hL (xok_cs trivial hK))
theorem x_lload_n (C : x_C p e R s m args meth c D cA A cc own nL) {j : Fin 4} {i : Nat} {x : Int64} (hd : decode cc pc = .ok (.lload_n j, 1)) (hi : (j : Nat) = i) (w : Nat) (hw : L[w]? = some (i, xL x)) (k : x_V p l e R s m args below meth c D cA A nL g0 n0 Q (pc + 1) L (xL x :: K) st cells slots) : x_V p l e R s m args below meth c D cA A nL g0 n0 Q pc L K st cells slots := by
  intro g H locs ls hW hg hS hl hL hK
  exact lv_lload_n C.1 C.2.1 hd hi (lv_at hl w (x_lat hw)) (k g H locs ls hW hg hS hl hL (xok_cs trivial hK))
theorem x_aload (C : x_C p e R s m args meth c D cA A cc own nL) {i : Nat} {z : (Nat × Option Nat) ⊕ Nat} (hd : decode cc pc = .ok (.aload i, 2)) (w : Nat) (hw : L[w]? = some (i, .inr (.inr z))) (k : x_V p l e R s m args below meth c D cA A nL g0 n0 Q (pc + 2) L (.inr (.inr z) :: K) st cells slots) : x_V p l e R s m args below meth c D cA A nL g0 n0 Q pc L K st cells slots := by
  intro g H locs ls hW hg hS hl hL hK
  have hz := hL _ (List.mem_of_getElem? hw)
  have ha := lv_at hl w (x_lat (g := g) hw)
  have kk := k g H locs ls hW hg hS hl hL (xok_cs hz hK)
  rcases z with ⟨q, _ | a⟩ | a
  · exact lv_aloadN C.1 C.2.1 hd ha kk
  · exact lv_aload C.1 C.2.1 hd ha kk
  · exact lv_aload C.1 C.2.1 hd ha kk
theorem x_aload_n (C : x_C p e R s m args meth c D cA A cc own nL) {j : Fin 4} {i : Nat} {z : (Nat × Option Nat) ⊕ Nat} (hd : decode cc pc = .ok (.aload_n j, 1)) (hi : (j : Nat) = i) (w : Nat) (hw : L[w]? = some (i, .inr (.inr z))) (k : x_V p l e R s m args below meth c D cA A nL g0 n0 Q (pc + 1) L (.inr (.inr z) :: K) st cells slots) : x_V p l e R s m args below meth c D cA A nL g0 n0 Q pc L K st cells slots := by
  intro g H locs ls hW hg hS hl hL hK
  have hz := hL _ (List.mem_of_getElem? hw)
  have ha := lv_at hl w (x_lat (g := g) hw)
  have kk := k g H locs ls hW hg hS hl hL (xok_cs hz hK)
  rcases z with ⟨q, _ | a⟩ | a
  · exact lv_aload_nN C.1 C.2.1 hd hi ha kk
  · exact lv_aload_n C.1 C.2.1 hd hi ha kk
  · exact lv_aload_n C.1 C.2.1 hd hi ha kk
theorem x_istore (C : x_C p e R s m args meth c D cA A cc own nL) {i : Nat} {x : Int32} {L2 : List (Nat × XV)} (hd : decode cc pc = .ok (.istore i, 2)) (hn : i < nL) (h2 : (i, xI x) :: L.filter (x_f1 i) = L2) (k : x_V p l e R s m args below meth c D cA A nL g0 n0 Q (pc + 2) L2 K st cells slots) : x_V p l e R s m args below meth c D cA A nL g0 n0 Q pc L (xI x :: K) st cells slots := by
  intro g H locs ls hW hg hS hl hL hK
  subst h2
  exact lv_istore C.1 C.2.1 hd hl hn (x_m1 g i (xI x) L) (fun ls2 hl2 => k g H locs ls2 hW hg hS hl2 (xokL_cs trivial (xokL_f hL)) (xok_tl hK))
theorem x_istore_n (C : x_C p e R s m args meth c D cA A cc own nL) {j : Fin 4} {i : Nat} {x : Int32} {L2 : List (Nat × XV)} (hd : decode cc pc = .ok (.istore_n j, 1)) (hi : (j : Nat) = i) (hn : i < nL) (h2 : (i, xI x) :: L.filter (x_f1 i) = L2) (k : x_V p l e R s m args below meth c D cA A nL g0 n0 Q (pc + 1) L2 K st cells slots) : x_V p l e R s m args below meth c D cA A nL g0 n0 Q pc L (xI x :: K) st cells slots := by
  intro g H locs ls hW hg hS hl hL hK
  subst h2
  exact lv_istore_n C.1 C.2.1 hd hi hl hn (x_m1 g i (xI x) L) (fun ls2 hl2 => k g H locs ls2 hW hg hS hl2 (xokL_cs trivial (xokL_f hL)) (xok_tl hK))
theorem x_lstore (C : x_C p e R s m args meth c D cA A cc own nL) {i : Nat} {x : Int64} {L2 : List (Nat × XV)} (hd : decode cc pc = .ok (.lstore i, 2)) (hn : i + 1 < nL) (h2 : (i, xL x) :: L.filter (x_f2 i) = L2) (k : x_V p l e R s m args below meth c D cA A nL g0 n0 Q (pc + 2) L2 K st cells slots) : x_V p l e R s m args below meth c D cA A nL g0 n0 Q pc L (xL x :: K) st cells slots := by
  intro g H locs ls hW hg hS hl hL hK
  subst h2
  exact lv_lstore C.1 C.2.1 hd hl hn (x_m2 g i (xL x) L) (fun ls2 hl2 => k g H locs ls2 hW hg hS hl2 (xokL_cs trivial (xokL_f hL)) (xok_tl hK))
theorem x_lstore_n (C : x_C p e R s m args meth c D cA A cc own nL) {j : Fin 4} {i : Nat} {x : Int64} {L2 : List (Nat × XV)} (hd : decode cc pc = .ok (.lstore_n j, 1)) (hi : (j : Nat) = i) (hn : i + 1 < nL) (h2 : (i, xL x) :: L.filter (x_f2 i) = L2) (k : x_V p l e R s m args below meth c D cA A nL g0 n0 Q (pc + 1) L2 K st cells slots) : x_V p l e R s m args below meth c D cA A nL g0 n0 Q pc L (xL x :: K) st cells slots := by
  intro g H locs ls hW hg hS hl hL hK
  subst h2
  exact lv_lstore_n C.1 C.2.1 hd hi hl hn (x_m2 g i (xL x) L) (fun ls2 hl2 => k g H locs ls2 hW hg hS hl2 (xokL_cs trivial (xokL_f hL)) (xok_tl hK))
theorem x_astore (C : x_C p e R s m args meth c D cA A cc own nL) {i : Nat} {z : (Nat × Option Nat) ⊕ Nat} {L2 : List (Nat × XV)} (hd : decode cc pc = .ok (.astore i, 2)) (hn : i < nL) (h2 : (i, .inr (.inr z)) :: L.filter (x_f1 i) = L2) (k : x_V p l e R s m args below meth c D cA A nL g0 n0 Q (pc + 2) L2 K st cells slots) : x_V p l e R s m args below meth c D cA A nL g0 n0 Q pc L (.inr (.inr z) :: K) st cells slots := by
  intro g H locs ls hW hg hS hl hL hK
  subst h2
  have kk := fun ls2 hl2 => k g H locs ls2 hW hg hS hl2 (xokL_cs (xok_hd hK) (xokL_f hL)) (xok_tl hK)
  rcases z with ⟨q, _ | a⟩ | a
  · exact lv_astoreN C.1 C.2.1 hd hl hn (x_m1 g i (xR q none) L) kk
  · exact lv_astore C.1 C.2.1 hd hl hn (x_m1 g i (xR q (some a)) L) kk
  · exact lv_astore C.1 C.2.1 hd hl hn (x_m1 g i (xA a) L) kk
theorem x_astore_n (C : x_C p e R s m args meth c D cA A cc own nL) {j : Fin 4} {i : Nat} {z : (Nat × Option Nat) ⊕ Nat} {L2 : List (Nat × XV)} (hd : decode cc pc = .ok (.astore_n j, 1)) (hi : (j : Nat) = i) (hn : i < nL) (h2 : (i, .inr (.inr z)) :: L.filter (x_f1 i) = L2) (k : x_V p l e R s m args below meth c D cA A nL g0 n0 Q (pc + 1) L2 K st cells slots) : x_V p l e R s m args below meth c D cA A nL g0 n0 Q pc L (.inr (.inr z) :: K) st cells slots := by
  intro g H locs ls hW hg hS hl hL hK
  subst h2
  have kk := fun ls2 hl2 => k g H locs ls2 hW hg hS hl2 (xokL_cs (xok_hd hK) (xokL_f hL)) (xok_tl hK)
  rcases z with ⟨q, _ | a⟩ | a
  · exact lv_astore_nN C.1 C.2.1 hd hi hl hn (x_m1 g i (xR q none) L) kk
  · exact lv_astore_n C.1 C.2.1 hd hi hl hn (x_m1 g i (xR q (some a)) L) kk
  · exact lv_astore_n C.1 C.2.1 hd hi hl hn (x_m1 g i (xA a) L) kk
theorem x_iinc (C : x_C p e R s m args meth c D cA A cc own nL) {i : Nat} {n : Int} {x v : Int32} {L2 : List (Nat × XV)} (hd : decode cc pc = .ok (.iinc i n, 3)) (w : Nat) (hw : L[w]? = some (i, xI x)) (hv : x + Int32.ofInt n = v) (hn : i < nL) (h2 : (i, xI v) :: L.filter (x_f1 i) = L2) (k : x_V p l e R s m args below meth c D cA A nL g0 n0 Q (pc + 3) L2 K st cells slots) : x_V p l e R s m args below meth c D cA A nL g0 n0 Q pc L K st cells slots := by
  intro g H locs ls hW hg hS hl hL hK
  subst h2
  exact lv_iinc C.1 C.2.1 hd hl (k := w) (x_lat hw) hv hn (x_m1 g i (xI v) L) (fun ls2 hl2 => k g H locs ls2 hW hg hS hl2 (xokL_cs trivial (xokL_f hL)) hK)
theorem x_goto (C : x_C p e R s m args meth c D cA A cc own nL) {off : Int} {tgt : Nat} (hd : decode cc pc = .ok (.goto off, 3)) (ht : (pc : Int) + off = (tgt : Int)) (k : x_V p l e R s m args below meth c D cA A nL g0 n0 Q tgt L K st cells slots) : x_V p l e R s m args below meth c D cA A nL g0 n0 Q pc L K st cells slots := by
  intro g H locs ls hW hg hS hl hL hK
  exact lv_goto C.1 C.2.1 hd ht (k g H locs ls hW hg hS hl hL hK)
theorem x_icmp_eq (C : x_C p e R s m args meth c D cA A cc own nL) {x y : Int32} {off : Int} {tgt : Nat} (hd : decode cc pc = .ok (.if_icmp .eq off, 3)) (ht : (pc : Int) + off = (tgt : Int)) (kt : x = y → x_V p l e R s m args below meth c D cA A nL g0 n0 Q tgt L K st cells slots) (kf : ¬ x = y → x_V p l e R s m args below meth c D cA A nL g0 n0 Q (pc + 3) L K st cells slots) : x_V p l e R s m args below meth c D cA A nL g0 n0 Q pc L (xI y :: xI x :: K) st cells slots := by
  intro g H locs ls hW hg hS hl hL hK
  exact lv_icmp_eq C.1 C.2.1 hd ht (fun q => kt q g H locs ls hW hg hS hl hL (xok_tl (xok_tl hK))) (fun q => kf q g H locs ls hW hg hS hl hL (xok_tl (xok_tl hK)))
theorem x_if_eq (C : x_C p e R s m args meth c D cA A cc own nL) {x : Int32} {off : Int} {tgt : Nat} (hd : decode cc pc = .ok (.ifCond .eq off, 3)) (ht : (pc : Int) + off = (tgt : Int)) (kt : x = 0 → x_V p l e R s m args below meth c D cA A nL g0 n0 Q tgt L K st cells slots) (kf : ¬ x = 0 → x_V p l e R s m args below meth c D cA A nL g0 n0 Q (pc + 3) L K st cells slots) : x_V p l e R s m args below meth c D cA A nL g0 n0 Q pc L (xI x :: K) st cells slots := by
  intro g H locs ls hW hg hS hl hL hK
  exact lv_if_eq C.1 C.2.1 hd ht (fun q => kt q g H locs ls hW hg hS hl hL (xok_tl hK)) (fun q => kf q g H locs ls hW hg hS hl hL (xok_tl hK))
theorem x_icmp_ne (C : x_C p e R s m args meth c D cA A cc own nL) {x y : Int32} {off : Int} {tgt : Nat} (hd : decode cc pc = .ok (.if_icmp .ne off, 3)) (ht : (pc : Int) + off = (tgt : Int)) (kt : ¬ x = y → x_V p l e R s m args below meth c D cA A nL g0 n0 Q tgt L K st cells slots) (kf : x = y → x_V p l e R s m args below meth c D cA A nL g0 n0 Q (pc + 3) L K st cells slots) : x_V p l e R s m args below meth c D cA A nL g0 n0 Q pc L (xI y :: xI x :: K) st cells slots := by
  intro g H locs ls hW hg hS hl hL hK
  exact lv_icmp_ne C.1 C.2.1 hd ht (fun q => kt q g H locs ls hW hg hS hl hL (xok_tl (xok_tl hK))) (fun q => kf q g H locs ls hW hg hS hl hL (xok_tl (xok_tl hK)))
theorem x_if_ne (C : x_C p e R s m args meth c D cA A cc own nL) {x : Int32} {off : Int} {tgt : Nat} (hd : decode cc pc = .ok (.ifCond .ne off, 3)) (ht : (pc : Int) + off = (tgt : Int)) (kt : ¬ x = 0 → x_V p l e R s m args below meth c D cA A nL g0 n0 Q tgt L K st cells slots) (kf : x = 0 → x_V p l e R s m args below meth c D cA A nL g0 n0 Q (pc + 3) L K st cells slots) : x_V p l e R s m args below meth c D cA A nL g0 n0 Q pc L (xI x :: K) st cells slots := by
  intro g H locs ls hW hg hS hl hL hK
  exact lv_if_ne C.1 C.2.1 hd ht (fun q => kt q g H locs ls hW hg hS hl hL (xok_tl hK)) (fun q => kf q g H locs ls hW hg hS hl hL (xok_tl hK))
theorem x_icmp_lt (C : x_C p e R s m args meth c D cA A cc own nL) {x y : Int32} {off : Int} {tgt : Nat} (hd : decode cc pc = .ok (.if_icmp .lt off, 3)) (ht : (pc : Int) + off = (tgt : Int)) (kt : x < y → x_V p l e R s m args below meth c D cA A nL g0 n0 Q tgt L K st cells slots) (kf : ¬ x < y → x_V p l e R s m args below meth c D cA A nL g0 n0 Q (pc + 3) L K st cells slots) : x_V p l e R s m args below meth c D cA A nL g0 n0 Q pc L (xI y :: xI x :: K) st cells slots := by
  intro g H locs ls hW hg hS hl hL hK
  exact lv_icmp_lt C.1 C.2.1 hd ht (fun q => kt q g H locs ls hW hg hS hl hL (xok_tl (xok_tl hK))) (fun q => kf q g H locs ls hW hg hS hl hL (xok_tl (xok_tl hK)))
theorem x_if_lt (C : x_C p e R s m args meth c D cA A cc own nL) {x : Int32} {off : Int} {tgt : Nat} (hd : decode cc pc = .ok (.ifCond .lt off, 3)) (ht : (pc : Int) + off = (tgt : Int)) (kt : x < 0 → x_V p l e R s m args below meth c D cA A nL g0 n0 Q tgt L K st cells slots) (kf : ¬ x < 0 → x_V p l e R s m args below meth c D cA A nL g0 n0 Q (pc + 3) L K st cells slots) : x_V p l e R s m args below meth c D cA A nL g0 n0 Q pc L (xI x :: K) st cells slots := by
  intro g H locs ls hW hg hS hl hL hK
  exact lv_if_lt C.1 C.2.1 hd ht (fun q => kt q g H locs ls hW hg hS hl hL (xok_tl hK)) (fun q => kf q g H locs ls hW hg hS hl hL (xok_tl hK))
theorem x_icmp_ge (C : x_C p e R s m args meth c D cA A cc own nL) {x y : Int32} {off : Int} {tgt : Nat} (hd : decode cc pc = .ok (.if_icmp .ge off, 3)) (ht : (pc : Int) + off = (tgt : Int)) (kt : y ≤ x → x_V p l e R s m args below meth c D cA A nL g0 n0 Q tgt L K st cells slots) (kf : ¬ y ≤ x → x_V p l e R s m args below meth c D cA A nL g0 n0 Q (pc + 3) L K st cells slots) : x_V p l e R s m args below meth c D cA A nL g0 n0 Q pc L (xI y :: xI x :: K) st cells slots := by
  intro g H locs ls hW hg hS hl hL hK
  exact lv_icmp_ge C.1 C.2.1 hd ht (fun q => kt q g H locs ls hW hg hS hl hL (xok_tl (xok_tl hK))) (fun q => kf q g H locs ls hW hg hS hl hL (xok_tl (xok_tl hK)))
theorem x_if_ge (C : x_C p e R s m args meth c D cA A cc own nL) {x : Int32} {off : Int} {tgt : Nat} (hd : decode cc pc = .ok (.ifCond .ge off, 3)) (ht : (pc : Int) + off = (tgt : Int)) (kt : 0 ≤ x → x_V p l e R s m args below meth c D cA A nL g0 n0 Q tgt L K st cells slots) (kf : ¬ 0 ≤ x → x_V p l e R s m args below meth c D cA A nL g0 n0 Q (pc + 3) L K st cells slots) : x_V p l e R s m args below meth c D cA A nL g0 n0 Q pc L (xI x :: K) st cells slots := by
  intro g H locs ls hW hg hS hl hL hK
  exact lv_if_ge C.1 C.2.1 hd ht (fun q => kt q g H locs ls hW hg hS hl hL (xok_tl hK)) (fun q => kf q g H locs ls hW hg hS hl hL (xok_tl hK))
theorem x_icmp_gt (C : x_C p e R s m args meth c D cA A cc own nL) {x y : Int32} {off : Int} {tgt : Nat} (hd : decode cc pc = .ok (.if_icmp .gt off, 3)) (ht : (pc : Int) + off = (tgt : Int)) (kt : y < x → x_V p l e R s m args below meth c D cA A nL g0 n0 Q tgt L K st cells slots) (kf : ¬ y < x → x_V p l e R s m args below meth c D cA A nL g0 n0 Q (pc + 3) L K st cells slots) : x_V p l e R s m args below meth c D cA A nL g0 n0 Q pc L (xI y :: xI x :: K) st cells slots := by
  intro g H locs ls hW hg hS hl hL hK
  exact lv_icmp_gt C.1 C.2.1 hd ht (fun q => kt q g H locs ls hW hg hS hl hL (xok_tl (xok_tl hK))) (fun q => kf q g H locs ls hW hg hS hl hL (xok_tl (xok_tl hK)))
theorem x_if_gt (C : x_C p e R s m args meth c D cA A cc own nL) {x : Int32} {off : Int} {tgt : Nat} (hd : decode cc pc = .ok (.ifCond .gt off, 3)) (ht : (pc : Int) + off = (tgt : Int)) (kt : 0 < x → x_V p l e R s m args below meth c D cA A nL g0 n0 Q tgt L K st cells slots) (kf : ¬ 0 < x → x_V p l e R s m args below meth c D cA A nL g0 n0 Q (pc + 3) L K st cells slots) : x_V p l e R s m args below meth c D cA A nL g0 n0 Q pc L (xI x :: K) st cells slots := by
  intro g H locs ls hW hg hS hl hL hK
  exact lv_if_gt C.1 C.2.1 hd ht (fun q => kt q g H locs ls hW hg hS hl hL (xok_tl hK)) (fun q => kf q g H locs ls hW hg hS hl hL (xok_tl hK))
theorem x_icmp_le (C : x_C p e R s m args meth c D cA A cc own nL) {x y : Int32} {off : Int} {tgt : Nat} (hd : decode cc pc = .ok (.if_icmp .le off, 3)) (ht : (pc : Int) + off = (tgt : Int)) (kt : x ≤ y → x_V p l e R s m args below meth c D cA A nL g0 n0 Q tgt L K st cells slots) (kf : ¬ x ≤ y → x_V p l e R s m args below meth c D cA A nL g0 n0 Q (pc + 3) L K st cells slots) : x_V p l e R s m args below meth c D cA A nL g0 n0 Q pc L (xI y :: xI x :: K) st cells slots := by
  intro g H locs ls hW hg hS hl hL hK
  exact lv_icmp_le C.1 C.2.1 hd ht (fun q => kt q g H locs ls hW hg hS hl hL (xok_tl (xok_tl hK))) (fun q => kf q g H locs ls hW hg hS hl hL (xok_tl (xok_tl hK)))
theorem x_if_le (C : x_C p e R s m args meth c D cA A cc own nL) {x : Int32} {off : Int} {tgt : Nat} (hd : decode cc pc = .ok (.ifCond .le off, 3)) (ht : (pc : Int) + off = (tgt : Int)) (kt : x ≤ 0 → x_V p l e R s m args below meth c D cA A nL g0 n0 Q tgt L K st cells slots) (kf : ¬ x ≤ 0 → x_V p l e R s m args below meth c D cA A nL g0 n0 Q (pc + 3) L K st cells slots) : x_V p l e R s m args below meth c D cA A nL g0 n0 Q pc L (xI x :: K) st cells slots := by
  intro g H locs ls hW hg hS hl hL hK
  exact lv_if_le C.1 C.2.1 hd ht (fun q => kt q g H locs ls hW hg hS hl hL (xok_tl hK)) (fun q => kf q g H locs ls hW hg hS hl hL (xok_tl hK))
theorem x_ifnull (C : x_C p e R s m args meth c D cA A cc own nL) {q : Nat} {o : Option Nat} {off : Int} {tgt : Nat} (hd : decode cc pc = .ok (.ifnull off, 3)) (ht : (pc : Int) + off = (tgt : Int)) (kt : o = none → x_V p l e R s m args below meth c D cA A nL g0 n0 Q tgt L K st cells slots) (kf : ∀ i, o = some i → x_V p l e R s m args below meth c D cA A nL g0 n0 Q (pc + 3) L K st cells slots) : x_V p l e R s m args below meth c D cA A nL g0 n0 Q pc L (xR q o :: K) st cells slots := by
  intro g H locs ls hW hg hS hl hL hK
  cases o with
  | none => exact lv_ifnullN C.1 C.2.1 hd ht (kt rfl g H locs ls hW hg hS hl hL (xok_tl hK))
  | some i => exact lv_ifnull C.1 C.2.1 hd (kf i rfl g H locs ls hW hg hS hl hL (xok_tl hK))
theorem x_ifnonnull (C : x_C p e R s m args meth c D cA A cc own nL) {q : Nat} {o : Option Nat} {off : Int} {tgt : Nat} (hd : decode cc pc = .ok (.ifnonnull off, 3)) (ht : (pc : Int) + off = (tgt : Int)) (kt : ∀ i, o = some i → x_V p l e R s m args below meth c D cA A nL g0 n0 Q tgt L K st cells slots) (kf : o = none → x_V p l e R s m args below meth c D cA A nL g0 n0 Q (pc + 3) L K st cells slots) : x_V p l e R s m args below meth c D cA A nL g0 n0 Q pc L (xR q o :: K) st cells slots := by
  intro g H locs ls hW hg hS hl hL hK
  cases o with
  | none => exact lv_ifnonnullN C.1 C.2.1 hd (kf rfl g H locs ls hW hg hS hl hL (xok_tl hK))
  | some i => exact lv_ifnonnull C.1 C.2.1 hd ht (kt i rfl g H locs ls hW hg hS hl hL (xok_tl hK))
theorem xrf_eq {g : Nat → Nat → Nat} {q : Nat} {o : Option Nat} : xrf g q o = va_rf (o.map (g q)) := by cases o <;> rfl
theorem x_inj {H : Heap} {g : Nat → Nat → Nat} (hW : x_W D cA A g st H) {q : Nat} {a b : Option Nat} (ha : xok st.2.2.2 (xR q a)) (hb : xok st.2.2.2 (xR q b)) (h : a.map (g q) = b.map (g q)) : a = b := by
  cases a with
  | none => cases b with
    | none => rfl
    | some j => cases h
  | some i => cases b with
    | none => cases h
    | some j => rw [(hW.2.1 q i q j ha hb (Option.some.inj h)).2]
theorem x_acmp_eq (C : x_C p e R s m args meth c D cA A cc own nL) {q : Nat} {a b : Option Nat} {off : Int} {tgt : Nat} (hd : decode cc pc = .ok (.if_acmp .eq off, 3)) (ht : (pc : Int) + off = (tgt : Int)) (kt : a = b → x_V p l e R s m args below meth c D cA A nL g0 n0 Q tgt L K st cells slots) (kf : ¬ a = b → x_V p l e R s m args below meth c D cA A nL g0 n0 Q (pc + 3) L K st cells slots) : x_V p l e R s m args below meth c D cA A nL g0 n0 Q pc L (xR q b :: xR q a :: K) st cells slots := by
  intro g H locs ls hW hg hS hl hL hK
  refine W.eq (g2 := F0 m pc ls (va_rf (b.map (g q)) :: va_rf (a.map (g q)) :: K.map (xv g))) (by show F0 m pc ls (xrf g q b :: xrf g q a :: _) = _; rw [xrf_eq, xrf_eq]) ?_
  exact lv_acmp_eq C.1 C.2.1 hd ht (fun z => kt (x_inj hW (xok_hd (xok_tl hK)) (xok_hd hK) z) g H locs ls hW hg hS hl hL (xok_tl (xok_tl hK))) (fun z => kf (fun w => z (by rw [w])) g H locs ls hW hg hS hl hL (xok_tl (xok_tl hK)))
theorem x_acmp_ne (C : x_C p e R s m args meth c D cA A cc own nL) {q : Nat} {a b : Option Nat} {off : Int} {tgt : Nat} (hd : decode cc pc = .ok (.if_acmp .ne off, 3)) (ht : (pc : Int) + off = (tgt : Int)) (kt : ¬ a = b → x_V p l e R s m args below meth c D cA A nL g0 n0 Q tgt L K st cells slots) (kf : a = b → x_V p l e R s m args below meth c D cA A nL g0 n0 Q (pc + 3) L K st cells slots) : x_V p l e R s m args below meth c D cA A nL g0 n0 Q pc L (xR q b :: xR q a :: K) st cells slots := by
  intro g H locs ls hW hg hS hl hL hK
  refine W.eq (g2 := F0 m pc ls (va_rf (b.map (g q)) :: va_rf (a.map (g q)) :: K.map (xv g))) (by show F0 m pc ls (xrf g q b :: xrf g q a :: _) = _; rw [xrf_eq, xrf_eq]) ?_
  exact lv_acmp_ne C.1 C.2.1 hd ht (fun z => kt (fun w => z (by rw [w])) g H locs ls hW hg hS hl hL (xok_tl (xok_tl hK))) (fun z => kf (x_inj hW (xok_hd (xok_tl hK)) (xok_hd hK) z) g H locs ls hW hg hS hl hL (xok_tl (xok_tl hK)))
theorem x_tin (C : x_C p e R s m args meth c D cA A cc own nL) {dflt lo hi : Int} {offs : Array Int} {len : Nat} {x : Int32} {off : Int} {tgt : Nat} (hd : decode cc pc = .ok (.tableswitch dflt lo hi offs, len)) (h1 : ¬ x.toInt < lo) (h2 : ¬ hi < x.toInt) (ho : offs[(x.toInt - lo).toNat]? = some off) (ht : (pc : Int) + off = (tgt : Int)) (k : x_V p l e R s m args below meth c D cA A nL g0 n0 Q tgt L K st cells slots) : x_V p l e R s m args below meth c D cA A nL g0 n0 Q pc L (xI x :: K) st cells slots := by
  intro g H locs ls hW hg hS hl hL hK
  exact lv_tableIn C.1 C.2.1 hd h1 h2 ho ht (k g H locs ls hW hg hS hl hL (xok_tl hK))
theorem x_tout (C : x_C p e R s m args meth c D cA A cc own nL) {dflt lo hi : Int} {offs : Array Int} {len : Nat} {x : Int32} {tgt : Nat} (hd : decode cc pc = .ok (.tableswitch dflt lo hi offs, len)) (h : x.toInt < lo ∨ hi < x.toInt) (ht : (pc : Int) + dflt = (tgt : Int)) (k : x_V p l e R s m args below meth c D cA A nL g0 n0 Q tgt L K st cells slots) : x_V p l e R s m args below meth c D cA A nL g0 n0 Q pc L (xI x :: K) st cells slots := by
  intro g H locs ls hW hg hS hl hL hK
  exact lv_tableOut C.1 C.2.1 hd h ht (k g H locs ls hW hg hS hl hL (xok_tl hK))
theorem x_ldcw (C : x_C p e R s m args meth c D cA A cc own nL) {index : Nat} {v : Int32} (hc : Jvm.Cond.constant own index v ∈ x_tb) (hd : decode cc pc = .ok (.ldc_w index, 3)) (k : x_V p l e R s m args below meth c D cA A nL g0 n0 Q (pc + 3) L (xI v :: K) st cells slots) : x_V p l e R s m args below meth c D cA A nL g0 n0 Q pc L K st cells slots := by
  intro g H locs ls hW hg hS hl hL hK
  exact lv_ldcw C.1 C.2.1 C.2.2.2.1 (C.2.2.2.2.1 _ hc) hd (k g H locs ls hW hg hS hl hL (xok_cs trivial hK))
theorem x_ldc2 (C : x_C p e R s m args meth c D cA A cc own nL) {index : Nat} {v : Int64} (hc : Jvm.Cond.constantLong own index v ∈ x_tb) (hd : decode cc pc = .ok (.ldc2_w index, 3)) (k : x_V p l e R s m args below meth c D cA A nL g0 n0 Q (pc + 3) L (xL v :: K) st cells slots) : x_V p l e R s m args below meth c D cA A nL g0 n0 Q pc L K st cells slots := by
  intro g H locs ls hW hg hS hl hL hK
  exact lv_ldc2 C.1 C.2.1 C.2.2.2.1 (C.2.2.2.2.1 _ hc) hd (k g H locs ls hW hg hS hl hL (xok_cs trivial hK))

end XF
