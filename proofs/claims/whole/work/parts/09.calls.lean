/-! METHODS AS CONTRACTS over pools, and calls: a method returns or throws -/
theorem x_weak {tb : Tables} {e : Env} {f : Frame} {below : List Frame} {a b : State} (hf : ∀ x, f ≠ .throwing x) (h : Steps tb e (f :: below) a b) : Steps tb e below a b := by
  obtain ⟨n, h1, h2⟩ := h
  refine ⟨n, h1, fun k hk => ?_⟩
  obtain ⟨above, h3, h4, h5⟩ := h2 k hk
  refine ⟨above ++ [f], by rw [h3]; simp, by simp, fun x hx => ?_⟩
  cases above with
  | nil => exact h4 rfl
  | cons y ys => cases ys <;> simp at hx
theorem x_K.moved {D : va_G} {cA : Nat → ClassId} {u U : State} (hW : u.WarmedH U.vm) (h : x_K D cA u) : x_K D cA U := by
  refine ⟨fun c q hq => u_Kn_moved hW.alike (h.1 c q hq), fun q ty hq => ⟨arrOfT_moved hW.alike (h.2.1 q ty hq).1, (h.2.1 q ty hq).2.moved hW.alike⟩, fun w hw => ?_⟩
  have h1 := h.2.2 w hw
  rcases xk_nestform w hw with ⟨a, i, b, n, d, ho, rfl⟩ | ⟨a, i, x, ho, rfl⟩
  · exact va_Nw.warmF hW h1
  · exact va_Nw.warmM hW h1
/-- an exception's object -/
def x_Ex (E : String) (a : Nat) (t : State) : Prop := ∃ cell, t.heap[a]? = some cell ∧ (∀ k, cell.vm ≠ .statics k) ∧ t.vm.findClass E = some cell.cls
abbrev XR : Type := Option XV ⊕ String
/-- a method's end: it returned v, or threw an E; the world is st' -/
def x_MQ (D : va_G) (cA : Nat → ClassId) (g0 : Nat → Nat → Nat) (n0 : Nat → Nat) (below : List Frame) (s : State) (mc ms : Nat) (r : XR) (st' : XS) : State → Prop := fun t =>
  ∃ (o : Outcome) (L : List Loc) (g : Nat → Nat → Nat), t.status = .running ∧ Ended t below o ∧ s.WarmedH t.vm ∧ s.sameButNew ({ t with vm := s.vm } : State) L mc ms ∧ (∀ q ∈ L, x_A g0 n0 s.heap.size q.base) ∧ va_F (x_A g0 n0 s.heap.size) s t ∧ x_E g0 n0 g st'.2.2.2 ∧ x_W D cA (x_A g0 n0 s.heap.size) g st' t.heap ∧
    (match r with
      | .inl v => o = .returned (v.map (xv g)) ∧ ∀ w, v = some w → xok st'.2.2.2 w
      | .inr E => ∃ a, o = .threw a ∧ x_Ex E a t)
/-- what holds when a body begins -/
def x_B (M : XM) (p : Program) (s : State) (m : MethodId) (args : Array Value) (meth : Method) (c : Code) (D : va_G) (cA : Nat → ClassId) (g : Nat → Nat → Nat) (st : XS) : Prop :=
  p.tables.exec = Jvm.exec ∧ c.code = M.2.1 ∧ c.maxLocals = M.2.2.1 ∧ s.vm.findClass M.1 = some m.cls ∧ (∀ w ∈ x_tb, w.before args s = true) ∧ x_K D cA s ∧ meth.locks = false ∧ meth.name = M.2.2.2.2.2 ∧ meth.sig.returnType = M.2.2.2.1 ∧ c.exceptionTable.toList.map (fun h => (h.startPc, h.endPc, h.handlerPc, h.catchType)) = M.2.2.2.2.1 ∧ x_Th (x_A g st.2.2.2 s.heap.size) s s.heap ∧ x_W D cA (x_A g st.2.2.2 s.heap.size) g st s.heap
/-- THE CONTRACT of a method at a launch, with room R, for these arguments and this world: how it ends -/
def x_M (l : Launch) (M : XM) (R : Room) (aL : List XV) (st : XS) (r : XR) (st' : XS) (mc ms : Nat) : Prop :=
  ∀ (p : Program) (e : Env) (s : State) (m : MethodId) (below : List Frame) (meth : Method) (c : Code) (D : va_G) (cA : Nat → ClassId) (g : Nat → Nat → Nat), x_B M p s m (aL.map (xv g)).toArray meth c D cA g st → (∀ v ∈ aL, xok st.2.2.2 v) →
    W p l e R s m (aL.map (xv g)).toArray below meth c s.heap [] 0 0 (x_MQ D cA g st.2.2.2 below s mc ms r st') (entryFrame m (aL.map (xv g)).toArray M.2.2.1)
