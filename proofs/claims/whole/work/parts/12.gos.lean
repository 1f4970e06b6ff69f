/-! CALLS, the rows -/
/-- an E is being thrown at pc -/
def x_VT (p : Program) (l : Launch) (e : Env) (R : Room) (s : State) (m : MethodId) (args : Array Value) (below : List Frame) (meth : Method) (c : Code) (D : va_G) (cA : Nat → ClassId) (A : Nat → Prop) (nL : Nat) (g0 : Nat → Nat → Nat) (n0 : Nat → Nat) (Q : State → Prop) (E : String) (pc : Nat) (L : List (Nat × XV)) (K : List XV) (st : XS) (cells slots : Nat) : Prop :=
  ∀ (g : Nat → Nat → Nat) (H : Heap) (locs : List Loc) (ls : Array Slot) (a : Nat), x_W D cA A g st H → x_E g0 n0 g st.2.2.2 → va_S A s.heap H locs → lv_has ls nL (L.map fun z => (z.1, xv g z.2)) → (∀ z ∈ L, xok st.2.2.2 z.2) → (∀ v ∈ K, xok st.2.2.2 v) → ∀ T : State, T.heap = H → Stand p l e R s m args below meth c T locs cells slots → x_Ex E a T → ∃ t, Steps p.tables e below ((T.setTop (F0 m pc ls (K.map (xv g)))).pushFrame (.throwing a)) t ∧ Q t
theorem x_sum (g : Nat → Nat → Nat) (K : List XV) : ((K.map (xv g)).map fun v => v.category).sum = (K.map xcat).sum := by
  rw [List.map_map]; congr 1; exact List.map_congr_left fun v _ => xcat_v g v
section XH
variable {p : Program} {l : Launch} {e : Env} {R : Room} {s : State} {m : MethodId} {args : Array Value} {below : List Frame} {meth : Method} {c : Code} {D : va_G} {cA : Nat → ClassId} {A : Nat → Prop} {nL : Nat} {g0 : Nat → Nat → Nat} {n0 : Nat → Nat} {Q : State → Prop} {cc : ByteArray} {own : String} {pc : Nat} {L : List (Nat × XV)} {K S : List XV} {st st' : XS} {cells slots : Nat} {H : Heap} {locs : List Loc} {ls : Array Slot} {rest : List Value} {g : Nat → Nat → Nat} {mc ms : Nat}
/-- the step into the call -/
abbrev x_Go (p : Program) (l : Launch) (e : Env) (R : Room) (s : State) (m : MethodId) (args : Array Value) (below : List Frame) (meth : Method) (c : Code) (pc : Nat) (H : Heap) (locs : List Loc) (ls : Array Slot) (cells slots : Nat) (y : MethodName) (st0 st1 : List Value) (av : Array Value) : Prop :=
  ∀ T : State, T.heap = H → Stand p l e R s m args below meth c T locs cells slots → ∃ (vm₁ : Vm) (mk : MethodId), s.methodNamed? y = some mk ∧ Stand p l e R s m args below meth c (T.setVm vm₁) locs cells slots ∧ ∀ target, (∀ acts, Steps p.tables e below (doInvoke e ((T.setVm vm₁).setTop (F0 m pc ls st1)) acts mk av).1 target) → Steps p.tables e below (T.setTop (F0 m pc ls st0)) target
theorem x_retW (C : x_C p e R s m args meth c D cA A cc own nL) {M : XM} {RY : Room} {aL : List XV} {v : Option XV} {y : MethodName} (hM : x_M l M RY aL st (.inl v) st' mc ms) (hy : x_CW y M) (hpl : plainFor y = true) (hfr : RY.frames + 1 ≤ R.frames) (hlo : 8 + (M.2.2.1 + 11) + RY.locals ≤ R.locals) (hcl : cells + RY.cells ≤ R.cells) (hsl : slots + RY.slots ≤ R.slots)
    (hW : x_W D cA A g st H) (hg : x_E g0 n0 g st.2.2.2) (hS : va_S A s.heap H locs) (hl : lv_has ls nL (L.map fun z => (z.1, xv g z.2))) (hL : ∀ z ∈ L, xok st.2.2.2 z.2) (hK : ∀ v ∈ K, xok st.2.2.2 v) (hv : ∀ v ∈ aL, xok st.2.2.2 v) (hsum : (K.map xcat).sum ≤ 8) {ig : Instr} (hdg : decode cc pc = .ok (ig, 3)) {st0 : List Value} (hgo : x_Go p l e R s m args below meth c pc H locs ls cells slots y st0 (K.map (xv g)) (aL.map (xv g)).toArray)
    (kk : x_V p l e R s m args below meth c D cA A nL g0 n0 Q (pc + 3) L (v.toList ++ K) st' (cells + mc) (slots + ms)) : W p l e R s m args below meth c H locs cells slots Q (F0 m pc ls st0) := by
  intro T hT X
  obtain ⟨vm₁, mk, hn, X₁, hstep⟩ := hgo T hT X
  obtain ⟨t, T2, Lc, g2, X2, f1, f2, f3, st1, ht, hok⟩ := x_core C hM hy hpl hfr hlo hcl hsl hW hS hv (gf := F0 m pc ls (K.map (xv g))) rfl hl.1 hdg (by show 2 * 0 + _ ≤ 8; rw [x_sum]; omega) (T1 := T.setVm vm₁) hT X₁ hn
  obtain ⟨t3, a1, b1⟩ := kk g2 T2.heap (locs ++ Lc) ls f3 (hg.trans f2) f1 (by rw [x_mapL2 f2 hL]; exact hl) (fun z hz => xok_le f2.2 (hL z hz)) (fun w hw => by
    rcases List.mem_append.mp hw with h | h
    · exact hok w (Option.mem_toList.mp h)
    · exact xok_le f2.2 (hK w h)) T2 rfl X2
  refine ⟨t3, hstep t3 (fun acts => ?_), b1⟩
  rw [doInvoke_state]
  refine st1.trans ?_
  rw [ht]
  have e1 : (v.toList ++ K).map (xv g2) = (v.map (xv g2)).toList ++ K.map (xv g) := by
    rw [List.map_append, x_mapK2 f2 hK]; cases v <;> rfl
  rw [e1] at a1
  exact a1
theorem x_thrW (C : x_C p e R s m args meth c D cA A cc own nL) {M : XM} {RY : Room} {aL : List XV} {E : String} {y : MethodName} (hM : x_M l M RY aL st (.inr E) st' mc ms) (hy : x_CW y M) (hpl : plainFor y = true) (hfr : RY.frames + 1 ≤ R.frames) (hlo : 8 + (M.2.2.1 + 11) + RY.locals ≤ R.locals) (hcl : cells + RY.cells ≤ R.cells) (hsl : slots + RY.slots ≤ R.slots)
    (hW : x_W D cA A g st H) (hg : x_E g0 n0 g st.2.2.2) (hS : va_S A s.heap H locs) (hl : lv_has ls nL (L.map fun z => (z.1, xv g z.2))) (hL : ∀ z ∈ L, xok st.2.2.2 z.2) (hK : ∀ v ∈ K, xok st.2.2.2 v) (hv : ∀ v ∈ aL, xok st.2.2.2 v) (hsum : (K.map xcat).sum ≤ 8) {ig : Instr} (hdg : decode cc pc = .ok (ig, 3)) {st0 : List Value} (hgo : x_Go p l e R s m args below meth c pc H locs ls cells slots y st0 (K.map (xv g)) (aL.map (xv g)).toArray)
    (kk : x_VT p l e R s m args below meth c D cA A nL g0 n0 Q E pc L K st' (cells + mc) (slots + ms)) : W p l e R s m args below meth c H locs cells slots Q (F0 m pc ls st0) := by
  intro T hT X
  obtain ⟨vm₁, mk, hn, X₁, hstep⟩ := hgo T hT X
  obtain ⟨t, T2, Lc, g2, X2, f1, f2, f3, st1, a, ht, hex⟩ := x_core C hM hy hpl hfr hlo hcl hsl hW hS hv (gf := F0 m pc ls (K.map (xv g))) rfl hl.1 hdg (by show 2 * 0 + _ ≤ 8; rw [x_sum]; omega) (T1 := T.setVm vm₁) hT X₁ hn
  obtain ⟨t3, a1, b1⟩ := kk g2 T2.heap (locs ++ Lc) ls a f3 (hg.trans f2) f1 (by rw [x_mapL2 f2 hL]; exact hl) (fun z hz => xok_le f2.2 (hL z hz)) (fun w hw => xok_le f2.2 (hK w hw)) T2 rfl X2 hex
  refine ⟨t3, hstep t3 (fun acts => ?_), b1⟩
  rw [doInvoke_state]
  refine st1.trans ?_
  rw [ht]
  rw [x_mapK2 f2 hK] at a1
  exact a1
theorem x_goS (C : x_C p e R s m args meth c D cA A cc own nL) {M : XM} {y : MethodName} {index : Nat} {av st1 : List Value} (hy : x_CW y M) (hlk : Cond.methodLink own index y ∈ x_tb) (hst : Cond.static y ∈ x_tb) (hin : Cond.initialized y.cls ∈ x_tb) (hmh : y.cls ≠ "java/lang/invoke/MethodHandle" ∧ y.cls ≠ "java/lang/invoke/VarHandle") (hlen : (parseMethodDescriptor y.desc).map (fun d => d.parameters.length) = some av.length) (hd : decode cc pc = .ok (.invokestatic index, 3)) : x_Go p l e R s m args below meth c pc H locs ls cells slots y (av.reverse ++ st1) st1 av.toArray := by
  intro T hT X
  obtain ⟨hx, hb, hml, hown, hts, hKx, -⟩ := C
  obtain ⟨mk, hn⟩ : ∃ mk, s.methodNamed? y = some mk := by
    rcases hy.2.2 with ⟨-, h⟩ | h
    · exact Cond.code_named (hts _ h)
    · obtain ⟨m9, _, _, hn9, -⟩ := Cond.codeWith_spec (hts _ h)
      exact ⟨m9, hn9⟩
  obtain ⟨methM, ck, k1, k2, k3, k4, k5, k6, k7, k8⟩ := x_cw hy hts hn
  have hstatic : methM.isStatic = true := Cond.static_spec hn k1 (hts _ hst)
  obtain ⟨kP, hkP, -⟩ := className_of_methodNamed hn
  have hinitP : kP.init = .initialized := Cond.initialized_spec (findClass_of_methodNamed hn) hkP (hts _ hin)
  have hl2 : av.length = methM.sig.parameters.length := by rw [k8] at hlen; exact (Option.some.inj hlen).symm
  obtain ⟨vm₁, X₁, hstep₁⟩ := X.invokestatic hx hown (hts _ hlk) hn k1 hstatic hkP hinitP hmh (g := F0 m pc ls (av.reverse ++ st1)) rfl (argsL := av) (rest := st1) hl2 rfl (by rw [hb]; exact hd)
  exact ⟨vm₁, mk, hn, X₁, hstep₁⟩
theorem x_goV (C : x_C p e R s m args meth c D cA A cc own nL) {M : XM} {y : MethodName} {index q i ci : Nat} {rw_ : vw_C} {av st1 : List Value} (hy : x_CW y M) (hlk : Cond.methodLink own index y ∈ x_tb) (hst : Cond.instanceMethod y ∈ x_tb) (hc : xk_c q = some ci) (hr : xk_cl[ci]? = some rw_) (hsel : Cond.selects rw_.1 y y ∈ x_tb) (hmh : y.cls ≠ "java/lang/invoke/MethodHandle" ∧ y.cls ≠ "java/lang/invoke/VarHandle") (hlen : (parseMethodDescriptor y.desc).map (fun d => d.parameters.length) = some av.length) (hW : x_W D cA A g st H) (hi : i < st.2.2.2 q) (hd : decode cc pc = .ok (.invokevirtual index, 3)) : x_Go p l e R s m args below meth c pc H locs ls cells slots y (av.reverse ++ .ref (g q i) :: st1) st1 (.ref (g q i) :: av).toArray := by
  intro T hT X
  obtain ⟨hx, hb, hml, hown, hts, hKx, -⟩ := C
  obtain ⟨mk, methM, hn, k0, hstM, habM⟩ := Cond.instanceMethod_spec (hts _ hst)
  obtain ⟨methM', ck, k1, k2, k3, k4, k5, k6, k7, k8⟩ := x_cw hy hts hn
  cases k0.symm.trans k1
  have he := (hW.1 q i hi).1
  rw [xent_obj hc] at he
  obtain ⟨r2, h1, cell, q1, q2, q3, q4⟩ := he
  cases hr.symm.trans h1
  have hcls : s.vm.findClass rw_.1 = some cell.cls := by rw [q2]; exact (hKx.1 ci _ hr).2.1
  obtain ⟨c2, r3, m2, z1, z2, z3, z4, kP, hkP, hkPi⟩ := Cond.selects_spec (hts _ hsel)
  cases hcls.symm.trans z1
  cases (State.methodFound?_of_named hn hmh).symm.trans z2
  cases hn.symm.trans z3
  have hselP : selectMethod e.platform s.vm cell.cls mk = .method mk := by rw [Launch.admits_selectMethod X.admits]; exact z4
  have hl2 : av.length = methM.sig.parameters.length := by rw [k8] at hlen; exact (Option.some.inj hlen).symm
  obtain ⟨vm₁, X₁, hstep₁⟩ := X.invokevirtual hx hown (hts _ hlk) hn k1 hstM hkP hkPi hmh (a := g q i) (cell := cell) (by rw [hT]; exact q1) (fun z h => by rw [q3] at h; cases h) hselP k1 habM hkP hkPi (g := F0 m pc ls (av.reverse ++ .ref (g q i) :: st1)) rfl (argsL := av) (rest := st1) hl2 rfl (by rw [hb]; exact hd)
  exact ⟨vm₁, mk, hn, X₁, hstep₁⟩
theorem x_goI (C : x_C p e R s m args meth c D cA A cc own nL) {M : XM} {y : MethodName} {index a : Nat} {av st1 : List Value} (hy : x_CW y M) (hh : M.2.2.2.2.1 = []) (hret : M.2.2.2.1 = none) (hcode : Cond.code y M.2.1 M.2.2.1 none ∈ x_tb) (hnm : y.name = "<init>") (hlk : Cond.methodLink own index y ∈ x_tb ∨ ∃ host, Cond.methodLinkNest own index y host ∈ xk_nest) (hst : Cond.instanceMethod y ∈ x_tb) (hmh : y.cls ≠ "java/lang/invoke/MethodHandle" ∧ y.cls ≠ "java/lang/invoke/VarHandle") (hlen : (parseMethodDescriptor y.desc).map (fun d => d.parameters.length) = some av.length) (hd : decode cc pc = .ok (.invokespecial index, 3)) : x_Go p l e R s m args below meth c pc H locs ls cells slots y (av.reverse ++ .ref a :: st1) st1 (.ref a :: av).toArray := by
  intro T hT X
  obtain ⟨hx, hb, hml, hown, hts, hKx, -⟩ := C
  have hpl : e.platform.magicAccessors = ({} : Platform).magicAccessors := by rw [X.admits.platform]
  have hl2 : ∀ sig, parseMethodDescriptor y.desc = some sig → av.length = sig.parameters.length := fun sig h => by rw [h] at hlen; exact (Option.some.inj hlen).symm
  rcases hlk with h | ⟨host, h⟩
  · obtain ⟨mk, methM, cM, kP, vm₁, hnamed, hmethM, hcodeM, -, hlocalsM, -, hkP, -, hW₁, hstep₁⟩ := Steps.initColdArgs (e := e) X.here hx X.warmed hpl hown hnm hmh (hts _ h) (hts _ hst) (hts _ hcode) (f := F0 m pc ls (av.reverse ++ .ref a :: st1)) rfl hl2 rfl (by rw [hb]; exact hd)
    exact ⟨vm₁, mk, hnamed, X.noted hW₁, hstep₁⟩
  · obtain ⟨mk, methM, cM, kP, vm₁, hnamed, hmethM, hcodeM, -, hlocalsM, -, hkP, -, hW₁, hstep₁⟩ := Steps.initColdArgsNest (e := e) X.here hx X.warmed hpl hown hnm hmh (va_Nw.use rfl (hKx.2.2 _ h)) (hts _ hst) (hts _ hcode) (f := F0 m pc ls (av.reverse ++ .ref a :: st1)) rfl hl2 rfl (by rw [hb]; exact hd)
    exact ⟨vm₁, mk, hnamed, X.noted hW₁, hstep₁⟩
end XH
