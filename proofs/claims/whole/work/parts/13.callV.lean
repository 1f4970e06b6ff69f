/-! CALLS over pools, thrown exceptions -/
/-- what the tables say of a static call -/
def x_SS (own : String) (index : Nat) (y : MethodName) (M : XM) (n : Nat) : Prop := x_CW y M ∧ plainFor y = true ∧ Cond.methodLink own index y ∈ x_tb ∧ Cond.static y ∈ x_tb ∧ Cond.initialized y.cls ∈ x_tb ∧ (y.cls ≠ "java/lang/invoke/MethodHandle" ∧ y.cls ≠ "java/lang/invoke/VarHandle") ∧ (parseMethodDescriptor y.desc).map (fun d => d.parameters.length) = some n
/-- .. of a virtual one, on an object of the pool q -/
def x_SV (own : String) (index : Nat) (y : MethodName) (M : XM) (q n : Nat) : Prop := x_CW y M ∧ plainFor y = true ∧ Cond.methodLink own index y ∈ x_tb ∧ Cond.instanceMethod y ∈ x_tb ∧ (∃ ci r, xk_c q = some ci ∧ xk_cl[ci]? = some r ∧ Cond.selects r.1 y y ∈ x_tb) ∧ (y.cls ≠ "java/lang/invoke/MethodHandle" ∧ y.cls ≠ "java/lang/invoke/VarHandle") ∧ (parseMethodDescriptor y.desc).map (fun d => d.parameters.length) = some n
/-- .. of a constructor's -/
def x_SI (own : String) (index : Nat) (y : MethodName) (M : XM) (n : Nat) : Prop := x_CW y M ∧ plainFor y = true ∧ (M.2.2.2.2.1 = [] ∧ M.2.2.2.1 = none ∧ Cond.code y M.2.1 M.2.2.1 none ∈ x_tb ∧ y.name = "<init>") ∧ (Cond.methodLink own index y ∈ x_tb ∨ ∃ host, Cond.methodLinkNest own index y host ∈ xk_nest) ∧ Cond.instanceMethod y ∈ x_tb ∧ (y.cls ≠ "java/lang/invoke/MethodHandle" ∧ y.cls ≠ "java/lang/invoke/VarHandle") ∧ (parseMethodDescriptor y.desc).map (fun d => d.parameters.length) = some n
/-- the callee's room is in the caller's -/
abbrev x_RM (R RY : Room) (n cells slots : Nat) : Prop := RY.frames + 1 ≤ R.frames ∧ 8 + (n + 11) + RY.locals ≤ R.locals ∧ cells + RY.cells ≤ R.cells ∧ slots + RY.slots ≤ R.slots
theorem x_okA {cnt : Nat → Nat} {aL K : List XV} (h : ∀ v ∈ aL.reverse ++ K, xok cnt v) : (∀ v ∈ aL, xok cnt v) ∧ ∀ v ∈ K, xok cnt v := ⟨fun v hv => h v (List.mem_append_left _ (List.mem_reverse.mpr hv)), fun v hv => h v (List.mem_append_right _ hv)⟩
section XI
variable {p : Program} {l : Launch} {e : Env} {R : Room} {s : State} {m : MethodId} {args : Array Value} {below : List Frame} {meth : Method} {c : Code} {D : va_G} {cA : Nat → ClassId} {A : Nat → Prop} {nL : Nat} {g0 : Nat → Nat → Nat} {n0 : Nat → Nat} {Q : State → Prop} {cc : ByteArray} {own : String} {pc : Nat} {L : List (Nat × XV)} {K S : List XV} {st st' : XS} {cells slots : Nat} {H : Heap} {locs : List Loc} {ls : Array Slot} {rest : List Value} {g : Nat → Nat → Nat} {mc ms : Nat}
theorem x_callS (C : x_C p e R s m args meth c D cA A cc own nL) {M : XM} {RY : Room} {aL : List XV} {v : Option XV} {y : MethodName} {index : Nat} (hs : x_SS own index y M aL.length) (hM : x_M l M RY (aL) st (.inl v) st' mc ms) (hr : x_RM R RY M.2.2.1 cells slots) (hS0 : S = aL.reverse ++ K) (hsum : (K.map xcat).sum ≤ 8) (hd : decode cc pc = .ok (.invokestatic index, 3)) (kk : x_V p l e R s m args below meth c D cA A nL g0 n0 Q (pc + 3) L (v.toList ++ K) st' (cells + mc) (slots + ms)) : x_V p l e R s m args below meth c D cA A nL g0 n0 Q pc L S st cells slots := by
  intro g H locs ls hW hg hS hl hL hK
  subst hS0
  obtain ⟨h1, h2⟩ := x_okA hK
  have hgo := x_goS (p := p) (l := l) (e := e) (R := R) (below := below) (H := H) (locs := locs) (ls := ls) (cells := cells) (slots := slots) (av := aL.map (xv g)) (st1 := K.map (xv g)) C hs.1 hs.2.2.1 hs.2.2.2.1 hs.2.2.2.2.1 hs.2.2.2.2.2.1 (by rw [List.length_map]; exact hs.2.2.2.2.2.2) hd
  have e1 : (aL.reverse ++ K).map (xv g) = (aL.map (xv g)).reverse ++ K.map (xv g) := by rw [List.map_append, List.map_reverse]
  rw [e1]
  exact x_retW C hM hs.1 hs.2.1 hr.1 hr.2.1 hr.2.2.1 hr.2.2.2 hW hg hS hl hL h2 h1 hsum hd hgo kk
theorem x_callSt (C : x_C p e R s m args meth c D cA A cc own nL) {M : XM} {RY : Room} {aL : List XV} {E : String} {y : MethodName} {index : Nat} (hs : x_SS own index y M aL.length) (hM : x_M l M RY (aL) st (.inr E) st' mc ms) (hr : x_RM R RY M.2.2.1 cells slots) (hS0 : S = aL.reverse ++ K) (hsum : (K.map xcat).sum ≤ 8) (hd : decode cc pc = .ok (.invokestatic index, 3)) (kk : x_VT p l e R s m args below meth c D cA A nL g0 n0 Q E pc L K st' (cells + mc) (slots + ms)) : x_V p l e R s m args below meth c D cA A nL g0 n0 Q pc L S st cells slots := by
  intro g H locs ls hW hg hS hl hL hK
  subst hS0
  obtain ⟨h1, h2⟩ := x_okA hK
  have hgo := x_goS (p := p) (l := l) (e := e) (R := R) (below := below) (H := H) (locs := locs) (ls := ls) (cells := cells) (slots := slots) (av := aL.map (xv g)) (st1 := K.map (xv g)) C hs.1 hs.2.2.1 hs.2.2.2.1 hs.2.2.2.2.1 hs.2.2.2.2.2.1 (by rw [List.length_map]; exact hs.2.2.2.2.2.2) hd
  have e1 : (aL.reverse ++ K).map (xv g) = (aL.map (xv g)).reverse ++ K.map (xv g) := by rw [List.map_append, List.map_reverse]
  rw [e1]
  exact x_thrW C hM hs.1 hs.2.1 hr.1 hr.2.1 hr.2.2.1 hr.2.2.2 hW hg hS hl hL h2 h1 hsum hd hgo kk
theorem x_callV (C : x_C p e R s m args meth c D cA A cc own nL) {M : XM} {RY : Room} {bL : List XV} {q i : Nat} {v : Option XV} {y : MethodName} {index : Nat} (hs : x_SV own index y M q bL.length) (hM : x_M l M RY (xR q (some i) :: bL) st (.inl v) st' mc ms) (hr : x_RM R RY M.2.2.1 cells slots) (hS0 : S = bL.reverse ++ xR q (some i) :: K) (hsum : (K.map xcat).sum ≤ 8) (hd : decode cc pc = .ok (.invokevirtual index, 3)) (kk : x_V p l e R s m args below meth c D cA A nL g0 n0 Q (pc + 3) L (v.toList ++ K) st' (cells + mc) (slots + ms)) : x_V p l e R s m args below meth c D cA A nL g0 n0 Q pc L S st cells slots := by
  intro g H locs ls hW hg hS hl hL hK
  subst hS0
  obtain ⟨h1, h2⟩ := x_okA hK
  obtain ⟨ci, r, hc, hrr, hsel⟩ := hs.2.2.2.2.1
  have hgo := x_goV (p := p) (l := l) (e := e) (R := R) (below := below) (H := H) (locs := locs) (ls := ls) (cells := cells) (slots := slots) (av := bL.map (xv g)) (st1 := K.map (xv g)) C hs.1 hs.2.2.1 hs.2.2.2.1 hc hrr hsel hs.2.2.2.2.2.1 (by rw [List.length_map]; exact hs.2.2.2.2.2.2) hW (xok_hd h2) hd
  have e1 : (bL.reverse ++ xR q (some i) :: K).map (xv g) = (bL.map (xv g)).reverse ++ .ref (g q i) :: K.map (xv g) := by rw [List.map_append, List.map_reverse]; rfl
  rw [e1]
  exact x_retW C hM hs.1 hs.2.1 hr.1 hr.2.1 hr.2.2.1 hr.2.2.2 hW hg hS hl hL (xok_tl h2) (xok_cs (xok_hd h2) h1) hsum hd hgo kk
theorem x_callVt (C : x_C p e R s m args meth c D cA A cc own nL) {M : XM} {RY : Room} {bL : List XV} {q i : Nat} {E : String} {y : MethodName} {index : Nat} (hs : x_SV own index y M q bL.length) (hM : x_M l M RY (xR q (some i) :: bL) st (.inr E) st' mc ms) (hr : x_RM R RY M.2.2.1 cells slots) (hS0 : S = bL.reverse ++ xR q (some i) :: K) (hsum : (K.map xcat).sum ≤ 8) (hd : decode cc pc = .ok (.invokevirtual index, 3)) (kk : x_VT p l e R s m args below meth c D cA A nL g0 n0 Q E pc L K st' (cells + mc) (slots + ms)) : x_V p l e R s m args below meth c D cA A nL g0 n0 Q pc L S st cells slots := by
  intro g H locs ls hW hg hS hl hL hK
  subst hS0
  obtain ⟨h1, h2⟩ := x_okA hK
  obtain ⟨ci, r, hc, hrr, hsel⟩ := hs.2.2.2.2.1
  have hgo := x_goV (p := p) (l := l) (e := e) (R := R) (below := below) (H := H) (locs := locs) (ls := ls) (cells := cells) (slots := slots) (av := bL.map (xv g)) (st1 := K.map (xv g)) C hs.1 hs.2.2.1 hs.2.2.2.1 hc hrr hsel hs.2.2.2.2.2.1 (by rw [List.length_map]; exact hs.2.2.2.2.2.2) hW (xok_hd h2) hd
  have e1 : (bL.reverse ++ xR q (some i) :: K).map (xv g) = (bL.map (xv g)).reverse ++ .ref (g q i) :: K.map (xv g) := by rw [List.map_append, List.map_reverse]; rfl
  rw [e1]
  exact x_thrW C hM hs.1 hs.2.1 hr.1 hr.2.1 hr.2.2.1 hr.2.2.2 hW hg hS hl hL (xok_tl h2) (xok_cs (xok_hd h2) h1) hsum hd hgo kk
theorem x_callI (C : x_C p e R s m args meth c D cA A cc own nL) {M : XM} {RY : Room} {bL : List XV} {q i : Nat} {v : Option XV} {y : MethodName} {index : Nat} (hs : x_SI own index y M bL.length) (hM : x_M l M RY (xR q (some i) :: bL) st (.inl v) st' mc ms) (hr : x_RM R RY M.2.2.1 cells slots) (hS0 : S = bL.reverse ++ xR q (some i) :: K) (hsum : (K.map xcat).sum ≤ 8) (hd : decode cc pc = .ok (.invokespecial index, 3)) (kk : x_V p l e R s m args below meth c D cA A nL g0 n0 Q (pc + 3) L (v.toList ++ K) st' (cells + mc) (slots + ms)) : x_V p l e R s m args below meth c D cA A nL g0 n0 Q pc L S st cells slots := by
  intro g H locs ls hW hg hS hl hL hK
  subst hS0
  obtain ⟨h1, h2⟩ := x_okA hK
  have hgo := x_goI (p := p) (l := l) (e := e) (R := R) (below := below) (H := H) (locs := locs) (ls := ls) (cells := cells) (slots := slots) (a := g q i) (av := bL.map (xv g)) (st1 := K.map (xv g)) C hs.1 hs.2.2.1.1 hs.2.2.1.2.1 hs.2.2.1.2.2.1 hs.2.2.1.2.2.2 hs.2.2.2.1 hs.2.2.2.2.1 hs.2.2.2.2.2.1 (by rw [List.length_map]; exact hs.2.2.2.2.2.2) hd
  have e1 : (bL.reverse ++ xR q (some i) :: K).map (xv g) = (bL.map (xv g)).reverse ++ .ref (g q i) :: K.map (xv g) := by rw [List.map_append, List.map_reverse]; rfl
  rw [e1]
  exact x_retW C hM hs.1 hs.2.1 hr.1 hr.2.1 hr.2.2.1 hr.2.2.2 hW hg hS hl hL (xok_tl h2) (xok_cs (xok_hd h2) h1) hsum hd hgo kk
theorem x_oinit (C : x_C p e R s m args meth c D cA A cc own nL) {q i index : Nat} (h1 : Cond.methodLink own index objectInit ∈ x_tb) (h2 : Cond.instanceMethod objectInit ∈ x_tb) (h3 : Cond.code objectInit ⟨#[0xb1]⟩ 1 none ∈ x_tb) (hf : 1 ≤ R.frames) (hlo : (K.map xcat).sum + 12 ≤ R.locals) (hd : decode cc pc = .ok (.invokespecial index, 3)) (kk : x_V p l e R s m args below meth c D cA A nL g0 n0 Q (pc + 3) L K st cells slots) : x_V p l e R s m args below meth c D cA A nL g0 n0 Q pc L (xR q (some i) :: K) st cells slots := by
  intro g H locs ls hW hg hS hl hL hK
  obtain ⟨hx, hb, hml, hown, hts, hKx, -⟩ := C
  refine W.objInit hx hb hown (hts _ h1) (hts _ h2) (hts _ h3) rfl (by rw [hml]; exact hl.1) rfl hd hf (by show 2 * 0 + _ + 12 ≤ _; rw [x_sum]; omega) ?_
  exact kk g H locs ls hW hg hS hl hL (xok_tl hK)
/-- the method throws on what a callee threw -/
theorem x_out (C : x_C p e R s m args meth c D cA (x_A g0 n0 s.heap.size) cc own nL) {E : String} (ho : ∀ x ∈ c.exceptionTable.toList, covers x pc = false) (hc : cells ≤ mc) (hs : slots ≤ ms) : x_VT p l e R s m args below meth c D cA (x_A g0 n0 s.heap.size) nL g0 n0 (x_MQ D cA g0 n0 below s mc ms (.inr E) st) E pc L K st cells slots := by
  intro g H locs ls a hW hg hS hl hL hK T hT X hex
  have X' := stand_widen X hc hs
  obtain ⟨h1, h2, h3, h4, h5⟩ := X'.leaveThrown a (g := F0 m pc ls (K.map (xv g))) rfl rfl rfl ho (hlocks := C.2.2.2.2.2.2.1)
  have eh : (T.setFrames (.throwing a :: below)).heap = H := hT
  refine ⟨_, h1, .threw a, locs, g, h2, h3, h4, h5, hS.2.2, hS.F eh, hg, by rw [eh]; exact hW, a, rfl, ?_⟩
  exact hex
end XI
