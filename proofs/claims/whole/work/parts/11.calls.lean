/-! CALLS: the callee's contract, walked into and out of -/
/-- the words say that M is the method y -/
def x_CW (y : MethodName) (M : XM) : Prop := M.1 = y.cls ∧ M.2.2.2.2.2 = y.name ∧ ((M.2.2.2.2.1 = [] ∧ Cond.code y M.2.1 M.2.2.1 M.2.2.2.1 ∈ x_tb) ∨ Cond.codeWith y M.2.1 M.2.2.1 M.2.2.2.1 M.2.2.2.2.1 ∈ x_tb)
theorem x_cw {y : MethodName} {M : XM} {args : Array Value} {s : State} {mk : MethodId} (h : x_CW y M) (hts : ∀ w ∈ x_tb, w.before args s = true) (hn : s.methodNamed? y = some mk) : ∃ methM ck, s.vm.method? mk = some methM ∧ methM.code = some ck ∧ ck.code = M.2.1 ∧ ck.maxLocals = M.2.2.1 ∧ methM.sig.returnType = M.2.2.2.1 ∧ methM.locks = false ∧ ck.exceptionTable.toList.map (fun h => (h.startPc, h.endPc, h.handlerPc, h.catchType)) = M.2.2.2.2.1 ∧ parseMethodDescriptor y.desc = some methM.sig := by
  rcases h.2.2 with ⟨h0, h1⟩ | h1
  · obtain ⟨meth, c, q1, q2, q3, q4, q5, q6, q7, q8⟩ := Cond.code_spec hn (hts _ h1)
    refine ⟨meth, c, q1, q2, q3, q4, q5, q6, ?_, q8⟩
    rw [h0]
    have : c.exceptionTable = #[] := by simpa using q7
    rw [this]; rfl
  · obtain ⟨m9, meth, c, hn9, q1, q2, q3, q4, q5, q6, q7, q8⟩ := Cond.codeWith_spec (hts _ h1)
    cases hn.symm.trans hn9
    exact ⟨meth, c, q1, q2, q3, q4, q6, q7, q5, q8⟩
theorem x_good {w : Cond} (h : w ∈ x_tb) : (w.onTables && w.keeps) = true ∨ ∃ ty, w = .arrayClass ty := good_of_word (List.mem_filter.mp h).2
theorem x_E.trans {g0 g g' : Nat → Nat → Nat} {n0 n n' : Nat → Nat} (h : x_E g0 n0 g n) (h' : x_E g n g' n') : x_E g0 n0 g' n' := ⟨fun q i hi => (h'.1 q i (Nat.lt_of_lt_of_le hi (h.2 q))).trans (h.1 q i hi), fun q => Nat.le_trans (h.2 q) (h'.2 q)⟩
theorem xv_E {g g' : Nat → Nat → Nat} {n n' : Nat → Nat} {v : XV} (h : x_E g n g' n') (hv : xok n v) : xv g' v = xv g v := by
  rcases v with x | y | ⟨r, _ | i⟩ | b
  · rfl
  · rfl
  · rfl
  · show Value.ref (g' r i) = Value.ref (g r i)
    rw [h.1 r i hv]
  · rfl
theorem x_mapL2 {g g' : Nat → Nat → Nat} {n n' : Nat → Nat} {L : List (Nat × XV)} (h : x_E g n g' n') (hL : ∀ z ∈ L, xok n z.2) : (L.map fun z => (z.1, xv g' z.2)) = L.map fun z => (z.1, xv g z.2) := List.map_congr_left fun z hz => by rw [xv_E h (hL z hz)]
theorem x_mapK2 {g g' : Nat → Nat → Nat} {n n' : Nat → Nat} {K : List XV} (h : x_E g n g' n') (hK : ∀ v ∈ K, xok n v) : K.map (xv g') = K.map (xv g) := List.map_congr_left fun v hv => xv_E h (hK v hv)
theorem x_W.weak {D : va_G} {cA : Nat → ClassId} {A B : Nat → Prop} {g : Nat → Nat → Nat} {st : XS} {H : Heap} (h : x_W D cA A g st H) (hAB : ∀ a, A a → B a) : x_W D cA B g st H := ⟨fun q i hi => ⟨(h.1 q i hi).1, hAB _ (h.1 q i hi).2⟩, h.2⟩
section XD
variable {p : Program} {l : Launch} {e : Env} {R : Room} {s : State} {m : MethodId} {args : Array Value} {below : List Frame} {meth : Method} {c : Code} {D : va_G} {cA : Nat → ClassId} {A : Nat → Prop} {nL : Nat} {g0 : Nat → Nat → Nat} {n0 : Nat → Nat} {Q : State → Prop} {cc : ByteArray} {own : String} {pc : Nat} {L : List (Nat × XV)} {K : List XV} {st : XS} {cells slots : Nat} {H : Heap} {locs : List Loc} {ls : Array Slot} {rest : List Value} {g : Nat → Nat → Nat} {mc ms : Nat}
theorem x_core (C : x_C p e R s m args meth c D cA A cc own nL) {M : XM} {RY : Room} {aL : List XV} {st' : XS} {r : XR} {y : MethodName} (hM : x_M l M RY aL st r st' mc ms) (hy : x_CW y M) (hpl : plainFor y = true) (hfr : RY.frames + 1 ≤ R.frames) (hlo : 8 + (M.2.2.1 + 11) + RY.locals ≤ R.locals) (hcl : cells + RY.cells ≤ R.cells) (hsl : slots + RY.slots ≤ R.slots)
    (hW : x_W D cA A g st H) (hS : va_S A s.heap H locs) (hv : ∀ v ∈ aL, xok st.2.2.2 v) {gf : JFrame} (hgm : gf.method = m) (hsz : gf.locals.size = nL) {ig : Instr} {len : Nat} (hdg : decode cc gf.pc = .ok (ig, len)) (hst : 2 * gf.monitorRoom + (gf.stack.map fun v => v.category).sum ≤ 8)
    {T1 : State} (hT : T1.heap = H) (X : Stand p l e R s m args below meth c T1 locs cells slots) {mk : MethodId} (hn : s.methodNamed? y = some mk) :
    ∃ (t T2 : State) (Lc : List Loc) (g2 : Nat → Nat → Nat), Stand p l e R s m args below meth c T2 (locs ++ Lc) (cells + mc) (slots + ms) ∧ va_S A s.heap T2.heap (locs ++ Lc) ∧ x_E g st.2.2.2 g2 st'.2.2.2 ∧ x_W D cA A g2 st' T2.heap ∧ Steps p.tables e below (doInvoke e (T1.setTop gf) [] mk (aL.map (xv g)).toArray).1 t ∧
      (match r with
        | .inl v => t = T2.setTop { gf with pc := gf.pc + len, stack := (v.map (xv g2)).toList ++ gf.stack } ∧ ∀ w, v = some w → xok st'.2.2.2 w
        | .inr E => ∃ a, t = (T2.setTop gf).pushFrame (.throwing a) ∧ x_Ex E a T2) := by
  obtain ⟨hx, hb, hml, hown, hts, hKx, hlk, hA, hTh⟩ := C
  subst hT
  have hdg' : decode c.code gf.pc = .ok (ig, len) := by rw [hb]; exact hdg
  have hts1 : ∀ (a : Array Value) (w : Cond), w ∈ x_tb → w.before a T1 = true := fun a w hw => word_at X.warmed (x_good hw) (hts w hw)
  have hn1 := X.named hn
  obtain ⟨methM, ck, k1, k2, k3, k4, k5, k6, k7, k8⟩ := x_cw hy (hts1 #[]) hn1
  obtain ⟨Y, hin⟩ := X.into hgm (hsz.trans hml.symm) hdg' (aL.map (xv g)).toArray (R' := RY) k1 k2 k6 (State.plainMethod.of_named hpl hn1 k1) hfr (by rw [k4]; omega) hcl hsl
  have hAA : ∀ a, a < T1.heap.size → x_A g st.2.2.2 T1.heap.size a → A a := fun a ha h => by
    rcases h with ⟨q, i, hi, rfl⟩ | h
    · exact (hW.1 q i hi).2
    · omega
  have hAA2 : ∀ a, x_A g st.2.2.2 T1.heap.size a → A a := fun a h => by
    rcases h with ⟨q, i, hi, rfl⟩ | h
    · exact (hW.1 q i hi).2
    · exact hA a (Nat.le_trans hS.1 h)
  have B : x_B M p (T1.calling gf mk (aL.map (xv g)).toArray) mk (aL.map (xv g)).toArray methM ck D cA g st := by
    refine ⟨hx, k3, k4, ?_, fun w hw => word_at (U := T1.calling gf mk (aL.map (xv g)).toArray) X.warmed (x_good hw) (hts w hw), hKx.moved (U := T1.calling gf mk (aL.map (xv g)).toArray) X.warmed, k6, ?_, k5, k7, ?_, ⟨fun q i hi => ⟨(hW.1 q i hi).1, Or.inl ⟨q, i, hi, rfl⟩⟩, hW.2⟩⟩
    · rw [hy.1]; exact findClass_of_methodNamed hn1
    · rw [hy.2.1]; exact (name_of_methodNamed hn1 k1).1
    · exact ((hTh.moved (U := T1.calling gf mk (aL.map (xv g)).toArray) X.warmed).kept (fun a h1 h2 => hS.2.1 a h1 h2)).narrow hAA
  obtain ⟨t, hsteps, o, Lc, g2, h1, h2, h3, h4, h5, h6, h7, h8, h9⟩ := hM p e (T1.calling gf mk (aL.map (xv g)).toArray) mk (.java gf :: below) methM ck D cA g B hv ((T1.setTop gf).pushFrame (.java (entryFrame mk (aL.map (xv g)).toArray ck.maxLocals))) rfl Y
  rw [← k4, ← hin []] at hsteps
  have hsteps2 := x_weak (fun x h => by cases h) hsteps
  have fin : ∀ T2 : State, T2.heap = t.heap → va_S A s.heap T2.heap (locs ++ Lc) ∧ x_W D cA A g2 st' T2.heap := by
    intro T2 e2
    rw [e2]
    have hz : T1.heap.size ≤ t.heap.size := h6.1
    refine ⟨⟨Nat.le_trans hS.1 hz, fun a ha hna => ?_, fun q hq => ?_⟩, h8.weak hAA2⟩
    · have hlt := Nat.lt_of_lt_of_le ha hS.1
      exact (h6.2 a hlt (fun z => hna (hAA a hlt z))).trans (hS.2.1 a ha hna)
    · rcases List.mem_append.mp hq with h | h
      · exact hS.2.2 q h
      · exact hAA2 _ (h5 q h)
  cases r with
  | inl v =>
    obtain ⟨ho, hok⟩ := h9
    subst ho
    obtain ⟨T2, X2, -, -, ht⟩ := X.outOf hgm hdg' h2 h3 h4
    have e2 : T2.heap = t.heap := by rw [ht]; simp [State.setTop, State.modifyTopJava, State.setFrames]
    obtain ⟨f1, f2⟩ := fin T2 e2
    exact ⟨t, T2, Lc, g2, X2, f1, h7, f2, hsteps2, ht, hok⟩
  | inr E =>
    obtain ⟨a, ho, cell, c1, c2, c3⟩ := h9
    subst ho
    obtain ⟨T2, X2, -, -, ht⟩ := X.outOfThrown hgm h2 h3 h4
    have e2 : T2.heap = t.heap := by rw [ht]; exact (throwing_heap T2 gf a).symm
    have e3 : T2.vm = t.vm := by rw [ht]; exact (throwing_vm T2 gf a).symm
    obtain ⟨f1, f2⟩ := fin T2 e2
    exact ⟨t, T2, Lc, g2, X2, f1, h7, f2, hsteps2, a, ht, cell, by rw [e2]; exact c1, c2, by rw [e3]; exact c3⟩
end XD
