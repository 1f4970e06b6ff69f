/-! CATCHES: the handlers of a method, their classes linked or not yet -/
/-- one row of the table that covers the pc: its class is looked up; it takes the object, or the search goes on -/
theorem x_row {Q : Handler → Pre} {E : CtlPost} {e : Env} {d : Bool} {acts : List Action} {S : State} {f : JFrame} {a : Addr} {x : ExceptionTableEntry} {t : List ExceptionTableEntry} {k : ClassId} {cell : Cell} (hx : covers x f.pc = true) (h0 : x.catchType ≠ 0) (hl : S.vm.ClassLinks e.platform f.method.cls x.catchType k) (hcell : S.heap[a]? = some cell) (hobj : ∀ z, cell.vm ≠ .statics z) (hk : ∃ z, S.vm.classes[cell.cls]? = some z) (hc : ∃ z, S.vm.classes[k]? = some z) :
    wp (findHandler.go f a (x :: t)) Q E e d acts S ↔ (if S.vm.assignable cell.cls k = true then Q (.found x.handlerPc) d acts (S.setVm (S.vm.noted f.method.cls x.catchType (.cls k))) else wp (findHandler.go f a t) Q E e d acts (S.setVm (S.vm.noted f.method.cls x.catchType (.cls k)))) := by
  have hal : S.vm.Alike (S.vm.noted f.method.cls x.catchType (.cls k)) := (Vm.Alike.refl S.vm).noted _ _ _
  obtain ⟨r1, r2⟩ := (resolveClass_links e.toSetting hl).op (op := VmOp.resolveClass f.method.cls x.catchType) rfl
  obtain ⟨z1, hz1⟩ := hk
  obtain ⟨z2, hz2⟩ := hc
  obtain ⟨y1, hy1, -⟩ := hal.2.2 _ _ hz1
  obtain ⟨y2, hy2, -⟩ := hal.2.2 _ _ hz2
  have hasg := hal.assignable cell.cls k
  cases hfit : S.vm.assignable cell.cls k <;> rw [hfit] at hasg <;> simp only [covers] at hx <;> simp [findHandler.go, hx, h0, r1, r2, hcell, hobj, hy1, hy2, hasg, VmOp.dirties, VmOp.acts]

/-- the search comes to the handler at pc, and leaves the tables vm2 -/
def x_Fd (e : Env) (S : State) (f : JFrame) (a : Addr) (pc : Nat) (vm2 : Vm) : Prop := ∀ (Q : Handler → Pre) (E : CtlPost) (d : Bool) (acts : List Action), wp (findHandler f a) Q E e d acts S ↔ Q (.found pc) d acts (S.setVm vm2)
theorem x_caught {tb : Tables} {e : Env} {T target : State} {f : JFrame} {c : Code} {below : List Frame} {a : Addr} (h : At T f.method c below) {pc : Nat} {vm2 : Vm} (hf : x_Fd e ((T.setTop f).pushFrame (.throwing a)) f a pc vm2) (hrest : Steps tb e below ((T.setVm vm2).setTop { f with pc := pc, stack := [.ref a] }) target) : Steps tb e below ((T.setTop f).pushFrame (.throwing a)) target := by
  obtain ⟨hgo, hw⟩ := h.throwing a
  refine Steps.head hgo hw ?_
  have hst : (stepThrowing e ((T.setTop f).pushFrame (.throwing a)) a (.java f :: T.frames.tail)).Is ((((T.setTop f).pushFrame (.throwing a)).setVm vm2).setFrames (.java { f with pc := pc, stack := [.ref a] } :: T.frames.tail)) [] := by
    simp only [stepThrowing, searchFrame, vmDo]
    generalize hr : Sem.go _ e false [] ((T.setTop f).pushFrame (.throwing a)) = res
    obtain ⟨as, rfl, ha⟩ := Sem.eq_ok_of hr (a := Handler.found pc) (s' := ((T.setTop f).pushFrame (.throwing a)).setVm vm2) (acts' := []) (by simp [hf _ _ _ _])
    exact ⟨rfl, ha⟩
  rw [stepThread_throwing (frames_entered h.top _), hst.1]
  obtain ⟨f0, hf0⟩ := Option.isSome_iff_exists.mp h.top
  obtain ⟨r, hr⟩ := State.topJava?_eq_some.mp hf0
  have hr2 : (T.setVm vm2).frames = .java f0 :: r := hr
  rw [State.setTop_of_frames _ hr2] at hrest
  have e1 : (((T.setTop f).pushFrame (.throwing a)).setVm vm2).setFrames (.java { f with pc := pc, stack := [.ref a] } :: T.frames.tail) = (T.setVm vm2).setFrames (.java { f with pc := pc, stack := [.ref a] } :: r) := by
    rw [hr, List.tail_cons, State.pushFrame, State.setTop_of_frames _ hr]
    have e2 : ∀ (u : State) (F G : List Frame), ((u.setFrames F).setVm vm2).setFrames G = (u.setVm vm2).setFrames G := fun u F G => by
      have e3 : (u.setFrames F).setVm vm2 = (u.setVm vm2).setFrames F := rfl
      rw [e3, State.setFrames_setFrames]
    rw [e2, e2]
  rw [e1]
  exact hrest
section XJ
variable {p : Program} {l : Launch} {e : Env} {R : Room} {s : State} {m : MethodId} {args : Array Value} {below : List Frame} {meth : Method} {c : Code} {D : va_G} {cA : Nat → ClassId} {A : Nat → Prop} {nL : Nat} {g0 : Nat → Nat → Nat} {n0 : Nat → Nat} {Q : State → Prop} {cc : ByteArray} {own : String} {pc : Nat} {L : List (Nat × XV)} {K : List XV} {st : XS} {cells slots : Nat}
/-- caught by the first row, or by the second behind a first of another class -/
theorem x_catch (C : x_C p e R s m args meth c D cA A cc own nL) {E : String} {pre : List (Nat × Nat × Nat × Nat)} {r : Nat × Nat × Nat × Nat} {rest : List (Nat × Nat × Nat × Nat)} (hex : c.exceptionTable.toList.map (fun h => (h.startPc, h.endPc, h.handlerPc, h.catchType)) = pre ++ r :: rest) (hp : pre = [] ∨ ∃ (r1 : Nat × Nat × Nat × Nat) (E1 : String), pre = [r1] ∧ (r1.1 ≤ pc ∧ pc < r1.2.1) ∧ r1.2.2.2 ≠ 0 ∧ Cond.classLink own r1.2.2.2 E1 ∈ x_tb ∧ va_Nc E E1 s) (hcov : r.1 ≤ pc ∧ pc < r.2.1) (hi : r.2.2.2 ≠ 0) (hlk : Cond.classLink own r.2.2.2 E ∈ x_tb) (hca : va_Nw (.castable E E) s) (kk : ∀ a, x_V p l e R s m args below meth c D cA A nL g0 n0 Q r.2.2.1 L [xA a] st cells slots) : x_VT p l e R s m args below meth c D cA A nL g0 n0 Q E pc L K st cells slots := by
  intro g H locs ls a hW hg hS hl hL hK T hT X hexc
  obtain ⟨hx, hb, hml, hown, hts, hKx, hlk0, hA, hTh⟩ := C
  obtain ⟨cell, q1, q2, q3⟩ := hexc
  have hpl : e.platform.magicAccessors = ({} : Platform).magicAccessors := by rw [X.admits.platform]
  have hal := X.warmed.alike
  have hq3 : s.vm.findClass E = some cell.cls := by rw [← hal.findClass]; exact q3
  obtain ⟨c1, c2, hc1, hc2, hasg⟩ := Cond.castable_spec (va_Nw.use (A := args) rfl hca)
  cases hq3.symm.trans hc1
  cases hq3.symm.trans hc2
  obtain ⟨k1, hk1, hcl1⟩ := Cond.classLink_spec hown (hts _ hlk) e.platform hpl
  cases hq3.symm.trans hk1
  obtain ⟨dk, _, _, kt, hd, _, _, _, _, hkt, _, hopen⟩ := hcl1.here
  have key : ∀ S : State, s.WarmedH S.vm → S.heap[a]? = some cell → ∀ (x : ExceptionTableEntry) (t : List ExceptionTableEntry), (x.startPc, x.endPc, x.handlerPc, x.catchType) = r → ∃ vm2, s.WarmedH vm2 ∧ ∀ (Q : Handler → Pre) (E : CtlPost) (d : Bool) (acts : List Action), wp (findHandler.go (F0 m pc ls (K.map (xv g))) a (x :: t)) Q E e d acts S ↔ Q (.found r.2.2.1) d acts (S.setVm vm2) := by
    intro S hw hcell x t hxr
    subst hxr
    obtain ⟨kt2, hkt2, -⟩ := hw.alike.2.2 _ _ hkt
    refine ⟨_, hw.noted hd hopen (State.rightAt_cls hcl1), fun Q E d acts => ?_⟩
    rw [x_row (by simp [covers, hcov.1, hcov.2]) hi (hw.classLinks hcl1) hcell q2 ⟨kt2, hkt2⟩ ⟨kt2, hkt2⟩, if_pos (by rw [hw.alike.assignable]; exact hasg)]
  have hfd : ∃ vm2, s.WarmedH vm2 ∧ x_Fd e ((T.setTop (F0 m pc ls (K.map (xv g)))).pushFrame (.throwing a)) (F0 m pc ls (K.map (xv g))) a r.2.2.1 vm2 := by
    have hcell : ((T.setTop (F0 m pc ls (K.map (xv g)))).pushFrame (.throwing a)).heap[a]? = some cell := by rw [throwing_heap]; exact q1
    have hwS : s.WarmedH ((T.setTop (F0 m pc ls (K.map (xv g)))).pushFrame (.throwing a)).vm := by rw [throwing_vm]; exact X.warmed
    have hmS : ((T.setTop (F0 m pc ls (K.map (xv g)))).pushFrame (.throwing a)).vm.method? m = some meth := by rw [throwing_vm]; exact X.method'
    generalize (T.setTop (F0 m pc ls (K.map (xv g)))).pushFrame (.throwing a) = S at hcell hwS hmS
    rcases hp with rfl | ⟨r1, E1, rfl, hcv1, hi1, hlk1, hnc⟩
    · obtain ⟨x, t, hxt, hxr, -⟩ := List.map_eq_cons_iff.mp hex
      obtain ⟨vm2, w1, w2⟩ := key S hwS hcell x t hxr
      exact ⟨vm2, w1, fun Q E d acts => by rw [W.findHandler_eq hmS X.code, hxt]; exact w2 Q E d acts⟩
    · obtain ⟨x1, t1, hxt, hx1r, ht1⟩ := List.map_eq_cons_iff.mp hex
      obtain ⟨x, t, rfl, hxr, -⟩ := List.map_eq_cons_iff.mp ht1
      subst hx1r
      obtain ⟨k2, hk2, hcl2⟩ := Cond.classLink_spec hown (hts _ hlk1) e.platform hpl
      obtain ⟨dk2, _, _, kt2, hd2, _, _, _, _, hkt2, _, hopen2⟩ := hcl2.here
      obtain ⟨n1, n2, hn1, hn2, hno⟩ := hnc
      cases hq3.symm.trans hn1
      cases hk2.symm.trans hn2
      obtain ⟨ka, hka, -⟩ := hwS.alike.2.2 _ _ hkt
      obtain ⟨kb, hkb, -⟩ := hwS.alike.2.2 _ _ hkt2
      have hwS2 : s.WarmedH (S.setVm (S.vm.noted m.cls x1.catchType (.cls k2))).vm := hwS.noted hd2 hopen2 (State.rightAt_cls hcl2)
      obtain ⟨vm2, w1, w2⟩ := key (S.setVm (S.vm.noted m.cls x1.catchType (.cls k2))) hwS2 hcell x t hxr
      refine ⟨vm2, w1, fun Q E d acts => ?_⟩
      rw [W.findHandler_eq hmS X.code, hxt, x_row (by simp [covers, hcv1.1, hcv1.2]) hi1 (hwS.classLinks hcl2) hcell q2 ⟨ka, hka⟩ ⟨kb, hkb⟩, if_neg (by rw [hwS.alike.assignable, hno]; decide)]
      exact w2 Q E d acts
  obtain ⟨vm2, hw2, hfd⟩ := hfd
  obtain ⟨t, a1, b1⟩ := kk a g H locs ls hW hg hS hl hL (xok_cs trivial (fun v h => by cases h)) (T.setVm vm2) hT (X.noted hw2)
  exact ⟨t, x_caught (f := F0 m pc ls (K.map (xv g))) X.here hfd a1, b1⟩
end XJ
