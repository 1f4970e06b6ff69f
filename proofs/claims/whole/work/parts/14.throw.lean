/-! THROWS: an exception is made and thrown -/
theorem x_rebase {p : Program} {l : Launch} {e : Env} {R : Room} {s : State} {m : MethodId} {args : Array Value} {below : List Frame} {meth : Method} {c : Code} {T : State} {locs : List Loc} {cells slots : Nat} (X : Stand p l e R s m args below meth c T locs cells slots) (R2 : Room) (hf : R2.frames ≤ R.frames) (hlo : R2.locals ≤ R.locals) (hc : cells + R2.cells ≤ R.cells) (hs : slots + R2.slots ≤ R.slots) : Stand p l e R2 (T.setFrames (.invoking m args :: below)) m args below meth c T [] 0 0 := by
  obtain ⟨g₀, hfr⟩ := X.frames_eq
  have hcur : T.cur < T.threads.size := State.cur_lt_of_frames hfr
  have hfr2 : (T.setFrames (.invoking m args :: below)).frames = .invoking m args :: below := State.frames_setFrames _ hcur
  obtain ⟨th, hth, -⟩ := State.frames_cons hfr
  obtain ⟨th2, hth2, -⟩ := State.frames_cons hfr2
  have hm2 : (T.setFrames (.invoking m args :: below)).vm.method? m = some meth := X.method'
  have e1 : T = (T.setFrames (.invoking m args :: below)).setFrames T.frames := by
    rw [State.setFrames_setFrames, State.setFrames_self hth]
  have elim : e.platform.stackLimits (T.setFrames (.invoking m args :: below)).me = e.platform.stackLimits T.me := State.stackLimits_setFrames ..
  have ebyt : (T.setFrames (.invoking m args :: below)).me.stackBytes = T.me.stackBytes := State.stackBytes_setFrames ..
  have hlocs : s.localsInUse = (T.setFrames (.invoking m args :: below)).localsInUse := by
    rw [State.localsInUse_invoking X.frames X.method X.code, State.localsInUse_invoking hfr2 hm2 X.code]
  refine ⟨X.admits, X.cas, X.clock, hfr2, ?_, ?_, hm2, X.code, X.here, X.tail, State.WarmedH.refl _, elim.symm, ebyt.symm, ?_⟩
  · have h := X.room
    have hb := X.book
    have h1 := X.heapSize
    have h2 := X.used
    simp only [State.hasRoom, Bool.and_eq_true, decide_eq_true_eq] at h ⊢
    obtain ⟨⟨⟨⟨a1, a2, a3, a4, a5, a6⟩, a7⟩, a8⟩, a9⟩ := h
    rw [hfr2, elim, ebyt, ← hlocs, X.limits, X.bytes]
    rw [X.frames] at a2 a3
    have hsz : (T.setFrames (.invoking m args :: below)).heap.size = T.heap.size := rfl
    have hsu : (T.setFrames (.invoking m args :: below)).slotsUsed = T.slotsUsed := rfl
    refine ⟨⟨⟨⟨by omega, by omega, by omega, by omega, by omega, a6⟩, by omega⟩, by omega⟩, hb⟩
  · have h := X.hears
    have hal := X.warmed.alike
    cases below with
    | nil =>
      simp only [State.hears] at h ⊢
      rw [hm2]; rw [X.method] at h; exact h
    | cons f r =>
      cases f with
      | java g =>
        simp only [State.hears] at h ⊢
        have e2 : (T.setFrames (.invoking m args :: .java g :: r)).code? g.method = s.code? g.method := by
          rw [State.code?_eq, State.code?_eq]
          show (T.vm.method? g.method).bind _ = _
          rw [hal.method?]
        rw [e2]; exact h
      | native g => rfl
      | proc g => rfl
      | _ =>
        simp only [State.hears] at h ⊢
        rw [hm2]; rw [X.method] at h; exact h
  · have h := (State.sameButNew.refl (T.setFrames (.invoking m args :: below)) hth2).setFrames T.frames (State.cur_lt_of_frames hfr2)
    rw [← e1] at h
    exact h
theorem x_vmnone {D : va_G} {cA : Nat → ClassId} {g : Nat → Nat → Nat} {st : XS} {q i a : Nat} {H : Heap} (h : va_at D xk_cl (a, xent cA g st q i) H) : ∀ cell, H[a]? = some cell → cell.vm.isStatics = false := by
  intro cell hc
  cases hx : xk_c q with
  | some ci =>
    rw [xent_obj hx] at h
    obtain ⟨r, h1, cell2, q1, q2, q3, q4⟩ := h
    cases hc.symm.trans q1
    rw [q3]; rfl
  | none =>
    rw [xent_arr hx] at h
    have h : H[a]? = some (vp_cell (cA q) (xarr g st q i)) := h
    cases hc.symm.trans h
    obtain ⟨n, f | f | f | f | f⟩ := xarr g st q i <;> rfl
theorem x_W.kept {D : va_G} {cA : Nat → ClassId} {A : Nat → Prop} {g : Nat → Nat → Nat} {st : XS} {H H1 : Heap} (hW : x_W D cA A g st H) (ho : ∀ b : Nat, b < H.size → H1[b]? = H[b]?) : x_W D cA A g st H1 := ⟨fun q i hi => ⟨((hW.1 q i hi).1).kept (ho _ (hW.1 q i hi).1.lt), (hW.1 q i hi).2⟩, hW.2⟩
theorem x_same0 {s t : State} {k n : Nat} (h : s.sameButNew t [] k n) : ∀ b : Nat, b < s.heap.size → t.heap[b]? = s.heap[b]? := by
  intro b hb
  obtain ⟨cc, hcc⟩ : ∃ cc, s.heap[b]? = some cc := ⟨s.heap[b], Array.getElem?_eq_getElem hb⟩
  obtain ⟨c', h1, h2, h3, h4⟩ := h.2.2.2.2.2 b cc hcc
  have hs : c'.slots = cc.slots := Array.ext_getElem? (fun i => h4 i (by simp))
  rw [h1, hcc, h2, hs]
/-- the words of Bundle.ownAtoms that the tables hold and that keep; the others are x_Th's -/
def x_OA (own : String) (ic : Nat) (E : String) (names : List String) : Prop := ∀ w ∈ Bundle.ownAtoms own ic E names, w ∈ x_tb ∨ w = .castable "java/lang/IllegalStateException" "java/lang/IllegalStateException" ∨ w = .castable "java/lang/IllegalArgumentException" "java/lang/IllegalArgumentException" ∨ w = .laysStatic Bundle.tN "UNASSIGNED_STACK" Bundle.steD ∨ w = .laysStatic Bundle.tN "SUPPRESSED_SENTINEL" Bundle.listD ∨ w = .isRef (.static Bundle.tN "UNASSIGNED_STACK" Bundle.steD) ∨ w = .isRef (.static Bundle.tN "SUPPRESSED_SENTINEL" Bundle.listD) ∨ ∃ x ∈ xk_dec, w = .declares x
theorem x_St.lays {n d : String} {A : Nat → Prop} {U : State} {a : Array Value} (h : x_St n d A U U.heap) : (Cond.laysStatic Bundle.tN n d).before a U = true := by
  obtain ⟨c, k, i, f, b, cell, v, h0, h1, h2, h3, h4, h5, h6, h7, h8, h9, h10, h11⟩ := h
  exact Cond.laysStatic_of h0 h1 h2 h3 h4 h5 h6 h7 h8
theorem x_St.isr {n d : String} {A : Nat → Prop} {U : State} {a : Array Value} (h : x_St n d A U U.heap) : (Cond.isRef (.static Bundle.tN n d)).before a U = true := by
  obtain ⟨c, k, i, f, b, cell, v, h0, h1, h2, h3, h4, h5, h6, h7, h8, h9, h10, h11⟩ := h
  have he : (Term.static Bundle.tN n d).eval a U none [] U = some v := by
    simp [Term.eval, State.fieldNamed?, h1, h2, h3, h4, h5, h9]
  rcases h10 with rfl | ⟨b2, rfl⟩ <;> simp [Cond.before, Cond.holds, Cond.value, he]
section XT
variable {p : Program} {l : Launch} {e : Env} {R : Room} {s : State} {m : MethodId} {args : Array Value} {below : List Frame} {meth : Method} {c : Code} {D : va_G} {cA : Nat → ClassId} {nL : Nat} {g0 : Nat → Nat → Nat} {n0 : Nat → Nat} {cc : ByteArray} {own : String} {pc : Nat} {L : List (Nat × XV)} {K : List XV} {st : XS} {cells slots : Nat} {mc ms : Nat}
set_option maxHeartbeats 1000000 in
theorem x_throw (C : x_C p e R s m args meth c D cA (x_A g0 n0 s.heap.size) cc own nL) (hfl : l.flags = flags0) {E tx : String} {names : List String} {ixn ixs ixc : Nat} (hcl : Cond.classLink own ixn E ∈ x_tb) (hins : Cond.instantiable E 6 ∈ x_tb) (hini : Cond.initialized E ∈ x_tb) (hstr : (own, ixs, tx) ∈ xk_str) (hat : x_OA own ixc E names) (hfit : Bundle.fit E = true ∧ ∀ n ∈ names, Bundle.fit n = true) (ho : c.exceptionTable.toList.map (fun h => (h.startPc, h.endPc, h.handlerPc, h.catchType)) = []) (hK8 : (K.map xcat).sum ≤ 8) (hc1 : cells + 1 ≤ R.cells) (hs1 : slots + 6 ≤ R.slots) (hc : cells + 1 ≤ mc) (hs : slots + 6 ≤ ms) (hRf : names.length + 3 < R.frames) (hRl : 8 + 1 + (13 * (names.length + 1) + 42) ≤ R.locals)
    (hd0 : decode cc pc = .ok (.new ixn, 3)) (hd3 : decode cc (pc + 3) = .ok (.dup, 1)) (hd4 : decode cc (pc + 4) = .ok (.ldc ixs, 2)) (hd6 : decode cc (pc + 6) = .ok (.invokespecial ixc, 3)) (hd9 : decode cc (pc + 9) = .ok (.athrow, 1)) : x_V p l e R s m args below meth c D cA (x_A g0 n0 s.heap.size) nL g0 n0 (x_MQ D cA g0 n0 below s mc ms (.inr E) st) pc L K st cells slots := by
  intro g H locs ls hW hg hS hl hL hK T hT X
  obtain ⟨hx, hb, hml, hown, hts, hKx, hlk, hA, hTh⟩ := C
  subst hT
  have XB := x_rebase X { frames := R.frames, cells := 1, slots := 6, locals := R.locals } (Nat.le_refl _) (Nat.le_refl _) hc1 hs1
  generalize hs2 : T.setFrames (.invoking m args :: below) = s2 at XB
  have hv2 : s2.vm = T.vm := by rw [← hs2]; rfl
  have hh2 : s2.heap = T.heap := by rw [← hs2]; rfl
  have hw2 : s.WarmedH s2.vm := by rw [hv2]; exact X.warmed
  have hown2 : s2.vm.findClass own = some m.cls := by rw [hw2.alike.findClass]; exact hown
  have hts2 : ∀ w ∈ x_tb, w.before args s2 = true := fun w hw => word_at hw2 (x_good hw) (hts w hw)
  have hTh2 : x_Th (x_A g0 n0 s.heap.size) s2 s2.heap := by rw [hh2]; exact (hTh.moved hw2).kept (fun a h1 h2 => hS.2.1 a h1 h2)
  have hatoms : ∀ w ∈ Bundle.ownAtoms own ixc E names, w.before args s2 = true := by
    intro w hw
    rcases hat w hw with h | rfl | rfl | rfl | rfl | rfl | rfl | ⟨x, hx', rfl⟩
    · exact hts2 w h
    · exact va_Nw.use rfl hTh2.1.1
    · exact va_Nw.use rfl hTh2.1.2
    · exact hTh2.2.1.lays
    · exact hTh2.2.2.1.lays
    · exact hTh2.2.1.isr
    · exact hTh2.2.2.1.isr
    · exact va_Nw.use rfl (hTh2.2.2.2.2.2.2 x hx')
  obtain ⟨cX, kX, hcX, hkX, -⟩ := Cond.instantiable_spec (hts2 _ hins)
  obtain ⟨sa, hsa⟩ := hTh2.2.2.2.1 _ hstr
  have htr : e.platform.stackTraces = false := Launch.traces_off hfl X.admits
  have hz : c.exceptionTable.toList = [] := List.map_eq_nil_iff.mp ho
  have w : W p l e { frames := R.frames, cells := 1, slots := 6, locals := R.locals } s2 m args below meth c T.heap [] 0 0 (fun U => ∃ a, U.status = .running ∧ Ended U below (.threw a) ∧ s2.WarmedH U.vm ∧ s2.sameButNew ({ U with vm := s2.vm } : State) [] 1 6 ∧ x_Ex E a U) (F0 m pc ls (K.map (xv g))) := by
    refine W.newcK hx hb hown2 (hts2 _ hcl) (hts2 _ hins) (hts2 _ hini) rfl hd0 (Nat.le_refl _) (Nat.le_refl _) hcX rfl fun H1 kC hkC e1 z1 o1 => ?_
    cases hkX.symm.trans hkC
    refine lv_dup hx hb hd3 rfl ?_
    refine va_ldcS hx hb hown2 hsa hd4 ?_
    intro T1 hT1 X1
    obtain ⟨U, u1, u2, u3, u4, u5, ce, u6, u7⟩ := X1.ctorThrowS hx htr (own := own) (cls := E) (names := names) (ic := ixc) hown2 hfit.1 hfit.2 hatoms (fun x h => by cases h) (a := T.heap.size) hcX hkX (by rw [hT1]; exact e1) (by rw [hh2]; exact Nat.le_refl _) (msg := .ref sa) rfl (g := F0 m (pc + 6) ls (.ref sa :: .ref T.heap.size :: .ref T.heap.size :: K.map (xv g))) rfl (by rw [hml]; exact hl.1) rfl rfl (rest := K.map (xv g)) rfl (by rw [hb]; exact hd6) (by rw [hb]; exact hd9) (by rw [hz]; intro x h; cases h) hRf (by
      show 2 * 0 + ((Value.ref T.heap.size :: K.map (xv g)).map fun v => v.category).sum + _ ≤ _
      rw [List.map_cons, List.sum_cons, x_sum]
      show 2 * 0 + (1 + _) + _ ≤ R.locals
      omega) (hlocks := hlk)
    refine ⟨U, u1, T.heap.size, u2, u3, u4, u5, ce, u6, fun k h => ?_, ?_⟩
    · rw [u7.vm] at h; cases h
    · rw [u4.alike.findClass]; exact u7.cls
  obtain ⟨U, a1, a, b1, b2, b3, b4, b5⟩ := w T rfl XB
  have hu0 : ∀ b : Nat, b < T.heap.size → U.heap[b]? = T.heap[b]? := by
    intro b hb
    have h1 := x_same0 b4 b (by rw [hh2]; exact hb)
    rw [hh2] at h1
    exact h1
  have hsz : T.heap.size ≤ U.heap.size := by have h1 := b4.2.1; rw [hh2] at h1; exact h1
  have hsame : s.sameButNew ({ U with vm := s.vm } : State) locs mc ms := by
    have h1 := X.same
    have h2 : (T.setVm s.vm).sameButNew ({ U with vm := s.vm } : State) [] 1 6 := by
      obtain ⟨c1, c2, c3, c4, c5, c6⟩ := b4
      rw [← hs2] at c1 c2 c3 c4 c5 c6
      refine ⟨?_, c2, c3, c4, c5, c6⟩
      have c1 : ({ U with vm := T.vm } : State) = { (T.setFrames (.invoking m args :: below)).setFrames U.frames with heap := U.heap, slotsUsed := U.slotsUsed } := c1
      rw [State.setFrames_setFrames] at c1
      exact congrArg (fun z : State => z.setVm s.vm) c1
    have h3 := h1.trans h2
    rw [List.append_nil] at h3
    exact h3.mono hc hs
  refine ⟨U, a1, .threw a, locs, g, b1, b2, State.WarmedH.trans hw2 b3, hsame, hS.2.2, ⟨Nat.le_trans hS.1 hsz, fun q h1 h2 => ?_⟩, hg, hW.kept hu0, a, rfl, b5⟩
  rw [hu0 q (Nat.lt_of_lt_of_le h1 hS.1)]
  exact hS.2.1 q h1 h2
end XT
