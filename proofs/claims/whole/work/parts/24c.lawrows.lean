/-! the law's own rows: its script, its end -/
def lw_P (b : Addr) (xs : List Int32) (args : Array Value) (s : State) : Prop := args = #[.ref b] ∧ s.IntsAt b xs ∧ xs.length ≤ 3072 ∧ (Jvm.Cond.and given_1 narrow_1).before args s = true
def lw_Q (_ : Array Value) (s : State) (o : Outcome) (t : State) : Prop := o = .returned (some (.int 1)) ∧ Framed s o t [] 601024 7293034
def lw_Z (below : List Frame) (a : Array Value) (s : State) : State → Prop := fun t => ∃ o, t.status = .running ∧ Ended t below o ∧ lw_Q a s o t
/-- the law's own end, with 1 on the stack, nothing written that was there before, its room as the claim has it -/
theorem lw_ret {p : Program} {l : Launch} {e : Env} {s : State} {m : MethodId} {below : List Frame} {meth : Method} {c : Code} {b : Nat} (hx : p.tables.exec = Jvm.exec) (hb : c.code = code) (hr : meth.sig.returnType = ret) (hlocks : meth.locks = false) {pc : Nat} {H : Heap} {ls : Array Slot} (hdg : decode code pc = .ok (.ireturn, 1)) : W p l e room_1 s m #[Value.ref b] below meth c H [] 601024 7293034 (lw_Z below #[Value.ref b] s) (F0 m pc ls [.int 1]) := by
  intro T hT X
  obtain ⟨fs, hret, hrun, hended, hW, hframe⟩ := X.leave (v := some (.int 1)) (hlocks := hlocks) (fun h => by rw [hr] at h; cases h)
  have hmeth' : T.vm.method? m = some meth := X.method'
  refine ⟨T.setFrames fs, ?_, .returned (some (.int 1)), hrun, hended, rfl, ⟨_, rfl⟩, hW, hframe⟩
  jvm_step X.here [X.here.top, hx, hb, hdg, hmeth', hr, ret, narrow_b1]
  (try refine ⟨rfl, ?_⟩); (try refine ⟨rfl, ?_⟩)
  first | (intro acts; rw [hret _ acts rfl rfl rfl]) | rw [hret _ _ rfl rfl rfl]
  exact Steps.refl _
section XY
variable {p : Program} {l : Launch} {e : Env} {R : Room} {s : State} {m : MethodId} {args : Array Value} {below : List Frame} {meth : Method} {c : Code} {D : va_G} {cA : Nat → ClassId} {A : Nat → Prop} {nL : Nat} {g0 : Nat → Nat → Nat} {n0 : Nat → Nat} {Q : State → Prop} {cc : ByteArray} {own : String} {pc : Nat} {L : List (Nat × XV)} {K : List XV} {st : XS} {cells slots : Nat} {b N : Nat} {xs : Nat → Int32}
theorem x_slen (C : x_C p e R s m args meth c D cA A cc own nL) (hX : va_X b N xs s s.heap) (hbl : b < s.heap.size) (hbA : ¬ A b) (hd : decode cc pc = .ok (.arraylength, 1)) (k : x_V p l e R s m args below meth c D cA A nL g0 n0 Q (pc + 1) L (xI (Int32.ofNat N) :: K) st cells slots) : x_V p l e R s m args below meth c D cA A nL g0 n0 Q pc L (xA b :: K) st cells slots := by
  intro g H locs ls hW hg hS hl hL hK
  exact va_slen C.1 C.2.1 hX hbl hbA hS hd (k g H locs ls hW hg hS hl hL (xok_cs trivial (xok_tl hK)))
theorem x_sld (C : x_C p e R s m args meth c D cA A cc own nL) (hX : va_X b N xs s s.heap) (hbl : b < s.heap.size) (hbA : ¬ A b) {j : Int32} (hin : ¬ (j < 0 ∨ N ≤ j.toNatClampNeg)) (hd : decode cc pc = .ok (.iaload, 1)) (k : x_V p l e R s m args below meth c D cA A nL g0 n0 Q (pc + 1) L (xI (xs j.toNatClampNeg) :: K) st cells slots) : x_V p l e R s m args below meth c D cA A nL g0 n0 Q pc L (xI j :: xA b :: K) st cells slots := by
  intro g H locs ls hW hg hS hl hL hK
  exact va_sld C.1 C.2.1 hX hbl hbA hS hin hd (k g H locs ls hW hg hS hl hL (xok_cs trivial (xok_tl (xok_tl hK))))
theorem x_lawret (C : x_C p e room_1 s m #[Value.ref b] meth c D cA (fun q => s.heap.size ≤ q) code own nL) (hr : meth.sig.returnType = ret) (hc : cells ≤ 601024) (hs : slots ≤ 7293034) (hd : decode code pc = .ok (.ireturn, 1)) : x_V p l e room_1 s m #[Value.ref b] below meth c D cA (fun q => s.heap.size ≤ q) nL g0 n0 (lw_Z below #[Value.ref b] s) pc L [xI 1] st cells slots := by
  intro g H locs ls hW hg hS hl hL hK
  refine va_forget (fun q hq => hS.2.2 q hq) ?_
  refine W.widen hc hs ?_
  exact lw_ret C.1 C.2.1 hr C.2.2.2.2.2.2.1 hd
end XY
