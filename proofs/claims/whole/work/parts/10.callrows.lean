/-! entry, returns, calls -/
def xargs : Nat → List XV → List (Nat × XV)
  | _, [] => []
  | i, v :: vs => (i, v) :: xargs (if xcat v = 2 then i + 2 else i + 1) vs
theorem xargs_v (g : Nat → Nat → Nat) : ∀ (i : Nat) (vs : List XV), (xargs i vs).map (fun z => (z.1, xv g z.2)) = lv_args i (vs.map (xv g))
  | _, [] => rfl
  | i, v :: vs => by
    show (i, xv g v) :: (xargs _ vs).map _ = (i, xv g v) :: lv_args _ (vs.map (xv g))
    rw [xargs_v g _ vs, xcat_v]
theorem xargs_ok {cnt : Nat → Nat} : ∀ (i : Nat) (vs : List XV), (∀ v ∈ vs, xok cnt v) → ∀ z ∈ xargs i vs, xok cnt z.2
  | _, [], _, z, hz => by cases hz
  | i, v :: vs, h, z, hz => by
    rcases List.mem_cons.mp hz with rfl | hz
    · exact h _ List.mem_cons_self
    · exact xargs_ok _ vs (fun w hw => h w (List.mem_cons_of_mem _ hw)) z hz
theorem x_sl (g : Nat → Nat → Nat) : ∀ (vs : List XV), (lg_sl (vs.map (xv g))).length = (vs.map xcat).sum
  | [] => rfl
  | v :: vs => by
    have h := x_sl g vs
    unfold lg_sl at h ⊢
    rw [List.map_cons, List.flatMap_cons, List.length_append, h, List.map_cons, List.sum_cons, xcat_v]
    rcases v with x | y | ⟨q, _ | i⟩ | a <;> rfl
theorem x_post {p : Program} {l : Launch} {e : Env} {R : Room} {s : State} {m : MethodId} {args : Array Value} {below : List Frame} {meth : Method} {c : Code} {H : Heap} {locs : List Loc} {cells slots : Nat} {Q Q2 : State → Prop} {g : JFrame} (h : ∀ t, Q t → Q2 t) (k : W p l e R s m args below meth c H locs cells slots Q g) : W p l e R s m args below meth c H locs cells slots Q2 g := fun T hT X => by
  obtain ⟨t, a, b⟩ := k T hT X
  exact ⟨t, a, h t b⟩
theorem x_B.C {M : XM} {p : Program} {e : Env} {R : Room} {s : State} {m : MethodId} {args : Array Value} {meth : Method} {c : Code} {D : va_G} {cA : Nat → ClassId} {g : Nat → Nat → Nat} {st : XS} (B : x_B M p s m args meth c D cA g st) : x_C p e R s m args meth c D cA (x_A g st.2.2.2 s.heap.size) M.2.1 M.1 M.2.2.1 :=
  ⟨B.1, B.2.1, B.2.2.1, B.2.2.2.1, B.2.2.2.2.1, B.2.2.2.2.2.1, B.2.2.2.2.2.2.1, fun _ h => Or.inr h, B.2.2.2.2.2.2.2.2.2.2.1⟩
theorem x_enter {l : Launch} {M : XM} {R : Room} {aL : List XV} {st st' : XS} {r : XR} {mc ms : Nat} (hsz : (aL.map xcat).sum ≤ M.2.2.1)
    (body : ∀ (p : Program) (e : Env) (s : State) (m : MethodId) (below : List Frame) (meth : Method) (c : Code) (D : va_G) (cA : Nat → ClassId) (g : Nat → Nat → Nat) (args : Array Value), x_B M p s m args meth c D cA g st → x_C p e R s m args meth c D cA (x_A g st.2.2.2 s.heap.size) M.2.1 M.1 M.2.2.1 →
      x_V p l e R s m args below meth c D cA (x_A g st.2.2.2 s.heap.size) M.2.2.1 g st.2.2.2 (x_MQ D cA g st.2.2.2 below s mc ms r st') 0 (xargs 0 aL) [] st 0 0) : x_M l M R aL st r st' mc ms := by
  intro p e s m below meth c D cA g B hv
  rw [lg_entry_eq]
  have hl := lv_entry (aL.map (xv g)) (n := M.2.2.1) (by rw [x_sl]; exact hsz)
  rw [← xargs_v g 0 aL] at hl
  exact body p e s m below meth c D cA g _ B B.C g s.heap [] _ B.2.2.2.2.2.2.2.2.2.2.2 ⟨fun _ _ _ => rfl, fun _ => Nat.le_refl _⟩ va_S.rf hl (xargs_ok 0 aL hv) (fun v h => by cases h)
section XC
variable {p : Program} {l : Launch} {e : Env} {R : Room} {s : State} {m : MethodId} {args : Array Value} {below : List Frame} {meth : Method} {c : Code} {D : va_G} {cA : Nat → ClassId} {A : Nat → Prop} {nL : Nat} {g0 : Nat → Nat → Nat} {n0 : Nat → Nat} {Q : State → Prop} {cc : ByteArray} {own : String} {pc : Nat} {L : List (Nat × XV)} {K : List XV} {st : XS} {cells slots : Nat} {H : Heap} {locs : List Loc} {ls : Array Slot} {rest : List Value} {g : Nat → Nat → Nat} {mc ms : Nat}
theorem x_end {v : Option XV} {H : Heap} (hW : x_W D cA (x_A g0 n0 s.heap.size) g st H) (hg : x_E g0 n0 g st.2.2.2) (hS : va_S (x_A g0 n0 s.heap.size) s.heap H locs) (hv : ∀ w, v = some w → xok st.2.2.2 w) : ∀ t, MQ below (fun _ _ o t => o = .returned (v.map (xv g)) ∧ t.heap = H) args s mc ms (x_A g0 n0 s.heap.size) t → x_MQ D cA g0 n0 below s mc ms (.inl v) st t := by
  intro t ⟨o, h1, h2, ⟨h3, h4⟩, Lc, ⟨_, h5, h6⟩, h7⟩
  exact ⟨o, Lc, g, h1, h2, h5, h6, h7, hS.F h4, hg, by rw [h4]; exact hW, h3, hv⟩
theorem x_iret (C : x_C p e R s m args meth c D cA (x_A g0 n0 s.heap.size) cc own nL) {v : Int32} {ty : FieldType} (hr : meth.sig.returnType = some ty) (hn : narrow ty (.int v) = .int v) (hc : cells ≤ mc) (hs : slots ≤ ms) (hd : decode cc pc = .ok (.ireturn, 1)) : x_V p l e R s m args below meth c D cA (x_A g0 n0 s.heap.size) nL g0 n0 (x_MQ D cA g0 n0 below s mc ms (.inl (some (xI v))) st) pc L [xI v] st cells slots := by
  intro g H locs ls hW hg hS hl hL hK
  refine W.widen hc hs (x_post (x_end (args := args) hW hg hS (fun w hw => by cases hw; trivial)) ?_)
  exact W.zret C.1 C.2.1 hr hn (fun t ht _ => ⟨rfl, ht⟩) hS.2.2 hd (hlocks := C.2.2.2.2.2.2.1)
theorem x_lret (C : x_C p e R s m args meth c D cA (x_A g0 n0 s.heap.size) cc own nL) {v : Int64} (hr : meth.sig.returnType = some .long) (hc : cells ≤ mc) (hs : slots ≤ ms) (hd : decode cc pc = .ok (.lreturn, 1)) : x_V p l e R s m args below meth c D cA (x_A g0 n0 s.heap.size) nL g0 n0 (x_MQ D cA g0 n0 below s mc ms (.inl (some (xL v))) st) pc L [xL v] st cells slots := by
  intro g H locs ls hW hg hS hl hL hK
  refine W.widen hc hs (x_post (x_end (args := args) hW hg hS (fun w hw => by cases hw; trivial)) ?_)
  exact W.lret C.1 C.2.1 hr (fun t ht _ => ⟨rfl, ht⟩) hS.2.2 hd (hlocks := C.2.2.2.2.2.2.1)
theorem x_vret (C : x_C p e R s m args meth c D cA (x_A g0 n0 s.heap.size) cc own nL) (hr : meth.sig.returnType = none) (hc : cells ≤ mc) (hs : slots ≤ ms) (hd : decode cc pc = .ok (.return_, 1)) : x_V p l e R s m args below meth c D cA (x_A g0 n0 s.heap.size) nL g0 n0 (x_MQ D cA g0 n0 below s mc ms (.inl none) st) pc L [] st cells slots := by
  intro g H locs ls hW hg hS hl hL hK
  refine W.widen hc hs (x_post (x_end (args := args) hW hg hS (fun w hw => by cases hw)) ?_)
  exact W.vret C.1 C.2.1 hr (fun t ht _ => ⟨rfl, ht⟩) hS.2.2 hd (hlocks := C.2.2.2.2.2.2.1)
theorem x_aret (C : x_C p e R s m args meth c D cA (x_A g0 n0 s.heap.size) cc own nL) {q : Nat} {v : Option Nat} {rt : FieldType} (hr : meth.sig.returnType = some rt) (hrt : (∃ n, rt = .object n) ∨ ∃ t, rt = .array t) (hc : cells ≤ mc) (hs : slots ≤ ms) (hd : decode cc pc = .ok (.areturn, 1)) : x_V p l e R s m args below meth c D cA (x_A g0 n0 s.heap.size) nL g0 n0 (x_MQ D cA g0 n0 below s mc ms (.inl (some (xR q v))) st) pc L [xR q v] st cells slots := by
  intro g H locs ls hW hg hS hl hL hK
  refine W.widen hc hs (x_post (x_end (args := args) hW hg hS (fun w hw => by cases hw; exact xok_hd hK)) ?_)
  exact W.aret (v := xrf g q v) C.1 C.2.1 hr hrt (by cases v; exact Or.inl rfl; exact Or.inr ⟨_, rfl⟩) (fun t ht _ => ⟨rfl, ht⟩) hS.2.2 hd (hlocks := C.2.2.2.2.2.2.1)
end XC
