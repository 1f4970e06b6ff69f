/-! more rows: fewer locals, null of any pool, pop, switches; thrown or returned -/
def xth {α : Type} (f : α → Option XV) (r : α ⊕ String) : XR := match r with
  | .inl v => .inl (f v)
  | .inr E => .inr E
def xmc {α : Type} (r : α ⊕ String) : Nat := match r with
  | .inl _ => 0
  | .inr _ => 1
def xms {α : Type} (r : α ⊕ String) : Nat := match r with
  | .inl _ => 0
  | .inr _ => 6
theorem x_swo {x : Int32} {lo hi : Int} (h : ∀ k : Int, lo ≤ k → k ≤ hi → ¬ x = Int32.ofInt k) : x.toInt < lo ∨ hi < x.toInt := by
  by_cases h1 : x.toInt < lo
  · exact Or.inl h1
  · by_cases h2 : hi < x.toInt
    · exact Or.inr h2
    · exact absurd (Int32.ofInt_toInt x).symm (h x.toInt (by omega) (by omega))
section XO
variable {p : Program} {l : Launch} {e : Env} {R : Room} {s : State} {m : MethodId} {args : Array Value} {below : List Frame} {meth : Method} {c : Code} {D : va_G} {cA : Nat → ClassId} {A : Nat → Prop} {nL : Nat} {g0 : Nat → Nat → Nat} {n0 : Nat → Nat} {Q : State → Prop} {cc : ByteArray} {own : String} {pc : Nat} {L L2 : List (Nat × XV)} {K : List XV} {st : XS} {cells slots : Nat}
theorem x_sub (ks : List Nat) (h : ks.filterMap (fun k => L[k]?) = L2) (k : x_V p l e R s m args below meth c D cA A nL g0 n0 Q pc L2 K st cells slots) : x_V p l e R s m args below meth c D cA A nL g0 n0 Q pc L K st cells slots := by
  intro g H locs ls hW hg hS hl hL hK
  have hm : ∀ z ∈ L2, z ∈ L := fun z hz => by
    rw [← h] at hz
    obtain ⟨w, -, hw⟩ := List.mem_filterMap.mp hz
    exact List.mem_of_getElem? hw
  refine k g H locs ls hW hg hS ⟨hl.1, hl.2.1, fun q hq => ?_⟩ (fun z hz => hL z (hm z hz)) hK
  obtain ⟨z, hz, rfl⟩ := List.mem_map.mp hq
  exact hl.2.2 _ (List.mem_map.mpr ⟨z, hm z hz, rfl⟩)
theorem x_nullq (C : x_C p e R s m args meth c D cA A cc own nL) {q : Nat} (hd : decode cc pc = .ok (.aconst_null, 1)) (k : x_V p l e R s m args below meth c D cA A nL g0 n0 Q (pc + 1) L (xR q none :: K) st cells slots) : x_V p l e R s m args below meth c D cA A nL g0 n0 Q pc L K st cells slots := by
  intro g H locs ls hW hg hS hl hL hK
  exact lv_null C.1 C.2.1 hd (k g H locs ls hW hg hS hl hL (xok_cs trivial hK))
theorem x_popv (C : x_C p e R s m args meth c D cA A cc own nL) {v : XV} (hv : xcat v = 1) (hd : decode cc pc = .ok (.pop, 1)) (k : x_V p l e R s m args below meth c D cA A nL g0 n0 Q (pc + 1) L K st cells slots) : x_V p l e R s m args below meth c D cA A nL g0 n0 Q pc L (v :: K) st cells slots := by
  intro g H locs ls hW hg hS hl hL hK
  exact lv_pop C.1 C.2.1 hd ((xcat_v g v).trans hv) (k g H locs ls hW hg hS hl hL (xok_tl hK))
theorem x_tsw (C : x_C p e R s m args meth c D cA A cc own nL) {dflt lo hi : Int} {offs : Array Int} {len : Nat} {x v : Int32} {off : Int} {tgt : Nat} (hd : decode cc pc = .ok (.tableswitch dflt lo hi offs, len)) (hx : x = v) (h1 : ¬ v.toInt < lo) (h2 : ¬ hi < v.toInt) (ho : offs[(v.toInt - lo).toNat]? = some off) (ht : (pc : Int) + off = (tgt : Int)) (k : x_V p l e R s m args below meth c D cA A nL g0 n0 Q tgt L K st cells slots) : x_V p l e R s m args below meth c D cA A nL g0 n0 Q pc L (xI x :: K) st cells slots := by
  subst hx
  exact x_tin C hd h1 h2 ho ht k
end XO
