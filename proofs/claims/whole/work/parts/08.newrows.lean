/-! the rows of new, newarray, anewarray -/
def xdf (so : Nat) : Value := match so with
  | 0 => .int 0
  | 1 => .long 0
  | _ => .null
theorem xval_new {g : Nat → Nat → Nat} {st : XS} {q k : Nat} : xval g (xsN st q) q (st.2.2.2 q) k = xdf (xk_s q k) := by
  have e1 : (xsN st q).1 q (st.2.2.2 q) k = 0 := if_pos ⟨rfl, rfl⟩
  have e2 : (xsN st q).2.1 q (st.2.2.2 q) k = 0 := if_pos ⟨rfl, rfl⟩
  have e3 : (xsN st q).2.2.1 q (st.2.2.2 q) k = none := if_pos ⟨rfl, rfl⟩
  unfold xval xdf
  rw [e1, e2, e3]
  rfl
theorem x_mapL {g : Nat → Nat → Nat} {cnt : Nat → Nat} {q a : Nat} {L : List (Nat × XV)} (h : ∀ z ∈ L, xok cnt z.2) : (L.map fun z => (z.1, xv (x_gN g q (cnt q) a) z.2)) = L.map fun z => (z.1, xv g z.2) := List.map_congr_left fun z hz => by rw [xv_gN (h z hz)]
theorem x_mapK {g : Nat → Nat → Nat} {cnt : Nat → Nat} {q a : Nat} {K : List XV} (h : ∀ v ∈ K, xok cnt v) : K.map (xv (x_gN g q (cnt q) a)) = K.map (xv g) := List.map_congr_left fun v hv => xv_gN (h v hv)
theorem x_cle {st : XS} {q : Nat} (r : Nat) : st.2.2.2 r ≤ (xsN st q).2.2.2 r := by
  show _ ≤ (if r = q then st.2.2.2 q + 1 else st.2.2.2 r)
  by_cases hr : r = q
  · subst hr; rw [if_pos rfl]; omega
  · rw [if_neg hr]; exact Nat.le_refl _
theorem xok_le {c1 c2 : Nat → Nat} {v : XV} (hc : ∀ r, c1 r ≤ c2 r) (h : xok c1 v) : xok c2 v := by
  rcases v with x | y | ⟨r, _ | i⟩ | b
  · trivial
  · trivial
  · trivial
  · exact Nat.lt_of_lt_of_le h (hc r)
  · trivial
theorem x_E.new {g0 : Nat → Nat → Nat} {n0 : Nat → Nat} {g : Nat → Nat → Nat} {st : XS} {q a : Nat} (h : x_E g0 n0 g st.2.2.2) : x_E g0 n0 (x_gN g q (st.2.2.2 q) a) (xsN st q).2.2.2 :=
  ⟨fun r i hi => by rw [x_gN_lt (Nat.lt_of_lt_of_le hi (h.2 r))]; exact h.1 r i hi, fun r => Nat.le_trans (h.2 r) (x_cle r)⟩
section XN
variable {p : Program} {l : Launch} {e : Env} {R : Room} {s : State} {m : MethodId} {args : Array Value} {below : List Frame} {meth : Method} {c : Code} {D : va_G} {cA : Nat → ClassId} {A : Nat → Prop} {nL : Nat} {g0 : Nat → Nat → Nat} {n0 : Nat → Nat} {Q : State → Prop} {cc : ByteArray} {own : String} {pc : Nat} {L : List (Nat × XV)} {K : List XV} {st : XS} {cells slots : Nat} {H : Heap} {locs : List Loc} {ls : Array Slot} {rest : List Value} {g : Nat → Nat → Nat}
/-- behind a new cell -/
theorem x_fresh {q pc2 c2 s2 : Nat} {H1 : Heap} (hx : ∀ a, s.heap.size ≤ a → A a) (kk : x_V p l e R s m args below meth c D cA A nL g0 n0 Q pc2 L (xR q (some (st.2.2.2 q)) :: K) (xsN st q) c2 s2) (hW : x_W D cA A g st H) (hg : x_E g0 n0 g st.2.2.2) (hS : va_S A s.heap H locs) (hl : lv_has ls nL (L.map fun z => (z.1, xv g z.2))) (hL : ∀ z ∈ L, xok st.2.2.2 z.2) (hK : ∀ v ∈ K, xok st.2.2.2 v) (ho : ∀ b : Nat, b < H.size → H1[b]? = H[b]?) (hz : H1.size = H.size + 1)
    (he : va_at D xk_cl (H.size, xent cA (x_gN g q (st.2.2.2 q) H.size) (xsN st q) q (st.2.2.2 q)) H1) : W p l e R s m args below meth c H1 locs c2 s2 Q (F0 m pc2 ls (.ref H.size :: K.map (xv g))) := by
  have hlt : st.2.2.2 q < (xsN st q).2.2.2 q := by
    show _ < (if q = q then st.2.2.2 q + 1 else _)
    rw [if_pos rfl]; omega
  have k1 := kk (x_gN g q (st.2.2.2 q) H.size) H1 locs ls (hW.push ho (hx _ hS.1) he) hg.new ⟨Nat.le_trans hS.1 (by omega), fun x h1 h2 => (ho x (Nat.lt_of_lt_of_le h1 hS.1)).trans (hS.2.1 x h1 h2), hS.2.2⟩ (by rw [x_mapL hL]; exact hl) (fun z hz => xok_le (fun r => x_cle r) (hL z hz)) (xok_cs hlt (fun v hv => xok_le (fun r => x_cle r) (hK v hv)))
  rw [List.map_cons, x_mapK hK] at k1
  have e1 : xv (x_gN g q (st.2.2.2 q) H.size) (xR q (some (st.2.2.2 q))) = .ref H.size := by
    show Value.ref (x_gN g q (st.2.2.2 q) H.size q (st.2.2.2 q)) = _
    rw [x_gN_self]
  rw [e1] at k1
  exact k1
theorem x_new (C : x_C p e R s m args meth c D cA A cc own nL) {q index ci N : Nat} {Cn : String} {T : u_T} (hc : xk_c q = some ci) (hr : xk_cl[ci]? = some (Cn, T, N)) (hcl : Cond.classLink own index Cn ∈ x_tb) (hins : Cond.instantiable Cn N ∈ x_tb) (hini : Cond.initialized Cn ∈ x_tb) (hdf : ∀ k, k < N → defaultValue (xk_ty ci k) = xdf (xk_s q k)) (hc1 : cells + 1 ≤ R.cells) (hs1 : slots + N ≤ R.slots) (hd : decode cc pc = .ok (.new index, 3)) (kk : x_V p l e R s m args below meth c D cA A nL g0 n0 Q (pc + 3) L (xR q (some (st.2.2.2 q)) :: K) (xsN st q) (cells + 1) (slots + N)) : x_V p l e R s m args below meth c D cA A nL g0 n0 Q pc L K st cells slots := by
  intro g H locs ls hW hg hS hl hL hK
  obtain ⟨hx, hb, -, hown, hts, hKx, -, hA, -⟩ := C
  obtain ⟨-, r', hr', hn⟩ := xk_cok hc
  cases hr.symm.trans hr'
  refine W.newcK hx hb hown (hts _ hcl) (hts _ hins) (hts _ hini) rfl hd hc1 hs1 (hKx.1 ci _ hr).2.1 rfl fun H1 kC hkC e1 z1 o1 => ?_
  refine x_fresh hA kk hW hg hS hl hL hK o1 z1 ?_
  rw [xent_obj hc]
  refine ⟨_, hr, (u_born (xk_ty ci) hts (xk_inr hr) (hKx.1 ci _ hr) hkC e1 (xk_tyr hr)).to fun k hk => ?_⟩
  rw [hdf k hk]
  have hk2 : k < xk_n q := by rw [← hn]; exact hk
  unfold vp_V
  rw [List.getD_eq_getElem?_getD, List.getElem?_map, List.getElem?_range hk2]
  show _ = xval _ _ _ _ _
  rw [xval_new]
theorem x_newa (C : x_C p e R s m args meth c D cA A cc own nL) {q so t : Nat} {n : Int32} {atype : ArrayType} {ty : FieldType} (ha : x_ar q so t ty) (hty : newarray.typeOf atype = ty) (hdf : defaultValue ty = xdf so) (hra : ∀ cl, va_RA s cl ty → s.vm.findClass ("[" ++ ty.toString) = some cl) (hcl : Cond.arrayClass ty ∈ x_tb) (hn : ¬ n < 0) (hN : n.toNatClampNeg = xk_n q) (hby : xk_n q * componentBytes ty ≤ 536870912) (hc1 : cells + 1 ≤ R.cells) (hs1 : slots + xk_n q ≤ R.slots) (hd : decode cc pc = .ok (.newarray atype, 2)) (kk : x_V p l e R s m args below meth c D cA A nL g0 n0 Q (pc + 2) L (xR q (some (st.2.2.2 q)) :: K) (xsN st q) (cells + 1) (slots + xk_n q)) : x_V p l e R s m args below meth c D cA A nL g0 n0 Q pc L (xI n :: K) st cells slots := by
  intro g H locs ls hW hg hS hl hL hK
  obtain ⟨hx, hb, -, hown, hts, hKx, -, hA, -⟩ := C
  subst hty
  refine va_newaK hx hb (hts _ hcl) rfl hd rfl hn hN hby hc1 hs1 rfl fun H1 cl e1 z1 o1 hAr hNm => ?_
  refine x_fresh hA kk hW hg hS hl hL (xok_tl hK) o1 z1 ?_
  have ecl : cl = cA q := Option.some.inj (hNm.symm.trans (hra _ (hKx.2.1 q _ ha.2.2).2))
  have h1 := (x_arrAt (D := D) (cA := cA) (g := x_gN g q (st.2.2.2 q) H.size) (st := xsN st q) (H := H1) (i := st.2.2.2 q) ha)
  rw [x_gN_self] at h1
  refine h1.mpr ?_
  rw [e1, ecl]
  congr 2
  funext k
  rw [xval_new, (ha.2.1 k).1, hdf]
theorem x_anew (C : x_C p e R s m args meth c D cA A cc own nL) {q t index : Nat} {n : Int32} {nm : String} (ha : x_ar q 2 t (.object nm)) (hcl : Cond.classLink own index nm ∈ x_tb) (hov : va_AO nm s) (hn : ¬ n < 0) (hN : n.toNatClampNeg = xk_n q) (hby : xk_n q * 4 ≤ 536870912) (hc1 : cells + 1 ≤ R.cells) (hs1 : slots + xk_n q ≤ R.slots) (hd : decode cc pc = .ok (.anewarray index, 3)) (kk : x_V p l e R s m args below meth c D cA A nL g0 n0 Q (pc + 3) L (xR q (some (st.2.2.2 q)) :: K) (xsN st q) (cells + 1) (slots + xk_n q)) : x_V p l e R s m args below meth c D cA A nL g0 n0 Q pc L (xI n :: K) st cells slots := by
  intro g H locs ls hW hg hS hl hL hK
  obtain ⟨hx, hb, -, hown, hts, hKx, -, hA, -⟩ := C
  rw [← hN] at kk hby hs1
  refine W.anew hx hb hown (hts _ hcl) (va_AO.use hov) rfl hd rfl hn hby hc1 hs1 fun cl kA comp f1 f2 f3 f4 => ?_
  have z1 : (H.push ({ cls := cl, slots := Array.replicate n.toNatClampNeg .null, vm := .none } : Cell)).size = H.size + 1 := Array.size_push ..
  have o1 : ∀ b : Nat, b < H.size → (H.push ({ cls := cl, slots := Array.replicate n.toNatClampNeg .null, vm := .none } : Cell))[b]? = H[b]? := fun b hb => by rw [Array.getElem?_push, if_neg (Nat.ne_of_lt hb)]
  refine x_fresh hA kk hW hg hS hl hL (xok_tl hK) o1 z1 ?_
  obtain ⟨kA', comp', k1, k2, k3, k4⟩ := (hKx.2.1 q _ ha.2.2).2
  have ecl : cl = cA q := Option.some.inj (f1.symm.trans k4)
  have h1 := (x_arrAt (D := D) (cA := cA) (g := x_gN g q (st.2.2.2 q) H.size) (st := xsN st q) (H := H.push ({ cls := cl, slots := Array.replicate n.toNatClampNeg .null, vm := .none } : Cell)) (i := st.2.2.2 q) ha)
  rw [x_gN_self] at h1
  refine h1.mpr ?_
  rw [Array.getElem?_push_size, arrV_new, ecl, hN]
  congr 2
  funext k
  rw [xval_new, (ha.2.1 k).1]
  rfl
end XN
