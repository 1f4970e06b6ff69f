/-! ARRAYS over pools -/
/-- the index is in the array -/
abbrev x_in (j : Int32) (n : Nat) : Prop := ¬ j < 0 ∧ j.toNatClampNeg < n
theorem x_in_n {j : Int32} {n : Nat} (h : x_in j n) : ¬ (j < 0 ∨ n ≤ j.toNatClampNeg) := fun z => z.elim h.1 (fun w => Nat.not_le.mpr h.2 w)
/-- an array pool: all slots of one sort, leading to one pool -/
def x_ar (q so t : Nat) (ty : FieldType) : Prop := xk_c q = none ∧ (∀ k, xk_s q k = so ∧ xk_t q k = t) ∧ xk_a q = some ty
theorem x_arrAt {D : va_G} {cA : Nat → ClassId} {g : Nat → Nat → Nat} {st : XS} {H : Heap} {q i so t : Nat} {ty : FieldType} (ha : x_ar q so t ty) : va_at D xk_cl (g q i, xent cA g st q i) H ↔ H[g q i]? = some (arrV (cA q) (xk_n q) (xval g st q i)) := by
  rw [xent_arr ha.1]
  show H[g q i]? = some (vp_cell (cA q) (xarr g st q i)) ↔ _
  have e : vp_cell (cA q) (xarr g st q i) = arrV (cA q) (xk_n q) (xval g st q i) := by
    unfold xarr
    rw [(ha.2.1 0).1, (ha.2.1 0).2]
    have hs := fun k => (ha.2.1 k).1
    have ht := fun k => (ha.2.1 k).2
    match so with
    | 0 =>
      show vp_cell (cA q) (xk_n q, .inl (fun k => st.1 q i k)) = _
      rw [vp_cell_i]; congr 1; funext k; unfold xval; rw [hs k]; rfl
    | 1 =>
      show vp_cell (cA q) (xk_n q, .inr (.inl (fun k => st.2.1 q i k))) = _
      rw [vp_cell_l]; congr 1; funext k; unfold xval; rw [hs k]; rfl
    | n + 2 =>
      show vp_cell (cA q) (xk_n q, .inr (.inr (.inr (.inr (fun k => (st.2.2.1 q i k).map (g t)))))) = _
      rw [vp_cell_q]; congr 1; funext k; unfold xval; rw [hs k, ht k, ← xrf_eq]; rfl
  rw [e]
section XQ
variable {p : Program} {l : Launch} {e : Env} {R : Room} {s : State} {m : MethodId} {args : Array Value} {below : List Frame} {meth : Method} {c : Code} {D : va_G} {cA : Nat → ClassId} {A : Nat → Prop} {nL : Nat} {g0 : Nat → Nat → Nat} {n0 : Nat → Nat} {Q : State → Prop} {cc : ByteArray} {own : String} {pc : Nat} {L : List (Nat × XV)} {K : List XV} {st : XS} {cells slots : Nat} {H : Heap} {locs : List Loc} {ls : Array Slot} {rest : List Value} {g : Nat → Nat → Nat}
theorem x_isArr (C : x_C p e R s m args meth c D cA A cc own nL) {q so t : Nat} {ty : FieldType} (ha : x_ar q so t ty) (f : Nat → Value) (n : Nat) : s.isArrayOf (arrV (cA q) n f) ty := (C.2.2.2.2.2.1.2.1 q ty ha.2.2).1 n f
theorem x_iald (C : x_C p e R s m args meth c D cA A cc own nL) {q i t : Nat} {j : Int32} (ha : x_ar q 0 t .int) (hin : x_in j (xk_n q)) (hd : decode cc pc = .ok (.iaload, 1)) (kk : x_V p l e R s m args below meth c D cA A nL g0 n0 Q (pc + 1) L (xI (st.1 q i j.toNatClampNeg) :: K) st cells slots) : x_V p l e R s m args below meth c D cA A nL g0 n0 Q pc L (xI j :: xR q (some i) :: K) st cells slots := by
  intro g H locs ls hW hg hS hl2 hL hK
  have hi : i < st.2.2.2 q := xok_hd (xok_tl hK)
  have he := (x_arrAt ha).mp (hW.1 q i hi).1
  have h1 : xval g st q i j.toNatClampNeg = xv g (xI (st.1 q i j.toNatClampNeg)) := by unfold xval; rw [(ha.2.1 _).1]; rfl
  refine W.iald C.1 C.2.1 he (x_isArr C ha _ _) (fun z => by cases z) (by rw [arrV_size]; exact x_in_n hin) (by rw [arrV_read _ _ hin.2]) rfl rfl hd ?_
  rw [h1]
  exact kk g H locs ls hW hg hS hl2 hL (xok_cs trivial (xok_tl (xok_tl hK)))
theorem x_zald (C : x_C p e R s m args meth c D cA A cc own nL) {q i t : Nat} {j : Int32} (ha : x_ar q 0 t .boolean) (hin : x_in j (xk_n q)) (hd : decode cc pc = .ok (.baload, 1)) (kk : x_V p l e R s m args below meth c D cA A nL g0 n0 Q (pc + 1) L (xI (st.1 q i j.toNatClampNeg) :: K) st cells slots) : x_V p l e R s m args below meth c D cA A nL g0 n0 Q pc L (xI j :: xR q (some i) :: K) st cells slots := by
  intro g H locs ls hW hg hS hl2 hL hK
  have hi : i < st.2.2.2 q := xok_hd (xok_tl hK)
  have he := (x_arrAt ha).mp (hW.1 q i hi).1
  have h1 : xval g st q i j.toNatClampNeg = xv g (xI (st.1 q i j.toNatClampNeg)) := by unfold xval; rw [(ha.2.1 _).1]; rfl
  refine W.zald C.1 C.2.1 he (x_isArr C ha _ _) (fun z => by cases z) (by rw [arrV_size]; exact x_in_n hin) (by rw [arrV_read _ _ hin.2]) rfl rfl hd ?_
  rw [h1]
  exact kk g H locs ls hW hg hS hl2 hL (xok_cs trivial (xok_tl (xok_tl hK)))
theorem x_lald (C : x_C p e R s m args meth c D cA A cc own nL) {q i t : Nat} {j : Int32} (ha : x_ar q 1 t .long) (hin : x_in j (xk_n q)) (hd : decode cc pc = .ok (.laload, 1)) (kk : x_V p l e R s m args below meth c D cA A nL g0 n0 Q (pc + 1) L (xL (st.2.1 q i j.toNatClampNeg) :: K) st cells slots) : x_V p l e R s m args below meth c D cA A nL g0 n0 Q pc L (xI j :: xR q (some i) :: K) st cells slots := by
  intro g H locs ls hW hg hS hl2 hL hK
  have hi : i < st.2.2.2 q := xok_hd (xok_tl hK)
  have he := (x_arrAt ha).mp (hW.1 q i hi).1
  have h1 : xval g st q i j.toNatClampNeg = xv g (xL (st.2.1 q i j.toNatClampNeg)) := by unfold xval; rw [(ha.2.1 _).1]; rfl
  refine W.lald C.1 C.2.1 he (x_isArr C ha _ _) (fun z => by cases z) (by rw [arrV_size]; exact x_in_n hin) (by rw [arrV_read _ _ hin.2]) rfl rfl hd ?_
  rw [h1]
  exact kk g H locs ls hW hg hS hl2 hL (xok_cs trivial (xok_tl (xok_tl hK)))
theorem x_aald (C : x_C p e R s m args meth c D cA A cc own nL) {q i t : Nat} {j : Int32} {nm : String} (ha : x_ar q 2 t (.object nm)) (hin : x_in j (xk_n q)) (hd : decode cc pc = .ok (.aaload, 1)) (kk : x_V p l e R s m args below meth c D cA A nL g0 n0 Q (pc + 1) L (xR t (st.2.2.1 q i j.toNatClampNeg) :: K) st cells slots) : x_V p l e R s m args below meth c D cA A nL g0 n0 Q pc L (xI j :: xR q (some i) :: K) st cells slots := by
  intro g H locs ls hW hg hS hl2 hL hK
  have hi : i < st.2.2.2 q := xok_hd (xok_tl hK)
  have he := (x_arrAt ha).mp (hW.1 q i hi).1
  have h1 : xval g st q i j.toNatClampNeg = xv g (xR t (st.2.2.1 q i j.toNatClampNeg)) := by unfold xval; rw [(ha.2.1 _).1, (ha.2.1 _).2]; rfl
  refine W.aald C.1 C.2.1 he (x_isArr C ha _ _) rfl (fun z => by cases z) (by rw [arrV_size]; exact x_in_n hin) (by rw [arrV_read _ _ hin.2]) rfl rfl hd ?_
  rw [h1]
  exact kk g H locs ls hW hg hS hl2 hL (xok_cs (x_okR hW hi (ha.2.1 _).1 (ha.2.1 _).2) (xok_tl (xok_tl hK)))
theorem x_alen (C : x_C p e R s m args meth c D cA A cc own nL) {q i so t : Nat} {ty : FieldType} {v : Int32} (ha : x_ar q so t ty) (hv : (xk_n q).toInt32 = v) (hd : decode cc pc = .ok (.arraylength, 1)) (kk : x_V p l e R s m args below meth c D cA A nL g0 n0 Q (pc + 1) L (xI v :: K) st cells slots) : x_V p l e R s m args below meth c D cA A nL g0 n0 Q pc L (xR q (some i) :: K) st cells slots := by
  intro g H locs ls hW hg hS hl2 hL hK
  have he := (x_arrAt ha).mp (hW.1 q i (xok_hd hK)).1
  exact W.alen (n := v) C.1 C.2.1 he (x_isArr C ha _ _) (by rw [arrV_size]; exact hv) rfl rfl hd (kk g H locs ls hW hg hS hl2 hL (xok_cs trivial (xok_tl hK)))
theorem x_iast (C : x_C p e R s m args meth c D cA A cc own nL) {q i t : Nat} {j : Int32} {v : Int32} (ha : x_ar q 0 t .int) (hin : x_in j (xk_n q)) (hd : decode cc pc = .ok (.iastore, 1)) (kk : x_V p l e R s m args below meth c D cA A nL g0 n0 Q (pc + 1) L K (xsI st q i j.toNatClampNeg (v)) cells slots) : x_V p l e R s m args below meth c D cA A nL g0 n0 Q pc L (xI v :: xI j :: xR q (some i) :: K) st cells slots := by
  intro g H locs ls hW hg hS hl2 hL hK
  have hi : i < st.2.2.2 q := xok_hd (xok_tl (xok_tl hK))
  have he := (x_arrAt ha).mp (hW.1 q i hi).1
  refine W.iast C.1 C.2.1 he (x_isArr C ha _ _) (fun z => by cases z) (by rw [arrV_size]; exact x_in_n hin) rfl rfl hd fun H1 e1 e2 e3 => ?_
  refine kk g H1 _ ls (hW.upd hi rfl (fun r j h => ⟨x_up_oth h, rfl, rfl⟩) ((x_arrAt ha).mpr ?_) e3 (fun k t h1 h2 => hW.2.2 q i k t hi h1 h2)) hg (hS.put e2 e3 (hW.1 q i hi).2) hl2 hL (xok_tl (xok_tl (xok_tl hK)))
  rw [e1, arrV_store]
  congr 2
  funext z
  unfold updV xval
  rw [(ha.2.1 z).1]
  by_cases hz : z = j.toNatClampNeg
  · rw [if_pos hz, hz]; show _ = Value.int (x_up _ _ _ _ _ _ _ _); rw [x_up_self]; try rfl
  · rw [if_neg hz]; show _ = Value.int (x_up _ _ _ _ _ _ _ _); rw [x_up_k hz]; try rfl
theorem x_zast (C : x_C p e R s m args meth c D cA A cc own nL) {q i t : Nat} {j : Int32} {v : Int32} (ha : x_ar q 0 t .boolean) (hin : x_in j (xk_n q)) (hd : decode cc pc = .ok (.bastore, 1)) (kk : x_V p l e R s m args below meth c D cA A nL g0 n0 Q (pc + 1) L K (xsI st q i j.toNatClampNeg (v &&& 1)) cells slots) : x_V p l e R s m args below meth c D cA A nL g0 n0 Q pc L (xI v :: xI j :: xR q (some i) :: K) st cells slots := by
  intro g H locs ls hW hg hS hl2 hL hK
  have hi : i < st.2.2.2 q := xok_hd (xok_tl (xok_tl hK))
  have he := (x_arrAt ha).mp (hW.1 q i hi).1
  refine W.zast C.1 C.2.1 he (x_isArr C ha _ _) (fun z => by cases z) (by rw [arrV_size]; exact x_in_n hin) rfl rfl hd fun H1 e1 e2 e3 => ?_
  refine kk g H1 _ ls (hW.upd hi rfl (fun r j h => ⟨x_up_oth h, rfl, rfl⟩) ((x_arrAt ha).mpr ?_) e3 (fun k t h1 h2 => hW.2.2 q i k t hi h1 h2)) hg (hS.put e2 e3 (hW.1 q i hi).2) hl2 hL (xok_tl (xok_tl (xok_tl hK)))
  rw [e1, arrV_store]
  congr 2
  funext z
  unfold updV xval
  rw [(ha.2.1 z).1]
  by_cases hz : z = j.toNatClampNeg
  · rw [if_pos hz, hz]; show _ = Value.int (x_up _ _ _ _ _ _ _ _); rw [x_up_self]; try rfl
  · rw [if_neg hz]; show _ = Value.int (x_up _ _ _ _ _ _ _ _); rw [x_up_k hz]; try rfl
theorem x_last (C : x_C p e R s m args meth c D cA A cc own nL) {q i t : Nat} {j : Int32} {v : Int64} (ha : x_ar q 1 t .long) (hin : x_in j (xk_n q)) (hd : decode cc pc = .ok (.lastore, 1)) (kk : x_V p l e R s m args below meth c D cA A nL g0 n0 Q (pc + 1) L K (xsJ st q i j.toNatClampNeg (v)) cells slots) : x_V p l e R s m args below meth c D cA A nL g0 n0 Q pc L (xL v :: xI j :: xR q (some i) :: K) st cells slots := by
  intro g H locs ls hW hg hS hl2 hL hK
  have hi : i < st.2.2.2 q := xok_hd (xok_tl (xok_tl hK))
  have he := (x_arrAt ha).mp (hW.1 q i hi).1
  refine W.last C.1 C.2.1 he (x_isArr C ha _ _) (fun z => by cases z) (by rw [arrV_size]; exact x_in_n hin) rfl rfl hd fun H1 e1 e2 e3 => ?_
  refine kk g H1 _ ls (hW.upd hi rfl (fun r j h => ⟨rfl, x_up_oth h, rfl⟩) ((x_arrAt ha).mpr ?_) e3 (fun k t h1 h2 => hW.2.2 q i k t hi h1 h2)) hg (hS.put e2 e3 (hW.1 q i hi).2) hl2 hL (xok_tl (xok_tl (xok_tl hK)))
  rw [e1, arrV_store]
  congr 2
  funext z
  unfold updV xval
  rw [(ha.2.1 z).1]
  by_cases hz : z = j.toNatClampNeg
  · rw [if_pos hz, hz]; show _ = Value.long (x_up _ _ _ _ _ _ _ _); rw [x_up_self]; try rfl
  · rw [if_neg hz]; show _ = Value.long (x_up _ _ _ _ _ _ _ _); rw [x_up_k hz]; try rfl
theorem x_aast (C : x_C p e R s m args meth c D cA A cc own nL) {q i t ci : Nat} {nm : String} {j : Int32} {v q2 : Nat} {r : vw_C} (ha : x_ar q 2 t (.object nm)) (hc : xk_c t = some ci) (hr : xk_cl[ci]? = some r) (hnm : r.1 = nm) (hq : q2 = t) (hin : x_in j (xk_n q)) (hd : decode cc pc = .ok (.aastore, 1)) (kk : x_V p l e R s m args below meth c D cA A nL g0 n0 Q (pc + 1) L K (xsR st q i j.toNatClampNeg (some v)) cells slots) : x_V p l e R s m args below meth c D cA A nL g0 n0 Q pc L (xR q2 (some v) :: xI j :: xR q (some i) :: K) st cells slots := by
  intro g H locs ls hW hg hS hl2 hL hK
  subst hq
  subst hnm
  have hi : i < st.2.2.2 q := xok_hd (xok_tl (xok_tl hK))
  have hv : v < st.2.2.2 q2 := xok_hd hK
  have he := (x_arrAt ha).mp (hW.1 q i hi).1
  have hev := (hW.1 q2 v hv).1
  rw [xent_obj hc] at hev
  obtain ⟨r', hr', cellV, g1, g2, g3, -⟩ := hev
  have hKx := C.2.2.2.2.2.1
  have hcls := (hKx.1 ci r hr).2
  obtain ⟨kA, comp, k1, k2, k3, -⟩ := (hKx.2.1 q _ ha.2.2).2
  have hcomp : comp = D.1 ci := Option.some.inj (k3.symm.trans hcls.1)
  subst hcomp
  obtain ⟨kC, hkC, -⟩ := hcls.2
  refine W.aast C.1 C.2.1 he (fun q h => by cases h) (fun h => by cases h) k1 k2 rfl hkC ⟨hin.1, by rw [arrV_size]; exact hin.2⟩ g1 (fun q h => by rw [g3] at h; cases h) (by rw [g2]; exact hkC) (by rw [g2]; exact va_assign hcls) rfl rfl hd fun H1 e1 e2 e3 => ?_
  refine kk g H1 _ ls (hW.upd hi rfl (fun r j h => ⟨rfl, rfl, x_up_oth h⟩) ((x_arrAt ha).mpr ?_) e3 (x_refR hW hi (xok_hd hK) (Or.inr (ha.2.1 _).2))) hg (hS.put e2 e3 (hW.1 q i hi).2) hl2 hL (xok_tl (xok_tl (xok_tl hK)))
  rw [e1, arrV_store]
  congr 2
  funext z
  unfold updV xval
  rw [(ha.2.1 z).1, (ha.2.1 z).2]
  by_cases hz : z = j.toNatClampNeg
  · rw [if_pos hz, hz]; show _ = xrf g _ (x_up _ _ _ _ _ _ _ _); rw [x_up_self]; rfl
  · rw [if_neg hz]; show _ = xrf g _ (x_up _ _ _ _ _ _ _ _); rw [x_up_k hz]; try rfl
theorem x_aastN (C : x_C p e R s m args meth c D cA A cc own nL) {q i t q2 : Nat} {nm : String} {j : Int32} (ha : x_ar q 2 t (.object nm)) (hin : x_in j (xk_n q)) (hd : decode cc pc = .ok (.aastore, 1)) (kk : x_V p l e R s m args below meth c D cA A nL g0 n0 Q (pc + 1) L K (xsR st q i j.toNatClampNeg none) cells slots) : x_V p l e R s m args below meth c D cA A nL g0 n0 Q pc L (xR q2 none :: xI j :: xR q (some i) :: K) st cells slots := by
  intro g H locs ls hW hg hS hl2 hL hK
  have hi : i < st.2.2.2 q := xok_hd (xok_tl (xok_tl hK))
  have he := (x_arrAt ha).mp (hW.1 q i hi).1
  refine va_WaastN (C := nm) C.1 C.2.1 he (x_isArr C ha _ _) (fun z => by cases z) (by rw [arrV_size]; exact x_in_n hin) rfl rfl hd fun H1 e1 e2 e3 => ?_
  refine kk g H1 _ ls (hW.upd hi rfl (fun r j h => ⟨rfl, rfl, x_up_oth h⟩) ((x_arrAt ha).mpr ?_) e3 (x_refR (q2 := q2) hW hi trivial (Or.inl rfl))) hg (hS.put e2 e3 (hW.1 q i hi).2) hl2 hL (xok_tl (xok_tl (xok_tl hK)))
  rw [e1, arrV_store]
  congr 2
  funext z
  unfold updV xval
  rw [(ha.2.1 z).1, (ha.2.1 z).2]
  by_cases hz : z = j.toNatClampNeg
  · rw [if_pos hz, hz]; show _ = xrf g _ (x_up _ _ _ _ _ _ _ _); rw [x_up_self]; rfl
  · rw [if_neg hz]; show _ = xrf g _ (x_up _ _ _ _ _ _ _ _); rw [x_up_k hz]; try rfl
end XQ
