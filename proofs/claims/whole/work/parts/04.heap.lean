/-! HEAP ROWS over pools: fields, arrays, new objects -/
theorem xk_cok {q ci : Nat} (h : xk_c q = some ci) : ci < 7 ∧ ∃ r, xk_cl[ci]? = some r ∧ r.2.2 = xk_n q := by
  unfold xk_c at h
  split at h <;> first | (cases h; exact ⟨by decide, _, rfl, rfl⟩) | cases h
theorem xk_getD {ci : Nat} {r : vw_C} (h : xk_cl[ci]? = some r) : xk_cl.getD ci ("", ft_0, 0) = r := by
  rw [List.getD_eq_getElem?_getD, h]; rfl
theorem xk_lt {ci : Nat} {r : vw_C} (h : xk_cl[ci]? = some r) : ci < 7 := (List.getElem?_eq_some_iff.mp h).1
theorem xk_inr {ci : Nat} {r : vw_C} (h : xk_cl[ci]? = some r) : ∀ w ∈ u_ws r.1 r.2.1 r.2.2, w ∈ x_tb := by
  have h1 := xk_in ci (xk_lt h); rw [xk_getD h] at h1; exact h1
theorem xk_tyr {ci : Nat} {r : vw_C} (h : xk_cl[ci]? = some r) : ∀ k, k < r.2.2 → parseFieldDescriptor (r.2.1 k).2.2.1 = some (xk_ty ci k) := by
  have h1 := xk_tyok ci (xk_lt h); rw [xk_getD h] at h1; exact h1
theorem xk_nmr {ci : Nat} {r : vw_C} (h : xk_cl[ci]? = some r) : ∀ a, a < r.2.2 → ∀ b, b < r.2.2 → a ≠ b → (r.2.1 a).2.1 ≠ (r.2.1 b).2.1 := by
  have h1 := xk_nm ci (xk_lt h); rw [xk_getD h] at h1; exact h1
theorem xent_obj {cA : Nat → ClassId} {g : Nat → Nat → Nat} {st : XS} {q i ci : Nat} (hc : xk_c q = some ci) : xent cA g st q i = .inr (ci, (List.range (xk_n q)).map (xval g st q i)) := by
  unfold xent; rw [hc]
theorem xent_arr {cA : Nat → ClassId} {g : Nat → Nat → Nat} {st : XS} {q i : Nat} (hc : xk_c q = none) : xent cA g st q i = .inl (cA q, xarr g st q i) := by
  unfold xent; rw [hc]
/-- the entry 'index' of own's pool is the field k of the pool q's class -/
def x_FL (own : String) (index q k : Nat) : Prop := ∃ (ci : Nat) (r : vw_C), xk_c q = some ci ∧ xk_cl[ci]? = some r ∧ k < r.2.2 ∧ (Cond.fieldLink own index (r.2.1 k).1 (r.2.1 k).2.1 (r.2.1 k).2.2.1 ∈ x_tb ∨ ∃ host, Cond.fieldLinkNest own index (r.2.1 k).1 (r.2.1 k).2.1 (r.2.1 k).2.2.1 host ∈ xk_nest)
theorem x_fs {g : Nat → Nat → Nat} {st : XS} {q i k n : Nat} (hk : k < n) : ((List.range n).map (xval g st q i))[k]? = some (xval g st q i k) := by
  rw [List.getElem?_map, List.getElem?_range hk]; rfl
section XG
variable {p : Program} {l : Launch} {e : Env} {R : Room} {s : State} {m : MethodId} {args : Array Value} {below : List Frame} {meth : Method} {c : Code} {D : va_G} {cA : Nat → ClassId} {A : Nat → Prop} {nL : Nat} {g0 : Nat → Nat → Nat} {n0 : Nat → Nat} {Q : State → Prop} {cc : ByteArray} {own : String} {pc : Nat} {L : List (Nat × XV)} {K : List XV} {st : XS} {cells slots : Nat} {H : Heap} {locs : List Loc} {ls : Array Slot} {rest : List Value} {g : Nat → Nat → Nat}
theorem x_get0 (C : x_C p e R s m args meth c D cA A cc own nL) {q i k index : Nat} (hl : x_FL own index q k) (hd : decode cc pc = .ok (.getfield index, 3)) (hW : x_W D cA A g st H) (hi : i < st.2.2.2 q) (kk : W p l e R s m args below meth c H locs cells slots Q (F0 m (pc + 3) ls (xval g st q i k :: rest))) : W p l e R s m args below meth c H locs cells slots Q (F0 m pc ls (.ref (g q i) :: rest)) := by
  obtain ⟨ci, r, hc, hr, hk, hlk⟩ := hl
  obtain ⟨-, r', hr', hn⟩ := xk_cok hc
  cases hr.symm.trans hr'
  obtain ⟨hx, hb, -, hown, hts, hKx, -, -⟩ := C
  have he : va_P D xk_cl [(g q i, .inr (ci, (List.range (xk_n q)).map (xval g st q i)))] H := by
    intro j z hz
    match j, hz with
    | 0, hz => cases hz; have h1 := (hW.1 q i hi).1; rw [xent_obj hc] at h1; exact h1
  have hK : va_K D xk_cl [] s := ⟨hKx.1, fun j z h => by simp at h⟩
  rcases hlk with h | ⟨host, h⟩
  · exact va_get (Ts := x_tb) (tys := []) hx hb hts (xk_inr hr) hown hK he 0 rfl (by rw [hr]) k hk (hts _ h) (fun _ h9 => h9) (x_fs (by rw [← hn]; exact hk)) hd kk
  · exact va_getN (Ts := x_tb) (tys := []) hx hb hts (xk_inr hr) hown hK he 0 rfl (by rw [hr]) k hk (va_Nw.use rfl (hKx.2.2 _ h)) (fun _ h9 => h9) (x_fs (by rw [← hn]; exact hk)) hd kk
theorem x_getI (C : x_C p e R s m args meth c D cA A cc own nL) {q i k index : Nat} (hl : x_FL own index q k) (hs : xk_s q k = 0) (hd : decode cc pc = .ok (.getfield index, 3)) (kk : x_V p l e R s m args below meth c D cA A nL g0 n0 Q (pc + 3) L (xI (st.1 q i k) :: K) st cells slots) : x_V p l e R s m args below meth c D cA A nL g0 n0 Q pc L (xR q (some i) :: K) st cells slots := by
  intro g H locs ls hW hg hS hl2 hL hK
  refine x_get0 C hl hd hW (xok_hd hK) ?_
  have h1 : xval g st q i k = xv g (xI (st.1 q i k)) := by unfold xval; rw [hs]; rfl
  rw [h1]
  exact kk g H locs ls hW hg hS hl2 hL (xok_cs trivial (xok_tl hK))
theorem x_getJ (C : x_C p e R s m args meth c D cA A cc own nL) {q i k index : Nat} (hl : x_FL own index q k) (hs : xk_s q k = 1) (hd : decode cc pc = .ok (.getfield index, 3)) (kk : x_V p l e R s m args below meth c D cA A nL g0 n0 Q (pc + 3) L (xL (st.2.1 q i k) :: K) st cells slots) : x_V p l e R s m args below meth c D cA A nL g0 n0 Q pc L (xR q (some i) :: K) st cells slots := by
  intro g H locs ls hW hg hS hl2 hL hK
  refine x_get0 C hl hd hW (xok_hd hK) ?_
  have h1 : xval g st q i k = xv g (xL (st.2.1 q i k)) := by unfold xval; rw [hs]; rfl
  rw [h1]
  exact kk g H locs ls hW hg hS hl2 hL (xok_cs trivial (xok_tl hK))
theorem x_okR (hW : x_W D cA A g st H) {q i k t : Nat} (hi : i < st.2.2.2 q) (hs : xk_s q k = 2) (ht : xk_t q k = t) : xok st.2.2.2 (xR t (st.2.2.1 q i k)) := by
  subst ht
  cases h : st.2.2.1 q i k with
  | none => trivial
  | some j => exact hW.2.2 q i k j hi hs h
theorem x_getR (C : x_C p e R s m args meth c D cA A cc own nL) {q i k index t : Nat} (hl : x_FL own index q k) (hs : xk_s q k = 2) (ht : xk_t q k = t) (hd : decode cc pc = .ok (.getfield index, 3)) (kk : x_V p l e R s m args below meth c D cA A nL g0 n0 Q (pc + 3) L (xR t (st.2.2.1 q i k) :: K) st cells slots) : x_V p l e R s m args below meth c D cA A nL g0 n0 Q pc L (xR q (some i) :: K) st cells slots := by
  intro g H locs ls hW hg hS hl2 hL hK
  refine x_get0 C hl hd hW (xok_hd hK) ?_
  have h1 : xval g st q i k = xv g (xR t (st.2.2.1 q i k)) := by unfold xval; rw [hs, ht]; rfl
  rw [h1]
  exact kk g H locs ls hW hg hS hl2 hL (xok_cs (x_okR hW (xok_hd hK) hs ht) (xok_tl hK))
end XG
