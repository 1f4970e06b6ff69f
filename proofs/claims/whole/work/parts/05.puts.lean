/-! PUTS over pools -/
theorem x_up_oth {α : Type} {f : Nat → Nat → Nat → α} {q i k : Nat} {v : α} {r j : Nat} (h : ¬ (r = q ∧ j = i)) : x_up f q i k v r j = f r j := by
  funext z; unfold x_up; rw [if_neg (fun w => h ⟨w.1, w.2.1⟩)]
theorem x_up_self {α : Type} {f : Nat → Nat → Nat → α} {q i k : Nat} {v : α} : x_up f q i k v q i k = v := if_pos ⟨rfl, rfl, rfl⟩
theorem x_up_k {α : Type} {f : Nat → Nat → Nat → α} {q i k : Nat} {v : α} {z : Nat} (h : z ≠ k) : x_up f q i k v q i z = f q i z := if_neg (fun w => h w.2.2)
theorem x_up_ne {α : Type} {f : Nat → Nat → Nat → α} {q i k : Nat} {v : α} {r j z : Nat} (h : ¬ (r = q ∧ j = i ∧ z = k)) : x_up f q i k v r j z = f r j z := if_neg h
theorem xent_oth {cA : Nat → ClassId} {g : Nat → Nat → Nat} {st st' : XS} {r j : Nat} (h1 : st'.1 r j = st.1 r j) (h2 : st'.2.1 r j = st.2.1 r j) (h3 : st'.2.2.1 r j = st.2.2.1 r j) : xent cA g st' r j = xent cA g st r j := by
  have e1 : xval g st' r j = xval g st r j := by funext k; unfold xval; rw [h1, h2, h3]
  have e2 : xarr g st' r j = xarr g st r j := by unfold xarr; rw [h1, h2, h3]
  unfold xent; rw [e1, e2]
/-- one object has changed -/
theorem x_W.upd {D : va_G} {cA : Nat → ClassId} {A : Nat → Prop} {g : Nat → Nat → Nat} {st st' : XS} {H H1 : Heap} {q i : Nat} (hW : x_W D cA A g st H) (hi : i < st.2.2.2 q) (hN : st'.2.2.2 = st.2.2.2) (ho : ∀ r j, ¬ (r = q ∧ j = i) → st'.1 r j = st.1 r j ∧ st'.2.1 r j = st.2.1 r j ∧ st'.2.2.1 r j = st.2.2.1 r j)
    (he : va_at D xk_cl (g q i, xent cA g st' q i) H1) (hq : ∀ a : Nat, a ≠ g q i → H1[a]? = H[a]?) (hr : ∀ k t, xk_s q k = 2 → st'.2.2.1 q i k = some t → t < st.2.2.2 (xk_t q k)) : x_W D cA A g st' H1 := by
  refine ⟨fun r j hj => ?_, fun r j r2 j2 h1 h2 => hW.2.1 r j r2 j2 (by rw [← hN]; exact h1) (by rw [← hN]; exact h2), fun r j k t hj hs ht => ?_⟩
  · rw [hN] at hj
    by_cases h : r = q ∧ j = i
    · obtain ⟨rfl, rfl⟩ := h
      exact ⟨he, (hW.1 r j hj).2⟩
    · obtain ⟨a1, a2, a3⟩ := ho r j h
      rw [xent_oth a1 a2 a3]
      exact ⟨((hW.1 r j hj).1).kept (hq _ (fun z => h (hW.2.1 r j q i hj hi z))), (hW.1 r j hj).2⟩
  · rw [hN] at hj ⊢
    by_cases h : r = q ∧ j = i
    · obtain ⟨rfl, rfl⟩ := h
      exact hr k t hs ht
    · rw [(ho r j h).2.2] at ht
      exact hW.2.2 r j k t hj hs ht
theorem x_setL {α : Type} {n k : Nat} {f f' : Nat → α} {v : α} (hv : f' k = v) (ho : ∀ j, j ≠ k → f' j = f j) : (List.range n).map f' = ((List.range n).map f).set k v := by
  apply List.ext_getElem?
  intro j
  rw [List.getElem?_set, List.getElem?_map, List.getElem?_map]
  by_cases hj : k = j
  · subst hj
    by_cases hl : k < n
    · simp [hl, hv]
    · simp [hl]
  · rw [if_neg hj]
    by_cases hl : j < n
    · rw [List.getElem?_range hl]; simp [ho j (fun z => hj z.symm)]
    · simp [hl]
section XP
variable {p : Program} {l : Launch} {e : Env} {R : Room} {s : State} {m : MethodId} {args : Array Value} {below : List Frame} {meth : Method} {c : Code} {D : va_G} {cA : Nat → ClassId} {A : Nat → Prop} {nL : Nat} {g0 : Nat → Nat → Nat} {n0 : Nat → Nat} {Q : State → Prop} {cc : ByteArray} {own : String} {pc : Nat} {L : List (Nat × XV)} {K : List XV} {st : XS} {cells slots : Nat} {H : Heap} {locs : List Loc} {ls : Array Slot} {rest : List Value} {g : Nat → Nat → Nat}
/-- putfield of a field that isn't final, or of a final one in its class's constructor -/
theorem x_put0 (C : x_C p e R s m args meth c D cA A cc own nL) {q i k index : Nat} {v : Value} (hl : x_FL own index q k) (hfin : ∀ ci r, xk_c q = some ci → xk_cl[ci]? = some r → (r.2.1 k).2.2.2 = false ∨ ((r.2.1 k).2.2.2 = true ∧ meth.name = "<init>" ∧ (r.2.1 k).1 = own ∧ Cond.fieldLink own index (r.2.1 k).1 (r.2.1 k).2.1 (r.2.1 k).2.2.1 ∈ x_tb)) (hty : ∀ ci, xk_c q = some ci → narrow (xk_ty ci k) v = v ∧ fits (xk_ty ci k) v = true) (hd : decode cc pc = .ok (.putfield index, 3)) (hW : x_W D cA A g st H) (hi : i < st.2.2.2 q) (hS0 : va_S A s.heap H locs)
    (kk : ∀ (H1 : Heap) (locs1 : List Loc) (ci : Nat), xk_c q = some ci → va_at D xk_cl (g q i, .inr (ci, ((List.range (xk_n q)).map (xval g st q i)).set k v)) H1 → (∀ a : Nat, a ≠ g q i → H1[a]? = H[a]?) → va_S A s.heap H1 locs1 → W p l e R s m args below meth c H1 locs1 cells slots Q (F0 m (pc + 3) ls rest)) : W p l e R s m args below meth c H locs cells slots Q (F0 m pc ls (v :: .ref (g q i) :: rest)) := by
  obtain ⟨ci, r, hc, hr, hk, hlk⟩ := hl
  obtain ⟨-, r', hr', hn⟩ := xk_cok hc
  cases hr.symm.trans hr'
  obtain ⟨hx, hb, -, hown, hts, hKx, -, -⟩ := C
  have hAq := (hW.1 q i hi).2
  have he := (hW.1 q i hi).1
  rw [xent_obj hc] at he
  have hK : va_K D xk_cl [] s := ⟨hKx.1, fun j z h => by simp at h⟩
  have hap := va_apart (own := own) hts (xk_inr hr) (xk_ty ci) (xk_tyr hr) (xk_nmr hr) hK (by rw [hr])
  obtain ⟨r2, h1, cell, q1, q2, q3, q4⟩ := he
  cases hr.symm.trans h1
  obtain ⟨hS, hfc, kC, hkC, hkind⟩ := hKx.1 ci _ hr
  obtain ⟨cf, kf, fi, f, hfi, hsl⟩ := hS k hk
  have hst := (u_facts hfc hkC (u_lays hts (xk_inr hr) hk) hfi).1
  have hlen : k < ((List.range (xk_n q)).map (xval g st q i)).length := by rw [List.length_map, List.length_range, ← hn]; exact hk
  have fin : ∀ (H1 : Heap), H1[g q i]? = some (cell.setSlot (D.2 ci k) v) → va_at D xk_cl (g q i, .inr (ci, ((List.range (xk_n q)).map (xval g st q i)).set k v)) H1 := fun H1 e1 =>
    ⟨_, hr, t_OB.to (V := updV (vp_V ((List.range (xk_n q)).map (xval g st q i))) k v) ⟨_, e1, q2, q3, t_set q4 hap hk v⟩ (fun j _ => vp_updV_set hlen v j)⟩
  rcases hfin ci r hc hr with hf | ⟨hf, hin, hdecl, hmem⟩
  · have hlay := hts _ (xk_inr hr _ (u_in_lay hk))
    unfold u_lay at hlay
    rw [if_neg (by rw [hf]; decide)] at hlay
    have h6 := u_store hfc hkC hkind hlay hfi (xk_tyr hr k hk) (hty ci hc).1 (hty ci hc).2
    rcases hlk with h | ⟨host, h⟩
    · refine W.putK hx hb (f := f) ⟨hown, hts _ h, ⟨_, _, _, hfi⟩, hst⟩ (by rw [q2]; exact h6) q1 q3 (by rw [hsl]; exact k2_hasslot (q4 k hk)) rfl rfl hd fun H1 e1 e2 e3 => ?_
      rw [hsl] at e1 ⊢
      exact kk H1 _ ci hc (fin H1 e1) e3 (hS0.put e2 e3 hAq)
    · refine va_WputK hx hb (f := f) hown (va_Nw.use rfl (hKx.2.2 _ h)) hfi hst (by rw [q2]; exact h6) q1 q3 (by rw [hsl]; exact k2_hasslot (q4 k hk)) rfl rfl hd fun H1 e1 e2 e3 => ?_
      rw [hsl] at e1 ⊢
      exact kk H1 _ ci hc (fin H1 e1) e3 (hS0.put e2 e3 hAq)
  · have hlay := hts _ (xk_inr hr _ (u_in_lay hk))
    unfold u_lay at hlay
    rw [if_pos hf] at hlay
    have hcf : m.cls = cf := by
      obtain ⟨_, _, c', _, _, _, -, -, hf', -, -, -, hown2, -⟩ := Cond.laysFinal_spec hlay
      have e1 : c' = cf := by have := hfi.symm.trans hf'; simp at this; exact this.1.symm
      rw [hdecl] at hown2
      rw [← e1]; exact Option.some.inj (hown.symm.trans hown2)
    have h6 := u_fits hfc hkC hkind (Or.inr hlay) hfi (xk_tyr hr k hk) (hty ci hc).1 (hty ci hc).2
    refine W.putFinK hx hb hown (hts _ hmem) hfi hst hcf hin (by rw [q2]; exact h6) q1 q3 (by rw [hsl]; exact k2_hasslot (q4 k hk)) rfl rfl hd fun H1 e1 e2 e3 => ?_
    rw [hsl] at e1 ⊢
    exact kk H1 _ ci hc (fin H1 e1) e3 (hS0.put e2 e3 hAq)
/-- what a put asks of its field, by program: it isn't final, or it is and this is its class's constructor -/
def x_PF (own : String) (index q k : Nat) (mn : String) : Prop := ∀ ci r, xk_c q = some ci → xk_cl[ci]? = some r → (r.2.1 k).2.2.2 = false ∨ ((r.2.1 k).2.2.2 = true ∧ mn = "<init>" ∧ (r.2.1 k).1 = own ∧ Cond.fieldLink own index (r.2.1 k).1 (r.2.1 k).2.1 (r.2.1 k).2.2.1 ∈ x_tb)
theorem x_putI (C : x_C p e R s m args meth c D cA A cc own nL) {q i k index : Nat} {v : Int32} (hl : x_FL own index q k) (hf : x_PF own index q k meth.name) (hs : xk_s q k = 0) (hty : ∀ ci, xk_c q = some ci → xk_ty ci k = .int) (hd : decode cc pc = .ok (.putfield index, 3)) (kk : x_V p l e R s m args below meth c D cA A nL g0 n0 Q (pc + 3) L K (xsI st q i k v) cells slots) : x_V p l e R s m args below meth c D cA A nL g0 n0 Q pc L (xI v :: xR q (some i) :: K) st cells slots := by
  intro g H locs ls hW hg hS hl2 hL hK
  have hi : i < st.2.2.2 q := xok_hd (xok_tl hK)
  refine x_put0 C hl hf (fun ci hc => by rw [hty ci hc]; exact ⟨rfl, rfl⟩) hd hW hi hS fun H1 locs1 ci hc hat hoth hS1 => ?_
  refine kk g H1 locs1 ls (hW.upd hi rfl (fun r j h => ⟨x_up_oth h, rfl, rfl⟩) ?_ hoth (fun k t h1 h2 => hW.2.2 q i k t hi h1 h2)) hg hS1 hl2 hL (xok_tl (xok_tl hK))
  rw [xent_obj hc, x_setL (f := xval g st q i) (k := k) (v := .int v)]
  · exact hat
  · unfold xval; rw [hs]; show Value.int (x_up _ _ _ _ _ _ _ _) = _; rw [x_up_self]
  · intro j hj; unfold xval; show (match xk_s q j with | 0 => Value.int (x_up _ _ _ _ _ _ _ _) | 1 => _ | _ => _) = _; rw [x_up_k hj]; rfl
theorem x_putJ (C : x_C p e R s m args meth c D cA A cc own nL) {q i k index : Nat} {v : Int64} (hl : x_FL own index q k) (hf : x_PF own index q k meth.name) (hs : xk_s q k = 1) (hty : ∀ ci, xk_c q = some ci → xk_ty ci k = .long) (hd : decode cc pc = .ok (.putfield index, 3)) (kk : x_V p l e R s m args below meth c D cA A nL g0 n0 Q (pc + 3) L K (xsJ st q i k v) cells slots) : x_V p l e R s m args below meth c D cA A nL g0 n0 Q pc L (xL v :: xR q (some i) :: K) st cells slots := by
  intro g H locs ls hW hg hS hl2 hL hK
  have hi : i < st.2.2.2 q := xok_hd (xok_tl hK)
  refine x_put0 C hl hf (fun ci hc => by rw [hty ci hc]; exact ⟨rfl, rfl⟩) hd hW hi hS fun H1 locs1 ci hc hat hoth hS1 => ?_
  refine kk g H1 locs1 ls (hW.upd hi rfl (fun r j h => ⟨rfl, x_up_oth h, rfl⟩) ?_ hoth (fun k t h1 h2 => hW.2.2 q i k t hi h1 h2)) hg hS1 hl2 hL (xok_tl (xok_tl hK))
  rw [xent_obj hc, x_setL (f := xval g st q i) (k := k) (v := .long v)]
  · exact hat
  · unfold xval; rw [hs]; show Value.long (x_up _ _ _ _ _ _ _ _) = _; rw [x_up_self]
  · intro j hj; unfold xval; show (match xk_s q j with | 0 => _ | 1 => Value.long (x_up _ _ _ _ _ _ _ _) | _ => _) = _; rw [x_up_k hj]; rfl
theorem x_refR {q i k : Nat} {v : Option Nat} {q2 : Nat} (hW : x_W D cA A g st H) (hi : i < st.2.2.2 q) (hv : xok st.2.2.2 (xR q2 v)) (hq : v = none ∨ xk_t q k = q2) : ∀ z t, xk_s q z = 2 → x_up st.2.2.1 q i k v q i z = some t → t < st.2.2.2 (xk_t q z) := by
  intro z t h1 h2
  by_cases hz : z = k
  · subst hz
    rw [x_up_self] at h2
    subst h2
    rcases hq with h | h
    · cases h
    · rw [h]; exact hv
  · rw [x_up_k hz] at h2
    exact hW.2.2 q i z t hi h1 h2
/-- a reference of the pool that the field leads to, or null -/
theorem x_putR (C : x_C p e R s m args meth c D cA A cc own nL) {q i k index q2 : Nat} {v : Option Nat} (hl : x_FL own index q k) (hf : x_PF own index q k meth.name) (hs : xk_s q k = 2) (hq : v = none ∨ xk_t q k = q2) (hty : ∀ ci, xk_c q = some ci → (∃ n, xk_ty ci k = .object n) ∨ ∃ t, xk_ty ci k = .array t) (hd : decode cc pc = .ok (.putfield index, 3)) (kk : x_V p l e R s m args below meth c D cA A nL g0 n0 Q (pc + 3) L K (xsR st q i k v) cells slots) : x_V p l e R s m args below meth c D cA A nL g0 n0 Q pc L (xR q2 v :: xR q (some i) :: K) st cells slots := by
  intro g H locs ls hW hg hS hl2 hL hK
  have hi : i < st.2.2.2 q := xok_hd (xok_tl hK)
  have hval : xrf g q2 v = xrf g (xk_t q k) v := by
    rcases hq with h | h
    · rw [h]; rfl
    · rw [h]
  refine x_put0 C hl hf (fun ci hc => ?_) hd hW hi hS fun H1 locs1 ci hc hat hoth hS1 => ?_
  · rcases hty ci hc with ⟨n, h⟩ | ⟨t, h⟩ <;> rw [h] <;> cases v <;> exact ⟨rfl, rfl⟩
  refine kk g H1 locs1 ls (hW.upd hi rfl (fun r j h => ⟨rfl, rfl, x_up_oth h⟩) ?_ hoth (x_refR hW hi (xok_hd hK) hq)) hg hS1 hl2 hL (xok_tl (xok_tl hK))
  rw [xent_obj hc, x_setL (f := xval g st q i) (k := k) (v := xrf g q2 v)]
  · exact hat
  · unfold xval; rw [hs]; show xrf g _ (x_up _ _ _ _ _ _ _ _) = _; rw [x_up_self, hval]
  · intro j hj; unfold xval; show (match xk_s q j with | 0 => _ | 1 => _ | _ => xrf g _ (x_up _ _ _ _ _ _ _ _)) = _; rw [x_up_k hj]; rfl
end XP
