/-! THE START of the law, and the claim -/
def R_law : String := "DescriptorDeskLaw"
def lw_At (p : Program) (s : State) (m : MethodId) (meth : Method) (c : Code) (b L : Nat) (xs : Nat → Int32) : Prop :=
  p.tables.exec = Jvm.exec ∧ c.code = code ∧ meth.sig.returnType = ret ∧ c.maxLocals = 7 ∧ s.vm.findClass R_law = some m.cls ∧ (∀ w ∈ lw_tbl, w.before #[Value.ref b] s = true) ∧ va_X b L xs s s.heap ∧ b < s.heap.size ∧ meth.locks = false ∧ (Jvm.Cond.and given_1 narrow_1).before #[Value.ref b] s = true
theorem st_str : ∀ z ∈ xk_str, Cond.stringRef z.1 z.2.1 z.2.2 ∈ lw_tbl ∧ Cond.exactly (Term.string z.1 z.2.1) "java/lang/String" ∈ flatC (Jvm.Cond.and given_1 narrow_1) := by decide +kernel
theorem st_over : ∀ nm ∈ xk_over, Cond.arrayOver (.object nm) ∈ lw_tbl := by decide +kernel
theorem st_unc : ∀ z ∈ xk_unc, Cond.not (.castable z.1 z.2) ∈ flatC (Jvm.Cond.and given_1 narrow_1) := by decide +kernel
theorem st_dec : ∀ y ∈ xk_dec, Cond.declares y ∈ lw_tbl := by decide +kernel
theorem st_cast : Cond.castable "java/lang/IllegalStateException" "java/lang/IllegalStateException" ∈ lw_tbl ∧ Cond.castable "java/lang/IllegalArgumentException" "java/lang/IllegalArgumentException" ∈ lw_tbl := by decide +kernel
theorem st_stat : Cond.laysStatic Bundle.tN "UNASSIGNED_STACK" Bundle.steD ∈ lw_tbl ∧ Cond.laysStatic Bundle.tN "SUPPRESSED_SENTINEL" Bundle.listD ∈ lw_tbl := by decide +kernel
theorem st_ref : Cond.isRef (.static Bundle.tN "UNASSIGNED_STACK" Bundle.steD) ∈ flatC (Jvm.Cond.and given_1 narrow_1) ∧ Cond.isRef (.static Bundle.tN "SUPPRESSED_SENTINEL" Bundle.listD) ∈ flatC (Jvm.Cond.and given_1 narrow_1) := by decide +kernel
theorem st_arr : Cond.arrayClass .int ∈ lw_tbl ∧ Cond.arrayClass .long ∈ lw_tbl ∧ Cond.arrayClass .boolean ∈ lw_tbl := by decide +kernel
theorem st_ins : ∀ c, c < 7 → Cond.instantiable (xk_cl.getD c ("", ft_0, 0)).1 (xk_cl.getD c ("", ft_0, 0)).2.2 ∈ lw_tbl := by decide +kernel
theorem st_ty (q : Nat) (ty : FieldType) (h : xk_a q = some ty) : ty = .int ∨ ty = .long ∨ ty = .boolean ∨ ∃ nm ∈ xk_over, ty = .object nm := by
  unfold xk_a at h
  split at h
  all_goals first
    | (cases h; exact Or.inl rfl)
    | (cases h; exact Or.inr (Or.inl rfl))
    | (cases h; exact Or.inr (Or.inr (Or.inl rfl)))
    | (cases h; exact Or.inr (Or.inr (Or.inr ⟨_, by decide, rfl⟩)))
    | cases h
section
variable {s : State} {args : Array Value}
theorem st_prim {ty : FieldType} (h : (Cond.arrayClass ty).before args s = true) (hp : ∀ (cA : ClassId), s.vm.findClass ("[" ++ ty.toString) = some cA → va_RA s cA ty) : ∃ cA, ArrOfT s cA ty ∧ va_RA s cA ty := by
  obtain ⟨cA, kA, comp, h1, h2, h3⟩ := Cond.arrayClass_spec h
  exact ⟨cA, fun n z => ⟨fun k h => (by cases h), kA, h2, comp, h3⟩, hp cA h1⟩
theorem st_obj {C : String} (h : (Cond.arrayOver (.object C)).before args s = true) : ∃ cA, ArrOfT s cA (.object C) ∧ va_RA s cA (.object C) := by
  obtain ⟨comp, cA, kA, h1, h2, h3, h4, h5⟩ := Cond.arrayOver_spec h
  exact ⟨cA, fun n z => ⟨fun k h => (by cases h), kA, h3, comp, h4⟩, kA, comp, h3, h4, h1, h5⟩
theorem st_St {n d : String} {A : Nat → Prop} (hl : (Cond.laysStatic Bundle.tN n d).before args s = true) (hr : (Cond.isRef (.static Bundle.tN n d)).before args s = true) (hA : ∀ a : Nat, a < s.heap.size → ¬ A a) : x_St n d A s s.heap := by
  obtain ⟨c, k, i, f, a, cell, hc, hi, hst, ha, hcell, hs, hcls, hlt, hty⟩ := Cond.laysStatic_spec hl
  obtain ⟨v, hv, hvr⟩ := Cond.isRef_spec hr
  obtain ⟨hst', a', cell', ha', hcell', -, hslot⟩ := Term.static_spec hi hv
  cases ha.symm.trans ha'
  cases hcell.symm.trans hcell'
  refine ⟨c, k, i, f, a, cell, v, hc, hi, hst, ha, hcell, hs, hcls, hlt, hty, hslot, ?_, hA a (Array.getElem?_eq_some_iff.mp hcell).1⟩
  cases v with
  | null => exact Or.inl rfl
  | ref q => exact Or.inr ⟨q, rfl⟩
  | _ => exact absurd hvr (by simp [Value.isRef])
end
theorem whole_start {p : Program} {e : Env} {s : State} {m : MethodId} {below : List Frame} {meth : Method} {c : Code} (l : Launch) (hfl : l.flags = flags0) {b L : Nat} {xs : Nat → Int32} (hL : L ≤ 3072) (C0 : lw_At p s m meth c b L xs) : W p l e room_1 s m #[Value.ref b] below meth c s.heap [] 0 0 (lw_Z below #[Value.ref b] s) (entryFrame m ([Value.ref b] : List Value).toArray 7) := by
  obtain ⟨hx, hb, hr, hml, hown, hts, hX, hbl, hlocks, hgv⟩ := id C0
  have hA : ∀ q : Nat, s.heap.size ≤ q → (fun q : Nat => s.heap.size ≤ q) q := fun _ h => h
  have hnA : ∀ a : Nat, a < s.heap.size → ¬ (fun q : Nat => s.heap.size ≤ q) a := fun a ha => Nat.not_le.mpr ha
  have hgf := flat_of_before _ hgv
  have htx : ∀ w ∈ x_tb, w.before #[Value.ref b] s = true := fun w hw => hts w (List.mem_filter.mp hw).1
  have hkc : ∀ c : Nat, ∃ (cC : ClassId) (iS : Nat → Nat), ∀ q : vw_C, xk_cl[c]? = some q → u_Kn s q.1 q.2.1 q.2.2 cC iS := by
    intro c
    by_cases hc : c < 7
    · obtain ⟨cC, iS, h⟩ := u_known htx (xk_in c hc) (hts _ (st_ins c hc))
      refine ⟨cC, iS, fun q hq => ?_⟩
      rw [List.getD_eq_getElem?_getD, hq] at h
      exact h
    · exact ⟨0, fun _ => 0, fun q hq => by
        have := (List.getElem?_eq_some_iff.mp hq).1
        exact absurd this (by show ¬ c < 7; omega)⟩
  have hka : ∀ q : Nat, ∃ cA : ClassId, ∀ ty, xk_a q = some ty → ArrOfT s cA ty ∧ va_RA s cA ty := by
    intro q
    cases h : xk_a q with
    | none => exact ⟨0, fun ty e => nomatch e⟩
    | some ty =>
      have hex : ∃ cA : ClassId, ArrOfT s cA ty ∧ va_RA s cA ty := by
        rcases st_ty q ty h with rfl | rfl | rfl | ⟨nm, hnm, rfl⟩
        · exact st_prim (hts _ st_arr.1) (fun _ z => z)
        · exact st_prim (hts _ st_arr.2.1) (fun _ z => z)
        · exact st_prim (hts _ st_arr.2.2) (fun _ z => z)
        · exact st_obj (hts _ (st_over nm hnm))
      obtain ⟨cA, h1⟩ := hex
      exact ⟨cA, fun ty' e => by cases e; exact h1⟩
  obtain ⟨dC, hdC⟩ : ∃ dC : Nat → ClassId, ∀ c, ∃ iS : Nat → Nat, ∀ q : vw_C, xk_cl[c]? = some q → u_Kn s q.1 q.2.1 q.2.2 (dC c) iS := ⟨fun c => Classical.choose (hkc c), fun c => Classical.choose_spec (hkc c)⟩
  obtain ⟨dI, hdI⟩ : ∃ dI : Nat → Nat → Nat, ∀ c, ∀ q : vw_C, xk_cl[c]? = some q → u_Kn s q.1 q.2.1 q.2.2 (dC c) (dI c) := ⟨fun c => Classical.choose (hdC c), fun c => Classical.choose_spec (hdC c)⟩
  obtain ⟨cA, hcA⟩ : ∃ cA : Nat → ClassId, ∀ q ty, xk_a q = some ty → ArrOfT s (cA q) ty ∧ va_RA s (cA q) ty := ⟨fun q => Classical.choose (hka q), fun q => Classical.choose_spec (hka q)⟩
  have hK : x_K (dC, dI) cA s := by
    refine ⟨fun c q h => hdI c q h, hcA, fun w hw => ?_⟩
    have h := hts w (xk_nestok w hw)
    rcases xk_nestform w hw with ⟨_, _, _, _, _, _, rfl⟩ | ⟨_, _, _, _, rfl⟩
    · exact va_Nw.of rfl h
    · exact va_Nw.of rfl h
  have hT : x_Th (fun q : Nat => s.heap.size ≤ q) s s.heap := by
    refine ⟨⟨va_Nw.of rfl (hts _ st_cast.1), va_Nw.of rfl (hts _ st_cast.2)⟩, st_St (hts _ st_stat.1) (hgf _ st_ref.1) hnA, st_St (hts _ st_stat.2) (hgf _ st_ref.2) hnA, fun z hz => ?_, fun nm hn => va_AO.of (hts _ (st_over nm hn)), fun z hz => va_Nc.of (hgf _ (st_unc z hz)), fun y hy => va_Nw.of rfl (hts _ (st_dec y hy))⟩
    obtain ⟨a, _, _, _, h1, _⟩ := Cond.exactly_spec (hgf _ (st_str z hz).2)
    exact ⟨a, vk_R.of (hts _ (st_str z hz).1) h1⟩
  have C : x_C p e room_1 s m #[Value.ref b] meth c (dC, dI) cA (fun q => s.heap.size ≤ q) code "DescriptorDeskLaw" 7 := ⟨hx, hb, hml, hown, htx, hK, hlocks, hA, hT⟩
  have V := v_L_law_0 (l := l) (below := below) (g0 := fun _ _ => 0) (n0 := fun _ => 0) C hr hfl hX hbl (l_law (xs := xs) hL)
  have hl := lv_entry ([.ref b]) (n := 7) (Nat.le_of_ble_eq_true rfl)
  rw [lg_entry_eq]
  generalize (lg_sl ([.ref b]) ++ List.replicate (7 - (lg_sl ([.ref b])).length) Slot.unset).toArray = ls at hl ⊢
  have hl : lv_has ls 7 [(0, .ref b)] := hl
  exact V (fun _ _ => 0) s.heap [] ls ⟨fun q i hi => absurd hi (Nat.not_lt_zero i), fun q i r j hi => absurd hi (Nat.not_lt_zero i), fun q i k j hi => absurd hi (Nat.not_lt_zero i)⟩ ⟨fun q i hi => absurd hi (Nat.not_lt_zero i), fun _ => Nat.zero_le _⟩ va_S.rf hl (fun z hz => by
    rw [List.mem_singleton] at hz
    rw [hz]
    trivial) (fun v hv => by cases hv)
set_option maxHeartbeats 4000000 in
theorem lw_walk (l : Launch) (hfl : l.flags = flags0) (b : Addr) (xs : List Int32) : MetFree l x (headSpec (Jvm.Cond.code x code maxLocals ret :: tables_1) room_1) (lw_P b xs) (fun _ _ _ _ _ => True) lw_Q := by
  refine MetFree.of_bodyS (code := code) (maxLocals := maxLocals) (ret := ret) (by decide) ?_ ?_
  · intro args s m h hn
    obtain ⟨meth, c, h1, h2, h3, h4, h5, h6, -, -⟩ := Cond.code_spec hn (atoms_spec (ws := Jvm.Cond.code x code maxLocals ret :: tables_1) h _ List.mem_cons_self)
    exact ⟨meth, c, h1, h2, h3, h4, h5, h6⟩
  · intro p e s m args below meth c s₁ B hml0 hP _
    obtain ⟨rfl, hx, hbd, hgv⟩ := hP
    obtain ⟨scr, harrAt, hlist, hof, hsmall⟩ := hx
    obtain ⟨hcb, hkn, -, -⟩ := State.arrayAt?_spec harrAt
    have hown : s.vm.findClass R_law = some m.cls := findClass_of_methodNamed B.named
    have hts0 : ∀ c ∈ (Jvm.Cond.code x code maxLocals ret :: tables_1), c.before #[Value.ref b] s = true := atoms_spec (ws := Jvm.Cond.code x code maxLocals ret :: tables_1) B.pre
    have hts : ∀ w ∈ lw_tbl, w.before #[Value.ref b] s = true := k2_hts_sels lw_privs (fun w hw => hts0 w (List.mem_cons_of_mem _ hw)) lw_privs_ok
    have hml : c.maxLocals = 7 := B.maxLocals_eq (hts0 _ List.mem_cons_self)
    have X₀ : Stand p l e room_1 s m #[Value.ref b] below meth c s₁ [] 0 0 := Stand.of_body B
    have hh0 : s₁.heap = s.heap := by rw [B.state]; rfl
    have hsz : scr.slots.size = xs.length := by rw [← Array.length_toList, hlist, List.length_map]
    have hval : ∀ j : Nat, j < xs.length → scr.slots[j]? = some (.int (xs.getD j 0)) := fun j hj => by
      rw [← Array.getElem?_toList, hlist]
      simp [hj]
    have hbl : b < s.heap.size := (Array.getElem?_eq_some_iff.mp hcb).1
    have hX : va_X b xs.length (fun j => xs.getD j 0) s s.heap := ⟨scr, hcb, hof, hkn, hsz, hval⟩
    have K : W p l e room_1 s m #[Value.ref b] below meth c s₁.heap [] 0 0 (lw_Z below #[Value.ref b] s) (entryFrame m ([Value.ref b] : List Value).toArray 7) := by
      rw [hh0]
      exact whole_start l hfl hbd ⟨B.exec, B.bytes, B.returns, hml, hown, hts, hX, hbl, B.notSynchronized, hgv⟩
    obtain ⟨t, a1, o, b1, b2, b3⟩ := K s₁ rfl X₀
    exact ⟨t, o, a1, b1, b2, b3⟩
theorem lw_pre_spec {args : Array Value} {s : State} (h : (Jvm.Cond.and given_1 narrow_1).before args s = true) (hr : rest_1_c.before args s = true) : ∃ (b : Addr) (xs : List Int32), lw_P b xs args s := by
  have hs := flat_of_before _ h
  have hq := flat_of_before _ hr
  have hc : (Cond.count 1).before args s = true := hs _ (by decide +kernel)
  have harr : (Cond.arrayOf (.arg 0) .int).before args s = true := hs _ (by decide +kernel)
  have hle : (Cond.le (.length (.arg 0)) (.int 3072)).before args s = true := hs _ (by decide +kernel)
  have hlen : (Cond.isInt (.length (.arg 0))).before args s = true := hq _ (by decide +kernel)
  have hall : (Cond.all (.arg 0) (.isInt (.elem (.arg 0) (.index 0)))).before args s = true := hq _ (by decide +kernel)
  obtain ⟨b, xs, hb, hx⟩ := State.ints_of_pre rfl harr hlen hall
  have hsm : xs.length < 2 ^ 31 := hx.choose_spec.2.2.2
  have hev : (Term.length (.arg 0)).eval args s none [] s = some (.int xs.length.toInt32) := hx.length_eval hb
  have hv := Cond.le_ints hev (show (Term.int 3072).eval args s none [] s = some (.int 3072) from rfl)
  have hd : xs.length.toInt32 ≤ 3072 := by
    simpa [Cond.before, Cond.holds, hv] using hle
  have hN : xs.length ≤ 3072 := (Int32.ofNat_le_ofNat hsm (by decide)).mp (show Int32.ofNat xs.length ≤ Int32.ofNat 3072 from hd)
  exact ⟨b, xs, Cond.one_arg hc (show args[0]? = some (.ref b) from hb), hx, hN, h⟩
theorem lw_comes (l : Launch) (hfl : l.flags = flags0) : Comes l x (Jvm.Cond.code x code maxLocals ret :: tables_1) room_1 (fun tb e args s => Calls_1 tb e args s ∧ rest_1 tb e args s ∧ Pre_1 tb e args s)
    (fun _ _ args s o t => lw_Q args s o t) := by
  intro p e ha hc hk s m args below hf hfit hheap happ hpre
  obtain ⟨b, xs, hP⟩ := lw_pre_spec hpre.2.2 hpre.2.1
  obtain ⟨k, o, h1, h2, h3, hQ⟩ := lw_walk l hfl b xs p e ha hc hk s m args below hf ((Spec.applies_iff_loose hf).mp happ).1 hP trivial
  exact ⟨k, o, h1, h2, h3, hQ⟩
theorem lw_frame {s t : State} {o : Outcome} {args : Array Value} (h : Framed s o t [] 601024 7293034) :
    Framed s o t (fieldLocs frame_1_writes args s ++ arrayLocs frame_1_arrays args s ++ staticLocs frame_1_statics s) 601024 7293034 := h
theorem lw_limb (L : Cond) (hL : ∀ (args : Array Value) (s t : State), L.after args s (.returned (some (.int 1))) t = true) :
    ArmFor flags0 classFile x code maxLocals ret World_1 tables_1 room_1 Calls_1 rest_1 Pre_1
      (fun tb e a s o t => postC L tb e a s o t ∧ Framed s o t (fieldLocs frame_1_writes a s ++ arrayLocs frame_1_arrays a s ++ staticLocs frame_1_statics s) 601024 7293034) := by
  intro l hfl _ _ p e ha hc hk s m args below hf hfit hheap happ hpre
  obtain ⟨k, o, h1, h2, h3, rfl, hF⟩ := lw_comes l hfl p e ha hc hk s m args below hf hfit hheap happ hpre
  exact ⟨k, _, h1, h2, h3, hL args s _, lw_frame hF⟩
theorem i_vc : Claimed_1_1 ∧ Claimed_1_2 := ⟨lw_limb limb_1_1 (fun args s t => by simp [limb_1_1, Cond.after, Cond.holds, Cond.value]), lw_limb limb_1_2 (fun args s t => Cond.after_iff.mpr (by
  first | (rw [show limb_1_2 = Cond.eq .result (.int 1) from rfl, Cond.eq_ints (x := 1) (y := 1) rfl rfl]; simp; done) | (simp [limb_1_2, Cond.value, Term.eval]; done)))⟩
