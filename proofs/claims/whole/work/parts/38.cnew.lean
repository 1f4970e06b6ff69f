/-! THE CLASS WRITES: openings begin; positions, names, lengths -/
section
variable {e : Nat → Nat} {a : AS} {M st : XS} {i d o N : Nat}
theorem z_nw_o {s k : Nat} {r : Int32} (ho : o < 20) (hk : a.1 1 o = 0) {s' : Nat} (k' : Nat) (hs : 0 < s') : z_o (z_nw a o s k r) s' k' = z_o a s' k' + (if s = s' ∧ k = k' then 1 else 0) := by
  have q1 : (z_nw a o s k r).1 1 o = s := by
    show (if 1 = 3 ∧ o = o then 0 else if 1 = 2 ∧ o = o then k else if 1 = 1 ∧ o = o then s else a.1 1 o) = s
    rw [if_neg (by omega), if_neg (by omega), if_pos ⟨rfl, rfl⟩]
  have q2 : (z_nw a o s k r).1 2 o = k := by
    show (if 2 = 3 ∧ o = o then 0 else if 2 = 2 ∧ o = o then k else if 2 = 1 ∧ o = o then s else a.1 2 o) = k
    rw [if_neg (by omega), if_pos ⟨rfl, rfl⟩]
  have h := z_o_U (a := a) (b := z_nw a o s k r) ho (fun t _ hto => by
    constructor
    · show a.1 1 t = (if 1 = 3 ∧ t = o then 0 else if 1 = 2 ∧ t = o then k else if 1 = 1 ∧ t = o then s else a.1 1 t)
      rw [if_neg (by omega), if_neg (by omega), if_neg (by omega)]
    · show a.1 2 t = (if 2 = 3 ∧ t = o then 0 else if 2 = 2 ∧ t = o then k else if 2 = 1 ∧ t = o then s else a.1 2 t)
      rw [if_neg (by omega), if_neg (by omega), if_neg (by omega)]) s' k'
  rw [hk, q1, q2, if_neg (c := 0 = s' ∧ _) (by omega), Nat.add_zero] at h
  exact h
theorem z_nw_4 {s k t : Nat} {r : Int32} {f : Nat} (hf : 4 ≤ f ∨ f = 0) : (z_nw a o s k r).1 f t = a.1 f t := by
  show (if f = 3 ∧ t = o then 0 else if f = 2 ∧ t = o then k else if f = 1 ∧ t = o then s else a.1 f t) = _
  rw [if_neg (by omega), if_neg (by omega), if_neg (by omega)]
theorem z_nw_t {s k t : Nat} {r : Int32} {f : Nat} (ht : t ≠ o) : (z_nw a o s k r).1 f t = a.1 f t := by
  show (if f = 3 ∧ t = o then 0 else if f = 2 ∧ t = o then k else if f = 1 ∧ t = o then s else a.1 f t) = _
  rw [if_neg (by omega), if_neg (by omega), if_neg (by omega)]
theorem z_nw_i {s k t : Nat} {r : Int32} {f : Nat} (hf : f ≠ 2 ∨ t ≠ o) : (z_nw a o s k r).2.1 f t = a.2.1 f t := by
  show (if f = 2 ∧ t = o then r else a.2.1 f t) = _
  rw [if_neg (by omega)]
theorem z_nw_e {s k : Nat} {r : Int32} : (z_nw a o s k r).1 1 o = s ∧ (z_nw a o s k r).1 2 o = k ∧ (z_nw a o s k r).1 3 o = 0 ∧ (z_nw a o s k r).2.1 2 o = r := by
  refine ⟨?_, ?_, ?_, ?_⟩
  · show (if 1 = 3 ∧ o = o then 0 else if 1 = 2 ∧ o = o then k else if 1 = 1 ∧ o = o then s else a.1 1 o) = s
    rw [if_neg (by omega), if_neg (by omega), if_pos ⟨rfl, rfl⟩]
  · show (if 2 = 3 ∧ o = o then 0 else if 2 = 2 ∧ o = o then k else if 2 = 1 ∧ o = o then s else a.1 2 o) = k
    rw [if_neg (by omega), if_pos ⟨rfl, rfl⟩]
  · show (if 3 = 3 ∧ o = o then 0 else if 3 = 2 ∧ o = o then k else if 3 = 1 ∧ o = o then s else a.1 3 o) = 0
    rw [if_pos ⟨rfl, rfl⟩]
  · show (if 2 = 2 ∧ o = o then r else a.2.1 2 o) = r
    rw [if_pos ⟨rfl, rfl⟩]
theorem RC_n {s k : Nat} {r : Int32} {P F : Option Nat} {s' : XS} (h : RC e a M st) (hk : a.1 1 o = 0)
    (h2 : s'.1 2 = z_u (z_u (st.1 2) o 2 0) o 3 r) (hr2 : s'.2.2.1 2 = z_u (z_u (st.2.2.1 2) o 0 P) o 1 F) (hP : P = if s ≤ 2 then some k else none) (hF : F = if s = 3 then some k else none)
    (hS : c_S s'.2.2.1) (hr : ∀ q, q ≠ 2 → s'.2.2.1 q = st.2.2.1 q) (hj : s'.2.1 = st.2.1) (h1 : ∀ q, q ≠ 2 → q ≠ 3 → q ≠ 4 → s'.1 q = st.1 q)
    (hI : c_I (z_nw a o s k r) (s'.1 3)) (hf : c_F (z_nw a o s k r) (s'.1 4) (st.1 11)) : RC e (z_nw a o s k r) M s' := by
  have hg : ∀ w q, c_G a w q (st.1 5) (st.1 12) → c_G (z_nw a o s k r) w q (st.1 5) (st.1 12) := fun w q => c_G_ln (z_nw_4 (by omega)) (fun j => rfl)
  refine ⟨hS, ?_, ?_, ?_, hI, ?_, ?_, ?_, ?_⟩
  · rw [hj, h1 1 (by omega) (by omega) (by omega)]
    intro t ht
    rw [z_nw_4 (by omega), z_nw_i (by omega), z_nw_i (by omega)]
    exact h.2.1 t ht
  · rw [hr 10 (by omega)]; exact h.2.2.1
  · rw [h2, hr2]
    intro t ht
    have q := h.2.2.2.1 t ht
    have hz : z_h (z_nw a o s k r) t = z_h a t := rfl
    rw [hz]
    refine ⟨by rw [z_un (by omega), z_un (by omega)]; exact q.1, ?_⟩
    by_cases hto : t = o
    · subst hto
      obtain ⟨g1, g2, g3, g4⟩ := z_nw_e (a := a) (o := t) (s := s) (k := k) (r := r)
      rw [g1, g2, g3, g4]
      intro _
      refine ⟨z_ue, by rw [z_un (by omega), z_ue]; rfl, by rw [z_un (by omega), z_ue]; exact hP, by rw [z_ue]; exact hF⟩
    · simp only [z_u1 hto, z_nw_t hto, z_nw_i (Or.inr hto)]
      exact q.2
  · rw [h1 5 (by omega) (by omega) (by omega), h1 12 (by omega) (by omega) (by omega)]
    exact ⟨fun k hk => hg _ _ (h.2.2.2.2.2.1.1 k hk), hg _ _ h.2.2.2.2.2.1.2.1, hg _ _ h.2.2.2.2.2.1.2.2⟩
  · rw [h1 11 (by omega) (by omega) (by omega)]; exact hf
  · rw [h1 0 (by omega) (by omega) (by omega)]
    show _ = Int32.ofNat ((z_nw a o s k r).1 5 0)
    rw [z_nw_4 (by omega)]
    exact h.2.2.2.2.2.2.2.1
  · intro q hq; rw [h1 q (by omega) (by omega) (by omega), hj, hr q (by omega)]; exact h.2.2.2.2.2.2.2.2 q hq
theorem c_I_n {s k : Nat} {r : Int32} (h : RC e a M st) (ho : o < 20) (hk : a.1 1 o = 0) (hs : 3 ≤ s) : c_I (z_nw a o s k r) (st.1 3) := by
  intro t ht
  rw [z_nw_o ho hk t (by omega), z_nw_o ho hk t (by omega), if_neg (by omega), if_neg (by omega)]
  exact h.2.2.2.2.1 t ht
theorem c_F_n {s k : Nat} {r : Int32} (h : RC e a M st) (ho : o < 20) (hk : a.1 1 o = 0) (hs : s ≠ 3) : c_F (z_nw a o s k r) (st.1 4) (st.1 11) := by
  intro t ht
  rw [z_nw_o ho hk t (by omega), if_neg (by omega), z_nw_4 (by omega), z_nw_i (by omega)]
  exact h.2.2.2.2.2.2.1 t ht
theorem c_new4 (h : RC e a M st) (ho : o < 20) (hk : a.1 1 o = 0) : ∃ s', f_O_begin o none none 3 st = some ((), s') ∧ RC e (z_nw a o 4 0 3) M s' := by
  unfold f_O_begin
  refine ⟨_, rfl, RC_n (P := none) (F := none) h hk ?_ ?_ rfl rfl (c_S_R (Or.inr rfl) (c_S_R (Or.inr rfl) h.1)) ?_ rfl ?_ ?_ ?_⟩
  · rw [u_Ie, u_Ie]; rfl
  · rw [u_RI, u_RI, u_Re, u_Re]
  · intro q hq; rw [u_RI, u_RI, u_R hq, u_R hq]
  · intro q h2 h3 h4; rw [u_I h2, u_I h2]; rfl
  · rw [u_I (by omega), u_I (by omega)]; exact c_I_n (st := st) h ho hk (by omega)
  · rw [u_I (by omega), u_I (by omega)]; exact c_F_n (st := st) h ho hk (by omega)
theorem c_new3 {f : Nat} {r : Int32} (h : RC e a M st) (ho : o < 20) (hk : a.1 1 o = 0) (hf : f < 6) : ∃ s', f_O_begin o none (some f) r st = some ((), s') ∧ RC e (z_nw a o 3 f r) M s' := by
  unfold f_O_begin
  refine ⟨_, rfl, RC_n (P := none) (F := some f) h hk ?_ ?_ rfl rfl (c_S_R (Or.inr rfl) (c_S_R (Or.inr rfl) h.1)) ?_ rfl ?_ ?_ ?_⟩
  · rw [u_I (by omega), u_Ie, u_Ie]; rfl
  · rw [u_RI, u_RI, u_RI, u_Re, u_Re]
  · intro q hq; rw [u_RI, u_RI, u_RI, u_R hq, u_R hq]
  · intro q h2 h3 h4; rw [u_I h4, u_I h2, u_I h2]; rfl
  · rw [u_I (by omega), u_I (by omega), u_I (by omega)]; exact c_I_n (st := st) h ho hk (by omega)
  · rw [u_Ie, u_I (by omega), u_I (by omega)]
    intro t ht
    have q := h.2.2.2.2.2.2.1 t ht
    rw [z_nw_o ho hk t (by omega), z_nw_4 (by omega), z_nw_i (by omega)]
    by_cases htf : t = f
    · subst htf
      rw [if_pos ⟨rfl, rfl⟩, z_ue, z_un (by omega), z_un (by omega)]
      refine ⟨q.1, q.2.1, ?_, q.2.2.2⟩
      show st.1 4 t 3 + 1 = _
      rw [q.2.2.1, n_su]
    · rw [if_neg (fun z => htf z.2.symm)]
      simp only [z_u1 htf]
      exact q
theorem c_new1 {k : Nat} (h : RC e a M st) (ho : o < 20) (hk : a.1 1 o = 0) (hkk : k < 6) : ∃ s', f_O_begin o (some k) none 1 st = some ((), s') ∧ RC e (z_nw a o 1 k 1) M s' := by
  unfold f_O_begin f_I_addEnd
  refine ⟨_, rfl, RC_n (P := some k) (F := none) h hk ?_ ?_ rfl rfl (c_S_R (Or.inr rfl) (c_S_R (Or.inr rfl) h.1)) ?_ rfl ?_ ?_ ?_⟩
  · rw [u_I (by omega), u_Ie, u_Ie]; rfl
  · rw [u_RI, u_RI, u_RI, u_Re, u_Re]
  · intro q hq; rw [u_RI, u_RI, u_RI, u_R hq, u_R hq]
  · intro q h2 h3 h4; rw [u_I h3, u_I h2, u_I h2]; rfl
  · rw [u_Ie, u_I (by omega), u_I (by omega)]
    intro t ht
    have q := h.2.2.2.2.1 t ht
    rw [z_nw_o ho hk t (by omega), z_nw_o ho hk t (by omega), if_neg (c := 1 = 2 ∧ _) (by omega)]
    by_cases htf : t = k
    · subst htf
      rw [if_pos ⟨rfl, rfl⟩, z_ue, z_un (by omega)]
      refine ⟨?_, q.2⟩
      show st.1 3 t 1 + 1 = _
      rw [q.1, n_su]
    · rw [if_neg (fun z => htf z.2.symm)]
      simp only [z_u1 htf]
      exact q
  · rw [u_I (by omega), u_I (by omega), u_I (by omega)]; exact c_F_n (st := st) h ho hk (by omega)
theorem c_new2 {k : Nat} (h : RC e a M st) (ho : o < 20) (hk : a.1 1 o = 0) (hkk : k < 6) : ∃ s', f_O_begin o (some k) none 2 st = some ((), s') ∧ RC e (z_nw a o 2 k 2) M s' := by
  unfold f_O_begin f_I_addEnd
  refine ⟨_, rfl, RC_n (P := some k) (F := none) h hk ?_ ?_ rfl rfl (c_S_R (Or.inr rfl) (c_S_R (Or.inr rfl) h.1)) ?_ rfl ?_ ?_ ?_⟩
  · rw [u_I (by omega), u_Ie, u_Ie]; rfl
  · rw [u_RI, u_RI, u_RI, u_Re, u_Re]
  · intro q hq; rw [u_RI, u_RI, u_RI, u_R hq, u_R hq]
  · intro q h2 h3 h4; rw [u_I h3, u_I h2, u_I h2]; rfl
  · rw [u_Ie, u_I (by omega), u_I (by omega)]
    intro t ht
    have q := h.2.2.2.2.1 t ht
    rw [z_nw_o ho hk t (by omega), z_nw_o ho hk t (by omega), if_neg (c := 2 = 1 ∧ _) (by omega)]
    by_cases htf : t = k
    · subst htf
      rw [if_pos ⟨rfl, rfl⟩, z_ue, z_un (by omega)]
      refine ⟨q.1, ?_⟩
      show st.1 3 t 2 + 1 = _
      rw [q.2, n_su]
    · rw [if_neg (fun z => htf z.2.symm)]
      simp only [z_u1 htf]
      exact q
  · rw [u_I (by omega), u_I (by omega), u_I (by omega)]; exact c_F_n (st := st) h ho hk (by omega)
theorem c_pos {v : Nat} (h : RC e a M st) : RC e (aN a 3 o v) M (xsI st 2 o 2 (Int32.ofNat v)) := by
  refine ⟨h.1, ?_, h.2.2.1, ?_, ?_, ?_, ?_, ?_, ?_⟩
  · rw [u_I (by omega)]; exact h.2.1
  · rw [u_Ie]
    intro t ht
    have q := h.2.2.2.1 t ht
    refine ⟨by rw [z_un (by omega)]; exact q.1, fun hk => ?_⟩
    obtain ⟨p1, p2, p3, p4⟩ := q.2 hk
    refine ⟨by rw [z_un (by omega)]; exact p1, ?_, p3, p4⟩
    show _ = Int32.ofNat (if 3 = 3 ∧ t = o then v else a.1 3 t)
    by_cases hto : t = o
    · subst hto; rw [z_ue, if_pos ⟨rfl, rfl⟩]
    · rw [z_u1 hto, if_neg (fun z => hto z.2)]; exact p2
  · rw [u_I (by omega)]; exact h.2.2.2.2.1
  · rw [u_I (by omega), u_I (by omega)]; exact h.2.2.2.2.2.1
  · rw [u_I (by omega), u_I (by omega)]; exact h.2.2.2.2.2.2.1
  · rw [u_I (by omega)]; exact h.2.2.2.2.2.2.2.1
  · intro q hq; rw [u_I (by omega)]; exact h.2.2.2.2.2.2.2.2 q hq
theorem c_name {f : Nat} {v : Int32} (h : RC e a M st) : RC e (aI a 3 f v) M (xsI st 4 f 2 v) := by
  refine ⟨h.1, ?_, h.2.2.1, ?_, ?_, ?_, ?_, ?_, ?_⟩
  · rw [u_I (by omega)]; exact h.2.1
  · rw [u_I (by omega)]; exact h.2.2.2.1
  · rw [u_I (by omega)]; exact h.2.2.2.2.1
  · rw [u_I (by omega), u_I (by omega)]; exact h.2.2.2.2.2.1
  · rw [u_Ie, u_I (by omega)]
    intro t ht
    have q := h.2.2.2.2.2.2.1 t ht
    refine ⟨by rw [z_un (by omega)]; exact q.1, ?_, by rw [z_un (by omega)]; exact q.2.2.1, q.2.2.2⟩
    show _ = if 3 = 3 ∧ t = f then v else a.2.1 3 t
    by_cases hto : t = f
    · subst hto; rw [z_ue, if_pos ⟨rfl, rfl⟩]
    · rw [z_u1 hto, if_neg (fun z => hto z.2)]; exact q.2.1
  · rw [u_I (by omega)]; exact h.2.2.2.2.2.2.2.1
  · intro q hq; rw [u_I (by omega)]; exact h.2.2.2.2.2.2.2.2 q hq
theorem c_len {f : Nat} (h : RC e a M st) (hf : f < 6) : RC e (aN a 4 (8 + f) 0) M (xsI st 4 f 1 0) := by
  have hg : ∀ w q, w ≠ 8 + f → c_G a w q (st.1 5) (st.1 12) → c_G (aN a 4 (8 + f) 0) w q (st.1 5) (st.1 12) := fun w q hw => c_G_ln (by rw [aN_of, if_neg (by omega)]) (fun j => rfl)
  refine ⟨h.1, ?_, h.2.2.1, ?_, ?_, ?_, ?_, ?_, ?_⟩
  · rw [u_I (by omega)]; exact h.2.1
  · rw [u_I (by omega)]; exact h.2.2.2.1
  · rw [u_I (by omega)]; exact h.2.2.2.2.1
  · rw [u_I (by omega), u_I (by omega)]
    exact ⟨fun k hk => hg _ _ (by omega) (h.2.2.2.2.2.1.1 k hk), hg _ _ (by omega) h.2.2.2.2.2.1.2.1, hg _ _ (by omega) h.2.2.2.2.2.1.2.2⟩
  · rw [u_Ie, u_I (by omega)]
    intro t ht
    have q := h.2.2.2.2.2.2.1 t ht
    rw [aN_of]
    by_cases hto : t = f
    · subst hto
      rw [if_pos ⟨rfl, rfl⟩, z_ue, z_un (by omega), z_un (by omega)]
      exact ⟨rfl, q.2.1, q.2.2.1, fun j hj => absurd hj (Nat.not_lt_zero j)⟩
    · rw [if_neg (by omega)]
      simp only [z_u1 hto]
      exact q
  · rw [u_I (by omega)]; exact h.2.2.2.2.2.2.2.1
  · intro q hq; rw [u_I (by omega)]; exact h.2.2.2.2.2.2.2.2 q hq
end
