/-! DESCRIPTORS: let go, hold -/
theorem c_S_R {st : XS} {q i k : Nat} {v : Option Nat} (hq : q = 10 ∨ q = 2) (h : c_S st.2.2.1) : c_S (xsR st q i k v).2.2.1 := by
  unfold c_S
  rw [u_R (t := 0) (by omega), u_R (t := 6) (by omega), u_R (t := 7) (by omega), u_R (t := 8) (by omega), u_R (t := 9) (by omega), u_R (t := 1) (by omega), u_R (t := 3) (by omega), u_R (t := 4) (by omega), u_R (t := 5) (by omega)]
  exact h
theorem c_D_u {a : AS} {R : Nat → Nat → Option Nat} {i d : Nat} {v : Option Nat} (h : c_D a R) : c_D (aD a i d v) (z_u R i d v) := by
  intro p hp q hq
  show z_u R i d v p q = z_u a.2.2.2 i d v p q
  by_cases hc : p = i ∧ q = d
  · obtain ⟨rfl, rfl⟩ := hc; rw [z_ue, z_ue]
  · rw [z_un hc, z_un hc]; exact h p hp q hq
section
variable {e : Nat → Nat} {a : AS} {M st : XS} {i d o N : Nat}
theorem z_h_no (hi : i < 8) (hd : d < 8) (hs : a.2.2.2 i d = some o) (t : Nat) : z_h (aD a i d none) t + z_1 e o t = z_h a t + e t := by
  have h1 := z_h_D a hi hd none t
  rw [hs] at h1
  rw [if_neg (c := none = some t) (fun z => nomatch z)] at h1
  unfold z_1
  by_cases ht : t = o
  · subst ht; rw [if_pos rfl] at h1 ⊢; omega
  · rw [if_neg (fun z => ht (Option.some.inj z).symm)] at h1; rw [if_neg ht]; omega
theorem z_h_so (hi : i < 8) (hd : d < 8) (hs : a.2.2.2 i d = none) (t : Nat) : z_h (aD a i d (some o)) t + e t = z_h a t + z_1 e o t := by
  have h1 := z_h_D a hi hd (some o) t
  rw [hs] at h1
  rw [if_neg (c := none = some t) (fun z => nomatch z)] at h1
  unfold z_1
  by_cases ht : t = o
  · subst ht; rw [if_pos rfl] at h1 ⊢; omega
  · rw [if_neg (fun z => ht (Option.some.inj z).symm)] at h1; rw [if_neg ht]; omega
theorem c_release_no (h : RC e a M st) (hi : i < 8) (hd : d < 8) (hs : a.2.2.2 i d = none) : f_P_release i (Int32.ofNat d) st = some ((), st) := by
  unfold f_P_release
  rw [c_openingAt h hi, z_d_of hd, hs]
theorem c_release_so (h : RC e a M st) (wd : W_D a) (wo : W_O e a) (wl : W_L N a) (hi : i < 8) (hd : d < 8) (hs : a.2.2.2 i d = some o) (he : ∀ t, e t ≤ 8) :
    ∃ st', f_P_release i (Int32.ofNat d) st = some ((), st') ∧ RC e (z_s e (aD a i d none)) M st' := by
  have ho := wd i hi d hd o hs
  have hle := z_h_no (e := e) hi hd hs
  have hO : c_O (z_1 e o) (aD a i d none) (st.1 2) (st.2.2.1 2) := by
    intro t ht
    rw [hle t]
    exact h.2.2.2.1 t ht
  have wo' : W_O (z_1 e o) (aD a i d none) := by
    intro t ht
    rw [hle t]
    exact wo t ht
  obtain ⟨s', g1, gs, g2, g3, g4, g5, g6⟩ := c_drop (a := aD a i d none) (N := N) h.1 hO h.2.2.2.2.1 h.2.2.2.2.2.1 h.2.2.2.2.2.2.1 wo' wl ho (he o)
  unfold f_P_release
  rw [c_openingAt h hi, z_d_of hd, hs]
  dsimp only
  rw [g1]
  dsimp only
  have gr : s'.2.2.1 = st.2.2.1 := by rw [gs]
  have gj : s'.2.1 = st.2.1 := by rw [gs]
  rw [gr, h.1.2.2.2.2.2.1 i hi]
  dsimp only
  rw [if_pos (n_in (by omega) hd), n_to (by omega)]
  refine ⟨_, rfl, c_S_R (Or.inl rfl) (by rw [gr]; exact h.1), ?_, ?_, ?_, g3, g4, g5, ?_, ?_⟩
  · rw [u_IR, u_JR, gj, g6 1 (by omega) (by omega) (by omega) (by omega)]; exact h.2.1
  · rw [u_Re, gr]; exact c_D_u (a := a) h.2.2.1
  · rw [u_R (by omega), gr]; exact g2
  · rw [u_IR, g6 0 (by omega) (by omega) (by omega) (by omega)]; exact h.2.2.2.2.2.2.2.1
  · intro q hq
    rw [u_R (by omega), u_IR, u_JR, gr, gj, g6 q (by omega) (by omega) (by omega) (by omega)]
    exact h.2.2.2.2.2.2.2.2 q hq
theorem c_inc (h : RC e a M st) (ho : o < 20) : RC (z_1 e o) a M (xsI st 2 o 4 (st.1 2 o 4 + 1)) := by
  refine ⟨h.1, ?_, h.2.2.1, ?_, ?_, ?_, ?_, ?_, ?_⟩
  · rw [u_I (by omega)]; exact h.2.1
  · rw [u_Ie]
    intro t ht
    have q := h.2.2.2.1 t ht
    refine ⟨?_, ?_⟩
    · unfold z_1
      by_cases hto : t = o
      · subst hto; rw [z_ue, if_pos rfl, q.1, n_su]; rfl
      · rw [z_un (fun z => hto z.1), if_neg hto]; exact q.1
    · rw [z_un (by omega), z_un (by omega)]; exact q.2
  · rw [u_I (by omega)]; exact h.2.2.2.2.1
  · rw [u_I (by omega), u_I (by omega)]; exact h.2.2.2.2.2.1
  · rw [u_I (by omega), u_I (by omega)]; exact h.2.2.2.2.2.2.1
  · rw [u_I (by omega)]; exact h.2.2.2.2.2.2.2.1
  · intro q hq; rw [u_I (by omega)]; exact h.2.2.2.2.2.2.2.2 q hq
theorem c_put (h : RC (z_1 e o) a M st) (hi : i < 8) (hd : d < 8) (hs : a.2.2.2 i d = none) : RC e (aD a i d (some o)) M (xsR st 10 i d (some o)) := by
  refine ⟨c_S_R (Or.inl rfl) h.1, h.2.1, ?_, ?_, h.2.2.2.2.1, h.2.2.2.2.2.1, h.2.2.2.2.2.2.1, h.2.2.2.2.2.2.2.1, ?_⟩
  · rw [u_Re]; exact c_D_u h.2.2.1
  · rw [u_R (by omega)]
    intro t ht
    rw [z_h_so hi hd hs]
    exact h.2.2.2.1 t ht
  · intro q hq
    rw [u_R (by omega)]
    exact h.2.2.2.2.2.2.2.2 q hq
theorem c_hold_no (h : RC e a M st) (hi : i < 8) (hd : d < 8) (ho : o < 20) (hs : a.2.2.2 i d = none) : ∃ st', f_P_hold i (Int32.ofNat d) (some o) st = some ((), st') ∧ RC e (aD a i d (some o)) M st' := by
  have h1 := c_inc h ho
  unfold f_P_hold
  rw [if_neg (n_ng (by omega)), if_pos (show Int32.ofNat d < 8 from (n_lt (b := 8) (by omega) (by omega)).mpr hd)]
  dsimp only
  rw [c_release_no h1 hi hd hs]
  dsimp only
  rw [h1.1.2.2.2.2.2.1 i hi]
  dsimp only
  rw [if_pos (n_in (by omega) hd), n_to (by omega)]
  exact ⟨_, rfl, c_put h1 hi hd hs⟩
theorem W_O_1 (wo : W_O e a) (hk : 0 < z_h a o + e o) : W_O (z_1 e o) a := by
  intro t ht
  obtain ⟨w1, w2⟩ := wo t ht
  refine ⟨?_, w2⟩
  unfold z_1
  by_cases hto : t = o
  · subst hto; rw [if_pos rfl]; exact ⟨fun _ => by omega, fun _ => w1.mpr hk⟩
  · rw [if_neg hto]; exact w1
theorem c_hold_so {o' : Nat} (h : RC e a M st) (wd : W_D a) (wo : W_O e a) (wl : W_L N a) (he : ∀ t, e t ≤ 7) (hi : i < 8) (hd : d < 8) (ho : o < 20) (hk : 0 < z_h a o + e o) (hs : a.2.2.2 i d = some o') :
    ∃ st', f_P_hold i (Int32.ofNat d) (some o) st = some ((), st') ∧ RC e (aD (z_s (z_1 e o) (aD a i d none)) i d (some o)) M st' := by
  have h1 := c_inc h ho
  obtain ⟨st1, g1, g2⟩ := c_release_so h1 wd (W_O_1 wo hk) wl hi hd hs (fun t => by have := he t; unfold z_1; split <;> omega)
  unfold f_P_hold
  rw [if_neg (n_ng (by omega)), if_pos (show Int32.ofNat d < 8 from (n_lt (b := 8) (by omega) (by omega)).mpr hd)]
  dsimp only
  rw [g1]
  dsimp only
  rw [g2.1.2.2.2.2.2.1 i hi]
  dsimp only
  rw [if_pos (n_in (by omega) hd), n_to (by omega)]
  exact ⟨_, rfl, c_put g2 hi hd z_ue⟩
end
theorem z_o_1 {a b : AS} (h : a.1 = b.1) (s k : Nat) : z_o a s k = z_o b s k := by unfold z_o; rw [h]
theorem z_h_1 {a b : AS} (h : a.2.2.2 = b.2.2.2) (o : Nat) : z_h a o = z_h b o := by unfold z_h; rw [h]
theorem z_u_u {α : Type} {f : Nat → Nat → α} {i k : Nat} {v w : α} : z_u (z_u f i k v) i k w = z_u f i k w := by
  funext b c
  by_cases h : b = i ∧ c = k
  · unfold z_u; rw [if_pos h, if_pos h]
  · unfold z_u; rw [if_neg h, if_neg h, if_neg h]
theorem z_sk_1 {e e' : Nat → Nat} {a b : AS} (h : a.1 = b.1) (hh : ∀ t, z_h a t + e t = z_h b t + e' t) : (z_sk e a).1 = (z_sk e' b).1 := by
  unfold z_sk
  dsimp only
  rw [h]
  funext f t
  rw [hh]
theorem z_s_1 {e e' : Nat → Nat} {a b : AS} (h : a.1 = b.1) (hh : ∀ t, z_h a t + e t = z_h b t + e' t) : (z_s e a).1 = (z_s e' b).1 := by
  have h1 := z_sk_1 h hh
  funext f t
  show (if f = 4 ∧ t < 6 ∧ z_o (z_sk e a) 1 t + z_o (z_sk e a) 2 t = 0 then 0 else (z_sk e a).1 f t) = if f = 4 ∧ t < 6 ∧ z_o (z_sk e' b) 1 t + z_o (z_sk e' b) 2 t = 0 then 0 else (z_sk e' b).1 f t
  rw [z_o_1 h1, z_o_1 h1, h1]
theorem z_s_su {a : AS} {i d o o' : Nat} (hi : i < 8) (hd : d < 8) (hs : a.2.2.2 i d = some o') : aD (z_s (z_1 z_0 o) (aD a i d none)) i d (some o) = z_s z_0 (aD a i d (some o)) := by
  have hh : ∀ t, z_h (aD a i d none) t + z_1 z_0 o t = z_h (aD a i d (some o)) t + z_0 t := fun t => by
    have h1 := z_h_so (a := aD a i d none) (e := z_0) (o := o) hi hd z_ue t
    rw [← h1]
    rw [z_h_1 (a := aD (aD a i d none) i d (some o)) (b := aD a i d (some o)) z_u_u]
  have h2 := z_s_1 (a := aD a i d none) (b := aD a i d (some o)) rfl hh
  have h3 : (aD (z_s (z_1 z_0 o) (aD a i d none)) i d (some o)).2 = (z_s z_0 (aD a i d (some o))).2 := by
    show (a.2.1, a.2.2.1, z_u (z_u a.2.2.2 i d none) i d (some o)) = (a.2.1, a.2.2.1, z_u a.2.2.2 i d (some o))
    rw [z_u_u]
  exact Prod.ext h2 h3
