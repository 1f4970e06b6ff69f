/-! THE CLASS: spawn, fork, exit, close, dup -/
def z_fp (a : AS) : Option Nat := z_f (fun j => decide (a.1 0 j = 0)) 0 8
def z_fo (a : AS) : Option Nat := z_f (fun o => decide (a.1 1 o = 0)) 0 20
def z_fd (a : AS) (i : Nat) : Option Nat := z_f (fun d => decide (a.2.2.2 i d = none)) 0 8
def o_spawn (a : AS) : Int32 × AS := match z_fp a with
  | none => (-4, a)
  | some i => match z_fo a with
    | none => (-4, a)
    | some o => (Int32.ofNat i, aD (aD (z_nw (z_bg a i) o 4 0 3) i 0 (some o)) i 1 (some o))
section
variable {e : Nat → Nat} {a b : AS} {M st : XS} {i d o N w r c : Nat}
theorem z_fp_so (h : z_fp a = some i) : i < 8 ∧ a.1 0 i = 0 := by
  obtain ⟨_, h2, h3, _⟩ := z_f_so 8 0 h; exact ⟨by omega, of_decide_eq_true h3⟩
theorem z_fo_so (h : z_fo a = some o) : o < 20 ∧ a.1 1 o = 0 := by
  obtain ⟨_, h2, h3, _⟩ := z_f_so 20 0 h; exact ⟨by omega, of_decide_eq_true h3⟩
theorem z_fd_so (h : z_fd a i = some d) : d < 8 ∧ a.2.2.2 i d = none := by
  obtain ⟨_, h2, h3, _⟩ := z_f_so 8 0 h; exact ⟨by omega, of_decide_eq_true h3⟩
theorem z_fp_lt : ∀ j, z_fp a = some j → j < 2147483648 := fun j h => by have := (z_fp_so h).1; omega
theorem z_fd_lt : ∀ j, z_fd a i = some j → j < 2147483648 := fun j h => by have := (z_fd_so h).1; omega
theorem c_fo (h : RC z_0 a M st) (wo : W_O z_0 a) : f_D_freeOpening 0 none st = some (z_fo a) := by
  rw [c_freeOpening h (fun _ => Nat.zero_le _) none]
  congr 1
  refine z_f_co 20 0 (fun t _ ht => ?_)
  have := (wo t (by omega)).1
  apply decide_eq_decide.mpr
  exact ⟨fun z => by have := z.1; have e0 : z_0 t = 0 := rfl; omega, fun z => ⟨by have e0 : z_0 t = 0 := rfl; omega, fun q => nomatch q⟩⟩
theorem c_spawn (h : RC z_0 a M st) (wo : W_O z_0 a) (wp : W_P a) : ∃ s', f_D_spawn 0 st = some ((o_spawn a).1, s') ∧ RC z_0 (o_spawn a).2 M s' := by
  unfold f_D_spawn o_spawn
  rw [c_leastAbsent h wp, c_fo h wo]
  dsimp only
  cases hp : z_fp a with
  | none =>
    have hp' : z_f (fun j => decide (a.1 0 j = 0)) 0 8 = none := hp
    rw [hp']
    exact ⟨_, rfl, h⟩
  | some i =>
    have hp' : z_f (fun j => decide (a.1 0 j = 0)) 0 8 = some i := hp
    obtain ⟨hi, hl⟩ := z_fp_so hp
    rw [hp']
    show ∃ s', (if Int32.ofNat i < 0 then _ else _) = _ ∧ _
    rw [if_neg (n_ng (by omega))]
    cases ho : z_fo a with
    | none => exact ⟨_, rfl, h⟩
    | some o =>
      obtain ⟨hoo, hk⟩ := z_fo_so ho
      dsimp only
      rw [h.1.1.1]
      dsimp only
      rw [if_pos (show x_in (z_e (some i)) 8 from n_in (by omega) hi), show (z_e (some i)).toNatClampNeg = i from n_to (by omega), h.1.2.1 i hi]
      dsimp only
      have hd := (wp i hi).2.1 hl
      obtain ⟨s1, g1, g2⟩ := c_begin (i := i) h
      rw [g1]
      dsimp only
      obtain ⟨s2, g3, g4⟩ := c_new4 g2 hoo (show (z_bg a i).1 1 o = 0 from hk)
      rw [g3]
      dsimp only
      obtain ⟨s3, g5, g6⟩ := c_hold_no g4 hi (show 0 < 8 by omega) hoo (hd 0 (by omega))
      rw [show (0 : Int32) = Int32.ofNat 0 from rfl, g5]
      dsimp only
      obtain ⟨s4, g7, g8⟩ := c_hold_no g6 hi (show 1 < 8 by omega) hoo ((z_un (by omega)).trans (hd 1 (by omega)))
      rw [show (1 : Int32) = Int32.ofNat 1 from rfl, g7]
      exact ⟨_, rfl, g8⟩
/-- the descriptors of i, as far as n, for c too -/
def z_cp (a : AS) (i c n : Nat) : AS := (a.1, a.2.1, a.2.2.1, fun p q => if p = c ∧ q < n then a.2.2.2 i q else a.2.2.2 p q)
def o_fork (a : AS) (p : Int32) : Int32 × Int32 × AS := match z_r a p with
  | none => (1, 0, a)
  | some i => match z_fp a with
    | none => (0, -4, a)
    | some c => (0, Int32.ofNat c, z_cp (z_bg a c) i c 8)
theorem z_cp_s (d : Nat) : z_cp a i c (d + 1) = aD (z_cp a i c d) c d (a.2.2.2 i d) := by
  refine Prod.ext rfl (Prod.ext rfl (Prod.ext rfl ?_))
  funext p q
  show (if p = c ∧ q < d + 1 then a.2.2.2 i q else a.2.2.2 p q) = if p = c ∧ q = d then a.2.2.2 i d else if p = c ∧ q < d then a.2.2.2 i q else a.2.2.2 p q
  by_cases h1 : p = c ∧ q = d
  · obtain ⟨rfl, rfl⟩ := h1; rw [if_pos ⟨rfl, by omega⟩, if_pos ⟨rfl, rfl⟩]
  · rw [if_neg h1]
    by_cases h2 : p = c ∧ q < d
    · rw [if_pos h2, if_pos ⟨h2.1, by omega⟩]
    · rw [if_neg h2, if_neg (by omega)]
theorem z_cp_0 : z_cp a i c 0 = a := by
  refine Prod.ext rfl (Prod.ext rfl (Prod.ext rfl ?_))
  funext p q
  show (if p = c ∧ q < 0 then a.2.2.2 i q else a.2.2.2 p q) = _
  rw [if_neg (by omega)]
theorem aD_id {v : Option Nat} (h : a.2.2.2 i d = v) : aD a i d v = a := by
  refine Prod.ext rfl (Prod.ext rfl (Prod.ext rfl ?_))
  funext p q
  show (if p = i ∧ q = d then v else a.2.2.2 p q) = _
  by_cases h1 : p = i ∧ q = d
  · obtain ⟨rfl, rfl⟩ := h1; rw [if_pos ⟨rfl, rfl⟩, h]
  · rw [if_neg h1]
theorem c_fork_34 {v : Int32} (hi : i < 8) (hc : c < 8) (hic : i ≠ c) (wd : W_D a) (hn : ∀ d, d < 8 → a.2.2.2 c d = none) : ∀ k d n st, d + k = 8 → k < n → RC z_0 (z_cp a i c d) M st →
    ∃ s', f_D_fork_34 n (some i) v (some c) (Int32.ofNat d) st = some (.inl v, s') ∧ RC z_0 (z_cp a i c 8) M s' := by
  intro k
  induction k with
  | zero =>
    intro d n st hd hk h
    obtain ⟨n, rfl⟩ : ∃ m, n = m + 1 := ⟨n - 1, by omega⟩
    have : d = 8 := by omega
    subst this
    exact ⟨st, rfl, h⟩
  | succ k ih =>
    intro d n st hd hk h
    obtain ⟨n, rfl⟩ : ∃ m, n = m + 1 := ⟨n - 1, by omega⟩
    unfold f_D_fork_34
    rw [if_neg (show ¬ ((8 : Int32) ≤ Int32.ofNat d) from n_ge (k := 8) (by omega) (by omega))]
    dsimp only
    have hz : (z_cp a i c d).2.2.2 i d = a.2.2.2 i d := by
      show (if i = c ∧ d < d then a.2.2.2 i d else a.2.2.2 i d) = _
      rw [if_neg (by omega)]
    have hz' : (z_cp a i c d).2.2.2 c d = none := by
      show (if c = c ∧ d < d then a.2.2.2 i d else a.2.2.2 c d) = _
      rw [if_neg (by omega)]; exact hn d (by omega)
    rw [c_openingAt h hi, z_d_of (by omega), hz]
    cases ho : a.2.2.2 i d with
    | none =>
      dsimp only
      rw [n_su]
      refine ih (d + 1) n st (by omega) (by omega) ?_
      rw [z_cp_s, ho, aD_id hz']; exact h
    | some o =>
      dsimp only
      obtain ⟨s1, g1, g2⟩ := c_hold_no h hc (show d < 8 by omega) (wd i hi d (by omega) o ho) hz'
      rw [g1]
      dsimp only
      rw [n_su]
      refine ih (d + 1) n s1 (by omega) (by omega) ?_
      rw [z_cp_s, ho]; exact g2
theorem c_fork (h : RC z_0 a M st) (wd : W_D a) (wp : W_P a) (p : Int32) : ∃ s', f_D_fork 0 p st = some (z_ret (o_fork a p).1 (o_fork a p).2.1, s') ∧ RC z_0 (o_fork a p).2.2 M s' := by
  unfold f_D_fork o_fork
  rw [c_readyProc h wp p]
  cases hz : z_r a p with
  | none => exact ⟨_, rfl, h⟩
  | some i =>
    obtain ⟨hi, rfl, hl⟩ := z_r_so hz
    dsimp only
    rw [c_leastAbsent h wp]
    dsimp only
    cases hp : z_fp a with
    | none =>
      have hp' : z_f (fun j => decide (a.1 0 j = 0)) 0 8 = none := hp
      rw [hp']
      exact ⟨_, rfl, h⟩
    | some c =>
      have hp' : z_f (fun j => decide (a.1 0 j = 0)) 0 8 = some c := hp
      obtain ⟨hc, hl'⟩ := z_fp_so hp
      rw [hp', if_pos (show 0 ≤ z_e (some c) from n_up (k := 0) (by omega) (by omega)), h.1.1.1]
      dsimp only
      rw [if_pos (show x_in (z_e (some c)) 8 from n_in (by omega) hc), show (z_e (some c)).toNatClampNeg = c from n_to (by omega), h.1.2.1 c hc]
      dsimp only
      obtain ⟨s1, g1, g2⟩ := c_begin (i := c) h
      rw [g1]
      dsimp only
      have hic : i ≠ c := fun z => by subst z; omega
      obtain ⟨s2, g3, g4⟩ := c_fork_34 (M := M) (a := z_bg a c) (v := z_e (some c)) hi hc hic wd ((wp c hc).2.1 hl') 8 0 100 s1 (by omega) (by omega) (by rw [z_cp_0]; exact g2)
      rw [show (0 : Int32) = Int32.ofNat 0 from rfl, g3]
      exact ⟨_, rfl, g4⟩
/-- the descriptors of i, as far as n, gone -/
def z_cl (a : AS) (i n : Nat) : AS := (a.1, a.2.1, a.2.2.1, fun p q => if p = i ∧ q < n then none else a.2.2.2 p q)
theorem z_cl_s (d : Nat) : z_cl a i (d + 1) = aD (z_cl a i d) i d none := by
  refine Prod.ext rfl (Prod.ext rfl (Prod.ext rfl ?_))
  funext p q
  show (if p = i ∧ q < d + 1 then none else a.2.2.2 p q) = if p = i ∧ q = d then none else if p = i ∧ q < d then none else a.2.2.2 p q
  by_cases h1 : p = i ∧ q = d
  · obtain ⟨rfl, rfl⟩ := h1; rw [if_pos ⟨rfl, by omega⟩, if_pos ⟨rfl, rfl⟩]
  · rw [if_neg h1]
    by_cases h2 : p = i ∧ q < d
    · rw [if_pos h2, if_pos ⟨h2.1, by omega⟩]
    · rw [if_neg h2, if_neg (by omega)]
theorem z_cl_0 : z_cl a i 0 = a := by
  refine Prod.ext rfl (Prod.ext rfl (Prod.ext rfl ?_))
  funext p q
  show (if p = i ∧ q < 0 then none else a.2.2.2 p q) = _
  rw [if_neg (by omega)]
theorem z_s_s (hi : i < 8) (hd : d < 8) : z_s z_0 (aD (z_s z_0 b) i d none) = z_s z_0 (aD b i d none) := by
  have hle : ∀ t, z_h (aD b i d none) t ≤ z_h b t := fun t => by
    have h1 := z_h_D b hi hd none t
    rw [if_neg (c := none = some t) (fun z => nomatch z)] at h1
    omega
  have k1 : ∀ t, (z_sk z_0 (aD (z_s z_0 b) i d none)).1 1 t = (z_sk z_0 (aD b i d none)).1 1 t := fun t => by
    show (if 0 < z_h (aD b i d none) t + 0 then (if 0 < z_h b t + 0 then b.1 1 t else 0) else 0) = if 0 < z_h (aD b i d none) t + 0 then b.1 1 t else 0
    have := hle t
    by_cases h0 : 0 < z_h (aD b i d none) t + 0
    · rw [if_pos h0, if_pos h0, if_pos (by omega)]
    · rw [if_neg h0, if_neg h0]
  have ko : ∀ s k, z_o (z_sk z_0 (aD (z_s z_0 b) i d none)) s k = z_o (z_sk z_0 (aD b i d none)) s k := fun s k => z_o_co (fun t _ => ⟨k1 t, rfl⟩) s k
  have kd : ∀ s k, 0 < s → 0 < z_o (z_sk z_0 (aD b i d none)) s k → 0 < z_o (z_sk z_0 b) s k := fun s k hs h => by
    obtain ⟨t, t1, t2, t3⟩ := (z_c_ps 20 0).mp h
    have t4 := of_decide_eq_true t3
    refine (z_c_ps 20 0).mpr ⟨t, t1, t2, decide_eq_true ⟨?_, t4.2⟩⟩
    have t5 : (if 0 < z_h (aD b i d none) t + 0 then b.1 1 t else 0) = s := t4.1
    show (if 0 < z_h b t + 0 then b.1 1 t else 0) = s
    have := hle t
    by_cases h0 : 0 < z_h (aD b i d none) t + 0
    · rw [if_pos h0] at t5; rw [if_pos (by omega)]; exact t5
    · rw [if_neg h0] at t5; omega
  refine Prod.ext ?_ rfl
  funext f t
  show (if f = 4 ∧ t < 6 ∧ z_o (z_sk z_0 (aD (z_s z_0 b) i d none)) 1 t + z_o (z_sk z_0 (aD (z_s z_0 b) i d none)) 2 t = 0 then 0 else (z_sk z_0 (aD (z_s z_0 b) i d none)).1 f t) = if f = 4 ∧ t < 6 ∧ z_o (z_sk z_0 (aD b i d none)) 1 t + z_o (z_sk z_0 (aD b i d none)) 2 t = 0 then 0 else (z_sk z_0 (aD b i d none)).1 f t
  rw [ko, ko]
  by_cases h0 : f = 4 ∧ t < 6 ∧ z_o (z_sk z_0 (aD b i d none)) 1 t + z_o (z_sk z_0 (aD b i d none)) 2 t = 0
  · rw [if_pos h0, if_pos h0]
  · rw [if_neg h0, if_neg h0]
    by_cases h1 : f = 1
    · subst h1; exact k1 t
    · show (if f = 1 then _ else (if f = 4 ∧ t < 6 ∧ z_o (z_sk z_0 b) 1 t + z_o (z_sk z_0 b) 2 t = 0 then 0 else if f = 1 then _ else b.1 f t)) = if f = 1 then _ else b.1 f t
      rw [if_neg h1, if_neg h1]
      rw [if_neg (fun z => h0 ⟨z.1, z.2.1, by
        have q1 := kd 1 t (by omega)
        have q2 := kd 2 t (by omega)
        have := z.2.2
        omega⟩)]
      rw [if_neg h1]
theorem W_Q_cl (wo : W_Q z_0 a) (hi : i < 8) : ∀ n, n ≤ 8 → W_Q z_0 (z_cl a i n) := by
  intro n
  induction n with
  | zero => intro _; rw [z_cl_0]; exact wo
  | succ n ih => intro hn; rw [z_cl_s]; exact W_Q_d (ih (by omega)) hi (by omega)
theorem c_beAbsent_2 (wd : W_D a) (wo : W_O z_0 a) (wl : W_L N a) (hi : i < 8) : ∀ k d n st, d + k = 8 → k < n → RC z_0 (z_s z_0 (z_cl a i d)) M st →
    ∃ s', f_P_beAbsent_2 n i (Int32.ofNat d) st = some ((), s') ∧ RC z_0 (z_gn (z_s z_0 (z_cl a i 8)) i) M s' := by
  intro k
  induction k with
  | zero =>
    intro d n st hd hk h
    obtain ⟨n, rfl⟩ : ∃ m, n = m + 1 := ⟨n - 1, by omega⟩
    have : d = 8 := by omega
    subst this
    exact ⟨_, rfl, c_gone h⟩
  | succ k ih =>
    intro d n st hd hk h
    obtain ⟨n, rfl⟩ : ∃ m, n = m + 1 := ⟨n - 1, by omega⟩
    unfold f_P_beAbsent_2
    rw [if_neg (show ¬ ((8 : Int32) ≤ Int32.ofNat d) from n_ge (k := 8) (by omega) (by omega))]
    have hz : (z_s z_0 (z_cl a i d)).2.2.2 i d = a.2.2.2 i d := by
      show (if i = i ∧ d < d then none else a.2.2.2 i d) = _
      rw [if_neg (by omega)]
    have wdc : W_D (z_s z_0 (z_cl a i d)) := by
      intro p hp q hq x hx
      have hx' : (if p = i ∧ q < d then none else a.2.2.2 p q) = some x := hx
      by_cases hc : p = i ∧ q < d
      · rw [if_pos hc] at hx'; exact nomatch hx'
      · rw [if_neg hc] at hx'; exact wd p hp q hq x hx'
    cases ho : a.2.2.2 i d with
    | none =>
      rw [c_release_no h hi (by omega) (hz.trans ho)]
      dsimp only
      rw [n_su]
      refine ih (d + 1) n st (by omega) (by omega) ?_
      rw [z_cl_s, aD_id (a := z_cl a i d) (hz.trans ho)]; exact h
    | some o =>
      obtain ⟨s1, g1, g2⟩ := c_release_so (N := N) h wdc (W_O_s (W_Q_cl (W_O_q wo) hi d (by omega))) (W_L_s (a := z_cl a i d) wl) hi (show d < 8 by omega) (hz.trans ho) (fun _ => Nat.zero_le _)
      rw [g1]
      dsimp only
      rw [n_su]
      refine ih (d + 1) n s1 (by omega) (by omega) ?_
      rw [z_cl_s, ← z_s_s hi (show d < 8 by omega)]; exact g2
def z_ex (a : AS) (i : Nat) : AS := z_gn (z_s z_0 (z_cl a i 8)) i
def o_exit (a : AS) (p : Int32) : Int32 × Int32 × AS := if x_in p 8 ∧ a.1 0 p.toNatClampNeg ≠ 0 then
  (0, Int32.ofNat (z_k 8 0 (z_ex a p.toNatClampNeg)).1, (z_k 8 0 (z_ex a p.toNatClampNeg)).2) else (1, 0, a)
theorem z_ex_in (wd : W_D a) (wo : W_O z_0 a) (wl : W_L N a) (wp : W_P a) (hi : i < 8) : W_D (z_ex a i) ∧ W_O z_0 (z_ex a i) ∧ W_L N (z_ex a i) ∧ W_P (z_ex a i) := by
  have h1 : W_O z_0 (z_s z_0 (z_cl a i 8)) := W_O_s (W_Q_cl (W_O_q wo) hi 8 (by omega))
  have h2 : W_L N (z_s z_0 (z_cl a i 8)) := W_L_s (a := z_cl a i 8) wl
  refine ⟨?_, h1, h2, ?_⟩
  · intro p hp q hq x hx
    have hx' : (if p = i ∧ q < 8 then none else a.2.2.2 p q) = some x := hx
    by_cases hc : p = i ∧ q < 8
    · rw [if_pos hc] at hx'; exact nomatch hx'
    · rw [if_neg hc] at hx'; exact wd p hp q hq x hx'
  · intro t ht
    have e0 : (z_ex a i).1 0 t = if t = i then 0 else a.1 0 t := by
      show (if 0 = 0 ∧ t = i then 0 else a.1 0 t) = _
      by_cases hti : t = i
      · rw [if_pos ⟨rfl, hti⟩, if_pos hti]
      · rw [if_neg (fun z => hti z.2), if_neg hti]
    have e1 : (z_ex a i).2.1 0 t = if t = i then -1 else a.2.1 0 t := by
      show (if 0 = 1 ∧ t = i then 0 else if 0 = 0 ∧ t = i then -1 else a.2.1 0 t) = _
      rw [if_neg (by omega)]
      by_cases hti : t = i
      · rw [if_pos ⟨rfl, hti⟩, if_pos hti]
      · rw [if_neg (fun z => hti z.2), if_neg hti]
    have e2 : (z_ex a i).2.1 1 t = if t = i then 0 else a.2.1 1 t := by
      show (if 1 = 1 ∧ t = i then 0 else if 1 = 0 ∧ t = i then -1 else a.2.1 1 t) = _
      by_cases hti : t = i
      · rw [if_pos ⟨rfl, hti⟩, if_pos hti]
      · rw [if_neg (fun z => hti z.2), if_neg (fun z => hti z.2), if_neg hti]
    have e3 : ∀ d, d < 8 → (z_ex a i).2.2.2 t d = if t = i then none else a.2.2.2 t d := fun d hd => by
      show (if t = i ∧ d < 8 then none else a.2.2.2 t d) = _
      by_cases hti : t = i
      · rw [if_pos ⟨hti, hd⟩, if_pos hti]
      · rw [if_neg (fun z => hti z.1), if_neg hti]
    rw [e0, e1, e2]
    by_cases hti : t = i
    · rw [if_pos hti]
      refine ⟨by omega, fun _ d hd => by rw [e3 d hd, if_pos hti], fun z => by omega⟩
    · rw [if_neg hti, if_neg hti, if_neg hti]
      obtain ⟨q1, q2, q3⟩ := wp t ht
      refine ⟨q1, fun z d hd => by rw [e3 d hd, if_neg hti]; exact q2 z d hd, fun z => ?_⟩
      obtain ⟨d, o, hd, p1, p2, p3⟩ := q3 z
      exact ⟨d, o, hd, p1, by rw [e3 d hd, if_neg hti]; exact p2, p3⟩
theorem c_exit (h : RC z_0 a M st) (wd : W_D a) (wo : W_O z_0 a) (wl : W_L N a) (wp : W_P a) (p : Int32) : ∃ s', f_D_exit 0 p st = some (z_ret (o_exit a p).1 (o_exit a p).2.1, s') ∧ RC z_0 (o_exit a p).2.2 M s' := by
  unfold f_D_exit o_exit
  rw [c_procThere h wp p]
  by_cases hc : x_in p 8 ∧ a.1 0 p.toNatClampNeg ≠ 0
  · rw [if_pos hc, if_pos hc]
    dsimp only
    have hi := hc.1.2
    unfold f_P_beAbsent
    obtain ⟨s1, g1, g2⟩ := c_beAbsent_2 (M := M) wd wo wl hi 8 0 100 st (by omega) (by omega) (by rw [z_cl_0]; exact RC_s h wo wl)
    rw [show (0 : Int32) = Int32.ofNat 0 from rfl, g1]
    dsimp only
    obtain ⟨k1, k2, k3, k4⟩ := z_ex_in wd wo wl wp hi
    obtain ⟨s2, g3, g4⟩ := c_wakeAll (a := z_ex a p.toNatClampNeg) g2 k1 k2 k3 k4
    rw [g3]
    exact ⟨_, rfl, g4⟩
  · rw [if_neg hc, if_neg hc]
    exact ⟨_, rfl, h⟩
end
