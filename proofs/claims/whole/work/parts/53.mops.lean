/-! THE REFERENCE: spawn, fork, exit, close, dup, unlink, rename -/
/-- the reference answers v: its code, its value where the code is 0, its picture -/
def z_ok (v : Int32 × Int32 × AS) (M : XS) (r : Option (Int32 × XS)) : Prop := ∃ b s', r = some (b, s') ∧ RY v.1 v.2.2 M s' ∧ (v.1 = 0 → b = v.2.1)
section
variable {c : Int32} {a b : AS} {M st : XS} {i d o N x : Nat}
theorem n_u0 {n : Nat} (h : n < 2147483648) : (0 : Int32) ≤ Int32.ofNat n := n_up (k := 0) (Nat.zero_le _) h
theorem i_00 : ((0 : Int32) = 0) = True := eq_true rfl
theorem z_ok_0 {v : Int32} (h : RY 0 b M st) : z_ok (0, v, b) M (some (v, st)) := ⟨v, st, rfl, h, fun _ => rfl⟩
theorem z_ok_1 {v y : Int32} (h : RM a M st) : z_ok (1, v, a) M (some (y, xsI st 32 0 0 1)) := ⟨y, _, rfl, m_coX h 1, fun z => absurd (show (1 : Int32) = 0 from z) (by decide)⟩
theorem z_ok_2 {v y : Int32} (h : RM a M st) : z_ok (2, v, a) M (some (y, xsI st 32 0 0 2)) := ⟨y, _, rfl, m_coX h 2, fun z => absurd (show (2 : Int32) = 0 from z) (by decide)⟩
theorem m_newOpening {s k : Nat} {r : Int32} (h : RX c a M st) (wo : ∀ t, t < 20 → a.1 1 t ≤ 4) (hfo : z_fo a = some o) (hp : s = 1 ∨ s = 2 → k < 6 ∧ st.1 44 0 k = 1 ∧ st.1 42 0 k = Int32.ofNat (a.1 4 k)) (hf : s = 3 → st.1 45 0 k = 1) :
    ∃ s', f_M_newOpening 0 (Int32.ofNat s) (Int32.ofNat k) r st = some (Int32.ofNat o, s') ∧ RX c (z_nw a o s k r) M s' ∧ ∀ q, q < 38 ∨ 41 < q → s'.1 q = st.1 q := by
  obtain ⟨ho, h0⟩ := z_fo_so hfo
  have h20 : x_in (Int32.ofNat o) 20 := n_in (by omega) ho
  unfold f_M_newOpening
  rw [m_freeOpening h.1 wo, hfo]
  simp only [u_RI, show z_e (some o) = Int32.ofNat o from rfl, h.1.1 6 (by omega), h.1.1 7 (by omega), h.1.1 8 (by omega), h.1.1 9 (by omega), if_pos h20, n_to (show o < 2147483648 by omega)]
  exact ⟨_, rfl, RX_nw h ho h0 hp hf, fun q hq => by rw [u_I (by omega), u_I (by omega), u_I (by omega), u_I (by omega)]⟩
theorem m_give (h : RX c a M st) (wd : W_D a) (hi : i < 8) (hfd : z_fd a i = some d) : ∃ s', f_M_give 0 (Int32.ofNat i) (Int32.ofNat o) st = some (Int32.ofNat d, s') ∧ RX c (aD a i d (some o)) M s' ∧ ∀ q, q ≠ 36 → s'.1 q = st.1 q := by
  obtain ⟨hd, h0⟩ := z_fd_so hfd
  unfold f_M_give
  rw [m_freeDescriptor h.1 wd hi, hfd]
  have h64 : x_in (Int32.ofNat (8 * i + d)) 64 := n_in (by omega) (by omega)
  simp only [show z_e (some d) = Int32.ofNat d from rfl, h.1.1 4 (by omega), n_8, if_pos h64, n_to (show 8 * i + d < 2147483648 by omega)]
  exact ⟨_, rfl, RX_d (v := some o) h hi hd, fun q hq => u_I hq⟩
theorem m_begin (h : RY c a M st) (hi : i < 8) : ∃ s', f_M_begin 0 (Int32.ofNat i) st = some ((), s') ∧ RY c (z_bg a i) M s' := by
  have h8 : x_in (Int32.ofNat i) 8 := n_in (by omega) hi
  unfold f_M_begin
  simp only [u_RI, h.1.1.1 1 (by omega), h.1.1.1 2 (by omega), h.1.1.1 3 (by omega), h.1.1.1 5 (by omega), if_pos h8, n_to (show i < 2147483648 by omega)]
  exact ⟨_, rfl, RY_j (i := i) (v := 0) (RY_w (i := i) (l := 1) (x := -1) (n := 0) h)⟩
theorem m_X_nw {s k : Nat} {r : Int32} {I44 I45 : Nat → Nat → Int32} (hx : m_X a I44 I45) (ho : o < 20) (h0 : a.1 1 o = 0) : m_X (z_nw a o s k r) I44 I45 := by
  refine ⟨fun k' hk' z => ?_, fun f hf z => ?_⟩
  · rw [z_nw_o ho h0 k' (by omega), z_nw_o ho h0 k' (by omega)]
    have := hx.1 k' hk' z
    omega
  · rw [z_nw_i (Or.inl (by omega)), z_nw_o ho h0 f (by omega)]
    exact (hx.2 f hf z).imp id (fun y => by omega)
theorem z_fd_0 (hn : ∀ d, d < 8 → a.2.2.2 i d = none) : z_fd a i = some 0 := by
  unfold z_fd z_f
  rw [if_pos (decide_eq_true (hn 0 (by omega)))]
theorem z_fd_1 (hn : ∀ d, d < 8 → a.2.2.2 i d = none) : z_fd (aD a i 0 (some o)) i = some 1 := by
  unfold z_fd z_f
  rw [if_neg, z_f, if_pos]
  · rw [decide_eq_true_eq]
    show (if i = i ∧ 0 + 1 = 0 then some o else a.2.2.2 i (0 + 1)) = none
    rw [if_neg (by omega)]; exact hn 1 (by omega)
  · rw [decide_eq_true_eq]
    show ¬ (if i = i ∧ 0 = 0 then some o else a.2.2.2 i 0) = none
    rw [if_pos ⟨rfl, rfl⟩]; exact fun z => nomatch z
theorem W_D_nw {s k : Nat} {r : Int32} (wd : W_D a) : W_D (z_nw a o s k r) := wd
theorem m_spawn (h : RM a M st) (wd : W_D a) (wo : W_O z_0 a) (wp : W_P a) : ∃ s', f_M_spawn 0 st = some ((o_spawn a).1, s') ∧ RY 0 (o_spawn a).2 M s' := by
  have h0 := m_coX h 0
  have wk := W_K_Q (W_O_q wo)
  unfold f_M_spawn o_spawn
  rw [m_freeProcess h0.1.1 wp]
  dsimp only
  cases hp : z_fp a with
  | none => exact ⟨_, rfl, h0⟩
  | some i =>
    obtain ⟨hi, hl⟩ := z_fp_so hp
    rw [show z_e (some i) = Int32.ofNat i from rfl, if_neg (n_ng (by omega)), m_freeOpening h0.1.1 (fun t ht => (wk t ht).1)]
    dsimp only
    cases ho : z_fo a with
    | none => exact ⟨_, rfl, h0⟩
    | some o =>
      obtain ⟨ho1, ho2⟩ := z_fo_so ho
      have hn : ∀ d, d < 8 → a.2.2.2 i d = none := (wp i hi).2.1 hl
      obtain ⟨s1, g1, g2⟩ := m_begin h0 hi
      obtain ⟨s2, g3, g4, g5⟩ := m_newOpening (s := 4) (k := 0) (r := 3) (o := o) g2.1 (fun t ht => (wk t ht).1) ho (by omega) (by omega)
      obtain ⟨s3, g6, g7, g8⟩ := m_give (o := o) (i := i) (d := 0) g4 (W_D_nw (a := z_bg a i) wd) hi (z_fd_0 hn)
      obtain ⟨s4, g9, g10, g11⟩ := m_give (o := o) (i := i) (d := 1) g7 (W_D_o (W_D_nw (a := z_bg a i) wd) ho1) hi (z_fd_1 (a := z_nw (z_bg a i) o 4 0 3) hn)
      rw [show z_e (some o) = Int32.ofNat o from rfl, if_pos (n_u0 (show o < 2147483648 by omega)), g1]
      dsimp only
      rw [show f_M_newOpening 0 4 0 3 s1 = some (Int32.ofNat o, s2) from g3]
      dsimp only
      rw [g6]
      dsimp only
      rw [g9]
      refine ⟨s4, rfl, g10, ?_⟩
      rw [g11 44 (by omega), g11 45 (by omega), g8 44 (by omega), g8 45 (by omega), g5 44 (by omega), g5 45 (by omega)]
      exact m_X_nw (a := z_bg a i) (s := 4) (k := 0) (r := 3) g2.2 ho1 ho2
theorem m_fork_42 (hi : i < 8) (hx : x < 8) (hix : i ≠ x) : ∀ k d n st, d + k = 8 → k < n → RY c (z_cp a i x d) M st →
    ∃ s', f_M_fork_42 n 0 (Int32.ofNat i) (Int32.ofNat x) (Int32.ofNat d) st = some (Int32.ofNat x, s') ∧ RY c (z_cp a i x 8) M s' := by
  intro k
  induction k with
  | zero =>
    intro d n st hd hn h
    obtain ⟨n, rfl⟩ : ∃ m, n = m + 1 := ⟨n - 1, by omega⟩
    have : d = 8 := by omega
    subst this
    exact ⟨st, rfl, h⟩
  | succ k ih =>
    intro d n st hd hn h
    obtain ⟨n, rfl⟩ : ∃ m, n = m + 1 := ⟨n - 1, by omega⟩
    have h1 : ¬ ((8 : Int32) ≤ Int32.ofNat d) := n_ge (k := 8) (by omega) (by omega)
    have hD := h.1.1.2.2.1 i hi d (by omega)
    have he : (z_cp a i x d).2.2.2 i d = a.2.2.2 i d := by
      show (if i = x ∧ d < d then a.2.2.2 i d else a.2.2.2 i d) = _
      rw [ite_self]
    rw [he] at hD
    unfold f_M_fork_42
    rw [if_neg h1, h.1.1.1 4 (by omega)]
    dsimp only
    rw [n_8, n_8, if_pos (n_in (by omega) (by omega)), if_pos (n_in (by omega) (by omega)), n_to (by omega), n_to (by omega), hD, n_su]
    refine ih (d + 1) n _ (by omega) (by omega) ?_
    rw [z_cp_s]
    exact RY_d h hx (by omega)
theorem m_fork (h : RM a M st) (wp : W_P a) (p : Int32) : z_ok (o_fork a p) M (f_M_fork 0 p st) := by
  have h0 := m_coX h 0
  unfold f_M_fork o_fork
  rw [m_isReady h.1 wp]
  dsimp only
  cases hr : z_r a p with
  | none =>
    dsimp only
    rw [if_pos rfl]
    unfold f_M_fork_14
    dsimp only
    rw [m_f1]
    dsimp only
    rw [if_neg (c := (1 : Int32) = 0) (by decide)]
    exact z_ok_1 h
  | some i =>
    obtain ⟨hi, rfl, hl⟩ := z_r_so hr
    dsimp only
    rw [if_neg (c := (1 : Int32) = 0) (by decide)]
    unfold f_M_fork_14
    dsimp only
    rw [m_f0]
    dsimp only
    rw [if_pos rfl, m_freeProcess h0.1.1 wp]
    dsimp only
    cases hp : z_fp a with
    | none => exact z_ok_0 h0
    | some x =>
      obtain ⟨hx, hl2⟩ := z_fp_so hp
      obtain ⟨s1, g1, g2⟩ := m_begin h0 hx
      rw [show z_e (some x) = Int32.ofNat x from rfl, if_pos (n_u0 (show x < 2147483648 by omega)), g1]
      dsimp only
      have hix : i ≠ x := fun z => by subst z; omega
      obtain ⟨s2, g3, g4⟩ := m_fork_42 (a := z_bg a x) hi hx hix 8 0 100 s1 (by omega) (by omega) (by rw [z_cp_0]; exact g2)
      rw [show (0 : Int32) = Int32.ofNat 0 from rfl, g3]
      exact z_ok_0 g4
theorem z_s_gn : z_s z_0 (z_gn b i) = z_gn (z_s z_0 b) i := by
  refine Prod.ext (funext fun f => funext fun t => ?_) rfl
  show (if f = 4 ∧ t < 6 ∧ z_o (z_sk z_0 b) 1 t + z_o (z_sk z_0 b) 2 t = 0 then 0 else if f = 1 then (if 0 < z_h b t + z_0 t then b.1 1 t else 0) else (if f = 0 ∧ t = i then 0 else b.1 f t)) =
    if f = 0 ∧ t = i then 0 else (if f = 4 ∧ t < 6 ∧ z_o (z_sk z_0 b) 1 t + z_o (z_sk z_0 b) 2 t = 0 then 0 else if f = 1 then (if 0 < z_h b t + z_0 t then b.1 1 t else 0) else b.1 f t)
  by_cases h : f = 0 ∧ t = i
  · rw [if_neg (c := f = 4 ∧ _) (by omega), if_neg (c := f = 1) (by omega), if_pos h, if_pos h]
  · rw [if_neg h, if_neg h]
theorem W_D_cl (wd : W_D a) (n : Nat) : W_D (z_cl a i n) := by
  intro p hp q hq t ht
  have ht' : (if p = i ∧ q < n then none else a.2.2.2 p q) = some t := ht
  by_cases hc : p = i ∧ q < n
  · rw [if_pos hc] at ht'; exact nomatch ht'
  · rw [if_neg hc] at ht'; exact wd p hp q hq t ht'
theorem m_exit_25 (wd : W_D a) (wo : W_O z_0 a) (wl : W_L N a) (wp : W_P a) (hi : i < 8) : ∀ k d n st, d + k = 8 → k < n → RY c (z_cl a i d) M st →
    ∃ s', f_M_exit_25 n 0 (Int32.ofNat i) (Int32.ofNat d) st = some (Int32.ofNat (z_k 8 0 (z_ex a i)).1, s') ∧ RY c (z_k 8 0 (z_ex a i)).2 M s' := by
  have h8 : x_in (Int32.ofNat i) 8 := n_in (by omega) hi
  intro k
  induction k with
  | zero =>
    intro d n st hd hn h
    obtain ⟨n, rfl⟩ : ∃ m, n = m + 1 := ⟨n - 1, by omega⟩
    have : d = 8 := by omega
    subst this
    obtain ⟨w1, w2, w3, w4⟩ := z_ex_in wd wo wl wp hi
    have hg : RY c (z_gn (z_cl a i 8) i) M _ := RY_j (i := i) (v := 0) (RY_w (i := i) (l := 0) (x := -1) (n := 0) h)
    obtain ⟨s1, g1, g2⟩ := m_sweep hg.1 (W_D_cl wd 8) (W_K_Q (a := a) (W_O_q wo)) wl.1
    rw [z_s_gn] at g2
    obtain ⟨s2, g3, g4⟩ := m_wake (a := z_ex a i) g2 w1 w2 w3 w4
    unfold f_M_exit_25
    rw [if_pos (show (8 : Int32) ≤ Int32.ofNat 8 from by decide)]
    simp only [u_RI, h.1.1.1 1 (by omega), h.1.1.1 2 (by omega), h.1.1.1 3 (by omega), h.1.1.1 5 (by omega), if_pos h8, n_to (show i < 2147483648 by omega)]
    rw [show f_M_sweep 0 (xsJ (xsI (xsI (xsI st 33 0 i 0) 34 0 i (-1)) 35 0 i 0) 37 0 i 0) = some ((), s1) from g1]
    dsimp only
    rw [g3]
    exact ⟨s2, rfl, g4⟩
  | succ k ih =>
    intro d n st hd hn h
    obtain ⟨n, rfl⟩ : ∃ m, n = m + 1 := ⟨n - 1, by omega⟩
    have h1 : ¬ ((8 : Int32) ≤ Int32.ofNat d) := n_ge (k := 8) (by omega) (by omega)
    unfold f_M_exit_25
    rw [if_neg h1, h.1.1.1 4 (by omega)]
    dsimp only
    rw [n_8, if_pos (n_in (by omega) (by omega)), n_to (by omega), n_su]
    refine ih (d + 1) n _ (by omega) (by omega) ?_
    rw [z_cl_s]
    exact RY_d (v := none) h hi (by omega)
theorem m_exit (h : RM a M st) (wd : W_D a) (wo : W_O z_0 a) (wl : W_L N a) (wp : W_P a) (p : Int32) : z_ok (o_exit a p) M (f_M_exit 0 p st) := by
  have h0 := m_coX h 0
  unfold f_M_exit o_exit
  rw [m_isThere h.1 wp]
  dsimp only
  by_cases hc : x_in p 8 ∧ a.1 0 p.toNatClampNeg ≠ 0
  · rw [if_pos hc, if_pos hc, if_neg (c := (1 : Int32) = 0) (by decide), m_f0]
    dsimp only
    rw [if_pos rfl]
    obtain ⟨hp, hl⟩ := hc
    have he : p = Int32.ofNat p.toNatClampNeg := (Int32.ofNat_toNatClampNeg p (Int32.not_lt.mp hp.1)).symm
    obtain ⟨s2, g3, g4⟩ := m_exit_25 wd wo wl wp hp.2 8 0 100 _ (by omega) (by omega) (by rw [z_cl_0]; exact h0)
    rw [← he] at g3
    rw [show f_M_exit_25 100 0 p 0 (xsI st 32 0 0 0) = _ from g3]
    exact z_ok_0 g4
  · rw [if_neg hc, if_neg hc, if_pos rfl, m_f1]
    dsimp only
    rw [if_neg (c := (1 : Int32) = 0) (by decide)]
    exact z_ok_1 h
theorem m_close (h : RM a M st) (wd : W_D a) (wo : W_O z_0 a) (wl : W_L N a) (wp : W_P a) (p d : Int32) : z_ok (o_close a p d) M (f_M_close 0 p d st) := by
  have h0 := m_coX h 0
  unfold f_M_close o_close
  rw [m_isReady h.1 wp]
  dsimp only
  cases hr : z_r a p with
  | none =>
    dsimp only
    rw [if_pos rfl]
    unfold f_M_close_14
    dsimp only
    rw [m_f1]
    dsimp only
    rw [if_neg (c := (1 : Int32) = 0) (by decide)]
    exact z_ok_1 h
  | some i =>
    obtain ⟨hi, rfl, hl⟩ := z_r_so hr
    dsimp only
    rw [if_neg (c := (1 : Int32) = 0) (by decide)]
    unfold f_M_close_14
    dsimp only
    rw [m_f0]
    dsimp only
    rw [if_pos rfl, m_openingOf h0.1.1 hi]
    dsimp only
    cases hd : z_d a i d with
    | none => exact z_ok_0 h0
    | some o =>
      obtain ⟨j, hj, rfl, hs⟩ := z_d_so hd
      have ho := wd i hi j hj o hs
      obtain ⟨w1, w2, w3, w4⟩ := z_clo_in wd wo wl wp hi hj hl
      have hg := RY_d (v := none) h0 hi hj
      obtain ⟨s1, g1, g2⟩ := m_sweep hg.1 (W_D_n wd) (W_K_Q (a := a) (W_O_q wo)) wl.1
      obtain ⟨s2, g3, g4⟩ := m_wake g2 w1 w2 w3 w4
      rw [show z_e (some o) = Int32.ofNat o from rfl, if_pos (n_u0 (show o < 2147483648 by omega)), h0.1.1.1 4 (by omega)]
      dsimp only
      rw [n_8, if_pos (n_in (by omega) (by omega)), n_to (by omega), n_to (by omega)]
      rw [show f_M_sweep 0 (xsI (xsI st 32 0 0 0) 36 0 (8 * i + j) (-1)) = some ((), s1) from g1]
      dsimp only
      rw [g3]
      exact z_ok_0 g4
theorem m_dup (h : RM a M st) (wd : W_D a) (wo : W_O z_0 a) (wl : W_L N a) (wp : W_P a) (p d t : Int32) : z_ok (o_dup a p d t) M (f_M_dup 0 p d t st) := by
  have h0 := m_coX h 0
  have hin : (if ¬ t < -1 ∧ t ≤ 7 then (1 : Int32) else 0) = if t < -1 then 0 else if t < 8 then 1 else 0 := by
    by_cases h1 : t < -1
    · rw [if_pos h1, if_neg (fun z => z.1 h1)]
    · rw [if_neg h1]
      by_cases h2 : t < 8
      · rw [if_pos h2, if_pos ⟨h1, by rw [Int32.lt_iff_toInt_lt] at h2; rw [Int32.le_iff_toInt_le]; exact Int.lt_add_one_iff.mp h2⟩]
      · rw [if_neg h2, if_neg (fun z => h2 (by have := z.2; rw [Int32.le_iff_toInt_le] at this; rw [Int32.lt_iff_toInt_lt]; exact Int.lt_add_one_iff.mpr this))]
  unfold f_M_dup o_dup
  rw [m_isReady h.1 wp, m_in, hin]
  dsimp only
  cases hr : z_r a p with
  | none =>
    dsimp only
    rw [if_pos rfl]
    have e : ∀ y, f_M_dup_29 0 p d t y 1 (some 0) st = some (0, xsI st 32 0 0 1) := fun y => by
      unfold f_M_dup_29
      dsimp only
      rw [m_f1]
      dsimp only
      rw [if_neg (c := (1 : Int32) = 0) (by decide)]
    rw [e, e, ite_self]
    exact z_ok_1 h
  | some i =>
    obtain ⟨hi, rfl, hl⟩ := z_r_so hr
    dsimp only
    rw [if_neg (c := (1 : Int32) = 0) (by decide)]
    have e : f_M_dup_29 0 (Int32.ofNat i) d t 1 0 (some 0) st = some (0, xsI st 32 0 0 2) := by
      unfold f_M_dup_29
      dsimp only
      rw [m_f2]
      dsimp only
      rw [if_neg (c := (1 : Int32) = 0) (by decide)]
    rw [e]
    by_cases h1 : t < -1
    · rw [if_pos h1, if_pos h1, if_pos rfl]; exact z_ok_2 h
    · rw [if_neg h1, if_neg h1]
      by_cases h2 : t < 8
      · rw [if_pos h2, if_pos h2, if_neg (c := (1 : Int32) = 0) (by decide)]
        unfold f_M_dup_29
        dsimp only
        rw [m_f0]
        dsimp only
        rw [if_pos rfl, m_openingOf h0.1.1 hi]
        dsimp only
        cases hd : z_d a i d with
        | none => exact z_ok_0 h0
        | some o =>
          obtain ⟨j, hj, rfl, hs⟩ := z_d_so hd
          have ho := wd i hi j hj o hs
          have hk := z_h_po hi hj hs
          rw [show z_e (some o) = Int32.ofNat o from rfl, if_pos (n_u0 (show o < 2147483648 by omega))]
          dsimp only
          by_cases h3 : t = -1
          · subst h3
            rw [if_neg (c := (0 : Int32) ≤ -1) (by decide), if_pos rfl, m_freeDescriptor h0.1.1 wd hi]
            dsimp only
            cases hf : z_fd a i with
            | none => exact z_ok_0 h0
            | some j' =>
              obtain ⟨hj', hn⟩ := z_fd_so hf
              obtain ⟨s1, g1, g2, g3⟩ := m_give (o := o) h0.1 wd hi hf
              rw [show z_e (some j') = Int32.ofNat j' from rfl, if_pos (n_u0 (show j' < 2147483648 by omega)), g1]
              dsimp only
              exact z_ok_0 ⟨g2, by rw [g3 44 (by omega), g3 45 (by omega)]; exact h0.2⟩
          · have h4 : x_in t 8 := by
              refine (n_i7 t).mp ⟨fun z => ?_, ?_⟩
              · apply h3
                apply Int32.toInt_inj.mp
                rw [Int32.lt_iff_toInt_lt] at h1 z
                have e1 : (-1 : Int32).toInt = -1 := by decide
                have e2 : (0 : Int32).toInt = 0 := by decide
                omega
              · rw [Int32.lt_iff_toInt_lt] at h2; rw [Int32.le_iff_toInt_le]; exact Int.lt_add_one_iff.mp h2
            obtain ⟨jt, hjt, hjt', rfl⟩ | hno := n_ca t 8
            · obtain ⟨w1, w2, w3, w4⟩ := z_dup_in wd wo wl wp hi hjt hl ho hk
              have hg := RY_d (v := some o) h0 hi hjt
              obtain ⟨s1, g1, g2⟩ := m_sweep hg.1 (W_D_o wd ho) (W_K_Q (a := a) (W_O_q wo)) wl.1
              obtain ⟨s2, g3, g4⟩ := m_wake g2 w1 w2 w3 w4
              rw [if_pos (n_u0 hjt'), if_neg h3, h0.1.1.1 4 (by omega)]
              dsimp only
              rw [n_8, if_pos (n_in (by omega) (by omega)), n_to (by omega), n_to (by omega)]
              rw [show f_M_sweep 0 (xsI (xsI st 32 0 0 0) 36 0 (8 * i + jt) (Int32.ofNat o)) = some ((), s1) from g1]
              dsimp only
              rw [g3]
              exact z_ok_0 g4
            · exact absurd h4 hno
      · rw [if_neg h2, if_neg h2, if_pos rfl]; exact z_ok_2 h
theorem z_fn_e {y : Int32} (hy : y ≠ 0) (h : RW a M st) {f : Nat} (hf : z_fn a y = some f) : st.1 45 0 f = 1 := by
  obtain ⟨h1, h2⟩ := z_fn_so hf
  exact (h.2.2.2.2.2.1 f h1).2.1 (Or.inl (by rw [h2]; exact hy))
theorem z_nm_ne {y : Int32} (h : z_nm y = true) : y ≠ 0 := fun z => by rw [z] at h; exact absurd h (by decide)
theorem m_unlink (h : RM a M st) (wd : W_D a) (wo : W_O z_0 a) (wl : W_L N a) (wp : W_P a) (p y : Int32) : z_ok (o_unlink a p y) M (f_M_unlink 0 p y st) := by
  have h0 := m_coX h 0
  unfold f_M_unlink o_unlink
  rw [m_isReady h.1 wp, m_in9]
  dsimp only
  cases hr : z_r a p with
  | none =>
    dsimp only
    rw [if_pos rfl]
    have e : ∀ y', f_M_unlink_29 0 y y' 1 (some 0) st = some (0, xsI st 32 0 0 1) := fun y' => by
      unfold f_M_unlink_29
      dsimp only
      rw [m_f1]
      dsimp only
      rw [if_neg (c := (1 : Int32) = 0) (by decide)]
    rw [e, e, ite_self]
    exact z_ok_1 h
  | some i =>
    dsimp only
    rw [if_neg (c := (1 : Int32) = 0) (by decide)]
    by_cases hx : z_nm y = true
    · rw [if_pos hx, if_pos hx, if_neg (c := (1 : Int32) = 0) (by decide)]
      unfold f_M_unlink_29
      dsimp only
      rw [m_f0]
      dsimp only
      rw [if_pos rfl, m_named h0.1.1 (z_nm_ne hx)]
      dsimp only
      cases hf : z_fn a y with
      | none => exact z_ok_0 h0
      | some f =>
        obtain ⟨hf1, hf2⟩ := z_fn_so hf
        have hg := RX_nm (f := f) (v := 0) h0.1 (fun z => absurd rfl z)
        obtain ⟨s1, g1, g2⟩ := m_sweep hg wd (W_K_Q (a := a) (W_O_q wo)) (W_L_n (f := f) (v := 0) wl (Or.inl rfl)).1
        rw [show z_e (some f) = Int32.ofNat f from rfl, if_pos (n_u0 (show f < 2147483648 by omega)), h0.1.1.1 14 (by omega)]
        dsimp only
        rw [if_pos (n_in (by omega) hf1), n_to (by omega), g1]
        exact z_ok_0 g2
    · rw [if_neg hx, if_neg hx, if_pos rfl]
      unfold f_M_unlink_29
      dsimp only
      rw [m_f2]
      dsimp only
      rw [if_neg (c := (1 : Int32) = 0) (by decide)]
      exact z_ok_2 h
theorem m_rename (h : RM a M st) (wd : W_D a) (wo : W_O z_0 a) (wl : W_L N a) (wp : W_P a) (p y w : Int32) : z_ok (o_rename a p y w) M (f_M_rename 0 p y w st) := by
  have h0 := m_coX h 0
  unfold f_M_rename o_rename
  rw [m_isReady h.1 wp]
  dsimp only
  cases hr : z_r a p with
  | none =>
    dsimp only
    rw [if_pos rfl]
    have e : ∀ y', f_M_rename_39 0 y w y' 1 (some 0) st = some (0, xsI st 32 0 0 1) := fun y' => by
      unfold f_M_rename_39
      dsimp only
      rw [m_f1]
      dsimp only
      rw [if_neg (c := (1 : Int32) = 0) (by decide)]
    unfold f_M_rename_14
    rw [m_in9, m_in9, e, e]
    dsimp only
    rw [ite_self, ite_self]
    exact z_ok_1 h
  | some i =>
    dsimp only
    rw [if_neg (c := (1 : Int32) = 0) (by decide)]
    have e : f_M_rename_39 0 y w 1 0 (some 0) st = some (0, xsI st 32 0 0 2) := by
      unfold f_M_rename_39
      dsimp only
      rw [m_f2]
      dsimp only
      rw [if_neg (c := (1 : Int32) = 0) (by decide)]
    unfold f_M_rename_14
    rw [m_in9, m_in9, e]
    dsimp only
    by_cases hx : z_nm y = true
    · rw [if_pos hx, if_pos hx, if_neg (c := (1 : Int32) = 0) (by decide)]
      by_cases hy : z_nm w = true
      · rw [if_pos hy, if_pos hy, if_neg (c := (1 : Int32) = 0) (by decide)]
        unfold f_M_rename_39
        dsimp only
        rw [m_f0]
        dsimp only
        rw [if_pos rfl, m_named h0.1.1 (z_nm_ne hx), m_named h0.1.1 (z_nm_ne hy)]
        dsimp only
        cases hf : z_fn a y with
        | none => exact z_ok_0 h0
        | some f =>
          obtain ⟨hf1, hf2⟩ := z_fn_so hf
          have h45 := z_fn_e (z_nm_ne hx) h0.1.1 hf
          rw [show z_e (some f) = Int32.ofNat f from rfl, if_pos (n_u0 (show f < 2147483648 by omega)), h0.1.1.1 14 (by omega)]
          have h6 : x_in (Int32.ofNat f) 6 := n_in (by omega) hf1
          simp only [if_pos h6, n_to (show f < 2147483648 by omega)]
          have hg := RX_nm (f := f) (v := w) h0.1 (fun _ => h45)
          obtain ⟨s1, g1, g2⟩ := m_sweep hg wd (W_K_Q (a := a) (W_O_q wo)) (W_L_n (f := f) (v := w) wl (Or.inr (z_nm_pos hy))).1
          rw [g1]
          cases hgn : z_fn a w with
          | none => exact z_ok_0 g2
          | some g =>
            obtain ⟨hf3, hf4⟩ := z_fn_so hgn
            rw [show z_e (some g) = Int32.ofNat g from rfl, if_neg (n_ng (show g < 2147483648 by omega))]
            by_cases hgf : g = f
            · subst hgf
              rw [if_pos rfl]
              refine z_ok_0 ?_
              have hu : aI (aI a 3 g 0) 3 g w = aI a 3 g w := by
                unfold aI
                dsimp only
                rw [z_u_u]
              rw [hu]
              exact g2
            · rw [if_neg (fun z => hgf ((n_eq (by omega) (by omega)).mp z))]
              have hg1 := RX_nm (f := g) (v := 0) h0.1 (fun z => absurd rfl z)
              have hg2 := RX_nm (f := f) (v := w) hg1 (fun _ => by rw [u_I (by omega)]; exact h45)
              obtain ⟨s2, g3, g4⟩ := m_sweep hg2 wd (W_K_Q (a := a) (W_O_q wo)) (W_L_n (f := f) (v := w) (W_L_n (f := g) (v := 0) wl (Or.inl rfl)) (Or.inr (z_nm_pos hy))).1
              rw [if_pos (n_in (by omega) hf3), n_to (by omega)]
              rw [show (xsI (xsI st 32 0 0 0) 46 0 g 0).2.2.1 32 0 14 = some 0 from h0.1.1.1 14 (by omega)]
              dsimp only
              rw [g3]
              exact z_ok_0 g4
      · rw [if_neg hy, if_neg hy, if_pos rfl]; exact z_ok_2 h
    · rw [if_neg hx, if_neg hx, if_pos rfl]; exact z_ok_2 h
end
