/-! THE REFERENCE: read -/
/-- what is given after m bytes of g, from p on -/
def z_gs (g : Nat → Int32) : Nat → Nat → Int64 → Int64
  | _, 0, v => v
  | p, m + 1, v => z_gs g (p + 1) m (z_g v (g p))
theorem z_gs_sh (g : Nat → Int32) (m : Nat) : ∀ p v, z_gs (fun j => g (j + 1)) p m v = z_gs g (p + 1) m v := by
  induction m with
  | zero => intro p v; rfl
  | succ m ih => intro p v; exact ih (p + 1) _
theorem z_gs_s (g : Nat → Int32) (m : Nat) : ∀ p v, z_gs g p (m + 1) v = z_g (z_gs g p m v) (g (p + m)) := by
  induction m with
  | zero => intro p v; rfl
  | succ m ih => intro p v; show z_gs g (p + 1) (m + 1) _ = _; rw [ih (p + 1), show p + 1 + m = p + (m + 1) by omega]; rfl
/-- how many are taken, how many are gone, where a 4 ends the row -/
def z_re (g : Nat → Int32) : Nat → Nat → Nat × Nat
  | _, 0 => (0, 0)
  | p, m + 1 => if g p = 4 then (0, 1) else ((z_re g (p + 1) m).1 + 1, (z_re g (p + 1) m).2 + 1)
theorem z_re_sh (g : Nat → Int32) (m : Nat) : ∀ p, z_re (fun j => g (j + 1)) p m = z_re g (p + 1) m := by
  induction m with
  | zero => intro p; rfl
  | succ m ih => intro p; unfold z_re; rw [ih (p + 1)]
theorem z_re_le (g : Nat → Int32) (m : Nat) : ∀ p, (z_re g p m).1 ≤ (z_re g p m).2 ∧ (z_re g p m).2 ≤ m := by
  induction m with
  | zero => intro p; exact ⟨Nat.le_refl _, Nat.le_refl _⟩
  | succ m ih =>
    intro p
    have := ih (p + 1)
    unfold z_re
    by_cases h : g p = 4
    · rw [if_pos h]; exact ⟨by omega, by omega⟩
    · rw [if_neg h]; exact ⟨by omega, by omega⟩
/-- the row w is E shorter in front, and i was given v -/
def Z_T (i w E : Nat) (v : Int64) (a b : AS) : Prop := (∀ f t, b.1 f t = if f = 4 ∧ t = w then a.1 4 w - E else a.1 f t) ∧ b.2.1 = a.2.1 ∧ (∀ t, b.2.2.1.1 t = if t = i then v else a.2.2.1.1 t) ∧
  (∀ t j, b.2.2.1.2 t j = if t = w then a.2.2.1.2 w (j + E) else a.2.2.1.2 t j) ∧ b.2.2.2 = a.2.2.2
section
variable {c : Int32} {a b : AS} {M st : XS} {i d o N x w : Nat}
theorem Z_T_0 : Z_T i w 0 (a.2.2.1.1 i) a a := by
  refine ⟨fun f t => ?_, rfl, fun t => ?_, fun t j => ?_, rfl⟩
  · by_cases h : f = 4 ∧ t = w
    · rw [if_pos h, h.1, h.2, Nat.sub_zero]
    · rw [if_neg h]
  · by_cases h : t = i
    · rw [if_pos h, h]
    · rw [if_neg h]
  · by_cases h : t = w
    · rw [if_pos h, h, Nat.add_zero]
    · rw [if_neg h]
theorem Z_T_k : Z_T i w 1 (a.2.2.1.1 i) a (z_tk a w) := by
  refine ⟨fun f t => ?_, rfl, fun t => ?_, fun t j => ?_, rfl⟩
  · by_cases hf : f = 4
    · subst hf
      rw [z_tk_l]
      by_cases h : t = w
      · rw [if_pos h, if_pos ⟨rfl, h⟩]
      · rw [if_neg h, if_neg (fun z => h z.2)]
    · rw [z_tk_n hf, if_neg (fun z => hf z.1)]
  · show a.2.2.1.1 t = _
    by_cases h : t = i
    · rw [if_pos h, h]
    · rw [if_neg h]
  · rw [z_tk_b]
/-- one byte, then the rest -/
theorem Z_T_s {E : Nat} {v : Int64} {y : Int32} (h : Z_T i w E v (z_gb (z_tk a w) i y) b) : Z_T i w (E + 1) v a b := by
  obtain ⟨h1, h2, h3, h4, h5⟩ := h
  refine ⟨fun f t => ?_, h2, fun t => ?_, fun t j => ?_, h5⟩
  · rw [h1 f t]
    show (if f = 4 ∧ t = w then (z_tk a w).1 4 w - E else (z_tk a w).1 f t) = _
    by_cases hc : f = 4 ∧ t = w
    · rw [if_pos hc, if_pos hc, z_tk_l, if_pos rfl]; omega
    · rw [if_neg hc, if_neg hc]
      by_cases hf : f = 4
      · subst hf; rw [z_tk_l, if_neg (fun z => hc ⟨rfl, z⟩)]
      · exact z_tk_n hf
  · rw [h3 t]
    by_cases hc : t = i
    · rw [if_pos hc, if_pos hc]
    · rw [if_neg hc, if_neg hc]
      show (if t = i then _ else a.2.2.1.1 t) = _
      rw [if_neg hc]
  · rw [h4 t j]
    show (if t = w then (z_tk a w).2.2.1.2 w (j + E) else (z_tk a w).2.2.1.2 t j) = _
    by_cases hc : t = w
    · rw [if_pos hc, if_pos hc, z_tk_b, if_pos rfl, Nat.add_assoc]
    · rw [if_neg hc, if_neg hc, z_tk_b, if_neg hc]
theorem z_gb_i {y : Int32} : (z_gb (z_tk a w) i y).2.2.1.1 i = z_g (a.2.2.1.1 i) y := if_pos rfl
theorem z_tk_f {y : Int32} : (z_gb (z_tk a w) i y).2.2.1.2 w = fun j => a.2.2.1.2 w (j + 1) := by
  funext j
  show (z_tk a w).2.2.1.2 w j = _
  rw [z_tk_b, if_pos rfl]
theorem z_rp_x (m : Nat) : ∀ a, Z_T i w m (z_gs (a.2.2.1.2 w) 0 m (a.2.2.1.1 i)) a (z_rp i w m a) := by
  induction m with
  | zero => intro a; exact Z_T_0
  | succ m ih =>
    intro a
    have h := ih (z_gb (z_tk a w) i (a.2.2.1.2 w 0))
    rw [z_gb_i, z_tk_f, z_gs_sh] at h
    exact Z_T_s h
theorem z_rc_x (m : Nat) : ∀ a, (z_rc i m a).1 = (z_re (a.2.2.1.2 20) 0 m).1 ∧ Z_T i 20 (z_re (a.2.2.1.2 20) 0 m).2 (z_gs (a.2.2.1.2 20) 0 (z_re (a.2.2.1.2 20) 0 m).1 (a.2.2.1.1 i)) a (z_rc i m a).2 := by
  induction m with
  | zero => intro a; exact ⟨rfl, Z_T_0⟩
  | succ m ih =>
    intro a
    unfold z_rc z_re
    by_cases h4 : a.2.2.1.2 20 0 = 4
    · rw [if_pos h4, if_pos h4]; exact ⟨rfl, Z_T_k⟩
    · rw [if_neg h4, if_neg h4]
      have h := ih (z_gb (z_tk a 20) i (a.2.2.1.2 20 0))
      rw [z_gb_i, z_tk_f, z_gs_sh, z_re_sh] at h
      refine ⟨?_, Z_T_s h.2⟩
      dsimp only
      rw [h.1]
theorem aJ_id {v : Int64} (h : a.2.2.1.1 i = v) : aJ a i v = a := by
  refine Prod.ext rfl (Prod.ext rfl (Prod.ext (Prod.ext (funext fun t => ?_) rfl) rfl))
  show (if t = i then v else a.2.2.1.1 t) = a.2.2.1.1 t
  by_cases hc : t = i
  · rw [if_pos hc, hc, h]
  · rw [if_neg hc]
theorem aJ_J {v u : Int64} : aJ (aJ a i v) i u = aJ a i u := by
  refine Prod.ext rfl (Prod.ext rfl (Prod.ext (Prod.ext (funext fun t => ?_) rfl) rfl))
  show (if t = i then u else if t = i then v else a.2.2.1.1 t) = if t = i then u else a.2.2.1.1 t
  by_cases hc : t = i
  · rw [if_pos hc, if_pos hc]
  · rw [if_neg hc, if_neg hc, if_neg hc]
theorem aJ_i {v : Int64} : (aJ a i v).2.2.1.1 i = v := if_pos rfl
theorem z_rf_x {f : Nat} (m : Nat) : ∀ p a, z_rf i f p m a = aJ a i (z_gs (a.2.2.1.2 (8 + f)) p m (a.2.2.1.1 i)) := by
  induction m with
  | zero => intro p a; exact (aJ_id rfl).symm
  | succ m ih =>
    intro p a
    show z_rf i f (p + 1) m (z_gb a i (a.2.2.1.2 (8 + f) p)) = _
    rw [ih]
    unfold z_gb
    rw [aJ_i, aJ_J]
    rfl
theorem z_g_0 (y : Int32) : z_g 0 y = y.toInt64 := by
  unfold z_g
  rw [Int64.zero_shiftLeft, Int64.zero_or]
theorem m_take {t : Nat} {y : Int32} (h : RW a M st) (hi : i < 8) (ht : t < 2147483648) (h0 : t = 0 → a.2.2.1.1 i = 0) : f_M_take 0 (Int32.ofNat i) y (Int32.ofNat t) st = some ((), xsJ st 37 0 i (z_g (a.2.2.1.1 i) y)) := by
  have h8 : x_in (Int32.ofNat i) 8 := n_in (by omega) hi
  unfold f_M_take
  rw [h.1 5 (by omega)]
  simp only [if_pos h8, n_to (show i < 2147483648 by omega)]
  rw [(h.2.1 i hi).2.2.2]
  by_cases hc : t = 0
  · rw [if_pos ((n_e0 ht).mpr hc), h0 hc, z_g_0]
  · rw [if_neg (fun z => hc ((n_e0 ht).mp z))]; rfl
theorem n_32 (k j : Nat) : (32 : Int32) * Int32.ofNat k + Int32.ofNat j = Int32.ofNat (32 * k + j) := by
  rw [show (32 : Int32) = Int32.ofNat 32 from rfl, n_mu, n_ad]
theorem n_064 (k j : Nat) : (64 : Int32) * Int32.ofNat k + Int32.ofNat j = Int32.ofNat (64 * k + j) := by
  rw [show (64 : Int32) = Int32.ofNat 64 from rfl, n_mu, n_ad]
/-- the rest of a pipe moves to the front -/
theorem m_readPipe_68 {k m L : Nat} {g : Nat → Int32} (hk : k < 6) (hm : m ≤ L) (hL : L ≤ 32) : ∀ q u n st, u + q = L → m ≤ u → q < n → m_S (st.2.2.1 32) → st.1 42 0 k = Int32.ofNat L →
    (∀ j, j < L → st.1 43 0 (32 * k + j) = if j + m < u then g (j + m) else g j) →
    ∃ s', f_M_readPipe_68 n 0 (Int32.ofNat k) (Int32.ofNat m) (Int32.ofNat u) st = some (Int32.ofNat m, s') ∧ s'.2 = st.2 ∧ (∀ q, q ≠ 42 → q ≠ 43 → s'.1 q = st.1 q) ∧ s'.1 42 = z_u (st.1 42) 0 k (Int32.ofNat (L - m)) ∧
      (∀ j, j < L - m → s'.1 43 0 (32 * k + j) = g (j + m)) ∧ ∀ k' j, k' ≠ k → j < 32 → s'.1 43 0 (32 * k' + j) = st.1 43 0 (32 * k' + j) := by
  have h6 : x_in (Int32.ofNat k) 6 := n_in (by omega) hk
  intro q
  induction q with
  | zero =>
    intro u n st hu hmu hn hs h42 h43
    obtain ⟨n, rfl⟩ : ∃ m, n = m + 1 := ⟨n - 1, by omega⟩
    have : u = L := by omega
    subst this
    unfold f_M_readPipe_68
    rw [hs 10 (by omega)]
    simp only [if_pos h6, n_to (show k < 2147483648 by omega)]
    rw [h42, if_pos (n_up (Nat.le_refl u) (by omega)), n_sb hm]
    refine ⟨_, rfl, rfl, fun q h1 h2 => u_I h1, u_Ie, fun j hj => ?_, fun k' j _ _ => by rw [u_I (by omega)]⟩
    rw [u_I (by omega), h43 j (by omega), if_pos (by omega)]
  | succ q ih =>
    intro u n st hu hmu hn hs h42 h43
    obtain ⟨n, rfl⟩ : ∃ m, n = m + 1 := ⟨n - 1, by omega⟩
    unfold f_M_readPipe_68
    rw [hs 10 (by omega)]
    simp only [if_pos h6, n_to (show k < 2147483648 by omega)]
    rw [h42, if_neg (n_ge (by omega) (by omega)), hs 11 (by omega)]
    dsimp only
    rw [n_32, n_sb (show m ≤ 32 * k + u by omega), if_pos (n_in (by omega) (by omega)), if_pos (n_in (by omega) (by omega)), n_to (by omega), n_to (by omega), n_su, h43 u (by omega), if_neg (by omega)]
    obtain ⟨s', g1, g2, g3, g4, g5, g6⟩ := ih (u + 1) n (xsI st 43 0 (32 * k + u - m) (g u)) (by omega) (by omega) (by omega) hs (by rw [u_I (by omega)]; exact h42) (fun j hj => by
      rw [u_Ie]
      by_cases hj2 : j + m = u
      · rw [show 32 * k + j = 32 * k + u - m by omega, z_ue, if_pos (by omega), hj2]
      · rw [z_u2 (by omega), h43 j hj]
        by_cases hj3 : j + m < u
        · rw [if_pos hj3, if_pos (by omega)]
        · rw [if_neg hj3, if_neg (by omega)])
    refine ⟨s', g1, g2, fun q h1 h2 => by rw [g3 q h1 h2, u_I h2], by rw [g4, u_I (by omega)], g5, fun k' j hk' hj => ?_⟩
    rw [g6 k' j hk' hj, u_Ie, z_u2 (by omega)]
theorem m_readPipe_32 {k m : Nat} (hk : k < 6) (hi : i < 8) (hm : m ≤ a.1 4 k) (hL : a.1 4 k ≤ 32) : ∀ q t n st, t + q = m → q < n → RX c (aJ a i (z_gs (a.2.2.1.2 k) 0 t 0)) M st →
    ∃ s', f_M_readPipe_32 n 0 (Int32.ofNat i) (Int32.ofNat k) (Int32.ofNat m) (Int32.ofNat t) st = f_M_readPipe_68 100 0 (Int32.ofNat k) (Int32.ofNat m) (Int32.ofNat m) s' ∧ RX c (aJ a i (z_gs (a.2.2.1.2 k) 0 m 0)) M s' ∧ s'.1 = st.1 := by
  intro q
  induction q with
  | zero =>
    intro t n st ht hn h
    obtain ⟨n, rfl⟩ : ∃ m, n = m + 1 := ⟨n - 1, by omega⟩
    have : t = m := by omega
    subst this
    unfold f_M_readPipe_32
    rw [if_pos (n_up (Nat.le_refl t) (by omega))]
    exact ⟨st, rfl, h, rfl⟩
  | succ q ih =>
    intro t n st ht hn h
    obtain ⟨n, rfl⟩ : ∃ m, n = m + 1 := ⟨n - 1, by omega⟩
    unfold f_M_readPipe_32
    rw [if_neg (n_ge (by omega) (by omega)), h.1.1 11 (by omega)]
    dsimp only
    rw [n_32, if_pos (n_in (by omega) (by omega)), n_to (by omega), m_take h.1 hi (by omega) (fun z => by subst z; exact aJ_i)]
    dsimp only
    have hb : st.1 43 0 (32 * k + t) = a.2.2.1.2 k t := (h.1.2.2.2.2.1 k hk).2.2 t (show t < a.1 4 k by omega)
    rw [hb, aJ_i, n_su]
    have h2 := (RX_j (i := i) (v := z_g (z_gs (a.2.2.1.2 k) 0 t 0) (a.2.2.1.2 k t)) h).1
    rw [aJ_J, show z_g (z_gs (a.2.2.1.2 k) 0 t 0) (a.2.2.1.2 k t) = z_gs (a.2.2.1.2 k) 0 (t + 1) 0 by rw [z_gs_s, Nat.zero_add]] at h2
    obtain ⟨s', g1, g2, g3⟩ := ih (t + 1) n _ (by omega) (by omega) h2
    refine ⟨s', ?_, g2, g3⟩
    rw [← g1, show z_g (z_gs (a.2.2.1.2 k) 0 t 0) (a.2.2.1.2 k t) = z_gs (a.2.2.1.2 k) 0 (t + 1) 0 by rw [z_gs_s, Nat.zero_add]]
/-- the reference holds what Z_T says of a pipe's row -/
theorem RX_T_p {k E : Nat} {v : Int64} {s' : XS} (h : RX c (aJ a i v) M st) (hk : k < 6) (hE : E ≤ a.1 4 k) (hL : ∀ k, k < 6 → a.1 4 k ≤ 32) (hT : Z_T i k E v a b) (hs : s'.2 = st.2) (h1 : ∀ q, q ≠ 42 → q ≠ 43 → s'.1 q = st.1 q)
    (h42 : s'.1 42 = z_u (st.1 42) 0 k (Int32.ofNat (a.1 4 k - E))) (h43 : ∀ j, j < a.1 4 k - E → s'.1 43 0 (32 * k + j) = a.2.2.1.2 k (j + E)) (h43' : ∀ k' j, k' ≠ k → j < 32 → s'.1 43 0 (32 * k' + j) = st.1 43 0 (32 * k' + j)) :
    RX c b M s' ∧ (m_X a (st.1 44) (st.1 45) → m_X b (s'.1 44) (s'.1 45)) := by
  obtain ⟨t1, t2, t3, t4, t5⟩ := hT
  have hn : ∀ f t, f ≠ 4 → b.1 f t = a.1 f t := fun f t hf => by rw [t1 f t, if_neg (fun z => hf z.1)]
  have hz : ∀ s k, z_o b s k = z_o a s k := fun s k => z_o_co (fun t _ => ⟨hn 1 t (by omega), hn 2 t (by omega)⟩) s k
  refine RX_g (a := aJ a i v) h ?_ ?_ ?_ (by rw [hs]) (fun q hq => h1 q (by omega) (by omega)) (by rw [h1 32 (by omega) (by omega)]) (fun q _ => by rw [hs]) (fun f t h4 _ => hn f t h4) t2 (funext fun t => t3 t) t5
  · rw [h42, h1 44 (by omega) (by omega)]
    intro k' hk'
    have := h.1.2.2.2.2.1 k' hk'
    have hl' := hL k' hk'
    rw [hz, hz, t1 4 k']
    by_cases hkk : k' = k
    · subst hkk
      rw [if_pos ⟨rfl, rfl⟩, z_ue]
      exact ⟨this.1, fun z => ⟨(this.2.1 z).1, rfl⟩, fun j hj => by rw [h43 j hj, t4, if_pos rfl]⟩
    · rw [if_neg (fun z => hkk z.2), z_u2 hkk]
      exact ⟨this.1, this.2.1, fun j hj => by rw [h43' k' j hkk (by omega), t4, if_neg hkk]; exact this.2.2 j hj⟩
  · rw [h1 45 (by omega) (by omega), h1 46 (by omega) (by omega), h1 47 (by omega) (by omega), h1 48 (by omega) (by omega)]
    intro f hf
    have := h.1.2.2.2.2.2.1 f hf
    rw [hz, t1 4, if_neg (by omega), t2]
    exact ⟨this.1, this.2.1, this.2.2.1, this.2.2.2.1, fun j hj => by rw [t4, if_neg (by omega)]; exact this.2.2.2.2 j hj⟩
  · have := h.1.2.2.2.2.2.2.1
    rw [h1 32 (by omega) (by omega), h1 49 (by omega) (by omega), h1 50 (by omega) (by omega), hs]
    unfold m_C
    rw [t1 4 20, if_neg (by omega), t1 4 21, if_neg (by omega), hn 5 0 (by omega)]
    exact ⟨this.1, fun j hj => by rw [t4, if_neg (by omega)]; exact this.2.1 j hj, this.2.2.1, fun j hj => by rw [t4, if_neg (by omega)]; exact this.2.2.2 j hj⟩
theorem m_readPipe {k m : Nat} (h : RY c a M st) (hk : k < 6) (hi : i < 8) (hL : ∀ k, k < 6 → a.1 4 k ≤ 32) (hm : m ≤ 8) (h42 : st.1 42 0 k = Int32.ofNat (a.1 4 k)) :
    ∃ s', f_M_readPipe 0 (Int32.ofNat i) (Int32.ofNat k) (Int32.ofNat m) st = some (Int32.ofNat (min m (a.1 4 k)), s') ∧ RY c (z_rp i k (min m (a.1 4 k)) (aJ a i 0)) M s' := by
  have h6 : x_in (Int32.ofNat k) 6 := n_in (by omega) hk
  have h8 : x_in (Int32.ofNat i) 8 := n_in (by omega) hi
  have hl := hL k hk
  have e1 : f_M_readPipe 0 (Int32.ofNat i) (Int32.ofNat k) (Int32.ofNat m) st = f_M_readPipe_32 100 0 (Int32.ofNat i) (Int32.ofNat k) (Int32.ofNat (min m (a.1 4 k))) 0 (xsJ st 37 0 i 0) := by
    unfold f_M_readPipe
    rw [h.1.1.1 10 (by omega)]
    simp only [if_pos h6, if_pos h8, n_to (show k < 2147483648 by omega), n_to (show i < 2147483648 by omega)]
    rw [h42, h.1.1.1 5 (by omega)]
    dsimp only
    by_cases hc : m ≤ a.1 4 k
    · rw [if_pos (n_up hc (by omega)), Nat.min_eq_left hc]
    · rw [if_neg (n_ge (by omega) (by omega)), Nat.min_eq_right (by omega)]
  have hj := RY_j (i := i) (v := 0) h
  obtain ⟨s1, g1, g2, g3⟩ := m_readPipe_32 (c := c) (a := a) (M := M) hk hi (Nat.min_le_right m (a.1 4 k)) hl (min m (a.1 4 k)) 0 100 _ (by omega) (by omega) hj.1
  obtain ⟨s2, k1, k2, k3, k4, k5, k6⟩ := m_readPipe_68 (k := k) (m := min m (a.1 4 k)) (L := a.1 4 k) (g := a.2.2.1.2 k) hk (Nat.min_le_right m (a.1 4 k)) hl (a.1 4 k - min m (a.1 4 k)) (min m (a.1 4 k)) 100 s1 (by omega) (Nat.le_refl _) (by omega) g2.1.1 (by rw [g3]; exact h42) (fun j hj => by
    rw [(g2.1.2.2.2.2.1 k hk).2.2 j hj]
    by_cases hq : j + min m (a.1 4 k) < min m (a.1 4 k)
    · omega
    · rw [if_neg hq]; rfl)
  have hT := z_rp_x (i := i) (w := k) (min m (a.1 4 k)) (aJ a i 0)
  rw [aJ_i] at hT
  have h2' : RX c (aJ (aJ a i 0) i (z_gs (a.2.2.1.2 k) 0 (min m (a.1 4 k)) 0)) M s1 := by rw [aJ_J]; exact g2
  have hr := RX_T_p (a := aJ a i 0) h2' hk (Nat.min_le_right m (a.1 4 k)) hL hT k2 k3 k4 k5 k6
  refine ⟨s2, ?_, hr.1, hr.2 ?_⟩
  · rw [e1, show f_M_readPipe_32 100 0 (Int32.ofNat i) (Int32.ofNat k) (Int32.ofNat (min m (a.1 4 k))) 0 (xsJ st 37 0 i 0) = _ from g1, k1]
  · rw [g3]; exact h.2
theorem m_readFile_18 {f m : Nat} (hf : f < 6) (hi : i < 8) (ho : o < 20) (hm : m ≤ 8) (hl : a.1 4 (8 + f) ≤ 64) (hp : a.1 3 o ≤ 64) : ∀ q t n st, t + q = min m (a.1 4 (8 + f) - a.1 3 o) → q < n → RY c (aN (aJ a i (z_gs (a.2.2.1.2 (8 + f)) (a.1 3 o) t 0)) 3 o (a.1 3 o + t)) M st →
    ∃ s', f_M_readFile_18 n 0 (Int32.ofNat i) (Int32.ofNat o) (Int32.ofNat m) (Int32.ofNat f) (Int32.ofNat t) st = some (Int32.ofNat (t + q), s') ∧ RY c (aN (aJ a i (z_gs (a.2.2.1.2 (8 + f)) (a.1 3 o) (t + q) 0)) 3 o (a.1 3 o + (t + q))) M s' := by
  have h6 : x_in (Int32.ofNat f) 6 := n_in (by omega) hf
  have h20 : x_in (Int32.ofNat o) 20 := n_in (by omega) ho
  intro q
  induction q with
  | zero =>
    intro t n st ht hn h
    obtain ⟨n, rfl⟩ : ∃ m, n = m + 1 := ⟨n - 1, by omega⟩
    have h40 : st.1 40 0 o = Int32.ofNat (a.1 3 o + t) := by
      have := (h.1.1.2.2.2.1 o ho).2.2.1
      rw [this, aN_of, if_pos ⟨rfl, rfl⟩]
    have h47 : st.1 47 0 f = Int32.ofNat (a.1 4 (8 + f)) := (h.1.1.2.2.2.2.2.1 f hf).2.2.2.1
    unfold f_M_readFile_18
    by_cases hc : m ≤ t
    · rw [if_pos (n_up hc (by omega))]; exact ⟨st, rfl, h⟩
    · rw [if_neg (n_ge (by omega) (by omega)), h.1.1.1 8 (by omega)]
      simp only [if_pos h6, if_pos h20, n_to (show o < 2147483648 by omega), n_to (show f < 2147483648 by omega), h.1.1.1 15 (by omega)]
      rw [h40, h47, if_pos (n_up (by omega) (by omega))]
      exact ⟨st, rfl, h⟩
  | succ q ih =>
    intro t n st ht hn h
    obtain ⟨n, rfl⟩ : ∃ m, n = m + 1 := ⟨n - 1, by omega⟩
    have h40 : st.1 40 0 o = Int32.ofNat (a.1 3 o + t) := by
      have := (h.1.1.2.2.2.1 o ho).2.2.1
      rw [this, aN_of, if_pos ⟨rfl, rfl⟩]
    have h47 : st.1 47 0 f = Int32.ofNat (a.1 4 (8 + f)) := (h.1.1.2.2.2.2.2.1 f hf).2.2.2.1
    have h48 : st.1 48 0 (64 * f + (a.1 3 o + t)) = a.2.2.1.2 (8 + f) (a.1 3 o + t) := (h.1.1.2.2.2.2.2.1 f hf).2.2.2.2 (a.1 3 o + t) (show a.1 3 o + t < a.1 4 (8 + f) by omega)
    have ht' := m_take (t := t) (y := a.2.2.1.2 (8 + f) (a.1 3 o + t)) h.1.1 hi (by omega) (fun z => by subst z; exact aJ_i)
    rw [show (aN (aJ a i (z_gs (a.2.2.1.2 (8 + f)) (a.1 3 o) t 0)) 3 o (a.1 3 o + t)).2.2.1.1 i = z_gs (a.2.2.1.2 (8 + f)) (a.1 3 o) t 0 from aJ_i, ← z_gs_s] at ht'
    have h2 := RY_ps (o := o) (v := a.1 3 o + (t + 1)) (RY_j (i := i) (v := z_gs (a.2.2.1.2 (8 + f)) (a.1 3 o) (t + 1) 0) h) ho
    have he : aN (aJ (aN (aJ a i (z_gs (a.2.2.1.2 (8 + f)) (a.1 3 o) t 0)) 3 o (a.1 3 o + t)) i (z_gs (a.2.2.1.2 (8 + f)) (a.1 3 o) (t + 1) 0)) 3 o (a.1 3 o + (t + 1)) = aN (aJ a i (z_gs (a.2.2.1.2 (8 + f)) (a.1 3 o) (t + 1) 0)) 3 o (a.1 3 o + (t + 1)) := by
      rw [show aJ (aN (aJ a i (z_gs (a.2.2.1.2 (8 + f)) (a.1 3 o) t 0)) 3 o (a.1 3 o + t)) i (z_gs (a.2.2.1.2 (8 + f)) (a.1 3 o) (t + 1) 0) = aN (aJ (aJ a i (z_gs (a.2.2.1.2 (8 + f)) (a.1 3 o) t 0)) i (z_gs (a.2.2.1.2 (8 + f)) (a.1 3 o) (t + 1) 0)) 3 o (a.1 3 o + t) from rfl, aN_tw, aJ_J]
    rw [he] at h2
    unfold f_M_readFile_18
    rw [if_neg (n_ge (by omega) (by omega)), h.1.1.1 8 (by omega)]
    simp only [if_pos h6, if_pos h20, n_to (show o < 2147483648 by omega), n_to (show f < 2147483648 by omega), h.1.1.1 15 (by omega), h.1.1.1 16 (by omega)]
    rw [h40, h47, if_neg (n_ge (by omega) (by omega)), n_064, if_pos (n_in (by omega) (by omega)), n_to (by omega), h48, ht']
    dsimp only
    rw [show (xsJ st 37 0 i (z_gs (a.2.2.1.2 (8 + f)) (a.1 3 o) (t + 1) 0)).2.2.1 32 0 8 = some 0 from h.1.1.1 8 (by omega)]
    dsimp only
    rw [show (xsJ st 37 0 i (z_gs (a.2.2.1.2 (8 + f)) (a.1 3 o) (t + 1) 0)).1 40 0 o = Int32.ofNat (a.1 3 o + t) from h40, n_su, n_su, Nat.add_assoc]
    obtain ⟨s', g1, g2⟩ := ih (t + 1) n _ (by omega) (by omega) h2
    rw [show t + 1 + q = t + (q + 1) by omega] at g1 g2
    exact ⟨s', g1, g2⟩
theorem m_readFile {m : Nat} (h : RY c a M st) (hi : i < 8) (ho : o < 20) (hm : m ≤ 8) (hf : a.1 2 o < 6) (hl : a.1 4 (8 + a.1 2 o) ≤ 64) (hp : a.1 3 o ≤ 64) :
    ∃ s', f_M_readFile 0 (Int32.ofNat i) (Int32.ofNat o) (Int32.ofNat m) st = some (Int32.ofNat (z_nf a o m), s') ∧ RY c (aN (z_rf i (a.1 2 o) (a.1 3 o) (z_nf a o m) (aJ a i 0)) 3 o (a.1 3 o + z_nf a o m)) M s' := by
  have h20 : x_in (Int32.ofNat o) 20 := n_in (by omega) ho
  have h8 : x_in (Int32.ofNat i) 8 := n_in (by omega) hi
  unfold f_M_readFile
  rw [h.1.1.1 7 (by omega)]
  simp only [if_pos h20, if_pos h8, n_to (show o < 2147483648 by omega), n_to (show i < 2147483648 by omega), h.1.1.1 5 (by omega)]
  rw [(h.1.1.2.2.2.1 o ho).2.1]
  have h0 : RY c (aN (aJ a i (z_gs (a.2.2.1.2 (8 + a.1 2 o)) (a.1 3 o) 0 0)) 3 o (a.1 3 o + 0)) M (xsJ st 37 0 i 0) := by
    have : aN (aJ a i (z_gs (a.2.2.1.2 (8 + a.1 2 o)) (a.1 3 o) 0 0)) 3 o (a.1 3 o + 0) = aJ a i 0 := by
      refine Prod.ext (funext fun f => funext fun t => ?_) rfl
      show (if f = 3 ∧ t = o then a.1 3 o + 0 else a.1 f t) = a.1 f t
      by_cases hc : f = 3 ∧ t = o
      · rw [if_pos hc, hc.1, hc.2, Nat.add_zero]
      · rw [if_neg hc]
    rw [this]
    exact RY_j (i := i) (v := 0) h
  obtain ⟨s', g1, g2⟩ := m_readFile_18 hf hi ho hm hl hp (z_nf a o m) 0 100 _ (show 0 + z_nf a o m = _ by rw [Nat.zero_add]; rfl) (by unfold z_nf; omega) h0
  rw [Nat.zero_add] at g1 g2
  refine ⟨s', g1, ?_⟩
  rw [z_rf_x, aJ_J, aJ_i]
  exact g2
/-- the rest of what was typed moves to the front -/
theorem m_readConsole_71 {R E L : Nat} {g : Nat → Int32} (hE : E ≤ L) (hL : L ≤ 40) : ∀ q u n st, u + q = L → E ≤ u → q < n → m_S (st.2.2.1 32) → st.1 32 0 17 = Int32.ofNat L →
    (∀ j, j < L → st.1 49 0 j = if j + E < u then g (j + E) else g j) →
    ∃ s', f_M_readConsole_71 n 0 (Int32.ofNat R) (Int32.ofNat E) (Int32.ofNat u) st = some (Int32.ofNat R, s') ∧ s'.2 = st.2 ∧ (∀ q, q ≠ 32 → q ≠ 49 → s'.1 q = st.1 q) ∧ s'.1 32 = z_u (st.1 32) 0 17 (Int32.ofNat (L - E)) ∧
      (∀ j, j < L - E → s'.1 49 0 j = g (j + E)) := by
  intro q
  induction q with
  | zero =>
    intro u n st hu hmu hn hs h42 h43
    obtain ⟨n, rfl⟩ : ∃ m, n = m + 1 := ⟨n - 1, by omega⟩
    have : u = L := by omega
    subst this
    unfold f_M_readConsole_71
    rw [h42, if_pos (n_up (Nat.le_refl u) (by omega)), n_sb hE]
    refine ⟨_, rfl, rfl, fun q h1 h2 => u_I h1, u_Ie, fun j hj => ?_⟩
    rw [u_I (by omega), h43 j (by omega), if_pos (by omega)]
  | succ q ih =>
    intro u n st hu hmu hn hs h42 h43
    obtain ⟨n, rfl⟩ : ∃ m, n = m + 1 := ⟨n - 1, by omega⟩
    unfold f_M_readConsole_71
    rw [h42, if_neg (n_ge (by omega) (by omega)), hs 18 (by omega)]
    dsimp only
    rw [n_sb (show E ≤ u by omega), if_pos (n_in (by omega) (by omega)), if_pos (n_in (by omega) (by omega)), n_to (by omega), n_to (by omega), n_su, h43 u (by omega), if_neg (by omega)]
    obtain ⟨s', g1, g2, g3, g4, g5⟩ := ih (u + 1) n (xsI st 49 0 (u - E) (g u)) (by omega) (by omega) (by omega) hs (by rw [u_I (by omega)]; exact h42) (fun j hj => by
      rw [u_Ie]
      by_cases hj2 : j + E = u
      · rw [show j = u - E by omega, z_ue, if_pos (by omega), show u - E + E = u by omega]
      · rw [z_u2 (by omega), h43 j hj]
        by_cases hj3 : j + E < u
        · rw [if_pos hj3, if_pos (by omega)]
        · rw [if_neg hj3, if_neg (by omega)])
    exact ⟨s', g1, g2, fun q h1 h2 => by rw [g3 q h1 h2, u_I h2], by rw [g4, u_I (by omega)], g5⟩
theorem m_readConsole_12 {m : Nat} (hi : i < 8) (hm : m ≤ 8) (hL : a.1 4 20 ≤ 40) : ∀ q t n st, t + q = min m (a.1 4 20) → q + 1 < n → RX c (aJ a i (z_gs (a.2.2.1.2 20) 0 t 0)) M st →
    ∃ s', f_M_readConsole_12 n 0 (Int32.ofNat i) (Int32.ofNat m) (Int32.ofNat t) (Int32.ofNat t) st = f_M_readConsole_71 100 0 (Int32.ofNat (t + (z_re (a.2.2.1.2 20) t q).1)) (Int32.ofNat (t + (z_re (a.2.2.1.2 20) t q).2)) (Int32.ofNat (t + (z_re (a.2.2.1.2 20) t q).2)) s' ∧
      RX c (aJ a i (z_gs (a.2.2.1.2 20) 0 (t + (z_re (a.2.2.1.2 20) t q).1) 0)) M s' ∧ s'.1 = st.1 := by
  intro q
  induction q with
  | zero =>
    intro t n st ht hn h
    obtain ⟨n, rfl⟩ : ∃ m, n = m + 1 := ⟨n - 1, by omega⟩
    have h17 : st.1 32 0 17 = Int32.ofNat (a.1 4 20) := h.1.2.2.2.2.2.2.1.1
    unfold f_M_readConsole_12
    rw [if_pos rfl, h17]
    by_cases hc : m ≤ t
    · rw [if_pos (n_up hc (by omega))]; exact ⟨st, rfl, h, rfl⟩
    · rw [if_neg (n_ge (by omega) (by omega)), if_pos (n_up (by omega) (by omega))]; exact ⟨st, rfl, h, rfl⟩
  | succ q ih =>
    intro t n st ht hn h
    obtain ⟨n, rfl⟩ : ∃ m, n = m + 1 := ⟨n - 1, by omega⟩
    have h17 : st.1 32 0 17 = Int32.ofNat (a.1 4 20) := h.1.2.2.2.2.2.2.1.1
    have hb : st.1 49 0 t = a.2.2.1.2 20 t := h.1.2.2.2.2.2.2.1.2.1 t (show t < a.1 4 20 by omega)
    have ht' := m_take (t := t) (y := a.2.2.1.2 20 t) h.1 hi (by omega) (fun z => by subst z; exact aJ_i)
    rw [aJ_i, show z_g (z_gs (a.2.2.1.2 20) 0 t 0) (a.2.2.1.2 20 t) = z_gs (a.2.2.1.2 20) 0 (t + 1) 0 by rw [z_gs_s, Nat.zero_add]] at ht'
    have h2 := (RX_j (i := i) (v := z_gs (a.2.2.1.2 20) 0 (t + 1) 0) h).1
    rw [aJ_J] at h2
    unfold f_M_readConsole_12
    rw [if_pos rfl, h17, if_neg (n_ge (by omega) (by omega)), if_neg (n_ge (by omega) (by omega)), h.1.1 18 (by omega)]
    dsimp only
    rw [if_pos (n_in (by omega) (by omega)), n_to (by omega), hb]
    unfold z_re
    by_cases h4 : a.2.2.1.2 20 t = 4
    · rw [if_pos h4, if_pos h4, n_su]
      obtain ⟨n, rfl⟩ : ∃ m, n = m + 1 := ⟨n - 1, by omega⟩
      unfold f_M_readConsole_12
      rw [if_neg (fun z => absurd ((n_eq (by omega) (by omega)).mp z) (by omega))]
      exact ⟨st, rfl, h, rfl⟩
    · rw [if_neg h4, if_neg h4, ht']
      dsimp only
      rw [n_su]
      obtain ⟨s', g1, g2, g3⟩ := ih (t + 1) n _ (by omega) (by omega) h2
      rw [show t + 1 + (z_re (a.2.2.1.2 20) (t + 1) q).1 = t + ((z_re (a.2.2.1.2 20) (t + 1) q).1 + 1) by omega, show t + 1 + (z_re (a.2.2.1.2 20) (t + 1) q).2 = t + ((z_re (a.2.2.1.2 20) (t + 1) q).2 + 1) by omega] at g1
      rw [show t + 1 + (z_re (a.2.2.1.2 20) (t + 1) q).1 = t + ((z_re (a.2.2.1.2 20) (t + 1) q).1 + 1) by omega] at g2
      exact ⟨s', g1, g2, g3⟩
theorem RX_T_c {E : Nat} {v : Int64} {s' : XS} (h : RX c (aJ a i v) M st) (hT : Z_T i 20 E v a b) (hs : s'.2 = st.2) (h1 : ∀ q, q ≠ 32 → q ≠ 49 → s'.1 q = st.1 q)
    (h32 : s'.1 32 = z_u (st.1 32) 0 17 (Int32.ofNat (a.1 4 20 - E))) (h49 : ∀ j, j < a.1 4 20 - E → s'.1 49 0 j = a.2.2.1.2 20 (j + E)) :
    RX c b M s' ∧ (m_X a (st.1 44) (st.1 45) → m_X b (s'.1 44) (s'.1 45)) := by
  obtain ⟨t1, t2, t3, t4, t5⟩ := hT
  have hn : ∀ f t, f ≠ 4 → b.1 f t = a.1 f t := fun f t hf => by rw [t1 f t, if_neg (fun z => hf z.1)]
  have hz : ∀ s k, z_o b s k = z_o a s k := fun s k => z_o_co (fun t _ => ⟨hn 1 t (by omega), hn 2 t (by omega)⟩) s k
  refine RX_g (a := aJ a i v) h ?_ ?_ ?_ (by rw [hs]) (fun q hq => h1 q (by omega) (by omega)) (by rw [h32, z_u2 (by omega)]) (fun q _ => by rw [hs]) (fun f t h4 _ => hn f t h4) t2 (funext fun t => t3 t) t5
  · rw [h1 42 (by omega) (by omega), h1 43 (by omega) (by omega), h1 44 (by omega) (by omega)]
    intro k' hk'
    have := h.1.2.2.2.2.1 k' hk'
    rw [hz, hz, t1 4 k', if_neg (by omega)]
    exact ⟨this.1, this.2.1, fun j hj => by rw [t4, if_neg (by omega)]; exact this.2.2 j hj⟩
  · rw [h1 45 (by omega) (by omega), h1 46 (by omega) (by omega), h1 47 (by omega) (by omega), h1 48 (by omega) (by omega)]
    intro f hf
    have := h.1.2.2.2.2.2.1 f hf
    rw [hz, t1 4, if_neg (by omega), t2]
    exact ⟨this.1, this.2.1, this.2.2.1, this.2.2.2.1, fun j hj => by rw [t4, if_neg (by omega)]; exact this.2.2.2.2 j hj⟩
  · have := h.1.2.2.2.2.2.2.1
    rw [h32, h1 50 (by omega) (by omega), hs]
    unfold m_C
    rw [t1 4 20, if_pos ⟨rfl, rfl⟩, t1 4 21, if_neg (by omega), hn 5 0 (by omega), z_ue]
    exact ⟨rfl, fun j hj => by rw [t4, if_pos rfl]; exact h49 j hj, this.2.2.1, fun j hj => by rw [t4, if_neg (by omega)]; exact this.2.2.2 j hj⟩
theorem m_readConsole {m : Nat} (h : RY c a M st) (hi : i < 8) (hL : a.1 4 20 ≤ 40) (hm : m ≤ 8) :
    ∃ s', f_M_readConsole 0 (Int32.ofNat i) (Int32.ofNat m) st = some (Int32.ofNat (z_rc i (min m (a.1 4 20)) (aJ a i 0)).1, s') ∧ RY c (z_rc i (min m (a.1 4 20)) (aJ a i 0)).2 M s' := by
  have h8 : x_in (Int32.ofNat i) 8 := n_in (by omega) hi
  have hj := RY_j (i := i) (v := 0) h
  have hle := z_re_le (a.2.2.1.2 20) (min m (a.1 4 20)) 0
  obtain ⟨s1, g1, g2, g3⟩ := m_readConsole_12 (c := c) (a := a) (M := M) hi hm hL (min m (a.1 4 20)) 0 100 _ (by omega) (by omega) hj.1
  rw [Nat.zero_add, Nat.zero_add] at g1
  rw [Nat.zero_add] at g2
  obtain ⟨s2, k1, k2, k3, k4, k5⟩ := m_readConsole_71 (R := (z_re (a.2.2.1.2 20) 0 (min m (a.1 4 20))).1) (E := (z_re (a.2.2.1.2 20) 0 (min m (a.1 4 20))).2) (L := a.1 4 20) (g := a.2.2.1.2 20) (by omega) hL (a.1 4 20 - (z_re (a.2.2.1.2 20) 0 (min m (a.1 4 20))).2) (z_re (a.2.2.1.2 20) 0 (min m (a.1 4 20))).2 100 s1 (by omega) (Nat.le_refl _) (by omega) g2.1.1 g2.1.2.2.2.2.2.2.1.1 (fun j hj => by
    rw [g2.1.2.2.2.2.2.2.1.2.1 j hj]
    by_cases hq : j + (z_re (a.2.2.1.2 20) 0 (min m (a.1 4 20))).2 < (z_re (a.2.2.1.2 20) 0 (min m (a.1 4 20))).2
    · omega
    · rw [if_neg hq]; rfl)
  have hT := z_rc_x (i := i) (min m (a.1 4 20)) (aJ a i 0)
  rw [aJ_i] at hT
  have h2' : RX c (aJ (aJ a i 0) i (z_gs (a.2.2.1.2 20) 0 (z_re (a.2.2.1.2 20) 0 (min m (a.1 4 20))).1 0)) M s1 := by rw [aJ_J]; exact g2
  have hr := RX_T_c (a := aJ a i 0) h2' hT.2 k2 k3 k4 k5
  refine ⟨s2, ?_, hr.1, hr.2 ?_⟩
  · unfold f_M_readConsole
    rw [h.1.1.1 5 (by omega)]
    simp only [if_pos h8, n_to (show i < 2147483648 by omega)]
    rw [show f_M_readConsole_12 100 0 (Int32.ofNat i) (Int32.ofNat m) 0 0 (xsJ st 37 0 i 0) = _ from g1, k1, hT.1]
    rfl
  · rw [g3]; exact h.2
theorem m_waitFor {l : Nat} {x n : Int32} (h : RY c a M st) (hi : i < 8) : ∃ s', f_M_waitFor 0 (Int32.ofNat i) x n (Int32.ofNat l) st = some (-6, s') ∧ RY c (z_wt a i l x n) M s' := by
  have h8 : x_in (Int32.ofNat i) 8 := n_in (by omega) hi
  unfold f_M_waitFor
  simp only [u_RI, h.1.1.1 1 (by omega), h.1.1.1 2 (by omega), h.1.1.1 3 (by omega), if_pos h8, n_to (show i < 2147483648 by omega)]
  exact ⟨_, rfl, RY_w h⟩
theorem n_i8 (p : Int32) : (¬ p < 0 ∧ p ≤ 8) ↔ x_in p 9 := by
  rcases n_ca p 9 with ⟨i, hi, hi', rfl⟩ | hp
  · exact ⟨fun _ => n_in hi' hi, fun _ => ⟨n_ng hi', (n_le hi' (b := 8) (by omega)).mpr (by omega)⟩⟩
  · refine ⟨fun z => ?_, fun z => absurd z hp⟩
    rcases n_no (by omega) hp with h1 | ⟨h1, h2⟩
    · exact absurd h1 z.1
    · exact absurd (Int32.le_trans (show (9 : Int32) ≤ p from h2) z.2) (by decide)
theorem m_in8 (p : Int32) (st : XS) : f_M_in p 0 8 st = some (if x_in p 9 then 1 else 0) := by
  rw [m_in]
  by_cases h : x_in p 9
  · rw [if_pos h, if_pos ((n_i8 p).mpr h)]
  · rw [if_neg h, if_neg (fun z => h ((n_i8 p).mp z))]
theorem m_read (h : RM a M st) (wd : W_D a) (wo : W_O z_0 a) (wl : W_L N a) (wp : W_P a) (p d n : Int32) : z_ok (o_read a p d n) M (f_M_read 0 p d n st) := by
  have h0 := m_coX h 0
  have wk := W_K_Q (W_O_q wo)
  unfold f_M_read o_read
  rw [m_isReady h.1 wp, m_in8]
  dsimp only
  cases hr : z_r a p with
  | none =>
    dsimp only
    rw [if_pos rfl]
    have e : ∀ y', f_M_read_29 0 p d n y' 1 (some 0) st = some (0, xsI st 32 0 0 1) := fun y' => by
      unfold f_M_read_29
      dsimp only
      rw [m_f1]
      dsimp only
      rw [if_neg (c := (1 : Int32) = 0) (by decide)]
    rw [e, e, ite_self]
    exact z_ok_1 h
  | some i =>
    obtain ⟨hi, rfl, hl⟩ := z_r_so hr
    dsimp only
    rw [if_neg (c := (1 : Int32) = 0) (by decide)]
    rcases n_ca n 9 with ⟨m, hm, hm', rfl⟩ | hno
    · have h9 : x_in (Int32.ofNat m) 9 := n_in hm' hm
      rw [if_pos h9, if_pos h9, if_neg (c := (1 : Int32) = 0) (by decide)]
      unfold f_M_read_29
      dsimp only
      rw [m_f0]
      dsimp only
      rw [if_pos rfl, m_openingOf h0.1.1 hi]
      dsimp only
      cases hd : z_d a i d with
      | none => exact z_ok_0 h0
      | some o =>
        obtain ⟨j, hj, rfl, hs⟩ := z_d_so hd
        have ho := wd i hi j hj o hs
        have hk : 0 < a.1 1 o := (wo o ho).1.mpr (by have := z_h_po hi hj hs; omega)
        obtain ⟨wk1, wk2⟩ := wk o ho
        obtain ⟨w1, w2, w3, w4, w5, w6, w7⟩ := wo o ho
        obtain ⟨p1, p2, p3, p4⟩ := h0.1.1.2.2.2.1 o ho
        have h20 : x_in (Int32.ofNat o) 20 := n_in (by omega) ho
        rw [show z_e (some o) = Int32.ofNat o from rfl, if_neg (n_ng (show o < 2147483648 by omega)), h0.1.1.1 9 (by omega)]
        simp only [if_pos h20, n_to (show o < 2147483648 by omega), n_to hm']
        rw [p4]
        by_cases hb : a.2.1 2 o &&& 1 = 0
        · rw [if_pos hb, if_pos hb]; exact z_ok_0 h0
        · rw [if_neg hb, if_neg hb]
          have hw := m_waits h0.1.1 wk (fun k hk => (wl.2.1 k hk).1) ho (show m ≤ 8 by omega) true wl.2.2.2.1
          rw [show f_M_waits 0 (Int32.ofNat o) 1 (Int32.ofNat m) (xsI st 32 0 0 0) = _ from hw]
          dsimp only
          by_cases hz : z_w a o true (Int32.ofNat m) = true
          · rw [if_pos hz, if_pos hz, if_neg (c := (1 : Int32) = 0) (by decide)]
            obtain ⟨s1, g1, g2⟩ := m_waitFor (l := 2) (x := Int32.ofNat j) (n := Int32.ofNat m) h0 hi
            rw [show f_M_waitFor 0 (Int32.ofNat i) (Int32.ofNat j) (Int32.ofNat m) 2 (xsI st 32 0 0 0) = _ from g1]
            exact z_ok_0 g2
          · rw [if_neg hz, if_neg hz, if_pos rfl, h0.1.1.1 6 (by omega)]
            dsimp only
            rw [p1, h0.1.1.1 7 (by omega)]
            dsimp only
            rw [p2]
            obtain ⟨k1, k2, k3, k4⟩ := z_tke_in (a := aJ a i 0) (i := i) (n := m) wd wo wl wp ho hk
            have hcs : a.1 1 o = 1 ∨ a.1 1 o = 2 ∨ a.1 1 o = 3 ∨ a.1 1 o = 4 := by omega
            rcases hcs with hc | hc | hc | hc
            · have hw2 := wk2 (by omega)
              have hse := z_o_se (a := a) ho
              rw [hc] at hse
              obtain ⟨s1, g1, g2⟩ := m_readPipe h0 hw2 hi (fun k hk => (wl.2.1 k hk).1) (show m ≤ 8 by omega) ((h0.1.1.2.2.2.2.1 _ hw2).2.1 (by omega)).2
              have he : z_tke (aJ a i 0) i o m = (min m (a.1 4 (a.1 2 o)), z_rp i (a.1 2 o) (min m (a.1 4 (a.1 2 o))) (aJ a i 0)) := if_pos (show a.1 1 o ≤ 2 by omega)
              rw [he] at k1 k2 k3 k4 ⊢
              obtain ⟨s2, g3, g4⟩ := m_wake g2 k1 k2 k3 k4
              rw [if_pos ((n_e1 (by omega)).mpr hc), g1]
              dsimp only
              rw [g3]
              exact z_ok_0 g4
            · have := (w3 (Or.inr hc)).2
              rw [hc] at this
              rw [this] at hb
              exact absurd (by decide) hb
            · have hw2 := wk2 (by omega)
              obtain ⟨s1, g1, g2⟩ := m_readFile h0 hi ho (show m ≤ 8 by omega) hw2 (wl.2.2.1 _ hw2) w7
              have he : z_tke (aJ a i 0) i o m = (z_nf a o m, aN (z_rf i (a.1 2 o) (a.1 3 o) (z_nf a o m) (aJ a i 0)) 3 o (a.1 3 o + z_nf a o m)) := (if_neg (show ¬ a.1 1 o ≤ 2 by omega)).trans (if_pos (show a.1 1 o = 3 from hc))
              rw [he] at k1 k2 k3 k4 ⊢
              obtain ⟨s2, g3, g4⟩ := m_wake g2 k1 k2 k3 k4
              rw [if_neg (fun z => absurd ((n_e1 (by omega)).mp z) (by omega)), if_pos ((n_e3 (by omega)).mpr hc), g1]
              dsimp only
              rw [g3]
              exact z_ok_0 g4
            · obtain ⟨s1, g1, g2⟩ := m_readConsole h0 hi wl.2.2.2.1 (show m ≤ 8 by omega)
              have he : z_tke (aJ a i 0) i o m = z_rc i (min m (a.1 4 20)) (aJ a i 0) := (if_neg (show ¬ a.1 1 o ≤ 2 by omega)).trans (if_neg (show ¬ a.1 1 o = 3 by omega))
              rw [he] at k1 k2 k3 k4 ⊢
              obtain ⟨s2, g3, g4⟩ := m_wake g2 k1 k2 k3 k4
              rw [if_neg (fun z => absurd ((n_e1 (by omega)).mp z) (by omega)), if_neg (fun z => absurd ((n_e3 (by omega)).mp z) (by omega)), g1]
              dsimp only
              rw [g3]
              exact z_ok_0 g4
    · rw [if_neg hno, if_neg hno, if_pos rfl]
      unfold f_M_read_29
      dsimp only
      rw [m_f2]
      dsimp only
      rw [if_neg (c := (1 : Int32) = 0) (by decide)]
      exact z_ok_2 h
end
