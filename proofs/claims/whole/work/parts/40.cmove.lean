/-! THE CLASS MOVES BYTES -/
section
variable {e : Nat → Nat} {a : AS} {M st : XS} {i d o N w r : Nat}
theorem RC_f {b : AS} {s' : XS} (h : RC e a M st) (hF : c_F b (s'.1 4) (s'.1 11)) (hs : s'.2 = st.2) (h1 : ∀ q, q ≠ 4 → q ≠ 11 → s'.1 q = st.1 q) (hn : ∀ f t, f ≠ 4 → b.1 f t = a.1 f t)
    (hl : ∀ t, t < 8 ∨ 14 ≤ t → b.1 4 t = a.1 4 t) (hb : ∀ t j, t < 8 ∨ 14 ≤ t → b.2.2.1.2 t j = a.2.2.1.2 t j) (hi : b.2.1 = a.2.1) (hj : b.2.2.1.1 = a.2.2.1.1) (hd : b.2.2.2 = a.2.2.2) : RC e b M s' := by
  have hz : ∀ s k, z_o b s k = z_o a s k := fun s k => z_o_co (fun t _ => ⟨hn 1 t (by omega), hn 2 t (by omega)⟩) s k
  have hh : ∀ t, z_h b t = z_h a t := fun t => z_h_1 hd t
  have gr : s'.2.2.1 = st.2.2.1 := by rw [hs]
  have gj : s'.2.1 = st.2.1 := by rw [hs]
  have hg : ∀ w r, w < 8 ∨ 14 ≤ w → c_G a w r (st.1 5) (st.1 12) → c_G b w r (st.1 5) (st.1 12) := fun w r hw => c_G_ln (hl w hw) (fun j => hb w j hw)
  refine ⟨by rw [gr]; exact h.1, ?_, ?_, ?_, ?_, ?_, hF, ?_, ?_⟩
  · rw [gj, h1 1 (by omega) (by omega)]; intro t ht; rw [hn 0 t (by omega), hi, hj]; exact h.2.1 t ht
  · rw [gr]; intro p hp q hq; rw [hd]; exact h.2.2.1 p hp q hq
  · rw [gr, h1 2 (by omega) (by omega)]
    intro t ht
    rw [hh, hn 1 t (by omega), hn 2 t (by omega), hn 3 t (by omega), hi]
    exact h.2.2.2.1 t ht
  · rw [h1 3 (by omega) (by omega)]; intro k hk; rw [hz, hz]; exact h.2.2.2.2.1 k hk
  · rw [h1 5 (by omega) (by omega), h1 12 (by omega) (by omega)]
    exact ⟨fun k hk => hg _ _ (by omega) (h.2.2.2.2.2.1.1 k hk), hg _ _ (by omega) h.2.2.2.2.2.1.2.1, hg _ _ (by omega) h.2.2.2.2.2.1.2.2⟩
  · rw [h1 0 (by omega) (by omega)]; show _ = Int32.ofNat (b.1 5 0); rw [hn 5 0 (by omega)]; exact h.2.2.2.2.2.2.2.1
  · intro q hq; rw [gr, gj, h1 q (by omega) (by omega)]; exact h.2.2.2.2.2.2.2.2 q hq
theorem z_pt_l {f k t : Nat} {x : Int32} : (z_pt a f k x).1 4 t = if t = 8 + f then max (a.1 4 (8 + f)) (k + 1) else a.1 4 t := by
  unfold z_pt; rw [aN_of]
  by_cases h : t = 8 + f
  · rw [if_pos ⟨rfl, h⟩, if_pos h]
  · rw [if_neg (fun z => h z.2), if_neg h]; rfl
theorem z_pt_b {f k t j : Nat} {x : Int32} : (z_pt a f k x).2.2.1.2 t j = if t = 8 + f then (if j = k then x else if a.1 4 (8 + f) ≤ j ∧ j < k then 0 else a.2.2.1.2 (8 + f) j) else a.2.2.1.2 t j := rfl
theorem z_pt_n {f k t : Nat} {x : Int32} {g : Nat} (hg : g ≠ 4) : (z_pt a f k x).1 g t = a.1 g t := by
  unfold z_pt; rw [aN_of, if_neg (fun z => hg z.1)]; rfl
theorem n_mx {x y : Nat} (hx : x < 2147483648) (hy : y < 2147483648) (s : XS) : f_Math_max (Int32.ofNat x) (Int32.ofNat y) s = some (Int32.ofNat (max x y)) := by
  unfold f_Math_max
  by_cases h : x < y
  · rw [if_pos ((n_lt hx hy).mpr h), Nat.max_eq_right (by omega)]
  · rw [if_neg (fun z => h ((n_lt hx hy).mp z)), Nat.max_eq_left (by omega)]
theorem n_mn {x y : Nat} (hx : x < 2147483648) (hy : y < 2147483648) (s : XS) : f_Math_min (Int32.ofNat x) (Int32.ofNat y) s = some (Int32.ofNat (min x y)) := by
  unfold f_Math_min
  by_cases h : y < x
  · rw [if_pos ((n_lt hy hx).mpr h), Nat.min_eq_right (by omega)]
  · rw [if_neg (fun z => h ((n_lt hy hx).mp z)), Nat.min_eq_left (by omega)]
theorem c_put_16 {f k : Nat} {x : Int32} (hf : f < 6) (hk : k < 64) (hln : a.1 4 (8 + f) ≤ 64) : ∀ m g n st, m = k - g → m < n → a.1 4 (8 + f) ≤ g → g ≤ 64 → RC e a M st → (∀ j, a.1 4 (8 + f) ≤ j → j < g → j < k → st.1 11 f j = 0) →
    ∃ s', f_F_put_16 n f (Int32.ofNat k) x (Int32.ofNat g) st = some ((), s') ∧ RC e (z_pt a f k x) M s' := by
  intro m
  induction m with
  | zero =>
    intro g n st hm hn hg hg' h hz
    obtain ⟨n, rfl⟩ : ∃ m, n = m + 1 := ⟨n - 1, by omega⟩
    have q := h.2.2.2.2.2.2.1 f hf
    unfold f_F_put_16
    rw [if_pos (n_up (by omega) (by omega)), h.1.2.2.2.2.2.2.2.1 f hf]
    dsimp only
    rw [if_pos (n_in (by omega) hk), n_to (by omega), u_I (by omega), q.1, n_su, n_mx (by omega) (by omega)]
    dsimp only
    refine ⟨_, rfl, RC_f h ?_ rfl (fun q h4 h11 => by rw [u_I h4, u_I h11]) (fun g t hg => z_pt_n hg) (fun t ht => by rw [z_pt_l, if_neg (by omega)]) (fun t j ht => by rw [z_pt_b, if_neg (by omega)]) rfl rfl rfl⟩
    rw [u_Ie, u_I (by omega), u_I (by omega), u_Ie]
    intro t ht
    have qt := h.2.2.2.2.2.2.1 t ht
    have hzo : z_o (z_pt a f k x) 3 t = z_o a 3 t := z_o_co (fun t _ => ⟨z_pt_n (by omega), z_pt_n (by omega)⟩) 3 t
    rw [hzo, z_pt_l]
    by_cases htf : t = f
    · subst htf
      rw [if_pos rfl, z_ue, z_un (by omega), z_un (by omega)]
      refine ⟨rfl, qt.2.1, qt.2.2.1, fun j hj => ?_⟩
      rw [z_pt_b, if_pos rfl]
      by_cases hjk : j = k
      · rw [if_pos hjk, hjk, z_ue]
      · rw [if_neg hjk, z_un (fun z => hjk z.2)]
        by_cases hc : a.1 4 (8 + t) ≤ j ∧ j < k
        · rw [if_pos hc]; exact hz j hc.1 (by omega) hc.2
        · rw [if_neg hc]; exact qt.2.2.2 j (by omega)
    · rw [if_neg (by omega)]
      simp only [z_u1 htf]
      refine ⟨qt.1, qt.2.1, qt.2.2.1, fun j hj => ?_⟩
      rw [z_pt_b, if_neg (by omega)]
      exact qt.2.2.2 j hj
  | succ m ih =>
    intro g n st hm hn hg hg' h hz
    obtain ⟨n, rfl⟩ : ∃ m, n = m + 1 := ⟨n - 1, by omega⟩
    unfold f_F_put_16
    rw [if_neg (n_ge (by omega) (by omega)), h.1.2.2.2.2.2.2.2.1 f hf]
    dsimp only
    rw [if_pos (n_in (by omega) (by omega)), n_to (by omega), n_su]
    refine ih (g + 1) n (xsI st 11 f g 0) (by omega) (by omega) (by omega) (by omega) (RC_f h ?_ rfl (fun q h4 h11 => by rw [u_I h11]) (fun _ _ _ => rfl) (fun _ _ => rfl) (fun _ _ _ => rfl) rfl rfl rfl) ?_
    · rw [u_I (by omega), u_Ie]
      intro t ht
      have qt := h.2.2.2.2.2.2.1 t ht
      refine ⟨qt.1, qt.2.1, qt.2.2.1, fun j hj => ?_⟩
      rw [z_un (fun z => by obtain ⟨rfl, rfl⟩ := z; omega)]
      exact qt.2.2.2 j hj
    · intro j h1 h2 h3
      rw [u_Ie]
      by_cases hjg : j = g
      · subst hjg; exact z_ue
      · rw [z_un (fun z => hjg z.2)]; exact hz j h1 (by omega) h3
theorem c_fput {f k : Nat} {x : Int32} (h : RC e a M st) (hf : f < 6) (hk : k < 64) (hln : a.1 4 (8 + f) ≤ 64) : ∃ s', f_F_put f (Int32.ofNat k) x st = some ((), s') ∧ RC e (z_pt a f k x) M s' := by
  unfold f_F_put
  rw [if_neg (n_ng (by omega)), if_pos (show Int32.ofNat k < 64 from (n_lt (b := 64) (by omega) (by omega)).mpr hk), (h.2.2.2.2.2.2.1 f hf).1]
  exact c_put_16 hf hk hln (k - a.1 4 (8 + f)) _ 100 st rfl (by omega) (Nat.le_refl _) hln h (fun j h1 h2 _ => by omega)
/-- one byte more is given -/
def z_g (v : Int64) (b : Int32) : Int64 := (v <<< ((8 : Int32).toInt64 &&& 63)) ||| b.toInt64
def z_gb (a : AS) (i : Nat) (b : Int32) : AS := aJ a i (z_g (a.2.2.1.1 i) b)
theorem c_getByte {b : Int32} (h : RC e a M st) (hi : i < 8) (hl : 0 < a.1 0 i) : ∃ s', f_P_getByte i b st = some ((), s') ∧ RC e (z_gb a i b) M s' := by
  unfold f_P_getByte
  rw [((h.2.1 i hi).2 hl).2.2]
  exact ⟨_, rfl, c_giv h⟩
def z_rp (i w : Nat) : Nat → AS → AS
  | 0, a => a
  | m + 1, a => z_rp i w m (z_gb (z_tk a w) i (a.2.2.1.2 w 0))
theorem z_tk_n {f t : Nat} (hf : f ≠ 4) : (z_tk a w).1 f t = a.1 f t := by unfold z_tk; rw [aN_of, if_neg (fun z => hf z.1)]; rfl
theorem z_ad_n {f t : Nat} {x : Int32} (hf : f ≠ 4) : (z_ad a w x).1 f t = a.1 f t := by unfold z_ad; rw [aN_of, if_neg (fun z => hf z.1)]; rfl
theorem c_takeFromPipe_15 {k : Nat} (hk : k < 6) (hi : i < 8) : ∀ m t n a st, m + t < 100 → m < n → m ≤ a.1 4 k → a.1 4 k ≤ 32 → 0 < a.1 0 i → RC e a M st →
    ∃ s', f_D_takeFromPipe_15 n (some i) (some k) (Int32.ofNat (t + m)) (Int32.ofNat t) st = some (Int32.ofNat (t + m), s') ∧ RC e (z_rp i k m a) M s' := by
  intro m
  induction m with
  | zero =>
    intro t n a st ht hn hm hl hi' h
    obtain ⟨n, rfl⟩ : ∃ m, n = m + 1 := ⟨n - 1, by omega⟩
    unfold f_D_takeFromPipe_15
    rw [if_pos (n_up (by omega) (by omega))]
    exact ⟨_, rfl, h⟩
  | succ m ih =>
    intro t n a st ht hn hm hl hi' h
    obtain ⟨n, rfl⟩ : ∃ m, n = m + 1 := ⟨n - 1, by omega⟩
    unfold f_D_takeFromPipe_15
    rw [if_neg (n_ge (by omega) (by omega))]
    dsimp only
    rw [h.1.2.2.2.2.2.2.1 k hk]
    dsimp only
    obtain ⟨s1, g1, g2⟩ := c_take (w := k) (r := k + 2) h (Or.inl ⟨hk, rfl⟩) (by omega) (by omega)
    rw [g1]
    dsimp only
    obtain ⟨s2, g3, g4⟩ := c_getByte (i := i) (b := a.2.2.1.2 k 0) g2 hi (by rw [z_tk_n (by omega)]; exact hi')
    rw [g3]
    dsimp only
    rw [n_su, show t + (m + 1) = (t + 1) + m by omega]
    exact ih (t + 1) n _ s2 (by omega) (by omega) (by show m ≤ (z_tk a k).1 4 k; rw [z_tk_l, if_pos rfl]; omega) (by show (z_tk a k).1 4 k ≤ 32; rw [z_tk_l, if_pos rfl]; omega) (by show 0 < (z_tk a k).1 0 i; rw [z_tk_n (by omega)]; exact hi') g4
theorem c_takeFromPipe {k m : Nat} (h : RC e a M st) (hk : k < 6) (hi : i < 8) (hl : a.1 4 k ≤ 32) (hi' : 0 < a.1 0 i) (hm : m ≤ 8) : ∃ s', f_D_takeFromPipe (some i) (some k) (Int32.ofNat m) st = some (Int32.ofNat (min m (a.1 4 k)), s') ∧ RC e (z_rp i k (min m (a.1 4 k)) a) M s' := by
  unfold f_D_takeFromPipe
  dsimp only
  rw [h.1.2.2.2.2.2.2.1 k hk]
  dsimp only
  rw [(h.2.2.2.2.2.1.1 k hk).1, n_mn (by omega) (by omega)]
  dsimp only
  have := c_takeFromPipe_15 (e := e) (M := M) hk hi (min m (a.1 4 k)) 0 100 a st (by omega) (by omega) (by omega) hl hi' h
  rw [Nat.zero_add] at this
  exact this
def z_rc (i : Nat) : Nat → AS → Nat × AS
  | 0, a => (0, a)
  | m + 1, a => if a.2.2.1.2 20 0 = 4 then (0, z_tk a 20) else ((z_rc i m (z_gb (z_tk a 20) i (a.2.2.1.2 20 0))).1 + 1, (z_rc i m (z_gb (z_tk a 20) i (a.2.2.1.2 20 0))).2)
theorem c_takeFromConsole_15 (hi : i < 8) : ∀ m t n a st, m + t < 100 → m < n → m ≤ a.1 4 20 → a.1 4 20 ≤ 40 → 0 < a.1 0 i → RC e a M st →
    ∃ s', f_D_takeFromConsole_15 n 0 (some i) (Int32.ofNat (t + m)) (Int32.ofNat t) st = some (Int32.ofNat (t + (z_rc i m a).1), s') ∧ RC e (z_rc i m a).2 M s' := by
  intro m
  induction m with
  | zero =>
    intro t n a st ht hn hm hl hi' h
    obtain ⟨n, rfl⟩ : ∃ m, n = m + 1 := ⟨n - 1, by omega⟩
    unfold f_D_takeFromConsole_15
    rw [if_pos (n_up (by omega) (by omega))]
    exact ⟨_, rfl, h⟩
  | succ m ih =>
    intro t n a st ht hn hm hl hi' h
    obtain ⟨n, rfl⟩ : ∃ m, n = m + 1 := ⟨n - 1, by omega⟩
    unfold f_D_takeFromConsole_15 z_rc
    rw [if_neg (n_ge (by omega) (by omega)), h.1.1.2.2.2.2.1]
    dsimp only
    obtain ⟨s1, g1, g2⟩ := c_take (w := 20) (r := 0) h (Or.inr (Or.inl ⟨rfl, rfl⟩)) (by omega) (by omega)
    rw [g1]
    dsimp only
    by_cases h4 : a.2.2.1.2 20 0 = 4
    · rw [if_pos h4, if_pos h4]
      exact ⟨_, rfl, g2⟩
    · rw [if_neg h4, if_neg h4]
      obtain ⟨s2, g3, g4⟩ := c_getByte (i := i) (b := a.2.2.1.2 20 0) g2 hi (by rw [z_tk_n (by omega)]; exact hi')
      rw [g3]
      dsimp only
      rw [n_su, show t + (m + 1) = (t + 1) + m by omega]
      obtain ⟨s3, g5, g6⟩ := ih (t + 1) n _ s2 (by omega) (by omega) (by show m ≤ (z_tk a 20).1 4 20; rw [z_tk_l, if_pos rfl]; omega) (by show (z_tk a 20).1 4 20 ≤ 40; rw [z_tk_l, if_pos rfl]; omega) (by show 0 < (z_tk a 20).1 0 i; rw [z_tk_n (by omega)]; exact hi') g4
      exact ⟨s3, by rw [g5]; congr 2; congr 1; omega, g6⟩
theorem c_takeFromConsole {m : Nat} (h : RC e a M st) (hi : i < 8) (hl : a.1 4 20 ≤ 40) (hi' : 0 < a.1 0 i) (hm : m ≤ 8) : ∃ s', f_D_takeFromConsole 0 (some i) (Int32.ofNat m) st = some (Int32.ofNat (z_rc i (min m (a.1 4 20)) a).1, s') ∧ RC e (z_rc i (min m (a.1 4 20)) a).2 M s' := by
  unfold f_D_takeFromConsole
  rw [h.1.1.2.2.2.2.1]
  dsimp only
  rw [h.2.2.2.2.2.1.2.1.1, n_mn (by omega) (by omega)]
  dsimp only
  have := c_takeFromConsole_15 (e := e) (M := M) hi (min m (a.1 4 20)) 0 100 a st (by omega) (by omega) (by omega) hl hi' h
  rw [Nat.zero_add, Nat.zero_add] at this
  exact this
/-- bytes of a file, from p on -/
def z_rf (i f : Nat) : Nat → Nat → AS → AS
  | _, 0, a => a
  | p, m + 1, a => z_rf i f (p + 1) m (z_gb a i (a.2.2.1.2 (8 + f) p))
theorem c_fbyte {f j : Nat} (h : RC e a M st) (hf : f < 6) (hj : j < a.1 4 (8 + f)) (hl : a.1 4 (8 + f) ≤ 64) : f_F_byteAt f (Int32.ofNat j) st = some (a.2.2.1.2 (8 + f) j) := by
  unfold f_F_byteAt
  rw [if_neg (n_ng (by omega)), if_neg (show ¬ ((64 : Int32) ≤ Int32.ofNat j) from n_ge (k := 64) (by omega) (by omega)), h.1.2.2.2.2.2.2.2.1 f hf]
  dsimp only
  rw [if_pos (n_in (by omega) (by omega)), n_to (by omega), (h.2.2.2.2.2.2.1 f hf).2.2.2 j hj]
theorem c_takeFromFile_22 {f : Nat} (hf : f < 6) (hi : i < 8) (ho : o < 20) : ∀ m t n a st, m + t < 100 → m < n → a.1 3 o + t + m ≤ a.1 4 (8 + f) ∨ m = 0 → a.1 4 (8 + f) ≤ 64 → a.1 3 o ≤ 64 → 0 < a.1 0 i → 0 < a.1 1 o → RC e a M st →
    ∃ s', f_D_takeFromFile_22 n (some i) (some o) (some f) (Int32.ofNat (t + m)) (Int32.ofNat t) st = some (Int32.ofNat (t + m), s') ∧ RC e (aN (z_rf i f (a.1 3 o + t) m a) 3 o (a.1 3 o + (t + m))) M s' := by
  intro m
  induction m with
  | zero =>
    intro t n a st ht hn hm hl hp hi' hk h
    obtain ⟨n, rfl⟩ : ∃ m, n = m + 1 := ⟨n - 1, by omega⟩
    unfold f_D_takeFromFile_22
    rw [if_pos (n_up (by omega) (by omega))]
    dsimp only
    rw [((h.2.2.2.1 o ho).2 hk).2.1, n_ad]
    exact ⟨_, rfl, c_pos h⟩
  | succ m ih =>
    intro t n a st ht hn hm hl hp hi' hk h
    obtain ⟨n, rfl⟩ : ∃ m, n = m + 1 := ⟨n - 1, by omega⟩
    unfold f_D_takeFromFile_22
    rw [if_neg (n_ge (by omega) (by omega))]
    dsimp only
    rw [((h.2.2.2.1 o ho).2 hk).2.1, n_ad, c_fbyte h hf (by omega) hl]
    dsimp only
    obtain ⟨s2, g3, g4⟩ := c_getByte (i := i) (b := a.2.2.1.2 (8 + f) (a.1 3 o + t)) h hi hi'
    rw [g3]
    dsimp only
    rw [n_su, show t + (m + 1) = (t + 1) + m by omega]
    obtain ⟨s3, g5, g6⟩ := ih (t + 1) n (z_gb a i (a.2.2.1.2 (8 + f) (a.1 3 o + t))) s2 (by omega) (by omega) (by show a.1 3 o + (t + 1) + m ≤ a.1 4 (8 + f) ∨ m = 0; omega) hl hp hi' hk g4
    exact ⟨s3, g5, g6⟩
/-- how many bytes a read of a file gives -/
def z_nf (a : AS) (o n : Nat) : Nat := min n (a.1 4 (8 + a.1 2 o) - a.1 3 o)
end
