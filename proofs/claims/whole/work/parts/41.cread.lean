/-! THE CLASS: read and write -/
theorem n_sn : ∀ l, l < 65 → ∀ p, p < 65 → l < p → (Int32.ofNat l - Int32.ofNat p) < 0 := by decide +kernel
def z_tke (a : AS) (i o n : Nat) : Nat × AS := if a.1 1 o ≤ 2 then (min n (a.1 4 (a.1 2 o)), z_rp i (a.1 2 o) (min n (a.1 4 (a.1 2 o))) a) else
  if a.1 1 o = 3 then (z_nf a o n, aN (z_rf i (a.1 2 o) (a.1 3 o) (z_nf a o n) a) 3 o (a.1 3 o + z_nf a o n)) else z_rc i (min n (a.1 4 20)) a
/-- the same but for what was given and for rows that grow shorter -/
def Z_E (a b : AS) : Prop := (∀ f t, f ≠ 4 → b.1 f t = a.1 f t) ∧ b.2.1 = a.2.1 ∧ b.2.2.2 = a.2.2.2 ∧ (∀ t, b.1 4 t ≤ a.1 4 t) ∧ b.1 4 21 = a.1 4 21
section
variable {e : Nat → Nat} {a b : AS} {M st : XS} {i d o N w r : Nat}
theorem Z_E_r : Z_E a a := ⟨fun _ _ _ => rfl, rfl, rfl, fun _ => Nat.le_refl _, rfl⟩
theorem Z_E_t {c : AS} (h : Z_E a b) (h' : Z_E b c) : Z_E a c :=
  ⟨fun f t hf => (h'.1 f t hf).trans (h.1 f t hf), h'.2.1.trans h.2.1, h'.2.2.1.trans h.2.2.1, fun t => Nat.le_trans (h'.2.2.2.1 t) (h.2.2.2.1 t), h'.2.2.2.2.trans h.2.2.2.2⟩
theorem Z_E_k (hw : w ≠ 21) : Z_E a (z_tk a w) := ⟨fun f t hf => z_tk_n hf, rfl, rfl, fun t => by rw [z_tk_l]; split; (rename_i h; subst h; omega); omega, by rw [z_tk_l, if_neg (by omega)]⟩
theorem Z_E_g {x : Int32} : Z_E a (z_gb a i x) := ⟨fun _ _ _ => rfl, rfl, rfl, fun _ => Nat.le_refl _, rfl⟩
theorem Z_E_j {x : Int64} : Z_E a (aJ a i x) := ⟨fun _ _ _ => rfl, rfl, rfl, fun _ => Nat.le_refl _, rfl⟩
theorem Z_E_rp (hw : w ≠ 21) (m : Nat) : ∀ a, Z_E a (z_rp i w m a) := by
  induction m with
  | zero => intro a; exact Z_E_r
  | succ m ih => intro a; exact Z_E_t (Z_E_t (Z_E_k hw) Z_E_g) (ih _)
theorem Z_E_rc (m : Nat) : ∀ a, Z_E a (z_rc i m a).2 := by
  induction m with
  | zero => intro a; exact Z_E_r
  | succ m ih =>
    intro a
    unfold z_rc
    split
    · exact Z_E_k (by omega)
    · exact Z_E_t (Z_E_t (Z_E_k (by omega)) Z_E_g) (ih _)
theorem Z_E_rf {f : Nat} (m : Nat) : ∀ p a, Z_E a (z_rf i f p m a) := by
  induction m with
  | zero => intro p a; exact Z_E_r
  | succ m ih => intro p a; exact Z_E_t Z_E_g (ih _ _)
theorem Z_E_o (h : Z_E a b) (s k : Nat) : z_o b s k = z_o a s k := z_o_co (fun t _ => ⟨h.1 1 t (by omega), h.1 2 t (by omega)⟩) s k
theorem Z_E_D (h : Z_E a b) (wd : W_D a) : W_D b := by unfold W_D; rw [h.2.2.1]; exact wd
theorem Z_E_O (h : Z_E a b) (wo : W_O e a) : W_O e b := by
  intro t ht
  rw [h.1 1 t (by omega), h.1 2 t (by omega), h.1 3 t (by omega), h.2.1, z_h_1 h.2.2.1]
  exact wo t ht
theorem Z_E_L (h : Z_E a b) (wl : W_L N a) : W_L N b := by
  refine ⟨by rw [h.2.1]; exact wl.1, fun k hk => ?_, fun f hf => ?_, ?_, ?_, ?_⟩
  · rw [Z_E_o h, Z_E_o h]
    have := h.2.2.2.1 k
    have q := wl.2.1 k hk
    exact ⟨by omega, fun z => by have := q.2 z; omega⟩
  · have := h.2.2.2.1 (8 + f); have := wl.2.2.1 f hf; omega
  · have := h.2.2.2.1 20; have := wl.2.2.2.1; omega
  · rw [h.2.2.2.2, h.1 5 0 (by omega)]; exact wl.2.2.2.2.1
  · rw [h.1 5 0 (by omega)]; exact wl.2.2.2.2.2
theorem Z_E_P (h : Z_E a b) (wp : W_P a) : W_P b := by
  intro t ht
  rw [h.1 0 t (by omega), h.2.1, h.2.2.1]
  exact wp t ht
theorem z_nf_le {n : Nat} (wo : W_O e a) (wl : W_L N a) (ho : o < 20) (hf : a.1 2 o < 6) : a.1 3 o + z_nf a o n ≤ 64 := by
  unfold z_nf
  have h1 := (wo o ho).2.2.2.2.2.2
  have h2 := wl.2.2.1 _ hf
  omega
theorem W_O_p {v : Nat} (wo : W_O e a) (hv : v ≤ 64) (h3 : a.1 1 o = 3) : W_O e (aN a 3 o v) := by
  intro t ht
  obtain ⟨w1, w2, w3, w4, w5, w6, w7⟩ := wo t ht
  refine ⟨w1, w2, w3, w4, w5, fun hk hn => ?_, ?_⟩
  · rw [aN_of]
    by_cases hto : t = o
    · subst hto; exact absurd h3 hn
    · rw [if_neg (fun z => hto z.2)]; exact w6 hk hn
  · rw [aN_of]
    by_cases hto : t = o
    · rw [if_pos ⟨rfl, hto⟩]; exact hv
    · rw [if_neg (fun z => hto z.2)]; exact w7
theorem z_tke_in {n : Nat} (wd : W_D a) (wo : W_O e a) (wl : W_L N a) (wp : W_P a) (ho : o < 20) (hk : 0 < a.1 1 o) :
    W_D (z_tke a i o n).2 ∧ W_O e (z_tke a i o n).2 ∧ W_L N (z_tke a i o n).2 ∧ W_P (z_tke a i o n).2 := by
  obtain ⟨w1, w2, w3, w4, w5, w6, w7⟩ := wo o ho
  unfold z_tke
  by_cases h2 : a.1 1 o ≤ 2
  · rw [if_pos h2]
    have := (w3 (by omega)).1
    have q := Z_E_rp (i := i) (w := a.1 2 o) (by omega) (min n (a.1 4 (a.1 2 o))) a
    exact ⟨Z_E_D q wd, Z_E_O q wo, Z_E_L q wl, Z_E_P q wp⟩
  · rw [if_neg h2]
    by_cases h3 : a.1 1 o = 3
    · rw [if_pos h3]
      have q := Z_E_rf (i := i) (f := a.1 2 o) (z_nf a o n) (a.1 3 o) a
      have k1 := Z_E_D q wd
      have k2 := Z_E_L q wl
      have k3 := Z_E_P q wp
      exact ⟨k1, W_O_p (Z_E_O q wo) (z_nf_le wo wl ho (w4 h3)) (by rw [q.1 1 o (by omega)]; exact h3), k2, k3⟩
    · rw [if_neg h3]
      have q := Z_E_rc (i := i) (min n (a.1 4 20)) a
      exact ⟨Z_E_D q wd, Z_E_O q wo, Z_E_L q wl, Z_E_P q wp⟩
theorem c_takeFromFile {m : Nat} (h : RC e a M st) (wo : W_O e a) (wl : W_L N a) (ho : o < 20) (hk : 0 < a.1 1 o) (hf : a.1 2 o < 6) (hi : i < 8) (hi' : 0 < a.1 0 i) (hm : m ≤ 8) :
    ∃ s', f_D_takeFromFile (some i) (some o) (some (a.1 2 o)) (Int32.ofNat m) st = some (Int32.ofNat (z_nf a o m), s') ∧ RC e (aN (z_rf i (a.1 2 o) (a.1 3 o) (z_nf a o m) a) 3 o (a.1 3 o + z_nf a o m)) M s' := by
  have h7 := (wo o ho).2.2.2.2.2.2
  have hl := wl.2.2.1 _ hf
  unfold f_D_takeFromFile
  dsimp only
  rw [(h.2.2.2.2.2.2.1 _ hf).1, ((h.2.2.2.1 o ho).2 hk).2.1]
  have hmm : (match f_Math_min (Int32.ofNat m) (Int32.ofNat (a.1 4 (8 + a.1 2 o)) - Int32.ofNat (a.1 3 o)) st with | none => none | some v22 => f_Math_max 0 v22 st) = some (Int32.ofNat (z_nf a o m)) := by
    unfold z_nf
    by_cases hc : a.1 3 o ≤ a.1 4 (8 + a.1 2 o)
    · rw [n_sb hc, n_mn (by omega) (by omega)]
      dsimp only
      exact (n_mx (x := 0) (by omega) (by omega) st).trans (by rw [Nat.max_eq_right (by omega)])
    · have hs := n_sn _ (show a.1 4 (8 + a.1 2 o) < 65 by omega) _ (show a.1 3 o < 65 by omega) (by omega)
      unfold f_Math_min f_Math_max
      rw [if_pos (Int32.lt_of_lt_of_le hs (n_up (k := 0) (by omega) (by omega)))]
      dsimp only
      rw [if_neg (fun z => absurd (Int32.lt_trans z hs) (by decide)), show a.1 4 (8 + a.1 2 o) - a.1 3 o = 0 by omega, show min m 0 = 0 by omega]
      rfl
  revert hmm
  cases hq : f_Math_min (Int32.ofNat m) (Int32.ofNat (a.1 4 (8 + a.1 2 o)) - Int32.ofNat (a.1 3 o)) st with
  | none => intro z; exact nomatch z
  | some v =>
    dsimp only
    intro hmm
    rw [hmm]
    dsimp only
    have := c_takeFromFile_22 (e := e) (M := M) hf hi ho (z_nf a o m) 0 100 a st (by unfold z_nf; omega) (by unfold z_nf; omega) (by unfold z_nf; omega) hl h7 hi' hk h
    rw [Nat.zero_add, Nat.add_zero] at this
    exact this
theorem c_takes {m : Nat} (h : RC e a M st) (wo : W_O e a) (wl : W_L N a) (ho : o < 20) (hk : 0 < a.1 1 o) (hi : i < 8) (hi' : 0 < a.1 0 i) (hm : m ≤ 8) :
    ∃ s', f_D_take 0 (some i) (some o) (Int32.ofNat m) st = some (Int32.ofNat (z_tke a i o m).1, s') ∧ RC e (z_tke a i o m).2 M s' := by
  unfold f_D_take z_tke
  rcases c_kind h wo ho hk with ⟨hc, hf, h3, hr, p3, p4⟩ | ⟨hc, hf, h3, hr, p3, p4⟩ | ⟨hc, hf, h3, p3, p4⟩ | ⟨hc, h3, hr, p3, p4⟩
  · dsimp only
    rw [p3, if_pos (by omega)]
    dsimp only
    obtain ⟨s', g1, g2⟩ := c_takeFromPipe h hf hi (wl.2.1 _ hf).1 hi' hm
    rw [g1]
    exact ⟨_, rfl, g2⟩
  · dsimp only
    rw [p3, if_pos (by omega)]
    dsimp only
    obtain ⟨s', g1, g2⟩ := c_takeFromPipe h hf hi (wl.2.1 _ hf).1 hi' hm
    rw [g1]
    exact ⟨_, rfl, g2⟩
  · dsimp only
    rw [p3, p4, if_neg (by omega), if_pos hc]
    dsimp only
    obtain ⟨s', g1, g2⟩ := c_takeFromFile h wo wl ho hk hf hi hi' hm
    rw [g1]
    exact ⟨_, rfl, g2⟩
  · dsimp only
    rw [p3, p4, if_neg (by omega), if_neg (by omega)]
    dsimp only
    obtain ⟨s', g1, g2⟩ := c_takeFromConsole h hi wl.2.2.2.1 hi' hm
    rw [g1]
    exact ⟨_, rfl, g2⟩
/-- code and value, as the class answers -/
def z_ret (c v : Int32) : Int32 ⊕ String := if c = 0 then .inl v else if c = 1 then .inr "java/lang/IllegalStateException" else .inr "java/lang/IllegalArgumentException"
def o_read (a : AS) (p d n : Int32) : Int32 × Int32 × AS := match z_r a p with
  | none => (1, 0, a)
  | some i => if x_in n 9 then (match z_d a i d with
    | none => (0, -1, a)
    | some o => if a.2.1 2 o &&& 1 = 0 then (0, -1, a) else if z_w a o true n = true then (0, -6, z_wt a i 2 d n) else
        (0, Int32.ofNat (z_tke (aJ a i 0) i o n.toNatClampNeg).1, (z_k 8 0 (z_tke (aJ a i 0) i o n.toNatClampNeg).2).2)) else (2, 0, a)
theorem c_checkAmount (n : Int32) : f_D_checkAmount n st = some (if x_in n 9 then .inl () else .inr "java/lang/IllegalArgumentException") := by
  unfold f_D_checkAmount
  rcases n_ca n 9 with ⟨j, hj, hj', rfl⟩ | hp
  · rw [if_neg (n_ng hj'), if_pos (show Int32.ofNat j ≤ 8 from n_up (i := 8) (by omega) (by omega)), if_pos (n_in hj' hj)]
  · rw [if_neg hp]
    rcases n_no (by omega) hp with h1 | ⟨h1, h2⟩
    · rw [if_pos h1]
    · rw [if_neg h1, if_neg (fun z => absurd (Int32.le_trans h2 z) (by decide))]
theorem c_read (h : RC z_0 a M st) (wd : W_D a) (wo : W_O z_0 a) (wl : W_L N a) (wp : W_P a) (p d n : Int32) :
    ∃ s', f_D_read 0 p d n st = some (z_ret (o_read a p d n).1 (o_read a p d n).2.1, s') ∧ RC z_0 (o_read a p d n).2.2 M s' := by
  unfold f_D_read o_read
  rw [c_readyProc h wp p]
  cases hz : z_r a p with
  | none => exact ⟨_, rfl, h⟩
  | some i =>
    obtain ⟨hi, rfl, hl⟩ := z_r_so hz
    dsimp only
    rw [c_checkAmount n]
    by_cases hn : x_in n 9
    · rw [if_pos hn, if_pos hn]
      dsimp only
      rw [c_openingAt h hi d]
      dsimp only
      cases ho : z_d a i d with
      | none => exact ⟨_, rfl, h⟩
      | some o =>
        obtain ⟨j, hj, rfl, hs⟩ := z_d_so ho
        have hoo := wd i hi j hj o hs
        have hk : 0 < a.1 1 o := (wo o hoo).1.mpr (by have := z_h_po hi hj hs; omega)
        dsimp only
        rw [c_hindR h wo wl hoo hk n]
        dsimp only
        by_cases hr : a.2.1 2 o &&& 1 = 0
        · rw [if_pos hr, if_pos hr, if_neg (by decide)]
          exact ⟨_, rfl, h⟩
        · rw [if_neg hr, if_neg hr]
          by_cases hw : z_w a o true n = true
          · rw [if_pos hw, if_pos hw, if_pos rfl]
            unfold f_P_beWaiting
            exact ⟨_, rfl, c_wait (l := 2) h (by omega)⟩
          · rw [if_neg hw, if_neg hw, if_neg (by decide)]
            unfold f_D_read_50
            rw [if_pos rfl]
            dsimp only
            rcases n_ca n 9 with ⟨m, hm, hm', rfl⟩ | hx
            · rw [n_to hm']
              have wo' : W_O z_0 (aJ a i 0) := wo
              obtain ⟨s1, g1, g2⟩ := c_takes (c_giv (i := i) (v := 0) h) wo' wl hoo hk hi (by show 0 < a.1 0 i; omega) (m := m) (by omega)
              rw [g1]
              dsimp only
              obtain ⟨k1, k2, k3, k4⟩ := z_tke_in (i := i) (n := m) (a := aJ a i 0) wd wo' wl wp hoo hk
              obtain ⟨s2, g3, g4⟩ := c_wakeAll g2 k1 k2 k3 k4
              rw [g3]
              exact ⟨_, rfl, g4⟩
            · exact absurd hn hx
    · rw [if_neg hn, if_neg hn]
      exact ⟨_, rfl, h⟩
end
