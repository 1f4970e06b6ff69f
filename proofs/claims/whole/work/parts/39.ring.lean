/-! ROWS OF BYTES: pipes, typed, shown; files -/
theorem n_63 : ∀ n, n < 128 → Int32.ofNat n &&& 63 = Int32.ofNat (n % 64) := by decide +kernel
/-- the row w lies in the ring r -/
def z_q (w r : Nat) : Prop := (w < 6 ∧ r = w + 2) ∨ (w = 20 ∧ r = 0) ∨ (w = 21 ∧ r = 1)
/-- the first byte goes -/
def z_tk (a : AS) (w : Nat) : AS := aN (aB a w (fun j => a.2.2.1.2 w (j + 1))) 4 w (a.1 4 w - 1)
/-- a byte comes -/
def z_ad (a : AS) (w : Nat) (x : Int32) : AS := aN (aB a w (fun j => if j = a.1 4 w then x else a.2.2.1.2 w j)) 4 w (a.1 4 w + 1)
def z_sh (a : AS) (x : Int32) : AS := aN (if a.1 4 21 < 60 then z_ad a 21 x else z_ad (z_tk a 21) 21 x) 5 0 (a.1 5 0 + 1)
/-- a byte of a file -/
def z_pt (a : AS) (f k : Nat) (x : Int32) : AS := aN (aB a (8 + f) (fun j => if j = k then x else if a.1 4 (8 + f) ≤ j ∧ j < k then 0 else a.2.2.1.2 (8 + f) j)) 4 (8 + f) (max (a.1 4 (8 + f)) (k + 1))
theorem c_R_q {a : AS} {I J : Nat → Nat → Int32} : c_R a I J ↔ ∀ w r, z_q w r → c_G a w r I J :=
  ⟨fun h w r hq => by rcases hq with ⟨h1, rfl⟩ | ⟨rfl, rfl⟩ | ⟨rfl, rfl⟩; exact h.1 w h1; exact h.2.1; exact h.2.2,
   fun h => ⟨fun k hk => h k (k + 2) (Or.inl ⟨hk, rfl⟩), h 20 0 (Or.inr (Or.inl ⟨rfl, rfl⟩)), h 21 1 (Or.inr (Or.inr ⟨rfl, rfl⟩))⟩⟩
section
variable {e : Nat → Nat} {a : AS} {M st : XS} {i d o N w r : Nat}
theorem RC_r {b : AS} {s' : XS} (h : RC e a M st) (hR : c_R b (s'.1 5) (s'.1 12)) (hs : s'.2 = st.2) (h1 : ∀ q, q ≠ 5 → q ≠ 12 → s'.1 q = st.1 q) (hn : ∀ f t, f ≠ 4 → b.1 f t = a.1 f t)
    (hl : ∀ f, b.1 4 (8 + f) = a.1 4 (8 + f) ∨ 6 ≤ f) (hb : ∀ f j, b.2.2.1.2 (8 + f) j = a.2.2.1.2 (8 + f) j ∨ 6 ≤ f) (hi : b.2.1 = a.2.1) (hj : b.2.2.1.1 = a.2.2.1.1) (hd : b.2.2.2 = a.2.2.2) : RC e b M s' := by
  have hz : ∀ s k, z_o b s k = z_o a s k := fun s k => z_o_co (fun t _ => ⟨hn 1 t (by omega), hn 2 t (by omega)⟩) s k
  have hh : ∀ t, z_h b t = z_h a t := fun t => z_h_1 hd t
  have gr : s'.2.2.1 = st.2.2.1 := by rw [hs]
  have gj : s'.2.1 = st.2.1 := by rw [hs]
  refine ⟨by rw [gr]; exact h.1, ?_, ?_, ?_, ?_, hR, ?_, ?_, ?_⟩
  · rw [gj, h1 1 (by omega) (by omega)]; intro t ht; rw [hn 0 t (by omega), hi, hj]; exact h.2.1 t ht
  · rw [gr]; intro p hp q hq; rw [hd]; exact h.2.2.1 p hp q hq
  · rw [gr, h1 2 (by omega) (by omega)]
    intro t ht
    rw [hh, hn 1 t (by omega), hn 2 t (by omega), hn 3 t (by omega), hi]
    exact h.2.2.2.1 t ht
  · rw [h1 3 (by omega) (by omega)]; intro k hk; rw [hz, hz]; exact h.2.2.2.2.1 k hk
  · rw [h1 4 (by omega) (by omega), h1 11 (by omega) (by omega)]
    intro f hf
    rw [(hl f).resolve_right (by omega), hi, hz]
    obtain ⟨p1, p2, p3, p4⟩ := h.2.2.2.2.2.2.1 f hf
    exact ⟨p1, p2, p3, fun j hj => by rw [(hb f j).resolve_right (by omega)]; exact p4 j hj⟩
  · rw [h1 0 (by omega) (by omega)]; show _ = Int32.ofNat (b.1 5 0); rw [hn 5 0 (by omega)]; exact h.2.2.2.2.2.2.2.1
  · intro q hq; rw [gr, gj, h1 q (by omega) (by omega)]; exact h.2.2.2.2.2.2.2.2 q hq
theorem z_tk_l {t : Nat} : (z_tk a w).1 4 t = if t = w then a.1 4 w - 1 else a.1 4 t := by
  unfold z_tk; rw [aN_of]
  by_cases h : t = w
  · rw [if_pos ⟨rfl, h⟩, if_pos h]
  · rw [if_neg (fun z => h z.2), if_neg h]; rfl
theorem z_tk_b {t j : Nat} : (z_tk a w).2.2.1.2 t j = if t = w then a.2.2.1.2 w (j + 1) else a.2.2.1.2 t j := rfl
theorem z_ad_l {t : Nat} {x : Int32} : (z_ad a w x).1 4 t = if t = w then a.1 4 w + 1 else a.1 4 t := by
  unfold z_ad; rw [aN_of]
  by_cases h : t = w
  · rw [if_pos ⟨rfl, h⟩, if_pos h]
  · rw [if_neg (fun z => h z.2), if_neg h]; rfl
theorem z_ad_b {t j : Nat} {x : Int32} : (z_ad a w x).2.2.1.2 t j = if t = w then (if j = a.1 4 w then x else a.2.2.1.2 w j) else a.2.2.1.2 t j := rfl
theorem z_q_r {w' r' : Nat} (h : z_q w r) (h' : z_q w' r') (hne : w' ≠ w) : r' ≠ r := by unfold z_q at h h'; omega
theorem c_G_uu {I J : Nat → Nat → Int32} {i k k2 t : Nat} {v v2 : Int32} (hr : r ≠ i) (h : c_G a w r I J) : c_G a w r (z_u (z_u I i k v) i k2 v2) J := c_G_u hr (c_G_u hr h)
theorem c_take (h : RC e a M st) (hq : z_q w r) (hl : 0 < a.1 4 w) (hl' : a.1 4 w ≤ 64) : ∃ s', f_B_takeFirst r st = some (a.2.2.1.2 w 0, s') ∧ RC e (z_tk a w) M s' := by
  have hR := c_R_q.mp h.2.2.2.2.2.1
  obtain ⟨g1, f, hf, g2, g3⟩ := hR w r hq
  have hr : r < 8 := by unfold z_q at hq; omega
  unfold f_B_takeFirst
  rw [h.1.2.2.2.2.2.2.2.2 r hr]
  dsimp only
  rw [g2, n_su, n_63 f (by omega), n_63 (f + 1) (by omega), if_pos (n_in (by omega) (by omega)), n_to (by omega)]
  have q0 := g3 0 hl
  rw [Nat.add_zero] at q0
  rw [q0]
  refine ⟨_, rfl, RC_r h ?_ rfl (fun q h5 _ => by rw [u_I h5, u_I h5]) (fun f t hf => ?_) (fun f => ?_) (fun f j => ?_) rfl rfl rfl⟩
  · rw [u_Ie, u_Ie, u_I (by omega), u_I (by omega), z_un (by omega), g1]
    refine c_R_q.mpr (fun w' r' hq' => ?_)
    by_cases hw : w' = w
    · subst hw
      have hrr : r' = r := by unfold z_q at hq hq'; omega
      subst hrr
      unfold c_G
      rw [z_tk_l, if_pos rfl, z_ue, z_un (by omega), z_ue]
      refine ⟨n_sb (b := 1) hl, (f + 1) % 64, by omega, rfl, fun j hj => ?_⟩
      rw [z_tk_b, if_pos rfl, show ((f + 1) % 64 + j) % 64 = (f + (j + 1)) % 64 by omega]
      exact g3 (j + 1) (by omega)
    · exact c_G_uu (t := 0) (z_q_r hq hq' hw) (c_G_ln (by rw [z_tk_l, if_neg hw]) (fun j => by rw [z_tk_b, if_neg hw]) (hR w' r' hq'))
  · show (aN _ 4 w _).1 f t = _; rw [aN_of, if_neg (by omega)]; rfl
  · by_cases h6 : 6 ≤ f
    · exact Or.inr h6
    · exact Or.inl (by rw [z_tk_l, if_neg (by unfold z_q at hq; omega)])
  · by_cases h6 : 6 ≤ f
    · exact Or.inr h6
    · exact Or.inl (by rw [z_tk_b, if_neg (by unfold z_q at hq; omega)])
theorem c_add {x : Int32} (h : RC e a M st) (hq : z_q w r) (hl' : a.1 4 w < 64) : ∃ s', f_B_addLast r x st = some ((), s') ∧ RC e (z_ad a w x) M s' := by
  have hR := c_R_q.mp h.2.2.2.2.2.1
  obtain ⟨g1, f, hf, g2, g3⟩ := hR w r hq
  have hr : r < 8 := by unfold z_q at hq; omega
  unfold f_B_addLast
  rw [h.1.2.2.2.2.2.2.2.2 r hr]
  dsimp only
  rw [g2, g1, n_ad, n_63 (f + a.1 4 w) (by omega), if_pos (n_in (by omega) (by omega)), n_to (by omega)]
  refine ⟨_, rfl, RC_r h ?_ rfl (fun q h5 h12 => by rw [u_I h5, u_I h12]) (fun f t hf => ?_) (fun f => ?_) (fun f j => ?_) rfl rfl rfl⟩
  · rw [u_Ie, u_I (by omega), u_I (by omega), u_Ie, g1, n_su]
    refine c_R_q.mpr (fun w' r' hq' => ?_)
    by_cases hw : w' = w
    · subst hw
      have hrr : r' = r := by unfold z_q at hq hq'; omega
      subst hrr
      unfold c_G
      rw [z_ad_l, if_pos rfl, z_ue, z_un (by omega)]
      refine ⟨rfl, f, hf, g2, fun j hj => ?_⟩
      rw [z_ad_b, if_pos rfl]
      by_cases hjl : j = a.1 4 w'
      · rw [if_pos hjl, hjl, z_ue]
      · rw [if_neg hjl, z_un (by omega)]; exact g3 j (by omega)
    · have hrr := z_q_r hq hq' hw
      have hc := c_G_ln (b := z_ad a w x) (by rw [z_ad_l, if_neg hw]) (fun j => by rw [z_ad_b, if_neg hw]) (hR w' r' hq')
      refine c_G_u hrr ?_
      unfold c_G at hc ⊢
      refine ⟨hc.1, ?_⟩
      obtain ⟨f', k1, k2, k3⟩ := hc.2
      exact ⟨f', k1, k2, fun j hj => by rw [z_u1 hrr]; exact k3 j hj⟩
  · show (aN _ 4 w _).1 f t = _; rw [aN_of, if_neg (by omega)]; rfl
  · by_cases h6 : 6 ≤ f
    · exact Or.inr h6
    · exact Or.inl (by rw [z_ad_l, if_neg (by unfold z_q at hq; omega)])
  · by_cases h6 : 6 ≤ f
    · exact Or.inr h6
    · exact Or.inl (by rw [z_ad_b, if_neg (by unfold z_q at hq; omega)])
theorem c_byteAt {j : Nat} (h : RC e a M st) (hq : z_q w r) (hl : a.1 4 w ≤ 64) (hj : j < a.1 4 w) : f_B_byteAt r (Int32.ofNat j) st = some (a.2.2.1.2 w j) := by
  obtain ⟨g1, f, hf, g2, g3⟩ := c_R_q.mp h.2.2.2.2.2.1 w r hq
  have hr : r < 8 := by unfold z_q at hq; omega
  unfold f_B_byteAt
  rw [h.1.2.2.2.2.2.2.2.2 r hr]
  dsimp only
  rw [g2, n_ad, n_63 (f + j) (by omega), if_pos (n_in (by omega) (by omega)), n_to (by omega), g3 j hj]
theorem c_shc {v : Nat} (h : RC e a M st) : RC e (aN a 5 0 v) M (xsI st 0 0 6 (Int32.ofNat v)) := by
  refine ⟨h.1, ?_, h.2.2.1, ?_, ?_, ?_, ?_, ?_, ?_⟩
  · rw [u_I (by omega)]; exact h.2.1
  · rw [u_I (by omega)]; exact h.2.2.2.1
  · rw [u_I (by omega)]; exact h.2.2.2.2.1
  · rw [u_I (by omega), u_I (by omega)]; exact h.2.2.2.2.2.1
  · rw [u_I (by omega), u_I (by omega)]; exact h.2.2.2.2.2.2.1
  · rw [u_Ie]; show _ = Int32.ofNat ((aN a 5 0 v).1 5 0); rw [aN_of, if_pos ⟨rfl, rfl⟩]; exact z_ue
  · intro q hq; rw [u_I (by omega)]; exact h.2.2.2.2.2.2.2.2 q hq
theorem c_showByte {x : Int32} (h : RC e a M st) (hl : a.1 4 21 ≤ 60) : ∃ s', f_D_showByte 0 x st = some ((), s') ∧ RC e (z_sh a x) M s' := by
  have hq : z_q 21 1 := Or.inr (Or.inr ⟨rfl, rfl⟩)
  unfold f_D_showByte z_sh
  rw [h.1.1.2.2.2.2.2]
  dsimp only
  rw [h.2.2.2.2.2.1.2.2.1]
  by_cases h60 : a.1 4 21 < 60
  · rw [if_pos (show Int32.ofNat (a.1 4 21) < 60 from (n_lt (b := 60) (by omega) (by omega)).mpr h60), if_pos h60]
    obtain ⟨s1, g1, g2⟩ := c_add (x := x) h hq (by omega)
    rw [g1]
    dsimp only
    rw [g2.2.2.2.2.2.2.2.1, n_su]
    exact ⟨_, rfl, c_shc g2⟩
  · rw [if_neg (show ¬ Int32.ofNat (a.1 4 21) < 60 from fun z => h60 ((n_lt (b := 60) (by omega) (by omega)).mp z)), if_neg h60]
    obtain ⟨s1, g1, g2⟩ := c_take h hq (by omega) (by omega)
    rw [g1]
    dsimp only
    rw [g2.1.1.2.2.2.2.2]
    dsimp only
    obtain ⟨s2, k1, k2⟩ := c_add (x := x) g2 hq (by rw [z_tk_l, if_pos rfl]; omega)
    rw [k1]
    dsimp only
    rw [k2.2.2.2.2.2.2.2.1, n_su]
    exact ⟨_, rfl, c_shc k2⟩
end
