/-! AN OPENING LOSES A HOLDER -/
theorem u_RI {st : XS} {q i k : Nat} {v : Int32} : (xsI st q i k v).2.2.1 = st.2.2.1 := rfl
theorem u_JI {st : XS} {q i k : Nat} {v : Int32} : (xsI st q i k v).2.1 = st.2.1 := rfl
theorem u_IR {st : XS} {q i k : Nat} {v : Option Nat} : (xsR st q i k v).1 = st.1 := rfl
theorem u_JR {st : XS} {q i k : Nat} {v : Option Nat} : (xsR st q i k v).2.1 = st.2.1 := rfl
theorem u_IJ {st : XS} {q i k : Nat} {v : Int64} : (xsJ st q i k v).1 = st.1 := rfl
theorem u_RJ {st : XS} {q i k : Nat} {v : Int64} : (xsJ st q i k v).2.2.1 = st.2.2.1 := rfl
theorem n_p1 (a : Nat) : Int32.ofNat (a + 1) - 1 = Int32.ofNat a := n_sb (a := a + 1) (b := 1) (by omega)
theorem c_dropEnd1 {st : XS} {k r w : Nat} (hr : st.1 3 k 1 = Int32.ofNat (r + 1)) (hw : st.1 3 k 2 = Int32.ofNat w) (hb : st.2.2.1 3 k 0 = some (k + 2)) (hr' : r ≤ 20) (hw' : w ≤ 20) :
    f_I_dropEnd k 1 st = some ((), if r + w = 0 then xsI (xsI (xsI st 3 k 1 (Int32.ofNat r)) 5 (k + 2) 1 0) 5 (k + 2) 2 0 else xsI st 3 k 1 (Int32.ofNat r)) := by
  unfold f_I_dropEnd f_I_isThere f_B_empty
  rw [if_pos rfl, hr, n_p1]
  rw [u_Ie, z_ue, z_un (by omega), hw, n_ad, u_RI, hb]
  by_cases h : r + w = 0
  · rw [if_pos ((n_l0 (by omega)).mpr h), if_pos h]; dsimp only; rw [if_pos rfl]
  · rw [if_neg (fun z => h ((n_l0 (by omega)).mp z)), if_neg h]; dsimp only; rw [if_neg (by decide)]
theorem c_dropEnd2 {st : XS} {k r w : Nat} (hr : st.1 3 k 1 = Int32.ofNat r) (hw : st.1 3 k 2 = Int32.ofNat (w + 1)) (hb : st.2.2.1 3 k 0 = some (k + 2)) (hr' : r ≤ 20) (hw' : w ≤ 20) :
    f_I_dropEnd k 2 st = some ((), if r + w = 0 then xsI (xsI (xsI st 3 k 2 (Int32.ofNat w)) 5 (k + 2) 1 0) 5 (k + 2) 2 0 else xsI st 3 k 2 (Int32.ofNat w)) := by
  unfold f_I_dropEnd f_I_isThere f_B_empty
  rw [if_neg (by decide), hw, n_p1]
  rw [u_Ie, z_ue, z_un (by omega), hr, n_ad, u_RI, hb]
  by_cases h : r + w = 0
  · rw [if_pos ((n_l0 (by omega)).mpr h), if_pos h]; dsimp only; rw [if_pos rfl]
  · rw [if_neg (fun z => h ((n_l0 (by omega)).mp z)), if_neg h]; dsimp only; rw [if_neg (by decide)]
theorem c_G_ln {a b : AS} {w r : Nat} {I J : Nat → Nat → Int32} (hl : b.1 4 w = a.1 4 w) (hb : ∀ j, b.2.2.1.2 w j = a.2.2.1.2 w j) (h : c_G a w r I J) : c_G b w r I J := by
  unfold c_G at h ⊢
  rw [hl]
  refine ⟨h.1, ?_⟩
  obtain ⟨f, h1, h2, h3⟩ := h.2
  exact ⟨f, h1, h2, fun j hj => by rw [hb]; exact h3 j hj⟩
theorem c_G_u {a : AS} {w r i k : Nat} {v : Int32} {I J : Nat → Nat → Int32} (hr : r ≠ i) (h : c_G a w r I J) : c_G a w r (z_u I i k v) J := by
  unfold c_G at h ⊢
  rw [z_un (fun z => hr z.1), z_un (fun z => hr z.1)]
  exact h
theorem z_s_lk {e : Nat → Nat} {a : AS} {k N : Nat} (hk : k < 6) (wl : W_L N a) (h1 : z_o (z_s e a) 1 k = z_o a 1 k) (h2 : z_o (z_s e a) 2 k = z_o a 2 k) : (z_s e a).1 4 k = a.1 4 k := by
  rw [z_s_ln hk, h1, h2]
  by_cases h : z_o a 1 k + z_o a 2 k = 0
  · rw [if_pos h, (wl.2.1 k hk).2 h]
  · rw [if_neg h]
section
variable {e : Nat → Nat} {a : AS} {st : XS} {o N : Nat}
theorem c_R_s {I J : Nat → Nat → Int32} (hR : c_R a I J) (wl : W_L N a) (hz : ∀ k, k < 6 → z_o (z_s e a) 1 k = z_o a 1 k ∧ z_o (z_s e a) 2 k = z_o a 2 k) : c_R (z_s e a) I J :=
  ⟨fun k hk => c_G_ln (z_s_lk hk wl (hz k hk).1 (hz k hk).2) (fun _ => rfl) (hR.1 k hk), c_G_ln (z_s_l2 (by omega)) (fun _ => rfl) hR.2.1, c_G_ln (z_s_l2 (by omega)) (fun _ => rfl) hR.2.2⟩
theorem c_F_s {I J : Nat → Nat → Int32} (hF : c_F a I J) (hz : ∀ f, f < 6 → z_o (z_s e a) 3 f = z_o a 3 f) : c_F (z_s e a) I J := by
  intro f hf
  rw [z_s_l2 (by omega), hz f hf]
  exact hF f hf
theorem c_I_s {I : Nat → Nat → Int32} (hI : c_I a I) (hz : ∀ k, k < 6 → z_o (z_s e a) 1 k = z_o a 1 k ∧ z_o (z_s e a) 2 k = z_o a 2 k) : c_I (z_s e a) I := by
  intro k hk
  rw [(hz k hk).1, (hz k hk).2]
  exact hI k hk
/-- the rings, where the pipe k may have gone -/
theorem c_R_k {I J : Nat → Nat → Int32} {k : Nat} (hk : k < 6) (hR : c_R a I J) (wl : W_L N a) (hz : ∀ t, t < 6 → t ≠ k → z_o (z_s e a) 1 t = z_o a 1 t ∧ z_o (z_s e a) 2 t = z_o a 2 t) :
    c_R (z_s e a) (if z_o (z_s e a) 1 k + z_o (z_s e a) 2 k = 0 then z_u (z_u I (k + 2) 1 0) (k + 2) 2 0 else I) J := by
  by_cases h : z_o (z_s e a) 1 k + z_o (z_s e a) 2 k = 0
  · rw [if_pos h]
    refine ⟨fun t ht => ?_, c_G_u (by omega) (c_G_u (by omega) (c_G_ln (z_s_l2 (by omega)) (fun _ => rfl) hR.2.1)), c_G_u (by omega) (c_G_u (by omega) (c_G_ln (z_s_l2 (by omega)) (fun _ => rfl) hR.2.2))⟩
    by_cases htk : t = k
    · subst htk
      have h0 : (z_s e a).1 4 t = 0 := by rw [z_s_ln hk, if_pos h]
      unfold c_G
      rw [h0]
      exact ⟨z_ue, 0, by omega, by rw [z_un (by omega), z_ue]; rfl, fun j hj => absurd hj (Nat.not_lt_zero j)⟩
    · exact c_G_u (by omega) (c_G_u (by omega) (c_G_ln (z_s_lk ht wl (hz t ht htk).1 (hz t ht htk).2) (fun _ => rfl) (hR.1 t ht)))
  · rw [if_neg h]
    refine ⟨fun t ht => ?_, c_G_ln (z_s_l2 (by omega)) (fun _ => rfl) hR.2.1, c_G_ln (z_s_l2 (by omega)) (fun _ => rfl) hR.2.2⟩
    by_cases htk : t = k
    · subst htk
      exact c_G_ln (a := a) (by rw [z_s_ln hk, if_neg h]) (fun _ => rfl) (hR.1 t ht)
    · exact c_G_ln (z_s_lk ht wl (hz t ht htk).1 (hz t ht htk).2) (fun _ => rfl) (hR.1 t ht)
theorem c_drop (hS : c_S st.2.2.1) (hO : c_O (z_1 e o) a (st.1 2) (st.2.2.1 2)) (hI : c_I a (st.1 3)) (hR : c_R a (st.1 5) (st.1 12)) (hF : c_F a (st.1 4) (st.1 11)) (wo : W_O (z_1 e o) a) (wl : W_L N a) (ho : o < 20) (he : e o ≤ 8) :
    ∃ s', f_O_drop o st = some ((), s') ∧ s'.2 = st.2 ∧ c_O e (z_s e a) (s'.1 2) (st.2.2.1 2) ∧ c_I (z_s e a) (s'.1 3) ∧ c_R (z_s e a) (s'.1 5) (s'.1 12) ∧ c_F (z_s e a) (s'.1 4) (s'.1 11) ∧ ∀ q, q ≠ 2 → q ≠ 3 → q ≠ 4 → q ≠ 5 → s'.1 q = st.1 q := by
  have h1 : z_1 e o o = e o + 1 := by unfold z_1; rw [if_pos rfl]
  have h2 : st.1 2 o 4 - 1 = Int32.ofNat (z_h a o + e o) := by rw [(hO o ho).1, h1, ← Nat.add_assoc, n_p1]
  have hle := z_h_le a o
  have hO' : c_O e (z_s e a) (z_u (st.1 2) o 4 (Int32.ofNat (z_h a o + e o))) (st.2.2.1 2) := by
    intro t ht
    refine ⟨?_, fun hk => ?_⟩
    · show z_u (st.1 2) o 4 _ t 4 = Int32.ofNat (z_h a t + e t)
      by_cases hto : t = o
      · subst hto; rw [z_ue]
      · rw [z_un (fun z => hto z.1), (hO t ht).1]; unfold z_1; rw [if_neg hto]; rfl
    · have h3 : (z_s e a).1 1 t = a.1 1 t := by
        rw [z_s_kd wo ht] at hk ⊢
        by_cases hc : t = o ∧ z_h a o + e o = 0
        · rw [if_pos hc] at hk; exact absurd hk (Nat.lt_irrefl 0)
        · rw [if_neg hc]
      rw [h3] at hk ⊢
      obtain ⟨p1, p2, p3, p4⟩ := (hO t ht).2 hk
      refine ⟨?_, ?_, p3, p4⟩
      · rw [z_un (by omega)]; exact p1
      · rw [z_un (by omega)]; exact p2
  have hkd : 0 < a.1 1 o := (wo o ho).1.mpr (by rw [h1]; omega)
  obtain ⟨p1, p2, p3, p4⟩ := (hO o ho).2 hkd
  unfold f_O_drop
  rw [h2, u_Ie, z_ue, u_RI]
  by_cases h0 : z_h a o + e o = 0
  · rw [if_pos ((n_l0 (by omega)).mpr h0), p3, p4, z_un (by omega), p1]
    have hgo := fun {s : Nat} (hs : 0 < s) (k : Nat) => z_s_go wo ho h0 hs k
    obtain ⟨w1, w2, w3, w4, w5, w6, w7⟩ := wo o ho
    have hcs : a.1 1 o = 1 ∨ a.1 1 o = 2 ∨ a.1 1 o = 3 ∨ a.1 1 o = 4 := by omega
    rcases hcs with hc | hc | hc | hc
    · have hk := (w3 (Or.inl hc)).1
      rw [(w3 (Or.inl hc)).2, hc, if_pos (by omega), if_neg (by omega)]
      dsimp only
      have g1 := hgo (s := 1) (by omega) (a.1 2 o)
      rw [if_pos ⟨hc, rfl⟩] at g1
      have g2 := hgo (s := 2) (by omega) (a.1 2 o)
      rw [if_neg (fun z => by omega)] at g2
      have l1 := z_o_le a 1 (a.1 2 o)
      have l2 := z_o_le a 2 (a.1 2 o)
      have hz : ∀ t, t < 6 → t ≠ a.1 2 o → z_o (z_s e a) 1 t = z_o a 1 t ∧ z_o (z_s e a) 2 t = z_o a 2 t := fun t _ htk => by
        have q1 := hgo (s := 1) (by omega) t
        have q2 := hgo (s := 2) (by omega) t
        rw [if_neg (fun z => htk z.2.symm)] at q1 q2
        exact ⟨q1, q2⟩
      have hd := c_dropEnd1 (st := xsI st 2 o 4 (Int32.ofNat (z_h a o + e o))) (k := a.1 2 o) (r := z_o (z_s e a) 1 (a.1 2 o)) (w := z_o (z_s e a) 2 (a.1 2 o)) (by rw [u_I (by omega), (hI _ hk).1, g1]) (by rw [u_I (by omega), (hI _ hk).2, ← g2]; rfl) (by rw [u_RI]; exact hS.2.2.2.2.2.2.1 _ hk) (by omega) (by omega)
      rw [show (Int32.ofNat 1 : Int32) = 1 from rfl, hd]
      dsimp only
      have hI' : c_I (z_s e a) (z_u (st.1 3) (a.1 2 o) 1 (Int32.ofNat (z_o (z_s e a) 1 (a.1 2 o)))) := by
        intro t ht
        by_cases htk : t = a.1 2 o
        · subst htk
          exact ⟨z_ue, by rw [z_un (by omega), (hI _ hk).2, ← g2]; rfl⟩
        · rw [z_un (fun z => htk z.1), z_un (fun z => htk z.1), (hz t ht htk).1, (hz t ht htk).2]
          exact hI t ht
      have hF' : c_F (z_s e a) (st.1 4) (st.1 11) := c_F_s hF (fun f _ => by
        have q1 := hgo (s := 3) (by omega) f
        rw [if_neg (fun z => by omega)] at q1
        exact q1)
      have hR' := c_R_k hk hR wl hz
      by_cases hdd : z_o (z_s e a) 1 (a.1 2 o) + z_o (z_s e a) 2 (a.1 2 o) = 0
      · rw [if_pos hdd] at hR' ⊢
        have p4' : (xsI (xsI (xsI (xsI st 2 o 4 (Int32.ofNat (z_h a o + e o))) 3 (a.1 2 o) 1 (Int32.ofNat (z_o (z_s e a) 1 (a.1 2 o)))) 5 (a.1 2 o + 2) 1 0) 5 (a.1 2 o + 2) 2 0).2.2.1 2 o 1 = none := by rw [hc, if_neg (by omega)] at p4; exact p4
        rw [p4']
        refine ⟨_, rfl, rfl, ?_, ?_, ?_, ?_, ?_⟩
        · rw [u_I (by omega), u_I (by omega), u_I (by omega), u_Ie]; exact hO'
        · rw [u_I (by omega), u_I (by omega), u_Ie, u_I (by omega)]; exact hI'
        · rw [u_Ie, u_Ie, u_I (by omega), u_I (by omega), u_I (by omega), u_I (by omega), u_I (by omega), u_I (by omega)]; exact hR'
        · rw [u_I (by omega), u_I (by omega), u_I (by omega), u_I (by omega), u_I (by omega), u_I (by omega), u_I (by omega), u_I (by omega)]; exact hF'
        · intro q e1 e2 e3 e4; rw [u_I e4, u_I e4, u_I e2, u_I e1]
      · rw [if_neg hdd] at hR' ⊢
        have p4' : (xsI (xsI st 2 o 4 (Int32.ofNat (z_h a o + e o))) 3 (a.1 2 o) 1 (Int32.ofNat (z_o (z_s e a) 1 (a.1 2 o)))).2.2.1 2 o 1 = none := by rw [hc, if_neg (by omega)] at p4; exact p4
        rw [p4']
        refine ⟨_, rfl, rfl, ?_, ?_, ?_, ?_, ?_⟩
        · rw [u_I (by omega), u_Ie]; exact hO'
        · rw [u_Ie, u_I (by omega)]; exact hI'
        · rw [u_I (by omega), u_I (by omega), u_I (by omega), u_I (by omega)]; exact hR'
        · rw [u_I (by omega), u_I (by omega), u_I (by omega), u_I (by omega)]; exact hF'
        · intro q e1 e2 e3 e4; rw [u_I e2, u_I e1]
    · have hk := (w3 (Or.inr hc)).1
      rw [(w3 (Or.inr hc)).2, hc, if_pos (by omega), if_neg (by omega)]
      dsimp only
      have g1 := hgo (s := 2) (by omega) (a.1 2 o)
      rw [if_pos ⟨hc, rfl⟩] at g1
      have g2 := hgo (s := 1) (by omega) (a.1 2 o)
      rw [if_neg (fun z => by omega)] at g2
      have l1 := z_o_le a 1 (a.1 2 o)
      have l2 := z_o_le a 2 (a.1 2 o)
      have hz : ∀ t, t < 6 → t ≠ a.1 2 o → z_o (z_s e a) 1 t = z_o a 1 t ∧ z_o (z_s e a) 2 t = z_o a 2 t := fun t _ htk => by
        have q1 := hgo (s := 1) (by omega) t
        have q2 := hgo (s := 2) (by omega) t
        rw [if_neg (fun z => htk z.2.symm)] at q1 q2
        exact ⟨q1, q2⟩
      have hd := c_dropEnd2 (st := xsI st 2 o 4 (Int32.ofNat (z_h a o + e o))) (k := a.1 2 o) (r := z_o (z_s e a) 1 (a.1 2 o)) (w := z_o (z_s e a) 2 (a.1 2 o)) (by rw [u_I (by omega), (hI _ hk).1, ← g2]; rfl) (by rw [u_I (by omega), (hI _ hk).2, g1]) (by rw [u_RI]; exact hS.2.2.2.2.2.2.1 _ hk) (by omega) (by omega)
      rw [show (Int32.ofNat 2 : Int32) = 2 from rfl, hd]
      dsimp only
      have hI' : c_I (z_s e a) (z_u (st.1 3) (a.1 2 o) 2 (Int32.ofNat (z_o (z_s e a) 2 (a.1 2 o)))) := by
        intro t ht
        by_cases htk : t = a.1 2 o
        · subst htk
          exact ⟨by rw [z_un (by omega), (hI _ hk).1, ← g2]; rfl, z_ue⟩
        · rw [z_un (fun z => htk z.1), z_un (fun z => htk z.1), (hz t ht htk).1, (hz t ht htk).2]
          exact hI t ht
      have hF' : c_F (z_s e a) (st.1 4) (st.1 11) := c_F_s hF (fun f _ => by
        have q1 := hgo (s := 3) (by omega) f
        rw [if_neg (fun z => by omega)] at q1
        exact q1)
      have hR' := c_R_k hk hR wl hz
      by_cases hdd : z_o (z_s e a) 1 (a.1 2 o) + z_o (z_s e a) 2 (a.1 2 o) = 0
      · rw [if_pos hdd] at hR' ⊢
        have p4' : (xsI (xsI (xsI (xsI st 2 o 4 (Int32.ofNat (z_h a o + e o))) 3 (a.1 2 o) 2 (Int32.ofNat (z_o (z_s e a) 2 (a.1 2 o)))) 5 (a.1 2 o + 2) 1 0) 5 (a.1 2 o + 2) 2 0).2.2.1 2 o 1 = none := by rw [hc, if_neg (by omega)] at p4; exact p4
        rw [p4']
        refine ⟨_, rfl, rfl, ?_, ?_, ?_, ?_, ?_⟩
        · rw [u_I (by omega), u_I (by omega), u_I (by omega), u_Ie]; exact hO'
        · rw [u_I (by omega), u_I (by omega), u_Ie, u_I (by omega)]; exact hI'
        · rw [u_Ie, u_Ie, u_I (by omega), u_I (by omega), u_I (by omega), u_I (by omega), u_I (by omega), u_I (by omega)]; exact hR'
        · rw [u_I (by omega), u_I (by omega), u_I (by omega), u_I (by omega), u_I (by omega), u_I (by omega), u_I (by omega), u_I (by omega)]; exact hF'
        · intro q e1 e2 e3 e4; rw [u_I e4, u_I e4, u_I e2, u_I e1]
      · rw [if_neg hdd] at hR' ⊢
        have p4' : (xsI (xsI st 2 o 4 (Int32.ofNat (z_h a o + e o))) 3 (a.1 2 o) 2 (Int32.ofNat (z_o (z_s e a) 2 (a.1 2 o)))).2.2.1 2 o 1 = none := by rw [hc, if_neg (by omega)] at p4; exact p4
        rw [p4']
        refine ⟨_, rfl, rfl, ?_, ?_, ?_, ?_, ?_⟩
        · rw [u_I (by omega), u_Ie]; exact hO'
        · rw [u_Ie, u_I (by omega)]; exact hI'
        · rw [u_I (by omega), u_I (by omega), u_I (by omega), u_I (by omega)]; exact hR'
        · rw [u_I (by omega), u_I (by omega), u_I (by omega), u_I (by omega)]; exact hF'
        · intro q e1 e2 e3 e4; rw [u_I e2, u_I e1]
    · have hk := w4 hc
      rw [hc, if_neg (by omega), if_pos rfl]
      dsimp only
      have g1 := hgo (s := 3) (by omega) (a.1 2 o)
      rw [if_pos ⟨hc, rfl⟩] at g1
      have hz : ∀ t, t < 6 → z_o (z_s e a) 1 t = z_o a 1 t ∧ z_o (z_s e a) 2 t = z_o a 2 t := fun t _ => by
        have q1 := hgo (s := 1) (by omega) t
        have q2 := hgo (s := 2) (by omega) t
        rw [if_neg (fun z => by omega)] at q1 q2
        exact ⟨q1, q2⟩
      rw [u_I (by omega), (hF _ hk).2.2.1, ← g1, n_p1]
      refine ⟨_, rfl, rfl, ?_, ?_, ?_, ?_, ?_⟩
      · rw [u_I (by omega), u_Ie]; exact hO'
      · rw [u_I (by omega), u_I (by omega)]; exact c_I_s hI hz
      · rw [u_I (by omega), u_I (by omega), u_I (by omega), u_I (by omega)]; exact c_R_s hR wl hz
      · rw [u_Ie, u_I (by omega), u_I (by omega), u_I (by omega)]
        intro f hf
        rw [z_s_l2 (by omega)]
        by_cases hfk : f = a.1 2 o
        · subst hfk
          rw [z_un (by omega), z_un (by omega), z_ue]
          exact ⟨(hF _ hf).1, (hF _ hf).2.1, rfl, (hF _ hf).2.2.2⟩
        · rw [z_un (fun z => hfk z.1), z_un (fun z => hfk z.1), z_un (fun z => hfk z.1)]
          have q1 := hgo (s := 3) (by omega) f
          rw [if_neg (fun z => hfk z.2.symm)] at q1
          rw [show z_o (z_s e a) 3 f = z_o a 3 f from q1]
          exact hF f hf
      · intro q e1 e2 e3 e4; rw [u_I e3, u_I e1]
    · rw [hc, if_neg (by omega), if_neg (by omega)]
      dsimp only
      have hz : ∀ s t, 0 < s → s < 4 → z_o (z_s e a) s t = z_o a s t := fun s t hs hs' => by
        have q1 := hgo (s := s) hs t
        rw [if_neg (fun z => by omega)] at q1
        exact q1
      refine ⟨_, rfl, rfl, ?_, ?_, ?_, ?_, ?_⟩
      · rw [u_Ie]; exact hO'
      · rw [u_I (by omega)]; exact c_I_s hI (fun k _ => ⟨hz 1 k (by omega) (by omega), hz 2 k (by omega) (by omega)⟩)
      · rw [u_I (by omega), u_I (by omega)]; exact c_R_s hR wl (fun k _ => ⟨hz 1 k (by omega) (by omega), hz 2 k (by omega) (by omega)⟩)
      · rw [u_I (by omega), u_I (by omega)]; exact c_F_s hF (fun k _ => hz 3 k (by omega) (by omega))
      · intro q e1 e2 e3 e4; rw [u_I e1]
  · rw [if_neg (fun z => h0 ((n_l0 (by omega)).mp z))]
    have hz := fun (s t : Nat) => z_s_kp wo (by omega) s t
    refine ⟨_, rfl, rfl, ?_, ?_, ?_, ?_, ?_⟩
    · rw [u_Ie]; exact hO'
    · rw [u_I (by omega)]; exact c_I_s hI (fun k _ => ⟨hz 1 k, hz 2 k⟩)
    · rw [u_I (by omega), u_I (by omega)]; exact c_R_s hR wl (fun k _ => ⟨hz 1 k, hz 2 k⟩)
    · rw [u_I (by omega), u_I (by omega)]; exact c_F_s hF (fun k _ => hz 3 k)
    · intro q e1 e2 e3 e4; rw [u_I e1]
end
