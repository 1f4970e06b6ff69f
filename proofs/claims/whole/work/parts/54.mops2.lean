/-! THE REFERENCE: seek, type, open, pipe -/
section
variable {c : Int32} {a b : AS} {M st : XS} {i d o N x : Nat}
theorem m_seek_102 {s0 v : Int32} (h : RY 0 a M st) (ho : o < 20) : z_ok (z_sk2 a o s0 v) M (f_M_seek_102 0 v (Int32.ofNat o) s0.toInt64 st) := by
  unfold f_M_seek_102 z_sk2
  by_cases h0 : (lg_cmp ((s0.toInt64) + (v.toInt64)) 0) < 0
  · rw [if_pos h0, if_pos h0]; exact z_ok_0 h
  · rw [if_neg h0, if_neg h0]
    by_cases h1 : (lg_cmp ((s0.toInt64) + (v.toInt64)) 64) ≤ 0
    · rw [if_pos h1, if_pos h1]
      have h20 : x_in (Int32.ofNat o) 20 := n_in (by omega) ho
      simp only [u_RI, h.1.1.1 8 (by omega), if_pos h20, n_to (show o < 2147483648 by omega), u_Ie, z_ue]
      have := RY_ps (v := (((s0.toInt64) + (v.toInt64)).toInt32).toNatClampNeg) h ho
      rw [(n_64 h0 h1).1] at this
      exact z_ok_0 this
    · rw [if_neg h1, if_neg h1]; exact z_ok_0 h
theorem m_seek (h : RM a M st) (wd : W_D a) (wo : W_O z_0 a) (wp : W_P a) (p d v fr : Int32) : z_ok (o_seek a p d v fr) M (f_M_seek 0 p d v fr st) := by
  have h0 := m_coX h 0
  unfold f_M_seek o_seek
  rw [m_isReady h.1 wp, m_in]
  dsimp only
  cases hr : z_r a p with
  | none =>
    dsimp only
    rw [if_pos rfl]
    have e : ∀ y', f_M_seek_29 0 p d v fr y' 1 (some 0) st = some (0, xsI st 32 0 0 1) := fun y' => by
      unfold f_M_seek_29
      dsimp only
      rw [m_f1]
      dsimp only
      rw [if_neg (c := (1 : Int32) = 0) (by decide)]
    rw [e, e, ite_self]
    exact z_ok_1 h
  | some i =>
    obtain ⟨hi, rfl, hl⟩ := z_r_so hr
    dsimp only
    rw [if_neg (c := (1 : Int32) = 0) (by decide)]
    have e : f_M_seek_29 0 (Int32.ofNat i) d v fr 1 0 (some 0) st = some (0, xsI st 32 0 0 2) := by
      unfold f_M_seek_29
      dsimp only
      rw [m_f2]
      dsimp only
      rw [if_neg (c := (1 : Int32) = 0) (by decide)]
    rw [e]
    by_cases h1 : fr < 0
    · rw [if_neg (c := ¬ fr < 0 ∧ _) (fun z => z.1 h1), if_pos rfl, if_pos h1]; exact z_ok_2 h
    · rw [if_neg (c := fr < 0) h1]
      by_cases h2 : fr ≤ 2
      · rw [if_pos (c := ¬ fr < 0 ∧ _) ⟨h1, h2⟩, if_neg (c := (1 : Int32) = 0) (by decide), if_pos h2]
        unfold f_M_seek_29
        dsimp only
        rw [m_f0]
        dsimp only
        rw [if_pos rfl, m_openingOf h0.1.1 hi]
        dsimp only
        cases hd : z_d a i d with
        | none => exact z_ok_0 h0
        | some o =>
          obtain ⟨j, hj, rfl, hs⟩ := z_d_so hd
          have ho := wd i hi j hj o hs
          obtain ⟨wk1, wk2⟩ := W_K_Q (W_O_q wo) o ho
          obtain ⟨p1, p2, p3, p4⟩ := h0.1.1.2.2.2.1 o ho
          have h20 : x_in (Int32.ofNat o) 20 := n_in (by omega) ho
          rw [show z_e (some o) = Int32.ofNat o from rfl, if_neg (n_ng (show o < 2147483648 by omega)), h0.1.1.1 6 (by omega)]
          simp only [if_pos h20, n_to (show o < 2147483648 by omega)]
          rw [p1]
          by_cases h3 : a.1 1 o = 3
          · have hf := wk2 (by omega)
            rw [if_pos ((n_e3 (by omega)).mpr h3), if_pos h3, h0.1.1.1 8 (by omega), h0.1.1.1 7 (by omega)]
            dsimp only
            rw [h0.1.1.1 15 (by omega)]
            dsimp only
            rw [p2, p3, if_pos (n_in (by omega) hf), n_to (by omega), (h0.1.1.2.2.2.2.2.1 _ hf).2.2.2.1]
            by_cases f0 : fr = 0
            · rw [if_pos f0, if_pos f0]
              exact m_seek_102 (s0 := 0) h0 ho
            · rw [if_neg f0, if_neg f0]
              by_cases f1 : fr = 1
              · rw [if_pos f1, if_pos f1]; exact m_seek_102 h0 ho
              · rw [if_neg f1, if_neg f1]; exact m_seek_102 h0 ho
          · rw [if_neg (fun z => h3 ((n_e3 (by omega)).mp z)), if_neg h3]; exact z_ok_0 h0
      · rw [if_neg (c := ¬ fr < 0 ∧ _) (fun z => h2 z.2), if_pos rfl, if_neg h2]; exact z_ok_2 h
theorem RY_ty {y : Int32} (h : RY c a M st) : RY c (z_ad a 20 y) M (xsI (xsI st 49 0 (a.1 4 20) y) 32 0 17 (Int32.ofNat (a.1 4 20 + 1))) := by
  have hz : ∀ s k, z_o (z_ad a 20 y) s k = z_o a s k := fun s k => z_o_co (a := z_ad a 20 y) (b := a) (fun t _ => ⟨rfl, rfl⟩) s k
  have hg := RX_g (b := z_ad a 20 y) (s' := xsI (xsI st 49 0 (a.1 4 20) y) 32 0 17 (Int32.ofNat (a.1 4 20 + 1))) h.1 ?_ ?_ ?_ rfl (fun q hq => by rw [u_I (by omega), u_I (by omega)]) ?_ (fun q _ => rfl) (fun f t h4 _ => by show (if f = 4 ∧ t = 20 then _ else a.1 f t) = _; rw [if_neg (fun z => h4 z.1)]) rfl rfl rfl
  · exact ⟨hg.1, hg.2 h.2⟩
  · rw [u_I (by omega), u_I (by omega), u_I (by omega), u_I (by omega), u_I (by omega), u_I (by omega)]
    intro k hk
    have := h.1.1.2.2.2.2.1 k hk
    rw [hz, hz, z_ad_l, if_neg (by omega)]
    exact ⟨this.1, this.2.1, fun j hj => by rw [z_ad_b, if_neg (by omega)]; exact this.2.2 j hj⟩
  · rw [u_I (by omega), u_I (by omega), u_I (by omega), u_I (by omega), u_I (by omega), u_I (by omega), u_I (by omega), u_I (by omega)]
    intro f hf
    have := h.1.1.2.2.2.2.2.1 f hf
    rw [hz, z_ad_l, if_neg (by omega)]
    exact ⟨this.1, this.2.1, this.2.2.1, this.2.2.2.1, fun j hj => by rw [z_ad_b, if_neg (by omega)]; exact this.2.2.2.2 j hj⟩
  · have := h.1.1.2.2.2.2.2.2.1
    rw [u_Ie, u_I (by omega), u_I (by omega), u_Ie, u_I (by omega), u_I (by omega), u_JI, u_JI]
    refine ⟨?_, fun j hj => ?_, this.2.2.1, fun j hj => ?_⟩
    · rw [z_ue, z_ad_l, if_pos rfl]
    · rw [z_ad_b, if_pos rfl]
      rw [z_ad_l, if_pos rfl] at hj
      by_cases hj2 : j = a.1 4 20
      · rw [if_pos hj2, hj2, z_ue]
      · rw [if_neg hj2, z_u2 hj2]; exact this.2.1 j (by omega)
    · rw [z_ad_b, if_neg (by omega)]
      rw [z_ad_l, if_neg (by omega)] at hj
      exact this.2.2.2 j hj
  · rw [u_Ie, z_u2 (by omega), u_I (by omega)]
theorem m_type (h : RM a M st) (wd : W_D a) (wo : W_O z_0 a) (wl : W_L N a) (wp : W_P a) (y : Int32) : z_ok (o_type a y) M (f_M_type 0 y st) := by
  have h0 := m_coX h 0
  have hC := h0.1.1.2.2.2.2.2.2.1.1
  have hl := wl.2.2.2.1
  unfold f_M_type o_type z_by
  rw [m_in]
  dsimp only
  by_cases hy : ¬ y < 0 ∧ y ≤ 255
  · rw [if_pos hy, if_neg (c := (1 : Int32) = 0) (by decide), if_pos (c := decide _ = true) (decide_eq_true hy)]
    unfold f_M_type_17
    dsimp only
    rw [m_f0]
    dsimp only
    rw [if_pos rfl, hC]
    by_cases h4 : a.1 4 20 < 40
    · rw [if_neg (show ¬ Int32.ofNat (a.1 4 20) = 40 from fun z => absurd ((n_eq (b := 40) (by omega) (by omega)).mp z) (by omega)), if_pos h4, h0.1.1.1 18 (by omega)]
      dsimp only
      obtain ⟨k1, k2, k3, k4⟩ := z_ad_in (x := y) wd wo wl wp h4
      obtain ⟨s2, g3, g4⟩ := m_wake (RY_ty (y := y) h0) k1 k2 k3 k4
      rw [if_pos (n_in (by omega) h4), n_to (by omega), u_I (by omega), hC, n_su, g3]
      exact z_ok_0 g4
    · rw [if_pos (show Int32.ofNat (a.1 4 20) = 40 from (n_eq (b := 40) (by omega) (by omega)).mpr (by omega)), if_neg h4]
      exact z_ok_0 h0
  · rw [if_neg hy, if_pos rfl, if_neg (c := decide _ = true) (by rw [decide_eq_true_eq]; exact hy)]
    unfold f_M_type_17
    dsimp only
    rw [m_f1]
    dsimp only
    rw [if_neg (c := (1 : Int32) = 0) (by decide)]
    exact z_ok_1 h
theorem m_ho : ∀ n, n < 64 → decide ((¬ Int32.ofNat n < 1 ∧ Int32.ofNat n ≤ 63) ∧ ¬ (Int32.ofNat n &&& 3 ≤ 0) ∧ (Int32.ofNat n &&& 4 = 0 ∨ ¬ (Int32.ofNat n &&& 2 ≤ 0)) ∧ (Int32.ofNat n &&& 16 = 0 ∨ ¬ (Int32.ofNat n &&& 8 ≤ 0)) ∧ (Int32.ofNat n &&& 32 = 0 ∨ ¬ (Int32.ofNat n &&& 2 ≤ 0))) = z_ho n := by decide +kernel
theorem m_hw (y : Int32) : z_hw y = decide ((¬ y < 1 ∧ y ≤ 63) ∧ ¬ (y &&& 3 ≤ 0) ∧ (y &&& 4 = 0 ∨ ¬ (y &&& 2 ≤ 0)) ∧ (y &&& 16 = 0 ∨ ¬ (y &&& 8 ≤ 0)) ∧ (y &&& 32 = 0 ∨ ¬ (y &&& 2 ≤ 0))) := by
  unfold z_hw
  rcases n_ca y 64 with ⟨n, hn, hn', rfl⟩ | hx
  · rw [decide_eq_true (n_in hn' hn), Bool.true_and, n_to hn', m_ho n hn]
  · rw [decide_eq_false hx, Bool.false_and]
    symm
    apply decide_eq_false
    rintro ⟨⟨h1, h2⟩, _⟩
    rcases n_no (by omega) hx with h3 | ⟨h3, h4⟩
    · exact h1 (Int32.lt_trans h3 (by decide))
    · exact absurd (Int32.le_trans (show (64 : Int32) ≤ y from h4) h2) (by decide)
theorem m_l0 : ∀ n, n < 64 → ((Int32.ofNat n &&& 16 ≤ 0) ↔ Int32.ofNat n &&& 16 = 0) ∧ ((Int32.ofNat n &&& 32 ≤ 0) ↔ Int32.ofNat n &&& 32 = 0) := by decide +kernel
theorem m_open_h (h : RW a M st) (wp : W_P a) (p y how : Int32) : f_M_open 0 p y how st = f_M_open_76 0 p y how (if z_hw how = true then 1 else 0) (match z_r a p with | none => 1 | some _ => 0) (some 0) st := by
  have hw := m_hw how
  have hT : ((¬ how < 1 ∧ how ≤ 63) ∧ ¬ (how &&& 3 ≤ 0) ∧ (how &&& 4 = 0 ∨ ¬ (how &&& 2 ≤ 0)) ∧ (how &&& 16 = 0 ∨ ¬ (how &&& 8 ≤ 0)) ∧ (how &&& 32 = 0 ∨ ¬ (how &&& 2 ≤ 0))) → z_hw how = true := fun z => by rw [hw]; exact decide_eq_true z
  have hF : ¬ ((¬ how < 1 ∧ how ≤ 63) ∧ ¬ (how &&& 3 ≤ 0) ∧ (how &&& 4 = 0 ∨ ¬ (how &&& 2 ≤ 0)) ∧ (how &&& 16 = 0 ∨ ¬ (how &&& 8 ≤ 0)) ∧ (how &&& 32 = 0 ∨ ¬ (how &&& 2 ≤ 0))) → z_hw how = false := fun z => by rw [hw]; exact decide_eq_false z
  clear hw
  unfold f_M_open f_M_open_28 f_M_open_42
  rw [m_isReady h wp, m_in]
  dsimp only
  have key : ∀ R : Int32, (if (if ¬ how < 1 ∧ how ≤ 63 then (1 : Int32) else 0) = 0 then f_M_open_76 0 p y how 0 R (some 0) st
      else if how &&& 3 ≤ 0 then f_M_open_76 0 p y how 0 R (some 0) st
      else if how &&& 4 = 0 then (if how &&& 16 = 0 then (if how &&& 32 = 0 then f_M_open_76 0 p y how 1 R (some 0) st else if how &&& 2 ≤ 0 then f_M_open_76 0 p y how 0 R (some 0) st else f_M_open_76 0 p y how 1 R (some 0) st)
          else if how &&& 8 ≤ 0 then f_M_open_76 0 p y how 0 R (some 0) st else (if how &&& 32 = 0 then f_M_open_76 0 p y how 1 R (some 0) st else if how &&& 2 ≤ 0 then f_M_open_76 0 p y how 0 R (some 0) st else f_M_open_76 0 p y how 1 R (some 0) st))
      else if how &&& 2 ≤ 0 then f_M_open_76 0 p y how 0 R (some 0) st
      else (if how &&& 16 = 0 then (if how &&& 32 = 0 then f_M_open_76 0 p y how 1 R (some 0) st else if how &&& 2 ≤ 0 then f_M_open_76 0 p y how 0 R (some 0) st else f_M_open_76 0 p y how 1 R (some 0) st)
          else if how &&& 8 ≤ 0 then f_M_open_76 0 p y how 0 R (some 0) st else (if how &&& 32 = 0 then f_M_open_76 0 p y how 1 R (some 0) st else if how &&& 2 ≤ 0 then f_M_open_76 0 p y how 0 R (some 0) st else f_M_open_76 0 p y how 1 R (some 0) st))) = f_M_open_76 0 p y how (if z_hw how = true then 1 else 0) R (some 0) st := by
    intro R
    by_cases c0 : ¬ how < 1 ∧ how ≤ 63
    · rw [if_pos c0, if_neg (c := (1 : Int32) = 0) (by decide)]
      by_cases c1 : how &&& 3 ≤ 0
      · rw [if_pos c1, hF (fun z => z.2.1 c1)]; rfl
      · rw [if_neg c1]
        by_cases c3 : how &&& 2 ≤ 0
        · by_cases c2 : how &&& 4 = 0
          · rw [if_pos c2]
            by_cases c6 : how &&& 32 = 0
            · by_cases c4 : how &&& 16 = 0
              · rw [if_pos c4, if_pos c6, hT ⟨c0, c1, Or.inl c2, Or.inl c4, Or.inl c6⟩]; rfl
              · rw [if_neg c4]
                by_cases c5 : how &&& 8 ≤ 0
                · rw [if_pos c5, hF (fun z => z.2.2.2.1.elim c4 (fun y => y c5))]; rfl
                · rw [if_neg c5, if_pos c6, hT ⟨c0, c1, Or.inl c2, Or.inr c5, Or.inl c6⟩]; rfl
            · rw [if_neg c6, if_pos c3, ite_self, ite_self, hF (fun z => z.2.2.2.2.elim c6 (fun y => y c3))]; rfl
          · rw [if_neg c2, if_pos c3, hF (fun z => z.2.2.1.elim c2 (fun y => y c3))]; rfl
        · simp only [if_neg c3, ite_self]
          by_cases c4 : how &&& 16 = 0
          · rw [if_pos c4, hT ⟨c0, c1, Or.inr c3, Or.inl c4, Or.inr c3⟩]; rfl
          · rw [if_neg c4]
            by_cases c5 : how &&& 8 ≤ 0
            · rw [if_pos c5, hF (fun z => z.2.2.2.1.elim c4 (fun y => y c5))]; rfl
            · rw [if_neg c5, hT ⟨c0, c1, Or.inr c3, Or.inr c5, Or.inr c3⟩]; rfl
    · rw [if_neg c0, if_pos rfl, hF (fun z => c0 z.1)]; rfl
  cases z_r a p with
  | none => exact key 1
  | some i => exact key 0
theorem m_open_206 {f : Nat} {how : Int32} (h : RX 0 b M st) (wd : W_D b) (wo : ∀ t, t < 20 → b.1 1 t ≤ 4) (hi : i < 8) (hfd : z_fd b i = some d) (hfo : z_fo b = some o) (hf : f < 6) (h45 : st.1 45 0 f = 1) (hl : (how &&& 32 ≤ 0) ↔ how &&& 32 = 0) :
    ∃ s', f_M_open_206 0 (Int32.ofNat i) how (Int32.ofNat f) st = some (Int32.ofNat d, s') ∧ RX 0 (aD (z_nw (if how &&& 32 = 0 then b else aN b 4 (8 + f) 0) o 3 f (how &&& 7)) i d (some o)) M s' ∧ s'.1 44 = st.1 44 ∧ s'.1 45 = st.1 45 := by
  unfold f_M_open_206
  by_cases hc : how &&& 32 = 0
  · obtain ⟨s1, g1, g2, g3⟩ := m_newOpening (s := 3) (k := f) (r := how &&& 7) h wo hfo (by omega) (fun _ => h45)
    obtain ⟨s2, g4, g5, g6⟩ := m_give (o := o) g2 (W_D_nw (a := b) wd) hi hfd
    rw [if_pos (hl.mpr hc), if_pos hc, show f_M_newOpening 0 3 (Int32.ofNat f) (how &&& 7) st = some (Int32.ofNat o, s1) from g1]
    dsimp only
    rw [g4]
    exact ⟨s2, rfl, g5, by rw [g6 44 (by omega), g3 44 (by omega)], by rw [g6 45 (by omega), g3 45 (by omega)]⟩
  · have he := (RX_e h hf).1
    obtain ⟨s1, g1, g2, g3⟩ := m_newOpening (s := 3) (k := f) (r := how &&& 7) he wo hfo (by omega) (fun _ => by rw [u_I (by omega)]; exact h45)
    obtain ⟨s2, g4, g5, g6⟩ := m_give (o := o) g2 (W_D_nw (a := aN b 4 (8 + f) 0) wd) hi hfd
    rw [if_neg (fun z => hc (hl.mp z)), if_neg hc, h.1.1 15 (by omega)]
    dsimp only
    rw [if_pos (n_in (by omega) hf), n_to (by omega), show f_M_newOpening 0 3 (Int32.ofNat f) (how &&& 7) (xsI st 47 0 f 0) = some (Int32.ofNat o, s1) from g1]
    dsimp only
    rw [g4]
    exact ⟨s2, rfl, g5, by rw [g6 44 (by omega), g3 44 (by omega), u_I (by omega)], by rw [g6 45 (by omega), g3 45 (by omega), u_I (by omega)]⟩
theorem aI_id {f t : Nat} {v : Int32} (h : a.2.1 f t = v) : aI a f t v = a := by
  refine Prod.ext rfl (Prod.ext (funext fun g => funext fun u => ?_) rfl)
  show (if g = f ∧ u = t then v else a.2.1 g u) = a.2.1 g u
  by_cases hc : g = f ∧ u = t
  · rw [if_pos hc, hc.1, hc.2, h]
  · rw [if_neg hc]
theorem aN_tw {f t v w : Nat} : aN (aN a f t v) f t w = aN a f t w := by
  unfold aN
  dsimp only
  rw [z_u_u]
/-- an old file -/
theorem m_open_o {f : Nat} {y how : Int32} (h : RY 0 a M st) (wd : W_D a) (wk : W_K a) (hi : i < 8) (hf : f < 6) (hn : a.2.1 3 f = y) (h45 : st.1 45 0 f = 1) (hl : (how &&& 32 ≤ 0) ↔ how &&& 32 = 0) :
    z_ok (z_op2 a i y how (some f) (decide (how &&& 32 ≠ 0))) M (f_M_open_141 0 (Int32.ofNat i) y how (Int32.ofNat f) st) := by
  unfold f_M_open_141 f_M_open_171 z_op2
  rw [m_freeDescriptor h.1.1 wd hi, m_freeOpening h.1.1 (fun t ht => (wk t ht).1)]
  dsimp only
  cases hd : z_fd a i with
  | none => exact z_ok_0 h
  | some d =>
    obtain ⟨hd1, hd2⟩ := z_fd_so hd
    rw [show z_e (some d) = Int32.ofNat d from rfl, if_neg (n_ng (show d < 2147483648 by omega))]
    cases ho : z_fo a with
    | none => exact z_ok_0 h
    | some o =>
      obtain ⟨ho1, ho2⟩ := z_fo_so ho
      rw [show z_e (some o) = Int32.ofNat o from rfl, if_neg (n_ng (show o < 2147483648 by omega)), if_pos (n_u0 (show f < 2147483648 by omega)), if_pos (n_u0 (show f < 2147483648 by omega))]
      obtain ⟨s1, g1, g2, g3, g4⟩ := m_open_206 (how := how) h.1 wd (fun t ht => (wk t ht).1) hi hd ho hf h45 hl
      rw [g1]
      have he : z_op a i d o f y how (decide (how &&& 32 ≠ 0)) = aD (z_nw (if how &&& 32 = 0 then a else aN a 4 (8 + f) 0) o 3 f (how &&& 7)) i d (some o) := by
        unfold z_op
        rw [aI_id hn]
        by_cases hc : how &&& 32 = 0
        · rw [if_pos hc, if_neg (by rw [decide_eq_true_eq]; exact fun z => z hc)]
        · rw [if_neg hc, if_pos (decide_eq_true hc)]
      dsimp only
      rw [he]
      refine z_ok_0 ⟨g2, ?_⟩
      rw [g3, g4]
      by_cases hc : how &&& 32 = 0
      · rw [if_pos hc]; exact m_X_nw (s := 3) (k := f) (r := how &&& 7) h.2 ho1 ho2
      · rw [if_neg hc]; exact m_X_nw (a := aN a 4 (8 + f) 0) (s := 3) (k := f) (r := how &&& 7) h.2 ho1 ho2
/-- a new file -/
theorem m_open_n {y how : Int32} (h : RY 0 a M st) (wd : W_D a) (wk : W_K a) (hi : i < 8) (hy : y ≠ 0) (hl : (how &&& 32 ≤ 0) ↔ how &&& 32 = 0) :
    z_ok (z_op2 a i y how (z_ff a) true) M (f_M_open_141 0 (Int32.ofNat i) y how (-1) st) := by
  unfold f_M_open_141 f_M_open_171 z_op2
  rw [m_freeDescriptor h.1.1 wd hi, m_freeOpening h.1.1 (fun t ht => (wk t ht).1), m_freeFile ⟨h.1.1, h.2⟩]
  dsimp only
  cases hd : z_fd a i with
  | none => cases z_ff a <;> exact z_ok_0 h
  | some d =>
    obtain ⟨hd1, hd2⟩ := z_fd_so hd
    rw [show z_e (some d) = Int32.ofNat d from rfl, if_neg (n_ng (show d < 2147483648 by omega))]
    cases ho : z_fo a with
    | none => cases z_ff a <;> exact z_ok_0 h
    | some o =>
      obtain ⟨ho1, ho2⟩ := z_fo_so ho
      rw [show z_e (some o) = Int32.ofNat o from rfl, if_neg (n_ng (show o < 2147483648 by omega)), if_neg (c := (0 : Int32) ≤ -1) (by decide), if_neg (c := (0 : Int32) ≤ -1) (by decide)]
      cases hf0 : z_ff a with
      | none => exact z_ok_0 h
      | some f =>
        obtain ⟨hf, hf1, hf2⟩ := z_ff_so hf0
        have h6 : x_in (Int32.ofNat f) 6 := n_in (by omega) hf
        rw [show z_e (some f) = Int32.ofNat f from rfl, if_pos (n_u0 (show f < 2147483648 by omega))]
        simp only [u_RI, h.1.1.1 13 (by omega), h.1.1.1 14 (by omega), h.1.1.1 15 (by omega), if_pos h6, n_to (show f < 2147483648 by omega), b_01]
        have k1 : RX 0 (aN (aI a 3 f y) 4 (8 + f) 0) M (xsI (xsI (xsI st 45 0 f 1) 46 0 f y) 47 0 f 0) := (RX_e (RX_nm (f := f) (v := y) (RX_fl (f := f) h.1) (fun _ => by rw [u_Ie, z_ue])) hf).1
        have e44 : (xsI (xsI (xsI st 45 0 f 1) 46 0 f y) 47 0 f 0).1 44 = st.1 44 := by rw [u_I (by omega), u_I (by omega), u_I (by omega)]
        have e45 : (xsI (xsI (xsI st 45 0 f 1) 46 0 f y) 47 0 f 0).1 45 = z_u (st.1 45) 0 f 1 := by rw [u_I (by omega), u_I (by omega), u_Ie]
        obtain ⟨s1, g1, g2, g3, g4⟩ := m_open_206 (how := how) k1 wd (fun t ht => (wk t ht).1) hi hd ho hf (by rw [e45, z_ue]) hl
        rw [g1]
        have he : (if how &&& 32 = 0 then aN (aI a 3 f y) 4 (8 + f) 0 else aN (aN (aI a 3 f y) 4 (8 + f) 0) 4 (8 + f) 0) = aN (aI a 3 f y) 4 (8 + f) 0 := by rw [aN_tw, ite_self]
        rw [he] at g2
        refine z_ok_0 ⟨g2, ?_⟩
        rw [g3, g4, e44, e45]
        have hx : m_X (aN (aI a 3 f y) 4 (8 + f) 0) (st.1 44) (z_u (st.1 45) 0 f 1) := by
          refine ⟨h.2.1, fun g hg z => ?_⟩
          have he2 : (aN (aI a 3 f y) 4 (8 + f) 0).2.1 3 g = if 3 = 3 ∧ g = f then y else a.2.1 3 g := rfl
          rw [he2]
          by_cases hgf : g = f
          · rw [if_pos ⟨rfl, hgf⟩]; exact Or.inl hy
          · rw [if_neg (fun z => hgf z.2)]
            rw [z_u2 hgf] at z
            exact h.2.2 g hg z
        exact m_X_nw (s := 3) (k := f) (r := how &&& 7) hx ho1 ho2
theorem m_open (h : RM a M st) (wd : W_D a) (wo : W_O z_0 a) (wp : W_P a) (p y how : Int32) : z_ok (o_open a p y how) M (f_M_open 0 p y how st) := by
  have h0 := m_coX h 0
  have wk := W_K_Q (W_O_q wo)
  rw [m_open_h h.1 wp]
  unfold f_M_open_76 o_open
  rw [m_in9]
  dsimp only
  cases hr : z_r a p with
  | none =>
    dsimp only
    have e : ∀ y', f_M_open_96 0 p y how y' 1 (some 0) st = some (0, xsI st 32 0 0 1) := fun y' => by
      unfold f_M_open_96
      dsimp only
      rw [m_f1]
      dsimp only
      rw [if_neg (c := (1 : Int32) = 0) (by decide)]
    rw [e, e, ite_self, ite_self]
    exact z_ok_1 h
  | some i =>
    obtain ⟨hi, rfl, hl⟩ := z_r_so hr
    dsimp only
    have e : f_M_open_96 0 (Int32.ofNat i) y how 1 0 (some 0) st = some (0, xsI st 32 0 0 2) := by
      unfold f_M_open_96
      dsimp only
      rw [m_f2]
      dsimp only
      rw [if_neg (c := (1 : Int32) = 0) (by decide)]
    rw [e]
    by_cases hx : z_nm y = true
    · rw [if_pos hx, if_pos hx, if_neg (c := (1 : Int32) = 0) (by decide)]
      by_cases hh : z_hw how = true
      · rw [if_pos hh, if_pos hh, if_neg (c := (1 : Int32) = 0) (by decide)]
        have hl0 : ((how &&& 16 ≤ 0) ↔ how &&& 16 = 0) ∧ ((how &&& 32 ≤ 0) ↔ how &&& 32 = 0) := by
          rcases n_ca how 64 with ⟨n, hn, hn', rfl⟩ | hno
          · exact m_l0 n hn
          · unfold z_hw at hh; rw [decide_eq_false hno, Bool.false_and] at hh; exact nomatch hh
        unfold f_M_open_96
        dsimp only
        rw [m_f0]
        dsimp only
        rw [if_pos rfl, m_named h0.1.1 (z_nm_ne hx)]
        dsimp only
        cases hf : z_fn a y with
        | none =>
          rw [show z_e none = -1 from rfl, if_neg (c := (0 : Int32) ≤ -1) (by decide), if_pos (c := (-1 : Int32) < 0) (by decide)]
          dsimp only
          by_cases h8 : how &&& 8 = 0
          · rw [if_pos h8, if_pos h8]; exact z_ok_0 h0
          · rw [if_neg h8, if_neg h8]; exact m_open_n h0 wd wk hi (z_nm_ne hx) hl0.2
        | some f =>
          obtain ⟨hf1, hf2⟩ := z_fn_so hf
          have h45 := z_fn_e (z_nm_ne hx) h0.1.1 hf
          rw [show z_e (some f) = Int32.ofNat f from rfl, if_pos (n_u0 (show f < 2147483648 by omega)), if_neg (n_ng (show f < 2147483648 by omega))]
          dsimp only
          by_cases h16 : how &&& 16 = 0
          · rw [if_pos (hl0.1.mpr h16), if_pos h16]; exact m_open_o h0 wd wk hi hf1 hf2 h45 hl0.2
          · rw [if_neg (fun z => h16 (hl0.1.mp z)), if_neg h16]; exact z_ok_0 h0
      · rw [if_neg hh, if_neg hh, if_pos rfl]; exact z_ok_2 h
    · rw [if_neg hx, if_neg hx, if_pos rfl]; exact z_ok_2 h
theorem z_f_nx {P : Nat → Bool} {j : Nat} (k : Nat) : ∀ i, z_f P i k = some j → z_f (fun t => P t && decide (t ≠ j)) i k = z_f P (j + 1) (i + k - (j + 1)) := by
  induction k with
  | zero => intro i h; exact nomatch h
  | succ k ih =>
    intro i h
    unfold z_f at h
    rw [z_f]
    by_cases hp : P i = true
    · rw [if_pos hp] at h
      have hij : i = j := by cases h; rfl
      subst hij
      rw [if_neg (by rw [hp, Bool.true_and, decide_eq_true_eq]; exact fun z => z rfl), show i + (k + 1) - (i + 1) = k by omega]
      exact z_f_co k (i + 1) (fun t ht _ => by rw [decide_eq_true (show t ≠ i by omega), Bool.and_true])
    · rw [if_neg hp] at h
      rw [if_neg (by rw [Bool.eq_false_iff.mpr hp, Bool.false_and]; exact fun z => nomatch z), ih (i + 1) h, show i + 1 + k - (j + 1) = i + (k + 1) - (j + 1) by omega]
theorem z_c_nx {P : Nat → Bool} {j : Nat} (k : Nat) (i : Nat) (h : z_f P i k = some j) : z_c P i k = 1 + z_c (fun t => P t && decide (t ≠ j)) i k := by
  obtain ⟨h1, h2, h3, _⟩ := z_f_so k i h
  have h5 := z_c_up (P := P) (Q := fun t => P t && decide (t ≠ j)) (j := j) k i h1 h2 (fun t ht => by rw [decide_eq_true ht, Bool.and_true])
  rw [if_pos h3, if_neg (by rw [h3, Bool.true_and, decide_eq_true_eq]; exact fun z => z rfl)] at h5
  omega
theorem z_c_no {P : Nat → Bool} (k : Nat) (i : Nat) (h : z_f P i k = none) : z_c P i k = 0 := by
  by_cases h0 : 0 < z_c P i k
  · obtain ⟨j, h1, h2, h3⟩ := (z_c_ps k i).mp h0
    rw [z_f_no k i h j h1 h2] at h3
    exact nomatch h3
  · omega
theorem z_c_yes {P : Nat → Bool} {j : Nat} (k : Nat) (i : Nat) (h : z_f P i k = some j) : 0 < z_c P i k := by
  obtain ⟨h1, h2, h3, _⟩ := z_f_so k i h
  exact (z_c_ps k i).mpr ⟨j, h1, h2, h3⟩
theorem z_c_ne {P Q : Nat → Bool} (k : Nat) : ∀ i, (∀ j, Q j = !P j) → z_c P i k + z_c Q i k = k := by
  induction k with
  | zero => intro i _; rw [z_c_0, z_c_0]
  | succ k ih =>
    intro i h
    have := ih (i + 1) h
    rw [z_c_s, z_c_s, h i]
    cases P i
    · rw [if_neg (c := false = true) (by decide), if_pos (c := (!false) = true) rfl]; omega
    · rw [if_pos rfl, if_neg (c := (!true) = true) (by decide)]; omega
theorem z_fd2_e {r : Nat} (h : z_fd a i = some r) : z_f (fun t => decide (a.2.2.2 i t = none) && decide (t ≠ r)) 0 8 = z_fd2 a i r := by
  have := z_f_nx 8 0 h
  rw [this]
  unfold z_fd2
  rw [Nat.zero_add]
theorem z_fd2_a {r o : Nat} (h : z_fd a i = some r) : z_fd (aD a i r (some o)) i = z_fd2 a i r := by
  rw [← z_fd2_e h]
  refine z_f_co 8 0 (fun t _ _ => ?_)
  show decide ((if i = i ∧ t = r then some o else a.2.2.2 i t) = none) = _
  by_cases ht : t = r
  · rw [if_pos ⟨rfl, ht⟩, decide_eq_false (show ¬ (some o = none) from fun z => nomatch z), decide_eq_false (show ¬ t ≠ r from fun z => z ht), Bool.and_false]
  · rw [if_neg (fun z => ht z.2), decide_eq_true (show t ≠ r from ht), Bool.and_true]
theorem z_fo2_e {o1 : Nat} : z_f (fun t => decide (a.1 1 t = 0) && decide (t ≠ o1)) 0 20 = z_fo2 a o1 := z_f_co 20 0 (fun t _ _ => (Bool.decide_and _ _).symm)
theorem z_fo2_a {o1 k : Nat} {w : Int32} {s : Nat} (hs : 0 < s) : z_fo (z_nw a o1 s k w) = z_fo2 a o1 := by
  refine z_f_co 20 0 (fun t _ _ => ?_)
  by_cases ht : t = o1
  · rw [ht, z_nw_e.1, decide_eq_false (show ¬ s = 0 by omega), decide_eq_false (fun z => z.2 rfl)]
  · rw [z_nw_t ht]; apply decide_eq_decide.mpr; exact ⟨fun z => ⟨z, ht⟩, fun z => z.1⟩
theorem m_pipe_25 (h : RM a M st) : ∀ k i n, i + k = 6 → k < n → f_M_pipe_25 n 0 (Int32.ofNat x) (Int32.ofNat i) st = f_M_pipe_46 0 (Int32.ofNat x) (Int32.ofNat ((z_f (fun k => decide (z_o a 1 k + z_o a 2 k = 0)) i k).getD 6)) st := by
  intro k
  induction k with
  | zero =>
    intro i n hi hn
    obtain ⟨n, rfl⟩ : ∃ m, n = m + 1 := ⟨n - 1, by omega⟩
    have : i = 6 := by omega
    subst this
    rfl
  | succ k ih =>
    intro i n hi hn
    obtain ⟨n, rfl⟩ : ∃ m, n = m + 1 := ⟨n - 1, by omega⟩
    have h1 : ¬ ((6 : Int32) ≤ Int32.ofNat i) := n_ge (k := 6) (by omega) (by omega)
    unfold f_M_pipe_25 z_f
    rw [if_neg h1, h.1.1 12 (by omega)]
    dsimp only
    rw [if_pos (n_in (by omega) (by omega)), n_to (by omega), m_fp h (by omega), n_su, ih (i + 1) n (by omega) (by omega)]
    by_cases h9 : z_o a 1 i + z_o a 2 i = 0
    · rw [if_pos h9, if_pos rfl, if_pos (decide_eq_true h9)]; rfl
    · rw [if_neg h9, if_neg (c := (1 : Int32) = 0) (by decide), if_neg (by rw [decide_eq_true_eq]; exact h9)]
theorem m_pipe (h : RM a M st) (wd : W_D a) (wo : W_O z_0 a) (wl : W_L N a) (wp : W_P a) (p : Int32) : z_ok (o_pipe a p) M (f_M_pipe 0 p st) := by
  have h0 := m_coX h 0
  have wk := W_K_Q (W_O_q wo)
  unfold f_M_pipe o_pipe
  rw [m_isReady h.1 wp]
  dsimp only
  cases hr : z_r a p with
  | none =>
    dsimp only
    rw [if_pos rfl, m_f1]
    dsimp only
    rw [if_neg (c := (1 : Int32) = 0) (by decide)]
    exact z_ok_1 h
  | some i =>
    obtain ⟨hi, rfl, hl⟩ := z_r_so hr
    dsimp only
    rw [if_neg (c := (1 : Int32) = 0) (by decide), m_f0]
    dsimp only
    rw [if_pos rfl]
    have hpp := m_pipe_25 (x := i) ⟨h0.1.1, h0.2⟩ 6 0 100 (by omega) (by omega)
    rw [show f_M_pipe_25 100 0 (Int32.ofNat i) 0 (xsI st 32 0 0 0) = _ from hpp]
    unfold f_M_pipe_46
    rw [m_freeDescriptors h0.1.1 wd hi, m_countOpenings h0.1.1 (fun t ht => (wk t ht).1)]
    dsimp only
    have hsum := z_c_ne (P := fun j => decide (a.1 1 j = 0)) (Q := fun j => decide (a.1 1 j ≠ 0)) 20 0 (fun j => by rw [decide_not])
    have hcd := z_c_le (fun d => decide (a.2.2.2 i d = none)) 8 0
    have hlt2 : ∀ n, n < 20 → ((Int32.ofNat n < 2) ↔ n < 2) := fun n hn => n_lt (b := 2) (by omega) (by omega)
    have hgt18 : ∀ n, n ≤ 20 → (((18 : Int32) < Int32.ofNat n) ↔ 18 < n) := fun n hn => n_lt (a := 18) (by omega) (by omega)
    rw [show z_f (fun k => decide (z_o a 1 k + z_o a 2 k = 0)) 0 6 = z_fk a from rfl]
    cases hd : z_fd a i with
    | none =>
      have hc := z_c_no 8 0 hd
      rw [if_pos ((hlt2 _ (by omega)).mpr (by omega))]
      exact z_ok_0 h0
    | some r =>
      obtain ⟨hr1, hr2⟩ := z_fd_so hd
      have hc := z_c_nx 8 0 hd
      cases ho : z_fo a with
      | none =>
        have hc2 := z_c_no 20 0 ho
        rw [if_pos (c := (18 : Int32) < _) ((hgt18 _ (by omega)).mpr (by omega)), ite_self]
        exact z_ok_0 h0
      | some o1 =>
        obtain ⟨ho1, ho2⟩ := z_fo_so ho
        have hc2 := z_c_nx 20 0 ho
        cases hk : z_fk a with
        | none =>
          rw [show (none : Option Nat).getD 6 = 6 from rfl, if_pos (c := Int32.ofNat 6 = 6) rfl, ite_self, ite_self]
          exact z_ok_0 h0
        | some k =>
          obtain ⟨hk1, hk2⟩ := z_fk_so hk
          dsimp only
          cases hw : z_fd2 a i r with
          | none =>
            rw [← z_fd2_e hd] at hw
            have hc3 := z_c_no 8 0 hw
            rw [if_pos ((hlt2 _ (by omega)).mpr (by omega))]
            exact z_ok_0 h0
          | some w =>
            obtain ⟨hw1, hw2, hw3⟩ := z_fd2_so hw
            have hw' := hw
            rw [← z_fd2_e hd] at hw'
            have hc3 := z_c_yes 8 0 hw'
            cases ho' : z_fo2 a o1 with
            | none =>
              rw [← z_fo2_e] at ho'
              have hc4 := z_c_no 20 0 ho'
              rw [if_pos (c := (18 : Int32) < _) ((hgt18 _ (by omega)).mpr (by omega)), ite_self]
              exact z_ok_0 h0
            | some o2 =>
              obtain ⟨ho3, ho4, ho5⟩ := z_fo2_so ho'
              have ho'' := ho'
              rw [← z_fo2_e] at ho''
              have hc4 := z_c_yes 20 0 ho''
              have h6 : x_in (Int32.ofNat k) 6 := n_in (by omega) hk1
              have hlk : a.1 4 k = 0 := (wl.2.1 k hk1).2 hk2
              rw [if_neg (fun z => absurd ((hlt2 _ (by omega)).mp z) (by omega)), if_neg (fun z => absurd ((hgt18 _ (by omega)).mp z) (by omega)), show (some k).getD 6 = k from rfl,
                if_neg (show ¬ Int32.ofNat k = 6 from fun z => absurd ((n_eq (b := 6) (by omega) (by omega)).mp z) (by omega))]
              simp only [u_RI, h0.1.1.1 12 (by omega), h0.1.1.1 10 (by omega), if_pos h6, n_to (show k < 2147483648 by omega), b_01]
              have k1 : RX 0 a M (xsI (xsI (xsI st 32 0 0 0) 44 0 k 1) 42 0 k 0) := by
                have := RX_pn (k := k) (RX_pl (k := k) h0.1)
                rw [hlk] at this
                exact this
              have e44 : (xsI (xsI (xsI st 32 0 0 0) 44 0 k 1) 42 0 k 0).1 44 = z_u ((xsI st 32 0 0 0).1 44) 0 k 1 := by rw [u_I (by omega), u_Ie]
              have e42 : (xsI (xsI (xsI st 32 0 0 0) 44 0 k 1) 42 0 k 0).1 42 0 k = 0 := by rw [u_Ie, z_ue]
              have e45 : (xsI (xsI (xsI st 32 0 0 0) 44 0 k 1) 42 0 k 0).1 45 = (xsI st 32 0 0 0).1 45 := by rw [u_I (by omega), u_I (by omega)]
              obtain ⟨s1, g1, g2, g3⟩ := m_newOpening (s := 1) (k := k) (r := 1) k1 (fun t ht => (wk t ht).1) ho (fun _ => ⟨hk1, by rw [e44, z_ue], by rw [e42, hlk]; rfl⟩) (by omega)
              obtain ⟨s2, g4, g5, g6⟩ := m_give (o := o1) g2 (W_D_nw (a := a) wd) hi hd
              have wk2 : ∀ t, t < 20 → (aD (z_nw a o1 1 k 1) i r (some o1)).1 1 t ≤ 4 := fun t ht => by
                show (z_nw a o1 1 k 1).1 1 t ≤ 4
                by_cases hto : t = o1
                · rw [hto, z_nw_e.1]; omega
                · rw [z_nw_t hto]; exact (wk t ht).1
              obtain ⟨s3, g7, g8, g9⟩ := m_newOpening (s := 2) (k := k) (r := 2) g5 wk2 (by rw [show z_fo (aD (z_nw a o1 1 k 1) i r (some o1)) = z_fo (z_nw a o1 1 k 1) from rfl, z_fo2_a (by omega)]; exact ho')
                (fun _ => ⟨hk1, by rw [g6 44 (by omega), g3 44 (by omega), e44, z_ue], by rw [g6 42 (by omega), g3 42 (by omega), e42, show (aD (z_nw a o1 1 k 1) i r (some o1)).1 4 k = (z_nw a o1 1 k 1).1 4 k from rfl, z_nw_4 (by omega), hlk]; rfl⟩) (by omega)
              obtain ⟨s4, g10, g11, g12⟩ := m_give (o := o2) g8 (W_D_nw (a := aD (z_nw a o1 1 k 1) i r (some o1)) (W_D_o (W_D_nw (a := a) wd) ho1)) hi (show z_fd (aD a i r (some o1)) i = some w by rw [z_fd2_a hd]; exact hw)
              rw [show f_M_newOpening 0 1 (Int32.ofNat k) 1 (xsI (xsI (xsI st 32 0 0 0) 44 0 k 1) 42 0 k 0) = some (Int32.ofNat o1, s1) from g1]
              dsimp only
              rw [g4]
              dsimp only
              rw [show f_M_newOpening 0 2 (Int32.ofNat k) 2 s2 = some (Int32.ofNat o2, s3) from g7]
              dsimp only
              rw [g10]
              dsimp only
              have ev : Int32.ofNat r + 8 * Int32.ofNat w = Int32.ofNat (r + 8 * w) := by rw [show (8 : Int32) = Int32.ofNat 8 from rfl, n_mu, n_ad]
              rw [ev]
              refine z_ok_0 ⟨g11, ?_⟩
              rw [g12 44 (by omega), g9 44 (by omega), g6 44 (by omega), g3 44 (by omega), e44, g12 45 (by omega), g9 45 (by omega), g6 45 (by omega), g3 45 (by omega), e45]
              have hq2 : (z_nw a o1 1 k 1).1 1 o2 = 0 := by rw [z_nw_t ho5]; exact ho4
              have hx0 := m_X_nw (s := 2) (k := k) (r := 2) (m_X_nw (s := 1) (k := k) (r := 1) h0.2 ho1 ho2) ho3 hq2
              refine ⟨fun k' hk' z => ?_, hx0.2⟩
              by_cases hkk : k' = k
              · subst hkk
                show 0 < z_o (z_nw (z_nw a o1 1 k' 1) o2 2 k' 2) 1 k' + z_o (z_nw (z_nw a o1 1 k' 1) o2 2 k' 2) 2 k'
                rw [z_nw_o (s' := 2) ho3 hq2 k' (by omega), if_pos ⟨rfl, rfl⟩]
                omega
              · rw [z_u2 hkk] at z; exact hx0.1 k' hk' z
end
