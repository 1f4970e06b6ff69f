/-! THE REFERENCE: write -/
theorem b_255 : ∀ i, i < 32 → ¬ i < 8 → (255#32).getLsbD i = false := by decide
theorem b_4 : ∀ i, i < 32 → (4#32).getLsbD i = decide (i = 2) := by decide
theorem m_b8 (x : Int64) {n : Nat} (hn : n ≤ 56) (s : Int64) (hs : (s.toBitVec.smod 64).toNat = n) (u : UInt64) (hu : (u.toBitVec % 64).toNat = n) : ((x >>> s).toInt32 &&& 255) = (((x.toUInt64 >>> u).toInt64).toInt32 &&& 255) := by
  apply Int32.toBitVec_inj.mp
  rw [Int32.toBitVec_and, Int32.toBitVec_and, Int64.toBitVec_toInt32, Int64.toBitVec_toInt32, UInt64.toBitVec_toInt64, Int64.toBitVec_shiftRight, UInt64.toBitVec_shiftRight, Int64.toBitVec_toUInt64]
  apply BitVec.eq_of_getLsbD_eq
  intro i hi
  rw [BitVec.getLsbD_and, BitVec.getLsbD_and]
  by_cases h8 : i < 8
  · rw [BitVec.getLsbD_signExtend, BitVec.getLsbD_signExtend, if_pos (by omega), if_pos (by omega), BitVec.getLsbD_sshiftRight', hs, if_pos (by omega), BitVec.ushiftRight_eq', BitVec.getLsbD_ushiftRight, hu, decide_eq_false (show ¬ 64 ≤ i by omega), Bool.not_false, Bool.true_and]
  · rw [show (255 : Int32).toBitVec = 255#32 from rfl, b_255 i hi h8, Bool.and_false, Bool.and_false]
theorem m_b (x : Int64) {m : Nat} (hm : m < 8) : ((x >>> (((8 : Int32) * Int32.ofNat m).toInt64 &&& 63)).toInt32) &&& (255 : Int32) = z_b x m := by
  unfold z_b
  have hc : m = 0 ∨ m = 1 ∨ m = 2 ∨ m = 3 ∨ m = 4 ∨ m = 5 ∨ m = 6 ∨ m = 7 := by omega
  rcases hc with rfl | rfl | rfl | rfl | rfl | rfl | rfl | rfl
  · exact m_b8 x (n := 0) (by omega) _ (by decide) _ (by decide)
  · exact m_b8 x (n := 8) (by omega) _ (by decide) _ (by decide)
  · exact m_b8 x (n := 16) (by omega) _ (by decide) _ (by decide)
  · exact m_b8 x (n := 24) (by omega) _ (by decide) _ (by decide)
  · exact m_b8 x (n := 32) (by omega) _ (by decide) _ (by decide)
  · exact m_b8 x (n := 40) (by omega) _ (by decide) _ (by decide)
  · exact m_b8 x (n := 48) (by omega) _ (by decide) _ (by decide)
  · exact m_b8 x (n := 56) (by omega) _ (by decide) _ (by decide)
theorem m_r4 (r : Int32) : (r &&& 4 ≤ 0) ↔ r &&& 4 = 0 := by
  have h : r &&& 4 = 0 ∨ r &&& 4 = 4 := by
    cases hb : r.toBitVec.getLsbD 2 with
    | false =>
      refine Or.inl (Int32.toBitVec_inj.mp (BitVec.eq_of_getLsbD_eq (fun i hi => ?_)))
      rw [Int32.toBitVec_and, BitVec.getLsbD_and, show (4 : Int32).toBitVec = 4#32 from rfl, b_4 i hi, show (0 : Int32).toBitVec = 0#32 from rfl, BitVec.getLsbD_zero]
      by_cases h2 : i = 2
      · rw [h2, hb, Bool.false_and]
      · rw [decide_eq_false h2, Bool.and_false]
    | true =>
      refine Or.inr (Int32.toBitVec_inj.mp (BitVec.eq_of_getLsbD_eq (fun i hi => ?_)))
      rw [Int32.toBitVec_and, BitVec.getLsbD_and, show (4 : Int32).toBitVec = 4#32 from rfl, b_4 i hi]
      by_cases h2 : i = 2
      · rw [h2, hb, Bool.true_and]
      · rw [decide_eq_false h2, Bool.and_false]
  rcases h with h | h
  · rw [h]; exact ⟨fun _ => rfl, fun _ => by decide⟩
  · rw [h]; exact ⟨fun z => absurd z (by decide), fun z => absurd z (by decide)⟩
theorem l_cmp (x y : Int64) : (lg_cmp x y < 0 ↔ x.toInt < y.toInt) ∧ (0 ≤ lg_cmp x y ↔ y.toInt ≤ x.toInt) := by
  unfold lg_cmp
  by_cases h1 : x > y
  · have := Int64.lt_iff_toInt_lt.mp h1
    rw [if_pos h1]
    exact ⟨⟨fun z => absurd z (by decide), fun z => by omega⟩, ⟨fun _ => by omega, fun _ => by decide⟩⟩
  · have h2 : ¬ y.toInt < x.toInt := fun z => h1 (Int64.lt_iff_toInt_lt.mpr z)
    rw [if_neg h1]
    by_cases h3 : x = y
    · rw [if_pos h3, h3]
      exact ⟨⟨fun z => absurd z (by decide), fun z => by omega⟩, ⟨fun _ => by omega, fun _ => by decide⟩⟩
    · have h4 : x.toInt ≠ y.toInt := fun z => h3 (Int64.toInt_inj.mp z)
      rw [if_neg h3]
      exact ⟨⟨fun _ => by omega, fun _ => by decide⟩, ⟨fun z => absurd z (by decide), fun z => by omega⟩⟩
theorem l_int {n : Nat} (h : n < 2147483648) : (Int64.ofNat n).toInt = n := Int64.toInt_ofNat_of_lt (by omega)
theorem l_60 : (60 : Int64).toInt = 60 := by decide
theorem l_i32 {n : Nat} (h : n < 2147483648) : (Int64.ofNat n).toInt32 = Int32.ofNat n := by
  apply Int32.toInt_inj.mp
  rw [Int64.toInt_toInt32, l_int h, n_int h]
  exact Int.bmod_eq_of_le (by omega) (by omega)
theorem l_su (n : Nat) : Int64.ofNat n + 1 = Int64.ofNat (n + 1) := (Int64.ofNat_add n 1).symm
section
variable {c : Int32} {a b : AS} {M st : XS} {i d o N w : Nat}
theorem z_sh_b {t j : Nat} {y : Int32} : (z_sh a y).2.2.1.2 t j = if t = 21 then (if a.1 4 21 < 60 then (if j = a.1 4 21 then y else a.2.2.1.2 21 j) else (if j = a.1 4 21 - 1 then y else a.2.2.1.2 21 (j + 1))) else a.2.2.1.2 t j := by
  show (if a.1 4 21 < 60 then z_ad a 21 y else z_ad (z_tk a 21) 21 y).2.2.1.2 t j = _
  by_cases hc : a.1 4 21 < 60
  · rw [if_pos hc, if_pos hc, z_ad_b]
  · rw [if_neg hc, if_neg hc, z_ad_b, z_tk_l, if_pos rfl]
    by_cases ht : t = 21
    · rw [if_pos ht, if_pos ht, z_tk_b, if_pos rfl]
    · rw [if_neg ht, if_neg ht, z_tk_b, if_neg ht]
theorem RY_sh {y : Int32} {s' : XS} (h : RY c a M st) (hs : s'.2.2 = st.2.2) (h2 : s'.2.1 32 = z_u (st.2.1 32) 0 19 (Int64.ofNat (a.1 5 0 + 1))) (h2' : ∀ q, q ≠ 32 → s'.2.1 q = st.2.1 q) (h1 : ∀ q, q ≠ 50 → s'.1 q = st.1 q)
    (h50 : ∀ j, j < (z_sh a y).1 4 21 → s'.1 50 0 j = (z_sh a y).2.2.1.2 21 j) : RY c (z_sh a y) M s' := by
  have hz : ∀ s k, z_o (z_sh a y) s k = z_o a s k := fun s k => z_o_co (a := z_sh a y) (b := a) (fun t _ => ⟨z_sh_n (by omega) (by omega), z_sh_n (by omega) (by omega)⟩) s k
  obtain ⟨r1, r2, r3⟩ := z_sh_r (a := a) (x := y)
  have hg := RX_g (b := z_sh a y) (s' := s') h.1 ?_ ?_ ?_ (by rw [hs]) (fun q hq => h1 q (by omega)) (by rw [h1 32 (by omega)]) h2' (fun f t h4 h5 => z_sh_n h4 h5) r1 r2 r3
  · exact ⟨hg.1, hg.2 h.2⟩
  · rw [h1 42 (by omega), h1 43 (by omega), h1 44 (by omega)]
    intro k hk
    have := h.1.1.2.2.2.2.1 k hk
    rw [hz, hz, z_sh_l, if_neg (by omega)]
    exact ⟨this.1, this.2.1, fun j hj => by rw [z_sh_b, if_neg (by omega)]; exact this.2.2 j hj⟩
  · rw [h1 45 (by omega), h1 46 (by omega), h1 47 (by omega), h1 48 (by omega)]
    intro f hf
    have := h.1.1.2.2.2.2.2.1 f hf
    rw [hz, z_sh_l, if_neg (by omega), r1]
    exact ⟨this.1, this.2.1, this.2.2.1, this.2.2.2.1, fun j hj => by rw [z_sh_b, if_neg (by omega)]; exact this.2.2.2.2 j hj⟩
  · have := h.1.1.2.2.2.2.2.2.1
    rw [h1 32 (by omega), h1 49 (by omega), h2]
    refine ⟨?_, fun j hj => ?_, ?_, h50⟩
    · rw [z_sh_l, if_neg (by omega)]; exact this.1
    · rw [z_sh_l, if_neg (by omega)] at hj
      rw [z_sh_b, if_neg (by omega)]; exact this.2.1 j hj
    · rw [z_ue, z_sh_5]
theorem x_5960 : x_in 59 60 := n_in (a := 59) (by omega) (by omega)
theorem m_show_39 {y : Int32} {g : Nat → Int32} (hs : m_S (st.2.2.1 32)) (h19 : st.2.1 32 0 19 = Int64.ofNat N) (hN : N < 2147483647) :
    f_M_show_39 0 y st = some ((), xsJ (xsI st 50 0 (min N 59) y) 32 0 19 (Int64.ofNat (N + 1))) := by
  unfold f_M_show_39
  rw [h19, hs 20 (by omega)]
  simp only [u_JI, h19, l_su, if_pos x_5960, show (59 : Int32).toNatClampNeg = 59 from rfl]
  by_cases hc : 60 ≤ N
  · rw [if_pos ((l_cmp _ _).2.mpr (by rw [l_60, l_int (by omega)]; omega)), Nat.min_eq_right (by omega)]
  · rw [if_neg (fun z => hc (by have := (l_cmp _ _).2.mp z; rw [l_60, l_int (by omega)] at this; omega)), l_i32 (by omega), if_pos (n_in (by omega) (by omega)), n_to (by omega), Nat.min_eq_left (by omega)]
theorem m_show_13 {y : Int32} {g : Nat → Int32} (hN : N < 2147483647) : ∀ q u n st, u + q = 60 → 1 ≤ u → q < n → m_S (st.2.2.1 32) → st.2.1 32 0 19 = Int64.ofNat N → (∀ j, j < 60 → st.1 50 0 j = if j + 1 < u then g (j + 1) else g j) →
    ∃ s1, f_M_show_13 n 0 y (Int32.ofNat u) st = some ((), xsJ (xsI s1 50 0 (min N 59) y) 32 0 19 (Int64.ofNat (N + 1))) ∧ s1.2 = st.2 ∧ (∀ q, q ≠ 50 → s1.1 q = st.1 q) ∧ ∀ j, j < 59 → s1.1 50 0 j = g (j + 1) := by
  intro q
  induction q with
  | zero =>
    intro u n st hu h1 hn hs h19 h50
    obtain ⟨n, rfl⟩ : ∃ m, n = m + 1 := ⟨n - 1, by omega⟩
    have : u = 60 := by omega
    subst this
    unfold f_M_show_13
    rw [if_pos (show (60 : Int32) ≤ Int32.ofNat 60 by decide), m_show_39 (g := g) hs h19 hN]
    exact ⟨st, rfl, rfl, fun _ _ => rfl, fun j hj => by rw [h50 j (by omega), if_pos (by omega)]⟩
  | succ q ih =>
    intro u n st hu h1 hn hs h19 h50
    obtain ⟨n, rfl⟩ : ∃ m, n = m + 1 := ⟨n - 1, by omega⟩
    unfold f_M_show_13
    rw [if_neg (show ¬ (60 : Int32) ≤ Int32.ofNat u from n_ge (k := 60) (by omega) (by omega)), hs 20 (by omega)]
    dsimp only
    rw [show Int32.ofNat u - 1 = Int32.ofNat (u - 1) from n_sb (b := 1) h1, if_pos (n_in (by omega) (by omega)), if_pos (n_in (by omega) (by omega)), n_to (by omega), n_to (by omega), n_su, h50 u (by omega), if_neg (by omega)]
    obtain ⟨s1, g1, g2, g3, g4⟩ := ih (u + 1) n (xsI st 50 0 (u - 1) (g u)) (by omega) (by omega) (by omega) hs h19 (fun j hj => by
      rw [u_Ie]
      by_cases hj2 : j + 1 = u
      · rw [show j = u - 1 by omega, z_ue, if_pos (by omega), show u - 1 + 1 = u by omega]
      · rw [z_u2 (by omega), h50 j hj]
        by_cases hj3 : j + 1 < u
        · rw [if_pos hj3, if_pos (by omega)]
        · rw [if_neg hj3, if_neg (by omega)])
    exact ⟨s1, g1, g2, fun q hq => by rw [g3 q hq, u_I hq], g4⟩
theorem m_show {y : Int32} (h : RY c a M st) (hl : a.1 4 21 = min (a.1 5 0) 60) (hN : a.1 5 0 < 2147483647) : ∃ s', f_M_show 0 y st = some ((), s') ∧ RY c (z_sh a y) M s' := by
  have hC := h.1.1.2.2.2.2.2.2.1
  have h19 := hC.2.2.1
  unfold f_M_show
  rw [h19]
  by_cases hc : a.1 5 0 < 60
  · rw [if_pos ((l_cmp _ _).1.mpr (by rw [l_60, l_int (by omega)]; omega)), m_show_39 (g := fun _ => 0) h.1.1.1 h19 hN, Nat.min_eq_left (by omega)]
    refine ⟨_, rfl, RY_sh h rfl ?_ (fun q hq => by rw [u_J hq, u_JI]) (fun q hq => by rw [u_IJ, u_I hq]) (fun j hj => ?_)⟩
    · rw [u_Je, u_JI]
    · rw [z_sh_l, if_pos rfl, if_pos (by omega)] at hj
      rw [u_IJ, u_Ie, z_sh_b, if_pos rfl, if_pos (by omega)]
      by_cases hj2 : j = a.1 4 21
      · rw [if_pos hj2, hj2, show a.1 4 21 = a.1 5 0 by omega, z_ue]
      · rw [if_neg hj2, z_u2 (by omega)]; exact hC.2.2.2 j (by omega)
  · rw [if_neg (fun z => hc (by have := (l_cmp _ _).1.mp z; rw [l_60, l_int (by omega)] at this; omega))]
    obtain ⟨s1, g1, g2, g3, g4⟩ := m_show_13 (y := y) (g := a.2.2.1.2 21) hN 59 1 100 st (by omega) (by omega) (by omega) h.1.1.1 h19 (fun j hj => by rw [if_neg (by omega)]; exact hC.2.2.2 j (by omega))
    rw [Nat.min_eq_right (by omega)] at g1
    refine ⟨_, g1, RY_sh h (by show s1.2.2 = _; rw [g2]) ?_ (fun q hq => by rw [u_J hq, u_JI, g2]) (fun q hq => by rw [u_IJ, u_I hq, g3 q hq]) (fun j hj => ?_)⟩
    · rw [u_Je, u_JI, g2]
    · rw [z_sh_l, if_pos rfl, if_neg (by omega)] at hj
      rw [u_IJ, u_Ie, z_sh_b, if_pos rfl, if_neg (by omega)]
      by_cases hj2 : j = a.1 4 21 - 1
      · rw [if_pos hj2, show j = 59 by omega, z_ue]
      · rw [if_neg hj2, z_u2 (by omega)]; exact g4 j (by omega)
theorem RY_ad {k : Nat} {y : Int32} (h : RY c a M st) (hk : k < 6) (hL : ∀ k, k < 6 → a.1 4 k ≤ 32) (hl : a.1 4 k < 32) :
    RY c (z_ad a k y) M (xsI (xsI st 43 0 (32 * k + a.1 4 k) y) 42 0 k (Int32.ofNat (a.1 4 k + 1))) := by
  have hz : ∀ s t, z_o (z_ad a k y) s t = z_o a s t := fun s t => z_o_co (a := z_ad a k y) (b := a) (fun t _ => ⟨rfl, rfl⟩) s t
  have hg := RX_g (b := z_ad a k y) (s' := xsI (xsI st 43 0 (32 * k + a.1 4 k) y) 42 0 k (Int32.ofNat (a.1 4 k + 1))) h.1 ?_ ?_ ?_ rfl (fun q hq => by rw [u_I (by omega), u_I (by omega)]) (by rw [u_I (by omega), u_I (by omega)]) (fun q _ => rfl) (fun f t h4 _ => z_ad_n h4) rfl rfl rfl
  · exact ⟨hg.1, hg.2 h.2⟩
  · rw [u_Ie, u_I (by omega), u_I (by omega), u_Ie, u_I (by omega), u_I (by omega)]
    intro k' hk'
    have := h.1.1.2.2.2.2.1 k' hk'
    have hl' := hL k' hk'
    rw [hz, hz, z_ad_l]
    by_cases hkk : k' = k
    · subst hkk
      rw [if_pos rfl, z_ue]
      refine ⟨this.1, fun z => ⟨(this.2.1 z).1, rfl⟩, fun j hj => ?_⟩
      rw [z_ad_b, if_pos rfl]
      by_cases hj2 : j = a.1 4 k'
      · rw [if_pos hj2, hj2, z_ue]
      · rw [if_neg hj2, z_u2 (by omega)]; exact this.2.2 j (by omega)
    · rw [if_neg hkk, z_u2 hkk]
      exact ⟨this.1, this.2.1, fun j hj => by rw [z_ad_b, if_neg hkk, z_u2 (by omega)]; exact this.2.2 j hj⟩
  · rw [u_I (by omega), u_I (by omega), u_I (by omega), u_I (by omega), u_I (by omega), u_I (by omega), u_I (by omega), u_I (by omega)]
    intro f hf
    have := h.1.1.2.2.2.2.2.1 f hf
    rw [hz, z_ad_l, if_neg (by omega)]
    exact ⟨this.1, this.2.1, this.2.2.1, this.2.2.2.1, fun j hj => by rw [z_ad_b, if_neg (by omega)]; exact this.2.2.2.2 j hj⟩
  · have := h.1.1.2.2.2.2.2.2.1
    rw [u_I (by omega), u_I (by omega), u_I (by omega), u_I (by omega), u_I (by omega), u_I (by omega), u_JI, u_JI]
    unfold m_C
    rw [z_ad_l, if_neg (by omega), z_ad_l, if_neg (by omega), z_ad_n (by omega)]
    exact ⟨this.1, fun j hj => by rw [z_ad_b, if_neg (by omega)]; exact this.2.1 j hj, this.2.2.1, fun j hj => by rw [z_ad_b, if_neg (by omega)]; exact this.2.2.2 j hj⟩
theorem W_P_co {b : AS} (wp : W_P a) (h1 : ∀ t, t < 8 → b.1 0 t = a.1 0 t) (h2 : b.2.1 = a.2.1) (h3 : b.2.2.2 = a.2.2.2) : W_P b := by
  intro t ht
  have := wp t ht
  rw [h1 t ht, h2, h3]
  exact this
theorem n_mm (m : Nat) : Int32.ofNat m - 1 < 0 ↔ m = 0 ∨ Int32.ofNat m - 1 < 0 := ⟨Or.inr, fun z => z.elim (fun y => by subst y; decide) id⟩
theorem m_write_147 {x : Int64} {v K : Int32} (ho : o < 20) : ∀ m n N a st, m < n → m ≤ 8 → RY 0 a M st → W_D a → W_O z_0 a → W_L N a → W_P a → (a.1 1 o = 2 ∨ a.1 1 o = 4) → z_rm a o m → N + m < 2147483647 → (a.1 1 o = 2 → K = Int32.ofNat (a.1 2 o)) →
    ∃ s', f_M_write_147 n 0 x v (Int32.ofNat o) K (Int32.ofNat m - 1) st = some (v, s') ∧ RY 0 (z_k 8 0 (z_pb o x m a)).2 M s' := by
  have h20 : x_in (Int32.ofNat o) 20 := n_in (by omega) ho
  intro m
  induction m with
  | zero =>
    intro n N a st hn hm h wd wo wl wp hk hr hN hK
    obtain ⟨n, rfl⟩ : ∃ m, n = m + 1 := ⟨n - 1, by omega⟩
    obtain ⟨s2, g3, g4⟩ := m_wake h wd wo wl wp
    unfold f_M_write_147
    rw [if_pos (show Int32.ofNat 0 - 1 < 0 by decide), g3]
    exact ⟨s2, rfl, g4⟩
  | succ m ih =>
    intro n N a st hn hm h wd wo wl wp hk hr hN hK
    obtain ⟨n, rfl⟩ : ∃ m, n = m + 1 := ⟨n - 1, by omega⟩
    have wd' : W_D (z_p1 a o (z_b x m)) := by unfold W_D; rw [z_p1_r.2.2]; exact wd
    have wo' : W_O z_0 (z_p1 a o (z_b x m)) := z_p1_O wo (fun h3 => by omega)
    have wl' : W_L (N + 1) (z_p1 a o (z_b x m)) := z_p1_L wo wl ho (by omega) hr
    have wp' : W_P (z_p1 a o (z_b x m)) := W_P_co wp (fun t _ => z_p1_n (by omega) (by omega) (by omega)) z_p1_r.1 z_p1_r.2.2
    have hk' : (z_p1 a o (z_b x m)).1 1 o = a.1 1 o := z_p1_n (by omega) (by omega) (by omega)
    have ht' : (z_p1 a o (z_b x m)).1 2 o = a.1 2 o := z_p1_n (by omega) (by omega) (by omega)
    have hih : ∀ s1, RY 0 (z_p1 a o (z_b x m)) M s1 → ∃ s', f_M_write_147 n 0 x v (Int32.ofNat o) K (Int32.ofNat m - 1) s1 = some (v, s') ∧ RY 0 (z_k 8 0 (z_pb o x (m + 1) a)).2 M s' := fun s1 h1 =>
      ih n (N + 1) _ s1 (by omega) (by omega) h1 wd' wo' wl' wp' (by rw [hk']; exact hk) (z_p1_rm ho hr) (by omega) (fun z => by rw [ht']; exact hK (by rw [← hk']; exact z))
    have hp := h.1.1.2.2.2.1 o ho
    unfold f_M_write_147
    rw [n_m1, n_p1, if_neg (n_ng (by omega)), h.1.1.1 6 (by omega), m_b x (by omega)]
    dsimp only
    rw [if_pos h20, n_to (by omega), hp.1]
    rcases hk with hc | hc
    · have hw2 := ((wo o ho).2.2.1 (Or.inr hc)).1
      have hlen := hr.1 (by omega)
      have hse := z_o_se (a := a) ho
      rw [hc] at hse
      have h42 := ((h.1.1.2.2.2.2.1 _ hw2).2.1 (by omega)).2
      have h6 : x_in (Int32.ofNat (a.1 2 o)) 6 := n_in (by omega) hw2
      rw [if_neg (fun z => absurd ((n_e4 (by omega)).mp z) (by omega)), hK hc, h.1.1.1 10 (by omega)]
      simp only [u_RI, if_pos h6, n_to (show a.1 2 o < 2147483648 by omega), h.1.1.1 11 (by omega), h.1.1.1 10 (by omega)]
      rw [h42, n_32, if_pos (n_in (by omega) (by omega)), n_to (by omega), u_I (by omega), h42, n_su]
      have hq := RY_ad (k := a.1 2 o) (y := z_b x m) h hw2 (fun k hk => (wl.2.1 k hk).1) (by omega)
      rw [← hK hc]
      refine hih _ ?_
      have he : z_p1 a o (z_b x m) = z_ad a (a.1 2 o) (z_b x m) := if_pos (by omega)
      rw [he]
      exact hq
    · rw [if_pos ((n_e4 (by omega)).mpr hc)]
      obtain ⟨s1, g1, g2⟩ := m_show (y := z_b x m) h wl.2.2.2.2.1 (by have := wl.2.2.2.2.2; omega)
      rw [g1]
      dsimp only
      refine hih s1 ?_
      have he : z_p1 a o (z_b x m) = z_sh a (z_b x m) := (if_neg (by omega)).trans (if_neg (by omega))
      rw [he]
      exact g2
/-- bytes into a file, one after another -/
theorem z_pb_f {x : Int64} (m : Nat) : ∀ a : AS, a.1 1 o = 3 → (z_pb o x m a).1 3 o = a.1 3 o + m ∧ (∀ t, t ≠ o → (z_pb o x m a).1 3 t = a.1 3 t) ∧
    (z_pb o x m a).1 4 (8 + a.1 2 o) = (if m = 0 then a.1 4 (8 + a.1 2 o) else max (a.1 4 (8 + a.1 2 o)) (a.1 3 o + m)) ∧ (∀ t, t ≠ 8 + a.1 2 o → (z_pb o x m a).1 4 t = a.1 4 t) ∧ (∀ t, (z_pb o x m a).1 5 t = a.1 5 t) ∧
    (∀ t j, (z_pb o x m a).2.2.1.2 t j = if t = 8 + a.1 2 o then (if a.1 3 o ≤ j ∧ j < a.1 3 o + m then z_b x (m - 1 - (j - a.1 3 o)) else if 0 < m ∧ a.1 4 (8 + a.1 2 o) ≤ j ∧ j < a.1 3 o then 0 else a.2.2.1.2 (8 + a.1 2 o) j) else a.2.2.1.2 t j) := by
  induction m with
  | zero =>
    intro a h3
    refine ⟨rfl, fun _ _ => rfl, rfl, fun _ _ => rfl, fun _ => rfl, fun t j => ?_⟩
    show a.2.2.1.2 t j = _
    by_cases ht : t = 8 + a.1 2 o
    · rw [if_pos ht, if_neg (by omega), if_neg (by omega), ht]
    · rw [if_neg ht]
  | succ m ih =>
    intro a h3
    have he : z_p1 a o (z_b x m) = aN (z_pt a (a.1 2 o) (a.1 3 o) (z_b x m)) 3 o (a.1 3 o + 1) := (if_neg (by omega)).trans (if_pos h3)
    have q1 : (z_p1 a o (z_b x m)).1 1 o = 3 := by rw [z_p1_n (by omega) (by omega) (by omega)]; exact h3
    have q2 : (z_p1 a o (z_b x m)).1 2 o = a.1 2 o := z_p1_n (by omega) (by omega) (by omega)
    have q3 : (z_p1 a o (z_b x m)).1 3 o = a.1 3 o + 1 := by rw [he, aN_of, if_pos ⟨rfl, rfl⟩]
    have q3' : ∀ t, t ≠ o → (z_p1 a o (z_b x m)).1 3 t = a.1 3 t := fun t ht => by rw [he, aN_of, if_neg (fun z => ht z.2), z_pt_n (by omega)]
    have q4 : ∀ t, (z_p1 a o (z_b x m)).1 4 t = if t = 8 + a.1 2 o then max (a.1 4 (8 + a.1 2 o)) (a.1 3 o + 1) else a.1 4 t := fun t => by rw [he, aN_of, if_neg (by omega), z_pt_l]
    have q5 : ∀ t, (z_p1 a o (z_b x m)).1 5 t = a.1 5 t := fun t => by rw [he, aN_of, if_neg (by omega), z_pt_n (by omega)]
    have q6 : ∀ t j, (z_p1 a o (z_b x m)).2.2.1.2 t j = if t = 8 + a.1 2 o then (if j = a.1 3 o then z_b x m else if a.1 4 (8 + a.1 2 o) ≤ j ∧ j < a.1 3 o then 0 else a.2.2.1.2 (8 + a.1 2 o) j) else a.2.2.1.2 t j := fun t j => by
      rw [he]; exact z_pt_b
    obtain ⟨i1, i2, i3, i4, i5, i6⟩ := ih (z_p1 a o (z_b x m)) q1
    rw [q2] at i3 i4 i6
    rw [q3] at i1 i3 i6
    refine ⟨?_, fun t ht => ?_, ?_, fun t ht => ?_, fun t => ?_, fun t j => ?_⟩
    · show (z_pb o x m (z_p1 a o (z_b x m))).1 3 o = _
      rw [i1]; omega
    · show (z_pb o x m (z_p1 a o (z_b x m))).1 3 t = _
      rw [i2 t ht, q3' t ht]
    · show (z_pb o x m (z_p1 a o (z_b x m))).1 4 _ = _
      rw [i3, q4, if_pos rfl, if_neg (c := m + 1 = 0) (by omega)]
      by_cases hm : m = 0
      · rw [if_pos hm, hm]
      · rw [if_neg hm]; omega
    · show (z_pb o x m (z_p1 a o (z_b x m))).1 4 t = _
      rw [i4 t ht, q4, if_neg ht]
    · show (z_pb o x m (z_p1 a o (z_b x m))).1 5 t = _
      rw [i5, q5]
    · show (z_pb o x m (z_p1 a o (z_b x m))).2.2.1.2 t j = _
      rw [i6, q4, if_pos rfl, q6, q6, if_pos rfl]
      by_cases ht : t = 8 + a.1 2 o
      · rw [if_pos ht, if_pos ht]
        by_cases hj : a.1 3 o + 1 ≤ j ∧ j < a.1 3 o + 1 + m
        · rw [if_pos hj, if_pos (by omega), show m - 1 - (j - (a.1 3 o + 1)) = m + 1 - 1 - (j - a.1 3 o) by omega]
        · rw [if_neg hj, if_neg (by omega)]
          by_cases hj2 : j = a.1 3 o
          · rw [if_pos hj2, if_pos (by omega), show m + 1 - 1 - (j - a.1 3 o) = m by omega]
          · rw [if_neg hj2, if_neg (c := a.1 3 o ≤ j ∧ _) (by omega)]
            by_cases hj3 : a.1 4 (8 + a.1 2 o) ≤ j ∧ j < a.1 3 o
            · rw [if_pos hj3, if_pos ⟨by omega, hj3⟩]
            · rw [if_neg hj3, if_neg (fun z => hj3 z.2)]
      · rw [if_neg ht, if_neg ht, if_neg ht]
theorem m_writeFile_66 {x : Int64} {m f p L : Nat} {O : Int32} (hf : f < 6) (hp : p ≤ 64) : ∀ q u n st, q = p - u → L ≤ u → q < n → u ≤ 64 → m_S (st.2.2.1 32) →
    ∃ s', f_M_writeFile_66 n 0 O x (Int32.ofNat m) (Int32.ofNat f) (Int32.ofNat p) (Int32.ofNat u) st = f_M_writeFile_96 100 0 O x (Int32.ofNat m) (Int32.ofNat f) (Int32.ofNat p) 0 s' ∧ s'.2 = st.2 ∧ (∀ q, q ≠ 48 → s'.1 q = st.1 q) ∧
      (∀ j, j < 64 → s'.1 48 0 (64 * f + j) = if u ≤ j ∧ j < p then 0 else st.1 48 0 (64 * f + j)) ∧ ∀ k' j, k' ≠ f → j < 64 → s'.1 48 0 (64 * k' + j) = st.1 48 0 (64 * k' + j) := by
  intro q
  induction q with
  | zero =>
    intro u n st hu hL hn hu2 hs
    obtain ⟨n, rfl⟩ : ∃ m, n = m + 1 := ⟨n - 1, by omega⟩
    unfold f_M_writeFile_66
    rw [if_pos (n_up (by omega) (by omega))]
    exact ⟨st, rfl, rfl, fun _ _ => rfl, fun j hj => by rw [if_neg (by omega)], fun _ _ _ _ => rfl⟩
  | succ q ih =>
    intro u n st hu hL hn hu2 hs
    obtain ⟨n, rfl⟩ : ∃ m, n = m + 1 := ⟨n - 1, by omega⟩
    unfold f_M_writeFile_66
    rw [if_neg (n_ge (by omega) (by omega)), hs 16 (by omega)]
    dsimp only
    rw [n_064, if_pos (n_in (by omega) (by omega)), n_to (by omega), n_su]
    obtain ⟨s', g1, g2, g3, g4, g5⟩ := ih (u + 1) n (xsI st 48 0 (64 * f + u) 0) (by omega) (by omega) (by omega) (by omega) hs
    rw [u_Ie] at g4 g5
    refine ⟨s', g1, g2, fun q hq => by rw [g3 q hq, u_I hq], fun j hj => ?_, fun k' j hk' hj => by rw [g5 k' j hk' hj, z_u2 (by omega)]⟩
    rw [g4 j hj]
    by_cases hju : j = u
    · subst hju; rw [if_neg (by omega), if_pos (by omega), z_ue]
    · rw [z_u2 (by omega)]
      by_cases hj3 : u ≤ j ∧ j < p
      · rw [if_pos hj3, if_pos (by omega)]
      · rw [if_neg hj3, if_neg (by omega)]
theorem m_writeFile_96 {x : Int64} {m f p L : Nat} (hf : f < 6) (ho : o < 20) (hp : p + m ≤ 64) (hL : L ≤ 64) (hm : m ≤ 8) : ∀ q t n st, t + q = m → q < n → m_S (st.2.2.1 32) → st.1 47 0 f = Int32.ofNat L →
    ∃ s', f_M_writeFile_96 n 0 (Int32.ofNat o) x (Int32.ofNat m) (Int32.ofNat f) (Int32.ofNat p) (Int32.ofNat t) st = some (Int32.ofNat m, s') ∧ s'.2 = st.2 ∧ (∀ q, q ≠ 40 → q ≠ 47 → q ≠ 48 → s'.1 q = st.1 q) ∧
      s'.1 40 = z_u (st.1 40) 0 o (Int32.ofNat (p + m)) ∧ s'.1 47 = z_u (st.1 47) 0 f (Int32.ofNat (max L (p + m))) ∧
      (∀ j, j < 64 → s'.1 48 0 (64 * f + j) = if p + t ≤ j ∧ j < p + m then z_b x (m - 1 - (j - p)) else st.1 48 0 (64 * f + j)) ∧ ∀ k' j, k' ≠ f → j < 64 → s'.1 48 0 (64 * k' + j) = st.1 48 0 (64 * k' + j) := by
  have h6 : x_in (Int32.ofNat f) 6 := n_in (by omega) hf
  have h20 : x_in (Int32.ofNat o) 20 := n_in (by omega) ho
  intro q
  induction q with
  | zero =>
    intro t n st ht hn hs h47
    obtain ⟨n, rfl⟩ : ∃ m, n = m + 1 := ⟨n - 1, by omega⟩
    have : t = m := by omega
    subst this
    unfold f_M_writeFile_96
    rw [if_pos (n_up (Nat.le_refl t) (by omega)), hs 8 (by omega)]
    simp only [u_RI, if_pos h20, if_pos h6, n_to (show o < 2147483648 by omega), n_to (show f < 2147483648 by omega), hs 15 (by omega)]
    rw [u_I (by omega), h47, n_ad]
    by_cases hc : p + t ≤ L
    · rw [if_pos (n_up hc (by omega)), Nat.max_eq_left hc]
      refine ⟨_, rfl, rfl, fun q h1 h2 h3 => by rw [u_I h2, u_I h1], by rw [u_I (by omega), u_Ie], by rw [u_Ie, u_I (by omega)], fun j hj => ?_, fun k' j _ _ => by rw [u_I (by omega), u_I (by omega)]⟩
      rw [u_I (by omega), u_I (by omega), if_neg (by omega)]
    · rw [if_neg (n_ge (by omega) (by omega)), Nat.max_eq_right (by omega)]
      refine ⟨_, rfl, rfl, fun q h1 h2 h3 => by rw [u_I h2, u_I h1], by rw [u_I (by omega), u_Ie], by rw [u_Ie, u_I (by omega)], fun j hj => ?_, fun k' j _ _ => by rw [u_I (by omega), u_I (by omega)]⟩
      rw [u_I (by omega), u_I (by omega), if_neg (by omega)]
  | succ q ih =>
    intro t n st ht hn hs h47
    obtain ⟨n, rfl⟩ : ∃ m, n = m + 1 := ⟨n - 1, by omega⟩
    unfold f_M_writeFile_96
    rw [if_neg (n_ge (by omega) (by omega)), hs 16 (by omega)]
    dsimp only
    rw [n_064, n_ad, if_pos (n_in (by omega) (by omega)), n_to (by omega), n_su, show Int32.ofNat m - 1 = Int32.ofNat (m - 1) from n_sb (b := 1) (by omega), n_sb (show t ≤ m - 1 by omega), m_b x (show m - 1 - t < 8 by omega)]
    obtain ⟨s', g1, g2, g3, g4, g5, g6, g7⟩ := ih (t + 1) n (xsI st 48 0 (64 * f + p + t) (z_b x (m - 1 - t))) (by omega) (by omega) hs (by rw [u_I (by omega)]; exact h47)
    rw [u_I (by omega)] at g4 g5
    rw [u_Ie] at g6 g7
    refine ⟨s', g1, g2, fun q h1 h2 h3 => by rw [g3 q h1 h2 h3, u_I h3], g4, g5, fun j hj => ?_, fun k' j hk' hj => by rw [g7 k' j hk' hj, z_u2 (by omega)]⟩
    rw [g6 j hj]
    by_cases hju : j = p + t
    · subst hju; rw [if_neg (by omega), if_pos (by omega), show 64 * f + (p + t) = 64 * f + p + t by omega, z_ue, show p + t - p = t by omega]
    · rw [z_u2 (by omega)]
      by_cases hj3 : p + t ≤ j ∧ j < p + m
      · rw [if_pos hj3, if_pos (by omega)]
      · rw [if_neg hj3, if_neg (by omega)]
theorem m_writeFile {x : Int64} {m : Nat} (h : RY 0 a M st) (wo : W_O z_0 a) (wl : W_L N a) (ho : o < 20) (h3 : a.1 1 o = 3) (hm : m ≤ 8) :
    ∃ s', f_M_writeFile 0 (Int32.ofNat o) x (Int32.ofNat m) st = some (if 64 < z_pl a o + m then -7 else Int32.ofNat m, s') ∧ RY 0 (if 64 < z_pl a o + m then a else z_put a o x m) M s' := by
  obtain ⟨w1, w2, w3, w4, w5, w6, w7⟩ := wo o ho
  have hf := w4 h3
  have hl := wl.2.2.1 _ hf
  have hpl := z_pl_le wo wl ho hf
  have h6 : x_in (Int32.ofNat (a.1 2 o)) 6 := n_in (by omega) hf
  have h20 : x_in (Int32.ofNat o) 20 := n_in (by omega) ho
  obtain ⟨p1, p2, p3, p4⟩ := h.1.1.2.2.2.1 o ho
  have hF := h.1.1.2.2.2.2.2.1 _ hf
  by_cases hm0 : m = 0
  · subst hm0
    have e0 : f_M_writeFile 0 (Int32.ofNat o) x (Int32.ofNat 0) st = some (0, st) := if_pos rfl
    rw [e0, if_neg (by omega), if_neg (by omega)]
    refine ⟨st, rfl, ?_⟩
    have he : z_put a o x 0 = a := by
      unfold z_put z_pb
      rw [if_neg (fun z => absurd z.1 (Nat.lt_irrefl 0))]
    rw [he]; exact h
  · have hstep : f_M_writeFile 0 (Int32.ofNat o) x (Int32.ofNat m) st = if 64 < z_pl a o + m then some (-7, st) else f_M_writeFile_66 100 0 (Int32.ofNat o) x (Int32.ofNat m) (Int32.ofNat (a.1 2 o)) (Int32.ofNat (z_pl a o)) (Int32.ofNat (a.1 4 (8 + a.1 2 o))) st := by
      unfold f_M_writeFile
      rw [if_neg (fun z => hm0 ((n_e0 (by omega)).mp z)), h.1.1.1 7 (by omega)]
      simp only [if_pos h20, n_to (show o < 2147483648 by omega), h.1.1.1 9 (by omega), h.1.1.1 8 (by omega), h.1.1.1 15 (by omega)]
      rw [p2, p3, p4]
      simp only [if_pos h6, n_to (show a.1 2 o < 2147483648 by omega)]
      rw [hF.2.2.2.1, n_ad, n_ad]
      unfold z_pl
      by_cases hr : a.2.1 2 o &&& 4 = 0
      · rw [if_pos ((m_r4 _).mpr hr), if_pos hr]
        by_cases hc : a.1 3 o + m ≤ 64
        · rw [if_pos (show Int32.ofNat (a.1 3 o + m) ≤ 64 from (n_le (b := 64) (by omega) (by omega)).mpr hc), if_neg (by omega)]
        · rw [if_neg (show ¬ Int32.ofNat (a.1 3 o + m) ≤ 64 from fun z => hc ((n_le (b := 64) (by omega) (by omega)).mp z)), if_pos (by omega)]
      · rw [if_neg (fun z => hr ((m_r4 _).mp z)), if_neg hr]
        by_cases hc : a.1 4 (8 + a.1 2 o) + m ≤ 64
        · rw [if_pos (show Int32.ofNat (a.1 4 (8 + a.1 2 o) + m) ≤ 64 from (n_le (b := 64) (by omega) (by omega)).mpr hc), if_neg (by omega)]
        · rw [if_neg (show ¬ Int32.ofNat (a.1 4 (8 + a.1 2 o) + m) ≤ 64 from fun z => hc ((n_le (b := 64) (by omega) (by omega)).mp z)), if_pos (by omega)]
    rw [hstep]
    by_cases hc : 64 < z_pl a o + m
    · rw [if_pos hc, if_pos hc, if_pos hc]; exact ⟨st, rfl, h⟩
    · rw [if_neg hc, if_neg hc, if_neg hc]
      obtain ⟨s1, g1, g2, g3, g4, g5⟩ := m_writeFile_66 (x := x) (m := m) (f := a.1 2 o) (p := z_pl a o) (L := a.1 4 (8 + a.1 2 o)) (O := Int32.ofNat o) hf hpl (z_pl a o - a.1 4 (8 + a.1 2 o)) (a.1 4 (8 + a.1 2 o)) 100 st rfl (Nat.le_refl _) (by omega) hl h.1.1.1
      obtain ⟨s2, k1, k2, k3, k4, k5, k6, k7⟩ := m_writeFile_96 (x := x) (m := m) (f := a.1 2 o) (p := z_pl a o) (L := a.1 4 (8 + a.1 2 o)) hf ho (by omega) hl hm m 0 100 s1 (by omega) (by omega) (by rw [g2]; exact h.1.1.1) (by rw [g3 47 (by omega)]; exact hF.2.2.2.1)
      rw [g3 40 (by omega)] at k4
      rw [g3 47 (by omega)] at k5
      rw [g1, show f_M_writeFile_96 100 0 (Int32.ofNat o) x (Int32.ofNat m) (Int32.ofNat (a.1 2 o)) (Int32.ofNat (z_pl a o)) 0 s1 = _ from k1]
      refine ⟨s2, rfl, ?_⟩
      have hput : z_put a o x m = z_pb o x m (aN a 3 o (z_pl a o)) := by
        unfold z_put
        rw [if_pos ⟨Nat.pos_of_ne_zero hm0, h3⟩]
      have e30 : (aN a 3 o (z_pl a o)).1 3 o = z_pl a o := by rw [aN_of, if_pos ⟨rfl, rfl⟩]
      obtain ⟨i1, i2, i3, i4, i5, i6⟩ := z_pb_f (o := o) (x := x) m (aN a 3 o (z_pl a o)) h3
      obtain ⟨r1, r2, r3, r4⟩ := z_pb_r (o := o) (x := x) m (aN a 3 o (z_pl a o))
      rw [e30] at i1 i3 i6
      rw [show (aN a 3 o (z_pl a o)).1 2 o = a.1 2 o from rfl] at i3 i4 i6
      rw [show (aN a 3 o (z_pl a o)).1 4 (8 + a.1 2 o) = a.1 4 (8 + a.1 2 o) from rfl] at i3 i6
      rw [if_neg hm0] at i3
      rw [hput]
      have h2 := RY_ps (o := o) (v := z_pl a o + m) h ho
      have hz : ∀ s k, z_o (z_pb o x m (aN a 3 o (z_pl a o))) s k = z_o a s k := fun s k => z_o_co (b := a) (fun t _ => ⟨r4 1 t (by omega) (by omega) (by omega), r4 2 t (by omega) (by omega) (by omega)⟩) s k
      have hq : ∀ q, q ≠ 40 → q ≠ 47 → q ≠ 48 → s2.1 q = st.1 q := fun q h1 h2 h3 => by rw [k3 q h1 h2 h3, g3 q h3]
      have hs2 : s2.2 = st.2 := by rw [k2, g2]
      have hg := RX_g (b := z_pb o x m (aN a 3 o (z_pl a o))) (s' := s2) h2.1 ?_ ?_ ?_ (by rw [hs2]; rfl) ?_ ?_ (fun q _ => by rw [hs2]; rfl) ?_ r1 r2 r3
      · exact ⟨hg.1, hg.2 h2.2⟩
      · rw [hq 42 (by omega) (by omega) (by omega), hq 43 (by omega) (by omega) (by omega), hq 44 (by omega) (by omega) (by omega)]
        intro k hk
        have := h.1.1.2.2.2.2.1 k hk
        rw [hz, hz, i4 k (by omega)]
        exact ⟨this.1, this.2.1, fun j hj => by rw [i6, if_neg (by omega)]; exact this.2.2 j hj⟩
      · rw [hq 45 (by omega) (by omega) (by omega), hq 46 (by omega) (by omega) (by omega), k5]
        intro f' hf'
        have := h.1.1.2.2.2.2.2.1 f' hf'
        have hl' := wl.2.2.1 f' hf'
        rw [hz, r1]
        by_cases hff : f' = a.1 2 o
        · subst hff
          rw [i3, z_ue]
          refine ⟨this.1, this.2.1, this.2.2.1, rfl, fun j hj => ?_⟩
          rw [k6 j (by omega), i6, if_pos rfl, Nat.add_zero]
          by_cases hj : z_pl a o ≤ j ∧ j < z_pl a o + m
          · rw [if_pos hj, if_pos hj]
          · rw [if_neg hj, if_neg hj, g4 j (by omega)]
            by_cases hj2 : a.1 4 (8 + a.1 2 o) ≤ j ∧ j < z_pl a o
            · rw [if_pos hj2, if_pos ⟨by omega, hj2⟩]
            · rw [if_neg hj2, if_neg (fun z => hj2 z.2)]
              exact this.2.2.2.2 j (by omega)
        · rw [i4 (8 + f') (by omega), z_u2 hff]
          refine ⟨this.1, this.2.1, this.2.2.1, this.2.2.2.1, fun j hj => ?_⟩
          have hj64 : j < 64 := Nat.lt_of_lt_of_le hj hl'
          rw [k7 f' j hff hj64, g5 f' j hff hj64, i6, if_neg (by omega)]
          exact this.2.2.2.2 j hj
      · have := h.1.1.2.2.2.2.2.2.1
        rw [hq 32 (by omega) (by omega) (by omega), hq 49 (by omega) (by omega) (by omega), hq 50 (by omega) (by omega) (by omega), hs2]
        unfold m_C
        rw [i4 20 (by omega), i4 21 (by omega), i5 0]
        exact ⟨this.1, fun j hj => by rw [i6, if_neg (by omega)]; exact this.2.1 j hj, this.2.2.1, fun j hj => by rw [i6, if_neg (by omega)]; exact this.2.2.2 j hj⟩
      · intro q hq'
        by_cases h40 : q = 40
        · subst h40; rw [k4, u_Ie]
        · rw [u_I h40, hq q h40 (by omega) (by omega)]
      · rw [u_I (by omega), hq 32 (by omega) (by omega) (by omega)]
      · intro f' t h4 h5
        by_cases h33 : f' = 3
        · subst h33
          rw [aN_of]
          by_cases ht : t = o
          · rw [if_pos ⟨rfl, ht⟩, ht, i1]
          · rw [if_neg (fun z => ht z.2), i2 t ht, aN_of, if_neg (fun z => ht z.2)]
        · rw [r4 f' t h33 h4 h5, aN_of, if_neg (fun z => h33 z.1), aN_of, if_neg (fun z => h33 z.1)]
theorem z_w_co {r : Bool} {n : Int32} (h1 : b.1 1 o = a.1 1 o) (h2 : b.1 2 o = a.1 2 o) (h3 : b.1 4 20 = a.1 4 20) (h4 : a.1 1 o = 1 ∨ a.1 1 o = 2 → b.1 4 (a.1 2 o) = a.1 4 (a.1 2 o) ∧ z_o b 1 (a.1 2 o) = z_o a 1 (a.1 2 o) ∧ z_o b 2 (a.1 2 o) = z_o a 2 (a.1 2 o)) : z_w b o r n = z_w a o r n := by
  unfold z_w
  rw [h1, h2, h3]
  by_cases hc : a.1 1 o = 1 ∨ a.1 1 o = 2
  · obtain ⟨q1, q2, q3⟩ := h4 hc
    rw [q1, q2, q3]
  · apply decide_eq_decide.mpr
    refine and_congr_right (fun _ => or_congr Iff.rfl ?_)
    exact ⟨fun z => z.elim (fun y => absurd (Or.inl y.1) hc) (fun y => absurd (Or.inr y.1) hc), fun z => z.elim (fun y => absurd (Or.inl y.1) hc) (fun y => absurd (Or.inr y.1) hc)⟩
theorem z_t_lt (wd : W_D a) (wp : W_P a) (hi : i < 8) (hw : 2 ≤ a.1 0 i) : z_t a i < 20 ∧ 0 < z_h a (z_t a i) := by
  obtain ⟨_, _, hx⟩ := wp i hi
  obtain ⟨d, o, hd, ht, hs, _⟩ := hx hw
  have hz : z_t a i = o := by unfold z_t; rw [ht, n_to (by omega), hs]; rfl
  rw [hz]
  exact ⟨wd i hi d hd o hs, z_h_po hi hd hs⟩
theorem z_mw_co (h0 : b.1 0 i = a.1 0 i) (h1 : b.2.1 0 i = a.2.1 0 i) (h2 : b.2.1 1 i = a.2.1 1 i) (h3 : ∀ d, b.2.2.2 i d = a.2.2.2 i d) (hw : ∀ r n, z_w b (z_t a i) r n = z_w a (z_t a i) r n) : z_mw b i = z_mw a i := by
  have hz : z_t b i = z_t a i := by unfold z_t; rw [h1, h3]
  unfold z_mw
  rw [hz, h0, h2, hw]
theorem W_W_f {x : Int64} {m : Nat} (wd : W_D a) (wo : W_O z_0 a) (wp : W_P a) (ww : W_W a) (ho : o < 20) (h3 : a.1 1 o = 3) : W_W (z_put a o x m) := by
  intro j hj h2
  obtain ⟨r1, r2, r3, r4⟩ := z_put_r (a := a) (o := o) (x := x) (m := m)
  rw [r4 0 j (by omega) (by omega) (by omega)] at h2
  have hf := (wo o ho).2.2.2.1 h3
  have hz : ∀ s k, z_o (z_put a o x m) s k = z_o a s k := fun s k => z_o_co (b := a) (fun t _ => ⟨r4 1 t (by omega) (by omega) (by omega), r4 2 t (by omega) (by omega) (by omega)⟩) s k
  have hl : ∀ t, t ≠ 8 + a.1 2 o → (z_put a o x m).1 4 t = a.1 4 t := by
    intro t ht
    unfold z_put
    by_cases hc : 0 < m ∧ a.1 1 o = 3
    · rw [if_pos hc]
      exact (z_pb_f (o := o) (x := x) m (aN a 3 o (z_pl a o)) h3).2.2.2.1 t ht
    · rw [if_neg hc]
      exact (z_pb_f (o := o) (x := x) m a h3).2.2.2.1 t ht
  have htl := z_t_lt wd wp hj h2
  have hwo := wo _ htl.1
  rw [z_mw_co (a := a) (r4 0 j (by omega) (by omega) (by omega)) (by rw [r1]) (by rw [r1]) (fun d => by rw [r3]) (fun r n => z_w_co (r4 1 _ (by omega) (by omega) (by omega)) (r4 2 _ (by omega) (by omega) (by omega)) (hl 20 (by omega)) (fun hk => ⟨hl _ (by have := (hwo.2.2.1 hk).1; omega), hz _ _, hz _ _⟩))]
  exact ww j hj h2
theorem m_write (h : RM a M st) (wd : W_D a) (wo : W_O z_0 a) (wl : W_L N a) (wp : W_P a) (ww : W_W a) (hN : N < 2147483600) (p d : Int32) (x : Int64) (n : Int32) : z_ok (o_write a p d x n) M (f_M_write 0 p d x n st) := by
  have h0 := m_coX h 0
  have wk := W_K_Q (W_O_q wo)
  unfold f_M_write o_write
  rw [m_isReady h.1 wp, m_in8]
  dsimp only
  cases hr : z_r a p with
  | none =>
    dsimp only
    rw [if_pos rfl]
    have e : ∀ y', f_M_write_30 0 p d x n y' 1 (some 0) st = some (0, xsI st 32 0 0 1) := fun y' => by
      unfold f_M_write_30
      dsimp only
      rw [m_f1]
      dsimp only
      rw [if_neg (c := (1 : Int32) = 0) (by decide)]
    rw [e, e, ite_self]
    exact z_ok_1 h
  | some i =>
    obtain ⟨hi, rfl, hl⟩ := z_r_so hr
    dsimp only
    rw [if_neg (c := (1 : Int32) = 0) (by decide)]
    rcases n_ca n 9 with ⟨m, hm, hm', rfl⟩ | hno
    · have h9 : x_in (Int32.ofNat m) 9 := n_in hm' hm
      rw [if_pos h9, if_pos h9, if_neg (c := (1 : Int32) = 0) (by decide)]
      unfold f_M_write_30
      dsimp only
      rw [m_f0]
      dsimp only
      rw [if_pos rfl, m_openingOf h0.1.1 hi]
      dsimp only
      cases hd : z_d a i d with
      | none => exact z_ok_0 h0
      | some o =>
        obtain ⟨j, hj, rfl, hs⟩ := z_d_so hd
        have ho := wd i hi j hj o hs
        have hk : 0 < a.1 1 o := (wo o ho).1.mpr (by have := z_h_po hi hj hs; omega)
        obtain ⟨wk1, wk2⟩ := wk o ho
        obtain ⟨w1, w2, w3, w4, w5, w6, w7⟩ := wo o ho
        obtain ⟨p1, p2, p3, p4⟩ := h0.1.1.2.2.2.1 o ho
        have h20 : x_in (Int32.ofNat o) 20 := n_in (by omega) ho
        rw [show z_e (some o) = Int32.ofNat o from rfl, if_neg (n_ng (show o < 2147483648 by omega)), h0.1.1.1 9 (by omega)]
        simp only [if_pos h20, n_to (show o < 2147483648 by omega), n_to hm', h0.1.1.1 7 (by omega), h0.1.1.1 6 (by omega)]
        rw [p4, p1, p2]
        by_cases hb : a.2.1 2 o &&& 2 = 0
        · rw [if_pos hb, if_pos hb]; exact z_ok_0 h0
        · rw [if_neg hb, if_neg hb]
          have e98 : ¬ (a.1 1 o = 2 ∧ z_o a 1 (a.1 2 o) = 0) → z_ok (if z_w a o false (Int32.ofNat m) = true then (0, -6, z_wt a i 3 (Int32.ofNat j) (Int32.ofNat m)) else if a.1 1 o = 3 ∧ 64 < z_pl a o + m then (0, -7, a) else (0, Int32.ofNat m, (z_k 8 0 (z_put a o x m)).2)) M
              (f_M_write_98 0 (Int32.ofNat i) (Int32.ofNat j) x (Int32.ofNat m) (Int32.ofNat o) (Int32.ofNat (a.1 2 o)) (xsI st 32 0 0 0)) := by
            intro hb5
            unfold f_M_write_98
            rw [h0.1.1.1 6 (by omega)]
            simp only [if_pos h20, n_to (show o < 2147483648 by omega)]
            rw [p1]
            by_cases h3 : a.1 1 o = 3
            · rw [if_pos ((n_e3 (by omega)).mpr h3), z_w_3 h3, if_neg (c := false = true) (by decide)]
              obtain ⟨s1, g1, g2⟩ := m_writeFile (x := x) h0 wo wl ho h3 (show m ≤ 8 by omega)
              rw [g1]
              dsimp only
              by_cases hc : 64 < z_pl a o + m
              · rw [if_pos ⟨h3, hc⟩]
                rw [if_pos hc] at g2
                rw [if_pos hc]
                exact z_ok_0 g2
              · rw [if_neg (c := a.1 1 o = 3 ∧ _) (fun z => hc z.2), if_neg hc]
                rw [if_neg hc] at g2
                rw [z_k_id 8 0 (fun j _ hj h2 => W_W_f wd wo wp ww ho h3 j (by omega) h2)]
                exact z_ok_0 g2
            · rw [if_neg (fun z => h3 ((n_e3 (by omega)).mp z))]
              have hw := m_waits h0.1.1 wk (fun k hk => (wl.2.1 k hk).1) ho (show m ≤ 8 by omega) false wl.2.2.2.1
              rw [show f_M_waits 0 (Int32.ofNat o) 0 (Int32.ofNat m) (xsI st 32 0 0 0) = _ from hw]
              dsimp only
              by_cases hz : z_w a o false (Int32.ofNat m) = true
              · rw [if_pos hz, if_pos hz, if_neg (c := (1 : Int32) = 0) (by decide)]
                obtain ⟨s1, g1, g2⟩ := m_waitFor (l := 3) (x := Int32.ofNat j) (n := Int32.ofNat m) h0 hi
                rw [show f_M_waitFor 0 (Int32.ofNat i) (Int32.ofNat j) (Int32.ofNat m) 3 (xsI st 32 0 0 0) = _ from g1]
                exact z_ok_0 g2
              · rw [if_neg hz, if_neg hz, if_pos rfl, if_neg (c := a.1 1 o = 3 ∧ _) (fun z => h3 z.1)]
                obtain ⟨q1, q2, q3, q4⟩ := z_put_ok wo wl ho hk (show m ≤ 8 by omega) hb5 hb hz (fun z => h3 z.1)
                rw [if_neg (c := 0 < m ∧ _) (fun z => h3 z.2)] at q4
                have hkk : a.1 1 o = 2 ∨ a.1 1 o = 4 := by
                  have hcs : a.1 1 o = 1 ∨ a.1 1 o = 2 ∨ a.1 1 o = 4 := by omega
                  rcases hcs with hc | hc | hc
                  · have := (w3 (Or.inl hc)).2
                    rw [hc] at this
                    rw [this] at hb
                    exact absurd (by decide) hb
                  · exact Or.inl hc
                  · exact Or.inr hc
                obtain ⟨s1, g1, g2⟩ := m_write_147 (x := x) (v := Int32.ofNat m) (K := Int32.ofNat (a.1 2 o)) ho m 100 N a _ (by omega) (by omega) h0 wd wo wl wp hkk q4 (by omega) (fun _ => rfl)
                rw [g1]
                have he : z_put a o x m = z_pb o x m a := by
                  unfold z_put
                  rw [if_neg (fun z => h3 z.2)]
                rw [he]
                exact z_ok_0 g2
          by_cases h2 : a.1 1 o = 2
          · rw [if_pos ((n_e2 (by omega)).mpr h2)]
            have hz1 := z_o_le a 1 (a.1 2 o)
            rw [show f_M_openings 0 1 (Int32.ofNat (a.1 2 o)) (xsI st 32 0 0 0) = some (Int32.ofNat (z_o a 1 (a.1 2 o))) from m_openings (s := 1) h0.1.1.1 (m_OO h0.1.1) wk (by omega) (wk2 (by omega))]
            dsimp only
            by_cases hq : z_o a 1 (a.1 2 o) = 0
            · rw [if_pos (show a.1 1 o = 2 ∧ z_o a 1 (a.1 2 o) = 0 from ⟨h2, hq⟩), if_pos ((n_e0 (by omega)).mpr hq)]; exact z_ok_0 h0
            · rw [if_neg (c := a.1 1 o = 2 ∧ _) (fun z => hq z.2), if_neg (fun z => hq ((n_e0 (by omega)).mp z))]
              exact e98 (fun z => hq z.2)
          · rw [if_neg (fun z => h2 ((n_e2 (by omega)).mp z)), if_neg (c := a.1 1 o = 2 ∧ _) (fun z => h2 z.1)]
            exact e98 (fun z => h2 z.1)
    · rw [if_neg hno, if_neg hno, if_pos rfl]
      unfold f_M_write_30
      dsimp only
      rw [m_f2]
      dsimp only
      rw [if_neg (c := (1 : Int32) = 0) (by decide)]
      exact z_ok_2 h
end
