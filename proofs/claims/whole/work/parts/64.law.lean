/-! THE LAW HOLDS for every script -/
theorem n_6 {L i : Nat} (hL : L ≤ 3072) (hi : i ≤ 4000) : ((Int32.ofNat L - 6) < Int32.ofNat i) ↔ L < i + 6 := by
  by_cases h6 : 6 ≤ L
  · rw [show Int32.ofNat L - 6 = Int32.ofNat (L - 6) from n_sb (b := 6) h6, n_lt (by omega) (by omega)]
    omega
  · refine ⟨fun _ => by omega, fun _ => ?_⟩
    have h0 : Int32.ofNat L - 6 < 0 := by
      have hc : L = 0 ∨ L = 1 ∨ L = 2 ∨ L = 3 ∨ L = 4 ∨ L = 5 := by omega
      rcases hc with rfl | rfl | rfl | rfl | rfl | rfl <;> decide
    exact Int32.lt_of_lt_of_le h0 (n_u0 (by omega))
section
variable {a : AS} {st : XS} {K L i n : Nat} {xs : Nat → Int32}
set_option maxHeartbeats 4000000 in
theorem l_step (h : RL a st) (w : WF K a) (hK : K < 2147483600) (hL : L ≤ 3072) (hi : i + 6 ≤ L) :
    ∃ a' s', RL a' s' ∧ WF (K + 8) a' ∧ f_L_law_23 L xs (n + 1) (some 0) (some 0) (some 0) (Int32.ofNat i) st = f_L_law_23 L xs n (some 0) (some 0) (some 0) (Int32.ofNat (i + 6)) s' := by
  have hx0 : x_in (Int32.ofNat i) L := n_in (by omega) (by omega)
  have hx1 : x_in (Int32.ofNat (i + 1)) L := n_in (by omega) (by omega)
  have hx2 : x_in (Int32.ofNat (i + 2)) L := n_in (by omega) (by omega)
  have hx3 : x_in (Int32.ofNat (i + 3)) L := n_in (by omega) (by omega)
  have hx4 : x_in (Int32.ofNat (i + 4)) L := n_in (by omega) (by omega)
  have hx5 : x_in (Int32.ofNat (i + 5)) L := n_in (by omega) (by omega)
  have e1 : Int32.ofNat i + 1 = Int32.ofNat (i + 1) := n_ad i 1
  have e2 : Int32.ofNat i + 2 = Int32.ofNat (i + 2) := n_ad i 2
  have e3 : Int32.ofNat i + 3 = Int32.ofNat (i + 3) := n_ad i 3
  have e4 : Int32.ofNat i + 4 = Int32.ofNat (i + 4) := n_ad i 4
  have e5 : Int32.ofNat i + 5 = Int32.ofNat (i + 5) := n_ad i 5
  have e6 : Int32.ofNat i + 6 = Int32.ofNat (i + 6) := n_ad i 6
  rw [f_L_law_23]
  rw [if_neg (fun z => absurd ((n_6 hL (by omega)).mp z) (by omega)), if_pos hx0, n_to (show i < 2147483648 by omega), e6]
  by_cases h0 : xs i &&& 31 = 0
  · rw [if_pos h0]
    obtain ⟨s1, s2, g1, g2, g3⟩ := l_spawn h w
    dsimp only
    rw [g1]
    dsimp only
    rw [g2]
    dsimp only
    rw [if_pos rfl]
    exact ⟨_, s2, g3, WF_8 (w_spawn w), rfl⟩
  rw [if_neg h0]
  by_cases h1 : xs i &&& 31 = 1
  · rw [if_pos h1]
    obtain ⟨s5, b, s2, g1, g2, g3, g4, g5⟩ := l_fork h w (xs (i + 1))
    simp only [e1, if_pos hx1, n_to (show i + 1 < 2147483648 by omega)]
    rw [g1]
    dsimp only
    rw [g2]
    unfold f_M_thrown
    dsimp only
    rw [g3, if_pos rfl]
    by_cases hz : (o_fork a (xs (i + 1))).1 = 0
    · rw [if_pos hz, if_pos x_01, show (0 : Int32).toNatClampNeg = 0 from rfl, g4 hz, l_eq, if_pos rfl]
      exact ⟨_, s2, g5, WF_8 (w_fork w (xs (i + 1))), rfl⟩
    · rw [if_neg hz]
      exact ⟨_, s2, g5, WF_8 (w_fork w (xs (i + 1))), rfl⟩
  rw [if_neg h1]
  by_cases h2 : xs i &&& 31 = 2
  · rw [if_pos h2]
    obtain ⟨s5, b, s2, g1, g2, g3, g4, g5⟩ := l_exit h w (xs (i + 1))
    simp only [e1, if_pos hx1, n_to (show i + 1 < 2147483648 by omega)]
    rw [g1]
    dsimp only
    rw [g2]
    unfold f_M_thrown
    dsimp only
    rw [g3, if_pos rfl]
    by_cases hz : (o_exit a (xs (i + 1))).1 = 0
    · rw [if_pos hz, if_pos x_01, show (0 : Int32).toNatClampNeg = 0 from rfl, g4 hz, l_eq, if_pos rfl]
      exact ⟨_, s2, g5, WF_8 (w_exit w (xs (i + 1))), rfl⟩
    · rw [if_neg hz]
      exact ⟨_, s2, g5, WF_8 (w_exit w (xs (i + 1))), rfl⟩
  rw [if_neg h2]
  by_cases h3 : xs i &&& 31 = 3
  · rw [if_pos h3]
    obtain ⟨s5, b, s2, g1, g2, g3, g4, g5⟩ := l_open h w (xs (i + 1)) (xs (i + 2)) (xs (i + 3))
    simp only [e1, e2, e3, if_pos hx1, if_pos hx2, if_pos hx3, n_to (show i + 1 < 2147483648 by omega), n_to (show i + 2 < 2147483648 by omega), n_to (show i + 3 < 2147483648 by omega)]
    rw [g1]
    dsimp only
    rw [g2]
    unfold f_M_thrown
    dsimp only
    rw [g3, if_pos rfl]
    by_cases hz : (o_open a (xs (i + 1)) (xs (i + 2)) (xs (i + 3))).1 = 0
    · rw [if_pos hz, if_pos x_01, show (0 : Int32).toNatClampNeg = 0 from rfl, g4 hz, l_eq, if_pos rfl]
      exact ⟨_, s2, g5, WF_8 (w_open w (xs (i + 1)) (xs (i + 2)) (xs (i + 3))), rfl⟩
    · rw [if_neg hz]
      exact ⟨_, s2, g5, WF_8 (w_open w (xs (i + 1)) (xs (i + 2)) (xs (i + 3))), rfl⟩
  rw [if_neg h3]
  by_cases h4 : xs i &&& 31 = 4
  · rw [if_pos h4]
    obtain ⟨s5, b, s2, g1, g2, g3, g4, g5⟩ := l_pipe h w (xs (i + 1))
    simp only [e1, if_pos hx1, n_to (show i + 1 < 2147483648 by omega)]
    rw [g1]
    dsimp only
    rw [g2]
    unfold f_M_thrown
    dsimp only
    rw [g3, if_pos rfl]
    by_cases hz : (o_pipe a (xs (i + 1))).1 = 0
    · rw [if_pos hz, if_pos x_01, show (0 : Int32).toNatClampNeg = 0 from rfl, g4 hz, l_eq, if_pos rfl]
      exact ⟨_, s2, g5, WF_8 (w_pipe w (xs (i + 1))), rfl⟩
    · rw [if_neg hz]
      exact ⟨_, s2, g5, WF_8 (w_pipe w (xs (i + 1))), rfl⟩
  rw [if_neg h4]
  by_cases h5 : xs i &&& 31 = 5
  · rw [if_pos h5]
    obtain ⟨s5, b, s2, g1, g2, g3, g4, g5⟩ := l_read h w (xs (i + 1)) (xs (i + 2)) (xs (i + 3))
    simp only [e1, e2, e3, if_pos hx1, if_pos hx2, if_pos hx3, n_to (show i + 1 < 2147483648 by omega), n_to (show i + 2 < 2147483648 by omega), n_to (show i + 3 < 2147483648 by omega)]
    rw [g1]
    dsimp only
    rw [g2]
    unfold f_M_thrown
    dsimp only
    rw [g3, if_pos rfl]
    by_cases hz : (o_read a (xs (i + 1)) (xs (i + 2)) (xs (i + 3))).1 = 0
    · rw [if_pos hz, if_pos x_01, show (0 : Int32).toNatClampNeg = 0 from rfl, g4 hz, l_eq, if_pos rfl]
      exact ⟨_, s2, g5, WF_8 (w_read w (xs (i + 1)) (xs (i + 2)) (xs (i + 3))), rfl⟩
    · rw [if_neg hz]
      exact ⟨_, s2, g5, WF_8 (w_read w (xs (i + 1)) (xs (i + 2)) (xs (i + 3))), rfl⟩
  rw [if_neg h5]
  by_cases h6 : xs i &&& 31 = 6
  · rw [if_pos h6]
    simp only [e1, if_pos hx1, n_to (show i + 1 < 2147483648 by omega)]
    rw [c_given h.1 w.2.2.2.1 (xs (i + 1))]
    dsimp only
    rw [m_given h.2 w.2.2.2.1 (xs (i + 1))]
    dsimp only
    rw [l_eq, if_pos rfl]
    exact ⟨a, _, l_0 h, WF_8 w, rfl⟩
  rw [if_neg h6]
  by_cases h7 : xs i &&& 31 = 7
  · rw [if_pos h7]
    obtain ⟨s5, b, s2, g1, g2, g3, g4, g5⟩ := l_write h w hK (xs (i + 1)) (xs (i + 2)) (((xs (i + 3)).toInt64 <<< ((32 : Int32).toInt64 &&& 63)) ||| ((xs (i + 4)).toInt64 &&& (4294967295 : Int64))) (xs (i + 5))
    simp only [e1, e2, e3, e4, e5, if_pos hx1, if_pos hx2, if_pos hx3, if_pos hx4, if_pos hx5, n_to (show i + 1 < 2147483648 by omega), n_to (show i + 2 < 2147483648 by omega), n_to (show i + 3 < 2147483648 by omega), n_to (show i + 4 < 2147483648 by omega), n_to (show i + 5 < 2147483648 by omega)]
    rw [g1]
    dsimp only
    rw [g2]
    unfold f_M_thrown
    dsimp only
    rw [g3, if_pos rfl]
    by_cases hz : (o_write a (xs (i + 1)) (xs (i + 2)) (((xs (i + 3)).toInt64 <<< ((32 : Int32).toInt64 &&& 63)) ||| ((xs (i + 4)).toInt64 &&& (4294967295 : Int64))) (xs (i + 5))).1 = 0
    · rw [if_pos hz, if_pos x_01, show (0 : Int32).toNatClampNeg = 0 from rfl, g4 hz, l_eq, if_pos rfl]
      exact ⟨_, s2, g5, w_write w (xs (i + 1)) (xs (i + 2)) (((xs (i + 3)).toInt64 <<< ((32 : Int32).toInt64 &&& 63)) ||| ((xs (i + 4)).toInt64 &&& (4294967295 : Int64))) (xs (i + 5)), rfl⟩
    · rw [if_neg hz]
      exact ⟨_, s2, g5, w_write w (xs (i + 1)) (xs (i + 2)) (((xs (i + 3)).toInt64 <<< ((32 : Int32).toInt64 &&& 63)) ||| ((xs (i + 4)).toInt64 &&& (4294967295 : Int64))) (xs (i + 5)), rfl⟩
  rw [if_neg h7]
  by_cases h8 : xs i &&& 31 = 8
  · rw [if_pos h8]
    obtain ⟨s5, b, s2, g1, g2, g3, g4, g5⟩ := l_close h w (xs (i + 1)) (xs (i + 2))
    simp only [e1, e2, if_pos hx1, if_pos hx2, n_to (show i + 1 < 2147483648 by omega), n_to (show i + 2 < 2147483648 by omega)]
    rw [g1]
    dsimp only
    rw [g2]
    unfold f_M_thrown
    dsimp only
    rw [g3, if_pos rfl]
    by_cases hz : (o_close a (xs (i + 1)) (xs (i + 2))).1 = 0
    · rw [if_pos hz, if_pos x_01, show (0 : Int32).toNatClampNeg = 0 from rfl, g4 hz, l_eq, if_pos rfl]
      exact ⟨_, s2, g5, WF_8 (w_close w (xs (i + 1)) (xs (i + 2))), rfl⟩
    · rw [if_neg hz]
      exact ⟨_, s2, g5, WF_8 (w_close w (xs (i + 1)) (xs (i + 2))), rfl⟩
  rw [if_neg h8]
  by_cases h9 : xs i &&& 31 = 9
  · rw [if_pos h9]
    obtain ⟨s5, b, s2, g1, g2, g3, g4, g5⟩ := l_dup h w (xs (i + 1)) (xs (i + 2)) (xs (i + 3))
    simp only [e1, e2, e3, if_pos hx1, if_pos hx2, if_pos hx3, n_to (show i + 1 < 2147483648 by omega), n_to (show i + 2 < 2147483648 by omega), n_to (show i + 3 < 2147483648 by omega)]
    rw [g1]
    dsimp only
    rw [g2]
    unfold f_M_thrown
    dsimp only
    rw [g3, if_pos rfl]
    by_cases hz : (o_dup a (xs (i + 1)) (xs (i + 2)) (xs (i + 3))).1 = 0
    · rw [if_pos hz, if_pos x_01, show (0 : Int32).toNatClampNeg = 0 from rfl, g4 hz, l_eq, if_pos rfl]
      exact ⟨_, s2, g5, WF_8 (w_dup w (xs (i + 1)) (xs (i + 2)) (xs (i + 3))), rfl⟩
    · rw [if_neg hz]
      exact ⟨_, s2, g5, WF_8 (w_dup w (xs (i + 1)) (xs (i + 2)) (xs (i + 3))), rfl⟩
  rw [if_neg h9]
  by_cases h10 : xs i &&& 31 = 10
  · rw [if_pos h10]
    obtain ⟨s5, b, s2, g1, g2, g3, g4, g5⟩ := l_seek h w (xs (i + 1)) (xs (i + 2)) (xs (i + 3)) (xs (i + 4))
    simp only [e1, e2, e3, e4, if_pos hx1, if_pos hx2, if_pos hx3, if_pos hx4, n_to (show i + 1 < 2147483648 by omega), n_to (show i + 2 < 2147483648 by omega), n_to (show i + 3 < 2147483648 by omega), n_to (show i + 4 < 2147483648 by omega)]
    rw [g1]
    dsimp only
    rw [g2]
    unfold f_M_thrown
    dsimp only
    rw [g3, if_pos rfl]
    by_cases hz : (o_seek a (xs (i + 1)) (xs (i + 2)) (xs (i + 3)) (xs (i + 4))).1 = 0
    · rw [if_pos hz, if_pos x_01, show (0 : Int32).toNatClampNeg = 0 from rfl, g4 hz, l_eq, if_pos rfl]
      exact ⟨_, s2, g5, WF_8 (w_seek w (xs (i + 1)) (xs (i + 2)) (xs (i + 3)) (xs (i + 4))), rfl⟩
    · rw [if_neg hz]
      exact ⟨_, s2, g5, WF_8 (w_seek w (xs (i + 1)) (xs (i + 2)) (xs (i + 3)) (xs (i + 4))), rfl⟩
  rw [if_neg h10]
  by_cases h11 : xs i &&& 31 = 11
  · rw [if_pos h11]
    obtain ⟨s5, b, s2, g1, g2, g3, g4, g5⟩ := l_unlink h w (xs (i + 1)) (xs (i + 2))
    simp only [e1, e2, if_pos hx1, if_pos hx2, n_to (show i + 1 < 2147483648 by omega), n_to (show i + 2 < 2147483648 by omega)]
    rw [g1]
    dsimp only
    rw [g2]
    unfold f_M_thrown
    dsimp only
    rw [g3, if_pos rfl]
    by_cases hz : (o_unlink a (xs (i + 1)) (xs (i + 2))).1 = 0
    · rw [if_pos hz, if_pos x_01, show (0 : Int32).toNatClampNeg = 0 from rfl, g4 hz, l_eq, if_pos rfl]
      exact ⟨_, s2, g5, WF_8 (w_unlink w (xs (i + 1)) (xs (i + 2))), rfl⟩
    · rw [if_neg hz]
      exact ⟨_, s2, g5, WF_8 (w_unlink w (xs (i + 1)) (xs (i + 2))), rfl⟩
  rw [if_neg h11]
  by_cases h12 : xs i &&& 31 = 12
  · rw [if_pos h12]
    obtain ⟨s5, b, s2, g1, g2, g3, g4, g5⟩ := l_rename h w (xs (i + 1)) (xs (i + 2)) (xs (i + 3))
    simp only [e1, e2, e3, if_pos hx1, if_pos hx2, if_pos hx3, n_to (show i + 1 < 2147483648 by omega), n_to (show i + 2 < 2147483648 by omega), n_to (show i + 3 < 2147483648 by omega)]
    rw [g1]
    dsimp only
    rw [g2]
    unfold f_M_thrown
    dsimp only
    rw [g3, if_pos rfl]
    by_cases hz : (o_rename a (xs (i + 1)) (xs (i + 2)) (xs (i + 3))).1 = 0
    · rw [if_pos hz, if_pos x_01, show (0 : Int32).toNatClampNeg = 0 from rfl, g4 hz, l_eq, if_pos rfl]
      exact ⟨_, s2, g5, WF_8 (w_rename w (xs (i + 1)) (xs (i + 2)) (xs (i + 3))), rfl⟩
    · rw [if_neg hz]
      exact ⟨_, s2, g5, WF_8 (w_rename w (xs (i + 1)) (xs (i + 2)) (xs (i + 3))), rfl⟩
  rw [if_neg h12]
  by_cases h13 : xs i &&& 31 = 13
  · rw [if_pos h13]
    obtain ⟨s5, b, s2, g1, g2, g3, g4, g5⟩ := l_type h w (xs (i + 1))
    simp only [e1, if_pos hx1, n_to (show i + 1 < 2147483648 by omega)]
    rw [g1]
    dsimp only
    rw [g2]
    unfold f_M_thrown
    dsimp only
    rw [g3, if_pos rfl]
    by_cases hz : (o_type a (xs (i + 1))).1 = 0
    · rw [if_pos hz, if_pos x_01, show (0 : Int32).toNatClampNeg = 0 from rfl, g4 hz, l_eq, if_pos rfl]
      exact ⟨_, s2, g5, WF_8 (w_type w (xs (i + 1))), rfl⟩
    · rw [if_neg hz]
      exact ⟨_, s2, g5, WF_8 (w_type w (xs (i + 1))), rfl⟩
  rw [if_neg h13]
  by_cases h14 : xs i &&& 31 = 14
  · rw [if_pos h14]
    simp only [e1, if_pos hx1, n_to (show i + 1 < 2147483648 by omega)]
    rw [c_shown h.1 w.2.2.1 (xs (i + 1))]
    dsimp only
    rw [m_shown h.2 w.2.2.1 (by omega) (xs (i + 1))]
    dsimp only
    rw [if_pos rfl]
    exact ⟨a, _, l_0 h, WF_8 w, rfl⟩
  rw [if_neg h14]
  by_cases h15 : xs i &&& 31 = 15
  · rw [if_pos h15]
    simp only [e1, e2, if_pos hx1, if_pos hx2, n_to (show i + 1 < 2147483648 by omega), n_to (show i + 2 < 2147483648 by omega)]
    rw [c_state h.1 w.2.2.2.1 (xs (i + 1)) (xs (i + 2))]
    dsimp only
    rw [m_state h.2 w.2.2.2.1 (xs (i + 1)) (xs (i + 2))]
    dsimp only
    rw [if_pos rfl]
    exact ⟨a, _, l_0 h, WF_8 w, rfl⟩
  rw [if_neg h15]
  by_cases h16 : xs i &&& 31 = 16
  · rw [if_pos h16]
    simp only [e1, e2, e3, if_pos hx1, if_pos hx2, if_pos hx3, n_to (show i + 1 < 2147483648 by omega), n_to (show i + 2 < 2147483648 by omega), n_to (show i + 3 < 2147483648 by omega)]
    rw [c_about h.1 w.1 w.2.1 (xs (i + 1)) (xs (i + 2)) (xs (i + 3))]
    dsimp only
    rw [m_about h.2 w.1 w.2.1 (xs (i + 1)) (xs (i + 2)) (xs (i + 3))]
    dsimp only
    rw [if_pos rfl]
    exact ⟨a, _, l_0 h, WF_8 w, rfl⟩
  rw [if_neg h16]
  by_cases h17 : xs i &&& 31 = 17
  · rw [if_pos h17]
    simp only [e1, if_pos hx1, n_to (show i + 1 < 2147483648 by omega)]
    rw [c_count h.1 w.1 w.2.1 w.2.2.2.1 (xs (i + 1))]
    dsimp only
    rw [m_count h.2 w.1 w.2.1 w.2.2.1 w.2.2.2.1 (by omega) (xs (i + 1))]
    dsimp only
    rw [if_pos rfl]
    exact ⟨a, _, l_0 h, WF_8 w, rfl⟩
  rw [if_neg h17]
  exact ⟨a, st, h, WF_8 w, rfl⟩
theorem l_loop (hL : L ≤ 3072) : ∀ m n i K a st, RL a st → WF K a → K + 8 * m < 2147483600 → i ≤ 4000 → L < i + 6 * (m + 1) → m < n → f_L_law_23 L xs n (some 0) (some 0) (some 0) (Int32.ofNat i) st = some 1 := by
  intro m
  induction m with
  | zero =>
    intro n i K a st h w hK hi hm hn
    obtain ⟨n, rfl⟩ : ∃ m, n = m + 1 := ⟨n - 1, by omega⟩
    rw [f_L_law_23]
    rw [if_pos ((n_6 hL hi).mpr (by omega))]
  | succ m ih =>
    intro n i K a st h w hK hi hm hn
    obtain ⟨n, rfl⟩ : ∃ m, n = m + 1 := ⟨n - 1, by omega⟩
    by_cases hc : L < i + 6
    · rw [f_L_law_23]
      rw [if_pos ((n_6 hL hi).mpr hc)]
    · obtain ⟨a', s', g1, g2, g3⟩ := l_step (n := n) (i := i) (xs := xs) h w (by omega) hL (by omega)
      rw [g3]
      exact ih n (i + 6) (K + 8) a' s' g1 g2 (by omega) (by omega) (by omega) (by omega)
/-- the law says 1 of every script -/
theorem l_law (hL : L ≤ 3072) : f_L_law L xs z_S0 = some 1 := by
  rw [s_law]
  exact l_loop hL 512 600 0 0 z_a0 z_S3 s_RL s_WF (by omega) (by omega) (by omega) (by omega)
end
