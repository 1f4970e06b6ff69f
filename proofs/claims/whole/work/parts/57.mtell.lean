/-! THE REFERENCE TELLS: given, shown, state, about -/
section
variable {c : Int32} {a b : AS} {M st : XS} {i d o N w : Nat}
theorem m_given (h : RM a M st) (wp : W_P a) (p : Int32) : f_M_given 0 p st = some (q_given a p, xsI st 32 0 0 0) := by
  have h0 := m_coX h 0
  unfold f_M_given q_given
  rw [m_isThere h0.1.1 wp]
  dsimp only
  by_cases hc : x_in p 8 ∧ a.1 0 p.toNatClampNeg ≠ 0
  · rw [if_pos hc, if_pos hc, if_neg (c := (1 : Int32) = 0) (by decide), h0.1.1.1 5 (by omega)]
    dsimp only
    rw [if_pos hc.1, (h0.1.1.2.1 _ hc.1.2).2.2.2]
  · rw [if_neg hc, if_neg hc, if_pos rfl]
theorem l_k {k : Nat} (hk : k < 2147483648) : (Int32.ofNat k).toInt64.toInt = k := by
  rw [Int32.toInt_toInt64, n_int hk]
theorem m_shown (h : RM a M st) (wl : W_L N a) (hN : N < 2147483647) (k : Int32) : f_M_shown 0 k st = some (q_shown a k, xsI st 32 0 0 0) := by
  have h0 := m_coX h 0
  have hC := h0.1.1.2.2.2.2.2.2.1
  have l5 := wl.2.2.2.2.1
  have l6 := wl.2.2.2.2.2
  have e26 : ∀ s0 : Int64, s0.toInt = ((a.1 4 21 : Nat) : Int) → f_M_shown_26 0 k s0 (xsI st 32 0 0 0) = some (q_shown a k, xsI st 32 0 0 0) := by
    intro s0 hs0
    unfold f_M_shown_26 q_shown
    rcases n_ca k (a.1 4 21) with ⟨j, hj, hj', rfl⟩ | hx
    · rw [if_neg (n_ng hj'), if_pos ((l_cmp _ _).1.mpr (by rw [l_k hj', hs0]; omega)), h0.1.1.1 20 (by omega)]
      dsimp only
      rw [if_pos (n_in hj' (show j < 60 by omega)), if_pos (n_in hj' hj), n_to hj', hC.2.2.2 j hj]
    · rw [if_neg (c := x_in k (a.1 4 21)) hx]
      by_cases h1 : k < 0
      · rw [if_pos h1]
      · rw [if_neg h1]
        have h2 : Int32.ofNat k.toNatClampNeg = k := Int32.ofNat_toNatClampNeg k (Int32.not_lt.mp h1)
        have h3 : ¬ k.toNatClampNeg < a.1 4 21 := fun z => hx ⟨h1, z⟩
        have h4 : k.toInt64.toInt = (k.toNatClampNeg : Int) := by
          have := l_k (k := k.toNatClampNeg) (by have := Int32.toNatClampNeg_lt k; omega)
          rw [h2] at this
          exact this
        rw [if_neg (fun z => by have := (l_cmp _ _).1.mp z; rw [h4, hs0] at this; omega)]
  unfold f_M_shown
  rw [hC.2.2.1]
  by_cases hc : 60 ≤ a.1 5 0
  · rw [if_pos ((l_cmp _ _).2.mpr (by rw [l_60, l_int (by omega)]; omega))]
    exact e26 60 (by rw [l_60, l5, Nat.min_eq_right hc]; rfl)
  · rw [if_neg (fun z => hc (by have := (l_cmp _ _).2.mp z; rw [l_60, l_int (by omega)] at this; omega))]
    exact e26 _ (by rw [l_int (by omega), l5, Nat.min_eq_left (by omega)])
theorem m_state (h : RM a M st) (wp : W_P a) (p x : Int32) : f_M_state 0 p x st = some (q_state a p x, xsI st 32 0 0 0) := by
  have h0 := m_coX h 0
  unfold f_M_state q_state
  rw [m_isThere h0.1.1 wp]
  dsimp only
  by_cases hc : x_in p 8 ∧ a.1 0 p.toNatClampNeg ≠ 0
  · have hp := h0.1.1.2.1 _ hc.1.2
    rw [if_pos hc, if_pos hc, h0.1.1.1 1 (by omega), h0.1.1.1 2 (by omega), h0.1.1.1 3 (by omega)]
    simp only [if_pos hc.1, hp.1, hp.2.1, hp.2.2.1, i_10, if_false]
    split
    · rfl
    · split
      · rfl
      · split <;> rfl
  · rw [if_neg hc, if_neg hc]
    simp only [i_00, if_true]
    split
    · rfl
    · split
      · rfl
      · split <;> rfl
theorem n_i4 (x : Int32) : (¬ x < 0 ∧ x ≤ 4) ↔ x = 0 ∨ x = 1 ∨ x = 2 ∨ x = 3 ∨ x = 4 := by
  constructor
  · rintro ⟨h1, h2⟩
    have h3 : Int32.ofNat x.toNatClampNeg = x := Int32.ofNat_toNatClampNeg x (Int32.not_lt.mp h1)
    have h4 : x.toNatClampNeg ≤ 4 := by
      rw [← h3] at h2
      exact (n_le (b := 4) (by have := Int32.toNatClampNeg_lt x; omega) (by omega)).mp h2
    rw [← h3]
    have h5 : x.toNatClampNeg = 0 ∨ x.toNatClampNeg = 1 ∨ x.toNatClampNeg = 2 ∨ x.toNatClampNeg = 3 ∨ x.toNatClampNeg = 4 := by omega
    rcases h5 with h | h | h | h | h
    · rw [h]; exact Or.inl rfl
    · rw [h]; exact Or.inr (Or.inl rfl)
    · rw [h]; exact Or.inr (Or.inr (Or.inl rfl))
    · rw [h]; exact Or.inr (Or.inr (Or.inr (Or.inl rfl)))
    · rw [h]; exact Or.inr (Or.inr (Or.inr (Or.inr rfl)))
  · rintro (h | h | h | h | h) <;> subst h <;> decide
theorem m_about (h : RM a M st) (wd : W_D a) (wo : W_O z_0 a) (p d x : Int32) : f_M_about 0 p d x st = some (q_about a p d x, xsI st 32 0 0 0) := by
  have h0 := m_coX h 0
  unfold f_M_about q_about
  rw [m_in7, m_in7, m_in]
  dsimp only
  by_cases hp : x_in p 8
  · rw [if_pos hp, if_neg (c := (1 : Int32) = 0) (by decide)]
    by_cases hd : x_in d 8
    · rw [if_pos hd, if_neg (c := (1 : Int32) = 0) (by decide), if_pos (c := x_in p 8 ∧ x_in d 8) ⟨hp, hd⟩]
      obtain ⟨i, hi, hi', rfl⟩ | hno := n_ca p 8
      · obtain ⟨j, hj, hj', rfl⟩ | hno2 := n_ca d 8
        · rw [n_to hi', n_to hj']
          have hD := h0.1.1.2.2.1 i hi j hj
          by_cases hx : ¬ x < 0 ∧ x ≤ 4
          · rw [if_pos hx, if_neg (c := (1 : Int32) = 0) (by decide), h0.1.1.1 4 (by omega)]
            dsimp only
            rw [n_8, if_pos (n_in (by omega) (by omega)), n_to (by omega), hD]
            cases hs : a.2.2.2 i j with
            | none =>
              rw [show z_e none = -1 from rfl, if_neg (c := (0 : Int32) ≤ -1) (by decide)]
              dsimp only
              split <;> rfl
            | some o =>
              have ho := wd i hi j hj o hs
              have hk : 0 < a.1 1 o := (wo o ho).1.mpr (by have := z_h_po hi hj hs; omega)
              obtain ⟨w1, w2, w3, w4, w5, w6, w7⟩ := wo o ho
              obtain ⟨p1, p2, p3, p4⟩ := h0.1.1.2.2.2.1 o ho
              have h20 : x_in (Int32.ofNat o) 20 := n_in (by omega) ho
              rw [show z_e (some o) = Int32.ofNat o from rfl, if_pos (n_u0 (show o < 2147483648 by omega)), h0.1.1.1 6 (by omega)]
              simp only [if_pos h20, n_to (show o < 2147483648 by omega), h0.1.1.1 7 (by omega), h0.1.1.1 8 (by omega), h0.1.1.1 9 (by omega), h0.1.1.1 10 (by omega), h0.1.1.1 15 (by omega), m_holders h0.1.1.1 h0.1.1.2.2.1 wd ho]
              rw [p1, p2, p3, p4]
              rcases (n_i4 x).mp hx with rfl | rfl | rfl | rfl | rfl
              · rfl
              · rfl
              · rw [if_neg (c := (2 : Int32) = 0) (by decide), if_neg (c := (2 : Int32) = 1) (by decide), if_pos (c := (2 : Int32) = 2) rfl, if_neg (c := (2 : Int32) = 0) (by decide), if_neg (c := (2 : Int32) = 1) (by decide), if_pos (c := (2 : Int32) = 2) rfl]
                unfold z_bi
                have hcs : a.1 1 o = 1 ∨ a.1 1 o = 2 ∨ a.1 1 o = 3 ∨ a.1 1 o = 4 := by omega
                have hse := z_o_se (a := a) ho
                rcases hcs with hc | hc | hc | hc
                · have hw2 := (w3 (Or.inl hc)).1
                  rw [hc] at hse
                  have h42 := ((h0.1.1.2.2.2.2.1 _ hw2).2.1 (by omega)).2
                  rw [if_neg (fun z => absurd ((n_e3 (by omega)).mp z) (by omega)), if_neg (fun z => absurd ((n_e4 (by omega)).mp z) (by omega)), if_pos (n_in (by omega) hw2), n_to (by omega), h42, if_pos (by omega)]
                · have hw2 := (w3 (Or.inr hc)).1
                  rw [hc] at hse
                  have h42 := ((h0.1.1.2.2.2.2.1 _ hw2).2.1 (by omega)).2
                  rw [if_neg (fun z => absurd ((n_e3 (by omega)).mp z) (by omega)), if_neg (fun z => absurd ((n_e4 (by omega)).mp z) (by omega)), if_pos (n_in (by omega) hw2), n_to (by omega), h42, if_pos (by omega)]
                · have hw2 := w4 hc
                  rw [if_pos ((n_e3 (by omega)).mpr hc), if_pos (n_in (by omega) hw2), n_to (by omega), (h0.1.1.2.2.2.2.2.1 _ hw2).2.2.2.1, if_neg (by omega), if_pos hc]
                · rw [if_neg (fun z => absurd ((n_e3 (by omega)).mp z) (by omega)), if_pos ((n_e4 (by omega)).mpr hc), h0.1.1.2.2.2.2.2.2.1.1, if_neg (by omega), if_neg (by omega)]
              · rw [if_neg (c := (3 : Int32) = 0) (by decide), if_neg (c := (3 : Int32) = 1) (by decide), if_neg (c := (3 : Int32) = 2) (by decide), if_pos (c := (3 : Int32) = 3) rfl, if_neg (c := (3 : Int32) = 0) (by decide), if_neg (c := (3 : Int32) = 1) (by decide), if_neg (c := (3 : Int32) = 2) (by decide), if_pos (c := (3 : Int32) = 3) rfl]
                by_cases hc : a.1 1 o = 3
                · rw [if_pos ((n_e3 (by omega)).mpr hc)]
                · rw [if_neg (fun z => hc ((n_e3 (by omega)).mp z)), w6 hk hc]; rfl
              · rfl
          · rw [if_neg hx, if_pos rfl]
            have hn : ∀ y : Int32, (y = 0 ∨ y = 1 ∨ y = 2 ∨ y = 3 ∨ y = 4) → x ≠ y := fun y hy z => hx ((n_i4 x).mpr (by rw [z]; exact hy))
            cases a.2.2.2 i j with
            | none => dsimp only; rw [if_neg (hn 0 (Or.inl rfl))]
            | some o => dsimp only; rw [if_neg (hn 0 (Or.inl rfl)), if_neg (hn 1 (Or.inr (Or.inl rfl))), if_neg (hn 2 (Or.inr (Or.inr (Or.inl rfl)))), if_neg (hn 3 (Or.inr (Or.inr (Or.inr (Or.inl rfl))))), if_neg (hn 4 (Or.inr (Or.inr (Or.inr (Or.inr rfl)))))]
        · exact absurd hd hno2
      · exact absurd hp hno
    · rw [if_neg hd, if_pos rfl, if_neg (c := x_in p 8 ∧ x_in d 8) (fun z => hd z.2)]
  · rw [if_neg hp, if_pos rfl, if_neg (c := x_in p 8 ∧ x_in d 8) (fun z => hp z.1)]
end
