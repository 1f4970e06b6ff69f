/-! THE REFERENCE SWEEPS AND WAKES -/
theorem b_00 : ((0 : Int32) &&& 1) = 0 := by decide
theorem b_01 : ((1 : Int32) &&& 1) = 1 := by decide
theorem z_c_mo {P Q : Nat → Bool} (k : Nat) : ∀ i, (∀ j, P j = true → Q j = true) → z_c P i k ≤ z_c Q i k := by
  induction k with
  | zero => intro i _; rw [z_c_0, z_c_0]; exact Nat.le_refl _
  | succ k ih =>
    intro i h
    have := ih (i + 1) h
    rw [z_c_s, z_c_s]
    by_cases hp : P i = true
    · rw [if_pos hp, if_pos (h i hp)]; omega
    · rw [if_neg hp]; omega
section
variable {c : Int32} {a b : AS} {M st : XS} {i d o N : Nat}
theorem m_sweep_2 (wd : W_D a) (wk : W_K a) : ∀ k i n st, i + k = 20 → k < n → m_S (st.2.2.1 32) → m_D a (st.1 36) → (∀ t, t < 20 → i ≤ t → st.1 38 0 t = Int32.ofNat (a.1 1 t)) →
    ∃ s', f_M_sweep_2 n 0 (Int32.ofNat i) st = f_M_sweep_49 100 0 0 s' ∧ s'.2 = st.2 ∧ (∀ q, q ≠ 38 → s'.1 q = st.1 q) ∧ ∀ t, t < 20 → s'.1 38 0 t = if i ≤ t then Int32.ofNat (if 0 < z_h a t then a.1 1 t else 0) else st.1 38 0 t := by
  intro k
  induction k with
  | zero =>
    intro i n st hi hn _ _ _
    obtain ⟨n, rfl⟩ : ∃ m, n = m + 1 := ⟨n - 1, by omega⟩
    have : i = 20 := by omega
    subst this
    exact ⟨st, rfl, rfl, fun _ _ => rfl, fun t ht => by rw [if_neg (by omega)]⟩
  | succ k ih =>
    intro i n st hi hn hs hD h38
    obtain ⟨n, rfl⟩ : ∃ m, n = m + 1 := ⟨n - 1, by omega⟩
    have h1 : ¬ ((20 : Int32) ≤ Int32.ofNat i) := n_ge (k := 20) (by omega) (by omega)
    have hb := wk i (by omega)
    have hh := z_h_le a i
    have hstep : f_M_sweep_2 (n + 1) 0 (Int32.ofNat i) st = f_M_sweep_2 n 0 (Int32.ofNat (i + 1)) (xsI st 38 0 i (Int32.ofNat (if 0 < z_h a i then a.1 1 i else 0))) := by
      rw [f_M_sweep_2]
      rw [if_neg h1, hs 6 (by omega)]
      dsimp only
      have h20 : x_in (Int32.ofNat i) 20 := n_in (by omega) (by omega)
      rw [m_holders hs hD wd (by omega), n_su]
      simp only [if_pos h20, n_to (show i < 2147483648 by omega)]
      rw [h38 i (by omega) (by omega)]
      by_cases h2 : a.1 1 i = 0
      · rw [if_pos ((n_l0 (by omega)).mpr h2), h2, ite_self]; rfl
      · rw [if_neg (fun z => h2 ((n_l0 (by omega)).mp z))]
        by_cases h3 : z_h a i = 0
        · rw [if_pos ((n_l0 (by omega)).mpr h3), if_neg (by omega)]; rfl
        · rw [if_neg (fun z => h3 ((n_l0 (by omega)).mp z)), if_pos (by omega)]
    obtain ⟨s', g1, g2, g3, g4⟩ := ih (i + 1) n (xsI st 38 0 i (Int32.ofNat (if 0 < z_h a i then a.1 1 i else 0))) (by omega) (by omega) hs (by rw [u_I (by omega)]; exact hD) (fun t ht hit => by rw [u_Ie, z_u2 (by omega)]; exact h38 t ht (by omega))
    refine ⟨s', by rw [hstep, g1], g2, fun q hq => by rw [g3 q hq, u_I hq], fun t ht => ?_⟩
    rw [g4 t ht, u_Ie]
    by_cases h2 : t = i
    · subst h2; rw [if_neg (c := t + 1 ≤ t) (by omega), z_ue, if_pos (c := t ≤ t) (Nat.le_refl t)]
    · rw [z_u2 h2]
      by_cases h3 : i ≤ t
      · rw [if_pos (by omega), if_pos h3]
      · rw [if_neg (by omega), if_neg h3]
theorem m_sweep_90 {K : Nat → Int32 → XS → Option (Unit × XS)} {s0 : Int32} (hs : m_S (st.2.2.1 32)) (hO : ∀ o, o < 20 → st.1 38 0 o = Int32.ofNat (b.1 1 o) ∧ st.1 39 0 o = Int32.ofNat (b.1 2 o)) (wk : W_K b) (hi : i < 6) (hn : st.1 46 0 i = b.2.1 3 i) (hw : b.2.1 3 i = 0 ∨ 0 < b.2.1 3 i) :
    f_M_sweep_90 K 0 (Int32.ofNat i) s0 (Int32.ofNat i) (some 0) st = K 0 (Int32.ofNat (i + 1)) (xsI (xsI st 44 0 i (s0 &&& 1)) 45 0 i (if st.1 45 0 i = 0 ∨ (b.2.1 3 i = 0 ∧ z_o b 3 i = 0) then 0 else 1)) := by
  have h6 : x_in (Int32.ofNat i) 6 := n_in (by omega) hi
  have hz := z_o_le b 3 i
  unfold f_M_sweep_90
  dsimp only
  simp only [if_pos h6, n_to (show i < 2147483648 by omega)]
  obtain ⟨st1, hst1⟩ : ∃ st1, st1 = xsI st 44 0 i (s0 &&& 1) := ⟨_, rfl⟩
  rw [← hst1]
  have hs1 : m_S (st1.2.2.1 32) := by rw [hst1]; exact hs
  have hO1 : ∀ o, o < 20 → st1.1 38 0 o = Int32.ofNat (b.1 1 o) ∧ st1.1 39 0 o = Int32.ofNat (b.1 2 o) := by rw [hst1, u_I (by omega), u_I (by omega)]; exact hO
  have h46 : st1.1 46 0 i = b.2.1 3 i := by rw [hst1, u_I (by omega)]; exact hn
  have h45 : st1.1 45 0 i = st.1 45 0 i := by rw [hst1, u_I (by omega)]
  rw [hs1 13 (by omega)]
  dsimp only
  rw [h45, hs1 14 (by omega)]
  dsimp only
  rw [h46, show (3 : Int32) = Int32.ofNat 3 from rfl, m_openings hs1 hO1 wk (by omega) hi, n_su, b_00, b_01]
  dsimp only
  by_cases h1 : st.1 45 0 i = 0
  · rw [if_pos h1, if_pos (Or.inl h1)]
  · rw [if_neg h1]
    rcases hw with h2 | h2
    · rw [h2, if_neg (by decide)]
      by_cases h3 : z_o b 3 i = 0
      · rw [if_pos ((n_l0 (by omega)).mpr h3), if_pos (Or.inr ⟨rfl, h3⟩)]
      · rw [if_neg (fun z => h3 ((n_l0 (by omega)).mp z)), if_neg (fun z => z.elim h1 (fun y => h3 y.2))]
    · have h3 : b.2.1 3 i ≠ 0 := fun z => by rw [z] at h2; exact absurd h2 (by decide)
      rw [if_pos h2, if_neg (fun z => z.elim h1 (fun y => h3 y.1))]
theorem m_sweep_49 (wk : W_K b) (hw : ∀ f, f < 6 → b.2.1 3 f = 0 ∨ 0 < b.2.1 3 f) : ∀ k i n st, i + k = 6 → k < n → m_S (st.2.2.1 32) → (∀ o, o < 20 → st.1 38 0 o = Int32.ofNat (b.1 1 o) ∧ st.1 39 0 o = Int32.ofNat (b.1 2 o)) → (∀ f, f < 6 → st.1 46 0 f = b.2.1 3 f) →
    ∃ s', f_M_sweep_49 n 0 (Int32.ofNat i) st = some ((), s') ∧ s'.2 = st.2 ∧ (∀ q, q ≠ 44 → q ≠ 45 → s'.1 q = st.1 q) ∧ (∀ t, t < 6 → i ≤ t → s'.1 44 0 t = if st.1 44 0 t = 0 ∨ z_o b 1 t + z_o b 2 t = 0 then 0 else 1) ∧
      (∀ t, t < 6 → i ≤ t → s'.1 45 0 t = if st.1 45 0 t = 0 ∨ (b.2.1 3 t = 0 ∧ z_o b 3 t = 0) then 0 else 1) ∧ ∀ t, t < i → s'.1 44 0 t = st.1 44 0 t ∧ s'.1 45 0 t = st.1 45 0 t := by
  intro k
  induction k with
  | zero =>
    intro i n st hi hn _ _ _
    obtain ⟨n, rfl⟩ : ∃ m, n = m + 1 := ⟨n - 1, by omega⟩
    have : i = 6 := by omega
    subst this
    exact ⟨st, rfl, rfl, fun _ _ _ => rfl, fun t ht h => by omega, fun t ht h => by omega, fun _ _ => ⟨rfl, rfl⟩⟩
  | succ k ih =>
    intro i n st hi hn hs hO h46
    obtain ⟨n, rfl⟩ : ∃ m, n = m + 1 := ⟨n - 1, by omega⟩
    have h1 : ¬ ((6 : Int32) ≤ Int32.ofNat i) := n_ge (k := 6) (by omega) (by omega)
    have z1 := z_o_le b 1 i
    have z2 := z_o_le b 2 i
    obtain ⟨A, hA⟩ : ∃ A : Int32, A = if st.1 44 0 i = 0 ∨ z_o b 1 i + z_o b 2 i = 0 then 0 else 1 := ⟨_, rfl⟩
    obtain ⟨B, hB⟩ : ∃ B : Int32, B = if st.1 45 0 i = 0 ∨ (b.2.1 3 i = 0 ∧ z_o b 3 i = 0) then 0 else 1 := ⟨_, rfl⟩
    have hstep : f_M_sweep_49 (n + 1) 0 (Int32.ofNat i) st = f_M_sweep_49 n 0 (Int32.ofNat (i + 1)) (xsI (xsI st 44 0 i A) 45 0 i B) := by
      rw [f_M_sweep_49]
      rw [if_neg h1, hs 12 (by omega)]
      dsimp only
      rw [if_pos (n_in (by omega) (by omega)), n_to (by omega), show (2 : Int32) = Int32.ofNat 2 from rfl, m_openings hs hO wk (by omega) (by omega), m_sweep_90 hs hO wk (by omega) (h46 i (by omega)) (hw i (by omega)), m_sweep_90 hs hO wk (by omega) (h46 i (by omega)) (hw i (by omega)), ← hB]
      rw [show f_M_openings 0 1 (Int32.ofNat i) st = some (Int32.ofNat (z_o b 1 i)) from m_openings (s := 1) hs hO wk (by omega) (by omega)]
      dsimp only
      rw [n_ad, b_00, b_01]
      by_cases h2 : st.1 44 0 i = 0
      · rw [if_pos h2, hA, if_pos (Or.inl h2)]
      · rw [if_neg h2]
        by_cases h3 : z_o b 1 i + z_o b 2 i = 0
        · rw [if_pos ((n_l0 (by omega)).mpr h3), hA, if_pos (Or.inr h3)]
        · rw [if_neg (fun z => h3 ((n_l0 (by omega)).mp z)), hA, if_neg (fun z => z.elim h2 h3)]
    obtain ⟨s', g1, g2, g3, g4, g5, g6⟩ := ih (i + 1) n (xsI (xsI st 44 0 i A) 45 0 i B) (by omega) (by omega) hs (by rw [u_I (by omega), u_I (by omega), u_I (by omega), u_I (by omega)]; exact hO) (by rw [u_I (by omega), u_I (by omega)]; exact h46)
    rw [u_I (by omega), u_Ie] at g4 g6
    rw [u_Ie, u_I (by omega)] at g5 g6
    refine ⟨s', by rw [hstep, g1], g2, fun q h2 h3 => by rw [g3 q h2 h3, u_I h3, u_I h2], fun t ht hit => ?_, fun t ht hit => ?_, fun t ht => ?_⟩
    · by_cases h2 : t = i
      · subst h2; rw [(g6 t (by omega)).1, z_ue, hA]
      · rw [g4 t ht (by omega), z_u2 h2]
    · by_cases h2 : t = i
      · subst h2; rw [(g6 t (by omega)).2, z_ue, hB]
      · rw [g5 t ht (by omega), z_u2 h2]
    · have := g6 t (by omega)
      rw [z_u2 (by omega), z_u2 (by omega)] at this
      exact this
theorem W_K_sk (wk : W_K a) : W_K (z_sk z_0 a) := by
  intro t ht
  have h := wk t ht
  have hk : (z_sk z_0 a).1 1 t = if 0 < z_h a t + z_0 t then a.1 1 t else 0 := rfl
  have h2 : (z_sk z_0 a).1 2 t = a.1 2 t := rfl
  rw [hk, h2]
  by_cases h0 : 0 < z_h a t + z_0 t
  · rw [if_pos h0]; exact h
  · rw [if_neg h0]; exact ⟨by omega, fun z => by omega⟩
theorem z_o_sk {s : Nat} (hs : 0 < s) (k : Nat) : z_o (z_sk z_0 a) s k ≤ z_o a s k := by
  refine z_c_mo 20 0 (fun j hj => ?_)
  rw [decide_eq_true_eq] at hj ⊢
  have hk : (z_sk z_0 a).1 1 j = if 0 < z_h a j + z_0 j then a.1 1 j else 0 := rfl
  rw [hk] at hj
  refine ⟨?_, hj.2⟩
  by_cases h0 : 0 < z_h a j + z_0 j
  · rw [if_pos h0] at hj; exact hj.1
  · rw [if_neg h0] at hj; omega
theorem m_sweep (h : RX c a M st) (wd : W_D a) (wk : W_K a) (hw : ∀ f, f < 6 → a.2.1 3 f = 0 ∨ 0 < a.2.1 3 f) : ∃ s', f_M_sweep 0 st = some ((), s') ∧ RY c (z_s z_0 a) M s' := by
  obtain ⟨s1, g1, g2, g3, g4⟩ := m_sweep_2 wd wk 20 0 100 st (by omega) (by omega) h.1.1 h.1.2.2.1 (fun t ht _ => (h.1.2.2.2.1 t ht).1)
  have hO : m_O (z_sk z_0 a) (s1.1 38) (s1.1 39) (s1.1 40) (s1.1 41) := by
    intro t ht
    have := h.1.2.2.2.1 t ht
    rw [g3 39 (by omega), g3 40 (by omega), g3 41 (by omega), g4 t ht, if_pos (by omega)]
    exact ⟨rfl, this.2⟩
  have hr : s1.2.2.1 = st.2.2.1 := by rw [g2]
  obtain ⟨s', k1, k2, k3, k4, k5, _⟩ := m_sweep_49 (b := z_sk z_0 a) (W_K_sk wk) hw 6 0 100 s1 (by omega) (by omega) (by rw [hr]; exact h.1.1) (fun t ht => ⟨(hO t ht).1, (hO t ht).2.1⟩) (fun f hf => by rw [g3 46 (by omega)]; exact (h.1.2.2.2.2.2.1 f hf).2.2.1)
  have hq : ∀ q, q ≠ 38 → q ≠ 44 → q ≠ 45 → s'.1 q = st.1 q := fun q h1 h2 h3 => by rw [k3 q h2 h3, g3 q h1]
  have hs : s'.2 = st.2 := by rw [k2, g2]
  have h44 : ∀ k, k < 6 → s'.1 44 0 k = if z_o (z_s z_0 a) 1 k + z_o (z_s z_0 a) 2 k = 0 then 0 else 1 := by
    intro k hk
    have h1 := (h.1.2.2.2.2.1 k hk).2.1
    have h2 := z_o_sk (a := a) (s := 1) (by omega) k
    have h3 := z_o_sk (a := a) (s := 2) (by omega) k
    rw [k4 k hk (by omega), g3 44 (by omega), z_s_o, z_s_o]
    by_cases h0 : z_o (z_sk z_0 a) 1 k + z_o (z_sk z_0 a) 2 k = 0
    · rw [if_pos (Or.inr h0), if_pos h0]
    · rw [if_neg (fun z => z.elim (fun y => by rw [(h1 (by omega)).1] at y; exact absurd y (by decide)) h0), if_neg h0]
  have h45 : ∀ f, f < 6 → s'.1 45 0 f = if a.2.1 3 f = 0 ∧ z_o (z_s z_0 a) 3 f = 0 then 0 else 1 := by
    intro f hf
    have h1 := (h.1.2.2.2.2.2.1 f hf).2.1
    have h3 := z_o_sk (a := a) (s := 3) (by omega) f
    rw [k5 f hf (by omega), g3 45 (by omega), z_s_o]
    show (if st.1 45 0 f = 0 ∨ (a.2.1 3 f = 0 ∧ z_o (z_sk z_0 a) 3 f = 0) then _ else _) = _
    by_cases h0 : a.2.1 3 f = 0 ∧ z_o (z_sk z_0 a) 3 f = 0
    · rw [if_pos (Or.inr h0), if_pos h0]
    · have hne : ¬ (st.1 45 0 f = 0) := by
        intro y
        by_cases h4 : a.2.1 3 f = 0
        · have h5 : z_o (z_sk z_0 a) 3 f ≠ 0 := fun z => h0 ⟨h4, z⟩
          rw [h1 (Or.inr (by omega))] at y
          exact absurd y (by decide)
        · rw [h1 (Or.inl h4)] at y
          exact absurd y (by decide)
      rw [if_neg (fun z => z.elim hne h0), if_neg h0]
  refine ⟨s', by show f_M_sweep_2 100 0 (Int32.ofNat 0) st = _; rw [g1]; exact k1, ⟨⟨⟨by rw [hs]; exact h.1.1, ?_, ?_, ?_, ?_, ?_, ?_, ?_⟩, ?_⟩, ?_, ?_⟩⟩
  · rw [hq 33 (by omega) (by omega) (by omega), hq 34 (by omega) (by omega) (by omega), hq 35 (by omega) (by omega) (by omega), hs]; exact h.1.2.1
  · rw [hq 36 (by omega) (by omega) (by omega)]; exact h.1.2.2.1
  · rw [k3 38 (by omega) (by omega), k3 39 (by omega) (by omega), k3 40 (by omega) (by omega), k3 41 (by omega) (by omega)]; exact hO
  · rw [hq 42 (by omega) (by omega) (by omega), hq 43 (by omega) (by omega) (by omega)]
    intro k hk
    have h1 := h.1.2.2.2.2.1 k hk
    have h2 := z_o_sk (a := a) (s := 1) (by omega) k
    have h3 := z_o_sk (a := a) (s := 2) (by omega) k
    rw [h44 k hk, z_s_ln hk]
    by_cases h0 : z_o (z_s z_0 a) 1 k + z_o (z_s z_0 a) 2 k = 0
    · rw [if_pos h0, if_pos h0]; exact ⟨Or.inl rfl, fun z => by omega, fun j hj => absurd hj (Nat.not_lt_zero j)⟩
    · rw [if_neg h0, if_neg h0]; exact ⟨Or.inr rfl, fun z => ⟨rfl, (h1.2.1 (by rw [z_s_o, z_s_o] at h0; omega)).2⟩, h1.2.2⟩
  · rw [hq 46 (by omega) (by omega) (by omega), hq 47 (by omega) (by omega) (by omega), hq 48 (by omega) (by omega) (by omega)]
    intro f hf
    have h1 := h.1.2.2.2.2.2.1 f hf
    rw [h45 f hf, z_s_l2 (by omega)]
    refine ⟨?_, fun z => ?_, h1.2.2⟩
    · by_cases h0 : a.2.1 3 f = 0 ∧ z_o (z_s z_0 a) 3 f = 0
      · rw [if_pos h0]; exact Or.inl rfl
      · rw [if_neg h0]; exact Or.inr rfl
    · rw [if_neg (fun y => z.elim (fun x => x y.1) (fun x => by have := y.2; omega))]
  · rw [hq 32 (by omega) (by omega) (by omega), hq 49 (by omega) (by omega) (by omega), hq 50 (by omega) (by omega) (by omega), hs]
    unfold m_C
    rw [z_s_l2 (by omega), z_s_l2 (by omega)]
    exact h.1.2.2.2.2.2.2.1
  · intro q hq'; rw [hs, hq q (by omega) (by omega) (by omega)]; exact h.1.2.2.2.2.2.2.2 q hq'
  · rw [hq 32 (by omega) (by omega) (by omega)]; exact h.2
  · intro k hk z
    rw [h44 k hk] at z
    by_cases h0 : z_o (z_s z_0 a) 1 k + z_o (z_s z_0 a) 2 k = 0
    · rw [if_pos h0] at z; exact absurd z (by decide)
    · omega
  · intro f hf z
    rw [h45 f hf] at z
    by_cases h0 : a.2.1 3 f = 0 ∧ z_o (z_s z_0 a) 3 f = 0
    · rw [if_pos h0] at z; exact absurd z (by decide)
    · by_cases h4 : a.2.1 3 f = 0
      · exact Or.inr (Nat.pos_of_ne_zero (fun z => h0 ⟨h4, z⟩))
      · exact Or.inl h4
theorem m_wake_4 (k : Nat) : ∀ i m n a st, i + k = 8 → k < n → RY c a M st → W_D a → W_O z_0 a → W_L N a → W_P a → ∃ st', f_M_wake_4 n 0 (Int32.ofNat m) (Int32.ofNat i) st = some (Int32.ofNat (m + (z_k k i a).1), st') ∧ RY c (z_k k i a).2 M st' := by
  induction k with
  | zero =>
    intro i m n a st hi hn h _ _ _ _
    obtain ⟨n, rfl⟩ : ∃ m, n = m + 1 := ⟨n - 1, by omega⟩
    have : i = 8 := by omega
    subst this
    exact ⟨st, rfl, h⟩
  | succ k ih =>
    intro i m n a st hi hn h wd wo wl wp
    obtain ⟨n, rfl⟩ : ∃ m, n = m + 1 := ⟨n - 1, by omega⟩
    have h1 : ¬ ((8 : Int32) ≤ Int32.ofNat i) := n_ge (k := 8) (by omega) (by omega)
    have h8 := wp i (by omega)
    have h3 : x_in (Int32.ofNat i) 8 := n_in (by omega) (by omega)
    obtain ⟨p1, p2, p3, p4⟩ := h.1.1.2.1 i (by omega)
    unfold f_M_wake_4 z_k
    rw [if_neg h1, h.1.1.1 1 (by omega)]
    dsimp only
    simp only [if_pos h3, n_to (show i < 2147483648 by omega)]
    rw [p1, n_su]
    by_cases hw : 2 ≤ a.1 0 i
    · obtain ⟨d, o, hd, ht, hs, w, hm, hn'⟩ := h8.2.2 hw
      have ho := wd i (by omega) d hd o hs
      have hD := h.1.1.2.2.1 i (by omega) d hd
      have hz : z_mw a i = z_w a o (decide (a.1 0 i = 2)) (Int32.ofNat w) := by
        unfold z_mw z_t; rw [ht, hn', n_to (by omega), hs]; rfl
      rw [if_neg (show ¬ Int32.ofNat (a.1 0 i) < 2 from fun z => absurd ((n_lt (b := 2) (by omega) (by omega)).mp z) (by omega)), h.1.1.1 2 (by omega)]
      dsimp only
      rw [h.1.1.1 4 (by omega)]
      dsimp only
      rw [p2, ht, n_8, if_pos (n_in (by omega) (by omega)), n_to (by omega), hD, hs]
      have hwt := m_waits h.1.1 (W_K_Q (W_O_q wo)) (fun k hk => (wl.2.1 k hk).1) ho hm (decide (a.1 0 i = 2)) wl.2.2.2.1
      have h52 : ∀ (K : Nat → Int32 → Int32 → XS → Option (Int32 × XS)), (if Int32.ofNat (a.1 0 i) = 2 then f_M_wake_52 K 0 (Int32.ofNat m) (Int32.ofNat i) 1 (z_e (some o)) (some 0) st else f_M_wake_52 K 0 (Int32.ofNat m) (Int32.ofNat i) 0 (z_e (some o)) (some 0) st) =
          (if 2 ≤ a.1 0 i ∧ z_mw a i = false then K 0 (Int32.ofNat (m + 1)) (Int32.ofNat (i + 1)) (xsI (xsI (xsI st 33 0 i (Int32.ofNat 1)) 34 0 i (-1)) 35 0 i 0) else K 0 (Int32.ofNat m) (Int32.ofNat (i + 1)) st) := by
        intro K
        have h53 : ∀ r : Int32, f_M_waits 0 (Int32.ofNat o) r (Int32.ofNat w) st = some (if z_mw a i = true then 1 else 0) → f_M_wake_52 K 0 (Int32.ofNat m) (Int32.ofNat i) r (z_e (some o)) (some 0) st = (if 2 ≤ a.1 0 i ∧ z_mw a i = false then K 0 (Int32.ofNat (m + 1)) (Int32.ofNat (i + 1)) (xsI (xsI (xsI st 33 0 i (Int32.ofNat 1)) 34 0 i (-1)) 35 0 i 0) else K 0 (Int32.ofNat m) (Int32.ofNat (i + 1)) st) := by
          intro r hr
          unfold f_M_wake_52
          rw [h.1.1.1 3 (by omega)]
          simp only [if_pos h3, n_to (show i < 2147483648 by omega)]
          rw [p3, hn', show z_e (some o) = Int32.ofNat o from rfl, hr]
          dsimp only
          rw [n_su, n_su, h.1.1.1 1 (by omega)]
          cases hm : z_mw a i with
          | true => rw [if_pos rfl, if_neg (by decide), if_neg (fun z => nomatch z.2)]
          | false =>
            rw [if_neg (c := false = true) (by decide), if_pos rfl, if_pos ⟨hw, rfl⟩]
            dsimp only
            rw [show (xsI st 33 0 i 1).2.2.1 32 0 2 = some 0 from h.1.1.1 2 (by omega)]
            dsimp only
            rw [show (xsI (xsI st 33 0 i 1) 34 0 i (-1)).2.2.1 32 0 3 = some 0 from h.1.1.1 3 (by omega)]
            rfl
        by_cases h2 : a.1 0 i = 2
        · rw [if_pos ((n_e2 (by omega)).mpr h2)]
          exact h53 1 (by rw [hz, ← hwt, h2]; rfl)
        · rw [if_neg (fun z => h2 ((n_e2 (by omega)).mp z))]
          exact h53 0 (by rw [hz, ← hwt, decide_eq_false h2]; rfl)
      rw [h52]
      by_cases hc : 2 ≤ a.1 0 i ∧ z_mw a i = false
      · rw [if_pos hc, if_pos hc]
        obtain ⟨st', g1, g2⟩ := ih (i + 1) (m + 1) n (z_rd a i) _ (by omega) (by omega) (RY_w (i := i) (l := 1) (x := -1) (n := 0) h) wd wo wl (W_P_rd wp)
        exact ⟨st', by rw [g1]; congr 2; congr 1; omega, g2⟩
      · rw [if_neg hc, if_neg hc]
        exact ih (i + 1) m n a st (by omega) (by omega) h wd wo wl wp
    · rw [if_pos (show Int32.ofNat (a.1 0 i) < 2 from (n_lt (b := 2) (by omega) (by omega)).mpr (by omega)), if_neg (fun z => hw z.1)]
      exact ih (i + 1) m n a st (by omega) (by omega) h wd wo wl wp
theorem m_wake (h : RY c a M st) (wd : W_D a) (wo : W_O z_0 a) (wl : W_L N a) (wp : W_P a) : ∃ st', f_M_wake 0 st = some (Int32.ofNat (z_k 8 0 a).1, st') ∧ RY c (z_k 8 0 a).2 M st' := by
  obtain ⟨st', g1, g2⟩ := m_wake_4 (M := M) (N := N) (c := c) 8 0 0 100 a st (by omega) (by omega) h wd wo wl wp
  exact ⟨st', by rw [show 0 + (z_k 8 0 a).1 = (z_k 8 0 a).1 by omega] at g1; exact g1, g2⟩
end
