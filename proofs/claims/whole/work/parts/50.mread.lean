/-! THE REFERENCE READS -/
def RX (c : Int32) (a : AS) (M st : XS) : Prop := RW a M st ∧ st.1 32 0 0 = c
def RY (c : Int32) (a : AS) (M st : XS) : Prop := RX c a M st ∧ m_X a (st.1 44) (st.1 45)
theorem n_i7 (p : Int32) : (¬ p < 0 ∧ p ≤ 7) ↔ x_in p 8 := by
  rcases n_ca p 8 with ⟨i, hi, hi', rfl⟩ | hp
  · exact ⟨fun _ => n_in hi' hi, fun _ => ⟨n_ng hi', (n_le hi' (b := 7) (by omega)).mpr (by omega)⟩⟩
  · refine ⟨fun z => ?_, fun z => absurd z hp⟩
    rcases n_no (by omega) hp with h1 | ⟨h1, h2⟩
    · exact absurd h1 z.1
    · exact absurd (Int32.le_trans (show (8 : Int32) ≤ p from h2) z.2) (by decide)
theorem m_in (x l u : Int32) (st : XS) : f_M_in x l u st = some (if ¬ x < l ∧ x ≤ u then 1 else 0) := by
  unfold f_M_in
  by_cases h : x < l
  · rw [if_pos h, if_neg (fun z => z.1 h)]
  · rw [if_neg h]
    by_cases h2 : u < x
    · rw [if_pos h2, if_neg (fun z => absurd z.2 (Int32.not_le.mpr h2))]
    · rw [if_neg h2, if_pos ⟨h, Int32.not_lt.mp h2⟩]
theorem m_in7 (p : Int32) (st : XS) : f_M_in p 0 7 st = some (if x_in p 8 then 1 else 0) := by
  rw [m_in]
  by_cases h : x_in p 8
  · rw [if_pos h, if_pos ((n_i7 p).mpr h)]
  · rw [if_neg h, if_neg (fun z => h ((n_i7 p).mp z))]
theorem m_in9 (x : Int32) (st : XS) : f_M_in x 1 9 st = some (if z_nm x = true then 1 else 0) := by
  rw [m_in]
  unfold z_nm
  by_cases h : ¬ x < 1 ∧ x ≤ 9
  · rw [if_pos h, if_pos (decide_eq_true h)]
  · rw [if_neg h, if_neg (by rw [decide_eq_true_eq]; exact h)]
theorem m_f0 (st : XS) : f_M_fails 0 0 0 st = some (0, xsI st 32 0 0 0) := by
  unfold f_M_fails
  have h : (xsI st 32 0 0 0).1 32 0 0 = 0 := rfl
  rw [if_pos rfl, if_pos rfl, h, if_pos (by decide)]
theorem m_f1 (y : Int32) (st : XS) : f_M_fails 0 1 y st = some (1, xsI st 32 0 0 1) := by
  unfold f_M_fails
  have h : (xsI st 32 0 0 1).1 32 0 0 = 1 := rfl
  rw [if_neg (by decide), h, if_neg (by decide)]
theorem m_f2 (st : XS) : f_M_fails 0 0 1 st = some (1, xsI st 32 0 0 2) := by
  unfold f_M_fails
  have h : (xsI st 32 0 0 2).1 32 0 0 = 2 := rfl
  rw [if_pos rfl, if_neg (by decide), h, if_neg (by decide)]
section
variable {c : Int32} {a : AS} {M st : XS} {i d o N : Nat}
theorem m_co (h : RW a M st) (v : Int32) : RX v a M (xsI st 32 0 0 v) := by
  have hc : (xsI st 32 0 0 v).1 32 = z_u (st.1 32) 0 0 v := u_Ie
  have hu : ∀ q, q ≠ 32 → (xsI st 32 0 0 v).1 q = st.1 q := fun q hq => u_I hq
  refine ⟨⟨h.1, ?_, ?_, ?_, ?_, ?_, ?_, ?_⟩, ?_⟩
  · rw [hu 33 (by omega), hu 34 (by omega), hu 35 (by omega)]; exact h.2.1
  · rw [hu 36 (by omega)]; exact h.2.2.1
  · rw [hu 38 (by omega), hu 39 (by omega), hu 40 (by omega), hu 41 (by omega)]; exact h.2.2.2.1
  · rw [hu 42 (by omega), hu 43 (by omega), hu 44 (by omega)]; exact h.2.2.2.2.1
  · rw [hu 45 (by omega), hu 46 (by omega), hu 47 (by omega), hu 48 (by omega)]; exact h.2.2.2.2.2.1
  · rw [hu 49 (by omega), hu 50 (by omega), hc]
    have := h.2.2.2.2.2.2.1
    exact ⟨by rw [z_un (by omega)]; exact this.1, this.2⟩
  · intro q hq; rw [hu q (by omega)]; exact h.2.2.2.2.2.2.2 q hq
  · rw [hc, z_ue]
theorem m_coX (h : RM a M st) (v : Int32) : RY v a M (xsI st 32 0 0 v) := ⟨m_co h.1 v, by rw [u_I (by omega), u_I (by omega)]; exact h.2⟩
theorem m_isReady (h : RW a M st) (wp : W_P a) (p : Int32) : f_M_isReady 0 p st = some (match z_r a p with | none => 0 | some _ => 1) := by
  unfold f_M_isReady z_r
  rw [m_in7]
  dsimp only
  rcases n_ca p 8 with ⟨i, hi, hi', rfl⟩ | hp
  · have h3 : x_in (Int32.ofNat i) 8 := n_in hi' hi
    have h8 := wp i hi
    rw [if_pos h3, if_neg (by decide), h.1 1 (by omega)]
    dsimp only
    rw [if_pos h3]
    simp only [n_to hi', (h.2.1 i hi).1]
    by_cases h10 : a.1 0 i = 1
    · rw [if_pos ((n_e1 (by omega)).mpr h10), if_pos ⟨h3, h10⟩]
    · rw [if_neg (fun z => h10 ((n_e1 (by omega)).mp z)), if_neg (fun z => h10 z.2)]
  · rw [if_neg hp, if_pos rfl, if_neg (c := x_in p 8 ∧ _) (fun z => hp z.1)]
theorem m_isThere (h : RW a M st) (wp : W_P a) (p : Int32) : f_M_isThere 0 p st = some (if x_in p 8 ∧ a.1 0 p.toNatClampNeg ≠ 0 then 1 else 0) := by
  unfold f_M_isThere
  rw [m_in7]
  dsimp only
  rcases n_ca p 8 with ⟨i, hi, hi', rfl⟩ | hp
  · have h3 : x_in (Int32.ofNat i) 8 := n_in hi' hi
    have h8 := wp i hi
    rw [if_pos h3, if_neg (by decide), h.1 1 (by omega)]
    dsimp only
    rw [if_pos h3]
    simp only [n_to hi', (h.2.1 i hi).1]
    by_cases h10 : a.1 0 i = 0
    · rw [if_pos ((n_l0 (by omega)).mpr h10), if_neg (fun z => z.2 h10)]
    · rw [if_neg (fun z => h10 ((n_l0 (by omega)).mp z)), if_pos ⟨h3, h10⟩]
  · rw [if_neg hp, if_pos rfl, if_neg (c := x_in p 8 ∧ _) (fun z => hp z.1)]
theorem m_freeProcess_2 (h : RW a M st) (wp : W_P a) : ∀ k i n, i + k = 8 → k < n → f_M_freeProcess_2 n 0 (Int32.ofNat i) st = some (z_e (z_f (fun j => decide (a.1 0 j = 0)) i k)) := by
  intro k
  induction k with
  | zero => intro i n hi hn; obtain ⟨n, rfl⟩ : ∃ m, n = m + 1 := ⟨n - 1, by omega⟩; have : i = 8 := by omega
            subst this; rfl
  | succ k ih =>
    intro i n hi hn
    obtain ⟨n, rfl⟩ : ∃ m, n = m + 1 := ⟨n - 1, by omega⟩
    have h1 : ¬ ((8 : Int32) ≤ Int32.ofNat i) := n_ge (k := 8) (by omega) (by omega)
    have h8 := wp i (by omega)
    unfold f_M_freeProcess_2 z_f
    rw [if_neg h1, h.1 1 (by omega)]
    dsimp only
    rw [if_pos (n_in (by omega) (by omega)), n_to (by omega)]
    rw [(h.2.1 i (by omega)).1, n_su, ih (i + 1) n (by omega) (by omega)]
    by_cases h9 : a.1 0 i = 0
    · rw [if_pos ((n_l0 (by omega)).mpr h9), if_neg h1, if_pos (decide_eq_true h9)]; rfl
    · rw [if_neg (fun z => h9 ((n_l0 (by omega)).mp z)), if_neg (by rw [decide_eq_true_eq]; exact h9)]
theorem m_freeProcess (h : RW a M st) (wp : W_P a) : f_M_freeProcess 0 st = some (z_e (z_fp a)) := m_freeProcess_2 h wp 8 0 100 (by omega) (by omega)
theorem m_freeOpening_2 (h : RW a M st) (wo : ∀ t, t < 20 → a.1 1 t ≤ 4) : ∀ k i n, i + k = 20 → k < n → f_M_freeOpening_2 n 0 (Int32.ofNat i) st = some (z_e (z_f (fun j => decide (a.1 1 j = 0)) i k)) := by
  intro k
  induction k with
  | zero => intro i n hi hn; obtain ⟨n, rfl⟩ : ∃ m, n = m + 1 := ⟨n - 1, by omega⟩; have : i = 20 := by omega
            subst this; rfl
  | succ k ih =>
    intro i n hi hn
    obtain ⟨n, rfl⟩ : ∃ m, n = m + 1 := ⟨n - 1, by omega⟩
    have h1 : ¬ ((20 : Int32) ≤ Int32.ofNat i) := n_ge (k := 20) (by omega) (by omega)
    have h8 := wo i (by omega)
    unfold f_M_freeOpening_2 z_f
    rw [if_neg h1, h.1 6 (by omega)]
    dsimp only
    rw [if_pos (n_in (by omega) (by omega)), n_to (by omega)]
    rw [(h.2.2.2.1 i (by omega)).1, n_su, ih (i + 1) n (by omega) (by omega)]
    by_cases h9 : a.1 1 i = 0
    · rw [if_pos ((n_l0 (by omega)).mpr h9), if_neg h1, if_pos (decide_eq_true h9)]; rfl
    · rw [if_neg (fun z => h9 ((n_l0 (by omega)).mp z)), if_neg (by rw [decide_eq_true_eq]; exact h9)]
theorem m_freeOpening (h : RW a M st) (wo : ∀ t, t < 20 → a.1 1 t ≤ 4) : f_M_freeOpening 0 st = some (z_e (z_fo a)) := m_freeOpening_2 h wo 20 0 100 (by omega) (by omega)
theorem n_8 (i d : Nat) : (8 : Int32) * Int32.ofNat i + Int32.ofNat d = Int32.ofNat (8 * i + d) := by
  rw [show (8 : Int32) = Int32.ofNat 8 from rfl, n_mu, n_ad]
theorem z_e_m1 {v : Option Nat} (hv : ∀ j, v = some j → j < 2147483648) : (z_e v = -1) ↔ v = none := z_e_inj (o' := none) hv (fun _ z => nomatch z)
theorem m_freeDescriptor_2 (h : RW a M st) (wd : W_D a) (hp : i < 8) : ∀ k d n, d + k = 8 → k < n → f_M_freeDescriptor_2 n 0 (Int32.ofNat i) (Int32.ofNat d) st = some (z_e (z_f (fun d => decide (a.2.2.2 i d = none)) d k)) := by
  intro k
  induction k with
  | zero => intro d n hi hn; obtain ⟨n, rfl⟩ : ∃ m, n = m + 1 := ⟨n - 1, by omega⟩; have : d = 8 := by omega
            subst this; rfl
  | succ k ih =>
    intro d n hi hn
    obtain ⟨n, rfl⟩ : ∃ m, n = m + 1 := ⟨n - 1, by omega⟩
    have h1 : ¬ ((8 : Int32) ≤ Int32.ofNat d) := n_ge (k := 8) (by omega) (by omega)
    have h8 : ∀ j, a.2.2.2 i d = some j → j < 2147483648 := fun j z => by have := wd i hp d (by omega) j z; omega
    unfold f_M_freeDescriptor_2 z_f
    rw [if_neg h1, h.1 4 (by omega)]
    dsimp only
    rw [n_8, if_pos (n_in (by omega) (by omega)), n_to (by omega)]
    rw [h.2.2.1 i hp d (by omega), n_su, ih (d + 1) n (by omega) (by omega)]
    by_cases h9 : a.2.2.2 i d = none
    · rw [if_pos ((z_e_m1 h8).mpr h9), if_neg h1, if_pos (decide_eq_true h9)]; rfl
    · rw [if_neg (fun z => h9 ((z_e_m1 h8).mp z)), if_neg (by rw [decide_eq_true_eq]; exact h9)]
theorem m_freeDescriptor (h : RW a M st) (wd : W_D a) (hp : i < 8) : f_M_freeDescriptor 0 (Int32.ofNat i) st = some (z_e (z_fd a i)) := m_freeDescriptor_2 h wd hp 8 0 100 (by omega) (by omega)
theorem m_freeDescriptors_4 (h : RW a M st) (wd : W_D a) (hp : i < 8) : ∀ k d n m, d + k = 8 → k < n → f_M_freeDescriptors_4 n 0 (Int32.ofNat i) (Int32.ofNat m) (Int32.ofNat d) st = some (Int32.ofNat (m + z_c (fun d => decide (a.2.2.2 i d = none)) d k)) := by
  intro k
  induction k with
  | zero => intro d n m hi hn; obtain ⟨n, rfl⟩ : ∃ m, n = m + 1 := ⟨n - 1, by omega⟩; have : d = 8 := by omega
            subst this; rw [z_c_0]; rfl
  | succ k ih =>
    intro d n m hi hn
    obtain ⟨n, rfl⟩ : ∃ m, n = m + 1 := ⟨n - 1, by omega⟩
    have h1 : ¬ ((8 : Int32) ≤ Int32.ofNat d) := n_ge (k := 8) (by omega) (by omega)
    have h8 : ∀ j, a.2.2.2 i d = some j → j < 2147483648 := fun j z => by have := wd i hp d (by omega) j z; omega
    unfold f_M_freeDescriptors_4
    rw [z_c_s, if_neg h1, h.1 4 (by omega)]
    dsimp only
    rw [n_8, if_pos (n_in (by omega) (by omega)), n_to (by omega)]
    rw [h.2.2.1 i hp d (by omega), n_su, n_su, ih (d + 1) n (m + 1) (by omega) (by omega), ih (d + 1) n m (by omega) (by omega)]
    by_cases h9 : a.2.2.2 i d = none
    · rw [if_pos ((z_e_m1 h8).mpr h9), if_pos (decide_eq_true h9), Nat.add_assoc]
    · rw [if_neg (fun z => h9 ((z_e_m1 h8).mp z)), if_neg (by rw [decide_eq_true_eq]; exact h9), Nat.zero_add]
theorem m_freeDescriptors (h : RW a M st) (wd : W_D a) (hp : i < 8) : f_M_freeDescriptors 0 (Int32.ofNat i) st = some (Int32.ofNat (z_c (fun d => decide (a.2.2.2 i d = none)) 0 8)) := by
  have := m_freeDescriptors_4 h wd hp 8 0 100 0 (by omega) (by omega)
  rw [Nat.zero_add] at this
  exact this
theorem m_countOpenings_4 (h : RW a M st) (wo : ∀ t, t < 20 → a.1 1 t ≤ 4) : ∀ k i n m, i + k = 20 → k < n → f_M_countOpenings_4 n 0 (Int32.ofNat m) (Int32.ofNat i) st = some (Int32.ofNat (m + z_c (fun j => decide (a.1 1 j ≠ 0)) i k)) := by
  intro k
  induction k with
  | zero => intro i n m hi hn; obtain ⟨n, rfl⟩ : ∃ m, n = m + 1 := ⟨n - 1, by omega⟩; have : i = 20 := by omega
            subst this; rw [z_c_0]; rfl
  | succ k ih =>
    intro i n m hi hn
    obtain ⟨n, rfl⟩ : ∃ m, n = m + 1 := ⟨n - 1, by omega⟩
    have h1 : ¬ ((20 : Int32) ≤ Int32.ofNat i) := n_ge (k := 20) (by omega) (by omega)
    have h8 := wo i (by omega)
    unfold f_M_countOpenings_4
    rw [z_c_s, if_neg h1, h.1 6 (by omega)]
    dsimp only
    rw [if_pos (n_in (by omega) (by omega)), n_to (by omega)]
    rw [(h.2.2.2.1 i (by omega)).1, n_su, n_su, ih (i + 1) n m (by omega) (by omega), ih (i + 1) n (m + 1) (by omega) (by omega)]
    by_cases h9 : a.1 1 i = 0
    · rw [if_pos ((n_l0 (by omega)).mpr h9), if_neg (by rw [decide_eq_true_eq]; exact fun z => z h9), Nat.zero_add]
    · rw [if_neg (fun z => h9 ((n_l0 (by omega)).mp z)), if_pos (decide_eq_true h9), Nat.add_assoc]
theorem m_countOpenings (h : RW a M st) (wo : ∀ t, t < 20 → a.1 1 t ≤ 4) : f_M_countOpenings 0 st = some (Int32.ofNat (z_c (fun j => decide (a.1 1 j ≠ 0)) 0 20)) := by
  have := m_countOpenings_4 h wo 20 0 100 0 (by omega) (by omega)
  rw [Nat.zero_add] at this
  exact this
theorem m_holders_4 (hs : m_S (st.2.2.1 32)) (hD : m_D a (st.1 36)) (wd : W_D a) (ho : o < 20) : ∀ k i n m, i + k = 64 → k < n → f_M_holders_4 n 0 (Int32.ofNat o) (Int32.ofNat m) (Int32.ofNat i) st = some (Int32.ofNat (m + z_c (fun k => decide (a.2.2.2 (k / 8) (k % 8) = some o)) i k)) := by
  intro k
  induction k with
  | zero => intro i n m hi hn; obtain ⟨n, rfl⟩ : ∃ m, n = m + 1 := ⟨n - 1, by omega⟩; have : i = 64 := by omega
            subst this; rw [z_c_0]; rfl
  | succ k ih =>
    intro i n m hi hn
    obtain ⟨n, rfl⟩ : ∃ m, n = m + 1 := ⟨n - 1, by omega⟩
    have h1 : ¬ ((64 : Int32) ≤ Int32.ofNat i) := n_ge (k := 64) (by omega) (by omega)
    have h8 : ∀ j, a.2.2.2 (i / 8) (i % 8) = some j → j < 2147483648 := fun j z => by have := wd (i / 8) (by omega) (i % 8) (by omega) j z; omega
    have hd := hD (i / 8) (by omega) (i % 8) (by omega)
    rw [Nat.div_add_mod] at hd
    unfold f_M_holders_4
    rw [z_c_s, if_neg h1, hs 4 (by omega)]
    dsimp only
    rw [if_pos (n_in (by omega) (by omega)), n_to (by omega)]
    rw [hd, n_su, n_su, ih (i + 1) n m (by omega) (by omega), ih (i + 1) n (m + 1) (by omega) (by omega)]
    have he : (z_e (a.2.2.2 (i / 8) (i % 8)) = Int32.ofNat o) ↔ a.2.2.2 (i / 8) (i % 8) = some o := z_e_inj (o' := some o) h8 (fun j z => by cases z; omega)
    by_cases h9 : a.2.2.2 (i / 8) (i % 8) = some o
    · rw [if_pos (he.mpr h9), if_pos (decide_eq_true h9), Nat.add_assoc]
    · rw [if_neg (fun z => h9 (he.mp z)), if_neg (by rw [decide_eq_true_eq]; exact h9), Nat.zero_add]
theorem m_holders (hs : m_S (st.2.2.1 32)) (hD : m_D a (st.1 36)) (wd : W_D a) (ho : o < 20) : f_M_holders 0 (Int32.ofNat o) st = some (Int32.ofNat (z_h a o)) := by
  have := m_holders_4 hs hD wd ho 64 0 100 0 (by omega) (by omega)
  rw [Nat.zero_add] at this
  exact this
/-- kinds and things are small -/
def W_K (a : AS) : Prop := ∀ o, o < 20 → a.1 1 o ≤ 4 ∧ (1 ≤ a.1 1 o ∧ a.1 1 o ≤ 3 → a.1 2 o < 6)
theorem W_K_Q {e : Nat → Nat} (wo : W_Q e a) : W_K a := fun t ht => ⟨(wo t ht).2.1, fun z => by
  by_cases h : a.1 1 t = 3
  · exact (wo t ht).2.2.2.1 h
  · exact ((wo t ht).2.2.1 (by omega)).1⟩
theorem m_openings_5 {s k : Nat} (hs : m_S (st.2.2.1 32)) (hO : ∀ o, o < 20 → st.1 38 0 o = Int32.ofNat (a.1 1 o) ∧ st.1 39 0 o = Int32.ofNat (a.1 2 o)) (wk : W_K a) (h0 : 1 ≤ s ∧ s ≤ 3) (hk : k < 6) : ∀ j i n m, i + j = 20 → j < n →
    f_M_openings_5 n 0 (Int32.ofNat s) (Int32.ofNat k) (Int32.ofNat m) (Int32.ofNat i) st = some (Int32.ofNat (m + z_c (fun o => decide (a.1 1 o = s ∧ a.1 2 o = k)) i j)) := by
  intro j
  induction j with
  | zero => intro i n m hi hn; obtain ⟨n, rfl⟩ : ∃ m, n = m + 1 := ⟨n - 1, by omega⟩; have : i = 20 := by omega
            subst this; rw [z_c_0]; rfl
  | succ j ih =>
    intro i n m hi hn
    obtain ⟨n, rfl⟩ : ∃ m, n = m + 1 := ⟨n - 1, by omega⟩
    have h1 : ¬ ((20 : Int32) ≤ Int32.ofNat i) := n_ge (k := 20) (by omega) (by omega)
    obtain ⟨h8, h9⟩ := wk i (by omega)
    obtain ⟨hd, hd'⟩ := hO i (by omega)
    unfold f_M_openings_5
    rw [z_c_s, if_neg h1, hs 6 (by omega)]
    dsimp only
    rw [if_pos (n_in (by omega) (by omega)), hs 7 (by omega)]
    dsimp only
    rw [if_pos (n_in (by omega) (by omega)), n_to (by omega)]
    rw [hd, hd', n_su, n_su, ih (i + 1) n m (by omega) (by omega), ih (i + 1) n (m + 1) (by omega) (by omega)]
    by_cases h10 : a.1 1 i = s
    · rw [if_pos ((n_eq (by omega) (by omega)).mpr h10)]
      have h11 := h9 (by omega)
      by_cases h12 : a.1 2 i = k
      · rw [if_pos ((n_eq (by omega) (by omega)).mpr h12), if_pos (decide_eq_true ⟨h10, h12⟩), Nat.add_assoc]
      · rw [if_neg (fun z => h12 ((n_eq (by omega) (by omega)).mp z)), if_neg (by rw [decide_eq_true_eq]; exact fun z => h12 z.2), Nat.zero_add]
    · rw [if_neg (fun z => h10 ((n_eq (by omega) (by omega)).mp z)), if_neg (by rw [decide_eq_true_eq]; exact fun z => h10 z.1), Nat.zero_add]
theorem m_openings {s k : Nat} (hs : m_S (st.2.2.1 32)) (hO : ∀ o, o < 20 → st.1 38 0 o = Int32.ofNat (a.1 1 o) ∧ st.1 39 0 o = Int32.ofNat (a.1 2 o)) (wk : W_K a) (h0 : 1 ≤ s ∧ s ≤ 3) (hk : k < 6) :
    f_M_openings 0 (Int32.ofNat s) (Int32.ofNat k) st = some (Int32.ofNat (z_o a s k)) := by
  have := m_openings_5 hs hO wk h0 hk 20 0 100 0 (by omega) (by omega)
  rw [Nat.zero_add] at this
  exact this
theorem m_OO (h : RW a M st) : ∀ o, o < 20 → st.1 38 0 o = Int32.ofNat (a.1 1 o) ∧ st.1 39 0 o = Int32.ofNat (a.1 2 o) := fun o ho => ⟨(h.2.2.2.1 o ho).1, (h.2.2.2.1 o ho).2.1⟩
theorem m_named_2 (h : RW a M st) {x : Int32} (hx : x ≠ 0) : ∀ k i n, i + k = 6 → k < n → f_M_named_2 n 0 x (Int32.ofNat i) st = some (z_e (z_f (fun f => decide (a.2.1 3 f = x)) i k)) := by
  intro k
  induction k with
  | zero => intro i n hi hn; obtain ⟨n, rfl⟩ : ∃ m, n = m + 1 := ⟨n - 1, by omega⟩; have : i = 6 := by omega
            subst this; rfl
  | succ k ih =>
    intro i n hi hn
    obtain ⟨n, rfl⟩ : ∃ m, n = m + 1 := ⟨n - 1, by omega⟩
    have h1 : ¬ ((6 : Int32) ≤ Int32.ofNat i) := n_ge (k := 6) (by omega) (by omega)
    obtain ⟨hf0, hf1, hf2, _⟩ := h.2.2.2.2.2.1 i (by omega)
    unfold f_M_named_2 z_f
    rw [if_neg h1, h.1 13 (by omega)]
    dsimp only
    rw [if_pos (n_in (by omega) (by omega)), h.1 14 (by omega)]
    dsimp only
    rw [if_pos (n_in (by omega) (by omega)), if_neg h1, n_to (by omega)]
    rw [hf2, n_su, ih (i + 1) n (by omega) (by omega)]
    by_cases h9 : a.2.1 3 i = x
    · rw [if_neg (by rw [hf1 (Or.inl (by rw [h9]; exact hx))]; decide), if_pos h9, if_pos (decide_eq_true h9)]; rfl
    · rw [if_neg h9, if_neg (c := decide _ = true) (by rw [decide_eq_true_eq]; exact h9), ite_self]
theorem m_named (h : RW a M st) {x : Int32} (hx : x ≠ 0) : f_M_named 0 x st = some (z_e (z_fn a x)) := m_named_2 h hx 6 0 100 (by omega) (by omega)
theorem m_fl (h : RM a M st) {f : Nat} (hf : f < 6) : st.1 45 0 f = if a.2.1 3 f = 0 ∧ z_o a 3 f = 0 then 0 else 1 := by
  obtain ⟨hf0, hf1, _⟩ := h.1.2.2.2.2.2.1 f hf
  have h2 := h.2.2 f hf
  by_cases h9 : a.2.1 3 f = 0 ∧ z_o a 3 f = 0
  · rw [if_pos h9]
    rcases hf0 with z | z
    · exact z
    · rcases h2 z with y | y
      · exact absurd h9.1 y
      · omega
  · rw [if_neg h9]
    apply hf1
    by_cases h3 : a.2.1 3 f = 0
    · exact Or.inr (Nat.pos_of_ne_zero (fun z => h9 ⟨h3, z⟩))
    · exact Or.inl h3
theorem m_fp (h : RM a M st) {k : Nat} (hk : k < 6) : st.1 44 0 k = if z_o a 1 k + z_o a 2 k = 0 then 0 else 1 := by
  obtain ⟨hf0, hf1, _⟩ := h.1.2.2.2.2.1 k hk
  have h2 := h.2.1 k hk
  by_cases h9 : z_o a 1 k + z_o a 2 k = 0
  · rw [if_pos h9]
    rcases hf0 with z | z
    · exact z
    · have := h2 z; omega
  · rw [if_neg h9]
    exact (hf1 (by omega)).1
theorem m_freeFile_2 (h : RM a M st) : ∀ k i n, i + k = 6 → k < n → f_M_freeFile_2 n 0 (Int32.ofNat i) st = some (z_e (z_f (fun f => decide (a.2.1 3 f = 0 ∧ z_o a 3 f = 0)) i k)) := by
  intro k
  induction k with
  | zero => intro i n hi hn; obtain ⟨n, rfl⟩ : ∃ m, n = m + 1 := ⟨n - 1, by omega⟩; have : i = 6 := by omega
            subst this; rfl
  | succ k ih =>
    intro i n hi hn
    obtain ⟨n, rfl⟩ : ∃ m, n = m + 1 := ⟨n - 1, by omega⟩
    have h1 : ¬ ((6 : Int32) ≤ Int32.ofNat i) := n_ge (k := 6) (by omega) (by omega)
    unfold f_M_freeFile_2 z_f
    rw [if_neg h1, h.1.1 13 (by omega)]
    dsimp only
    rw [if_pos (n_in (by omega) (by omega)), n_to (by omega), if_neg h1]
    rw [m_fl h (by omega), n_su, ih (i + 1) n (by omega) (by omega)]
    by_cases h9 : a.2.1 3 i = 0 ∧ z_o a 3 i = 0
    · rw [if_pos h9, if_pos rfl, if_pos (decide_eq_true h9)]; rfl
    · rw [if_neg h9, if_neg (by decide), if_neg (by rw [decide_eq_true_eq]; exact h9)]
theorem m_freeFile (h : RM a M st) : f_M_freeFile 0 st = some (z_e (z_ff a)) := m_freeFile_2 h 6 0 100 (by omega) (by omega)
theorem m_openingOf (h : RW a M st) (hi : i < 8) (d : Int32) : f_M_openingOf 0 (Int32.ofNat i) d st = some (z_e (z_d a i d)) := by
  unfold f_M_openingOf z_d
  rw [m_in7]
  dsimp only
  rcases n_ca d 8 with ⟨j, hj, hj', rfl⟩ | hp
  · have h3 : x_in (Int32.ofNat j) 8 := n_in hj' hj
    rw [if_pos h3, if_neg (by decide), h.1 4 (by omega)]
    dsimp only
    rw [n_8, if_pos (n_in (by omega) (by omega)), n_to (by omega), if_pos h3, n_to hj', h.2.2.1 i hi j hj]
  · rw [if_neg hp, if_pos rfl, if_neg hp]; rfl
theorem z_o_se (ho : o < 20) : 0 < z_o a (a.1 1 o) (a.1 2 o) := (z_c_ps 20 0).mpr ⟨o, by omega, by omega, decide_eq_true ⟨rfl, rfl⟩⟩
theorem m_waits (h : RW a M st) (wk : W_K a) (wl : ∀ k, k < 6 → a.1 4 k ≤ 32) (ho : o < 20) {m : Nat} (hm : m ≤ 8) (r : Bool) (h20 : a.1 4 20 ≤ 40) :
    f_M_waits 0 (Int32.ofNat o) (if r = true then 1 else 0) (Int32.ofNat m) st = some (if z_w a o r (Int32.ofNat m) = true then 1 else 0) := by
  obtain ⟨wk1, wk2⟩ := wk o ho
  obtain ⟨p1, p2, _⟩ := h.2.2.2.1 o ho
  have hse := z_o_se (a := a) ho
  unfold f_M_waits
  by_cases h0 : m = 0
  · subst h0
    rw [if_pos (show Int32.ofNat 0 = 0 from rfl), if_neg]
    unfold z_w
    rw [decide_eq_true_eq]
    exact fun z => z.1 rfl
  have h00 : Int32.ofNat m ≠ 0 := fun z => h0 ((n_e0 (by omega)).mp z)
  rw [if_neg h00, h.1 6 (by omega)]
  dsimp only
  rw [if_pos (n_in (by omega) ho), h.1 7 (by omega)]
  dsimp only
  rw [if_pos (n_in (by omega) ho), n_to (by omega), p1, p2]
  have hcs : a.1 1 o = 0 ∨ a.1 1 o = 1 ∨ a.1 1 o = 2 ∨ a.1 1 o = 3 ∨ a.1 1 o = 4 := by omega
  rcases hcs with hc | hc | hc | hc | hc
  · rw [hc, if_neg (by decide), if_neg (by decide), if_neg (by decide), if_neg]
    unfold z_w; rw [decide_eq_true_eq]; omega
  · have hw2 := wk2 (by omega)
    have hp := ((h.2.2.2.2.1 (a.1 2 o) hw2).2.1 (by rw [hc] at hse; omega)).2
    have hl := wl (a.1 2 o) hw2
    have hz := z_o_le a 2 (a.1 2 o)
    rw [hc, if_neg (by decide), if_pos (by decide), h.1 10 (by omega)]
    dsimp only
    rw [if_pos (n_in (by omega) hw2), n_to (by omega), hp, show (2 : Int32) = Int32.ofNat 2 from rfl, m_openings h.1 (m_OO h) wk (by omega) hw2]
    dsimp only
    cases r with
    | false => rw [if_neg (c := false = true) (by decide), if_pos rfl, if_neg (by rw [z_w_1w hc]; decide)]
    | true =>
      rw [if_pos rfl, if_neg (by decide), z_w_1 hc]
      by_cases h1 : a.1 4 (a.1 2 o) = 0
      · rw [if_pos ((n_e0 (by omega)).mpr h1)]
        by_cases h2 : z_o a 2 (a.1 2 o) = 0
        · rw [if_pos ((n_l0 (by omega)).mpr h2), if_neg (by rw [decide_eq_true_eq]; omega)]
        · rw [if_neg (fun z => h2 ((n_l0 (by omega)).mp z)), if_pos (decide_eq_true ⟨h00, h1, by omega⟩)]
      · rw [if_neg (fun z => h1 ((n_e0 (by omega)).mp z)), if_neg (by rw [decide_eq_true_eq]; omega)]
  · have hw2 := wk2 (by omega)
    have hp := ((h.2.2.2.2.1 (a.1 2 o) hw2).2.1 (by rw [hc] at hse; omega)).2
    have hl := wl (a.1 2 o) hw2
    have hz := z_o_le a 1 (a.1 2 o)
    rw [hc, if_neg (by decide), if_neg (by decide), if_pos (by decide), h.1 10 (by omega)]
    dsimp only
    rw [if_pos (n_in (by omega) hw2), n_to (by omega), hp, show (1 : Int32) = Int32.ofNat 1 from rfl, m_openings h.1 (m_OO h) wk (by omega) hw2]
    dsimp only
    cases r with
    | true => rw [if_pos rfl, if_neg (by decide), if_neg (by rw [z_w_2r hc]; decide)]
    | false =>
      rw [if_neg (c := false = true) (by decide), if_pos rfl, z_w_2 hm hl hc, n_ad]
      by_cases h1 : z_o a 1 (a.1 2 o) = 0
      · rw [if_pos ((n_l0 (by omega)).mpr h1), if_neg (by rw [decide_eq_true_eq]; omega)]
      · rw [if_neg (fun z => h1 ((n_l0 (by omega)).mp z))]
        by_cases h2 : a.1 4 (a.1 2 o) + m ≤ 32
        · rw [if_pos (show Int32.ofNat (a.1 4 (a.1 2 o) + m) ≤ 32 from (n_le (b := 32) (by omega) (by omega)).mpr h2), if_neg (by rw [decide_eq_true_eq]; omega)]
        · rw [if_neg (show ¬ Int32.ofNat (a.1 4 (a.1 2 o) + m) ≤ 32 from fun z => h2 ((n_le (b := 32) (by omega) (by omega)).mp z)), if_pos (decide_eq_true ⟨by omega, by omega⟩)]
  · rw [hc, if_neg (by decide), if_neg (by decide), if_neg (by decide), if_neg (by rw [z_w_3 hc]; decide)]
  · have hp := h.2.2.2.2.2.2.1.1
    rw [hc, if_pos (by decide), hp]
    cases r with
    | false => rw [if_neg (c := false = true) (by decide), if_pos rfl, if_neg (by rw [z_w_4w hc]; decide)]
    | true =>
      rw [if_pos rfl, if_neg (by decide), z_w_4 hc]
      by_cases h1 : a.1 4 20 = 0
      · rw [if_pos ((n_e0 (by omega)).mpr h1), if_pos (decide_eq_true ⟨h00, h1⟩)]
      · rw [if_neg (fun z => h1 ((n_e0 (by omega)).mp z)), if_neg (by rw [decide_eq_true_eq]; omega)]
end
