/-! HOW MANY: the class's counts and the reference's -/
def z_sm (g : Nat → Nat) : Nat → Nat → Nat
  | _, 0 => 0
  | i, k + 1 => g i + z_sm g (i + 1) k
section
variable {e : Nat → Nat} {c : Int32} {a b : AS} {M st : XS} {i d o N w : Nat}
theorem c_procsThere_13 (h : RC z_0 a M st) (wo : W_O z_0 a) (wp : W_P a) : ∀ k i n m, i + k = 8 → k < n → f_D_procsThere_13 n (Int32.ofNat m) (some 0) 8 (Int32.ofNat i) st = some (Int32.ofNat (m + z_c (fun t => decide (a.1 0 t ≠ 0)) i k)) := by
  intro k
  induction k with
  | zero => intro i n m hi hn; obtain ⟨n, rfl⟩ : ∃ m, n = m + 1 := ⟨n - 1, by omega⟩; have : i = 8 := by omega
            subst this; rw [z_c_0]; rfl
  | succ k ih =>
    intro i n m hi hn
    obtain ⟨n, rfl⟩ : ∃ m, n = m + 1 := ⟨n - 1, by omega⟩
    have h1 : ¬ ((8 : Int32) ≤ Int32.ofNat i) := n_ge (k := 8) (by omega) (by omega)
    unfold f_D_procsThere_13
    rw [z_c_s, if_neg h1]
    dsimp only
    rw [if_pos (n_in (by omega) (by omega)), n_to (by omega), h.1.2.1 i (by omega)]
    dsimp only
    have h8 := wp i (by omega)
    rw [(h.2.1 i (by omega)).1]
    rw [Int32.add_zero, n_su, n_su, ih (i + 1) n m (by omega) (by omega), ih (i + 1) n (m + 1) (by omega) (by omega)]
    by_cases h9 : a.1 0 i = 0
    · rw [if_pos ((n_e0 (by omega)).mpr h9), if_neg (c := decide _ = true) (by rw [decide_eq_true_eq]; exact fun z => z h9), Nat.zero_add]
    · rw [if_neg (fun z => h9 ((n_e0 (by omega)).mp z)), if_pos (c := decide _ = true) (decide_eq_true h9), Nat.add_assoc]
theorem c_procsThere (h : RC z_0 a M st) (wo : W_O z_0 a) (wp : W_P a) : f_D_procsThere 0 st = some (Int32.ofNat (z_c (fun t => decide (a.1 0 t ≠ 0)) 0 8)) := by
  have := c_procsThere_13 h wo wp 8 0 100 0 (by omega) (by omega)
  rw [Nat.zero_add] at this
  unfold f_D_procsThere
  rw [h.1.1.1]
  exact this
theorem c_procsWaiting_13 (h : RC z_0 a M st) (wo : W_O z_0 a) (wp : W_P a) : ∀ k i n m, i + k = 8 → k < n → f_D_procsWaiting_13 n (Int32.ofNat m) (some 0) 8 (Int32.ofNat i) st = some (Int32.ofNat (m + z_c (fun t => decide (2 ≤ a.1 0 t)) i k)) := by
  intro k
  induction k with
  | zero => intro i n m hi hn; obtain ⟨n, rfl⟩ : ∃ m, n = m + 1 := ⟨n - 1, by omega⟩; have : i = 8 := by omega
            subst this; rw [z_c_0]; rfl
  | succ k ih =>
    intro i n m hi hn
    obtain ⟨n, rfl⟩ : ∃ m, n = m + 1 := ⟨n - 1, by omega⟩
    have h1 : ¬ ((8 : Int32) ≤ Int32.ofNat i) := n_ge (k := 8) (by omega) (by omega)
    unfold f_D_procsWaiting_13
    rw [z_c_s, if_neg h1]
    dsimp only
    rw [if_pos (n_in (by omega) (by omega)), n_to (by omega), h.1.2.1 i (by omega)]
    dsimp only
    have h8 := wp i (by omega)
    have e1 : f_P_isWaiting i st = some (if 2 ≤ a.1 0 i then 1 else 0) := by
      unfold f_P_isWaiting
      rw [(h.2.1 i (by omega)).1]
      by_cases h2 : a.1 0 i = 2
      · rw [if_pos ((n_e2 (by omega)).mpr h2), if_pos (by omega)]
      · rw [if_neg (fun z => h2 ((n_e2 (by omega)).mp z))]
        by_cases h3 : a.1 0 i = 3
        · rw [if_pos ((n_e3 (by omega)).mpr h3), if_pos (by omega)]
        · rw [if_neg (fun z => h3 ((n_e3 (by omega)).mp z)), if_neg (by omega)]
    rw [e1]
    dsimp only
    rw [Int32.add_zero, n_su, n_su, ih (i + 1) n m (by omega) (by omega), ih (i + 1) n (m + 1) (by omega) (by omega)]
    by_cases h9 : 2 ≤ a.1 0 i
    · rw [if_pos h9, if_neg (c := (1 : Int32) = 0) (by decide), if_pos (c := decide _ = true) (decide_eq_true h9), Nat.add_assoc]
    · rw [if_neg h9, if_pos (c := (0 : Int32) = 0) rfl, if_neg (c := decide _ = true) (by rw [decide_eq_true_eq]; exact h9), Nat.zero_add]
theorem c_procsWaiting (h : RC z_0 a M st) (wo : W_O z_0 a) (wp : W_P a) : f_D_procsWaiting 0 st = some (Int32.ofNat (z_c (fun t => decide (2 ≤ a.1 0 t)) 0 8)) := by
  have := c_procsWaiting_13 h wo wp 8 0 100 0 (by omega) (by omega)
  rw [Nat.zero_add] at this
  unfold f_D_procsWaiting
  rw [h.1.1.1]
  exact this
theorem c_openingsThere_13 (h : RC z_0 a M st) (wo : W_O z_0 a) (wp : W_P a) : ∀ k i n m, i + k = 20 → k < n → f_D_openingsThere_13 n (Int32.ofNat m) (some 0) 20 (Int32.ofNat i) st = some (Int32.ofNat (m + z_c (fun t => decide (a.1 1 t ≠ 0)) i k)) := by
  intro k
  induction k with
  | zero => intro i n m hi hn; obtain ⟨n, rfl⟩ : ∃ m, n = m + 1 := ⟨n - 1, by omega⟩; have : i = 20 := by omega
            subst this; rw [z_c_0]; rfl
  | succ k ih =>
    intro i n m hi hn
    obtain ⟨n, rfl⟩ : ∃ m, n = m + 1 := ⟨n - 1, by omega⟩
    have h1 : ¬ ((20 : Int32) ≤ Int32.ofNat i) := n_ge (k := 20) (by omega) (by omega)
    unfold f_D_openingsThere_13
    rw [z_c_s, if_neg h1]
    dsimp only
    rw [if_pos (n_in (by omega) (by omega)), n_to (by omega), h.1.2.2.1 i (by omega)]
    dsimp only
    have h8 := z_h_le a i
    have h7 := (wo i (by omega)).1
    have h6 : z_h a i + z_0 i = z_h a i := Nat.add_zero _
    rw [(h.2.2.2.1 i (by omega)).1, h6]
    rw [h6] at h7
    rw [Int32.add_zero, n_su, n_su, ih (i + 1) n m (by omega) (by omega), ih (i + 1) n (m + 1) (by omega) (by omega)]
    by_cases h9 : z_h a i = 0
    · rw [if_pos ((n_l0 (by omega)).mpr h9), if_neg (c := decide _ = true) (by rw [decide_eq_true_eq]; omega), Nat.zero_add]
    · rw [if_neg (fun z => h9 ((n_l0 (by omega)).mp z)), if_pos (c := decide _ = true) (decide_eq_true (by omega)), Nat.add_assoc]
theorem c_openingsThere (h : RC z_0 a M st) (wo : W_O z_0 a) (wp : W_P a) : f_D_openingsThere 0 st = some (Int32.ofNat (z_c (fun t => decide (a.1 1 t ≠ 0)) 0 20)) := by
  have := c_openingsThere_13 h wo wp 20 0 100 0 (by omega) (by omega)
  rw [Nat.zero_add] at this
  unfold f_D_openingsThere
  rw [h.1.1.2.1]
  exact this
theorem c_pipesThere_13 (h : RC z_0 a M st) (wo : W_O z_0 a) (wp : W_P a) : ∀ k i n m, i + k = 6 → k < n → f_D_pipesThere_13 n (Int32.ofNat m) (some 0) 6 (Int32.ofNat i) st = some (Int32.ofNat (m + z_c (fun t => decide (z_o a 1 t + z_o a 2 t ≠ 0)) i k)) := by
  intro k
  induction k with
  | zero => intro i n m hi hn; obtain ⟨n, rfl⟩ : ∃ m, n = m + 1 := ⟨n - 1, by omega⟩; have : i = 6 := by omega
            subst this; rw [z_c_0]; rfl
  | succ k ih =>
    intro i n m hi hn
    obtain ⟨n, rfl⟩ : ∃ m, n = m + 1 := ⟨n - 1, by omega⟩
    have h1 : ¬ ((6 : Int32) ≤ Int32.ofNat i) := n_ge (k := 6) (by omega) (by omega)
    unfold f_D_pipesThere_13
    rw [z_c_s, if_neg h1]
    dsimp only
    rw [if_pos (n_in (by omega) (by omega)), n_to (by omega), h.1.2.2.2.1 i (by omega)]
    dsimp only
    rw [c_pipeThere h (by omega)]
    dsimp only
    rw [Int32.add_zero, n_su, n_su, ih (i + 1) n m (by omega) (by omega), ih (i + 1) n (m + 1) (by omega) (by omega)]
    by_cases h9 : z_o a 1 i + z_o a 2 i = 0
    · rw [if_pos h9, if_pos (c := (0 : Int32) = 0) rfl, if_neg (c := decide _ = true) (by rw [decide_eq_true_eq]; exact fun z => z h9), Nat.zero_add]
    · rw [if_neg h9, if_neg (c := (1 : Int32) = 0) (by decide), if_pos (c := decide _ = true) (decide_eq_true h9), Nat.add_assoc]
theorem c_pipesThere (h : RC z_0 a M st) (wo : W_O z_0 a) (wp : W_P a) : f_D_pipesThere 0 st = some (Int32.ofNat (z_c (fun t => decide (z_o a 1 t + z_o a 2 t ≠ 0)) 0 6)) := by
  have := c_pipesThere_13 h wo wp 6 0 100 0 (by omega) (by omega)
  rw [Nat.zero_add] at this
  unfold f_D_pipesThere
  rw [h.1.1.2.2.1]
  exact this
theorem c_filesThere_13 (h : RC z_0 a M st) (wo : W_O z_0 a) (wp : W_P a) : ∀ k i n m, i + k = 6 → k < n → f_D_filesThere_13 n (Int32.ofNat m) (some 0) 6 (Int32.ofNat i) st = some (Int32.ofNat (m + z_c (fun t => decide (¬ (a.2.1 3 t = 0 ∧ z_o a 3 t = 0))) i k)) := by
  intro k
  induction k with
  | zero => intro i n m hi hn; obtain ⟨n, rfl⟩ : ∃ m, n = m + 1 := ⟨n - 1, by omega⟩; have : i = 6 := by omega
            subst this; rw [z_c_0]; rfl
  | succ k ih =>
    intro i n m hi hn
    obtain ⟨n, rfl⟩ : ∃ m, n = m + 1 := ⟨n - 1, by omega⟩
    have h1 : ¬ ((6 : Int32) ≤ Int32.ofNat i) := n_ge (k := 6) (by omega) (by omega)
    unfold f_D_filesThere_13
    rw [z_c_s, if_neg h1]
    dsimp only
    rw [if_pos (n_in (by omega) (by omega)), n_to (by omega), h.1.2.2.2.2.1 i (by omega)]
    dsimp only
    rw [c_fileThere h (by omega)]
    dsimp only
    rw [Int32.add_zero, n_su, n_su, ih (i + 1) n m (by omega) (by omega), ih (i + 1) n (m + 1) (by omega) (by omega)]
    by_cases h9 : a.2.1 3 i = 0 ∧ z_o a 3 i = 0
    · rw [if_pos h9, if_pos (c := (0 : Int32) = 0) rfl, if_neg (c := decide _ = true) (by rw [decide_eq_true_eq]; exact fun z => z h9), Nat.zero_add]
    · rw [if_neg h9, if_neg (c := (1 : Int32) = 0) (by decide), if_pos (c := decide _ = true) (decide_eq_true h9), Nat.add_assoc]
theorem c_filesThere (h : RC z_0 a M st) (wo : W_O z_0 a) (wp : W_P a) : f_D_filesThere 0 st = some (Int32.ofNat (z_c (fun t => decide (¬ (a.2.1 3 t = 0 ∧ z_o a 3 t = 0))) 0 6)) := by
  have := c_filesThere_13 h wo wp 6 0 100 0 (by omega) (by omega)
  rw [Nat.zero_add] at this
  unfold f_D_filesThere
  rw [h.1.1.2.2.2.1]
  exact this
theorem c_filesWithNames_13 (h : RC z_0 a M st) (wo : W_O z_0 a) (wp : W_P a) : ∀ k i n m, i + k = 6 → k < n → f_D_filesWithNames_13 n (Int32.ofNat m) (some 0) 6 (Int32.ofNat i) st = some (Int32.ofNat (m + z_c (fun t => decide (a.2.1 3 t ≠ 0)) i k)) := by
  intro k
  induction k with
  | zero => intro i n m hi hn; obtain ⟨n, rfl⟩ : ∃ m, n = m + 1 := ⟨n - 1, by omega⟩; have : i = 6 := by omega
            subst this; rw [z_c_0]; rfl
  | succ k ih =>
    intro i n m hi hn
    obtain ⟨n, rfl⟩ : ∃ m, n = m + 1 := ⟨n - 1, by omega⟩
    have h1 : ¬ ((6 : Int32) ≤ Int32.ofNat i) := n_ge (k := 6) (by omega) (by omega)
    unfold f_D_filesWithNames_13
    rw [z_c_s, if_neg h1]
    dsimp only
    rw [if_pos (n_in (by omega) (by omega)), n_to (by omega), h.1.2.2.2.2.1 i (by omega)]
    dsimp only
    rw [(h.2.2.2.2.2.2.1 i (by omega)).2.1]
    rw [Int32.add_zero, n_su, n_su, ih (i + 1) n m (by omega) (by omega), ih (i + 1) n (m + 1) (by omega) (by omega)]
    by_cases h9 : a.2.1 3 i = 0
    · rw [if_pos h9, if_neg (c := decide _ = true) (by rw [decide_eq_true_eq]; exact fun z => z h9), Nat.zero_add]
    · rw [if_neg h9, if_pos (c := decide _ = true) (decide_eq_true h9), Nat.add_assoc]
theorem c_filesWithNames (h : RC z_0 a M st) (wo : W_O z_0 a) (wp : W_P a) : f_D_filesWithNames 0 st = some (Int32.ofNat (z_c (fun t => decide (a.2.1 3 t ≠ 0)) 0 6)) := by
  have := c_filesWithNames_13 h wo wp 6 0 100 0 (by omega) (by omega)
  rw [Nat.zero_add] at this
  unfold f_D_filesWithNames
  rw [h.1.1.2.2.2.1]
  exact this
theorem m_count_62 (h : RM a M st) (wp : W_P a) (wl : W_L N a) : ∀ k i n m, i + k = 8 → k < n → f_M_count_62 n 0 (Int32.ofNat m) (Int32.ofNat i) st = some (Int32.ofNat (m + z_c (fun t => decide (a.1 0 t ≠ 0)) i k), st) := by
  intro k
  induction k with
  | zero => intro i n m hi hn; obtain ⟨n, rfl⟩ : ∃ m, n = m + 1 := ⟨n - 1, by omega⟩; have : i = 8 := by omega
            subst this; rw [z_c_0]; rfl
  | succ k ih =>
    intro i n m hi hn
    obtain ⟨n, rfl⟩ : ∃ m, n = m + 1 := ⟨n - 1, by omega⟩
    have h1 : ¬ ((8 : Int32) ≤ Int32.ofNat i) := n_ge (k := 8) (by omega) (by omega)
    have hin : x_in (Int32.ofNat i) 8 := n_in (by omega) (by omega)
    unfold f_M_count_62
    rw [z_c_s, if_neg h1, h.1.1 1 (by omega)]
    simp only [if_pos hin, n_to (show i < 2147483648 by omega), (h.1.2.1 i (by omega)).1]
    rw [n_su, n_su, ih (i + 1) n m (by omega) (by omega), ih (i + 1) n (m + 1) (by omega) (by omega)]
    have h8 := wp i (by omega)
    by_cases h9 : a.1 0 i = 0
    · rw [if_pos ((n_l0 (by omega)).mpr h9), if_neg (c := decide _ = true) (by rw [decide_eq_true_eq]; exact fun z => z h9), Nat.zero_add]
    · rw [if_neg (fun z => h9 ((n_l0 (by omega)).mp z)), if_pos (c := decide _ = true) (decide_eq_true h9), Nat.add_assoc]
theorem m_count_95 (h : RM a M st) (wp : W_P a) (wl : W_L N a) : ∀ k i n m, i + k = 8 → k < n → f_M_count_95 n 0 (Int32.ofNat m) (Int32.ofNat i) st = some (Int32.ofNat (m + z_c (fun t => decide (2 ≤ a.1 0 t)) i k), st) := by
  intro k
  induction k with
  | zero => intro i n m hi hn; obtain ⟨n, rfl⟩ : ∃ m, n = m + 1 := ⟨n - 1, by omega⟩; have : i = 8 := by omega
            subst this; rw [z_c_0]; rfl
  | succ k ih =>
    intro i n m hi hn
    obtain ⟨n, rfl⟩ : ∃ m, n = m + 1 := ⟨n - 1, by omega⟩
    have h1 : ¬ ((8 : Int32) ≤ Int32.ofNat i) := n_ge (k := 8) (by omega) (by omega)
    have hin : x_in (Int32.ofNat i) 8 := n_in (by omega) (by omega)
    unfold f_M_count_95
    rw [z_c_s, if_neg h1, h.1.1 1 (by omega)]
    simp only [if_pos hin, n_to (show i < 2147483648 by omega), (h.1.2.1 i (by omega)).1]
    rw [n_su, n_su, ih (i + 1) n m (by omega) (by omega), ih (i + 1) n (m + 1) (by omega) (by omega)]
    have h8 := wp i (by omega)
    by_cases h9 : a.1 0 i ≤ 1
    · rw [if_pos (show Int32.ofNat (a.1 0 i) ≤ 1 from (n_le (b := 1) (by omega) (by omega)).mpr h9), if_neg (c := decide _ = true) (by rw [decide_eq_true_eq]; omega), Nat.zero_add]
    · rw [if_neg (show ¬ Int32.ofNat (a.1 0 i) ≤ 1 from fun z => h9 ((n_le (b := 1) (by omega) (by omega)).mp z)), if_pos (c := decide _ = true) (decide_eq_true (by omega)), Nat.add_assoc]
theorem m_count_134 (h : RM a M st) (wp : W_P a) (wl : W_L N a) : ∀ k i n m, i + k = 6 → k < n → f_M_count_134 n 0 (Int32.ofNat m) (Int32.ofNat i) st = some (Int32.ofNat (m + z_c (fun t => decide (z_o a 1 t + z_o a 2 t ≠ 0)) i k), st) := by
  intro k
  induction k with
  | zero => intro i n m hi hn; obtain ⟨n, rfl⟩ : ∃ m, n = m + 1 := ⟨n - 1, by omega⟩; have : i = 6 := by omega
            subst this; rw [z_c_0]; rfl
  | succ k ih =>
    intro i n m hi hn
    obtain ⟨n, rfl⟩ : ∃ m, n = m + 1 := ⟨n - 1, by omega⟩
    have h1 : ¬ ((6 : Int32) ≤ Int32.ofNat i) := n_ge (k := 6) (by omega) (by omega)
    have hin : x_in (Int32.ofNat i) 6 := n_in (by omega) (by omega)
    unfold f_M_count_134
    rw [z_c_s, if_neg h1, h.1.1 12 (by omega)]
    simp only [if_pos hin, n_to (show i < 2147483648 by omega), m_fp h (show i < 6 by omega)]
    rw [n_su, n_su, ih (i + 1) n m (by omega) (by omega), ih (i + 1) n (m + 1) (by omega) (by omega)]
    by_cases h9 : z_o a 1 i + z_o a 2 i = 0
    · rw [if_pos h9, if_pos (c := (0 : Int32) = 0) rfl, if_neg (c := decide _ = true) (by rw [decide_eq_true_eq]; exact fun z => z h9), Nat.zero_add]
    · rw [if_neg h9, if_neg (c := (1 : Int32) = 0) (by decide), if_pos (c := decide _ = true) (decide_eq_true h9), Nat.add_assoc]
theorem m_count_167 (h : RM a M st) (wp : W_P a) (wl : W_L N a) : ∀ k i n m, i + k = 6 → k < n → f_M_count_167 n 0 (Int32.ofNat m) (Int32.ofNat i) st = some (Int32.ofNat (m + z_c (fun t => decide (¬ (a.2.1 3 t = 0 ∧ z_o a 3 t = 0))) i k), st) := by
  intro k
  induction k with
  | zero => intro i n m hi hn; obtain ⟨n, rfl⟩ : ∃ m, n = m + 1 := ⟨n - 1, by omega⟩; have : i = 6 := by omega
            subst this; rw [z_c_0]; rfl
  | succ k ih =>
    intro i n m hi hn
    obtain ⟨n, rfl⟩ : ∃ m, n = m + 1 := ⟨n - 1, by omega⟩
    have h1 : ¬ ((6 : Int32) ≤ Int32.ofNat i) := n_ge (k := 6) (by omega) (by omega)
    have hin : x_in (Int32.ofNat i) 6 := n_in (by omega) (by omega)
    unfold f_M_count_167
    rw [z_c_s, if_neg h1, h.1.1 13 (by omega)]
    simp only [if_pos hin, n_to (show i < 2147483648 by omega), m_fl h (show i < 6 by omega)]
    rw [n_su, n_su, ih (i + 1) n m (by omega) (by omega), ih (i + 1) n (m + 1) (by omega) (by omega)]
    by_cases h9 : a.2.1 3 i = 0 ∧ z_o a 3 i = 0
    · rw [if_pos h9, if_pos (c := (0 : Int32) = 0) rfl, if_neg (c := decide _ = true) (by rw [decide_eq_true_eq]; exact fun z => z h9), Nat.zero_add]
    · rw [if_neg h9, if_neg (c := (1 : Int32) = 0) (by decide), if_pos (c := decide _ = true) (decide_eq_true h9), Nat.add_assoc]
theorem m_count_200 (h : RM a M st) (wp : W_P a) (wl : W_L N a) : ∀ k i n m, i + k = 6 → k < n → f_M_count_200 n 0 (Int32.ofNat m) (Int32.ofNat i) st = some (Int32.ofNat (m + z_c (fun t => decide (a.2.1 3 t ≠ 0)) i k), st) := by
  intro k
  induction k with
  | zero => intro i n m hi hn; obtain ⟨n, rfl⟩ : ∃ m, n = m + 1 := ⟨n - 1, by omega⟩; have : i = 6 := by omega
            subst this; rw [z_c_0]; rfl
  | succ k ih =>
    intro i n m hi hn
    obtain ⟨n, rfl⟩ : ∃ m, n = m + 1 := ⟨n - 1, by omega⟩
    have h1 : ¬ ((6 : Int32) ≤ Int32.ofNat i) := n_ge (k := 6) (by omega) (by omega)
    have hin : x_in (Int32.ofNat i) 6 := n_in (by omega) (by omega)
    unfold f_M_count_200
    rw [z_c_s, if_neg h1, h.1.1 13 (by omega)]
    simp only [if_pos hin, n_to (show i < 2147483648 by omega), m_fl h (show i < 6 by omega), h.1.1 14 (by omega), (h.1.2.2.2.2.2.1 i (show i < 6 by omega)).2.2.1]
    rw [n_su, n_su, ih (i + 1) n m (by omega) (by omega), ih (i + 1) n (m + 1) (by omega) (by omega)]
    rcases wl.1 i (by omega) with h9 | h9
    · rw [h9, if_pos (c := (0 : Int32) ≤ 0) (by decide), ite_self, if_neg (c := decide _ = true) (by rw [decide_eq_true_eq]; exact fun z => z rfl), Nat.zero_add]
    · have h10 : a.2.1 3 i ≠ 0 := fun z => by rw [z] at h9; exact absurd h9 (by decide)
      rw [if_neg (c := _ ∧ _) (fun z => h10 z.1), if_neg (c := (1 : Int32) = 0) (by decide), if_neg (c := a.2.1 3 i ≤ 0) (fun z => absurd (Int32.lt_of_lt_of_le h9 z) (by decide)), if_pos (c := decide _ = true) (decide_eq_true h10), Nat.add_assoc]
theorem c_bytesInPipes_13 (h : RC z_0 a M st) : ∀ k i n m, i + k = 6 → k < n → f_D_bytesInPipes_13 n (Int32.ofNat m) (some 0) 6 (Int32.ofNat i) st = some (Int32.ofNat (m + z_sm (fun t => a.1 4 t) i k)) := by
  intro k
  induction k with
  | zero => intro i n m hi hn; obtain ⟨n, rfl⟩ : ∃ m, n = m + 1 := ⟨n - 1, by omega⟩; have : i = 6 := by omega
            subst this; rfl
  | succ k ih =>
    intro i n m hi hn
    obtain ⟨n, rfl⟩ : ∃ m, n = m + 1 := ⟨n - 1, by omega⟩
    have h1 : ¬ ((6 : Int32) ≤ Int32.ofNat i) := n_ge (k := 6) (by omega) (by omega)
    unfold f_D_bytesInPipes_13 z_sm
    rw [if_neg h1]
    dsimp only
    rw [if_pos (n_in (by omega) (by omega)), n_to (by omega), h.1.2.2.2.1 i (by omega)]
    dsimp only
    rw [h.1.2.2.2.2.2.2.1 i (by omega)]
    dsimp only
    rw [(h.2.2.2.2.2.1.1 i (by omega)).1, n_ad, n_su, ih (i + 1) n _ (by omega) (by omega), Nat.add_assoc]
theorem c_bytesInPipes (h : RC z_0 a M st) : f_D_bytesInPipes 0 st = some (Int32.ofNat (z_sm (fun t => a.1 4 t) 0 6)) := by
  have := c_bytesInPipes_13 h 6 0 100 0 (by omega) (by omega)
  rw [Nat.zero_add] at this
  unfold f_D_bytesInPipes
  rw [h.1.1.2.2.1]
  exact this
theorem m_count_242 (h : RM a M st) (wl : W_L N a) : ∀ k i n m, i + k = 6 → k < n → f_M_count_242 n 0 (Int32.ofNat m) (Int32.ofNat i) st = some (Int32.ofNat (m + z_sm (fun t => a.1 4 t) i k), st) := by
  intro k
  induction k with
  | zero => intro i n m hi hn; obtain ⟨n, rfl⟩ : ∃ m, n = m + 1 := ⟨n - 1, by omega⟩; have : i = 6 := by omega
            subst this; rfl
  | succ k ih =>
    intro i n m hi hn
    obtain ⟨n, rfl⟩ : ∃ m, n = m + 1 := ⟨n - 1, by omega⟩
    have h1 : ¬ ((6 : Int32) ≤ Int32.ofNat i) := n_ge (k := 6) (by omega) (by omega)
    have hin : x_in (Int32.ofNat i) 6 := n_in (by omega) (by omega)
    unfold f_M_count_242 z_sm
    rw [if_neg h1, h.1.1 12 (by omega)]
    simp only [if_pos hin, n_to (show i < 2147483648 by omega), m_fp h (show i < 6 by omega), h.1.1 10 (by omega)]
    rw [n_su]
    by_cases h9 : z_o a 1 i + z_o a 2 i = 0
    · rw [if_pos h9, if_pos (c := (0 : Int32) = 0) rfl, (wl.2.1 i (by omega)).2 h9, Nat.zero_add]
      exact ih (i + 1) n m (by omega) (by omega)
    · rw [if_neg h9, if_neg (c := (1 : Int32) = 0) (by decide), ((h.1.2.2.2.2.1 i (by omega)).2.1 (by omega)).2, n_ad, ih (i + 1) n _ (by omega) (by omega), Nat.add_assoc]
end
