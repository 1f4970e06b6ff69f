/-! THE CLASS READS: what is there, what is free, how many -/
theorem n_e0 {a : Nat} (h : a < 2147483648) : (Int32.ofNat a = 0) ↔ a = 0 := n_eq (b := 0) h (by omega)
theorem n_e1 {a : Nat} (h : a < 2147483648) : (Int32.ofNat a = 1) ↔ a = 1 := n_eq (b := 1) h (by omega)
theorem n_e2 {a : Nat} (h : a < 2147483648) : (Int32.ofNat a = 2) ↔ a = 2 := n_eq (b := 2) h (by omega)
theorem n_e3 {a : Nat} (h : a < 2147483648) : (Int32.ofNat a = 3) ↔ a = 3 := n_eq (b := 3) h (by omega)
theorem n_e4 {a : Nat} (h : a < 2147483648) : (Int32.ofNat a = 4) ↔ a = 4 := n_eq (b := 4) h (by omega)
theorem n_l0 {a : Nat} (h : a < 2147483648) : (Int32.ofNat a ≤ 0) ↔ a = 0 := (n_le (b := 0) h (by omega)).trans (by omega)
theorem n_g0 {a : Nat} (h : a < 2147483648) : ((0 : Int32) < Int32.ofNat a) ↔ 0 < a := n_lt (a := 0) (by omega) h
theorem z_h_le (a : AS) (o : Nat) : z_h a o ≤ 64 := z_c_le _ _ _
theorem z_o_le (a : AS) (s k : Nat) : z_o a s k ≤ 20 := z_c_le _ _ _
section
variable {e : Nat → Nat} {a : AS} {M st : XS}
theorem c_procThere (h : RC e a M st) (wp : W_P a) (p : Int32) : f_D_procThere 0 p st = some (if x_in p 8 ∧ a.1 0 p.toNatClampNeg ≠ 0 then some p.toNatClampNeg else none) := by
  unfold f_D_procThere
  rcases n_ca p 8 with ⟨i, hi, hi', rfl⟩ | hp
  · have h2 : ¬ ((8 : Int32) ≤ Int32.ofNat i) := n_ge (k := 8) hi (by omega)
    have h3 : x_in (Int32.ofNat i) 8 := n_in hi' hi
    have h8 := wp i hi
    rw [if_neg (n_ng hi'), if_neg h2, h.1.1.1]
    dsimp only
    rw [if_pos h3]
    simp only [n_to hi', h.1.2.1 i hi]
    rw [(h.2.1 i hi).1, if_pos h3]
    by_cases h9 : a.1 0 i = 0
    · rw [if_pos ((n_e0 (by omega)).mpr h9), if_neg (fun z => z.2 h9)]
    · rw [if_neg (fun z => h9 ((n_e0 (by omega)).mp z)), if_pos ⟨h3, h9⟩]
  · rw [if_neg (c := x_in p 8 ∧ _) (fun z => hp z.1)]
    rcases n_no (by omega) hp with h1 | ⟨h1, h2⟩
    · rw [if_pos h1]
    · rw [if_neg h1]; rw [if_pos (show (8 : Int32) ≤ p from h2)]
theorem c_readyProc (h : RC e a M st) (wp : W_P a) (p : Int32) : f_D_readyProc 0 p st = some (match z_r a p with | none => .inr "java/lang/IllegalStateException" | some i => .inl (some i)) := by
  unfold f_D_readyProc
  rw [c_procThere h wp p]
  dsimp only
  unfold z_r
  rcases n_ca p 8 with ⟨i, hi, hi', rfl⟩ | hp
  · have h3 : x_in (Int32.ofNat i) 8 := n_in hi' hi
    have h8 := wp i hi
    simp only [n_to hi']
    by_cases h9 : a.1 0 i = 0
    · rw [if_neg (fun z => z.2 h9), if_neg (fun z => by have := z.2; omega)]
    · rw [if_pos ⟨h3, h9⟩]
      dsimp only
      rw [(h.2.1 i hi).1]
      by_cases h10 : a.1 0 i = 1
      · rw [if_pos ((n_e1 (by omega)).mpr h10), if_pos ⟨h3, h10⟩]
      · rw [if_neg (fun z => h10 ((n_e1 (by omega)).mp z)), if_neg (fun z => h10 z.2)]
  · rw [if_neg (c := x_in p 8 ∧ _) (fun z => hp z.1), if_neg (c := x_in p 8 ∧ _) (fun z => hp z.1)]
theorem z_r_so {a : AS} {p : Int32} {i : Nat} (h : z_r a p = some i) : i < 8 ∧ p = Int32.ofNat i ∧ a.1 0 i = 1 := by
  unfold z_r at h
  by_cases hc : x_in p 8 ∧ a.1 0 p.toNatClampNeg = 1
  · rw [if_pos hc] at h
    cases h
    exact ⟨hc.1.2, (Int32.ofNat_toNatClampNeg p (Int32.not_lt.mp hc.1.1)).symm, hc.2⟩
  · rw [if_neg hc] at h; exact nomatch h
theorem c_openingAt (h : RC e a M st) {i : Nat} (hi : i < 8) (d : Int32) : f_P_openingAt i d st = some (z_d a i d) := by
  unfold f_P_openingAt z_d
  rcases n_ca d 8 with ⟨j, hj, hj', rfl⟩ | hp
  · have h2 : ¬ ((8 : Int32) ≤ Int32.ofNat j) := n_ge (k := 8) hj (by omega)
    have h3 : x_in (Int32.ofNat j) 8 := n_in hj' hj
    rw [if_neg (n_ng hj'), if_neg h2, h.1.2.2.2.2.2.1 i hi]
    dsimp only
    rw [if_pos h3, if_pos h3, n_to hj', h.2.2.1 i hi j hj]
  · rw [if_neg hp]
    rcases n_no (by omega) hp with h1 | ⟨h1, h2⟩
    · rw [if_pos h1]
    · rw [if_neg h1]; rw [if_pos (show (8 : Int32) ≤ d from h2)]
theorem z_d_of {a : AS} {i j : Nat} (hj : j < 8) : z_d a i (Int32.ofNat j) = a.2.2.2 i j := by
  unfold z_d; rw [if_pos (n_in (by omega) hj), n_to (by omega)]
theorem z_d_so {a : AS} {i o : Nat} {d : Int32} (h : z_d a i d = some o) : ∃ j, j < 8 ∧ d = Int32.ofNat j ∧ a.2.2.2 i j = some o := by
  rcases n_ca d 8 with ⟨j, hj, hj', rfl⟩ | hp
  · rw [z_d_of hj] at h; exact ⟨j, hj, rfl, h⟩
  · unfold z_d at h; rw [if_neg hp] at h; exact nomatch h
theorem c_leastAbsent_2 (h : RC e a M st) (wp : W_P a) : ∀ k i n, i + k = 8 → k < n → f_D_leastAbsent_2 n 0 (Int32.ofNat i) st = some (z_e (z_f (fun j => decide (a.1 0 j = 0)) i k)) := by
  intro k
  induction k with
  | zero => intro i n hi hn; obtain ⟨n, rfl⟩ : ∃ m, n = m + 1 := ⟨n - 1, by omega⟩; have : i = 8 := by omega
            subst this; rfl
  | succ k ih =>
    intro i n hi hn
    obtain ⟨n, rfl⟩ : ∃ m, n = m + 1 := ⟨n - 1, by omega⟩
    have h1 : ¬ ((8 : Int32) ≤ Int32.ofNat i) := n_ge (k := 8) (by omega) (by omega)
    have h8 := wp i (by omega)
    unfold f_D_leastAbsent_2 z_f
    rw [if_neg h1, h.1.1.1]
    dsimp only
    rw [if_pos (n_in (by omega) (by omega)), n_to (by omega), h.1.2.1 i (by omega)]
    dsimp only
    rw [(h.2.1 i (by omega)).1, n_su, ih (i + 1) n (by omega) (by omega)]
    by_cases h9 : a.1 0 i = 0
    · rw [if_pos ((n_e0 (by omega)).mpr h9), if_pos (decide_eq_true h9)]; rfl
    · rw [if_neg (fun z => h9 ((n_e0 (by omega)).mp z)), if_neg (by rw [decide_eq_true_eq]; exact h9)]
theorem c_leastAbsent (h : RC e a M st) (wp : W_P a) : f_D_leastAbsent 0 st = some (z_e (z_f (fun j => decide (a.1 0 j = 0)) 0 8)) := c_leastAbsent_2 h wp 8 0 100 (by omega) (by omega)
theorem c_freeOpening_11 (h : RC e a M st) (he : ∀ o, e o ≤ 8) (b : Option Nat) : ∀ k i n, i + k = 20 → k < n → f_D_freeOpening_11 n b (some 0) 20 (Int32.ofNat i) st = some (z_f (fun o => decide (z_h a o + e o = 0 ∧ some o ≠ b)) i k) := by
  intro k
  induction k with
  | zero => intro i n hi hn; obtain ⟨n, rfl⟩ : ∃ m, n = m + 1 := ⟨n - 1, by omega⟩; have : i = 20 := by omega
            subst this; rfl
  | succ k ih =>
    intro i n hi hn
    obtain ⟨n, rfl⟩ : ∃ m, n = m + 1 := ⟨n - 1, by omega⟩
    have h1 : ¬ ((20 : Int32) ≤ Int32.ofNat i) := n_ge (k := 20) (by omega) (by omega)
    have h8 := z_h_le a i
    have h7 := he i
    unfold f_D_freeOpening_11 z_f
    rw [if_neg h1]
    dsimp only
    rw [if_pos (n_in (by omega) (by omega)), n_to (by omega), h.1.2.2.1 i (by omega)]
    dsimp only
    rw [(h.2.2.2.1 i (by omega)).1, n_su, ih (i + 1) n (by omega) (by omega)]
    by_cases h9 : z_h a i + e i = 0
    · rw [if_pos ((n_e0 (by omega)).mpr h9)]
      by_cases h10 : some i = b
      · rw [if_pos h10, if_neg (by rw [decide_eq_true_eq]; exact fun z => z.2 h10)]
      · rw [if_neg h10, if_pos (decide_eq_true ⟨h9, h10⟩)]
    · rw [if_neg (fun z => h9 ((n_e0 (by omega)).mp z)), if_neg (by rw [decide_eq_true_eq]; exact fun z => h9 z.1)]
theorem c_freeOpening (h : RC e a M st) (he : ∀ o, e o ≤ 8) (b : Option Nat) : f_D_freeOpening 0 b st = some (z_f (fun o => decide (z_h a o + e o = 0 ∧ some o ≠ b)) 0 20) := by
  unfold f_D_freeOpening
  rw [h.1.1.2.1]
  exact c_freeOpening_11 h he b 20 0 100 (by omega) (by omega)
theorem c_pipeThere (h : RC e a M st) {k : Nat} (hk : k < 6) : f_I_isThere k st = some (if z_o a 1 k + z_o a 2 k = 0 then 0 else 1) := by
  unfold f_I_isThere
  have h1 := z_o_le a 1 k
  have h2 := z_o_le a 2 k
  rw [(h.2.2.2.2.1 k hk).1, (h.2.2.2.2.1 k hk).2, n_ad]
  by_cases h9 : z_o a 1 k + z_o a 2 k = 0
  · rw [if_pos ((n_l0 (by omega)).mpr h9), if_pos h9]
  · rw [if_neg (fun z => h9 ((n_l0 (by omega)).mp z)), if_neg h9]
theorem c_freePipe_10 (h : RC e a M st) : ∀ k i n, i + k = 6 → k < n → f_D_freePipe_10 n (some 0) 6 (Int32.ofNat i) st = some (z_f (fun o => decide (z_o a 1 o + z_o a 2 o = 0)) i k) := by
  intro k
  induction k with
  | zero => intro i n hi hn; obtain ⟨n, rfl⟩ : ∃ m, n = m + 1 := ⟨n - 1, by omega⟩; have : i = 6 := by omega
            subst this; rfl
  | succ k ih =>
    intro i n hi hn
    obtain ⟨n, rfl⟩ : ∃ m, n = m + 1 := ⟨n - 1, by omega⟩
    have h1 : ¬ ((6 : Int32) ≤ Int32.ofNat i) := n_ge (k := 6) (by omega) (by omega)
    unfold f_D_freePipe_10 z_f
    rw [if_neg h1]
    dsimp only
    rw [if_pos (n_in (by omega) (by omega)), n_to (by omega), h.1.2.2.2.1 i (by omega)]
    dsimp only
    rw [c_pipeThere h (by omega)]
    dsimp only
    rw [n_su, ih (i + 1) n (by omega) (by omega)]
    by_cases h9 : z_o a 1 i + z_o a 2 i = 0
    · rw [if_pos h9, if_pos rfl, if_pos (decide_eq_true h9)]
    · rw [if_neg h9, if_neg (by decide), if_neg (by rw [decide_eq_true_eq]; exact h9)]
theorem c_freePipe (h : RC e a M st) : f_D_freePipe 0 st = some (z_f (fun o => decide (z_o a 1 o + z_o a 2 o = 0)) 0 6) := by
  unfold f_D_freePipe
  rw [h.1.1.2.2.1]
  exact c_freePipe_10 h 6 0 100 (by omega) (by omega)
theorem c_fileThere (h : RC e a M st) {k : Nat} (hk : k < 6) : f_F_isThere k st = some (if a.2.1 3 k = 0 ∧ z_o a 3 k = 0 then 0 else 1) := by
  unfold f_F_isThere
  have h1 := z_o_le a 3 k
  have h2 := h.2.2.2.2.2.2.1 k hk
  rw [h2.2.1, h2.2.2.1]
  by_cases h8 : a.2.1 3 k = 0
  · rw [if_pos h8]
    by_cases h9 : z_o a 3 k = 0
    · rw [if_pos ((n_l0 (by omega)).mpr h9), if_pos ⟨h8, h9⟩]
    · rw [if_neg (fun z => h9 ((n_l0 (by omega)).mp z)), if_neg (fun z => h9 z.2)]
  · rw [if_neg h8, if_neg (fun z => h8 z.1)]
theorem c_freeFile_10 (h : RC e a M st) : ∀ k i n, i + k = 6 → k < n → f_D_freeFile_10 n (some 0) 6 (Int32.ofNat i) st = some (z_f (fun o => decide (a.2.1 3 o = 0 ∧ z_o a 3 o = 0)) i k) := by
  intro k
  induction k with
  | zero => intro i n hi hn; obtain ⟨n, rfl⟩ : ∃ m, n = m + 1 := ⟨n - 1, by omega⟩; have : i = 6 := by omega
            subst this; rfl
  | succ k ih =>
    intro i n hi hn
    obtain ⟨n, rfl⟩ : ∃ m, n = m + 1 := ⟨n - 1, by omega⟩
    have h1 : ¬ ((6 : Int32) ≤ Int32.ofNat i) := n_ge (k := 6) (by omega) (by omega)
    unfold f_D_freeFile_10 z_f
    rw [if_neg h1]
    dsimp only
    rw [if_pos (n_in (by omega) (by omega)), n_to (by omega), h.1.2.2.2.2.1 i (by omega)]
    dsimp only
    rw [c_fileThere h (by omega)]
    dsimp only
    rw [n_su, ih (i + 1) n (by omega) (by omega)]
    by_cases h9 : a.2.1 3 i = 0 ∧ z_o a 3 i = 0
    · rw [if_pos h9, if_pos rfl, if_pos (decide_eq_true h9)]
    · rw [if_neg h9, if_neg (by decide), if_neg (by rw [decide_eq_true_eq]; exact h9)]
theorem c_freeFile (h : RC e a M st) : f_D_freeFile 0 st = some (z_f (fun o => decide (a.2.1 3 o = 0 ∧ z_o a 3 o = 0)) 0 6) := by
  unfold f_D_freeFile
  rw [h.1.1.2.2.2.1]
  exact c_freeFile_10 h 6 0 100 (by omega) (by omega)
theorem c_fileNamed_11 (h : RC e a M st) (x : Int32) : ∀ k i n, i + k = 6 → k < n → f_D_fileNamed_11 n x (some 0) 6 (Int32.ofNat i) st = some (z_f (fun o => decide (a.2.1 3 o = x)) i k) := by
  intro k
  induction k with
  | zero => intro i n hi hn; obtain ⟨n, rfl⟩ : ∃ m, n = m + 1 := ⟨n - 1, by omega⟩; have : i = 6 := by omega
            subst this; rfl
  | succ k ih =>
    intro i n hi hn
    obtain ⟨n, rfl⟩ : ∃ m, n = m + 1 := ⟨n - 1, by omega⟩
    have h1 : ¬ ((6 : Int32) ≤ Int32.ofNat i) := n_ge (k := 6) (by omega) (by omega)
    unfold f_D_fileNamed_11 z_f
    rw [if_neg h1]
    dsimp only
    rw [if_pos (n_in (by omega) (by omega)), n_to (by omega), h.1.2.2.2.2.1 i (by omega)]
    dsimp only
    rw [(h.2.2.2.2.2.2.1 i (by omega)).2.1]
    rw [n_su, ih (i + 1) n (by omega) (by omega)]
    by_cases h9 : a.2.1 3 i = x
    · rw [if_pos h9, if_pos (decide_eq_true h9)]
    · rw [if_neg h9, if_neg (by rw [decide_eq_true_eq]; exact h9)]
theorem c_fileNamed (h : RC e a M st) (x : Int32) : f_D_fileNamed 0 x st = some (z_f (fun o => decide (a.2.1 3 o = x)) 0 6) := by
  unfold f_D_fileNamed
  rw [h.1.1.2.2.2.1]
  exact c_fileNamed_11 h x 6 0 100 (by omega) (by omega)
theorem c_freeFrom_6 (h : RC e a M st) {p : Nat} (hp : p < 8) : ∀ k i n, i + k = 8 → k < n → f_P_freeFrom_6 n p (Int32.ofNat i) st = some (z_e (z_f (fun d => decide (a.2.2.2 p d = none)) i k)) := by
  intro k
  induction k with
  | zero => intro i n hi hn; obtain ⟨n, rfl⟩ : ∃ m, n = m + 1 := ⟨n - 1, by omega⟩; have : i = 8 := by omega
            subst this; rfl
  | succ k ih =>
    intro i n hi hn
    obtain ⟨n, rfl⟩ : ∃ m, n = m + 1 := ⟨n - 1, by omega⟩
    have h1 : ¬ ((8 : Int32) ≤ Int32.ofNat i) := n_ge (k := 8) (by omega) (by omega)
    unfold f_P_freeFrom_6 z_f
    rw [if_neg h1, h.1.2.2.2.2.2.1 p hp]
    dsimp only
    rw [if_pos (n_in (by omega) (by omega)), n_to (by omega), h.2.2.1 p hp i (by omega)]
    cases h9 : a.2.2.2 p i with
    | none => dsimp only; rw [if_pos (decide_eq_true rfl)]; rfl
    | some o =>
      dsimp only
      rw [n_su, ih (i + 1) n (by omega) (by omega), if_neg (by rw [decide_eq_true_eq]; exact fun z => nomatch z)]
theorem c_freeFrom (h : RC e a M st) {p : Nat} (hp : p < 8) {m : Nat} (hm : m ≤ 8) : f_P_freeFrom p (Int32.ofNat m) st = some (z_e (z_f (fun d => decide (a.2.2.2 p d = none)) m (8 - m))) := by
  unfold f_P_freeFrom f_Math_max
  by_cases h0 : m = 0
  · subst h0
    rw [if_neg (by decide)]
    exact c_freeFrom_6 h hp 8 0 100 (by omega) (by omega)
  · rw [if_pos (show (0 : Int32) < Int32.ofNat m from (n_g0 (by omega)).mpr (by omega))]
    exact c_freeFrom_6 h hp (8 - m) m 100 (by omega) (by omega)
end
