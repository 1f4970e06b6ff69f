/-! SMALL NUMBERS AS INTS; counting and searching over a range -/
theorem n_to {n : Nat} (h : n < 2147483648) : (Int32.ofNat n).toNatClampNeg = n := Int32.toNatClampNeg_ofNat_of_lt h
theorem n_int {n : Nat} (h : n < 2147483648) : (Int32.ofNat n).toInt = n := Int32.toInt_ofNat_of_lt h
theorem n_lt {a b : Nat} (ha : a < 2147483648) (hb : b < 2147483648) : (Int32.ofNat a < Int32.ofNat b) ↔ a < b := Int32.ofNat_lt_iff_lt ha hb
theorem n_le {a b : Nat} (ha : a < 2147483648) (hb : b < 2147483648) : (Int32.ofNat a ≤ Int32.ofNat b) ↔ a ≤ b := Int32.ofNat_le_iff_le ha hb
theorem n_eq {a b : Nat} (ha : a < 2147483648) (hb : b < 2147483648) : (Int32.ofNat a = Int32.ofNat b) ↔ a = b :=
  ⟨fun h => by have := congrArg Int32.toNatClampNeg h; rwa [n_to ha, n_to hb] at this, fun h => by rw [h]⟩
theorem n_su (a : Nat) : Int32.ofNat a + 1 = Int32.ofNat (a + 1) := (Int32.ofNat_add a 1).symm
theorem n_ad (a b : Nat) : Int32.ofNat a + Int32.ofNat b = Int32.ofNat (a + b) := (Int32.ofNat_add a b).symm
theorem n_mu (a b : Nat) : Int32.ofNat a * Int32.ofNat b = Int32.ofNat (a * b) := (Int32.ofNat_mul a b).symm
theorem n_sb {a b : Nat} (h : b ≤ a) : Int32.ofNat a - Int32.ofNat b = Int32.ofNat (a - b) := (Int32.ofNat_sub a b h).symm
theorem n_ng {a : Nat} (ha : a < 2147483648) : ¬ (Int32.ofNat a < 0) := fun h => absurd ((n_lt (b := 0) ha (by omega)).mp h) (by omega)
theorem n_in {a k : Nat} (ha : a < 2147483648) (h : a < k) : x_in (Int32.ofNat a) k := ⟨n_ng ha, by rw [n_to ha]; exact h⟩
theorem n_ge {k i : Nat} (h : i < k) (hk : k < 2147483648) : ¬ (Int32.ofNat k ≤ Int32.ofNat i) := fun z => absurd ((n_le hk (by omega)).mp z) (by omega)
theorem n_up {k i : Nat} (h : k ≤ i) (hi : i < 2147483648) : Int32.ofNat k ≤ Int32.ofNat i := (n_le (by omega) hi).mpr h
theorem n_ca (p : Int32) (k : Nat) : (∃ i, i < k ∧ i < 2147483648 ∧ p = Int32.ofNat i) ∨ ¬ x_in p k := by
  by_cases h : x_in p k
  · refine Or.inl ⟨p.toNatClampNeg, h.2, ?_, ?_⟩
    · have := Int32.toNatClampNeg_lt p; omega
    · exact (Int32.ofNat_toNatClampNeg p (Int32.not_lt.mp h.1)).symm
  · exact Or.inr h
theorem n_no {p : Int32} {k : Nat} (hk : k < 2147483648) (h : ¬ x_in p k) : p < 0 ∨ (¬ p < 0 ∧ Int32.ofNat k ≤ p) := by
  by_cases h0 : p < 0
  · exact Or.inl h0
  · refine Or.inr ⟨h0, ?_⟩
    have h1 : Int32.ofNat p.toNatClampNeg = p := Int32.ofNat_toNatClampNeg p (Int32.not_lt.mp h0)
    have h2 : ¬ p.toNatClampNeg < k := fun z => h ⟨h0, z⟩
    rw [← h1]
    exact n_up (by omega) (by have := Int32.toNatClampNeg_lt p; omega)
/-- an index or none, as the reference writes it -/
def z_e : Option Nat → Int32
  | none => -1
  | some i => Int32.ofNat i
theorem z_e_neg {o : Option Nat} (h : ∀ i, o = some i → i < 2147483648) : (z_e o < 0) ↔ o = none := by
  cases o with
  | none => exact ⟨fun _ => rfl, fun _ => by decide⟩
  | some i => exact ⟨fun z => absurd z (n_ng (h i rfl)), fun z => nomatch z⟩
theorem z_e_nn {o : Option Nat} (h : ∀ i, o = some i → i < 2147483648) : (0 ≤ z_e o) ↔ o ≠ none := by
  cases o with
  | none => exact ⟨fun z => absurd z (by decide), fun z => absurd rfl z⟩
  | some i => exact ⟨fun _ z => (nomatch z), fun _ => n_up (k := 0) (by omega) (h i rfl)⟩
theorem z_e_inj {o o' : Option Nat} (h : ∀ i, o = some i → i < 2147483648) (h' : ∀ i, o' = some i → i < 2147483648) : z_e o = z_e o' ↔ o = o' := by
  refine ⟨fun z => ?_, fun z => by rw [z]⟩
  cases o with
  | none => cases o' with
    | none => rfl
    | some j => exact absurd (show Int32.ofNat j < 0 by rw [show Int32.ofNat j = -1 from z.symm]; decide) (n_ng (h' j rfl))
  | some i => cases o' with
    | none => exact absurd (show Int32.ofNat i < 0 by rw [show Int32.ofNat i = -1 from z]; decide) (n_ng (h i rfl))
    | some j => rw [(n_eq (h i rfl) (h' j rfl)).mp z]
/-- how many from i on, k of them -/
def z_c (P : Nat → Bool) (i k : Nat) : Nat := match k with
  | 0 => 0
  | k + 1 => (if P i then 1 else 0) + z_c P (i + 1) k
termination_by k
theorem z_c_0 (P : Nat → Bool) (i : Nat) : z_c P i 0 = 0 := by rw [z_c]
theorem z_c_s (P : Nat → Bool) (i k : Nat) : z_c P i (k + 1) = (if P i then 1 else 0) + z_c P (i + 1) k := by rw [z_c]
/-- the first from i on, among k -/
def z_f (P : Nat → Bool) : Nat → Nat → Option Nat
  | _, 0 => none
  | i, k + 1 => if P i then some i else z_f P (i + 1) k
theorem z_c_le (P : Nat → Bool) (k : Nat) : ∀ i, z_c P i k ≤ k := by
  induction k with
  | zero => intro i; rw [z_c_0]; exact Nat.le_refl _
  | succ k ih => intro i; have := ih (i + 1); rw [z_c_s]; split <;> omega
theorem z_c_co {P Q : Nat → Bool} (k : Nat) : ∀ i, (∀ j, i ≤ j → j < i + k → P j = Q j) → z_c P i k = z_c Q i k := by
  induction k with
  | zero => intro i _; rw [z_c_0, z_c_0]
  | succ k ih => intro i h; rw [z_c_s, z_c_s, h i (by omega) (by omega), ih (i + 1) (fun j h1 h2 => h j (by omega) (by omega))]
theorem z_f_co {P Q : Nat → Bool} (k : Nat) : ∀ i, (∀ j, i ≤ j → j < i + k → P j = Q j) → z_f P i k = z_f Q i k := by
  induction k with
  | zero => intro i _; rfl
  | succ k ih => intro i h; unfold z_f; rw [h i (by omega) (by omega), ih (i + 1) (fun j h1 h2 => h j (by omega) (by omega))]
theorem z_c_up {P Q : Nat → Bool} {j : Nat} (k : Nat) : ∀ i, i ≤ j → j < i + k → (∀ t, t ≠ j → P t = Q t) → z_c Q i k + (if P j then 1 else 0) = z_c P i k + (if Q j then 1 else 0) := by
  induction k with
  | zero => intro i h1 h2 _; omega
  | succ k ih =>
    intro i h1 h2 h
    rw [z_c_s, z_c_s]
    by_cases hij : i = j
    · subst hij
      rw [z_c_co (P := P) (Q := Q) k (i + 1) (fun t h3 _ => h t (by omega))]
      omega
    · have h4 := ih (i + 1) (by omega) (by omega) h
      rw [h i hij]; omega
theorem z_c_ps {P : Nat → Bool} (k : Nat) : ∀ i, 0 < z_c P i k ↔ ∃ j, i ≤ j ∧ j < i + k ∧ P j = true := by
  induction k with
  | zero => intro i; rw [z_c_0]; exact ⟨fun h => absurd h (Nat.lt_irrefl 0), fun ⟨j, h1, h2, _⟩ => by omega⟩
  | succ k ih =>
    intro i
    rw [z_c_s]
    constructor
    · intro h
      by_cases hp : P i = true
      · exact ⟨i, by omega, by omega, hp⟩
      · rw [if_neg hp] at h
        obtain ⟨j, h1, h2, h3⟩ := (ih (i + 1)).mp (by omega)
        exact ⟨j, by omega, by omega, h3⟩
    · rintro ⟨j, h1, h2, h3⟩
      by_cases hij : i = j
      · subst hij; rw [if_pos h3]; omega
      · have := (ih (i + 1)).mpr ⟨j, by omega, by omega, h3⟩; omega
theorem z_f_so {P : Nat → Bool} {j : Nat} (k : Nat) : ∀ i, z_f P i k = some j → i ≤ j ∧ j < i + k ∧ P j = true ∧ ∀ t, i ≤ t → t < j → P t = false := by
  induction k with
  | zero => intro i h; exact nomatch h
  | succ k ih =>
    intro i h
    unfold z_f at h
    by_cases hp : P i = true
    · rw [if_pos hp] at h; cases h
      exact ⟨by omega, by omega, hp, fun t h1 h2 => by omega⟩
    · rw [if_neg hp] at h
      obtain ⟨h1, h2, h3, h4⟩ := ih (i + 1) h
      refine ⟨by omega, by omega, h3, fun t h5 h6 => ?_⟩
      by_cases hit : i = t
      · subst hit; exact Bool.eq_false_iff.mpr hp
      · exact h4 t (by omega) h6
theorem z_f_no {P : Nat → Bool} (k : Nat) : ∀ i, z_f P i k = none → ∀ t, i ≤ t → t < i + k → P t = false := by
  induction k with
  | zero => intro i _ t h1 h2; omega
  | succ k ih =>
    intro i h t h1 h2
    unfold z_f at h
    by_cases hp : P i = true
    · rw [if_pos hp] at h; exact nomatch h
    · rw [if_neg hp] at h
      by_cases hit : i = t
      · subst hit; exact Bool.eq_false_iff.mpr hp
      · exact ih (i + 1) h t (by omega) (by omega)
