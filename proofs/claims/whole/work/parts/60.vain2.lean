/-! WHO WAITS IN VAIN: the reference; both find the greatest such set -/
theorem z_c_mr {P Q : Nat → Bool} (k : Nat) : ∀ i, (∀ j, i ≤ j → j < i + k → P j = true → Q j = true) → z_c P i k ≤ z_c Q i k := by
  induction k with
  | zero => intro i _; rw [z_c_0, z_c_0]; exact Nat.le_refl _
  | succ k ih =>
    intro i h
    have := ih (i + 1) (fun j h1 h2 => h j (by omega) (by omega))
    rw [z_c_s, z_c_s]
    by_cases hp : P i = true
    · rw [if_pos hp, if_pos (h i (by omega) (by omega) hp)]; omega
    · rw [if_neg hp]; omega
theorem z_c_es {P Q : Nat → Bool} (k : Nat) : ∀ i, (∀ j, i ≤ j → j < i + k → P j = true → Q j = true) → z_c Q i k ≤ z_c P i k → ∀ j, i ≤ j → j < i + k → P j = Q j := by
  induction k with
  | zero => intro i _ _ j h1 h2; omega
  | succ k ih =>
    intro i h hle j h1 h2
    have hm := z_c_mr (P := P) (Q := Q) k (i + 1) (fun j h1 h2 => h j (by omega) (by omega))
    rw [z_c_s, z_c_s] at hle
    have hi := h i (by omega) (by omega)
    have hpq : P i = Q i := by
      cases hp : P i with
      | true => rw [hi hp]
      | false =>
        cases hq : Q i with
        | false => rfl
        | true => rw [hp, hq, if_neg (c := false = true) (by decide), if_pos (c := true = true) rfl] at hle; omega
    by_cases hij : i = j
    · subst hij; exact hpq
    · rw [hpq] at hle
      exact ih (i + 1) (fun j h1 h2 => h j (by omega) (by omega)) (by omega) j (by omega) (by omega)
/-- each of U waits at a pipe, for none but U -/
def Z_P (a : AS) (U : Nat → Bool) : Prop := ∀ i, i < 8 → U i = true → z_wf a i = true ∧ z_al a U i = true
section
variable {e : Nat → Nat} {c : Int32} {a b : AS} {M st : XS} {i d o N w s k p : Nat} {U S T : Nat → Bool}
theorem z_al_m (h : ∀ j, j < 8 → S j = true → T j = true) (hS : z_al a S i = true) : z_al a T i = true := z_al_i.mpr (fun p hp hb => h p hp (z_al_i.mp hS p hp hb))
theorem Z_P_c (h : ∀ j, j < 8 → S j = T j) (hS : Z_P a S) : Z_P a T := fun i hi hT => by
  have := hS i hi (by rw [h i hi]; exact hT)
  exact ⟨this.1, z_al_m (fun j hj z => by rw [← h j hj]; exact z) this.2⟩
/-- rounds that only take away, and stop only where none is left to take away -/
theorem z_it_p {G : (Nat → Bool) → Nat → Bool} {W : (Nat → Bool) → Prop} (g0 : ∀ S, W S → W (G S)) (g1 : ∀ S j, j < 8 → G S j = true → S j = true) (g2 : ∀ S, W S → (∀ j, j < 8 → G S j = S j) → Z_P a S) (g3 : ∀ S, Z_P a S → Z_P a (G S)) :
    ∀ n S, W S → z_c S 0 8 ≤ n → Z_P a (z_it G n S) := by
  have hk : ∀ n S, Z_P a S → Z_P a (z_it G n S) := by
    intro n
    induction n with
    | zero => intro S h; exact h
    | succ n ih => intro S h; exact ih (G S) (g3 S h)
  intro n
  induction n with
  | zero =>
    intro S _ hc i hi hS
    have := (z_c_ps (P := S) 8 0).mpr ⟨i, by omega, by omega, hS⟩
    omega
  | succ n ih =>
    intro S hW hc
    show Z_P a (z_it G n (G S))
    by_cases h : z_c (G S) 0 8 ≤ n
    · exact ih (G S) (g0 S hW) h
    · have he := z_c_es (P := G S) (Q := S) 8 0 (fun j _ h2 => g1 S j (by omega)) (by omega)
      exact hk n (G S) (g3 S (g2 S hW (fun j hj => he j (by omega) (by omega))))
theorem z_it_u {G : (Nat → Bool) → Nat → Bool} (g4 : ∀ S, (∀ j, j < 8 → U j = true → S j = true) → ∀ j, j < 8 → U j = true → G S j = true) : ∀ n S, (∀ j, j < 8 → U j = true → S j = true) → ∀ j, j < 8 → U j = true → z_it G n S j = true := by
  intro n
  induction n with
  | zero => intro S h; exact h
  | succ n ih => intro S h; exact ih (G S) (g4 S h)
/-- one after another -/
def z_sq (a : AS) : Nat → Nat → (Nat → Bool) → Nat → Bool
  | _, 0, X => X
  | i, m + 1, X => z_sq a (i + 1) m (if (X i && !z_al a X i) = true then (fun j => X j && decide (j ≠ i)) else X)
theorem z_sq_1 (m : Nat) : ∀ i X j, z_sq a i m X j = true → X j = true := by
  induction m with
  | zero => intro i X j h; exact h
  | succ m ih =>
    intro i X j h
    have := ih (i + 1) _ j h
    by_cases hc : (X i && !z_al a X i) = true
    · rw [if_pos hc] at this; exact (Bool.and_eq_true _ _ ▸ this).1
    · rw [if_neg hc] at this; exact this
theorem z_sq_2 (m : Nat) : ∀ i X, i + m ≤ 8 → (∀ j, j < 8 → z_sq a i m X j = X j) → ∀ j, i ≤ j → j < i + m → X j = true → z_al a X j = true := by
  induction m with
  | zero => intro i X _ _ j h1 h2; omega
  | succ m ih =>
    intro i X him h j h1 h2 hX
    by_cases hc : (X i && !z_al a X i) = true
    · exfalso
      have hi := h i (by omega)
      have hXi : X i = true := (Bool.and_eq_true _ _ ▸ hc).1
      rw [hXi] at hi
      have := z_sq_1 m (i + 1) _ i hi
      rw [if_pos hc, decide_eq_false (show ¬ i ≠ i from fun z => z rfl), Bool.and_false] at this
      exact nomatch this
    · have he : z_sq a i (m + 1) X = z_sq a (i + 1) m X := by
        show z_sq a (i + 1) m (if (X i && !z_al a X i) = true then _ else X) = _
        rw [if_neg hc]
      rw [he] at h
      by_cases hij : i = j
      · subst hij
        cases hA : z_al a X i with
        | true => rfl
        | false => rw [hX, hA] at hc; exact absurd rfl hc
      · exact ih (i + 1) X (by omega) h j (by omega) (by omega) hX
theorem z_sq_3 {X : Nat → Bool} (hX : Z_P a X) (m : Nat) : ∀ i, i + m ≤ 8 → z_sq a i m X = X := by
  induction m with
  | zero => intro i _; rfl
  | succ m ih =>
    intro i him
    show z_sq a (i + 1) m (if (X i && !z_al a X i) = true then _ else X) = _
    rw [if_neg, ih (i + 1) (by omega)]
    intro z
    rw [Bool.and_eq_true] at z
    rw [(hX i (by omega) z.1).2] at z
    exact nomatch z.2
theorem z_sq_4 (hU : Z_P a U) (m : Nat) : ∀ i X, i + m ≤ 8 → (∀ j, j < 8 → U j = true → X j = true) → ∀ j, j < 8 → U j = true → z_sq a i m X j = true := by
  induction m with
  | zero => intro i X _ h; exact h
  | succ m ih =>
    intro i X him h
    refine ih (i + 1) _ (by omega) (fun j hj hUj => ?_)
    by_cases hc : (X i && !z_al a X i) = true
    · rw [if_pos hc]
      by_cases hji : j = i
      · subst hji
        rw [z_al_m h (hU j hj hUj).2, Bool.not_true, Bool.and_false] at hc
        exact nomatch hc
      · rw [h j hj hUj, decide_eq_true (show j ≠ i from hji)]; rfl
    · rw [if_neg hc]; exact h j hj hUj
theorem z_F_t : z_F a S i = true ↔ S i = true ∧ z_wf a i = true ∧ z_al a S i = true := by
  unfold z_F
  rw [Bool.and_eq_true, Bool.and_eq_true, and_assoc]
/-- the two find the same -/
theorem z_vain_e (j : Nat) (hj : j < 8) : z_it (z_F a) 8 (fun _ => true) j = z_it (z_sq a 0 8) 8 (z_wf a) j := by
  have hF4 : ∀ U, Z_P a U → ∀ S, (∀ j, j < 8 → U j = true → S j = true) → ∀ j, j < 8 → U j = true → z_F a S j = true := fun U hU S h j hj hUj =>
    z_F_t.mpr ⟨h j hj hUj, (hU j hj hUj).1, z_al_m h (hU j hj hUj).2⟩
  have hC2 : Z_P a (z_it (z_F a) 8 (fun _ => true)) := z_it_p (W := fun _ => True) (fun _ _ => trivial) (fun S j _ h => (z_F_t.mp h).1) (fun S _ h i hi hS => by
    have := z_F_t.mp (show z_F a S i = true by rw [h i hi]; exact hS)
    exact this.2) (fun S hS => Z_P_c (fun j hj => by
      cases hq : S j with
      | true => exact (z_F_t.mpr ⟨hq, hS j hj hq⟩).symm
      | false =>
        cases hf : z_F a S j with
        | false => rfl
        | true => rw [(z_F_t.mp hf).1] at hq; exact nomatch hq) hS) 8 _ trivial (z_c_le _ 8 0)
  have hM2 : Z_P a (z_it (z_sq a 0 8) 8 (z_wf a)) := z_it_p (W := fun S => ∀ j, j < 8 → S j = true → z_wf a j = true) (fun S h j hj hS => h j hj (z_sq_1 8 0 S j hS)) (fun S j _ h => z_sq_1 8 0 S j h)
    (fun S hW h i hi hS => ⟨hW i hi hS, z_sq_2 8 0 S (by omega) h i (by omega) (by omega) hS⟩) (fun S hS => by rw [z_sq_3 hS 8 0 (by omega)]; exact hS) 8 _ (fun j _ h => h) (z_c_le _ 8 0)
  have h1 := z_it_u (U := z_it (z_sq a 0 8) 8 (z_wf a)) (G := z_F a) (hF4 _ hM2) 8 (fun _ => true) (fun _ _ _ => rfl) j hj
  have h2 := z_it_u (U := z_it (z_F a) 8 (fun _ => true)) (G := z_sq a 0 8) (fun S h => z_sq_4 hC2 8 0 S (by omega) h) 8 (z_wf a) (fun j hj h => (hC2 j hj h).1) j hj
  cases hA : z_it (z_F a) 8 (fun _ => true) j with
  | true => exact (h2 hA).symm
  | false =>
    cases hB : z_it (z_sq a 0 8) 8 (z_wf a) j with
    | false => rfl
    | true => rw [h1 hB] at hA; exact nomatch hA
/-- a Bool as an int -/
def z_bo (b : Bool) : Int32 := if b = true then 1 else 0
theorem m_isOnly_72 {K : Nat → Int32 → Int32 → Int32 → Int32 → Int32 → XS → Option Int32} {X : Nat → Bool} {x x1 x2 : Int32} {q : Nat} (hx : Z_M X x) (hq : q < 64) (A t : Bool) :
    f_M_isOnly_72 K 0 x1 x2 x (z_bo A) (Int32.ofNat q) (z_bo t) st = K 0 x1 x2 x (z_bo (A && !(t && !X (q / 8)))) (Int32.ofNat (q + 1)) st := by
  unfold f_M_isOnly_72
  rw [n_su, v_7 q hq, Z_M_b hx (show q / 8 < 8 by omega)]
  cases A <;> cases t <;> cases X (q / 8) <;> rfl
theorem m_isOnly_6 {X : Nat → Bool} {x : Int32} (h : RW a M st) (wd : W_D a) (wk : W_K a) (hs : s = 1 ∨ s = 2) (hk : k < 6) (hx : Z_M X x) : ∀ m q n A, q + m = 64 → m < n →
    f_M_isOnly_6 n 0 (Int32.ofNat s) (Int32.ofNat k) x (z_bo A) (Int32.ofNat q) st = some (z_bo (A && (z_f (fun q => z_e1 a s k (q / 8) (q % 8) && !X (q / 8)) q m).isNone)) := by
  intro m
  induction m with
  | zero =>
    intro q n A hq hn
    obtain ⟨n, rfl⟩ : ∃ m, n = m + 1 := ⟨n - 1, by omega⟩
    have : q = 64 := by omega
    subst this
    cases A <;> rfl
  | succ m ih =>
    intro q n A hq hn
    obtain ⟨n, rfl⟩ : ∃ m, n = m + 1 := ⟨n - 1, by omega⟩
    have h1 : ¬ ((64 : Int32) ≤ Int32.ofNat q) := n_ge (k := 64) (by omega) (by omega)
    have hd := h.2.2.1 (q / 8) (by omega) (q % 8) (by omega)
    rw [Nat.div_add_mod] at hd
    have hend : ∀ t : Bool, t = z_e1 a s k (q / 8) (q % 8) → f_M_isOnly_72 (fun a0 a1 a2 a3 a4 a5 a6 => f_M_isOnly_6 n a0 a1 a2 a3 a4 a5 a6) 0 (Int32.ofNat s) (Int32.ofNat k) x (z_bo A) (Int32.ofNat q) (z_bo t) st =
        some (z_bo (A && (z_f (fun q => z_e1 a s k (q / 8) (q % 8) && !X (q / 8)) q (m + 1)).isNone)) := by
      intro t ht
      rw [m_isOnly_72 hx (by omega)]
      rw [ih (q + 1) n _ (by omega) (by omega)]
      congr 2
      rw [z_f, ← ht]
      cases hc : (t && !X (q / 8)) with
      | true => rw [if_pos rfl, Bool.not_true, Bool.and_false, Bool.false_and, Option.isNone_some, Bool.and_false]
      | false => rw [if_neg (by decide), Bool.not_false, Bool.and_true]
    unfold f_M_isOnly_6
    rw [if_neg h1, h.1 4 (by omega)]
    dsimp only
    rw [if_pos (n_in (by omega) (by omega)), n_to (by omega), hd]
    cases hv : a.2.2.2 (q / 8) (q % 8) with
    | none =>
      rw [show z_e none = -1 from rfl, if_pos (c := (-1 : Int32) < 0) (by decide)]
      exact hend false (by unfold z_e1; rw [hv])
    | some o =>
      have ho := wd (q / 8) (by omega) (q % 8) (by omega) o hv
      obtain ⟨wk1, wk2⟩ := wk o ho
      obtain ⟨p1, p2, _⟩ := h.2.2.2.1 o ho
      have h20 : x_in (Int32.ofNat o) 20 := n_in (by omega) ho
      rw [show z_e (some o) = Int32.ofNat o from rfl, if_neg (n_ng (show o < 2147483648 by omega)), if_pos (n_u0 (show o < 2147483648 by omega))]
      unfold f_M_isOnly_42
      rw [h.1 6 (by omega)]
      simp only [if_pos h20, n_to (show o < 2147483648 by omega), h.1 7 (by omega), if_pos (n_u0 (show o < 2147483648 by omega))]
      rw [p1, p2]
      have he : z_e1 a s k (q / 8) (q % 8) = decide (a.1 1 o = s ∧ a.1 2 o = k) := by unfold z_e1; rw [hv]
      by_cases hc : a.1 1 o = s
      · rw [if_pos ((n_eq (by omega) (by omega)).mpr hc)]
        have hw2 := wk2 (by omega)
        by_cases hc2 : a.1 2 o = k
        · rw [if_pos ((n_eq (by omega) (by omega)).mpr hc2)]
          exact hend true (by rw [he, decide_eq_true ⟨hc, hc2⟩])
        · rw [if_neg (fun z => hc2 ((n_eq (by omega) (by omega)).mp z))]
          exact hend false (by rw [he, decide_eq_false (fun z => hc2 z.2)])
      · rw [if_neg (fun z => hc ((n_eq (by omega) (by omega)).mp z))]
        exact hend false (by rw [he, decide_eq_false (fun z => hc z.1)])
theorem z_on_e {X : Nat → Bool} : (z_f (fun q => z_e1 a s k (q / 8) (q % 8) && !X (q / 8)) 0 64).isNone = true ↔ ∀ p, p < 8 → z_hb a s k p = true → X p = true := by
  constructor
  · intro h p hp hb
    obtain ⟨d, _, h2, h3⟩ := (z_c_ps 8 0).mp (of_decide_eq_true hb)
    have h4 := z_f_no 64 0 (Option.isNone_iff_eq_none.mp h) (8 * p + d) (by omega) (by omega)
    rw [show (8 * p + d) / 8 = p by omega, show (8 * p + d) % 8 = d by omega, h3, Bool.true_and] at h4
    cases hX : X p with
    | true => rfl
    | false => rw [hX] at h4; exact nomatch h4
  · intro h
    apply Option.isNone_iff_eq_none.mpr
    cases hf : z_f (fun q => z_e1 a s k (q / 8) (q % 8) && !X (q / 8)) 0 64 with
    | none => rfl
    | some q =>
      obtain ⟨h1, h2, h3, _⟩ := z_f_so 64 0 hf
      rw [Bool.and_eq_true] at h3
      have := h (q / 8) (by omega) (decide_eq_true ((z_c_ps 8 0).mpr ⟨q % 8, by omega, by omega, h3.1⟩))
      rw [this] at h3
      exact nomatch h3.2
theorem m_isOnly {X : Nat → Bool} {x : Int32} (h : RW a M st) (wd : W_D a) (wk : W_K a) (hs : s = 1 ∨ s = 2) (hk : k < 6) (hx : Z_M X x) {B : Bool} (hB : B = true ↔ ∀ p, p < 8 → z_hb a s k p = true → X p = true) : f_M_isOnly 0 (Int32.ofNat s) (Int32.ofNat k) x st = some (z_bo B) := by
  have := m_isOnly_6 h wd wk hs hk hx 64 0 100 true (by omega) (by omega)
  rw [Bool.true_and, show (z_f (fun q => z_e1 a s k (q / 8) (q % 8) && !X (q / 8)) 0 64).isNone = B from Bool.eq_iff_iff.mpr (z_on_e.trans hB.symm)] at this
  exact this
theorem m_vain_77 {K : Nat → Int32 → Int32 → XS → Option Int32} {r : Int32} (h : RW a M st) (wd : W_D a) (wo : W_O z_0 a) (wp : W_P a) : ∀ m i n X x, i + m = 8 → m < n → Z_M X x → (∀ j, j < 8 → X j = true → z_wf a j = true) →
    ∃ x', f_M_vain_77 K n 0 x r (Int32.ofNat i) st = K 0 x' (r + 1) st ∧ Z_M (z_sq a i m X) x' := by
  intro m
  induction m with
  | zero =>
    intro i n X x hi hn hx _
    obtain ⟨n, rfl⟩ : ∃ m, n = m + 1 := ⟨n - 1, by omega⟩
    have : i = 8 := by omega
    subst this
    exact ⟨x, rfl, hx⟩
  | succ m ih =>
    intro i n X x hi hn hx hw
    obtain ⟨n, rfl⟩ : ∃ m, n = m + 1 := ⟨n - 1, by omega⟩
    have h1 : ¬ ((8 : Int32) ≤ Int32.ofNat i) := n_ge (k := 8) (by omega) (by omega)
    have h8 : x_in (Int32.ofNat i) 8 := n_in (by omega) (by omega)
    unfold f_M_vain_77 z_sq
    rw [if_neg h1, Z_M_b hx (by omega), n_su]
    cases hX : X i with
    | false =>
      rw [if_neg (c := false = true) (by decide), if_pos (c := (0 : Int32) = 0) rfl, Bool.false_and, if_neg (by decide)]
      exact ih (i + 1) n X x (by omega) (by omega) hx hw
    | true =>
      rw [if_pos (c := true = true) rfl, if_neg (c := (1 : Int32) = 0) (by decide), Bool.true_and]
      have hwf := of_decide_eq_true (hw i (by omega) hX)
      obtain ⟨_, _, hx1⟩ := wp i (by omega)
      obtain ⟨d, o, hd, ht, hs, w, hm, hn'⟩ := hx1 hwf.1
      have ho := wd i (by omega) d hd o hs
      have hk : 0 < a.1 1 o := (wo o ho).1.mpr (by have := z_h_po (show i < 8 by omega) hd hs; omega)
      have hz : z_t a i = o := by unfold z_t; rw [ht, n_to (by omega), hs]; rfl
      rw [hz] at hwf
      obtain ⟨p1, p2, _⟩ := h.2.2.2.1 o ho
      have h20 : x_in (Int32.ofNat o) 20 := n_in (by omega) ho
      have hth := ((wo o ho).2.2.1 (by omega)).1
      have hal : z_al a X i = true ↔ ∀ p, p < 8 → z_hb a (3 - a.1 1 o) (a.1 2 o) p = true → X p = true := by rw [← hz]; exact z_al_i
      rw [h.1 2 (by omega)]
      simp only [if_pos h8, n_to (show i < 2147483648 by omega), h.1 4 (by omega), h.1 6 (by omega)]
      rw [(h.2.1 i (by omega)).2.1, ht, n_8, if_pos (n_in (by omega) (by omega)), n_to (by omega), h.2.2.1 i (by omega) d hd, hs, show z_e (some o) = Int32.ofNat o from rfl]
      simp only [if_pos h20, n_to (show o < 2147483648 by omega)]
      rw [p1]
      have h129 : ∀ sN : Nat, (sN = 1 ∨ sN = 2) → 3 - a.1 1 o = sN → ∃ x', f_M_vain_129 (fun a0 a1 a2 a3 a4 => f_M_vain_77 K n a0 a1 a2 a3 a4) 0 x r (Int32.ofNat i) (Int32.ofNat o) (Int32.ofNat sN) (some 0) st = K 0 x' (r + 1) st ∧
          Z_M (z_sq a (i + 1) m (if (!z_al a X i) = true then (fun j => X j && decide (j ≠ i)) else X)) x' := by
        intro sN hsN h3
        rw [h3] at hal
        unfold f_M_vain_129
        rw [h.1 7 (by omega)]
        simp only [if_pos h20, n_to (show o < 2147483648 by omega)]
        rw [p2, m_isOnly h wd (W_K_Q (W_O_q wo)) hsN hth hx hal, n_su]
        dsimp only
        cases hA : z_al a X i with
        | true =>
          rw [show z_bo true = 1 from rfl, if_neg (c := (1 : Int32) = 0) (by decide), if_neg (by decide)]
          exact ih (i + 1) n X x (by omega) (by omega) hx hw
        | false =>
          rw [show z_bo false = 0 from rfl, if_pos (c := (0 : Int32) = 0) rfl, if_pos (by decide)]
          exact ih (i + 1) n _ _ (by omega) (by omega) (Z_M_n hx (by omega)) (fun j hj z => hw j hj (Bool.and_eq_true _ _ ▸ z).1)
      by_cases hc : a.1 1 o = 1
      · rw [if_pos ((n_e1 (by omega)).mpr hc)]
        exact h129 2 (Or.inr rfl) (by omega)
      · rw [if_neg (fun z => hc ((n_e1 (by omega)).mp z))]
        exact h129 1 (Or.inl rfl) (by omega)
theorem m_vain_167 {X : Nat → Bool} {x : Int32} (hx : Z_M X x) : ∀ m i n t, i + m = 8 → m < n → f_M_vain_167 n x (Int32.ofNat t) (Int32.ofNat i) st = some (Int32.ofNat (t + z_c X i m)) := by
  intro m
  induction m with
  | zero =>
    intro i n t hi hn
    obtain ⟨n, rfl⟩ : ∃ m, n = m + 1 := ⟨n - 1, by omega⟩
    have : i = 8 := by omega
    subst this
    rw [z_c_0]; rfl
  | succ m ih =>
    intro i n t hi hn
    obtain ⟨n, rfl⟩ : ∃ m, n = m + 1 := ⟨n - 1, by omega⟩
    have h1 : ¬ ((8 : Int32) ≤ Int32.ofNat i) := n_ge (k := 8) (by omega) (by omega)
    unfold f_M_vain_167
    rw [if_neg h1, Z_M_b hx (by omega), n_su, z_c_s]
    by_cases hX : X i = true
    · rw [if_pos hX, if_pos hX, n_su, ih (i + 1) n (t + 1) (by omega) (by omega), Nat.add_assoc]
    · rw [if_neg hX, if_neg hX, Int32.add_zero, ih (i + 1) n t (by omega) (by omega), Nat.zero_add]
theorem m_vain_69 (h : RW a M st) (wd : W_D a) (wo : W_O z_0 a) (wp : W_P a) : ∀ m i n X x, i + m = 8 → m < n → Z_M X x → (∀ j, j < 8 → X j = true → z_wf a j = true) → f_M_vain_69 n 0 x (Int32.ofNat i) st = some (Int32.ofNat (z_c (z_it (z_sq a 0 8) m X) 0 8)) := by
  intro m
  induction m with
  | zero =>
    intro i n X x hi hn hx _
    obtain ⟨n, rfl⟩ : ∃ m, n = m + 1 := ⟨n - 1, by omega⟩
    have : i = 8 := by omega
    subst this
    have := m_vain_167 (st := st) hx 8 0 100 0 (by omega) (by omega)
    rw [Nat.zero_add] at this
    unfold f_M_vain_69 z_it
    rw [if_pos (show (8 : Int32) ≤ Int32.ofNat 8 by decide)]
    exact this
  | succ m ih =>
    intro i n X x hi hn hx hw
    obtain ⟨n, rfl⟩ : ∃ m, n = m + 1 := ⟨n - 1, by omega⟩
    have h1 : ¬ ((8 : Int32) ≤ Int32.ofNat i) := n_ge (k := 8) (by omega) (by omega)
    obtain ⟨x', g1, g2⟩ := m_vain_77 (K := fun a0 a1 a2 a3 => f_M_vain_69 n a0 a1 a2 a3) (r := Int32.ofNat i) h wd wo wp 8 0 100 X x (by omega) (by omega) hx hw
    unfold f_M_vain_69
    rw [if_neg h1, show f_M_vain_77 (fun a0 a1 a2 a3 => f_M_vain_69 n a0 a1 a2 a3) 100 0 x (Int32.ofNat i) 0 st = _ from g1, n_su]
    rw [z_it]
    exact ih (i + 1) n (z_sq a 0 8 X) x' (by omega) (by omega) g2 (fun j hj z => hw j hj (z_sq_1 8 0 X j z))
theorem m_vain_4 (h : RW a M st) (wd : W_D a) (wo : W_O z_0 a) (wp : W_P a) : ∀ m i n x, i + m = 8 → m < n → Z_M (fun j => decide (j < i) && z_wf a j) x → f_M_vain_4 n 0 x (Int32.ofNat i) st = some (Int32.ofNat (z_c (z_it (z_sq a 0 8) 8 (z_wf a)) 0 8)) := by
  intro m
  induction m with
  | zero =>
    intro i n x hi hn hx
    obtain ⟨n, rfl⟩ : ∃ m, n = m + 1 := ⟨n - 1, by omega⟩
    have : i = 8 := by omega
    subst this
    unfold f_M_vain_4
    rw [if_pos (show (8 : Int32) ≤ Int32.ofNat 8 by decide)]
    exact m_vain_69 h wd wo wp 8 0 100 (z_wf a) x (by omega) (by omega) (Z_M_c hx (fun j hj => by rw [decide_eq_true hj, Bool.true_and])) (fun j _ z => z)
  | succ m ih =>
    intro i n x hi hn hx
    obtain ⟨n, rfl⟩ : ∃ m, n = m + 1 := ⟨n - 1, by omega⟩
    have h1 : ¬ ((8 : Int32) ≤ Int32.ofNat i) := n_ge (k := 8) (by omega) (by omega)
    have h8 : x_in (Int32.ofNat i) 8 := n_in (by omega) (by omega)
    have hno : z_wf a i = false → f_M_vain_4 n 0 x (Int32.ofNat (i + 1)) st = some (Int32.ofNat (z_c (z_it (z_sq a 0 8) 8 (z_wf a)) 0 8)) := fun hb => by
      refine ih (i + 1) n _ (by omega) (by omega) (Z_M_c hx (fun j hj => ?_))
      by_cases hji : j = i
      · subst hji; rw [hb, Bool.and_false, Bool.and_false]
      · rw [show decide (j < i + 1) = decide (j < i) from decide_eq_decide.mpr (by omega)]
    unfold f_M_vain_4
    rw [if_neg h1, h.1 1 (by omega)]
    simp only [if_pos h8, n_to (show i < 2147483648 by omega), h.1 2 (by omega), h.1 4 (by omega)]
    rw [(h.2.1 i (by omega)).1]
    have hl := (wp i (by omega)).1
    by_cases hw : 2 ≤ a.1 0 i
    · obtain ⟨_, _, hx1⟩ := wp i (by omega)
      obtain ⟨d, o, hd, ht, hs, w, hm, hn'⟩ := hx1 hw
      have ho := wd i (by omega) d hd o hs
      have hz : z_t a i = o := by unfold z_t; rw [ht, n_to (by omega), hs]; rfl
      have h20 : x_in (Int32.ofNat o) 20 := n_in (by omega) ho
      have hk4 := (wo o ho).2.1
      rw [if_neg (show ¬ Int32.ofNat (a.1 0 i) ≤ 1 from fun z => absurd ((n_le (b := 1) (by omega) (by omega)).mp z) (by omega)), (h.2.1 i (by omega)).2.1, ht, n_8, if_pos (n_in (by omega) (by omega)), n_to (by omega), h.2.2.1 i (by omega) d hd, hs, show z_e (some o) = Int32.ofNat o from rfl]
      unfold f_M_vain_40
      rw [if_neg (n_ng (show o < 2147483648 by omega)), h.1 6 (by omega)]
      simp only [if_pos h20, n_to (show o < 2147483648 by omega)]
      rw [(h.2.2.2.1 o ho).1, n_su]
      by_cases hc : 3 ≤ a.1 1 o
      · rw [if_pos (show (3 : Int32) ≤ Int32.ofNat (a.1 1 o) from (n_le (a := 3) (by omega) (by omega)).mpr hc)]
        exact hno (decide_eq_false (fun z => by rw [hz] at z; omega))
      · rw [if_neg (show ¬ (3 : Int32) ≤ Int32.ofNat (a.1 1 o) from fun z => hc ((n_le (a := 3) (by omega) (by omega)).mp z))]
        have hb : z_wf a i = true := decide_eq_true ⟨hw, by rw [hz]; omega⟩
        refine ih (i + 1) n _ (by omega) (by omega) (Z_M_c (Z_M_o hx (show i < 8 by omega)) (fun j hj => ?_))
        by_cases hji : j = i
        · subst hji; rw [decide_eq_true (rfl : j = j), Bool.or_true, decide_eq_true (Nat.lt_succ_self j), hb]; rfl
        · rw [decide_eq_false hji, Bool.or_false, show decide (j < i + 1) = decide (j < i) from decide_eq_decide.mpr (by omega)]
    · rw [if_pos (show Int32.ofNat (a.1 0 i) ≤ 1 from (n_le (b := 1) (by omega) (by omega)).mpr (by omega))]
      unfold f_M_vain_40
      rw [if_pos (c := (-1 : Int32) < 0) (by decide), n_su]
      exact hno (decide_eq_false (fun z => hw z.1))
theorem m_vain (h : RW a M st) (wd : W_D a) (wo : W_O z_0 a) (wp : W_P a) : f_M_vain 0 st = some (Int32.ofNat (z_c (z_it (z_sq a 0 8) 8 (z_wf a)) 0 8)) :=
  m_vain_4 h wd wo wp 8 0 100 0 (by omega) (by omega) (Z_M_c Z_M_0 (fun j _ => by rw [decide_eq_false (Nat.not_lt_zero j), Bool.false_and]))
end
/-- the ones of a small number -/
def z_pc (n : Nat) : Nat := (if n / 1 % 2 = 1 then 1 else 0) + ((if n / 2 % 2 = 1 then 1 else 0) + ((if n / 4 % 2 = 1 then 1 else 0) + ((if n / 8 % 2 = 1 then 1 else 0) + ((if n / 16 % 2 = 1 then 1 else 0) + ((if n / 32 % 2 = 1 then 1 else 0) + ((if n / 64 % 2 = 1 then 1 else 0) + ((if n / 128 % 2 = 1 then 1 else 0) + 0)))))))
theorem v_bc : ∀ n, n < 256 → f_Int_bitCount (Int32.ofNat n) (fun _ _ _ => 0, fun _ _ _ => 0, fun _ _ _ => none, fun _ => 0) = some (Int32.ofNat (z_pc n)) := by decide +kernel
theorem v_bi : ∀ n, n < 256 → ∀ i, i < 8 → (Int32.ofNat n).toBitVec.getLsbD i = decide (n / 2 ^ i % 2 = 1) := by decide +kernel
theorem v_sm {P : Nat → Bool} {x : Int32} (h : Z_M P x) : ∃ n, n < 256 ∧ x = Int32.ofNat n := by
  have h1 : x &&& 255 = x := v_ext (fun i hi => by
    rw [Int32.toBitVec_and, BitVec.getLsbD_and, h i hi, v_3 i hi]
    cases decide (i < 8) <;> cases P i <;> rfl)
  have h2 : x.toBitVec.toNat ≤ 255 := by
    have h3 : x.toBitVec = x.toBitVec &&& 255#32 := by
      have := congrArg Int32.toBitVec h1
      rw [Int32.toBitVec_and] at this
      exact this.symm
    rw [h3, BitVec.toNat_and]
    exact Nat.and_le_right
  refine ⟨x.toBitVec.toNat, by omega, ?_⟩
  apply Int32.toBitVec_inj.mp
  rw [Int32.toBitVec_ofNat', BitVec.ofNat_toNat, BitVec.setWidth_eq]
theorem c_bitCount {P : Nat → Bool} {x : Int32} {st : XS} (h : Z_M P x) : f_Int_bitCount x st = some (Int32.ofNat (z_c P 0 8)) := by
  obtain ⟨n, hn, rfl⟩ := v_sm h
  have hb : ∀ i, i < 8 → P i = decide (n / 2 ^ i % 2 = 1) := fun i hi => by
    have := h i (by omega)
    rw [v_bi n hn i hi, decide_eq_true hi, Bool.true_and] at this
    exact this.symm
  have hp : z_c P 0 8 = z_pc n := by
    rw [z_c_s, z_c_s, z_c_s, z_c_s, z_c_s, z_c_s, z_c_s, z_c_s, z_c_0, hb 0 (by omega), hb (0 + 1) (by omega), hb (0 + 1 + 1) (by omega), hb (0 + 1 + 1 + 1) (by omega), hb (0 + 1 + 1 + 1 + 1) (by omega), hb (0 + 1 + 1 + 1 + 1 + 1) (by omega), hb (0 + 1 + 1 + 1 + 1 + 1 + 1) (by omega), hb (0 + 1 + 1 + 1 + 1 + 1 + 1 + 1) (by omega)]
    simp only [decide_eq_true_eq]
    rfl
  rw [hp]
  exact v_bc n hn
section
variable {e : Nat → Nat} {c : Int32} {a b : AS} {M st : XS} {i d o N w s k p : Nat}
def q_count (a : AS) (x : Int32) : Int32 :=
  if x = 0 then Int32.ofNat (z_c (fun t => decide (a.1 0 t ≠ 0)) 0 8) else if x = 1 then Int32.ofNat (z_c (fun t => decide (2 ≤ a.1 0 t)) 0 8) else if x = 2 then Int32.ofNat (z_c (fun t => decide (a.1 1 t ≠ 0)) 0 20)
  else if x = 3 then Int32.ofNat (z_c (fun t => decide (z_o a 1 t + z_o a 2 t ≠ 0)) 0 6) else if x = 4 then Int32.ofNat (z_c (fun t => decide (¬ (a.2.1 3 t = 0 ∧ z_o a 3 t = 0))) 0 6) else if x = 5 then Int32.ofNat (z_c (fun t => decide (a.2.1 3 t ≠ 0)) 0 6)
  else if x = 6 then Int32.ofNat (z_sm (fun t => a.1 4 t) 0 6) else if x = 7 then Int32.ofNat (a.1 5 0) else if x = 8 then Int32.ofNat (z_c (z_it (z_sq a 0 8) 8 (z_wf a)) 0 8) else -1
theorem c_count (h : RC z_0 a M st) (wd : W_D a) (wo : W_O z_0 a) (wp : W_P a) (x : Int32) : f_D_count 0 x st = some (q_count a x) := by
  obtain ⟨v, g1, g2⟩ := c_waitingInVain h wd wo wp
  have g3 := c_bitCount (st := st) g2
  rw [z_c_co 8 0 (fun j _ hj => z_vain_e (a := a) j (by omega))] at g3
  unfold f_D_count q_count
  rw [c_procsThere h wo wp, c_procsWaiting h wo wp, c_openingsThere h wo wp, c_pipesThere h wo wp, c_filesThere h wo wp, c_filesWithNames h wo wp, c_bytesInPipes h, h.2.2.2.2.2.2.2.1, g1]
  dsimp only
  rw [g3]
  repeat (first | rfl | (split; rfl))
theorem m_count (h : RM a M st) (wd : W_D a) (wo : W_O z_0 a) (wl : W_L N a) (wp : W_P a) (hN : N < 2147483647) (x : Int32) : f_M_count 0 x st = some (q_count a x, xsI st 32 0 0 0) := by
  have h0 := m_coX h 0
  have hm : RM a M (xsI st 32 0 0 0) := ⟨h0.1.1, h0.2⟩
  have e0 := m_count_62 hm wp wl 8 0 100 0 (by omega) (by omega)
  have e1 := m_count_95 hm wp wl 8 0 100 0 (by omega) (by omega)
  have e3 := m_count_134 hm wp wl 6 0 100 0 (by omega) (by omega)
  have e4 := m_count_167 hm wp wl 6 0 100 0 (by omega) (by omega)
  have e5 := m_count_200 hm wp wl 6 0 100 0 (by omega) (by omega)
  have e6 := m_count_242 hm wl 6 0 100 0 (by omega) (by omega)
  rw [Nat.zero_add] at e0 e1 e3 e4 e5 e6
  unfold f_M_count q_count
  rw [show f_M_count_62 100 0 0 0 (xsI st 32 0 0 0) = _ from e0, show f_M_count_95 100 0 0 0 (xsI st 32 0 0 0) = _ from e1, m_countOpenings h0.1.1 (fun t ht => (W_K_Q (W_O_q wo) t ht).1), show f_M_count_134 100 0 0 0 (xsI st 32 0 0 0) = _ from e3,
    show f_M_count_167 100 0 0 0 (xsI st 32 0 0 0) = _ from e4, show f_M_count_200 100 0 0 0 (xsI st 32 0 0 0) = _ from e5, show f_M_count_242 100 0 0 0 (xsI st 32 0 0 0) = _ from e6, m_vain h0.1.1 wd wo wp, h0.1.1.2.2.2.2.2.2.1.2.2.1, l_i32 (by have := wl.2.2.2.2.2; omega)]
  dsimp only
  repeat (first | rfl | (split; rfl))
end
