/-! THE BEGINNING -/
def z_S0 : XS := (fun _ _ _ => 0, fun _ _ _ => 0, fun _ _ _ => none, fun _ => 0)
def z_S1 : XS := match f_D_init 0 (xsN z_S0 0) with
  | some (_, s) => s
  | none => z_S0
def z_S2 : XS := match f_M_init 0 (xsN z_S1 32) with
  | some (_, s) => s
  | none => z_S0
def z_S3 : XS := xsN z_S2 64
/-- the picture of a desk at its beginning -/
def z_a0 : AS := (fun _ _ => 0, fun f _ => if f = 0 then -1 else 0, (fun _ => 0, fun _ _ => 0), fun _ _ => none)
set_option maxRecDepth 100000 in
theorem s_1 : (f_D_init 0 (xsN z_S0 0)).isSome = true ∧ z_S0.2.2.2 0 = 0 ∧ z_S1.2.2.2 32 = 0 := by decide +kernel
set_option maxRecDepth 100000 in
theorem s_2 : (f_M_init 0 (xsN z_S1 32)).isSome = true ∧ z_S2.2.2.2 64 = 0 := by decide +kernel
set_option maxRecDepth 100000 in
theorem s_3 : (z_S3.2.2.1 0 0 0 = some 0 ∧ z_S3.2.2.1 0 0 1 = some 0 ∧ z_S3.2.2.1 0 0 2 = some 0 ∧ z_S3.2.2.1 0 0 3 = some 0 ∧ z_S3.2.2.1 0 0 4 = some 0 ∧ z_S3.2.2.1 0 0 5 = some 1) ∧
    (∀ i, i < 8 → z_S3.2.2.1 6 0 i = some i) ∧ (∀ i, i < 20 → z_S3.2.2.1 7 0 i = some i) ∧ (∀ i, i < 6 → z_S3.2.2.1 8 0 i = some i) ∧ (∀ i, i < 6 → z_S3.2.2.1 9 0 i = some i) ∧
    (∀ i, i < 8 → z_S3.2.2.1 1 i 0 = some i) ∧ (∀ i, i < 6 → z_S3.2.2.1 3 i 0 = some (i + 2)) ∧ (∀ i, i < 6 → z_S3.2.2.1 4 i 0 = some i) ∧ (∀ i, i < 8 → z_S3.2.2.1 5 i 0 = some i) := by decide +kernel
set_option maxRecDepth 100000 in
theorem s_4 : (∀ i, i < 8 → z_S3.1 1 i 1 = 0) ∧ (∀ i, i < 8 → ∀ d, d < 8 → z_S3.2.2.1 10 i d = none) ∧ (∀ o, o < 20 → z_S3.1 2 o 4 = 0) ∧ (∀ k, k < 6 → z_S3.1 3 k 1 = 0 ∧ z_S3.1 3 k 2 = 0) ∧ (∀ r, r < 8 → z_S3.1 5 r 1 = 0 ∧ z_S3.1 5 r 2 = 0) ∧
    (∀ f, f < 6 → z_S3.1 4 f 1 = 0 ∧ z_S3.1 4 f 2 = 0 ∧ z_S3.1 4 f 3 = 0) ∧ z_S3.1 0 0 6 = 0 := by decide +kernel
set_option maxRecDepth 100000 in
theorem s_5 : (∀ j, j < 17 → 1 ≤ j → z_S3.2.2.1 32 0 j = some 0) ∧ z_S3.2.2.1 32 0 18 = some 0 ∧ z_S3.2.2.1 32 0 20 = some 0 := by decide +kernel
set_option maxRecDepth 100000 in
theorem s_6 : (∀ i, i < 8 → z_S3.1 33 0 i = 0 ∧ z_S3.1 34 0 i = -1 ∧ z_S3.1 35 0 i = 0 ∧ z_S3.2.1 37 0 i = 0) ∧ (∀ i, i < 8 → ∀ d, d < 8 → z_S3.1 36 0 (8 * i + d) = -1) ∧ (∀ o, o < 20 → z_S3.1 38 0 o = 0 ∧ z_S3.1 39 0 o = 0 ∧ z_S3.1 40 0 o = 0 ∧ z_S3.1 41 0 o = 0) ∧
    (∀ k, k < 6 → z_S3.1 44 0 k = 0) ∧ (∀ f, f < 6 → z_S3.1 45 0 f = 0 ∧ z_S3.1 46 0 f = 0 ∧ z_S3.1 47 0 f = 0) ∧ z_S3.1 32 0 17 = 0 ∧ z_S3.2.1 32 0 19 = 0 := by decide +kernel
def RL (a : AS) (st : XS) : Prop := RC z_0 a st st ∧ RM a st st
theorem s_h (o : Nat) : z_h z_a0 o = 0 := by
  unfold z_h
  refine z_c_no 64 0 ?_
  cases h : z_f (fun k => decide (z_a0.2.2.2 (k / 8) (k % 8) = some o)) 0 64 with
  | none => rfl
  | some q => obtain ⟨_, _, h3, _⟩ := z_f_so 64 0 h; exact nomatch (of_decide_eq_true h3)
theorem s_o {s : Nat} (hs : 0 < s) (k : Nat) : z_o z_a0 s k = 0 := by
  unfold z_o
  refine z_c_no 20 0 ?_
  cases h : z_f (fun o => decide (z_a0.1 1 o = s ∧ z_a0.1 2 o = k)) 0 20 with
  | none => rfl
  | some q =>
    obtain ⟨_, _, h3, _⟩ := z_f_so 20 0 h
    have : (0 : Nat) = s := (of_decide_eq_true h3).1
    omega
theorem s_RL : RL z_a0 z_S3 := by
  obtain ⟨q1, q2, q3, q4, q5, q6, q7⟩ := s_4
  obtain ⟨p1, p2, p3, p4, p5, p6, p7⟩ := s_6
  refine ⟨⟨s_3, ?_, ?_, ?_, ?_, ?_, ?_, q7, fun _ _ => ⟨rfl, rfl, rfl⟩⟩, ⟨?_, ?_, ?_, ?_, ?_, ?_, ?_, fun _ _ => ⟨rfl, rfl, rfl⟩⟩, ?_, ?_⟩
  · intro i hi; exact ⟨q1 i hi, fun z => absurd z (Nat.lt_irrefl 0)⟩
  · exact q2
  · intro o ho
    rw [s_h]
    exact ⟨q3 o ho, fun z => absurd z (Nat.lt_irrefl 0)⟩
  · intro k hk
    rw [s_o (by omega), s_o (by omega)]
    exact q4 k hk
  · have hg : ∀ w r, r < 8 → c_G z_a0 w r (z_S3.1 5) (z_S3.1 12) := fun w r hr => ⟨(q5 r hr).2, 0, by omega, (q5 r hr).1, fun j hj => absurd hj (Nat.not_lt_zero j)⟩
    exact ⟨fun k hk => hg k (k + 2) (by omega), hg 20 0 (by omega), hg 21 1 (by omega)⟩
  · intro f hf
    rw [s_o (by omega)]
    exact ⟨(q6 f hf).1, (q6 f hf).2.1, (q6 f hf).2.2, fun j hj => absurd hj (Nat.not_lt_zero j)⟩
  · intro j hj
    rcases hj with hj | hj | hj
    · exact s_5.1 j (by omega) hj.1
    · rw [hj]; exact s_5.2.1
    · rw [hj]; exact s_5.2.2
  · intro i hi; exact p1 i hi
  · intro i hi d hd; exact p2 i hi d hd
  · intro o ho; exact p3 o ho
  · intro k hk
    rw [s_o (by omega), s_o (by omega)]
    exact ⟨Or.inl (p4 k hk), fun z => absurd z (Nat.lt_irrefl 0), fun j hj => absurd hj (Nat.not_lt_zero j)⟩
  · intro f hf
    rw [s_o (by omega)]
    exact ⟨Or.inl (p5 f hf).1, fun z => z.elim (fun y => absurd rfl y) (fun y => absurd y (Nat.lt_irrefl 0)), (p5 f hf).2.1, (p5 f hf).2.2, fun j hj => absurd hj (Nat.not_lt_zero j)⟩
  · exact ⟨p6, fun j hj => absurd hj (Nat.not_lt_zero j), p7, fun j hj => absurd hj (Nat.not_lt_zero j)⟩
  · intro k hk z; rw [p4 k hk] at z; exact absurd z (by decide)
  · intro f hf z; rw [(p5 f hf).1] at z; exact absurd z (by decide)
theorem s_WF : WF 0 z_a0 := by
  refine ⟨fun i _ d _ o h => (nomatch h), fun o ho => ?_, ?_, fun i hi => ⟨Nat.zero_le _, fun _ _ _ => rfl, fun z => absurd z (by show ¬ 2 ≤ 0; omega)⟩, fun i _ z => absurd z (by show ¬ 2 ≤ 0; omega)⟩
  · rw [s_h]
    exact ⟨⟨fun z => absurd z (Nat.lt_irrefl 0), fun z => absurd z (Nat.lt_irrefl 0)⟩, Nat.zero_le _, fun z => z.elim (fun y => (nomatch y)) (fun y => (nomatch y)), fun z => (nomatch z), fun z => (nomatch z), fun z => absurd z (Nat.lt_irrefl 0), Nat.zero_le _⟩
  · exact ⟨fun _ _ => Or.inl rfl, fun k hk => ⟨Nat.zero_le _, fun _ => rfl⟩, fun _ _ => Nat.zero_le _, Nat.zero_le _, rfl, Nat.le_refl _⟩
theorem s_law (N : Nat) (xs : Nat → Int32) : f_L_law N xs z_S0 = f_L_law_23 N xs 600 (some 0) (some 0) (some 0) 0 z_S3 := by
  have h1 : f_D_init (z_S0.2.2.2 0) (xsN z_S0 0) = some ((), z_S1) := by
    rw [s_1.2.1]
    have := s_1.1
    unfold z_S1
    cases h : f_D_init 0 (xsN z_S0 0) with
    | none => rw [h] at this; exact nomatch this
    | some v => rfl
  have h2 : f_M_init (z_S1.2.2.2 32) (xsN z_S1 32) = some ((), z_S2) := by
    rw [s_1.2.2]
    have := s_2.1
    unfold z_S2
    cases h : f_M_init 0 (xsN z_S1 32) with
    | none => rw [h] at this; exact nomatch this
    | some v => rfl
  unfold f_L_law
  rw [h1]
  dsimp only
  rw [h2]
  dsimp only
  rw [s_1.2.1, s_1.2.2, s_2.2]
  rfl
