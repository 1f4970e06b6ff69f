/-! WHO WAITS IN VAIN -/
/-- the mask x is the set P of the first eight -/
def Z_M (P : Nat → Bool) (x : Int32) : Prop := ∀ i, i < 32 → x.toBitVec.getLsbD i = (decide (i < 8) && P i)
theorem v_1 : ∀ i, i < 8 → (1 : Int32) <<< (Int32.ofNat i &&& 31) = Int32.ofNat (2 ^ i) := by decide +kernel
theorem v_2 : ∀ i, i < 8 → ∀ j, j < 32 → (Int32.ofNat (2 ^ i)).toBitVec.getLsbD j = decide (j = i) := by decide +kernel
theorem v_3 : ∀ j, j < 32 → (255 : Int32).toBitVec.getLsbD j = decide (j < 8) := by decide +kernel
theorem v_4 : ∀ j, j < 32 → (-1 : Int32).toBitVec.getLsbD j = true := by decide +kernel
theorem v_5 : ∀ i, i < 8 → ((Int32.ofNat i &&& 31).toBitVec.smod 32).toNat = i := by decide +kernel
theorem v_6 : ∀ j, j < 32 → (1 : Int32).toBitVec.getLsbD j = decide (j = 0) := by decide +kernel
theorem v_7 : ∀ q, q < 64 → Int32.ofNat q / 8 = Int32.ofNat (q / 8) := by decide +kernel
theorem v_ext {x y : Int32} (h : ∀ i, i < 32 → x.toBitVec.getLsbD i = y.toBitVec.getLsbD i) : x = y := Int32.toBitVec_inj.mp (BitVec.eq_of_getLsbD_eq h)
theorem v_z {x : Int32} : x = 0 ↔ ∀ i, i < 32 → x.toBitVec.getLsbD i = false := by
  constructor
  · intro h i _; rw [h, show (0 : Int32).toBitVec = 0#32 from rfl, BitVec.getLsbD_zero]
  · intro h; exact v_ext (fun i hi => by rw [h i hi, show (0 : Int32).toBitVec = 0#32 from rfl, BitVec.getLsbD_zero])
theorem Z_M_0 : Z_M (fun _ => false) 0 := fun i hi => by rw [show (0 : Int32).toBitVec = 0#32 from rfl, BitVec.getLsbD_zero, Bool.and_false]
theorem Z_M_a : Z_M (fun _ => true) 255 := fun i hi => by rw [v_3 i hi, Bool.and_true]
theorem Z_M_c {P Q : Nat → Bool} {x : Int32} (h : Z_M P x) (hq : ∀ i, i < 8 → P i = Q i) : Z_M Q x := fun i hi => by
  rw [h i hi]
  by_cases h8 : i < 8
  · rw [hq i h8]
  · rw [decide_eq_false h8, Bool.false_and, Bool.false_and]
theorem Z_M_t {P : Nat → Bool} {x : Int32} {i : Nat} (h : Z_M P x) (hi : i < 8) : (x &&& ((1 : Int32) <<< (Int32.ofNat i &&& 31)) = 0) ↔ P i = false := by
  rw [v_z, v_1 i hi]
  constructor
  · intro z
    have := z i (by omega)
    rw [Int32.toBitVec_and, BitVec.getLsbD_and, h i (by omega), v_2 i hi i (by omega), decide_eq_true hi, decide_eq_true rfl, Bool.true_and, Bool.and_true] at this
    exact this
  · intro z j hj
    rw [Int32.toBitVec_and, BitVec.getLsbD_and, h j hj, v_2 i hi j hj]
    by_cases hji : j = i
    · rw [hji, z, Bool.and_false, Bool.false_and]
    · rw [decide_eq_false hji, Bool.and_false]
theorem Z_M_o {P : Nat → Bool} {x : Int32} {i : Nat} (h : Z_M P x) (hi : i < 8) : Z_M (fun j => P j || decide (j = i)) (x ||| ((1 : Int32) <<< (Int32.ofNat i &&& 31))) := by
  intro j hj
  rw [v_1 i hi, Int32.toBitVec_or, BitVec.getLsbD_or, h j hj, v_2 i hi j hj]
  show _ = (decide (j < 8) && (P j || decide (j = i)))
  by_cases hji : j = i
  · rw [hji, decide_eq_true hi, decide_eq_true rfl, Bool.or_true, Bool.or_true, Bool.and_true]
  · rw [decide_eq_false hji, Bool.or_false, Bool.or_false]
theorem Z_M_n {P : Nat → Bool} {x : Int32} {i : Nat} (h : Z_M P x) (hi : i < 8) : Z_M (fun j => P j && decide (j ≠ i)) (x &&& (((1 : Int32) <<< (Int32.ofNat i &&& 31)) ^^^ (-1 : Int32))) := by
  intro j hj
  rw [v_1 i hi, Int32.toBitVec_and, BitVec.getLsbD_and, h j hj, Int32.toBitVec_xor, BitVec.getLsbD_xor, v_2 i hi j hj, v_4 j hj]
  show _ = (decide (j < 8) && (P j && decide (j ≠ i)))
  by_cases hji : j = i
  · rw [hji, decide_eq_true (rfl : i = i), decide_eq_false (show ¬ i ≠ i from fun z => z rfl)]
    cases P i <;> simp
  · rw [decide_eq_false hji, decide_eq_true (show j ≠ i from hji)]
    cases P j <;> simp
theorem Z_M_s {P V : Nat → Bool} {x v : Int32} (h : Z_M P x) (hv : Z_M V v) : (v &&& (x ^^^ (-1 : Int32)) = 0) ↔ ∀ i, i < 8 → V i = true → P i = true := by
  rw [v_z]
  constructor
  · intro z i hi hV
    have := z i (by omega)
    rw [Int32.toBitVec_and, BitVec.getLsbD_and, Int32.toBitVec_xor, BitVec.getLsbD_xor, hv i (by omega), h i (by omega), v_4 i (by omega), decide_eq_true hi, hV] at this
    cases hp : P i with
    | true => rfl
    | false => rw [hp] at this; exact absurd this (by decide)
  · intro z i hi
    rw [Int32.toBitVec_and, BitVec.getLsbD_and, Int32.toBitVec_xor, BitVec.getLsbD_xor, hv i hi, h i hi, v_4 i hi]
    by_cases h8 : i < 8
    · cases hV : V i with
      | true => rw [z i h8 hV, decide_eq_true h8]; rfl
      | false => rw [Bool.and_false, Bool.false_and]
    · rw [decide_eq_false h8, Bool.false_and, Bool.false_and]
theorem Z_M_b {P : Nat → Bool} {x : Int32} {i : Nat} (h : Z_M P x) (hi : i < 8) : (x >>> (Int32.ofNat i &&& 31)) &&& (1 : Int32) = if P i = true then 1 else 0 := by
  apply v_ext
  intro j hj
  rw [Int32.toBitVec_and, BitVec.getLsbD_and, Int32.toBitVec_shiftRight, BitVec.getLsbD_sshiftRight', show (32 : BitVec 32) = 32 from rfl, v_5 i hi, v_6 j hj]
  by_cases hj0 : j = 0
  · subst hj0
    rw [if_pos (by omega), Nat.add_zero, h i (by omega), decide_eq_true hi]
    cases P i <;> rfl
  · rw [decide_eq_false hj0, Bool.and_false]
    by_cases hp : P i = true
    · rw [if_pos hp, v_6 j hj, decide_eq_false hj0]
    · rw [if_neg hp, show (0 : Int32).toBitVec = 0#32 from rfl, BitVec.getLsbD_zero]
/-- a descriptor of an end -/
def z_e1 (a : AS) (s k p d : Nat) : Bool := match a.2.2.2 p d with
  | none => false
  | some o => decide (a.1 1 o = s ∧ a.1 2 o = k)
def z_hb (a : AS) (s k p : Nat) : Bool := decide (0 < z_c (z_e1 a s k p) 0 8)
/-- waits at a pipe -/
def z_wf (a : AS) (i : Nat) : Bool := decide (2 ≤ a.1 0 i ∧ a.1 1 (z_t a i) ≤ 2)
/-- all who hold the other end are in S -/
def z_al (a : AS) (S : Nat → Bool) (i : Nat) : Bool := (z_f (fun p => z_hb a (3 - a.1 1 (z_t a i)) (a.1 2 (z_t a i)) p && !S p) 0 8).isNone
theorem z_al_i {a : AS} {S : Nat → Bool} {i : Nat} : z_al a S i = true ↔ ∀ p, p < 8 → z_hb a (3 - a.1 1 (z_t a i)) (a.1 2 (z_t a i)) p = true → S p = true := by
  unfold z_al
  constructor
  · intro h p hp hb
    have h2 := z_f_no 8 0 (Option.isNone_iff_eq_none.mp h) p (by omega) (by omega)
    rw [hb, Bool.true_and] at h2
    cases hS : S p with
    | true => rfl
    | false => rw [hS] at h2; exact nomatch h2
  · intro h
    apply Option.isNone_iff_eq_none.mpr
    cases hf : z_f (fun p => z_hb a (3 - a.1 1 (z_t a i)) (a.1 2 (z_t a i)) p && !S p) 0 8 with
    | none => rfl
    | some p =>
      obtain ⟨h1, h2, h3, _⟩ := z_f_so 8 0 hf
      rw [Bool.and_eq_true] at h3
      have := h p (by omega) h3.1
      rw [this] at h3
      exact nomatch h3.2
def z_F (a : AS) (S : Nat → Bool) (i : Nat) : Bool := S i && z_wf a i && z_al a S i
section
variable {e : Nat → Nat} {c : Int32} {a b : AS} {M st : XS} {i d o N w s k p : Nat}
theorem c_isEnd (h : RC z_0 a M st) (wo : W_O z_0 a) (ho : o < 20) (hk : 0 < a.1 1 o) (hs : s = 1 ∨ s = 2) : f_O_isEnd o (some k) (Int32.ofNat s) st = some (if a.1 1 o = s ∧ a.1 2 o = k then 1 else 0) := by
  unfold f_O_isEnd
  rcases c_kind h wo ho hk with ⟨hc, hf, h3, hr, p3, p4⟩ | ⟨hc, hf, h3, hr, p3, p4⟩ | ⟨hc, hf, h3, p3, p4⟩ | ⟨hc, h3, hr, p3, p4⟩
  · rw [p3, h3, hc]
    by_cases h1 : a.1 2 o = k
    · rw [if_pos (show (some (a.1 2 o) : Option Nat) = some k by rw [h1])]
      rcases hs with hs | hs
      · subst hs; rw [if_pos (show (1 : Int32) = Int32.ofNat 1 from rfl), if_pos ⟨rfl, h1⟩]
      · subst hs; rw [if_neg (show ¬ (1 : Int32) = Int32.ofNat 2 by decide), if_neg (by omega)]
    · rw [if_neg (show ¬ (some (a.1 2 o) : Option Nat) = some k from fun z => h1 (Option.some.inj z)), if_neg (fun z => h1 z.2)]
  · rw [p3, h3, hc]
    by_cases h1 : a.1 2 o = k
    · rw [if_pos (show (some (a.1 2 o) : Option Nat) = some k by rw [h1])]
      rcases hs with hs | hs
      · subst hs; rw [if_neg (show ¬ (2 : Int32) = Int32.ofNat 1 by decide), if_neg (by omega)]
      · subst hs; rw [if_pos (show (2 : Int32) = Int32.ofNat 2 from rfl), if_pos ⟨rfl, h1⟩]
    · rw [if_neg (show ¬ (some (a.1 2 o) : Option Nat) = some k from fun z => h1 (Option.some.inj z)), if_neg (fun z => h1 z.2)]
  · rw [p3, if_neg (show ¬ (none : Option Nat) = some k from fun z => nomatch z), if_neg (by omega)]
  · rw [p3, if_neg (show ¬ (none : Option Nat) = some k from fun z => nomatch z), if_neg (by omega)]
theorem c_holdsEnd_12 (h : RC z_0 a M st) (wd : W_D a) (wo : W_O z_0 a) (hp : p < 8) (hs : s = 1 ∨ s = 2) : ∀ m d n, d + m = 8 → m < n → f_P_holdsEnd_12 n (some k) (Int32.ofNat s) (some p) 8 (Int32.ofNat d) st = some (if 0 < z_c (z_e1 a s k p) d m then 1 else 0) := by
  intro m
  induction m with
  | zero => intro d n hi hn; obtain ⟨n, rfl⟩ : ∃ m, n = m + 1 := ⟨n - 1, by omega⟩; have : d = 8 := by omega
            subst this; rw [z_c_0]; rfl
  | succ m ih =>
    intro d n hi hn
    obtain ⟨n, rfl⟩ : ∃ m, n = m + 1 := ⟨n - 1, by omega⟩
    have h1 : ¬ ((8 : Int32) ≤ Int32.ofNat d) := n_ge (k := 8) (by omega) (by omega)
    unfold f_P_holdsEnd_12
    rw [z_c_s, if_neg h1]
    dsimp only
    rw [if_pos (n_in (by omega) (by omega)), n_to (by omega), h.2.2.1 p hp d (by omega), n_su, ih (d + 1) n (by omega) (by omega)]
    unfold z_e1
    cases hd : a.2.2.2 p d with
    | none => dsimp only; rw [if_neg (c := false = true) (by decide), Nat.zero_add]
    | some o =>
      have ho := wd p hp d (by omega) o hd
      have hk : 0 < a.1 1 o := (wo o ho).1.mpr (by have := z_h_po hp (show d < 8 by omega) hd; omega)
      dsimp only
      rw [c_isEnd h wo ho hk hs]
      dsimp only
      by_cases hc : a.1 1 o = s ∧ a.1 2 o = k
      · rw [if_pos hc, if_neg (c := (1 : Int32) = 0) (by decide), if_pos (c := decide _ = true) (decide_eq_true hc), if_pos (by omega)]
      · rw [if_neg hc, if_pos (c := (0 : Int32) = 0) rfl, if_neg (c := decide _ = true) (by rw [decide_eq_true_eq]; exact hc), Nat.zero_add]
theorem c_holdsEnd (h : RC z_0 a M st) (wd : W_D a) (wo : W_O z_0 a) (hp : p < 8) (hs : s = 1 ∨ s = 2) : f_P_holdsEnd p (some k) (Int32.ofNat s) st = some (if z_hb a s k p = true then 1 else 0) := by
  unfold f_P_holdsEnd z_hb
  rw [h.1.2.2.2.2.2.1 p hp]
  dsimp only
  have := c_holdsEnd_12 (k := k) h wd wo hp hs 8 0 100 (by omega) (by omega)
  rw [show f_P_holdsEnd_12 100 (some k) (Int32.ofNat s) (some p) 8 0 st = _ from this]
  by_cases hc : 0 < z_c (z_e1 a s k p) 0 8
  · rw [if_pos hc, if_pos (decide_eq_true hc)]
  · rw [if_neg hc, if_neg (by rw [decide_eq_true_eq]; exact hc)]
theorem c_holdersOfEnd_5 (h : RC z_0 a M st) (wd : W_D a) (wo : W_O z_0 a) (hs : s = 1 ∨ s = 2) : ∀ m i n x, i + m = 8 → m < n → Z_M (fun j => decide (j < i) && z_hb a s k j) x →
    ∃ v, f_D_holdersOfEnd_5 n 0 (some k) (Int32.ofNat s) x (Int32.ofNat i) st = some v ∧ Z_M (fun j => z_hb a s k j) v := by
  intro m
  induction m with
  | zero =>
    intro i n x hi hn hx
    obtain ⟨n, rfl⟩ : ∃ m, n = m + 1 := ⟨n - 1, by omega⟩
    have : i = 8 := by omega
    subst this
    exact ⟨x, rfl, Z_M_c hx (fun j hj => by rw [decide_eq_true hj, Bool.true_and])⟩
  | succ m ih =>
    intro i n x hi hn hx
    obtain ⟨n, rfl⟩ : ∃ m, n = m + 1 := ⟨n - 1, by omega⟩
    have h1 : ¬ ((8 : Int32) ≤ Int32.ofNat i) := n_ge (k := 8) (by omega) (by omega)
    unfold f_D_holdersOfEnd_5
    rw [if_neg h1, h.1.1.1]
    dsimp only
    rw [if_pos (n_in (by omega) (by omega)), n_to (by omega), h.1.2.1 i (by omega)]
    dsimp only
    rw [c_holdsEnd h wd wo (by omega) hs, n_su]
    dsimp only
    cases hb : z_hb a s k i with
    | true =>
      rw [if_pos rfl, if_neg (c := (1 : Int32) = 0) (by decide)]
      refine ih (i + 1) n _ (by omega) (by omega) (Z_M_c (Z_M_o hx (show i < 8 by omega)) (fun j hj => ?_))
      by_cases hji : j = i
      · subst hji; rw [decide_eq_true (rfl : j = j), Bool.or_true, decide_eq_true (Nat.lt_succ_self j), hb]; rfl
      · rw [decide_eq_false hji, Bool.or_false, show decide (j < i + 1) = decide (j < i) from decide_eq_decide.mpr (by omega)]
    | false =>
      rw [if_neg (c := false = true) (by decide), if_pos rfl]
      refine ih (i + 1) n _ (by omega) (by omega) (Z_M_c hx (fun j hj => ?_))
      by_cases hji : j = i
      · subst hji; rw [hb, Bool.and_false, Bool.and_false]
      · rw [show decide (j < i + 1) = decide (j < i) from decide_eq_decide.mpr (by omega)]
theorem c_holdersOfEnd (h : RC z_0 a M st) (wd : W_D a) (wo : W_O z_0 a) (hs : s = 1 ∨ s = 2) : ∃ v, f_D_holdersOfEnd 0 (some k) (Int32.ofNat s) st = some v ∧ Z_M (fun j => z_hb a s k j) v :=
  c_holdersOfEnd_5 h wd wo hs 8 0 100 0 (by omega) (by omega) (Z_M_c Z_M_0 (fun j _ => by rw [decide_eq_false (Nat.not_lt_zero j), Bool.false_and]))
theorem c_isWaiting (h : RC z_0 a M st) (wp : W_P a) (hi : i < 8) : f_P_isWaiting i st = some (if 2 ≤ a.1 0 i then 1 else 0) := by
  have h8 := wp i hi
  unfold f_P_isWaiting
  rw [(h.2.1 i hi).1]
  by_cases h2 : a.1 0 i = 2
  · rw [if_pos ((n_e2 (by omega)).mpr h2), if_pos (by omega)]
  · rw [if_neg (fun z => h2 ((n_e2 (by omega)).mp z))]
    by_cases h3 : a.1 0 i = 3
    · rw [if_pos ((n_e3 (by omega)).mpr h3), if_pos (by omega)]
    · rw [if_neg (fun z => h3 ((n_e3 (by omega)).mp z)), if_neg (by omega)]
theorem c_waitsForNoneBut {X : Nat → Bool} {x : Int32} (h : RC z_0 a M st) (wd : W_D a) (wo : W_O z_0 a) (wp : W_P a) (hi : i < 8) (hx : Z_M X x) :
    f_D_waitsForNoneBut 0 (some i) x st = some (if z_wf a i = true ∧ z_al a X i = true then 1 else 0) := by
  unfold f_D_waitsForNoneBut z_wf
  dsimp only
  rw [c_isWaiting h wp hi]
  dsimp only
  by_cases hw : 2 ≤ a.1 0 i
  · obtain ⟨_, _, hx1⟩ := wp i hi
    obtain ⟨d, o, hd, ht, hs, w, hm, hn⟩ := hx1 hw
    have ho := wd i hi d hd o hs
    have hk : 0 < a.1 1 o := (wo o ho).1.mpr (by have := z_h_po hi hd hs; omega)
    have hz : z_t a i = o := by unfold z_t; rw [ht, n_to (by omega), hs]; rfl
    obtain ⟨q1, q2, q3⟩ := (h.2.1 i hi).2 (by omega)
    rw [if_pos hw, if_neg (c := (1 : Int32) = 0) (by decide), q1, ht, c_openingAt h hi, z_d_of hd, hs]
    dsimp only
    unfold f_D_waitsForNoneBut_19 f_O_has
    dsimp only
    have hal : z_al a X i = true ↔ ∀ p, p < 8 → z_hb a (3 - a.1 1 o) (a.1 2 o) p = true → X p = true := by rw [← hz]; exact z_al_i
    rw [hz]
    have hfin : ∀ sN : Nat, (sN = 1 ∨ sN = 2) → 3 - a.1 1 o = sN → a.1 1 o ≤ 2 → st.2.2.1 2 o 0 = some (a.1 2 o) → f_D_waitsForNoneBut_46 0 x (some o) (Int32.ofNat sN) st = some (if decide (2 ≤ a.1 0 i ∧ a.1 1 o ≤ 2) = true ∧ z_al a X i = true then 1 else 0) := by
      intro sN hsN h3 hk2 hr0
      obtain ⟨v, g1, g2⟩ := c_holdersOfEnd (k := a.1 2 o) h wd wo hsN
      unfold f_D_waitsForNoneBut_46
      dsimp only
      rw [hr0, g1]
      dsimp only
      rw [h3] at hal
      by_cases hc : ∀ p, p < 8 → z_hb a sN (a.1 2 o) p = true → X p = true
      · rw [if_pos ((Z_M_s hx g2).mpr hc), if_pos ⟨decide_eq_true ⟨hw, hk2⟩, hal.mpr hc⟩]
      · rw [if_neg (fun z => hc ((Z_M_s hx g2).mp z)), if_neg (fun z => hc (hal.mp z.2))]
    rcases c_kind h wo ho hk with ⟨hc, hf, h3, hr, p3, p4⟩ | ⟨hc, hf, h3, hr, p3, p4⟩ | ⟨hc, hf, h3, p3, p4⟩ | ⟨hc, h3, hr, p3, p4⟩
    · rw [p3, h3]
      dsimp only
      rw [if_neg (show ¬ ((1 : Int32) &&& 1) = 0 by decide)]
      dsimp only
      rw [if_neg (c := (1 : Int32) = 0) (by decide)]
      exact hfin 2 (Or.inr rfl) (by omega) (by omega) p3
    · rw [p3, h3]
      dsimp only
      rw [if_pos (show ((2 : Int32) &&& 1) = 0 by decide)]
      dsimp only
      rw [if_pos (c := (0 : Int32) = 0) rfl]
      exact hfin 1 (Or.inl rfl) (by omega) (by omega) p3
    · rw [p3]
      dsimp only
      rw [if_neg (fun z => by have := of_decide_eq_true z.1; omega)]
    · rw [p3]
      dsimp only
      rw [if_neg (fun z => by have := of_decide_eq_true z.1; omega)]
  · rw [if_neg hw, if_pos (c := (0 : Int32) = 0) rfl, if_neg (fun z => hw (of_decide_eq_true z.1).1)]
    rfl
theorem c_vainAmong_4 {X : Nat → Bool} {x : Int32} (h : RC z_0 a M st) (wd : W_D a) (wo : W_O z_0 a) (wp : W_P a) (hx : Z_M X x) : ∀ m i n y, i + m = 8 → m < n → Z_M (fun j => decide (j < i) && z_F a X j) y →
    ∃ v, f_D_vainAmong_4 n 0 x y (Int32.ofNat i) st = some v ∧ Z_M (z_F a X) v := by
  intro m
  induction m with
  | zero =>
    intro i n y hi hn hy
    obtain ⟨n, rfl⟩ : ∃ m, n = m + 1 := ⟨n - 1, by omega⟩
    have : i = 8 := by omega
    subst this
    exact ⟨y, rfl, Z_M_c hy (fun j hj => by rw [decide_eq_true hj, Bool.true_and])⟩
  | succ m ih =>
    intro i n y hi hn hy
    obtain ⟨n, rfl⟩ : ∃ m, n = m + 1 := ⟨n - 1, by omega⟩
    have h1 : ¬ ((8 : Int32) ≤ Int32.ofNat i) := n_ge (k := 8) (by omega) (by omega)
    have hno : z_F a X i = false → ∃ v, f_D_vainAmong_4 n 0 x y (Int32.ofNat (i + 1)) st = some v ∧ Z_M (z_F a X) v := fun hb => by
      refine ih (i + 1) n _ (by omega) (by omega) (Z_M_c hy (fun j hj => ?_))
      by_cases hji : j = i
      · subst hji; rw [hb, Bool.and_false, Bool.and_false]
      · rw [show decide (j < i + 1) = decide (j < i) from decide_eq_decide.mpr (by omega)]
    have hye : z_F a X i = true → ∃ v, f_D_vainAmong_4 n 0 x (y ||| ((1 : Int32) <<< (Int32.ofNat i &&& 31))) (Int32.ofNat (i + 1)) st = some v ∧ Z_M (z_F a X) v := fun hb => by
      refine ih (i + 1) n _ (by omega) (by omega) (Z_M_c (Z_M_o hy (show i < 8 by omega)) (fun j hj => ?_))
      by_cases hji : j = i
      · subst hji; rw [decide_eq_true (rfl : j = j), Bool.or_true, decide_eq_true (Nat.lt_succ_self j), hb]; rfl
      · rw [decide_eq_false hji, Bool.or_false, show decide (j < i + 1) = decide (j < i) from decide_eq_decide.mpr (by omega)]
    unfold f_D_vainAmong_4
    rw [if_neg h1, n_su]
    by_cases hX : X i = false
    · rw [if_pos ((Z_M_t hx (by omega)).mpr hX)]
      exact hno (by unfold z_F; rw [hX]; rfl)
    · rw [if_neg (fun z => hX ((Z_M_t hx (by omega)).mp z)), h.1.1.1]
      dsimp only
      rw [if_pos (n_in (by omega) (by omega)), n_to (by omega), h.1.2.1 i (by omega), c_waitsForNoneBut h wd wo wp (by omega) hx]
      dsimp only
      have hX' : X i = true := by cases hq : X i with | true => rfl | false => exact absurd hq hX
      by_cases hc : z_wf a i = true ∧ z_al a X i = true
      · rw [if_pos hc, if_neg (c := (1 : Int32) = 0) (by decide)]
        exact hye (by unfold z_F; rw [hX', hc.1, hc.2]; rfl)
      · rw [if_neg hc, if_pos (c := (0 : Int32) = 0) rfl]
        refine hno ?_
        unfold z_F
        rw [hX', Bool.true_and]
        cases h5 : z_wf a i with
        | false => rfl
        | true => cases h6 : z_al a X i with
          | false => rfl
          | true => exact absurd ⟨h5, h6⟩ hc
theorem c_vainAmong {X : Nat → Bool} {x : Int32} (h : RC z_0 a M st) (wd : W_D a) (wo : W_O z_0 a) (wp : W_P a) (hx : Z_M X x) : ∃ v, f_D_vainAmong 0 x st = some v ∧ Z_M (z_F a X) v :=
  c_vainAmong_4 h wd wo wp hx 8 0 100 0 (by omega) (by omega) (Z_M_c Z_M_0 (fun j _ => by rw [decide_eq_false (Nat.not_lt_zero j), Bool.false_and]))
/-- rounds of F -/
def z_it (F : (Nat → Bool) → Nat → Bool) : Nat → (Nat → Bool) → Nat → Bool
  | 0, S => S
  | n + 1, S => z_it F n (F S)
theorem c_waitingInVain_6 (h : RC z_0 a M st) (wd : W_D a) (wo : W_O z_0 a) (wp : W_P a) : ∀ m i n X x, i + m = 8 → m < n → Z_M X x → ∃ v, f_D_waitingInVain_6 n 0 x (Int32.ofNat i) st = some v ∧ Z_M (z_it (z_F a) m X) v := by
  intro m
  induction m with
  | zero =>
    intro i n X x hi hn hx
    obtain ⟨n, rfl⟩ : ∃ m, n = m + 1 := ⟨n - 1, by omega⟩
    have : i = 8 := by omega
    subst this
    exact ⟨x, rfl, hx⟩
  | succ m ih =>
    intro i n X x hi hn hx
    obtain ⟨n, rfl⟩ : ∃ m, n = m + 1 := ⟨n - 1, by omega⟩
    have h1 : ¬ ((8 : Int32) ≤ Int32.ofNat i) := n_ge (k := 8) (by omega) (by omega)
    obtain ⟨v, g1, g2⟩ := c_vainAmong h wd wo wp hx
    unfold f_D_waitingInVain_6
    rw [if_neg h1, g1, n_su]
    exact ih (i + 1) n _ v (by omega) (by omega) g2
theorem c_waitingInVain (h : RC z_0 a M st) (wd : W_D a) (wo : W_O z_0 a) (wp : W_P a) : ∃ v, f_D_waitingInVain 0 st = some v ∧ Z_M (z_it (z_F a) 8 (fun _ => true)) v :=
  c_waitingInVain_6 h wd wo wp 8 0 100 _ 255 (by omega) (by omega) Z_M_a
end
