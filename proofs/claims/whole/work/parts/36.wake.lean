/-! WHO MUST WAIT, AND WHO IS WOKEN -/
section
variable {e : Nat → Nat} {a : AS} {M st : XS} {i d o N : Nat}
theorem z_s_k0 (wo : W_O e a) {t : Nat} (ht : t < 20) : (z_s e a).1 1 t = a.1 1 t := by
  have h := (wo t ht).1
  show (if 0 < z_h a t + e t then a.1 1 t else 0) = _
  by_cases h0 : 0 < z_h a t + e t
  · rw [if_pos h0]
  · rw [if_neg h0]; have : ¬ 0 < a.1 1 t := fun z => h0 (h.mp z)
    omega
theorem z_s_o0 (wo : W_O e a) (s k : Nat) : z_o (z_s e a) s k = z_o a s k := z_o_co (a := z_s e a) (b := a) (fun t ht => And.intro (z_s_k0 wo ht) z_s_tg) s k
/-- where all that is there has holders, the sweep changes nothing -/
theorem RC_s (h : RC e a M st) (wo : W_O e a) (wl : W_L N a) : RC e (z_s e a) M st := by
  refine ⟨h.1, h.2.1, h.2.2.1, ?_, c_I_s h.2.2.2.2.1 (fun k _ => ⟨z_s_o0 wo 1 k, z_s_o0 wo 2 k⟩), c_R_s h.2.2.2.2.2.1 wl (fun k _ => ⟨z_s_o0 wo 1 k, z_s_o0 wo 2 k⟩), c_F_s h.2.2.2.2.2.2.1 (fun f _ => z_s_o0 wo 3 f), h.2.2.2.2.2.2.2.1, h.2.2.2.2.2.2.2.2⟩
  intro t ht
  rw [z_s_k0 wo ht]
  exact h.2.2.2.1 t ht
theorem W_L_s (wl : W_L N a) : W_L N (z_s e a) := by
  refine ⟨wl.1, fun k hk => ?_, fun f hf => ?_, ?_, ?_, wl.2.2.2.2.2⟩
  · rw [z_s_ln hk]
    have := (wl.2.1 k hk).1
    by_cases h : z_o (z_s e a) 1 k + z_o (z_s e a) 2 k = 0
    · rw [if_pos h]; exact ⟨by omega, fun _ => rfl⟩
    · rw [if_neg h]; exact ⟨this, fun z => absurd z h⟩
  · rw [z_s_l2 (by omega)]; exact wl.2.2.1 f hf
  · rw [z_s_l2 (by omega)]; exact wl.2.2.2.1
  · rw [z_s_l2 (by omega)]; exact wl.2.2.2.2.1
/-- as W_O, but there may be openings without holders -/
def W_Q (e : Nat → Nat) (a : AS) : Prop := ∀ o, o < 20 → (0 < z_h a o + e o → 0 < a.1 1 o) ∧ a.1 1 o ≤ 4 ∧ (a.1 1 o = 1 ∨ a.1 1 o = 2 → a.1 2 o < 6 ∧ a.2.1 2 o = Int32.ofNat (a.1 1 o)) ∧
  (a.1 1 o = 3 → a.1 2 o < 6) ∧ (a.1 1 o = 4 → a.2.1 2 o = 3) ∧ (0 < a.1 1 o → a.1 1 o ≠ 3 → a.1 3 o = 0) ∧ a.1 3 o ≤ 64
theorem W_O_q (wo : W_O e a) : W_Q e a := fun t ht => ⟨(wo t ht).1.mpr, (wo t ht).2⟩
theorem W_Q_d (wo : W_Q e a) (hi : i < 8) (hd : d < 8) : W_Q e (aD a i d none) := fun t ht => ⟨fun z => (wo t ht).1 (by
  have h1 := z_h_D a hi hd none t
  rw [if_neg (c := none = some t) (fun z => nomatch z)] at h1
  omega), (wo t ht).2⟩
theorem W_O_s (wo : W_Q e a) : W_O e (z_s e a) := by
  intro t ht
  obtain ⟨w1, w2, w3, w4, w5, w6, w7⟩ := wo t ht
  have hz : (z_s e a).1 1 t = if 0 < z_h a t + e t then a.1 1 t else 0 := rfl
  by_cases h0 : 0 < z_h a t + e t
  · rw [if_pos h0] at hz
    rw [hz]
    exact ⟨⟨fun _ => h0, fun _ => w1 h0⟩, w2, w3, w4, w5, w6, w7⟩
  · rw [if_neg h0] at hz
    rw [hz]
    refine ⟨⟨fun z => absurd z (Nat.lt_irrefl 0), fun z => absurd z h0⟩, by omega, fun z => by omega, fun z => by omega, fun z => by omega, fun z => absurd z (Nat.lt_irrefl 0), w7⟩
end
section
variable {e : Nat → Nat} {a : AS} {M st : XS} {i d o N : Nat}
/-- what an opening is, as the class has it -/
theorem c_kind (h : RC e a M st) (wo : W_O e a) (ho : o < 20) (hk : 0 < a.1 1 o) :
    (a.1 1 o = 1 ∧ a.1 2 o < 6 ∧ st.1 2 o 3 = 1 ∧ a.2.1 2 o = 1 ∧ st.2.2.1 2 o 0 = some (a.1 2 o) ∧ st.2.2.1 2 o 1 = none) ∨
    (a.1 1 o = 2 ∧ a.1 2 o < 6 ∧ st.1 2 o 3 = 2 ∧ a.2.1 2 o = 2 ∧ st.2.2.1 2 o 0 = some (a.1 2 o) ∧ st.2.2.1 2 o 1 = none) ∨
    (a.1 1 o = 3 ∧ a.1 2 o < 6 ∧ st.1 2 o 3 = a.2.1 2 o ∧ st.2.2.1 2 o 0 = none ∧ st.2.2.1 2 o 1 = some (a.1 2 o)) ∨
    (a.1 1 o = 4 ∧ st.1 2 o 3 = 3 ∧ a.2.1 2 o = 3 ∧ st.2.2.1 2 o 0 = none ∧ st.2.2.1 2 o 1 = none) := by
  obtain ⟨w1, w2, w3, w4, w5, w6, w7⟩ := wo o ho
  obtain ⟨p1, p2, p3, p4⟩ := (h.2.2.2.1 o ho).2 hk
  have hcs : a.1 1 o = 1 ∨ a.1 1 o = 2 ∨ a.1 1 o = 3 ∨ a.1 1 o = 4 := by omega
  rcases hcs with hc | hc | hc | hc
  · rw [if_pos (by omega)] at p3; rw [if_neg (by omega)] at p4
    have h3 := w3 (Or.inl hc)
    rw [hc] at h3
    exact Or.inl ⟨hc, h3.1, p1.trans h3.2, h3.2, p3, p4⟩
  · rw [if_pos (by omega)] at p3; rw [if_neg (by omega)] at p4
    have h3 := w3 (Or.inr hc)
    rw [hc] at h3
    exact Or.inr (Or.inl ⟨hc, h3.1, p1.trans h3.2, h3.2, p3, p4⟩)
  · rw [if_neg (by omega)] at p3; rw [if_pos (by omega)] at p4
    exact Or.inr (Or.inr (Or.inl ⟨hc, w4 hc, p1, p3, p4⟩))
  · rw [if_neg (by omega)] at p3; rw [if_neg (by omega)] at p4
    exact Or.inr (Or.inr (Or.inr ⟨hc, p1.trans (w5 hc), w5 hc, p3, p4⟩))
theorem z_w_4 {n : Int32} (h : a.1 1 o = 4) : z_w a o true n = decide (n ≠ 0 ∧ a.1 4 20 = 0) := by
  unfold z_w; rw [h]; apply decide_eq_decide.mpr
  exact ⟨fun z => ⟨z.1, by rcases z.2 with q | q | q <;> omega⟩, fun z => ⟨z.1, Or.inl ⟨rfl, rfl, z.2⟩⟩⟩
theorem z_w_1 {n : Int32} (h : a.1 1 o = 1) : z_w a o true n = decide (n ≠ 0 ∧ a.1 4 (a.1 2 o) = 0 ∧ 0 < z_o a 2 (a.1 2 o)) := by
  unfold z_w; rw [h]; apply decide_eq_decide.mpr
  exact ⟨fun z => ⟨z.1, by rcases z.2 with q | q | q <;> omega⟩, fun z => ⟨z.1, Or.inr (Or.inl ⟨rfl, rfl, z.2⟩)⟩⟩
theorem z_w_3 {n : Int32} {r : Bool} (h : a.1 1 o = 3) : z_w a o r n = false := by
  unfold z_w; rw [h]; apply decide_eq_false
  exact fun z => by rcases z.2 with q | q | q <;> omega
theorem z_w_2r {n : Int32} (h : a.1 1 o = 2) : z_w a o true n = false := by
  unfold z_w; rw [h]; apply decide_eq_false
  exact fun z => by rcases z.2 with q | q | q <;> first | omega | exact nomatch q.2.1
theorem z_w_1w {n : Int32} (h : a.1 1 o = 1) : z_w a o false n = false := by
  unfold z_w; rw [h]; apply decide_eq_false
  exact fun z => by rcases z.2 with q | q | q <;> first | omega | exact nomatch q.2.1
theorem z_w_4w {n : Int32} (h : a.1 1 o = 4) : z_w a o false n = false := by
  unfold z_w; rw [h]; apply decide_eq_false
  exact fun z => by rcases z.2 with q | q | q <;> first | omega | exact nomatch q.2.1
theorem z_w_2 {m : Nat} (hm : m ≤ 8) (hl : a.1 4 (a.1 2 o) ≤ 32) (h : a.1 1 o = 2) : z_w a o false (Int32.ofNat m) = decide (0 < z_o a 1 (a.1 2 o) ∧ 32 < a.1 4 (a.1 2 o) + m) := by
  unfold z_w; rw [h, n_to (by omega)]; apply decide_eq_decide.mpr
  refine ⟨fun z => by rcases z.2 with q | q | q <;> first | omega | exact (nomatch q.2.1), fun z => ⟨?_, Or.inr (Or.inr ⟨rfl, rfl, z⟩)⟩⟩
  intro hq
  have := (n_e0 (a := m) (by omega)).mp hq
  omega
theorem b_11 : (((1 : Int32) &&& 1) = 0) = False := eq_false (by decide)
theorem b_12 : (((1 : Int32) &&& 2) = 0) = True := eq_true (by decide)
theorem b_21 : (((2 : Int32) &&& 1) = 0) = True := eq_true (by decide)
theorem b_22 : (((2 : Int32) &&& 2) = 0) = False := eq_false (by decide)
theorem b_31 : (((3 : Int32) &&& 1) = 0) = False := eq_false (by decide)
theorem b_32 : (((3 : Int32) &&& 2) = 0) = False := eq_false (by decide)
theorem i_16 : ((-1 : Int32) = -6) = False := eq_false (by decide)
theorem i_56 : ((-5 : Int32) = -6) = False := eq_false (by decide)
theorem i_76 : ((-7 : Int32) = -6) = False := eq_false (by decide)
theorem i_06 : ((0 : Int32) = -6) = False := eq_false (by decide)
theorem i_10 : ((1 : Int32) = 0) = False := eq_false (by decide)
theorem c_hindR (h : RC e a M st) (wo : W_O e a) (wl : W_L N a) (ho : o < 20) (hk : 0 < a.1 1 o) (n : Int32) :
    f_D_hindranceToRead 0 (some o) n st = some (if a.2.1 2 o &&& 1 = 0 then -1 else if z_w a o true n = true then -6 else 0) := by
  unfold f_D_hindranceToRead f_O_has
  rcases c_kind h wo ho hk with ⟨hc, hk, h3, hr, p3, p4⟩ | ⟨hc, hk, h3, hr, p3, p4⟩ | ⟨hc, hk, h3, p3, p4⟩ | ⟨hc, h3, hr, p3, p4⟩
  · have l1 := (wl.2.1 _ hk).1
    have l2 := z_o_le a 2 (a.1 2 o)
    have e1 := n_e0 (a := a.1 4 (a.1 2 o)) (by omega)
    have e2 := n_l0 (a := z_o a 2 (a.1 2 o)) (by omega)
    simp only [h3, hr, b_11, if_false, i_10, p4, p3, z_w_1 hc, h.1.2.2.2.2.2.2.1 _ hk, (h.2.2.2.2.2.1.1 _ hk).1, (h.2.2.2.2.1 _ hk).2, e1, e2]
    by_cases hn : n = 0 <;> by_cases h5 : a.1 4 (a.1 2 o) = 0 <;> by_cases h6 : z_o a 2 (a.1 2 o) = 0 <;> simp [hn, h5, h6, Nat.pos_iff_ne_zero]
  · simp only [h3, hr, b_21, if_true]
  · simp only [h3, p4, z_w_3 hc]
    by_cases hr : a.2.1 2 o &&& 1 = 0 <;> by_cases hn : n = 0 <;> simp [hr, hn]
  · have l1 := wl.2.2.2.1
    have e1 := n_e0 (a := a.1 4 20) (by omega)
    simp only [h3, hr, b_31, if_false, i_10, p4, p3, z_w_4 hc, h.1.1.2.2.2.2.1, h.2.2.2.2.2.1.2.1.1, e1]
    by_cases hn : n = 0 <;> by_cases h5 : a.1 4 20 = 0 <;> simp [hn, h5]
/-- where a write to a file begins -/
def z_pl (a : AS) (o : Nat) : Nat := if a.2.1 2 o &&& 4 = 0 then a.1 3 o else a.1 4 (8 + a.1 2 o)
theorem c_place (h : RC e a M st) (ho : o < 20) (hk : 0 < a.1 1 o) (hf : a.1 2 o < 6) : f_D_placeToWrite (some o) (some (a.1 2 o)) st = some (Int32.ofNat (z_pl a o)) := by
  unfold f_D_placeToWrite f_O_has z_pl
  dsimp only
  obtain ⟨p1, p2, p3, p4⟩ := (h.2.2.2.1 o ho).2 hk
  rw [p1, p2, (h.2.2.2.2.2.2.1 _ hf).1]
  by_cases hr : a.2.1 2 o &&& 4 = 0
  · rw [if_pos hr, if_pos hr]; dsimp only; rw [if_pos rfl]
  · rw [if_neg hr, if_neg hr]; dsimp only; rw [if_neg (by decide)]
theorem z_pl_le (wo : W_O e a) (wl : W_L N a) (ho : o < 20) (hf : a.1 2 o < 6) : z_pl a o ≤ 64 := by
  unfold z_pl
  have h1 := (wo o ho).2.2.2.2.2.2
  have h2 := wl.2.2.1 _ hf
  split <;> omega
theorem c_hindW (h : RC e a M st) (wo : W_O e a) (wl : W_L N a) (ho : o < 20) (hk : 0 < a.1 1 o) {m : Nat} (hm : m ≤ 8) :
    f_D_hindranceToWrite (some o) (Int32.ofNat m) st = some (if a.2.1 2 o &&& 2 = 0 then -1 else if a.1 1 o = 2 ∧ z_o a 1 (a.1 2 o) = 0 then -5 else if z_w a o false (Int32.ofNat m) = true then -6 else if a.1 1 o = 3 ∧ 64 < z_pl a o + m then -7 else 0) := by
  unfold f_D_hindranceToWrite f_O_has
  rcases c_kind h wo ho hk with ⟨hc, hf, h3, hr, p3, p4⟩ | ⟨hc, hf, h3, hr, p3, p4⟩ | ⟨hc, hf, h3, p3, p4⟩ | ⟨hc, h3, hr, p3, p4⟩
  · simp only [h3, hr, b_12, if_true]
  · have l1 := (wl.2.1 _ hf).1
    have l2 := z_o_le a 1 (a.1 2 o)
    have e1 := n_e0 (a := z_o a 1 (a.1 2 o)) (by omega)
    have e2 : (Int32.ofNat (a.1 4 (a.1 2 o) + m) ≤ 32) ↔ a.1 4 (a.1 2 o) + m ≤ 32 := n_le (b := 32) (by omega) (by omega)
    simp only [h3, hr, b_22, if_false, i_10, p3, z_w_2 hm l1 hc, h.1.2.2.2.2.2.2.1 _ hf, (h.2.2.2.2.2.1.1 _ hf).1, (h.2.2.2.2.1 _ hf).1, n_ad, e1, e2, hc]
    by_cases h5 : z_o a 1 (a.1 2 o) = 0 <;> by_cases h6 : a.1 4 (a.1 2 o) + m ≤ 32 <;> simp [h5, h6, Nat.pos_iff_ne_zero]
  · have l1 := z_pl_le wo wl ho hf
    have e2 : (Int32.ofNat (z_pl a o + m) ≤ 64) ↔ z_pl a o + m ≤ 64 := n_le (b := 64) (by omega) (by omega)
    simp only [h3, p3, p4, z_w_3 hc, c_place h ho hk hf, n_ad, e2, hc]
    by_cases hr : a.2.1 2 o &&& 2 = 0 <;> by_cases h6 : z_pl a o + m ≤ 64 <;> simp [hr, h6]
  · simp only [h3, hr, b_32, if_false, i_10, p3, p4, z_w_4w hc, hc]
    simp
theorem c_mustWait (h : RC z_0 a M st) (wd : W_D a) (wo : W_O z_0 a) (wl : W_L N a) (wp : W_P a) (hi : i < 8) (hw : 2 ≤ a.1 0 i) : f_D_mustWait 0 (some i) st = some (if z_mw a i = true then 1 else 0) := by
  obtain ⟨h3, _, hx⟩ := wp i hi
  obtain ⟨d, o, hd, ht, hs, m, hm, hn⟩ := hx hw
  have ho := wd i hi d hd o hs
  have hk : 0 < a.1 1 o := (wo o ho).1.mpr (by have := z_h_po hi hd hs; omega)
  obtain ⟨q1, q2, q3⟩ := (h.2.1 i hi).2 (by omega)
  have hz : z_mw a i = z_w a o (decide (a.1 0 i = 2)) (Int32.ofNat m) := by
    unfold z_mw z_t; rw [ht, hn, n_to (by omega), hs]; rfl
  have e1 := n_e2 (a := a.1 0 i) (by omega)
  unfold f_D_mustWait
  simp only [q1, ht, c_openingAt h hi, z_d_of hd, hs, (h.2.1 i hi).1, q2, hn, hz, c_hindR h wo wl ho hk, c_hindW h wo wl ho hk hm, e1]
  by_cases h2 : a.1 0 i = 2
  · simp only [h2, if_true, decide_true]
    rcases c_kind h wo ho hk with ⟨hc, hf, h3, hr, p3, p4⟩ | ⟨hc, hf, h3, hr, p3, p4⟩ | ⟨hc, hf, h3, p3, p4⟩ | ⟨hc, h3, hr, p3, p4⟩
    · simp only [hr, b_11, if_false]
      by_cases h5 : z_w a o true (Int32.ofNat m) = true <;> simp [h5, i_06]
    · simp [hr, b_21, z_w_2r hc, i_16]
    · simp only [z_w_3 hc]
      by_cases hr : a.2.1 2 o &&& 1 = 0 <;> simp [hr, i_16, i_06]
    · simp only [hr, b_31, if_false]
      by_cases h5 : z_w a o true (Int32.ofNat m) = true <;> simp [h5, i_06]
  · simp only [h2, if_false, decide_false]
    rcases c_kind h wo ho hk with ⟨hc, hf, h3, hr, p3, p4⟩ | ⟨hc, hf, h3, hr, p3, p4⟩ | ⟨hc, hf, h3, p3, p4⟩ | ⟨hc, h3, hr, p3, p4⟩
    · simp [hr, b_12, z_w_1w hc, i_16]
    · simp only [hr, b_22, if_false, z_w_2 hm (wl.2.1 _ hf).1 hc, hc]
      by_cases h5 : z_o a 1 (a.1 2 o) = 0 <;> by_cases h6 : a.1 4 (a.1 2 o) + m ≤ 32 <;> simp [h5, h6, i_56, i_06, Nat.pos_iff_ne_zero]
    · simp only [z_w_3 hc, hc]
      by_cases hr : a.2.1 2 o &&& 2 = 0 <;> by_cases h6 : z_pl a o + m ≤ 64 <;> simp [hr, h6, i_16, i_06]
      · rw [if_neg (by omega)]; simp [i_06]
      · rw [if_pos (by omega)]; simp [i_76]
    · simp [hr, b_32, z_w_4w hc, hc, i_06]
theorem z_rd_N {f t : Nat} : (z_rd a i).1 f t = if f = 0 ∧ t = i then 1 else a.1 f t := rfl
theorem z_rd_I {f t : Nat} : (z_rd a i).2.1 f t = if f = 1 ∧ t = i then 0 else if f = 0 ∧ t = i then -1 else a.2.1 f t := rfl
theorem z_u1 {α : Type} {f : Nat → Nat → α} {i k : Nat} {v : α} {b c : Nat} (h : b ≠ i) : z_u f i k v b c = f b c := if_neg (fun z => h z.1)
theorem c_rd (h : RC e a M st) (hl : 0 < a.1 0 i) : RC e (z_rd a i) M (xsI (xsI (xsI st 1 i 1 1) 1 i 2 (-1)) 1 i 3 0) := by
  refine ⟨h.1, ?_, h.2.2.1, ?_, ?_, ?_, ?_, ?_, ?_⟩
  · rw [u_Ie, u_Ie, u_Ie]
    intro t ht
    by_cases hti : t = i
    · subst hti
      have q0 : (z_rd a t).1 0 t = 1 := by rw [z_rd_N, if_pos ⟨rfl, rfl⟩]
      have q1 : (z_rd a t).2.1 0 t = -1 := by rw [z_rd_I, if_neg (by omega), if_pos ⟨rfl, rfl⟩]
      have q2 : (z_rd a t).2.1 1 t = 0 := by rw [z_rd_I, if_pos ⟨rfl, rfl⟩]
      rw [q0, q1, q2]
      refine ⟨?_, fun _ => ⟨?_, ?_, ?_⟩⟩
      · rw [z_un (by omega), z_un (by omega), z_ue]; rfl
      · rw [z_un (by omega), z_ue]
      · rw [z_ue]
      · exact ((h.2.1 t ht).2 hl).2.2
    · have q0 : (z_rd a i).1 0 t = a.1 0 t := by rw [z_rd_N, if_neg (fun z => hti z.2)]
      have q1 : (z_rd a i).2.1 0 t = a.2.1 0 t := by rw [z_rd_I, if_neg (fun z => hti z.2), if_neg (fun z => hti z.2)]
      have q2 : (z_rd a i).2.1 1 t = a.2.1 1 t := by rw [z_rd_I, if_neg (fun z => hti z.2), if_neg (fun z => hti z.2)]
      rw [q0, q1, q2]
      simp only [z_u1 hti]
      exact h.2.1 t ht
  · rw [u_I (by omega), u_I (by omega), u_I (by omega)]; exact h.2.2.2.1
  · rw [u_I (by omega), u_I (by omega), u_I (by omega)]; exact h.2.2.2.2.1
  · rw [u_I (by omega), u_I (by omega), u_I (by omega), u_I (by omega), u_I (by omega), u_I (by omega)]; exact h.2.2.2.2.2.1
  · rw [u_I (by omega), u_I (by omega), u_I (by omega), u_I (by omega), u_I (by omega), u_I (by omega)]; exact h.2.2.2.2.2.2.1
  · rw [u_I (by omega), u_I (by omega), u_I (by omega)]; exact h.2.2.2.2.2.2.2.1
  · intro q hq; rw [u_I (by omega), u_I (by omega), u_I (by omega)]; exact h.2.2.2.2.2.2.2.2 q hq
end
section
variable {e : Nat → Nat} {a : AS} {M st : XS} {i d o N : Nat}
theorem W_P_rd (wp : W_P a) : W_P (z_rd a i) := by
  intro t ht
  by_cases hti : t = i
  · subst hti
    have q0 : (z_rd a t).1 0 t = 1 := by rw [z_rd_N, if_pos ⟨rfl, rfl⟩]
    rw [q0]
    exact ⟨by omega, fun z => by omega, fun z => by omega⟩
  · have q0 : (z_rd a i).1 0 t = a.1 0 t := by rw [z_rd_N, if_neg (fun z => hti z.2)]
    have q1 : (z_rd a i).2.1 0 t = a.2.1 0 t := by rw [z_rd_I, if_neg (fun z => hti z.2), if_neg (fun z => hti z.2)]
    have q2 : (z_rd a i).2.1 1 t = a.2.1 1 t := by rw [z_rd_I, if_neg (fun z => hti z.2), if_neg (fun z => hti z.2)]
    rw [q0, q1, q2]
    exact wp t ht
theorem z_mw_rd {t : Nat} (hti : t ≠ i) : z_mw (z_rd a i) t = z_mw a t := by
  have q0 : (z_rd a i).1 0 t = a.1 0 t := by rw [z_rd_N, if_neg (fun z => hti z.2)]
  have q1 : (z_rd a i).2.1 0 t = a.2.1 0 t := by rw [z_rd_I, if_neg (fun z => hti z.2), if_neg (fun z => hti z.2)]
  have q2 : (z_rd a i).2.1 1 t = a.2.1 1 t := by rw [z_rd_I, if_neg (fun z => hti z.2), if_neg (fun z => hti z.2)]
  unfold z_mw z_t
  rw [q0, q1, q2]
  rfl
theorem z_k_ww (k : Nat) : ∀ i a, (∀ j, j < i → 2 ≤ a.1 0 j → z_mw a j = true) → ∀ j, j < i + k → 2 ≤ (z_k k i a).2.1 0 j → z_mw (z_k k i a).2 j = true := by
  induction k with
  | zero => intro i a h j hj h2; exact h j (by omega) h2
  | succ k ih =>
    intro i a h j hj
    unfold z_k
    by_cases hc : 2 ≤ a.1 0 i ∧ z_mw a i = false
    · rw [if_pos hc]
      refine ih (i + 1) (z_rd a i) (fun j hj h2 => ?_) j (by omega)
      by_cases hji : j = i
      · subst hji
        have q0 : (z_rd a j).1 0 j = 1 := by rw [z_rd_N, if_pos ⟨rfl, rfl⟩]
        omega
      · have q0 : (z_rd a i).1 0 j = a.1 0 j := by rw [z_rd_N, if_neg (fun z => hji z.2)]
        rw [z_mw_rd hji]
        exact h j (by omega) (by omega)
    · rw [if_neg hc]
      refine ih (i + 1) a (fun j hj h2 => ?_) j (by omega)
      by_cases hji : j = i
      · subst hji
        cases hm : z_mw a j with
        | true => rfl
        | false => exact absurd ⟨h2, hm⟩ hc
      · exact h j (by omega) h2
theorem z_k_id (k : Nat) : ∀ i, (∀ j, i ≤ j → j < i + k → 2 ≤ a.1 0 j → z_mw a j = true) → z_k k i a = (0, a) := by
  induction k with
  | zero => intro i _; rfl
  | succ k ih =>
    intro i h
    unfold z_k
    rw [if_neg (fun z => by have := h i (by omega) (by omega) z.1; rw [this] at z; exact nomatch z.2)]
    exact ih (i + 1) (fun j h1 h2 => h j (by omega) (by omega))
theorem z_k_in (k : Nat) : ∀ i a, i + k ≤ 8 → W_D a → W_O z_0 a → W_L N a → W_P a → W_D (z_k k i a).2 ∧ W_O z_0 (z_k k i a).2 ∧ W_L N (z_k k i a).2 ∧ W_P (z_k k i a).2 := by
  induction k with
  | zero => intro i a _ wd wo wl wp; exact ⟨wd, wo, wl, wp⟩
  | succ k ih =>
    intro i a hk wd wo wl wp
    unfold z_k
    by_cases hc : 2 ≤ a.1 0 i ∧ z_mw a i = false
    · rw [if_pos hc]; exact ih (i + 1) (z_rd a i) (by omega) wd wo wl (W_P_rd wp)
    · rw [if_neg hc]; exact ih (i + 1) a (by omega) wd wo wl wp
theorem c_wakeAll_13 (k : Nat) : ∀ i c n a st, i + k = 8 → k < n → RC z_0 a M st → W_D a → W_O z_0 a → W_L N a → W_P a → ∃ st', f_D_wakeAll_13 n 0 (Int32.ofNat c) (some 0) 8 (Int32.ofNat i) st = some (Int32.ofNat (c + (z_k k i a).1), st') ∧ RC z_0 (z_k k i a).2 M st' := by
  induction k with
  | zero =>
    intro i c n a st hi hn h _ _ _ _
    obtain ⟨n, rfl⟩ : ∃ m, n = m + 1 := ⟨n - 1, by omega⟩
    have : i = 8 := by omega
    subst this
    exact ⟨st, rfl, h⟩
  | succ k ih =>
    intro i c n a st hi hn h wd wo wl wp
    obtain ⟨n, rfl⟩ : ∃ m, n = m + 1 := ⟨n - 1, by omega⟩
    have h1 : ¬ ((8 : Int32) ≤ Int32.ofNat i) := n_ge (k := 8) (by omega) (by omega)
    have h8 := wp i (by omega)
    unfold f_D_wakeAll_13 f_P_isWaiting
    rw [if_neg h1]
    dsimp only
    rw [if_pos (n_in (by omega) (by omega)), n_to (by omega), h.1.2.1 i (by omega)]
    dsimp only
    rw [(h.2.1 i (by omega)).1, n_su]
    unfold z_k
    by_cases hw : 2 ≤ a.1 0 i
    · have e1 : (if Int32.ofNat (a.1 0 i) = 2 then some (1 : Int32) else if Int32.ofNat (a.1 0 i) = 3 then some 1 else some 0) = some 1 := by
        by_cases h2 : a.1 0 i = 2
        · rw [if_pos ((n_e2 (by omega)).mpr h2)]
        · rw [if_neg (fun z => h2 ((n_e2 (by omega)).mp z)), if_pos ((n_e3 (by omega)).mpr (by omega))]
      rw [e1]
      dsimp only
      rw [if_neg (by decide), c_mustWait h wd wo wl wp (by omega) hw]
      dsimp only
      cases hm : z_mw a i with
      | true =>
        rw [if_pos rfl, if_neg (by decide), if_neg (fun z => nomatch z.2)]
        exact ih (i + 1) c n a st (by omega) (by omega) h wd wo wl wp
      | false =>
        rw [if_neg (c := false = true) (by decide), if_pos rfl, if_pos ⟨hw, rfl⟩]
        unfold f_P_beReady
        dsimp only
        rw [n_su]
        obtain ⟨st', g1, g2⟩ := ih (i + 1) (c + 1) n (z_rd a i) _ (by omega) (by omega) (c_rd h (by omega)) wd wo wl (W_P_rd wp)
        exact ⟨st', by rw [g1]; congr 2; congr 1; omega, g2⟩
    · have e1 : (if Int32.ofNat (a.1 0 i) = 2 then some (1 : Int32) else if Int32.ofNat (a.1 0 i) = 3 then some 1 else some 0) = some 0 := by
        rw [if_neg (fun z => hw (by have := (n_e2 (by omega)).mp z; omega)), if_neg (fun z => hw (by have := (n_e3 (by omega)).mp z; omega))]
      rw [e1]
      dsimp only
      rw [if_pos rfl, if_neg (fun z => hw z.1)]
      exact ih (i + 1) c n a st (by omega) (by omega) h wd wo wl wp
theorem c_wakeAll (h : RC z_0 a M st) (wd : W_D a) (wo : W_O z_0 a) (wl : W_L N a) (wp : W_P a) : ∃ st', f_D_wakeAll 0 st = some (Int32.ofNat (z_k 8 0 a).1, st') ∧ RC z_0 (z_k 8 0 a).2 M st' := by
  unfold f_D_wakeAll
  rw [h.1.1.1]
  obtain ⟨st', g1, g2⟩ := c_wakeAll_13 (M := M) (N := N) 8 0 0 100 a st (by omega) (by omega) h wd wo wl wp
  exact ⟨st', by rw [show 0 + (z_k 8 0 a).1 = (z_k 8 0 a).1 by omega] at g1; exact g1, g2⟩
end
