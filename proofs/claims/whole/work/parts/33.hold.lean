/-! HOLDING AND LETTING GO -/
/-- one holder more of o, ahead of its descriptor -/
def z_1 (e : Nat → Nat) (o : Nat) : Nat → Nat := fun x => e x + (if x = o then 1 else 0)
theorem z_c_ur {P Q : Nat → Bool} {j : Nat} (k : Nat) : ∀ i, i ≤ j → j < i + k → (∀ t, i ≤ t → t < i + k → t ≠ j → P t = Q t) → z_c Q i k + (if P j then 1 else 0) = z_c P i k + (if Q j then 1 else 0) := by
  induction k with
  | zero => intro i h1 h2 _; omega
  | succ k ih =>
    intro i h1 h2 h
    rw [z_c_s, z_c_s]
    by_cases hij : i = j
    · subst hij
      rw [z_c_co (P := P) (Q := Q) k (i + 1) (fun t h3 h4 => h t (by omega) (by omega) (by omega))]
      omega
    · have h4 := ih (i + 1) (by omega) (by omega) (fun t h5 h6 h7 => h t (by omega) (by omega) h7)
      rw [h i (by omega) (by omega) hij]; omega
theorem z_ite {c : Prop} [Decidable c] : (if decide c = true then 1 else 0 : Nat) = if c then 1 else 0 := by
  by_cases h : c
  · rw [if_pos h, if_pos (decide_eq_true h)]
  · rw [if_neg h, if_neg (by rw [decide_eq_true_eq]; exact h)]
theorem z_h_D (a : AS) {i d : Nat} (hi : i < 8) (hd : d < 8) (v : Option Nat) (o : Nat) : z_h (aD a i d v) o + (if a.2.2.2 i d = some o then 1 else 0) = z_h a o + (if v = some o then 1 else 0) := by
  have h := z_c_ur (P := fun k => decide (a.2.2.2 (k / 8) (k % 8) = some o)) (Q := fun k => decide ((aD a i d v).2.2.2 (k / 8) (k % 8) = some o)) (j := 8 * i + d) 64 0 (by omega) (by omega) (fun t _ _ h3 => by
    have h4 : ¬ (t / 8 = i ∧ t % 8 = d) := by omega
    show decide (a.2.2.2 (t / 8) (t % 8) = some o) = decide ((if t / 8 = i ∧ t % 8 = d then v else a.2.2.2 (t / 8) (t % 8)) = some o)
    rw [if_neg h4])
  have h1 : (8 * i + d) / 8 = i := by omega
  have h2 : (8 * i + d) % 8 = d := by omega
  have h3 : (aD a i d v).2.2.2 i d = v := by show (if i = i ∧ d = d then v else _) = v; rw [if_pos ⟨rfl, rfl⟩]
  simp only [h1, h2, h3, z_ite] at h
  exact h
theorem z_o_U {a b : AS} {o : Nat} (ho : o < 20) (hab : ∀ t, t < 20 → t ≠ o → a.1 1 t = b.1 1 t ∧ a.1 2 t = b.1 2 t) (s k : Nat) :
    z_o b s k + (if a.1 1 o = s ∧ a.1 2 o = k then 1 else 0) = z_o a s k + (if b.1 1 o = s ∧ b.1 2 o = k then 1 else 0) := by
  have h := z_c_ur (P := fun t => decide (a.1 1 t = s ∧ a.1 2 t = k)) (Q := fun t => decide (b.1 1 t = s ∧ b.1 2 t = k)) (j := o) 20 0 (by omega) (by omega) (fun t _ h2 h3 => by
    have h4 := hab t (by omega) h3
    simp only [h4.1, h4.2])
  simp only [z_ite] at h
  exact h
theorem z_o_co {a b : AS} (hab : ∀ t, t < 20 → a.1 1 t = b.1 1 t ∧ a.1 2 t = b.1 2 t) (s k : Nat) : z_o a s k = z_o b s k :=
  z_c_co 20 0 (fun t _ h2 => by have h4 := hab t (by omega); simp only [h4.1, h4.2])
theorem z_h_po {a : AS} {i d o : Nat} (hi : i < 8) (hd : d < 8) (h : a.2.2.2 i d = some o) : 0 < z_h a o := by
  refine (z_c_ps 64 0).mpr ⟨8 * i + d, by omega, by omega, ?_⟩
  have h1 : (8 * i + d) / 8 = i := by omega
  have h2 : (8 * i + d) % 8 = d := by omega
  simp only [h1, h2, h, decide_true]
theorem z_s_kd {e : Nat → Nat} {a : AS} {o : Nat} (wo : W_O (z_1 e o) a) {t : Nat} (ht : t < 20) : (z_s e a).1 1 t = if t = o ∧ z_h a o + e o = 0 then 0 else a.1 1 t := by
  have h := (wo t ht).1
  show (if 0 < z_h a t + e t then a.1 1 t else 0) = _
  unfold z_1 at h
  by_cases hto : t = o
  · subst hto
    by_cases h0 : z_h a t + e t = 0
    · rw [if_neg (by omega), if_pos ⟨rfl, h0⟩]
    · rw [if_pos (by omega), if_neg (fun z => h0 z.2)]
  · rw [if_neg hto] at h
    rw [if_neg (c := t = o ∧ _) (fun z => hto z.1)]
    by_cases h0 : 0 < z_h a t + e t
    · rw [if_pos h0]
    · rw [if_neg h0]; have : ¬ 0 < a.1 1 t := fun z => h0 (by have := h.mp z; omega)
      omega
theorem z_s_tg {e : Nat → Nat} {a : AS} {t : Nat} : (z_s e a).1 2 t = a.1 2 t := rfl
theorem z_s_o {e : Nat → Nat} {a : AS} {s k : Nat} : z_o (z_s e a) s k = z_o (z_sk e a) s k := rfl
theorem z_s_ln {e : Nat → Nat} {a : AS} {k : Nat} (hk : k < 6) : (z_s e a).1 4 k = if z_o (z_s e a) 1 k + z_o (z_s e a) 2 k = 0 then 0 else a.1 4 k := by
  show (if 4 = 4 ∧ k < 6 ∧ z_o (z_sk e a) 1 k + z_o (z_sk e a) 2 k = 0 then 0 else a.1 4 k) = _
  rw [z_s_o, z_s_o]
  by_cases h : z_o (z_sk e a) 1 k + z_o (z_sk e a) 2 k = 0
  · rw [if_pos ⟨rfl, hk, h⟩, if_pos h]
  · rw [if_neg (fun z => h z.2.2), if_neg h]
theorem z_s_l2 {e : Nat → Nat} {a : AS} {r : Nat} (hk : ¬ r < 6) : (z_s e a).1 4 r = a.1 4 r := by
  show (if 4 = 4 ∧ r < 6 ∧ z_o (z_sk e a) 1 r + z_o (z_sk e a) 2 r = 0 then 0 else a.1 4 r) = _
  rw [if_neg (fun z => hk z.2.1)]
/-- nothing goes: the opening has other holders -/
theorem z_s_kp {e : Nat → Nat} {a : AS} {o : Nat} (wo : W_O (z_1 e o) a) (h0 : 0 < z_h a o + e o) (s k : Nat) : z_o (z_s e a) s k = z_o a s k :=
  z_o_co (a := z_s e a) (b := a) (fun t ht => And.intro (by rw [z_s_kd wo ht, if_neg (c := t = o ∧ _) (fun z => by omega)]) z_s_tg) s k
/-- the opening goes -/
theorem z_s_go {e : Nat → Nat} {a : AS} {o : Nat} (wo : W_O (z_1 e o) a) (ho : o < 20) (h0 : z_h a o + e o = 0) {s : Nat} (hs : 0 < s) (k : Nat) : z_o (z_s e a) s k + (if a.1 1 o = s ∧ a.1 2 o = k then 1 else 0) = z_o a s k := by
  have h := z_o_U (a := a) (b := z_s e a) ho (fun t ht h3 => And.intro (by rw [z_s_kd wo ht, if_neg (c := t = o ∧ _) (fun z => h3 z.1)]) z_s_tg.symm) s k
  rw [z_s_kd wo ho, if_pos (c := o = o ∧ _) ⟨rfl, h0⟩] at h
  rw [if_neg (c := 0 = s ∧ _) (fun z => by omega), Nat.add_zero] at h
  exact h
theorem u_I {st : XS} {q i k : Nat} {v : Int32} {t : Nat} (h : t ≠ q) : (xsI st q i k v).1 t = st.1 t := by
  funext b c; show (if t = q ∧ b = i ∧ c = k then v else st.1 t b c) = _; rw [if_neg (fun z => h z.1)]
theorem u_Ie {st : XS} {q i k : Nat} {v : Int32} : (xsI st q i k v).1 q = z_u (st.1 q) i k v := by
  funext b c
  show (if q = q ∧ b = i ∧ c = k then v else st.1 q b c) = if b = i ∧ c = k then v else st.1 q b c
  by_cases h : b = i ∧ c = k
  · rw [if_pos ⟨rfl, h⟩, if_pos h]
  · rw [if_neg (fun z => h z.2), if_neg h]
theorem u_R {st : XS} {q i k : Nat} {v : Option Nat} {t : Nat} (h : t ≠ q) : (xsR st q i k v).2.2.1 t = st.2.2.1 t := by
  funext b c; show (if t = q ∧ b = i ∧ c = k then v else st.2.2.1 t b c) = _; rw [if_neg (fun z => h z.1)]
theorem u_Re {st : XS} {q i k : Nat} {v : Option Nat} : (xsR st q i k v).2.2.1 q = z_u (st.2.2.1 q) i k v := by
  funext b c
  show (if q = q ∧ b = i ∧ c = k then v else st.2.2.1 q b c) = if b = i ∧ c = k then v else st.2.2.1 q b c
  by_cases h : b = i ∧ c = k
  · rw [if_pos ⟨rfl, h⟩, if_pos h]
  · rw [if_neg (fun z => h z.2), if_neg h]
theorem u_J {st : XS} {q i k : Nat} {v : Int64} {t : Nat} (h : t ≠ q) : (xsJ st q i k v).2.1 t = st.2.1 t := by
  funext b c; show (if t = q ∧ b = i ∧ c = k then v else st.2.1 t b c) = _; rw [if_neg (fun z => h z.1)]
theorem u_Je {st : XS} {q i k : Nat} {v : Int64} : (xsJ st q i k v).2.1 q = z_u (st.2.1 q) i k v := by
  funext b c
  show (if q = q ∧ b = i ∧ c = k then v else st.2.1 q b c) = if b = i ∧ c = k then v else st.2.1 q b c
  by_cases h : b = i ∧ c = k
  · rw [if_pos ⟨rfl, h⟩, if_pos h]
  · rw [if_neg (fun z => h z.2), if_neg h]
theorem z_ue {α : Type} {f : Nat → Nat → α} {i k : Nat} {v : α} : z_u f i k v i k = v := if_pos ⟨rfl, rfl⟩
theorem z_un {α : Type} {f : Nat → Nat → α} {i k : Nat} {v : α} {b c : Nat} (h : ¬ (b = i ∧ c = k)) : z_u f i k v b c = f b c := if_neg h
