/-! THE CLASS WRITES: one field, one place of the picture -/
def z_bg (a : AS) (i : Nat) : AS := aJ (z_rd a i) i 0
def z_gn (a : AS) (i : Nat) : AS := aJ (aI (aI (aN a 0 i 0) 0 i (-1)) 1 i 0) i 0
def z_wt (a : AS) (i l : Nat) (d n : Int32) : AS := aI (aI (aN a 0 i l) 0 i d) 1 i n
def z_nw (a : AS) (o s k : Nat) (r : Int32) : AS := aI (aN (aN (aN a 1 o s) 2 o k) 3 o 0) 2 o r
section
variable {e : Nat → Nat} {a : AS} {M st : XS} {i d o N : Nat}
theorem RC_p {b : AS} {s' : XS} (h : RC e a M st) (hp : c_P b (s'.1 1) (s'.2.1 1)) (hr : s'.2.2.1 = st.2.2.1) (h1 : ∀ q, q ≠ 1 → s'.1 q = st.1 q ∧ s'.2.1 q = st.2.1 q) (hb : b.2.2.1.2 = a.2.2.1.2) (hd : b.2.2.2 = a.2.2.2)
    (hn : ∀ f t, f ≠ 0 → b.1 f t = a.1 f t) (hi : ∀ f t, 2 ≤ f → b.2.1 f t = a.2.1 f t) : RC e b M s' := by
  have hz : ∀ s k, z_o b s k = z_o a s k := fun s k => z_o_co (fun t _ => ⟨hn 1 t (by omega), hn 2 t (by omega)⟩) s k
  have hh : ∀ t, z_h b t = z_h a t := fun t => z_h_1 hd t
  have hg : ∀ w r, c_G a w r (st.1 5) (st.1 12) → c_G b w r (st.1 5) (st.1 12) := fun w r => c_G_ln (hn 4 w (by omega)) (fun j => by rw [hb])
  refine ⟨by rw [hr]; exact h.1, hp, ?_, ?_, ?_, ?_, ?_, ?_, ?_⟩
  · rw [hr]; intro p hp q hq; rw [hd]; exact h.2.2.1 p hp q hq
  · rw [hr, (h1 2 (by omega)).1]
    intro t ht
    rw [hh, hn 1 t (by omega), hn 2 t (by omega), hn 3 t (by omega), hi 2 t (by omega)]
    exact h.2.2.2.1 t ht
  · rw [(h1 3 (by omega)).1]; intro k hk; rw [hz, hz]; exact h.2.2.2.2.1 k hk
  · rw [(h1 5 (by omega)).1, (h1 12 (by omega)).1]
    exact ⟨fun k hk => hg _ _ (h.2.2.2.2.2.1.1 k hk), hg _ _ h.2.2.2.2.2.1.2.1, hg _ _ h.2.2.2.2.2.1.2.2⟩
  · rw [(h1 4 (by omega)).1, (h1 11 (by omega)).1]
    intro f hf
    rw [hn 4 _ (by omega), hi 3 f (by omega), hz, hb]
    exact h.2.2.2.2.2.2.1 f hf
  · rw [(h1 0 (by omega)).1]; show _ = Int32.ofNat (b.1 5 0); rw [hn 5 0 (by omega)]; exact h.2.2.2.2.2.2.2.1
  · intro q hq; rw [hr, (h1 q (by omega)).1, (h1 q (by omega)).2]; exact h.2.2.2.2.2.2.2.2 q hq
theorem z_u2 {α : Type} {f : Nat → Nat → α} {i k : Nat} {v : α} {b c : Nat} (h : c ≠ k) : z_u f i k v b c = f b c := if_neg (fun z => h z.2)
theorem aN_of {f t v g x : Nat} : (aN a f t v).1 g x = if g = f ∧ x = t then v else a.1 g x := rfl
theorem aI_of {f t g x : Nat} {v : Int32} : (aI a f t v).2.1 g x = if g = f ∧ x = t then v else a.2.1 g x := rfl
theorem c_begin (h : RC e a M st) : ∃ s', f_P_begin i st = some ((), s') ∧ RC e (z_bg a i) M s' := by
  unfold f_P_begin f_P_beReady
  refine ⟨_, rfl, RC_p h ?_ rfl ?_ rfl rfl (fun f t hf => by show (if f = 0 ∧ t = i then 1 else a.1 f t) = _; rw [if_neg (by omega)]) (fun f t hf => by show (if f = 1 ∧ t = i then 0 else if f = 0 ∧ t = i then -1 else a.2.1 f t) = _; rw [if_neg (by omega), if_neg (by omega)])⟩
  · rw [u_IJ, u_Je, u_Ie, u_Ie, u_Ie]
    intro t ht
    by_cases hti : t = i
    · subst hti
      refine ⟨?_, fun _ => ⟨?_, ?_, ?_⟩⟩
      · rw [z_un (by omega), z_un (by omega), z_ue]
        show _ = Int32.ofNat (if 0 = 0 ∧ t = t then 1 else a.1 0 t)
        rw [if_pos ⟨rfl, rfl⟩]; rfl
      · rw [z_un (by omega), z_ue]
        show _ = if 0 = 1 ∧ t = t then 0 else if 0 = 0 ∧ t = t then -1 else a.2.1 0 t
        rw [if_neg (by omega), if_pos ⟨rfl, rfl⟩]
      · rw [z_ue]
        show _ = if 1 = 1 ∧ t = t then 0 else if 1 = 0 ∧ t = t then -1 else a.2.1 1 t
        rw [if_pos ⟨rfl, rfl⟩]
      · rw [z_ue]
        show _ = if t = t then 0 else a.2.2.1.1 t
        rw [if_pos rfl]
    · simp only [z_u1 hti, u_JI]
      have := h.2.1 t ht
      show _ = Int32.ofNat (if 0 = 0 ∧ t = i then 1 else a.1 0 t) ∧ (0 < (if 0 = 0 ∧ t = i then 1 else a.1 0 t) → _ = (if 0 = 1 ∧ t = i then 0 else if 0 = 0 ∧ t = i then -1 else a.2.1 0 t) ∧ _ = (if 1 = 1 ∧ t = i then 0 else if 1 = 0 ∧ t = i then -1 else a.2.1 1 t) ∧ _ = if t = i then 0 else a.2.2.1.1 t)
      simp only [hti, and_false, if_false]
      exact this
  · intro q hq
    exact ⟨by rw [u_IJ, u_I hq, u_I hq, u_I hq], by rw [u_J hq, u_JI, u_JI, u_JI]⟩
theorem c_gone (h : RC e a M st) : RC e (z_gn a i) M (xsI st 1 i 1 0) := by
  refine RC_p h ?_ rfl ?_ rfl rfl (fun f t hf => by show (if f = 0 ∧ t = i then 0 else a.1 f t) = _; rw [if_neg (by omega)]) (fun f t hf => by show (if f = 1 ∧ t = i then 0 else if f = 0 ∧ t = i then -1 else a.2.1 f t) = _; rw [if_neg (by omega), if_neg (by omega)])
  · rw [u_Ie, u_JI]
    intro t ht
    show _ = Int32.ofNat (if 0 = 0 ∧ t = i then 0 else a.1 0 t) ∧ (0 < (if 0 = 0 ∧ t = i then 0 else a.1 0 t) → _ = (if 0 = 1 ∧ t = i then 0 else if 0 = 0 ∧ t = i then -1 else a.2.1 0 t) ∧ _ = (if 1 = 1 ∧ t = i then 0 else if 1 = 0 ∧ t = i then -1 else a.2.1 1 t) ∧ _ = if t = i then 0 else a.2.2.1.1 t)
    by_cases hti : t = i
    · subst hti
      simp only [and_true, if_true, z_ue]
      exact ⟨rfl, fun z => absurd z (Nat.lt_irrefl 0)⟩
    · simp only [z_u1 hti, hti, and_false, if_false]
      exact h.2.1 t ht
  · intro q hq; exact ⟨u_I hq, rfl⟩
theorem c_wait {l : Nat} {x n : Int32} (h : RC e a M st) (hl : 0 < a.1 0 i) : RC e (z_wt a i l x n) M (xsI (xsI (xsI st 1 i 1 (Int32.ofNat l)) 1 i 2 x) 1 i 3 n) := by
  refine RC_p h ?_ rfl ?_ rfl rfl (fun f t hf => by show (if f = 0 ∧ t = i then l else a.1 f t) = _; rw [if_neg (by omega)]) (fun f t hf => by show (if f = 1 ∧ t = i then n else if f = 0 ∧ t = i then x else a.2.1 f t) = _; rw [if_neg (by omega), if_neg (by omega)])
  · rw [u_Ie, u_Ie, u_Ie, u_JI, u_JI, u_JI]
    intro t ht
    show _ = Int32.ofNat (if 0 = 0 ∧ t = i then l else a.1 0 t) ∧ (0 < (if 0 = 0 ∧ t = i then l else a.1 0 t) → _ = (if 0 = 1 ∧ t = i then n else if 0 = 0 ∧ t = i then x else a.2.1 0 t) ∧ _ = (if 1 = 1 ∧ t = i then n else if 1 = 0 ∧ t = i then x else a.2.1 1 t) ∧ _ = a.2.2.1.1 t)
    have := h.2.1 t ht
    by_cases hti : t = i
    · subst hti
      refine ⟨?_, fun _ => ⟨?_, ?_, (this.2 hl).2.2⟩⟩
      · rw [z_un (by omega), z_un (by omega), z_ue, if_pos ⟨rfl, rfl⟩]
      · rw [z_un (by omega), z_ue, if_neg (by omega), if_pos ⟨rfl, rfl⟩]
      · rw [z_ue, if_pos ⟨rfl, rfl⟩]
    · simp only [z_u1 hti, hti, and_false, if_false]
      exact this
  · intro q hq; exact ⟨by rw [u_I hq, u_I hq, u_I hq], rfl⟩
theorem c_giv {v : Int64} (h : RC e a M st) : RC e (aJ a i v) M (xsJ st 1 i 4 v) := by
  refine RC_p h ?_ rfl ?_ rfl rfl (fun _ _ _ => rfl) (fun _ _ _ => rfl)
  · rw [u_Je, u_IJ]
    intro t ht
    have := h.2.1 t ht
    refine ⟨this.1, fun hl => ⟨(this.2 hl).1, (this.2 hl).2.1, ?_⟩⟩
    show _ = if t = i then v else a.2.2.1.1 t
    by_cases hti : t = i
    · subst hti; rw [z_ue, if_pos rfl]
    · rw [z_u1 hti, if_neg hti]; exact (this.2 hl).2.2
  · intro q hq; exact ⟨rfl, u_J hq⟩
end
