/-! THE REFERENCE WRITES -/
section
variable {c : Int32} {a b : AS} {M st s' : XS} {i d o N : Nat}
theorem RX_p (h : RX c a M st) (hp : m_P b (s'.1 33) (s'.1 34) (s'.1 35) (s'.2.1 37)) (hr : s'.2.2.1 = st.2.2.1) (h1 : ∀ q, q ≠ 33 → q ≠ 34 → q ≠ 35 → s'.1 q = st.1 q) (h2 : ∀ q, q ≠ 37 → s'.2.1 q = st.2.1 q)
    (hb : b.2.2.1.2 = a.2.2.1.2) (hd : b.2.2.2 = a.2.2.2) (hn : ∀ f t, f ≠ 0 → b.1 f t = a.1 f t) (hi : ∀ f t, 2 ≤ f → b.2.1 f t = a.2.1 f t) : RX c b M s' ∧ (m_X a (st.1 44) (st.1 45) → m_X b (s'.1 44) (s'.1 45)) := by
  have hz : ∀ s k, z_o b s k = z_o a s k := fun s k => z_o_co (fun t _ => ⟨hn 1 t (by omega), hn 2 t (by omega)⟩) s k
  refine ⟨⟨⟨by rw [hr]; exact h.1.1, hp, ?_, ?_, ?_, ?_, ?_, ?_⟩, ?_⟩, ?_⟩
  · rw [h1 36 (by omega) (by omega) (by omega)]; intro p hp q hq; rw [hd]; exact h.1.2.2.1 p hp q hq
  · rw [h1 38 (by omega) (by omega) (by omega), h1 39 (by omega) (by omega) (by omega), h1 40 (by omega) (by omega) (by omega), h1 41 (by omega) (by omega) (by omega)]
    intro t ht; rw [hn 1 t (by omega), hn 2 t (by omega), hn 3 t (by omega), hi 2 t (by omega)]; exact h.1.2.2.2.1 t ht
  · rw [h1 42 (by omega) (by omega) (by omega), h1 43 (by omega) (by omega) (by omega), h1 44 (by omega) (by omega) (by omega)]
    intro k hk; rw [hz, hz, hn 4 k (by omega), hb]; exact h.1.2.2.2.2.1 k hk
  · rw [h1 45 (by omega) (by omega) (by omega), h1 46 (by omega) (by omega) (by omega), h1 47 (by omega) (by omega) (by omega), h1 48 (by omega) (by omega) (by omega)]
    intro f hf; rw [hz, hn 4 _ (by omega), hi 3 f (by omega), hb]; exact h.1.2.2.2.2.2.1 f hf
  · rw [h1 32 (by omega) (by omega) (by omega), h1 49 (by omega) (by omega) (by omega), h1 50 (by omega) (by omega) (by omega), h2 32 (by omega)]
    unfold m_C; rw [hn 4 20 (by omega), hn 4 21 (by omega), hn 5 0 (by omega), hb]; exact h.1.2.2.2.2.2.2.1
  · intro q hq; rw [hr, h1 q (by omega) (by omega) (by omega), h2 q (by omega)]; exact h.1.2.2.2.2.2.2.2 q hq
  · rw [h1 32 (by omega) (by omega) (by omega)]; exact h.2
  · intro hx
    rw [h1 44 (by omega) (by omega) (by omega), h1 45 (by omega) (by omega) (by omega)]
    exact ⟨fun k hk => by rw [hz, hz]; exact hx.1 k hk, fun f hf => by rw [hz, hi 3 f (by omega)]; exact hx.2 f hf⟩
theorem m_P_w {l : Nat} {x n : Int32} {I33 I34 I35 : Nat → Nat → Int32} {J : Nat → Nat → Int64} (h : m_P a I33 I34 I35 J) : m_P (z_wt a i l x n) (z_u I33 0 i (Int32.ofNat l)) (z_u I34 0 i x) (z_u I35 0 i n) J := by
  intro t ht
  have := h t ht
  show _ = Int32.ofNat (if 0 = 0 ∧ t = i then l else a.1 0 t) ∧ _ = (if 0 = 1 ∧ t = i then n else if 0 = 0 ∧ t = i then x else a.2.1 0 t) ∧ _ = (if 1 = 1 ∧ t = i then n else if 1 = 0 ∧ t = i then x else a.2.1 1 t) ∧ _ = a.2.2.1.1 t
  by_cases hti : t = i
  · subst hti
    refine ⟨?_, ?_, ?_, this.2.2.2⟩
    · rw [z_ue, if_pos ⟨rfl, rfl⟩]
    · rw [z_ue, if_neg (by omega), if_pos ⟨rfl, rfl⟩]
    · rw [z_ue, if_pos ⟨rfl, rfl⟩]
  · simp only [z_u2 hti, hti, and_false, if_false]
    exact this
theorem m_P_j {v : Int64} {I33 I34 I35 : Nat → Nat → Int32} {J : Nat → Nat → Int64} (h : m_P a I33 I34 I35 J) : m_P (aJ a i v) I33 I34 I35 (z_u J 0 i v) := by
  intro t ht
  have := h t ht
  refine ⟨this.1, this.2.1, this.2.2.1, ?_⟩
  show _ = if t = i then v else a.2.2.1.1 t
  by_cases hti : t = i
  · subst hti; rw [z_ue, if_pos rfl]
  · rw [z_u2 hti, if_neg hti]; exact this.2.2.2
theorem RX_w {l : Nat} {x n : Int32} (h : RX c a M st) : RX c (z_wt a i l x n) M (xsI (xsI (xsI st 33 0 i (Int32.ofNat l)) 34 0 i x) 35 0 i n) ∧
    (m_X a (st.1 44) (st.1 45) → m_X (z_wt a i l x n) ((xsI (xsI (xsI st 33 0 i (Int32.ofNat l)) 34 0 i x) 35 0 i n).1 44) ((xsI (xsI (xsI st 33 0 i (Int32.ofNat l)) 34 0 i x) 35 0 i n).1 45)) := by
  refine RX_p h ?_ rfl (fun q h1 h2 h3 => by rw [u_I h3, u_I h2, u_I h1]) (fun q _ => rfl) rfl rfl (fun f t hf => by show (if f = 0 ∧ t = i then l else a.1 f t) = _; rw [if_neg (by omega)]) (fun f t hf => by show (if f = 1 ∧ t = i then n else if f = 0 ∧ t = i then x else a.2.1 f t) = _; rw [if_neg (by omega), if_neg (by omega)])
  rw [u_I (by omega), u_I (by omega), u_Ie, u_I (by omega), u_Ie, u_I (by omega), u_Ie, u_I (by omega), u_I (by omega), u_JI, u_JI, u_JI]
  exact m_P_w h.1.2.1
theorem RX_j {v : Int64} (h : RX c a M st) : RX c (aJ a i v) M (xsJ st 37 0 i v) ∧ (m_X a (st.1 44) (st.1 45) → m_X (aJ a i v) ((xsJ st 37 0 i v).1 44) ((xsJ st 37 0 i v).1 45)) := by
  refine RX_p h ?_ rfl (fun q h1 h2 h3 => rfl) (fun q hq => u_J hq) rfl rfl (fun f t hf => rfl) (fun f t hf => rfl)
  rw [u_Je, u_IJ]
  exact m_P_j h.1.2.1
theorem RY_w {l : Nat} {x n : Int32} (h : RY c a M st) : RY c (z_wt a i l x n) M (xsI (xsI (xsI st 33 0 i (Int32.ofNat l)) 34 0 i x) 35 0 i n) := ⟨(RX_w h.1).1, (RX_w h.1).2 h.2⟩
theorem RY_j {v : Int64} (h : RY c a M st) : RY c (aJ a i v) M (xsJ st 37 0 i v) := ⟨(RX_j h.1).1, (RX_j h.1).2 h.2⟩
theorem RX_d {v : Option Nat} (h : RX c a M st) (hi : i < 8) (hd : d < 8) : RX c (aD a i d v) M (xsI st 36 0 (8 * i + d) (z_e v)) := by
  refine ⟨⟨h.1.1, ?_, ?_, ?_, ?_, ?_, ?_, ?_⟩, ?_⟩
  · rw [u_I (by omega), u_I (by omega), u_I (by omega), u_JI]; exact h.1.2.1
  · rw [u_Ie]
    intro p hp q hq
    show _ = z_e (if p = i ∧ q = d then v else a.2.2.2 p q)
    by_cases hc : p = i ∧ q = d
    · rw [if_pos hc, hc.1, hc.2, z_ue]
    · rw [if_neg hc, z_u2 (by omega)]; exact h.1.2.2.1 p hp q hq
  · rw [u_I (by omega), u_I (by omega), u_I (by omega), u_I (by omega)]; exact h.1.2.2.2.1
  · rw [u_I (by omega), u_I (by omega), u_I (by omega)]; exact h.1.2.2.2.2.1
  · rw [u_I (by omega), u_I (by omega), u_I (by omega), u_I (by omega)]; exact h.1.2.2.2.2.2.1
  · rw [u_I (by omega), u_I (by omega), u_I (by omega), u_JI]; exact h.1.2.2.2.2.2.2.1
  · intro q hq; rw [u_I (by omega), u_JI]; exact h.1.2.2.2.2.2.2.2 q hq
  · rw [u_I (by omega)]; exact h.2
theorem RY_d {v : Option Nat} (h : RY c a M st) (hi : i < 8) (hd : d < 8) : RY c (aD a i d v) M (xsI st 36 0 (8 * i + d) (z_e v)) := ⟨RX_d h.1 hi hd, by rw [u_I (by omega), u_I (by omega)]; exact h.2⟩
theorem RX_o (h : RX c a M st) (hO : m_O b (s'.1 38) (s'.1 39) (s'.1 40) (s'.1 41)) (hs : s'.2 = st.2) (h1 : ∀ q, q < 38 ∨ 41 < q → s'.1 q = st.1 q)
    (hn : ∀ f t, f ≠ 1 → f ≠ 2 → f ≠ 3 → b.1 f t = a.1 f t) (hi : ∀ f t, f ≠ 2 → b.2.1 f t = a.2.1 f t) (hx : b.2.2 = a.2.2)
    (hI : ∀ k, k < 6 → 0 < z_o b 1 k + z_o b 2 k → st.1 44 0 k = 1 ∧ st.1 42 0 k = Int32.ofNat (a.1 4 k)) (hF : ∀ f, f < 6 → 0 < z_o b 3 f → st.1 45 0 f = 1) : RX c b M s' := by
  refine ⟨⟨by rw [hs]; exact h.1.1, ?_, ?_, hO, ?_, ?_, ?_, ?_⟩, ?_⟩
  · rw [h1 33 (by omega), h1 34 (by omega), h1 35 (by omega), hs]
    intro t ht; rw [hn 0 t (by omega) (by omega) (by omega), hi 0 t (by omega), hi 1 t (by omega), hx]; exact h.1.2.1 t ht
  · rw [h1 36 (by omega)]; intro p hp q hq; rw [hx]; exact h.1.2.2.1 p hp q hq
  · rw [h1 42 (by omega), h1 43 (by omega), h1 44 (by omega)]
    intro k hk
    have := h.1.2.2.2.2.1 k hk
    rw [hn 4 k (by omega) (by omega) (by omega), hx]
    exact ⟨this.1, hI k hk, this.2.2⟩
  · rw [h1 45 (by omega), h1 46 (by omega), h1 47 (by omega), h1 48 (by omega)]
    intro f hf
    have := h.1.2.2.2.2.2.1 f hf
    rw [hn 4 _ (by omega) (by omega) (by omega), hi 3 f (by omega), hx]
    exact ⟨this.1, fun z => z.elim (fun y => this.2.1 (Or.inl y)) (hF f hf), this.2.2⟩
  · rw [h1 32 (by omega), h1 49 (by omega), h1 50 (by omega), hs]
    unfold m_C; rw [hn 4 20 (by omega) (by omega) (by omega), hn 4 21 (by omega) (by omega) (by omega), hn 5 0 (by omega) (by omega) (by omega), hx]; exact h.1.2.2.2.2.2.2.1
  · intro q hq; rw [hs, h1 q (by omega)]; exact h.1.2.2.2.2.2.2.2 q hq
  · rw [h1 32 (by omega)]; exact h.2
theorem RY_ps {v : Nat} (h : RY c a M st) (hv : o < 20) : RY c (aN a 3 o v) M (xsI st 40 0 o (Int32.ofNat v)) := by
  have hz : ∀ s k, z_o (aN a 3 o v) s k = z_o a s k := fun s k => z_o_co (a := aN a 3 o v) (b := a) (fun t _ => ⟨rfl, rfl⟩) s k
  refine ⟨RX_o h.1 ?_ rfl (fun q hq => u_I (by omega)) (fun f t _ _ h3 => by show (if f = 3 ∧ t = o then v else a.1 f t) = _; rw [if_neg (by omega)]) (fun _ _ _ => rfl) rfl ?_ ?_, ?_⟩
  · rw [u_I (by omega), u_I (by omega), u_Ie, u_I (by omega)]
    intro t ht
    have := h.1.1.2.2.2.1 t ht
    refine ⟨this.1, this.2.1, ?_, this.2.2.2⟩
    show _ = Int32.ofNat (if 3 = 3 ∧ t = o then v else a.1 3 t)
    by_cases hto : t = o
    · subst hto; rw [z_ue, if_pos ⟨rfl, rfl⟩]
    · rw [z_u2 hto, if_neg (by omega)]; exact this.2.2.1
  · intro k hk; rw [hz, hz]; exact (h.1.1.2.2.2.2.1 k hk).2.1
  · intro f hf; rw [hz]; exact fun z => (h.1.1.2.2.2.2.2.1 f hf).2.1 (Or.inr z)
  · rw [u_I (by omega), u_I (by omega)]
    exact ⟨fun k hk => by rw [hz, hz]; exact h.2.1 k hk, fun f hf => by rw [hz]; exact h.2.2 f hf⟩
theorem RX_nw {s k : Nat} {r : Int32} (h : RX c a M st) (ho : o < 20) (h0 : a.1 1 o = 0) (hp : s = 1 ∨ s = 2 → k < 6 ∧ st.1 44 0 k = 1 ∧ st.1 42 0 k = Int32.ofNat (a.1 4 k)) (hf : s = 3 → st.1 45 0 k = 1) :
    RX c (z_nw a o s k r) M (xsI (xsI (xsI (xsI st 38 0 o (Int32.ofNat s)) 39 0 o (Int32.ofNat k)) 40 0 o 0) 41 0 o r) := by
  refine RX_o h ?_ rfl (fun q hq => by rw [u_I (by omega), u_I (by omega), u_I (by omega), u_I (by omega)]) (fun f t h1 h2 h3 => z_nw_4 (by omega)) (fun f t hf => z_nw_i (Or.inl hf)) rfl ?_ ?_
  · rw [u_I (by omega), u_I (by omega), u_I (by omega), u_Ie, u_I (by omega), u_I (by omega), u_Ie, u_I (by omega), u_I (by omega), u_Ie, u_I (by omega), u_I (by omega), u_Ie, u_I (by omega), u_I (by omega), u_I (by omega)]
    intro t ht
    by_cases hto : t = o
    · subst hto
      obtain ⟨e1, e2, e3, e4⟩ := z_nw_e (a := a) (o := t) (s := s) (k := k) (r := r)
      rw [e1, e2, e3, e4, z_ue, z_ue, z_ue, z_ue]
      exact ⟨rfl, rfl, rfl, rfl⟩
    · rw [z_nw_t hto, z_nw_t hto, z_nw_t hto, z_nw_i (Or.inr hto), z_u2 hto, z_u2 hto, z_u2 hto, z_u2 hto]
      exact h.1.2.2.2.1 t ht
  · intro k' hk'
    rw [z_nw_o ho h0 k' (by omega), z_nw_o ho h0 k' (by omega)]
    intro z
    by_cases hc : (s = 1 ∨ s = 2) ∧ k = k'
    · have := hp hc.1
      rw [← hc.2]; exact this.2
    · rw [if_neg (fun y => hc ⟨Or.inl y.1, y.2⟩), if_neg (fun y => hc ⟨Or.inr y.1, y.2⟩)] at z
      exact (h.1.2.2.2.2.1 k' hk').2.1 (by omega)
  · intro f' hf'
    rw [z_nw_o ho h0 f' (by omega)]
    intro z
    by_cases hc : s = 3 ∧ k = f'
    · rw [← hc.2]; exact hf hc.1
    · rw [if_neg hc] at z
      exact (h.1.2.2.2.2.2.1 f' hf').2.1 (Or.inr (by omega))
theorem RX_fl {f : Nat} (h : RX c a M st) : RX c a M (xsI st 45 0 f 1) := by
  refine ⟨⟨h.1.1, ?_, ?_, ?_, ?_, ?_, ?_, ?_⟩, ?_⟩
  · rw [u_I (by omega), u_I (by omega), u_I (by omega), u_JI]; exact h.1.2.1
  · rw [u_I (by omega)]; exact h.1.2.2.1
  · rw [u_I (by omega), u_I (by omega), u_I (by omega), u_I (by omega)]; exact h.1.2.2.2.1
  · rw [u_I (by omega), u_I (by omega), u_I (by omega)]; exact h.1.2.2.2.2.1
  · rw [u_Ie, u_I (by omega), u_I (by omega), u_I (by omega)]
    intro g hg
    have := h.1.2.2.2.2.2.1 g hg
    by_cases hgf : g = f
    · subst hgf; rw [z_ue]; exact ⟨Or.inr rfl, fun _ => rfl, this.2.2⟩
    · rw [z_u2 hgf]; exact this
  · rw [u_I (by omega), u_I (by omega), u_I (by omega), u_JI]; exact h.1.2.2.2.2.2.2.1
  · intro q hq; rw [u_I (by omega), u_JI]; exact h.1.2.2.2.2.2.2.2 q hq
  · rw [u_I (by omega)]; exact h.2
theorem RX_pl {k : Nat} (h : RX c a M st) : RX c a M (xsI st 44 0 k 1) := by
  refine ⟨⟨h.1.1, ?_, ?_, ?_, ?_, ?_, ?_, ?_⟩, ?_⟩
  · rw [u_I (by omega), u_I (by omega), u_I (by omega), u_JI]; exact h.1.2.1
  · rw [u_I (by omega)]; exact h.1.2.2.1
  · rw [u_I (by omega), u_I (by omega), u_I (by omega), u_I (by omega)]; exact h.1.2.2.2.1
  · rw [u_I (by omega), u_I (by omega), u_Ie]
    intro g hg
    have := h.1.2.2.2.2.1 g hg
    by_cases hgf : g = k
    · subst hgf; rw [z_ue]; exact ⟨Or.inr rfl, fun z => ⟨rfl, (this.2.1 z).2⟩, this.2.2⟩
    · rw [z_u2 hgf]; exact this
  · rw [u_I (by omega), u_I (by omega), u_I (by omega), u_I (by omega)]; exact h.1.2.2.2.2.2.1
  · rw [u_I (by omega), u_I (by omega), u_I (by omega), u_JI]; exact h.1.2.2.2.2.2.2.1
  · intro q hq; rw [u_I (by omega), u_JI]; exact h.1.2.2.2.2.2.2.2 q hq
  · rw [u_I (by omega)]; exact h.2
theorem RX_pn {k : Nat} (h : RX c a M st) : RX c a M (xsI st 42 0 k (Int32.ofNat (a.1 4 k))) := by
  refine ⟨⟨h.1.1, ?_, ?_, ?_, ?_, ?_, ?_, ?_⟩, ?_⟩
  · rw [u_I (by omega), u_I (by omega), u_I (by omega), u_JI]; exact h.1.2.1
  · rw [u_I (by omega)]; exact h.1.2.2.1
  · rw [u_I (by omega), u_I (by omega), u_I (by omega), u_I (by omega)]; exact h.1.2.2.2.1
  · rw [u_Ie, u_I (by omega), u_I (by omega)]
    intro g hg
    have := h.1.2.2.2.2.1 g hg
    by_cases hgf : g = k
    · subst hgf; rw [z_ue]; exact ⟨this.1, fun z => ⟨(this.2.1 z).1, rfl⟩, this.2.2⟩
    · rw [z_u2 hgf]; exact this
  · rw [u_I (by omega), u_I (by omega), u_I (by omega), u_I (by omega)]; exact h.1.2.2.2.2.2.1
  · rw [u_I (by omega), u_I (by omega), u_I (by omega), u_JI]; exact h.1.2.2.2.2.2.2.1
  · intro q hq; rw [u_I (by omega), u_JI]; exact h.1.2.2.2.2.2.2.2 q hq
  · rw [u_I (by omega)]; exact h.2
theorem RX_nm {f : Nat} {v : Int32} (h : RX c a M st) (hv : v ≠ 0 → st.1 45 0 f = 1) : RX c (aI a 3 f v) M (xsI st 46 0 f v) := by
  refine ⟨⟨h.1.1, ?_, ?_, ?_, ?_, ?_, ?_, ?_⟩, ?_⟩
  · rw [u_I (by omega), u_I (by omega), u_I (by omega), u_JI]; exact h.1.2.1
  · rw [u_I (by omega)]; exact h.1.2.2.1
  · rw [u_I (by omega), u_I (by omega), u_I (by omega), u_I (by omega)]; exact h.1.2.2.2.1
  · rw [u_I (by omega), u_I (by omega), u_I (by omega)]; exact h.1.2.2.2.2.1
  · rw [u_I (by omega), u_Ie, u_I (by omega), u_I (by omega)]
    intro g hg
    have := h.1.2.2.2.2.2.1 g hg
    have he : (aI a 3 f v).2.1 3 g = if g = f then v else a.2.1 3 g := by
      show (if 3 = 3 ∧ g = f then v else a.2.1 3 g) = _
      simp only [true_and]
    rw [he]
    by_cases hgf : g = f
    · subst hgf
      rw [z_ue, if_pos rfl]
      exact ⟨this.1, fun z => z.elim hv (fun y => this.2.1 (Or.inr y)), rfl, this.2.2.2⟩
    · rw [z_u2 hgf, if_neg hgf]; exact this
  · rw [u_I (by omega), u_I (by omega), u_I (by omega), u_JI]; exact h.1.2.2.2.2.2.2.1
  · intro q hq; rw [u_I (by omega), u_JI]; exact h.1.2.2.2.2.2.2.2 q hq
  · rw [u_I (by omega)]; exact h.2
/-- contents alone change -/
theorem RX_g (h : RX c a M st) (hI : m_I b (s'.1 42) (s'.1 43) (s'.1 44)) (hF : m_F b (s'.1 45) (s'.1 46) (s'.1 47) (s'.1 48)) (hC : m_C b (s'.1 32) (s'.1 49) (s'.1 50) (s'.2.1 32))
    (hr : s'.2.2.1 = st.2.2.1) (h1 : ∀ q, q < 32 ∨ (32 < q ∧ q < 42) ∨ q = 44 ∨ q = 45 ∨ 64 ≤ q → s'.1 q = st.1 q) (h0 : s'.1 32 0 0 = st.1 32 0 0) (h2 : ∀ q, q ≠ 32 → s'.2.1 q = st.2.1 q)
    (hn : ∀ f t, f ≠ 4 → f ≠ 5 → b.1 f t = a.1 f t) (hi : b.2.1 = a.2.1) (hj : b.2.2.1.1 = a.2.2.1.1) (hd : b.2.2.2 = a.2.2.2) : RX c b M s' ∧ (m_X a (st.1 44) (st.1 45) → m_X b (s'.1 44) (s'.1 45)) := by
  have hz : ∀ s k, z_o b s k = z_o a s k := fun s k => z_o_co (fun t _ => ⟨hn 1 t (by omega) (by omega), hn 2 t (by omega) (by omega)⟩) s k
  refine ⟨⟨⟨by rw [hr]; exact h.1.1, ?_, ?_, ?_, hI, hF, hC, ?_⟩, ?_⟩, ?_⟩
  · rw [h1 33 (by omega), h1 34 (by omega), h1 35 (by omega), h2 37 (by omega)]
    intro t ht; rw [hn 0 t (by omega) (by omega), hi, hj]; exact h.1.2.1 t ht
  · rw [h1 36 (by omega)]; intro p hp q hq; rw [hd]; exact h.1.2.2.1 p hp q hq
  · rw [h1 38 (by omega), h1 39 (by omega), h1 40 (by omega), h1 41 (by omega)]
    intro t ht; rw [hn 1 t (by omega) (by omega), hn 2 t (by omega) (by omega), hn 3 t (by omega) (by omega), hi]; exact h.1.2.2.2.1 t ht
  · intro q hq; rw [hr, h1 q (by omega), h2 q (by omega)]; exact h.1.2.2.2.2.2.2.2 q hq
  · rw [h0]; exact h.2
  · intro hx
    rw [h1 44 (by omega), h1 45 (by omega)]
    exact ⟨fun k hk => by rw [hz, hz]; exact hx.1 k hk, fun f hf => by rw [hz, hi]; exact hx.2 f hf⟩
theorem RX_e {f : Nat} (h : RX c a M st) (hb : f < 6) : RX c (aN a 4 (8 + f) 0) M (xsI st 47 0 f 0) ∧ (m_X a (st.1 44) (st.1 45) → m_X (aN a 4 (8 + f) 0) ((xsI st 47 0 f 0).1 44) ((xsI st 47 0 f 0).1 45)) := by
  have hz : ∀ s k, z_o (aN a 4 (8 + f) 0) s k = z_o a s k := fun s k => z_o_co (a := aN a 4 (8 + f) 0) (b := a) (fun t _ => ⟨rfl, rfl⟩) s k
  have hl : ∀ t, t ≠ 8 + f → (aN a 4 (8 + f) 0).1 4 t = a.1 4 t := fun t ht => by
    show (if 4 = 4 ∧ t = 8 + f then 0 else a.1 4 t) = _
    rw [if_neg (fun z => ht z.2)]
  have hl2 : (aN a 4 (8 + f) 0).1 4 (8 + f) = 0 := by
    show (if 4 = 4 ∧ 8 + f = 8 + f then 0 else a.1 4 (8 + f)) = _
    rw [if_pos ⟨rfl, rfl⟩]
  refine RX_g h ?_ ?_ ?_ rfl (fun q hq => u_I (by omega)) (by rw [u_I (by omega)]) (fun q _ => rfl) (fun g t h4 _ => by show (if g = 4 ∧ t = 8 + f then 0 else a.1 g t) = _; rw [if_neg (fun z => h4 z.1)]) rfl rfl rfl
  · rw [u_I (by omega), u_I (by omega), u_I (by omega)]
    intro k hk; rw [hz, hz, hl k (by omega)]; exact h.1.2.2.2.2.1 k hk
  · rw [u_I (by omega), u_I (by omega), u_Ie, u_I (by omega)]
    intro g hg
    have := h.1.2.2.2.2.2.1 g hg
    rw [hz]
    by_cases hgf : g = f
    · subst hgf; rw [z_ue, hl2]; exact ⟨this.1, this.2.1, this.2.2.1, rfl, fun j hj => absurd hj (Nat.not_lt_zero j)⟩
    · rw [z_u2 hgf, hl (8 + g) (by omega)]; exact this
  · rw [u_I (by omega), u_I (by omega), u_I (by omega), u_JI]
    unfold m_C; rw [hl 20 (by omega), hl 21 (by omega)]; exact h.1.2.2.2.2.2.2.1
end
