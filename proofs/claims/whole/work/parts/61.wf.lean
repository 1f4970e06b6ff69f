/-! WHAT ALWAYS HOLDS, holds after each call -/
def WF (N : Nat) (a : AS) : Prop := W_D a ∧ W_O z_0 a ∧ W_L N a ∧ W_P a ∧ W_W a
section
variable {a b : AS} {i d o N K s k x : Nat}
theorem W_L_mo (h : N ≤ K) (wl : W_L N a) : W_L K a := ⟨wl.1, wl.2.1, wl.2.2.1, wl.2.2.2.1, wl.2.2.2.2.1, Nat.le_trans wl.2.2.2.2.2 h⟩
theorem WF_mo (h : N ≤ K) (w : WF N a) : WF K a := ⟨w.1, w.2.1, W_L_mo h w.2.2.1, w.2.2.2⟩
theorem WF_8 (w : WF N a) : WF (N + 8) a := WF_mo (by omega) w
/-- after a waking none waits but who must -/
theorem WF_k (wd : W_D a) (wo : W_O z_0 a) (wl : W_L N a) (wp : W_P a) : WF N (z_k 8 0 a).2 := by
  obtain ⟨h1, h2, h3, h4⟩ := z_k_in (N := N) 8 0 a (by omega) wd wo wl wp
  exact ⟨h1, h2, h3, h4, fun j hj h => z_k_ww 8 0 a (fun j hj _ => by omega) j (by omega) h⟩
theorem W_W_g (wd : W_D a) (wo : W_O z_0 a) (wp : W_P a) (ww : W_W a) (hp : ∀ t, t < 8 → 2 ≤ b.1 0 t → b.1 0 t = a.1 0 t ∧ b.2.1 0 t = a.2.1 0 t ∧ b.2.1 1 t = a.2.1 1 t ∧ ∀ q, b.2.2.2 t q = a.2.2.2 t q)
    (ho : ∀ t, t < 20 → 0 < a.1 1 t → b.1 1 t = a.1 1 t ∧ b.1 2 t = a.1 2 t) (h20 : b.1 4 20 = a.1 4 20)
    (hk : ∀ t, t < 20 → a.1 1 t = 1 ∨ a.1 1 t = 2 → b.1 4 (a.1 2 t) = a.1 4 (a.1 2 t) ∧ z_o b 1 (a.1 2 t) = z_o a 1 (a.1 2 t) ∧ z_o b 2 (a.1 2 t) = z_o a 2 (a.1 2 t)) : W_W b := by
  intro t ht h2
  obtain ⟨e1, e2, e3, e4⟩ := hp t ht h2
  rw [e1] at h2
  obtain ⟨q1, q2⟩ := z_t_lt wd wp ht h2
  have q3 : 0 < a.1 1 (z_t a t) := (wo _ q1).1.mpr (by omega)
  rw [z_mw_co e1 e2 e3 e4 (fun r n => z_w_co (ho _ q1 q3).1 (ho _ q1 q3).2 h20 (hk _ q1))]
  exact ww t ht h2
theorem z_h_ex {t : Nat} : 0 < z_h a t ↔ ∃ p q, p < 8 ∧ q < 8 ∧ a.2.2.2 p q = some t := by
  constructor
  · intro h
    obtain ⟨j, _, h2, h3⟩ := (z_c_ps 64 0).mp h
    exact ⟨j / 8, j % 8, by omega, by omega, of_decide_eq_true h3⟩
  · rintro ⟨p, q, hp, hq, h⟩
    exact z_h_po hp hq h
theorem z_h_0 (wo : W_O z_0 a) (ho : o < 20) (h0 : a.1 1 o = 0) : z_h a o = 0 := by
  have := (wo o ho).1
  have e0 : z_0 o = 0 := rfl
  omega
/-- a new opening and its first descriptor -/
theorem W_O_n {r : Int32} (wo : W_O z_0 a) (hi : i < 8) (hd : d < 8) (hn : a.2.2.2 i d = none) (ho : o < 20) (h0 : a.1 1 o = 0) (hs : 0 < s ∧ s ≤ 4) (h1 : s ≤ 3 → k < 6) (h2 : s = 1 ∨ s = 2 → r = Int32.ofNat s) (h4 : s = 4 → r = 3) :
    W_O z_0 (aD (z_nw a o s k r) i d (some o)) := by
  have hh := z_h_0 wo ho h0
  intro t ht
  obtain ⟨w1, w2⟩ := wo t ht
  have e0 : z_0 t = 0 := rfl
  have hz := z_h_D (z_nw a o s k r) hi hd (some o) t
  rw [show (z_nw a o s k r).2.2.2 i d = none from hn, if_neg (c := none = some t) (fun z => nomatch z), show z_h (z_nw a o s k r) t = z_h a t from rfl] at hz
  rw [show (aD (z_nw a o s k r) i d (some o)).1 1 t = (z_nw a o s k r).1 1 t from rfl, show (aD (z_nw a o s k r) i d (some o)).1 2 t = (z_nw a o s k r).1 2 t from rfl, show (aD (z_nw a o s k r) i d (some o)).1 3 t = (z_nw a o s k r).1 3 t from rfl,
    show (aD (z_nw a o s k r) i d (some o)).2.1 2 t = (z_nw a o s k r).2.1 2 t from rfl]
  by_cases hto : t = o
  · subst hto
    rw [if_pos rfl] at hz
    obtain ⟨e1, e2, e3, e4⟩ := z_nw_e (a := a) (o := t) (s := s) (k := k) (r := r)
    rw [e1, e2, e3, e4]
    exact ⟨⟨fun _ => by omega, fun _ => hs.1⟩, hs.2, fun z => ⟨h1 (by omega), h2 z⟩, fun z => h1 (by omega), h4, fun _ _ => rfl, by omega⟩
  · rw [if_neg (c := some o = some t) (fun z => hto (Option.some.inj z).symm)] at hz
    rw [z_nw_t hto, z_nw_t hto, z_nw_t hto, z_nw_i (Or.inr hto)]
    refine ⟨?_, w2⟩
    rw [e0] at w1 ⊢
    rw [hz]
    exact w1
theorem W_L_w {r : Int32} (wl : W_L N a) (ho : o < 20) (h0 : a.1 1 o = 0) : W_L N (z_nw a o s k r) := by
  obtain ⟨l1, l2, l3, l4, l5, l6⟩ := wl
  refine ⟨fun f hf => by rw [z_nw_i (Or.inl (by omega))]; exact l1 f hf, fun k' hk' => ?_, fun f hf => by rw [z_nw_4 (by omega)]; exact l3 f hf, by rw [z_nw_4 (by omega)]; exact l4, by rw [z_nw_4 (by omega), z_nw_4 (by omega)]; exact l5, by rw [z_nw_4 (by omega)]; exact l6⟩
  rw [z_nw_4 (by omega), z_nw_o ho h0 k' (by omega), z_nw_o ho h0 k' (by omega)]
  exact ⟨(l2 k' hk').1, fun z => (l2 k' hk').2 (by omega)⟩
theorem w_spawn (w : WF N a) : WF N (o_spawn a).2 := by
  obtain ⟨wd, wo, wl, wp, ww⟩ := w
  unfold o_spawn
  cases hp : z_fp a with
  | none => exact ⟨wd, wo, wl, wp, ww⟩
  | some i =>
    cases ho : z_fo a with
    | none => exact ⟨wd, wo, wl, wp, ww⟩
    | some o =>
      obtain ⟨hi, hl⟩ := z_fp_so hp
      obtain ⟨ho1, ho2⟩ := z_fo_so ho
      have hn : ∀ d, d < 8 → a.2.2.2 i d = none := (wp i hi).2.1 hl
      have b1 : W_O z_0 (aD (z_nw (z_bg a i) o 4 0 3) i 0 (some o)) := W_O_n (a := z_bg a i) wo hi (by omega) (hn 0 (by omega)) ho1 ho2 (by omega) (by omega) (by omega) (fun _ => rfl)
      have hd0 : (aD (z_nw (z_bg a i) o 4 0 3) i 0 (some o)).2.2.2 i 0 = some o := z_ue
      have hd1 : (aD (z_nw (z_bg a i) o 4 0 3) i 0 (some o)).2.2.2 i 1 = none := (z_u2 (by omega)).trans (hn 1 (by omega))
      have b2 : W_O z_0 (aD (aD (z_nw (z_bg a i) o 4 0 3) i 0 (some o)) i 1 (some o)) := W_O_put (W_O_1 b1 (by have := z_h_po hi (by omega) hd0; omega)) hi (by omega) hd1
      show WF N (aD (aD (z_nw (z_bg a i) o 4 0 3) i 0 (some o)) i 1 (some o))
      refine ⟨W_D_o (W_D_o (W_D_nw (a := z_bg a i) wd) ho1) ho1, b2, W_L_w (a := z_bg a i) (s := 4) (k := 0) (r := 3) wl ho1 ho2, ?_, ?_⟩
      · intro t ht
        obtain ⟨q1, q2, q3⟩ := wp t ht
        have e0 : (aD (aD (z_nw (z_bg a i) o 4 0 3) i 0 (some o)) i 1 (some o)).1 0 t = if t = i then 1 else a.1 0 t := by
          show (if 0 = 0 ∧ t = i then 1 else a.1 0 t) = _
          by_cases hti : t = i
          · rw [if_pos ⟨rfl, hti⟩, if_pos hti]
          · rw [if_neg (fun z => hti z.2), if_neg hti]
        rw [e0]
        by_cases hti : t = i
        · rw [if_pos hti]; exact ⟨by omega, fun z => by omega, fun z => by omega⟩
        · rw [if_neg hti]
          have e3 : ∀ q, (aD (aD (z_nw (z_bg a i) o 4 0 3) i 0 (some o)) i 1 (some o)).2.2.2 t q = a.2.2.2 t q := fun q => (z_u1 hti).trans (z_u1 hti)
          have e1 : ∀ f, (aD (aD (z_nw (z_bg a i) o 4 0 3) i 0 (some o)) i 1 (some o)).2.1 f t = if f = 2 ∧ t = o then 3 else a.2.1 f t := fun f => by
            show (if f = 2 ∧ t = o then 3 else if f = 1 ∧ t = i then 0 else if f = 0 ∧ t = i then -1 else a.2.1 f t) = _
            rw [if_neg (c := f = 1 ∧ _) (fun z => hti z.2), if_neg (c := f = 0 ∧ _) (fun z => hti z.2)]
          refine ⟨q1, fun z q hq => by rw [e3]; exact q2 z q hq, fun z => ?_⟩
          obtain ⟨d, o', hd, p1, p2, p3⟩ := q3 z
          exact ⟨d, o', hd, by rw [e1, if_neg (by omega)]; exact p1, by rw [e3]; exact p2, by rw [e1, if_neg (by omega)]; exact p3⟩
      · refine W_W_g wd wo wp ww (fun t ht h2 => ?_) (fun t ht hk => ?_) ?_ (fun t ht hk => ?_)
        · have e0 : (aD (aD (z_nw (z_bg a i) o 4 0 3) i 0 (some o)) i 1 (some o)).1 0 t = if t = i then 1 else a.1 0 t := by
            show (if 0 = 0 ∧ t = i then 1 else a.1 0 t) = _
            by_cases hti : t = i
            · rw [if_pos ⟨rfl, hti⟩, if_pos hti]
            · rw [if_neg (fun z => hti z.2), if_neg hti]
          rw [e0] at h2
          by_cases hti : t = i
          · rw [if_pos hti] at h2; omega
          · have e3 : ∀ q, (aD (aD (z_nw (z_bg a i) o 4 0 3) i 0 (some o)) i 1 (some o)).2.2.2 t q = a.2.2.2 t q := fun q => (z_u1 hti).trans (z_u1 hti)
            have e1 : ∀ f, f ≠ 2 → (aD (aD (z_nw (z_bg a i) o 4 0 3) i 0 (some o)) i 1 (some o)).2.1 f t = a.2.1 f t := fun f hf => by
              show (if f = 2 ∧ t = o then 3 else if f = 1 ∧ t = i then 0 else if f = 0 ∧ t = i then -1 else a.2.1 f t) = _
              rw [if_neg (c := f = 2 ∧ _) (fun z => hf z.1), if_neg (c := f = 1 ∧ _) (fun z => hti z.2), if_neg (c := f = 0 ∧ _) (fun z => hti z.2)]
            exact ⟨by rw [e0, if_neg hti], e1 0 (by omega), e1 1 (by omega), e3⟩
        · have hto : t ≠ o := fun z => by subst z; omega
          exact ⟨z_nw_t (a := z_bg a i) (o := o) (s := 4) (k := 0) (r := 3) (f := 1) hto, z_nw_t (a := z_bg a i) (o := o) (s := 4) (k := 0) (r := 3) (f := 2) hto⟩
        · exact z_nw_4 (a := z_bg a i) (o := o) (s := 4) (k := 0) (r := 3) (f := 4) (by omega)
        · refine ⟨z_nw_4 (a := z_bg a i) (o := o) (s := 4) (k := 0) (r := 3) (f := 4) (by omega), ?_, ?_⟩
          · exact (z_nw_o (a := z_bg a i) (s := 4) (k := 0) (r := 3) (s' := 1) ho1 ho2 _ (by omega)).trans (by rw [if_neg (by omega)]; rfl)
          · exact (z_nw_o (a := z_bg a i) (s := 4) (k := 0) (r := 3) (s' := 2) ho1 ho2 _ (by omega)).trans (by rw [if_neg (by omega)]; rfl)
theorem w_fork (w : WF N a) (p : Int32) : WF N (o_fork a p).2.2 := by
  have w' := w
  obtain ⟨wd, wo, wl, wp, ww⟩ := w
  unfold o_fork
  cases hr : z_r a p with
  | none => exact w'
  | some i =>
    obtain ⟨hi, rfl, hl⟩ := z_r_so hr
    cases hp : z_fp a with
    | none => exact w'
    | some c =>
      obtain ⟨hc, hl2⟩ := z_fp_so hp
      have hn : ∀ d, d < 8 → a.2.2.2 c d = none := (wp c hc).2.1 hl2
      have e3 : ∀ p q, (z_cp (z_bg a c) i c 8).2.2.2 p q = if p = c ∧ q < 8 then a.2.2.2 i q else a.2.2.2 p q := fun _ _ => rfl
      have e0 : ∀ t, (z_cp (z_bg a c) i c 8).1 0 t = if t = c then 1 else a.1 0 t := fun t => by
        show (if 0 = 0 ∧ t = c then 1 else a.1 0 t) = _
        by_cases hti : t = c
        · rw [if_pos ⟨rfl, hti⟩, if_pos hti]
        · rw [if_neg (fun z => hti z.2), if_neg hti]
      have e1 : ∀ f t, t ≠ c → (z_cp (z_bg a c) i c 8).2.1 f t = a.2.1 f t := fun f t ht => by
        show (if f = 1 ∧ t = c then 0 else if f = 0 ∧ t = c then -1 else a.2.1 f t) = _
        rw [if_neg (c := f = 1 ∧ _) (fun z => ht z.2), if_neg (c := f = 0 ∧ _) (fun z => ht z.2)]
      refine ⟨?_, ?_, wl, ?_, ?_⟩
      · intro p hp q hq x hx
        rw [e3] at hx
        by_cases hcc : p = c ∧ q < 8
        · rw [if_pos hcc] at hx; exact wd i hi q hq x hx
        · rw [if_neg hcc] at hx; exact wd p hp q hq x hx
      · intro t ht
        obtain ⟨w1, w2⟩ := wo t ht
        refine ⟨?_, w2⟩
        have e00 : z_0 t = 0 := rfl
        rw [e00] at w1 ⊢
        refine w1.trans ?_
        rw [Nat.add_zero, Nat.add_zero, z_h_ex, z_h_ex]
        constructor
        · rintro ⟨p, q, hp, hq, h⟩
          refine ⟨p, q, hp, hq, ?_⟩
          rw [e3]
          by_cases hcc : p = c ∧ q < 8
          · rw [hcc.1, hn q hq] at h; exact nomatch h
          · rw [if_neg hcc]; exact h
        · rintro ⟨p, q, hp, hq, h⟩
          rw [e3] at h
          by_cases hcc : p = c ∧ q < 8
          · rw [if_pos hcc] at h; exact ⟨i, q, hi, hq, h⟩
          · rw [if_neg hcc] at h; exact ⟨p, q, hp, hq, h⟩
      · intro t ht
        obtain ⟨q1, q2, q3⟩ := wp t ht
        rw [e0]
        by_cases hti : t = c
        · rw [if_pos hti]; exact ⟨by omega, fun z => by omega, fun z => by omega⟩
        · rw [if_neg hti]
          refine ⟨q1, fun z q hq => by rw [e3, if_neg (fun z => hti z.1)]; exact q2 z q hq, fun z => ?_⟩
          obtain ⟨d, o', hd, p1, p2, p3⟩ := q3 z
          exact ⟨d, o', hd, by rw [e1 0 t hti]; exact p1, by rw [e3, if_neg (fun z => hti z.1)]; exact p2, by rw [e1 1 t hti]; exact p3⟩
      · refine W_W_g wd wo wp ww (fun t ht h2 => ?_) (fun t ht hk => ⟨rfl, rfl⟩) rfl (fun t ht hk => ⟨rfl, rfl, rfl⟩)
        rw [e0] at h2
        by_cases hti : t = c
        · rw [if_pos hti] at h2; omega
        · exact ⟨by rw [e0, if_neg hti], e1 0 t hti, e1 1 t hti, fun q => by rw [e3, if_neg (fun z => hti z.1)]⟩
theorem w_exit (w : WF N a) (p : Int32) : WF N (o_exit a p).2.2 := by
  have w' := w
  obtain ⟨wd, wo, wl, wp, ww⟩ := w
  unfold o_exit
  by_cases hc : x_in p 8 ∧ a.1 0 p.toNatClampNeg ≠ 0
  · rw [if_pos hc]
    obtain ⟨h1, h2, h3, h4⟩ := z_ex_in wd wo wl wp hc.1.2
    exact WF_k h1 h2 h3 h4
  · rw [if_neg hc]; exact w'
theorem w_close (w : WF N a) (p d : Int32) : WF N (o_close a p d).2.2 := by
  have w' := w
  obtain ⟨wd, wo, wl, wp, ww⟩ := w
  unfold o_close
  cases hr : z_r a p with
  | none => exact w'
  | some i =>
    obtain ⟨hi, rfl, hl⟩ := z_r_so hr
    dsimp only
    cases hd : z_d a i d with
    | none => exact w'
    | some o =>
      obtain ⟨j, hj, rfl, hs⟩ := z_d_so hd
      obtain ⟨h1, h2, h3, h4⟩ := z_clo_in wd wo wl wp hi hj hl
      dsimp only
      rw [n_to (by omega)]
      exact WF_k h1 h2 h3 h4
theorem w_dup (w : WF N a) (p d t : Int32) : WF N (o_dup a p d t).2.2 := by
  have w' := w
  obtain ⟨wd, wo, wl, wp, ww⟩ := w
  unfold o_dup
  cases hr : z_r a p with
  | none => exact w'
  | some i =>
    obtain ⟨hi, rfl, hl⟩ := z_r_so hr
    dsimp only
    by_cases h1 : t < -1
    · rw [if_pos h1]; exact w'
    · rw [if_neg h1]
      by_cases h2 : t < 8
      · rw [if_pos h2]
        cases hd : z_d a i d with
        | none => exact w'
        | some o =>
          obtain ⟨j, hj, rfl, hs⟩ := z_d_so hd
          have ho := wd i hi j hj o hs
          have hk := z_h_po hi hj hs
          dsimp only
          by_cases h3 : t = -1
          · rw [if_pos h3]
            cases hf : z_fd a i with
            | none => exact w'
            | some j' =>
              obtain ⟨hj', hn⟩ := z_fd_so hf
              exact ⟨W_D_o wd ho, W_O_put (W_O_1 wo (by omega)) hi hj' hn, wl, W_P_d wp hl, W_W_d ww hl⟩
          · rw [if_neg h3]
            rcases n_ca t 8 with ⟨jt, hjt, hjt', rfl⟩ | hno
            · obtain ⟨g1, g2, g3, g4⟩ := z_dup_in wd wo wl wp hi hjt hl ho hk
              rw [n_to hjt']
              exact WF_k g1 g2 g3 g4
            · exfalso
              rcases n_no (by omega) hno with h4 | ⟨h4, h5⟩
              · apply h3
                apply Int32.toInt_inj.mp
                rw [Int32.lt_iff_toInt_lt] at h1 h4
                have e1 : (-1 : Int32).toInt = -1 := by decide
                have e2 : (0 : Int32).toInt = 0 := by decide
                omega
              · exact absurd (Int32.lt_of_lt_of_le h2 h5) Int32.lt_irrefl
      · rw [if_neg h2]; exact w'
/-- what a new opening of proc i's leaves as it was -/
theorem W_P_n {b : AS} (wp : W_P a) (hl : a.1 0 i = 1) (h0 : ∀ t, b.1 0 t = a.1 0 t) (h1 : ∀ f t, f < 2 → b.2.1 f t = a.2.1 f t) (h3 : ∀ t q, t ≠ i → b.2.2.2 t q = a.2.2.2 t q) : W_P b := by
  intro t ht
  obtain ⟨q1, q2, q3⟩ := wp t ht
  rw [h0, h1 0 t (by omega), h1 1 t (by omega)]
  by_cases hti : t = i
  · subst hti
    exact ⟨q1, fun z => by omega, fun z => by omega⟩
  · refine ⟨q1, fun z q hq => by rw [h3 t q hti]; exact q2 z q hq, fun z => ?_⟩
    obtain ⟨d, o', hd, p1, p2, p3⟩ := q3 z
    exact ⟨d, o', hd, p1, by rw [h3 t d hti]; exact p2, p3⟩
theorem W_W_n {b : AS} (wd : W_D a) (wo : W_O z_0 a) (wp : W_P a) (ww : W_W a) (hl : a.1 0 i = 1) (h0 : ∀ t, b.1 0 t = a.1 0 t) (h1 : ∀ f t, f < 2 → b.2.1 f t = a.2.1 f t) (h3 : ∀ t q, t ≠ i → b.2.2.2 t q = a.2.2.2 t q)
    (ho : ∀ t, t < 20 → 0 < a.1 1 t → b.1 1 t = a.1 1 t ∧ b.1 2 t = a.1 2 t) (h20 : b.1 4 20 = a.1 4 20)
    (hk : ∀ t, t < 20 → a.1 1 t = 1 ∨ a.1 1 t = 2 → b.1 4 (a.1 2 t) = a.1 4 (a.1 2 t) ∧ z_o b 1 (a.1 2 t) = z_o a 1 (a.1 2 t) ∧ z_o b 2 (a.1 2 t) = z_o a 2 (a.1 2 t)) : W_W b := by
  refine W_W_g wd wo wp ww (fun t ht h2 => ?_) ho h20 hk
  rw [h0] at h2
  have hti : t ≠ i := fun z => by subst z; omega
  exact ⟨h0 t, h1 0 t (by omega), h1 1 t (by omega), fun q => h3 t q hti⟩
theorem w_op {f : Nat} {y how : Int32} {em : Bool} (w : WF N a) (hi : i < 8) (hl : a.1 0 i = 1) (hd : d < 8) (hn : a.2.2.2 i d = none) (ho : o < 20) (h0 : a.1 1 o = 0) (hf : f < 6) (hy : 0 < y) : WF N (z_op a i d o f y how em) := by
  obtain ⟨wd, wo, wl, wp, ww⟩ := w
  obtain ⟨c, hc⟩ : ∃ c, c = (if em = true then aN (aI a 3 f y) 4 (8 + f) 0 else aI a 3 f y) := ⟨_, rfl⟩
  have c1 : ∀ g t, g ≠ 4 → c.1 g t = a.1 g t := fun g t hg => by
    rw [hc]
    cases em
    · rfl
    · show (if g = 4 ∧ t = 8 + f then 0 else a.1 g t) = _
      rw [if_neg (fun z => hg z.1)]
  have c4 : ∀ t, t ≠ 8 + f → c.1 4 t = a.1 4 t := fun t ht => by
    rw [hc]
    cases em
    · rfl
    · show (if 4 = 4 ∧ t = 8 + f then 0 else a.1 4 t) = _
      rw [if_neg (fun z => ht z.2)]
  have c4' : c.1 4 (8 + f) ≤ a.1 4 (8 + f) := by
    rw [hc]
    cases em
    · exact Nat.le_refl _
    · show (if 4 = 4 ∧ 8 + f = 8 + f then 0 else a.1 4 (8 + f)) ≤ _
      rw [if_pos ⟨rfl, rfl⟩]; omega
  have c2 : ∀ g t, c.2.1 g t = if g = 3 ∧ t = f then y else a.2.1 g t := fun g t => by rw [hc]; cases em <;> rfl
  have c3 : c.2.2 = a.2.2 := by rw [hc]; cases em <;> rfl
  have hz : ∀ s k, z_o c s k = z_o a s k := fun s k => z_o_co (fun t _ => ⟨c1 1 t (by omega), c1 2 t (by omega)⟩) s k
  have hh : ∀ t, z_h c t = z_h a t := fun t => z_h_1 (by rw [c3]) t
  have woc : W_O z_0 c := fun t ht => by
    rw [hh, c1 1 t (by omega), c1 2 t (by omega), c1 3 t (by omega), c2, if_neg (by omega)]
    exact wo t ht
  have wlc : W_L N c := by
    obtain ⟨l1, l2, l3, l4, l5, l6⟩ := wl
    refine ⟨fun g hg => ?_, fun k hk => ?_, fun g hg => ?_, ?_, ?_, ?_⟩
    · rw [c2]
      by_cases hgf : g = f
      · rw [if_pos ⟨rfl, hgf⟩]; exact Or.inr hy
      · rw [if_neg (fun z => hgf z.2)]; exact l1 g hg
    · rw [c4 k (by omega), hz, hz]; exact l2 k hk
    · by_cases hgf : g = f
      · rw [hgf]; exact Nat.le_trans c4' (l3 f hf)
      · rw [c4 (8 + g) (by omega)]; exact l3 g hg
    · rw [c4 20 (by omega)]; exact l4
    · rw [c4 21 (by omega), c1 5 0 (by omega)]; exact l5
    · rw [c1 5 0 (by omega)]; exact l6
  have h0c : c.1 1 o = 0 := by rw [c1 1 o (by omega)]; exact h0
  have wdc : W_D c := by unfold W_D; rw [c3]; exact wd
  show WF N (aD (z_nw (if em = true then aN (aI a 3 f y) 4 (8 + f) 0 else aI a 3 f y) o 3 f (how &&& 7)) i d (some o))
  rw [← hc]
  have n4 : ∀ g t, 4 ≤ g ∨ g = 0 → (aD (z_nw c o 3 f (how &&& 7)) i d (some o)).1 g t = c.1 g t := fun g t hg => z_nw_4 (a := c) (o := o) (s := 3) (k := f) (r := how &&& 7) hg
  have ni : ∀ g t, g ≠ 2 → (aD (z_nw c o 3 f (how &&& 7)) i d (some o)).2.1 g t = c.2.1 g t := fun g t hg => z_nw_i (a := c) (o := o) (s := 3) (k := f) (r := how &&& 7) (Or.inl hg)
  have nt : ∀ g t, t ≠ o → (aD (z_nw c o 3 f (how &&& 7)) i d (some o)).1 g t = c.1 g t := fun g t hg => z_nw_t (a := c) (o := o) (s := 3) (k := f) (r := how &&& 7) hg
  have n0 : ∀ t, (aD (z_nw c o 3 f (how &&& 7)) i d (some o)).1 0 t = a.1 0 t := fun t => by rw [n4 0 t (by omega), c1 0 t (by omega)]
  have n1 : ∀ g t, g < 2 → (aD (z_nw c o 3 f (how &&& 7)) i d (some o)).2.1 g t = a.2.1 g t := fun g t hg => by rw [ni g t (by omega), c2, if_neg (by omega)]
  have n3 : ∀ t q, t ≠ i → (aD (z_nw c o 3 f (how &&& 7)) i d (some o)).2.2.2 t q = a.2.2.2 t q := fun t q ht => (z_u1 ht).trans (by rw [show (z_nw c o 3 f (how &&& 7)).2.2.2 = c.2.2.2 from rfl, c3])
  refine ⟨W_D_o (W_D_nw (a := c) wdc) ho, W_O_n woc hi hd (by rw [c3]; exact hn) ho h0c (by omega) (fun _ => hf) (by omega) (by omega), W_L_w (a := c) (s := 3) (k := f) (r := how &&& 7) wlc ho h0c, ?_, ?_⟩
  · exact W_P_n (i := i) wp hl n0 n1 n3
  · refine W_W_n (i := i) wd wo wp ww hl n0 n1 n3 (fun t ht hk => ?_) (by rw [n4 4 20 (by omega), c4 20 (by omega)]) (fun t ht hk => ?_)
    · have hto : t ≠ o := fun z => by subst z; omega
      exact ⟨by rw [nt 1 t hto, c1 1 t (by omega)], by rw [nt 2 t hto, c1 2 t (by omega)]⟩
    · have hth := ((wo t ht).2.2.1 hk).1
      refine ⟨by rw [n4 4 _ (by omega), c4 _ (by omega)], ?_, ?_⟩
      · exact (z_nw_o (a := c) (s := 3) (k := f) (r := how &&& 7) (s' := 1) ho h0c _ (by omega)).trans (by rw [if_neg (by omega), hz, Nat.add_zero])
      · exact (z_nw_o (a := c) (s := 3) (k := f) (r := how &&& 7) (s' := 2) ho h0c _ (by omega)).trans (by rw [if_neg (by omega), hz, Nat.add_zero])
theorem w_open (w : WF N a) (p y how : Int32) : WF N (o_open a p y how).2.2 := by
  have w' := w
  have hop2 : ∀ i (fo : Option Nat) em, i < 8 → a.1 0 i = 1 → (∀ f, fo = some f → f < 6) → 0 < y → WF N (z_op2 a i y how fo em).2.2 := by
    intro i fo em hi hl hf hy
    unfold z_op2
    cases fo with
    | none => exact w'
    | some f =>
      cases hd : z_fd a i with
      | none => exact w'
      | some d =>
        cases ho : z_fo a with
        | none => exact w'
        | some o =>
          obtain ⟨hd1, hd2⟩ := z_fd_so hd
          obtain ⟨ho1, ho2⟩ := z_fo_so ho
          exact w_op w' hi hl hd1 hd2 ho1 ho2 (hf f rfl) hy
  unfold o_open
  cases hr : z_r a p with
  | none => exact w'
  | some i =>
    obtain ⟨hi, rfl, hl⟩ := z_r_so hr
    dsimp only
    by_cases hx : z_nm y = true
    · rw [if_pos hx]
      by_cases hh : z_hw how = true
      · rw [if_pos hh]
        cases hf : z_fn a y with
        | none =>
          dsimp only
          by_cases h8 : how &&& 8 = 0
          · rw [if_pos h8]; exact w'
          · rw [if_neg h8]; exact hop2 i (z_ff a) true hi hl (fun f z => (z_ff_so z).1) (z_nm_pos hx)
        | some f =>
          dsimp only
          by_cases h16 : how &&& 16 = 0
          · rw [if_pos h16]; exact hop2 i (some f) _ hi hl (fun g z => by cases z; exact (z_fn_so hf).1) (z_nm_pos hx)
          · rw [if_neg h16]; exact w'
      · rw [if_neg hh]; exact w'
    · rw [if_neg hx]; exact w'
theorem w_pipe (w : WF N a) (p : Int32) : WF N (o_pipe a p).2.2 := by
  have w' := w
  obtain ⟨wd, wo, wl, wp, ww⟩ := w
  unfold o_pipe
  cases hr : z_r a p with
  | none => exact w'
  | some i =>
    obtain ⟨hi, rfl, hl⟩ := z_r_so hr
    dsimp only
    cases hd : z_fd a i with
    | none => exact w'
    | some r =>
      cases ho : z_fo a with
      | none => exact w'
      | some o1 =>
        cases hk : z_fk a with
        | none => exact w'
        | some k =>
          dsimp only
          cases hw : z_fd2 a i r with
          | none => exact w'
          | some w2 =>
            cases ho' : z_fo2 a o1 with
            | none => exact w'
            | some o2 =>
              obtain ⟨hr1, hr2⟩ := z_fd_so hd
              obtain ⟨ho1, ho2⟩ := z_fo_so ho
              obtain ⟨hk1, hk2⟩ := z_fk_so hk
              obtain ⟨hw1, hw2, hw3⟩ := z_fd2_so hw
              obtain ⟨ho3, ho4, ho5⟩ := z_fo2_so ho'
              have b1 : W_O z_0 (aD (z_nw a o1 1 k 1) i r (some o1)) := W_O_n wo hi hr1 hr2 ho1 ho2 (by omega) (fun _ => hk1) (fun _ => rfl) (by omega)
              have hq2 : (aD (z_nw a o1 1 k 1) i r (some o1)).1 1 o2 = 0 := (z_nw_t (a := a) (s := 1) (k := k) (r := 1) ho5).trans ho4
              have hn2 : (aD (z_nw a o1 1 k 1) i r (some o1)).2.2.2 i w2 = none := (z_u2 (by omega)).trans hw3
              have b2 : W_O z_0 (aD (z_nw (aD (z_nw a o1 1 k 1) i r (some o1)) o2 2 k 2) i w2 (some o2)) := W_O_n b1 hi hw2 hn2 ho3 hq2 (by omega) (fun _ => hk1) (fun _ => rfl) (by omega)
              have l1 : W_L N (aD (z_nw a o1 1 k 1) i r (some o1)) := W_L_w (a := a) (s := 1) (k := k) (r := 1) wl ho1 ho2
              have l2 : W_L N (z_nw (aD (z_nw a o1 1 k 1) i r (some o1)) o2 2 k 2) := W_L_w l1 ho3 hq2
              have d1 : W_D (aD (z_nw a o1 1 k 1) i r (some o1)) := W_D_o (W_D_nw (a := a) wd) ho1
              show WF N (aD (z_nw (aD (z_nw a o1 1 k 1) i r (some o1)) o2 2 k 2) i w2 (some o2))
              have e0 : ∀ f t, 4 ≤ f ∨ f = 0 → (aD (z_nw (aD (z_nw a o1 1 k 1) i r (some o1)) o2 2 k 2) i w2 (some o2)).1 f t = a.1 f t := fun f t hf => (z_nw_4 (a := aD (z_nw a o1 1 k 1) i r (some o1)) (o := o2) (s := 2) (k := k) (r := 2) hf).trans (z_nw_4 (a := a) (o := o1) (s := 1) (k := k) (r := 1) hf)
              have e1 : ∀ f t, f < 2 → (aD (z_nw (aD (z_nw a o1 1 k 1) i r (some o1)) o2 2 k 2) i w2 (some o2)).2.1 f t = a.2.1 f t := fun f t hf => (z_nw_i (a := aD (z_nw a o1 1 k 1) i r (some o1)) (o := o2) (s := 2) (k := k) (r := 2) (Or.inl (by omega))).trans (z_nw_i (a := a) (o := o1) (s := 1) (k := k) (r := 1) (Or.inl (by omega)))
              have e3 : ∀ t q, t ≠ i → (aD (z_nw (aD (z_nw a o1 1 k 1) i r (some o1)) o2 2 k 2) i w2 (some o2)).2.2.2 t q = a.2.2.2 t q := fun t q ht => (z_u1 ht).trans (z_u1 ht)
              refine ⟨W_D_o (W_D_nw (a := aD (z_nw a o1 1 k 1) i r (some o1)) d1) ho3, b2, l2, W_P_n (i := i) wp hl (fun t => e0 0 t (by omega)) e1 e3, ?_⟩
              refine W_W_n (i := i) wd wo wp ww hl (fun t => e0 0 t (by omega)) e1 e3 (fun t ht hkk => ?_) (e0 4 20 (by omega)) (fun t ht hkk => ?_)
              · have h1 : t ≠ o1 := fun z => by subst z; omega
                have h2 : t ≠ o2 := fun z => by subst z; omega
                have et : ∀ f, (aD (z_nw (aD (z_nw a o1 1 k 1) i r (some o1)) o2 2 k 2) i w2 (some o2)).1 f t = a.1 f t := fun f => (z_nw_t (a := aD (z_nw a o1 1 k 1) i r (some o1)) (o := o2) (s := 2) (k := k) (r := 2) (f := f) h2).trans (z_nw_t (a := a) (o := o1) (s := 1) (k := k) (r := 1) (f := f) h1)
                exact ⟨et 1, et 2⟩
              · have hse := z_o_se (a := a) ht
                have hne : a.1 2 t ≠ k := fun z => by
                  rw [z] at hse
                  rcases hkk with hkk | hkk <;> rw [hkk] at hse <;> omega
                refine ⟨e0 4 _ (by omega), ?_, ?_⟩
                · refine (z_nw_o (a := aD (z_nw a o1 1 k 1) i r (some o1)) (s := 2) (k := k) (r := 2) (s' := 1) ho3 hq2 _ (by omega)).trans ?_
                  rw [if_neg (by omega), Nat.add_zero]
                  refine (z_nw_o (a := a) (s := 1) (k := k) (r := 1) (s' := 1) ho1 ho2 _ (by omega)).trans ?_
                  rw [if_neg (fun z => hne z.2.symm), Nat.add_zero]
                · refine (z_nw_o (a := aD (z_nw a o1 1 k 1) i r (some o1)) (s := 2) (k := k) (r := 2) (s' := 2) ho3 hq2 _ (by omega)).trans ?_
                  rw [if_neg (fun z => hne z.2.symm), Nat.add_zero]
                  refine (z_nw_o (a := a) (s := 1) (k := k) (r := 1) (s' := 2) ho1 ho2 _ (by omega)).trans ?_
                  rw [if_neg (by omega), Nat.add_zero]
/-- who must wait, waits -/
theorem w_wait {l m : Nat} (w : WF N a) (hi : i < 8) (hl : a.1 0 i = 1) (hd : d < 8) (hs : a.2.2.2 i d = some o) (hm : m ≤ 8) (hll : l = 2 ∨ l = 3) (hw : z_w a o (decide (l = 2)) (Int32.ofNat m) = true) : WF N (z_wt a i l (Int32.ofNat d) (Int32.ofNat m)) := by
  obtain ⟨wd, wo, wl, wp, ww⟩ := w
  have e0 : ∀ t, (z_wt a i l (Int32.ofNat d) (Int32.ofNat m)).1 0 t = if t = i then l else a.1 0 t := fun t => by
    show (if 0 = 0 ∧ t = i then l else a.1 0 t) = _
    by_cases hti : t = i
    · rw [if_pos ⟨rfl, hti⟩, if_pos hti]
    · rw [if_neg (fun z => hti z.2), if_neg hti]
  have e1 : (z_wt a i l (Int32.ofNat d) (Int32.ofNat m)).2.1 0 i = Int32.ofNat d := by
    show (if 0 = 1 ∧ i = i then Int32.ofNat m else if 0 = 0 ∧ i = i then Int32.ofNat d else a.2.1 0 i) = _
    rw [if_neg (by omega), if_pos ⟨rfl, rfl⟩]
  have e2 : (z_wt a i l (Int32.ofNat d) (Int32.ofNat m)).2.1 1 i = Int32.ofNat m := by
    show (if 1 = 1 ∧ i = i then Int32.ofNat m else if 1 = 0 ∧ i = i then Int32.ofNat d else a.2.1 1 i) = _
    rw [if_pos ⟨rfl, rfl⟩]
  have e3 : ∀ f t, t ≠ i → (z_wt a i l (Int32.ofNat d) (Int32.ofNat m)).2.1 f t = a.2.1 f t := fun f t ht => by
    show (if f = 1 ∧ t = i then Int32.ofNat m else if f = 0 ∧ t = i then Int32.ofNat d else a.2.1 f t) = _
    rw [if_neg (fun z => ht z.2), if_neg (fun z => ht z.2)]
  refine ⟨wd, wo, wl, ?_, ?_⟩
  · intro t ht
    obtain ⟨q1, q2, q3⟩ := wp t ht
    rw [e0]
    by_cases hti : t = i
    · subst hti
      rw [if_pos rfl]
      exact ⟨by omega, fun z => by omega, fun _ => ⟨d, o, hd, e1, hs, m, hm, e2⟩⟩
    · rw [if_neg hti, e3 0 t hti, e3 1 t hti]
      exact ⟨q1, q2, q3⟩
  · intro t ht h2
    rw [e0] at h2
    by_cases hti : t = i
    · subst hti
      unfold z_mw z_t
      rw [e0, if_pos rfl, e1, e2, n_to (by omega)]
      have hs' : (z_wt a t l (Int32.ofNat d) (Int32.ofNat m)).2.2.2 t d = some o := hs
      rw [hs']
      exact (z_w_co (a := a) rfl rfl rfl (fun _ => ⟨rfl, rfl, rfl⟩)).trans hw
    · rw [if_neg hti] at h2
      rw [z_mw_co (a := a) (by rw [e0, if_neg hti]) (e3 0 t hti) (e3 1 t hti) (fun _ => rfl) (fun r n => z_w_co (a := a) rfl rfl rfl (fun _ => ⟨rfl, rfl, rfl⟩))]
      exact ww t ht h2
theorem w_read (w : WF N a) (p d n : Int32) : WF N (o_read a p d n).2.2 := by
  have w' := w
  obtain ⟨wd, wo, wl, wp, ww⟩ := w
  unfold o_read
  cases hr : z_r a p with
  | none => exact w'
  | some i =>
    obtain ⟨hi, rfl, hl⟩ := z_r_so hr
    dsimp only
    rcases n_ca n 9 with ⟨m, hm, hm', rfl⟩ | hno
    · rw [if_pos (n_in hm' hm)]
      cases hd : z_d a i d with
      | none => exact w'
      | some o =>
        obtain ⟨j, hj, rfl, hs⟩ := z_d_so hd
        have ho := wd i hi j hj o hs
        have hk : 0 < a.1 1 o := (wo o ho).1.mpr (by have := z_h_po hi hj hs; omega)
        dsimp only
        by_cases hb : a.2.1 2 o &&& 1 = 0
        · rw [if_pos hb]; exact w'
        · rw [if_neg hb]
          by_cases hz : z_w a o true (Int32.ofNat m) = true
          · rw [if_pos hz]; exact w_wait w' hi hl hj hs (by omega) (Or.inl rfl) hz
          · rw [if_neg hz, n_to hm']
            obtain ⟨k1, k2, k3, k4⟩ := z_tke_in (a := aJ a i 0) (i := i) (n := m) wd wo wl wp ho hk
            exact WF_k k1 k2 k3 k4
    · rw [if_neg hno]; exact w'
theorem z_pb_in {y : Int64} (ho : o < 20) : ∀ m N a, W_O z_0 a → W_L N a → 0 < a.1 1 o → z_rm a o m → W_O z_0 (z_pb o y m a) ∧ W_L (N + m) (z_pb o y m a) := by
  intro m
  induction m with
  | zero => intro N a wo wl _ _; exact ⟨wo, wl⟩
  | succ m ih =>
    intro N a wo wl hk hr
    have := ih (N + 1) _ (z_p1_O (x := z_b y m) wo (fun h3 => by have := hr.2 h3; omega)) (z_p1_L wo wl ho hk hr) (by rw [z_p1_n (by omega) (by omega) (by omega)]; exact hk) (z_p1_rm ho hr)
    exact ⟨this.1, by rw [show N + (m + 1) = N + 1 + m by omega]; exact this.2⟩
theorem w_write (w : WF N a) (p d : Int32) (y : Int64) (n : Int32) : WF (N + 8) (o_write a p d y n).2.2 := by
  have w' := WF_8 w
  obtain ⟨wd, wo, wl, wp, ww⟩ := w
  unfold o_write
  cases hr : z_r a p with
  | none => exact w'
  | some i =>
    obtain ⟨hi, rfl, hl⟩ := z_r_so hr
    dsimp only
    rcases n_ca n 9 with ⟨m, hm, hm', rfl⟩ | hno
    · rw [if_pos (n_in hm' hm)]
      cases hd : z_d a i d with
      | none => exact w'
      | some o =>
        obtain ⟨j, hj, rfl, hs⟩ := z_d_so hd
        have ho := wd i hi j hj o hs
        have hk : 0 < a.1 1 o := (wo o ho).1.mpr (by have := z_h_po hi hj hs; omega)
        dsimp only
        by_cases hb : a.2.1 2 o &&& 2 = 0
        · rw [if_pos hb]; exact w'
        · rw [if_neg hb]
          by_cases h5 : a.1 1 o = 2 ∧ z_o a 1 (a.1 2 o) = 0
          · rw [if_pos h5]; exact w'
          · rw [if_neg h5]
            by_cases hz : z_w a o false (Int32.ofNat m) = true
            · rw [if_pos hz]; exact w_wait w' hi hl hj hs (by omega) (Or.inr rfl) hz
            · rw [if_neg hz, n_to hm']
              by_cases h7 : a.1 1 o = 3 ∧ 64 < z_pl a o + m
              · rw [if_pos h7]; exact w'
              · rw [if_neg h7]
                obtain ⟨q1, q2, q3, q4⟩ := z_put_ok wo wl ho hk (show m ≤ 8 by omega) h5 hb hz h7
                obtain ⟨g1, g2⟩ := z_pb_in (y := y) ho m N _ q1 q2 q3 q4
                obtain ⟨r1, r2, r3, r4⟩ := z_put_r (a := a) (o := o) (x := y) (m := m)
                have wd' : W_D (z_put a o y m) := by unfold W_D; rw [r3]; exact wd
                have wp' : W_P (z_put a o y m) := W_P_co wp (fun t _ => r4 0 t (by omega) (by omega) (by omega)) r1 r3
                exact WF_mo (by omega) (WF_k wd' g1 g2 wp')
    · rw [if_neg hno]; exact w'
theorem w_seek (w : WF N a) (p d v fr : Int32) : WF N (o_seek a p d v fr).2.2 := by
  have w' := w
  obtain ⟨wd, wo, wl, wp, ww⟩ := w
  have hsk : ∀ o s0, o < 20 → a.1 1 o = 3 → WF N (z_sk2 a o s0 v).2.2 := by
    intro o s0 ho h3
    unfold z_sk2
    by_cases h0 : (lg_cmp ((s0.toInt64) + (v.toInt64)) 0) < 0
    · rw [if_pos h0]; exact w'
    · rw [if_neg h0]
      by_cases h1 : (lg_cmp ((s0.toInt64) + (v.toInt64)) 64) ≤ 0
      · rw [if_pos h1]
        have h5 := (n_64 h0 h1).2
        refine ⟨wd, W_O_p wo h5 h3, wl, wp, ?_⟩
        exact W_W_g wd wo wp ww (fun t _ _ => ⟨rfl, rfl, rfl, fun _ => rfl⟩) (fun t _ _ => ⟨rfl, rfl⟩) rfl (fun t _ _ => ⟨rfl, rfl, rfl⟩)
      · rw [if_neg h1]; exact w'
  unfold o_seek
  cases hr : z_r a p with
  | none => exact w'
  | some i =>
    obtain ⟨hi, rfl, hl⟩ := z_r_so hr
    dsimp only
    by_cases h1 : fr < 0
    · rw [if_pos h1]; exact w'
    · rw [if_neg h1]
      by_cases h2 : fr ≤ 2
      · rw [if_pos h2]
        cases hd : z_d a i d with
        | none => exact w'
        | some o =>
          obtain ⟨j, hj, rfl, hs⟩ := z_d_so hd
          have ho := wd i hi j hj o hs
          dsimp only
          by_cases h3 : a.1 1 o = 3
          · rw [if_pos h3]
            by_cases f0 : fr = 0
            · rw [if_pos f0]; exact hsk o _ ho h3
            · rw [if_neg f0]
              by_cases f1 : fr = 1
              · rw [if_pos f1]; exact hsk o _ ho h3
              · rw [if_neg f1]; exact hsk o _ ho h3
          · rw [if_neg h3]; exact w'
      · rw [if_neg h2]; exact w'
theorem w_nm {c : AS} (w : WF N a) (h1 : c.1 = a.1) (h2 : ∀ f t, f ≠ 3 → c.2.1 f t = a.2.1 f t) (h3 : c.2.2 = a.2.2) (hn : ∀ f, f < 6 → c.2.1 3 f = 0 ∨ 0 < c.2.1 3 f) : WF N (z_s z_0 c) := by
  obtain ⟨wd, wo, wl, wp, ww⟩ := w
  have hz : ∀ s k, z_o c s k = z_o a s k := fun s k => z_o_1 h1 s k
  have hh : ∀ t, z_h c t = z_h a t := fun t => z_h_1 (by rw [h3]) t
  have woc : W_O z_0 c := fun t ht => by rw [hh, h1, h2 2 t (by omega)]; exact wo t ht
  have wlc : W_L N c := by
    obtain ⟨l1, l2, l3, l4, l5, l6⟩ := wl
    exact ⟨hn, fun k hk => by rw [hz, hz, h1]; exact l2 k hk, by rw [h1]; exact l3, by rw [h1]; exact l4, by rw [h1]; exact l5, by rw [h1]; exact l6⟩
  have wdc : W_D c := by unfold W_D; rw [h3]; exact wd
  have wpc : W_P c := fun t ht => by rw [h1, h2 0 t (by omega), h2 1 t (by omega), h3]; exact wp t ht
  have wwc : W_W c := W_W_g wd wo wp ww (fun t _ _ => ⟨by rw [h1], h2 0 t (by omega), h2 1 t (by omega), fun _ => by rw [h3]⟩) (fun t _ _ => by rw [h1]; exact ⟨rfl, rfl⟩) (by rw [h1]) (fun t _ _ => ⟨by rw [h1], hz _ _, hz _ _⟩)
  refine ⟨wdc, W_O_s (W_O_q woc), W_L_s wlc, wpc, ?_⟩
  refine W_W_g wdc woc wpc wwc (fun t _ _ => ⟨rfl, rfl, rfl, fun _ => rfl⟩) (fun t ht _ => ⟨z_s_k0 woc ht, rfl⟩) (z_s_l2 (by omega)) (fun t ht hk => ?_)
  have hth := ((woc t ht).2.2.1 hk).1
  have hse := z_o_se (a := c) ht
  refine ⟨?_, z_s_o0 woc 1 _, z_s_o0 woc 2 _⟩
  rw [z_s_ln hth, z_s_o0 woc, z_s_o0 woc, if_neg]
  rcases hk with hk | hk <;> rw [hk] at hse <;> omega
theorem aI_3 {f t : Nat} {v : Int32} {g : Nat} (hg : g ≠ 3) : (aI a 3 f v).2.1 g t = a.2.1 g t := by rw [aI_of, if_neg (fun z => hg z.1)]
theorem w_unlink (w : WF N a) (p y : Int32) : WF N (o_unlink a p y).2.2 := by
  unfold o_unlink
  cases hr : z_r a p with
  | none => exact w
  | some i =>
    dsimp only
    by_cases hx : z_nm y = true
    · rw [if_pos hx]
      cases hf : z_fn a y with
      | none => exact w
      | some f => exact w_nm w rfl (fun g t hg => aI_3 hg) rfl (W_L_n (f := f) w.2.2.1 (Or.inl rfl)).1
    · rw [if_neg hx]; exact w
theorem w_rename (w : WF N a) (p y v : Int32) : WF N (o_rename a p y v).2.2 := by
  unfold o_rename
  cases hr : z_r a p with
  | none => exact w
  | some i =>
    dsimp only
    by_cases hx : z_nm y = true
    · rw [if_pos hx]
      by_cases hy : z_nm v = true
      · rw [if_pos hy]
        cases hf : z_fn a y with
        | none => exact w
        | some f =>
          dsimp only
          cases hg : z_fn a v with
          | none => exact w_nm w rfl (fun g t hg => aI_3 hg) rfl (W_L_n (f := f) w.2.2.1 (Or.inr (z_nm_pos hy))).1
          | some g => exact w_nm w rfl (fun g' t hg' => (aI_3 (a := aI a 3 g 0) hg').trans (aI_3 hg')) rfl (W_L_n (f := f) (W_L_n (f := g) w.2.2.1 (Or.inl rfl)) (Or.inr (z_nm_pos hy))).1
      · rw [if_neg hy]; exact w
    · rw [if_neg hx]; exact w
theorem w_type (w : WF N a) (y : Int32) : WF N (o_type a y).2.2 := by
  unfold o_type
  by_cases hy : z_by y = true
  · rw [if_pos hy]
    by_cases h4 : a.1 4 20 < 40
    · rw [if_pos h4]
      obtain ⟨k1, k2, k3, k4⟩ := z_ad_in (x := y) w.1 w.2.1 w.2.2.1 w.2.2.2.1 h4
      exact WF_k k1 k2 k3 k4
    · rw [if_neg h4]; exact w
  · rw [if_neg hy]; exact w
end
