/-! THE CLASS: close, dup, open, pipe, seek, unlink, rename, type -/
section
variable {e : Nat → Nat} {a b : AS} {M st : XS} {i d o N w r c : Nat}
def o_close (a : AS) (p d : Int32) : Int32 × Int32 × AS := match z_r a p with
  | none => (1, 0, a)
  | some i => match z_d a i d with
    | none => (0, -1, a)
    | some _ => (0, 0, (z_k 8 0 (z_s z_0 (aD a i d.toNatClampNeg none))).2)
theorem W_P_d {v : Option Nat} (wp : W_P a) (hl : a.1 0 i = 1) : W_P (aD a i d v) := by
  intro t ht
  obtain ⟨q1, q2, q3⟩ := wp t ht
  by_cases hti : t = i
  · subst hti
    exact ⟨q1, fun z => by have z : a.1 0 t = 0 := z; omega, fun z => by have z : 2 ≤ a.1 0 t := z; omega⟩
  · have e3 : ∀ q, (aD a i d v).2.2.2 t q = a.2.2.2 t q := fun q => z_u1 hti
    refine ⟨q1, fun z q hq => by rw [e3]; exact q2 z q hq, fun z => ?_⟩
    obtain ⟨d', o, hd, p1, p2, p3⟩ := q3 z
    exact ⟨d', o, hd, p1, by rw [e3]; exact p2, p3⟩
theorem W_D_n (wd : W_D a) : W_D (aD a i d none) := by
  intro p hp q hq x hx
  have hx' : (if p = i ∧ q = d then none else a.2.2.2 p q) = some x := hx
  by_cases hc : p = i ∧ q = d
  · rw [if_pos hc] at hx'; exact nomatch hx'
  · rw [if_neg hc] at hx'; exact wd p hp q hq x hx'
theorem W_D_o (wd : W_D a) (ho : o < 20) : W_D (aD a i d (some o)) := by
  intro p hp q hq x hx
  have hx' : (if p = i ∧ q = d then some o else a.2.2.2 p q) = some x := hx
  by_cases hc : p = i ∧ q = d
  · rw [if_pos hc] at hx'; cases hx'; exact ho
  · rw [if_neg hc] at hx'; exact wd p hp q hq x hx'
theorem z_clo_in (wd : W_D a) (wo : W_O z_0 a) (wl : W_L N a) (wp : W_P a) (hi : i < 8) (hd : d < 8) (hl : a.1 0 i = 1) :
    W_D (z_s z_0 (aD a i d none)) ∧ W_O z_0 (z_s z_0 (aD a i d none)) ∧ W_L N (z_s z_0 (aD a i d none)) ∧ W_P (z_s z_0 (aD a i d none)) := by
  have h1 := W_O_s (W_Q_d (W_O_q wo) hi hd)
  have h2 : W_L N (z_s z_0 (aD a i d none)) := W_L_s (a := aD a i d none) wl
  have h3 := W_D_n (i := i) (d := d) wd
  have h4 := W_P_d (d := d) (v := none) wp hl
  exact ⟨h3, h1, h2, h4⟩
theorem c_close (h : RC z_0 a M st) (wd : W_D a) (wo : W_O z_0 a) (wl : W_L N a) (wp : W_P a) (p d : Int32) : ∃ s', f_D_close 0 p d st = some (z_ret (o_close a p d).1 (o_close a p d).2.1, s') ∧ RC z_0 (o_close a p d).2.2 M s' := by
  unfold f_D_close o_close
  rw [c_readyProc h wp p]
  cases hz : z_r a p with
  | none => exact ⟨_, rfl, h⟩
  | some i =>
    obtain ⟨hi, rfl, hl⟩ := z_r_so hz
    dsimp only
    rw [c_openingAt h hi d]
    dsimp only
    cases ho : z_d a i d with
    | none => exact ⟨_, rfl, h⟩
    | some o =>
      obtain ⟨j, hj, rfl, hs⟩ := z_d_so ho
      dsimp only
      rw [n_to (by omega)]
      obtain ⟨s1, g1, g2⟩ := c_release_so h wd wo wl hi hj hs (fun _ => Nat.zero_le _)
      rw [g1]
      dsimp only
      obtain ⟨k1, k2, k3, k4⟩ := z_clo_in wd wo wl wp hi hj hl
      obtain ⟨s2, g3, g4⟩ := c_wakeAll g2 k1 k2 k3 k4
      rw [g3]
      exact ⟨_, rfl, g4⟩
def o_dup (a : AS) (p d t : Int32) : Int32 × Int32 × AS := match z_r a p with
  | none => (1, 0, a)
  | some i => if t < -1 then (2, 0, a) else if t < 8 then (match z_d a i d with
    | none => (0, -1, a)
    | some o => if t = -1 then (match z_fd a i with
        | none => (0, -4, a)
        | some j => (0, Int32.ofNat j, aD a i j (some o)))
      else (0, t, (z_k 8 0 (z_s z_0 (aD a i t.toNatClampNeg (some o)))).2)) else (2, 0, a)
theorem W_O_put (wo : W_O (z_1 e o) a) (hi : i < 8) (hd : d < 8) (hs : a.2.2.2 i d = none) : W_O e (aD a i d (some o)) := by
  intro t ht
  rw [z_h_so hi hd hs]
  exact wo t ht
theorem W_Q_put (wo : W_O z_0 a) (hi : i < 8) (hd : d < 8) (ho : o < 20) (hk : 0 < z_h a o) : W_Q z_0 (aD a i d (some o)) := by
  intro t ht
  obtain ⟨w1, w2⟩ := wo t ht
  refine ⟨fun z => w1.mpr ?_, w2⟩
  have h1 := z_h_D a hi hd (some o) t
  have e0 : z_0 t = 0 := rfl
  rw [e0] at z ⊢
  by_cases hto : t = o
  · subst hto; omega
  · rw [if_neg (c := some o = some t) (fun z => hto (Option.some.inj z).symm)] at h1
    omega
theorem z_dup_in (wd : W_D a) (wo : W_O z_0 a) (wl : W_L N a) (wp : W_P a) (hi : i < 8) (hd : d < 8) (hl : a.1 0 i = 1) (ho : o < 20) (hk : 0 < z_h a o) :
    W_D (z_s z_0 (aD a i d (some o))) ∧ W_O z_0 (z_s z_0 (aD a i d (some o))) ∧ W_L N (z_s z_0 (aD a i d (some o))) ∧ W_P (z_s z_0 (aD a i d (some o))) := by
  have h1 := W_O_s (W_Q_put wo hi hd ho hk)
  have h2 : W_L N (z_s z_0 (aD a i d (some o))) := W_L_s (a := aD a i d (some o)) wl
  have h3 := W_D_o (i := i) (d := d) wd ho
  have h4 := W_P_d (d := d) (v := some o) wp hl
  exact ⟨h3, h1, h2, h4⟩
theorem z_mw_d {v : Option Nat} {t : Nat} (ht : t ≠ i) : z_mw (aD a i d v) t = z_mw a t := by
  unfold z_mw z_t
  rw [show (aD a i d v).2.2.2 t ((aD a i d v).2.1 0 t).toNatClampNeg = a.2.2.2 t (a.2.1 0 t).toNatClampNeg from z_u1 ht]
  rfl
theorem W_W_d {v : Option Nat} (ww : W_W a) (hl : a.1 0 i = 1) : W_W (aD a i d v) := by
  intro t ht h2
  have h2 : 2 ≤ a.1 0 t := h2
  have hti : t ≠ i := fun z => by subst z; omega
  rw [z_mw_d hti]
  exact ww t ht h2
theorem c_dup (h : RC z_0 a M st) (wd : W_D a) (wo : W_O z_0 a) (wl : W_L N a) (wp : W_P a) (ww : W_W a) (p d t : Int32) : ∃ s', f_D_dup 0 p d t st = some (z_ret (o_dup a p d t).1 (o_dup a p d t).2.1, s') ∧ RC z_0 (o_dup a p d t).2.2 M s' := by
  unfold f_D_dup o_dup
  rw [c_readyProc h wp p]
  cases hz : z_r a p with
  | none => exact ⟨_, rfl, h⟩
  | some i =>
    obtain ⟨hi, rfl, hl⟩ := z_r_so hz
    dsimp only
    by_cases h1 : t < -1
    · rw [if_pos h1, if_pos h1]; exact ⟨_, rfl, h⟩
    · rw [if_neg h1, if_neg h1]
      by_cases h8 : t < 8
      · rw [if_pos h8, if_pos h8, c_openingAt h hi d]
        dsimp only
        cases ho : z_d a i d with
        | none => exact ⟨_, rfl, h⟩
        | some o =>
          obtain ⟨j, hj, rfl, hs⟩ := z_d_so ho
          have hoo := wd i hi j hj o hs
          have hk := z_h_po hi hj hs
          dsimp only
          by_cases hm : t = -1
          · rw [if_pos hm, if_pos hm, show (0 : Int32) = Int32.ofNat 0 from rfl, c_freeFrom h hi (by omega)]
            dsimp only
            cases hf : z_fd a i with
            | none =>
              have hf' : z_f (fun d => decide (a.2.2.2 i d = none)) 0 (8 - 0) = none := hf
              rw [hf', if_neg (by decide)]
              exact ⟨_, rfl, h⟩
            | some k =>
              have hf' : z_f (fun d => decide (a.2.2.2 i d = none)) 0 (8 - 0) = some k := hf
              obtain ⟨hk8, hkn⟩ := z_fd_so hf
              rw [hf', if_pos (show Int32.ofNat 0 ≤ z_e (some k) from n_up (by omega) (by omega))]
              obtain ⟨s1, g1, g2⟩ := c_hold_no h hi hk8 hoo hkn
              rw [show z_e (some k) = Int32.ofNat k from rfl, g1]
              dsimp only
              have wo' : W_O z_0 (aD a i k (some o)) := W_O_put (W_O_1 wo (by have e0 : z_0 o = 0 := rfl; omega)) hi hk8 hkn
              have wp' := W_P_d (d := k) (v := some o) wp hl
              have ww' := W_W_d (d := k) (v := some o) ww hl
              have wd' := W_D_o (i := i) (d := k) wd hoo
              have wl' : W_L N (aD a i k (some o)) := wl
              obtain ⟨s2, g3, g4⟩ := c_wakeAll g2 wd' wo' wl' wp'
              rw [z_k_id 8 0 (fun j _ hj => ww' j (by omega))] at g3 g4
              rw [g3]
              exact ⟨_, rfl, g4⟩
          · rw [if_neg hm, if_neg hm]
            rcases n_ca t 8 with ⟨k, hk8, hk', rfl⟩ | hx
            · rw [if_pos (show (0 : Int32) ≤ Int32.ofNat k from n_up (k := 0) (by omega) (by omega)), n_to hk']
              have hh : ∃ s', f_P_hold i (Int32.ofNat k) (some o) st = some ((), s') ∧ RC z_0 (z_s z_0 (aD a i k (some o))) M s' := by
                cases hq : a.2.2.2 i k with
                | none =>
                  obtain ⟨s1, g1, g2⟩ := c_hold_no h hi hk8 hoo hq
                  have wo' : W_O z_0 (aD a i k (some o)) := W_O_put (W_O_1 wo (by have e0 : z_0 o = 0 := rfl; omega)) hi hk8 hq
                  exact ⟨s1, g1, RC_s (N := N) g2 wo' wl⟩
                | some o' =>
                  obtain ⟨s1, g1, g2⟩ := c_hold_so h wd wo wl (fun _ => Nat.zero_le _) hi hk8 hoo (by have e0 : z_0 o = 0 := rfl; omega) hq
                  rw [z_s_su hi hk8 hq] at g2
                  exact ⟨s1, g1, g2⟩
              obtain ⟨s1, g1, g2⟩ := hh
              rw [g1]
              dsimp only
              obtain ⟨k1, k2, k3, k4⟩ := z_dup_in wd wo wl wp hi hk8 hl hoo hk
              obtain ⟨s2, g3, g4⟩ := c_wakeAll g2 k1 k2 k3 k4
              rw [g3]
              exact ⟨_, rfl, g4⟩
            · exfalso
              have e1 : ¬ t.toInt < (-1 : Int32).toInt := fun z => h1 (Int32.lt_iff_toInt_lt.mpr z)
              have e2 : t.toInt < (8 : Int32).toInt := Int32.lt_iff_toInt_lt.mp h8
              have e3 : t.toInt ≠ (-1 : Int32).toInt := fun z => hm (Int32.toInt.inj z)
              have e4 : (-1 : Int32).toInt = -1 := by decide
              have e5 : (8 : Int32).toInt = 8 := by decide
              rw [e4] at e1 e3
              rw [e5] at e2
              refine hx ⟨fun z => ?_, ?_⟩
              · have := Int32.lt_iff_toInt_lt.mp z
                have e6 : (0 : Int32).toInt = 0 := by decide
                omega
              · show t.toInt.toNat < 8
                omega
      · rw [if_neg h8, if_neg h8]; exact ⟨_, rfl, h⟩
def z_nm (x : Int32) : Bool := decide (¬ x < 1 ∧ x ≤ 9)
theorem c_checkName (x : Int32) : f_D_checkName x st = some (if z_nm x = true then .inl () else .inr "java/lang/IllegalArgumentException") := by
  unfold f_D_checkName z_nm
  by_cases h1 : x < 1
  · rw [if_pos h1, if_neg (by rw [decide_eq_true_eq]; exact fun z => z.1 h1)]
  · rw [if_neg h1]
    by_cases h9 : x ≤ 9
    · rw [if_pos h9, if_pos (decide_eq_true ⟨h1, h9⟩)]
    · rw [if_neg h9, if_neg (by rw [decide_eq_true_eq]; exact fun z => h9 z.2)]
/-- the ways to open that there are -/
def z_ho (n : Nat) : Bool := decide (1 ≤ n ∧ n < 64 ∧ n % 4 ≠ 0 ∧ (n / 4 % 2 = 0 ∨ n / 2 % 2 = 1) ∧ (n / 16 % 2 = 0 ∨ n / 8 % 2 = 1) ∧ (n / 32 % 2 = 0 ∨ n / 2 % 2 = 1))
def z_hw (x : Int32) : Bool := decide (x_in x 64) && z_ho x.toNatClampNeg
set_option maxRecDepth 100000 in
theorem c_how_n {n : Nat} (hn : n < 64) : f_D_checkHow (Int32.ofNat n) st = some (if z_ho n = true then .inl () else .inr "java/lang/IllegalArgumentException") := by
  have h : n = 0 ∨ n = 1 ∨ n = 2 ∨ n = 3 ∨ n = 4 ∨ n = 5 ∨ n = 6 ∨ n = 7 ∨ n = 8 ∨ n = 9 ∨ n = 10 ∨ n = 11 ∨ n = 12 ∨ n = 13 ∨ n = 14 ∨ n = 15 ∨ n = 16 ∨ n = 17 ∨ n = 18 ∨ n = 19 ∨ n = 20 ∨ n = 21 ∨ n = 22 ∨ n = 23 ∨ n = 24 ∨ n = 25 ∨ n = 26 ∨ n = 27 ∨ n = 28 ∨ n = 29 ∨ n = 30 ∨ n = 31 ∨ n = 32 ∨ n = 33 ∨ n = 34 ∨ n = 35 ∨ n = 36 ∨ n = 37 ∨ n = 38 ∨ n = 39 ∨ n = 40 ∨ n = 41 ∨ n = 42 ∨ n = 43 ∨ n = 44 ∨ n = 45 ∨ n = 46 ∨ n = 47 ∨ n = 48 ∨ n = 49 ∨ n = 50 ∨ n = 51 ∨ n = 52 ∨ n = 53 ∨ n = 54 ∨ n = 55 ∨ n = 56 ∨ n = 57 ∨ n = 58 ∨ n = 59 ∨ n = 60 ∨ n = 61 ∨ n = 62 ∨ n = 63 := by omega
  rcases h with rfl | rfl | rfl | rfl | rfl | rfl | rfl | rfl | rfl | rfl | rfl | rfl | rfl | rfl | rfl | rfl | rfl | rfl | rfl | rfl | rfl | rfl | rfl | rfl | rfl | rfl | rfl | rfl | rfl | rfl | rfl | rfl | rfl | rfl | rfl | rfl | rfl | rfl | rfl | rfl | rfl | rfl | rfl | rfl | rfl | rfl | rfl | rfl | rfl | rfl | rfl | rfl | rfl | rfl | rfl | rfl | rfl | rfl | rfl | rfl | rfl | rfl | rfl | rfl <;> rfl
theorem c_checkHow (x : Int32) : f_D_checkHow x st = some (if z_hw x = true then .inl () else .inr "java/lang/IllegalArgumentException") := by
  unfold z_hw
  rcases n_ca x 64 with ⟨n, hn, hn', rfl⟩ | hx
  · rw [c_how_n hn, decide_eq_true (n_in hn' hn), n_to hn', Bool.true_and]
  · rw [decide_eq_false hx, Bool.false_and, if_neg (by decide)]
    have hk : ∀ s0 s1, f_D_checkHow_28 x 0 s0 st = some (.inr "java/lang/IllegalArgumentException") ∧ f_D_checkHow_44 x 0 s0 s1 st = some (.inr "java/lang/IllegalArgumentException") := fun s0 s1 => by
      have h71 : ∀ x2 x3 x4 s0, f_D_checkHow_71 x 0 x2 x3 x4 s0 st = some (.inr "java/lang/IllegalArgumentException") := fun _ _ _ _ => by unfold f_D_checkHow_71; rw [if_pos rfl]
      have h44 : ∀ x2 s0, f_D_checkHow_44 x 0 x2 s0 st = some (.inr "java/lang/IllegalArgumentException") := fun _ _ => by
        unfold f_D_checkHow_44; split <;> split <;> exact h71 _ _ _ _
      exact ⟨by unfold f_D_checkHow_28; split; (split <;> exact h44 _ _); exact h44 _ _, h44 _ _⟩
    unfold f_D_checkHow
    rcases n_no (by omega) hx with h1 | ⟨h1, h2⟩
    · rw [if_pos (Int32.lt_trans h1 (by decide))]
      split <;> exact (hk _ 0).1
    · by_cases h3 : x < 1
      · rw [if_pos h3]; split <;> exact (hk _ 0).1
      · rw [if_neg h3, if_pos (Int32.lt_of_lt_of_le (show (63 : Int32) < Int32.ofNat 64 by decide) h2)]
        split <;> exact (hk _ 0).1
end
