/-! THE CLASS: seek, unlink, rename, type; what it tells -/
section
variable {e : Nat → Nat} {a b : AS} {M st : XS} {i d o N w r c : Nat}
/-- a new position, or none -/
def z_sk2 (a : AS) (o : Nat) (s0 : Int32) (v : Int32) : Int32 × Int32 × AS :=
  if (lg_cmp ((s0.toInt64) + (v.toInt64)) 0) < 0 then (0, -1, a) else if (lg_cmp ((s0.toInt64) + (v.toInt64)) 64) ≤ 0 then
    (0, ((s0.toInt64) + (v.toInt64)).toInt32, aN a 3 o (((s0.toInt64) + (v.toInt64)).toInt32).toNatClampNeg) else (0, -1, a)
def o_seek (a : AS) (p d v fr : Int32) : Int32 × Int32 × AS := match z_r a p with
  | none => (1, 0, a)
  | some i => if fr < 0 then (2, 0, a) else if fr ≤ 2 then (match z_d a i d with
    | none => (0, -1, a)
    | some o => if a.1 1 o = 3 then (if fr = 0 then z_sk2 a o 0 v else if fr = 1 then z_sk2 a o (Int32.ofNat (a.1 3 o)) v else z_sk2 a o (Int32.ofNat (a.1 4 (8 + a.1 2 o))) v) else (0, -1, a)) else (2, 0, a)
theorem n_64 {w : Int64} (h0 : ¬ lg_cmp w 0 < 0) (h1 : lg_cmp w 64 ≤ 0) : Int32.ofNat (w.toInt32).toNatClampNeg = w.toInt32 ∧ (w.toInt32).toNatClampNeg ≤ 64 := by
  have g0 : 0 ≤ w.toInt := by
    unfold lg_cmp at h0
    by_cases c1 : w > 0
    · have := Int64.lt_iff_toInt_lt.mp c1
      have e0 : (0 : Int64).toInt = 0 := by decide
      omega
    · rw [if_neg c1] at h0
      by_cases c2 : w = 0
      · subst c2; decide
      · rw [if_neg c2] at h0; exact absurd (by decide) h0
  have g1 : w.toInt ≤ 64 := by
    unfold lg_cmp at h1
    have e0 : (64 : Int64).toInt = 64 := by decide
    by_cases c1 : w > 64
    · rw [if_pos c1] at h1; exact absurd h1 (by decide)
    · have : ¬ (64 : Int64).toInt < w.toInt := fun z => c1 (Int64.lt_iff_toInt_lt.mpr z)
      omega
  have g2 : w.toInt32.toInt = w.toInt := by
    rw [Int64.toInt_toInt32]
    exact Int.bmod_eq_of_le (by omega) (by omega)
  have g3 : (w.toInt32).toNatClampNeg = w.toInt.toNat := by
    show w.toInt32.toInt.toNat = _
    rw [g2]
  refine ⟨Int32.ofNat_toNatClampNeg _ (Int32.not_lt.mp (fun z => ?_)), by omega⟩
  have := Int32.lt_iff_toInt_lt.mp z
  have e0 : (0 : Int32).toInt = 0 := by decide
  omega
theorem c_seek_82 {s0 v : Int32} (h : RC e a M st) : ∃ s', f_D_seek_82 v (some o) s0 st = some (z_ret (z_sk2 a o s0 v).1 (z_sk2 a o s0 v).2.1, s') ∧ RC e (z_sk2 a o s0 v).2.2 M s' := by
  unfold f_D_seek_82 z_sk2
  by_cases h0 : (lg_cmp ((s0.toInt64) + (v.toInt64)) 0) < 0
  · rw [if_pos h0, if_pos h0]; exact ⟨_, rfl, h⟩
  · rw [if_neg h0, if_neg h0]
    by_cases h1 : (lg_cmp ((s0.toInt64) + (v.toInt64)) 64) ≤ 0
    · rw [if_pos h1, if_pos h1]
      dsimp only
      rw [u_Ie, z_ue]
      refine ⟨_, rfl, ?_⟩
      have := c_pos (o := o) (v := (((s0.toInt64) + (v.toInt64)).toInt32).toNatClampNeg) h
      rw [(n_64 h0 h1).1] at this
      exact this
    · rw [if_neg h1, if_neg h1]; exact ⟨_, rfl, h⟩
theorem c_seek (h : RC z_0 a M st) (wd : W_D a) (wo : W_O z_0 a) (wp : W_P a) (p d v fr : Int32) : ∃ s', f_D_seek 0 p d v fr st = some (z_ret (o_seek a p d v fr).1 (o_seek a p d v fr).2.1, s') ∧ RC z_0 (o_seek a p d v fr).2.2 M s' := by
  unfold f_D_seek o_seek
  rw [c_readyProc h wp p]
  cases hz : z_r a p with
  | none => exact ⟨_, rfl, h⟩
  | some i =>
    obtain ⟨hi, rfl, hl⟩ := z_r_so hz
    dsimp only
    by_cases h0 : fr < 0
    · rw [if_pos h0, if_pos h0]; exact ⟨_, rfl, h⟩
    · rw [if_neg h0, if_neg h0]
      by_cases h2 : fr ≤ 2
      · rw [if_pos h2, if_pos h2, c_openingAt h hi d]
        dsimp only
        cases ho : z_d a i d with
        | none => exact ⟨_, rfl, h⟩
        | some o =>
          obtain ⟨j, hj, rfl, hs⟩ := z_d_so ho
          have hoo := wd i hi j hj o hs
          have hk : 0 < a.1 1 o := (wo o hoo).1.mpr (by have := z_h_po hi hj hs; omega)
          dsimp only
          obtain ⟨p1, p2, p3, p4⟩ := (h.2.2.2.1 o hoo).2 hk
          rw [p4, p2]
          by_cases h3 : a.1 1 o = 3
          · rw [if_pos h3, if_pos h3]
            dsimp only
            rw [(h.2.2.2.2.2.2.1 _ ((wo o hoo).2.2.2.1 h3)).1]
            by_cases f0 : fr = 0
            · rw [if_pos f0, if_pos f0]; exact c_seek_82 h
            · rw [if_neg f0, if_neg f0]
              by_cases f1 : fr = 1
              · rw [if_pos f1, if_pos f1]; exact c_seek_82 h
              · rw [if_neg f1, if_neg f1]; exact c_seek_82 h
          · rw [if_neg h3, if_neg h3]; exact ⟨_, rfl, h⟩
      · rw [if_neg h2, if_neg h2]; exact ⟨_, rfl, h⟩
def o_unlink (a : AS) (p x : Int32) : Int32 × Int32 × AS := match z_r a p with
  | none => (1, 0, a)
  | some _ => if z_nm x = true then (match z_fn a x with
    | none => (0, -2, a)
    | some f => (0, 0, z_s z_0 (aI a 3 f 0))) else (2, 0, a)
theorem W_L_n {f : Nat} {v : Int32} (wl : W_L N a) (hv : v = 0 ∨ 0 < v) : W_L N (aI a 3 f v) := by
  refine ⟨fun t ht => ?_, wl.2⟩
  rw [aI_of]
  by_cases htf : t = f
  · rw [if_pos ⟨rfl, htf⟩]; exact hv
  · rw [if_neg (fun z => htf z.2)]; exact wl.1 t ht
theorem c_unlink (h : RC z_0 a M st) (wo : W_O z_0 a) (wl : W_L N a) (wp : W_P a) (p x : Int32) : ∃ s', f_D_unlink 0 p x st = some (z_ret (o_unlink a p x).1 (o_unlink a p x).2.1, s') ∧ RC z_0 (o_unlink a p x).2.2 M s' := by
  unfold f_D_unlink o_unlink
  rw [c_readyProc h wp p]
  cases hz : z_r a p with
  | none => exact ⟨_, rfl, h⟩
  | some i =>
    dsimp only
    rw [c_checkName x, c_fileNamed h x]
    by_cases hx : z_nm x = true
    · rw [if_pos hx, if_pos hx]
      dsimp only
      have hd0 : z_f (fun o => decide (a.2.1 3 o = x)) 0 6 = z_fn a x := rfl
      rw [hd0]
      cases hf : z_fn a x with
      | none => exact ⟨_, rfl, h⟩
      | some f => exact ⟨_, rfl, RC_s (N := N) (c_name h) wo (W_L_n wl (Or.inl rfl))⟩
    · rw [if_neg hx, if_neg hx]; exact ⟨_, rfl, h⟩
def o_rename (a : AS) (p x y : Int32) : Int32 × Int32 × AS := match z_r a p with
  | none => (1, 0, a)
  | some _ => if z_nm x = true then (if z_nm y = true then (match z_fn a x with
    | none => (0, -2, a)
    | some f => match z_fn a y with
      | none => (0, 0, z_s z_0 (aI a 3 f y))
      | some g => (0, 0, z_s z_0 (aI (aI a 3 g 0) 3 f y))) else (2, 0, a)) else (2, 0, a)
theorem z_nm_pos {x : Int32} (h : z_nm x = true) : 0 < x := by
  have h1 := (of_decide_eq_true h).1
  exact Int32.lt_of_lt_of_le (show (0 : Int32) < 1 by decide) (Int32.not_lt.mp h1)
theorem c_rename (h : RC z_0 a M st) (wo : W_O z_0 a) (wl : W_L N a) (wp : W_P a) (p x y : Int32) : ∃ s', f_D_rename 0 p x y st = some (z_ret (o_rename a p x y).1 (o_rename a p x y).2.1, s') ∧ RC z_0 (o_rename a p x y).2.2 M s' := by
  unfold f_D_rename o_rename
  rw [c_readyProc h wp p]
  cases hz : z_r a p with
  | none => exact ⟨_, rfl, h⟩
  | some i =>
    dsimp only
    rw [c_checkName x, c_checkName y, c_fileNamed h x, c_fileNamed h y]
    by_cases hx : z_nm x = true
    · rw [if_pos hx, if_pos hx]
      dsimp only
      by_cases hy : z_nm y = true
      · rw [if_pos hy, if_pos hy]
        dsimp only
        have hd0 : z_f (fun o => decide (a.2.1 3 o = x)) 0 6 = z_fn a x := rfl
        have hd1 : z_f (fun o => decide (a.2.1 3 o = y)) 0 6 = z_fn a y := rfl
        rw [hd0, hd1]
        cases hf : z_fn a x with
        | none => exact ⟨_, rfl, h⟩
        | some f =>
          dsimp only
          cases hg : z_fn a y with
          | none => exact ⟨_, rfl, RC_s (N := N) (c_name h) wo (W_L_n wl (Or.inr (z_nm_pos hy)))⟩
          | some g => exact ⟨_, rfl, RC_s (N := N) (c_name (c_name h)) wo (W_L_n (W_L_n wl (Or.inl rfl)) (Or.inr (z_nm_pos hy)))⟩
      · rw [if_neg hy, if_neg hy]; exact ⟨_, rfl, h⟩
    · rw [if_neg hx, if_neg hx]; exact ⟨_, rfl, h⟩
def z_by (x : Int32) : Bool := decide (¬ x < 0 ∧ x ≤ 255)
def o_type (a : AS) (x : Int32) : Int32 × Int32 × AS := if z_by x = true then (if a.1 4 20 < 40 then (0, Int32.ofNat (z_k 8 0 (z_ad a 20 x)).1, (z_k 8 0 (z_ad a 20 x)).2) else (0, -7, a)) else (1, 0, a)
theorem z_ad_in {x : Int32} (wd : W_D a) (wo : W_O e a) (wl : W_L N a) (wp : W_P a) (h20 : a.1 4 20 < 40) : W_D (z_ad a 20 x) ∧ W_O e (z_ad a 20 x) ∧ W_L N (z_ad a 20 x) ∧ W_P (z_ad a 20 x) := by
  have hz : ∀ s k, z_o (z_ad a 20 x) s k = z_o a s k := fun s k => z_o_co (fun t _ => ⟨z_ad_n (by omega), z_ad_n (by omega)⟩) s k
  refine ⟨wd, ?_, ?_, ?_⟩
  · intro t ht
    rw [z_ad_n (by omega), z_ad_n (by omega), z_ad_n (by omega)]
    exact wo t ht
  · obtain ⟨l1, l2, l3, l4, l5, l6⟩ := wl
    refine ⟨l1, fun k hk => ?_, fun f hf => ?_, ?_, ?_, ?_⟩
    · rw [hz, hz, z_ad_l, if_neg (by omega)]; exact l2 k hk
    · rw [z_ad_l, if_neg (by omega)]; exact l3 f hf
    · rw [z_ad_l, if_pos rfl]; omega
    · rw [z_ad_l, if_neg (by omega), z_ad_n (by omega)]; exact l5
    · rw [z_ad_n (by omega)]; exact l6
  · intro t ht
    rw [z_ad_n (by omega)]
    exact wp t ht
theorem c_type (h : RC z_0 a M st) (wd : W_D a) (wo : W_O z_0 a) (wl : W_L N a) (wp : W_P a) (x : Int32) : ∃ s', f_D_type 0 x st = some (if (o_type a x).1 = 0 then .inl (o_type a x).2.1 else .inr "java/lang/IllegalArgumentException", s') ∧ RC z_0 (o_type a x).2.2 M s' := by
  unfold f_D_type o_type z_by
  by_cases h0 : x < 0
  · rw [if_pos h0, if_neg (c := decide (¬ x < 0 ∧ x ≤ 255) = true) (by rw [decide_eq_true_eq]; exact fun z => z.1 h0)]; exact ⟨_, rfl, h⟩
  · rw [if_neg h0]
    by_cases h2 : x ≤ 255
    · rw [if_pos h2, if_pos (decide_eq_true ⟨h0, h2⟩), h.1.1.2.2.2.2.1]
      dsimp only
      have l4 := wl.2.2.2.1
      rw [h.2.2.2.2.2.1.2.1.1]
      by_cases h4 : a.1 4 20 < 40
      · rw [if_pos (show Int32.ofNat (a.1 4 20) < 40 from (n_lt (b := 40) (by omega) (by omega)).mpr h4), if_pos h4]
        obtain ⟨s1, g1, g2⟩ := c_add (x := x) h (Or.inr (Or.inl ⟨rfl, rfl⟩)) (show a.1 4 20 < 64 by omega)
        rw [g1]
        dsimp only
        obtain ⟨k1, k2, k3, k4⟩ := z_ad_in (x := x) wd wo wl wp h4
        obtain ⟨s2, g3, g4⟩ := c_wakeAll g2 k1 k2 k3 k4
        rw [g3]
        exact ⟨_, rfl, g4⟩
      · rw [if_neg (show ¬ Int32.ofNat (a.1 4 20) < 40 from fun z => h4 ((n_lt (b := 40) (by omega) (by omega)).mp z)), if_neg h4]
        exact ⟨_, rfl, h⟩
    · rw [if_neg h2, if_neg (c := decide (¬ x < 0 ∧ x ≤ 255) = true) (by rw [decide_eq_true_eq]; exact fun z => h2 z.2)]; exact ⟨_, rfl, h⟩
def q_given (a : AS) (p : Int32) : Int64 := if x_in p 8 ∧ a.1 0 p.toNatClampNeg ≠ 0 then a.2.2.1.1 p.toNatClampNeg else 0
theorem c_given (h : RC e a M st) (wp : W_P a) (p : Int32) : f_D_given 0 p st = some (q_given a p) := by
  unfold f_D_given q_given
  rw [c_procThere h wp p]
  by_cases hc : x_in p 8 ∧ a.1 0 p.toNatClampNeg ≠ 0
  · rw [if_pos hc, if_pos hc]
    dsimp only
    rw [((h.2.1 _ hc.1.2).2 (by omega)).2.2]
  · rw [if_neg hc, if_neg hc]
def q_shown (a : AS) (k : Int32) : Int32 := if x_in k (a.1 4 21) then a.2.2.1.2 21 k.toNatClampNeg else -1
theorem c_shown (h : RC e a M st) (wl : W_L N a) (k : Int32) : f_D_shown 0 k st = some (q_shown a k) := by
  unfold f_D_shown q_shown
  have l5 := wl.2.2.2.2.1
  rcases n_ca k (a.1 4 21) with ⟨j, hj, hj', rfl⟩ | hx
  · rw [if_pos (n_in hj' hj), if_neg (n_ng hj'), h.1.1.2.2.2.2.2, n_to hj']
    dsimp only
    rw [h.2.2.2.2.2.1.2.2.1, if_neg (n_ge (by omega) (by omega)), c_byteAt h (Or.inr (Or.inr ⟨rfl, rfl⟩)) (by omega) hj]
  · rw [if_neg hx]
    rcases n_no (by omega) hx with h1 | ⟨h1, h2⟩
    · rw [if_pos h1]
    · rw [if_neg h1, h.1.1.2.2.2.2.2]
      dsimp only
      rw [h.2.2.2.2.2.1.2.2.1, if_pos h2]
def q_state (a : AS) (p x : Int32) : Int32 := if x_in p 8 ∧ a.1 0 p.toNatClampNeg ≠ 0 then (if x = 0 then Int32.ofNat (a.1 0 p.toNatClampNeg) else if x = 1 then a.2.1 0 p.toNatClampNeg else if x = 2 then a.2.1 1 p.toNatClampNeg else -1)
  else (if x = 0 then 0 else if x = 1 then -1 else if x = 2 then 0 else -1)
theorem c_state (h : RC e a M st) (wp : W_P a) (p x : Int32) : f_D_state 0 p x st = some (q_state a p x) := by
  unfold f_D_state q_state
  rw [c_procThere h wp p]
  by_cases hc : x_in p 8 ∧ a.1 0 p.toNatClampNeg ≠ 0
  · rw [if_pos hc, if_pos hc]
    obtain ⟨q1, q2, q3⟩ := (h.2.1 _ hc.1.2).2 (by omega)
    simp only [(h.2.1 _ hc.1.2).1, q1, q2]
    split
    · rfl
    · split
      · rfl
      · split <;> rfl
  · rw [if_neg hc, if_neg hc]
    dsimp only
    split
    · rfl
    · split
      · rfl
      · split <;> rfl
/-- how many bytes are in what is open -/
def z_bi (a : AS) (o : Nat) : Nat := if a.1 1 o ≤ 2 then a.1 4 (a.1 2 o) else if a.1 1 o = 3 then a.1 4 (8 + a.1 2 o) else a.1 4 20
def q_about (a : AS) (p d x : Int32) : Int32 := if x_in p 8 ∧ x_in d 8 then (match a.2.2.2 p.toNatClampNeg d.toNatClampNeg with
    | none => if x = 0 then 0 else -1
    | some o => if x = 0 then Int32.ofNat (a.1 1 o) else if x = 1 then Int32.ofNat (z_h a o) else if x = 2 then Int32.ofNat (z_bi a o) else if x = 3 then Int32.ofNat (a.1 3 o) else if x = 4 then a.2.1 2 o else -1) else -1
theorem c_about (h : RC z_0 a M st) (wd : W_D a) (wo : W_O z_0 a) (p d x : Int32) : f_D_about 0 p d x st = some (q_about a p d x) := by
  unfold f_D_about q_about
  rcases n_ca p 8 with ⟨i, hi, hi', rfl⟩ | hx
  · rw [if_neg (n_ng hi'), if_neg (show ¬ ((8 : Int32) ≤ Int32.ofNat i) from n_ge (k := 8) hi (by omega))]
    rcases n_ca d 8 with ⟨j, hj, hj', rfl⟩ | hy
    · rw [if_neg (n_ng hj'), if_pos (show Int32.ofNat j < 8 from (n_lt (b := 8) (by omega) (by omega)).mpr hj), if_pos (show x_in (Int32.ofNat i) 8 ∧ x_in (Int32.ofNat j) 8 from ⟨n_in hi' hi, n_in hj' hj⟩), h.1.1.1]
      dsimp only
      rw [if_pos (n_in hi' hi), n_to hi', n_to hj', h.1.2.1 i hi]
      dsimp only
      rw [c_openingAt h hi, z_d_of hj]
      dsimp only
      cases hs : a.2.2.2 i j with
      | none => dsimp only; split <;> rfl
      | some o =>
        have hoo := wd i hi j hj o hs
        have hk : 0 < a.1 1 o := (wo o hoo).1.mpr (by have := z_h_po hi hj hs; omega)
        have ek : f_D_kindOf (some o) st = some (Int32.ofNat (a.1 1 o)) := by
          unfold f_D_kindOf f_O_has
          rcases c_kind h wo hoo hk with ⟨hc, hf, h3, hr, p3, p4⟩ | ⟨hc, hf, h3, hr, p3, p4⟩ | ⟨hc, hf, h3, p3, p4⟩ | ⟨hc, h3, hr, p3, p4⟩
          · simp only [p3, h3, b_11, if_false, i_10, hc]; rfl
          · simp only [p3, h3, b_21, if_true, hc]; rfl
          · simp only [p3, p4, hc]; rfl
          · simp only [p3, p4, hc]; rfl
        have eb : f_D_bytesIn 0 (some o) st = some (Int32.ofNat (z_bi a o)) := by
          unfold f_D_bytesIn z_bi
          rcases c_kind h wo hoo hk with ⟨hc, hf, h3, hr, p3, p4⟩ | ⟨hc, hf, h3, hr, p3, p4⟩ | ⟨hc, hf, h3, p3, p4⟩ | ⟨hc, h3, hr, p3, p4⟩
          · simp only [p3, h.1.2.2.2.2.2.2.1 _ hf, (h.2.2.2.2.2.1.1 _ hf).1]; rw [if_pos (by omega)]
          · simp only [p3, h.1.2.2.2.2.2.2.1 _ hf, (h.2.2.2.2.2.1.1 _ hf).1]; rw [if_pos (by omega)]
          · simp only [p3, p4, (h.2.2.2.2.2.2.1 _ hf).1]; rw [if_neg (by omega), if_pos hc]
          · simp only [p3, p4, h.1.1.2.2.2.2.1, h.2.2.2.2.2.1.2.1.1]; rw [if_neg (by omega), if_neg (by omega)]
        dsimp only
        rw [ek, eb, (h.2.2.2.1 o hoo).1, ((h.2.2.2.1 o hoo).2 hk).1, ((h.2.2.2.1 o hoo).2 hk).2.1, show z_h a o + z_0 o = z_h a o from Nat.add_zero _]
        dsimp only
        split
        · rfl
        · split
          · rfl
          · split
            · rfl
            · split
              · rfl
              · split <;> rfl
    · rw [if_neg (c := x_in (Int32.ofNat i) 8 ∧ _) (fun z => hy z.2)]
      rcases n_no (by omega) hy with h1 | ⟨h1, h2⟩
      · rw [if_pos h1]
      · rw [if_neg h1, if_neg (show ¬ d < 8 from fun z => absurd (Int32.lt_of_lt_of_le z h2) (Int32.lt_irrefl))]
  · rw [if_neg (c := x_in p 8 ∧ _) (fun z => hx z.1)]
    rcases n_no (by omega) hx with h1 | ⟨h1, h2⟩
    · rw [if_pos h1]
    · rw [if_neg h1, if_pos (show (8 : Int32) ≤ p from h2)]
end
