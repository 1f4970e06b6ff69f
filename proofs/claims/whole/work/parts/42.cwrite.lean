/-! THE CLASS: write -/
/-- the byte j (from the right) of a long -/
def z_b (x : Int64) (j : Nat) : Int32 := (((x.toUInt64 >>> (((8 : Int32) * Int32.ofNat j).toInt64.toUInt64 &&& Int64.toUInt64 63)).toInt64).toInt32) &&& (255 : Int32)
/-- a byte through an opening -/
def z_p1 (a : AS) (o : Nat) (x : Int32) : AS := if a.1 1 o ≤ 2 then z_ad a (a.1 2 o) x else if a.1 1 o = 3 then aN (z_pt a (a.1 2 o) (a.1 3 o) x) 3 o (a.1 3 o + 1) else z_sh a x
def z_pb (o : Nat) (x : Int64) : Nat → AS → AS
  | 0, a => a
  | m + 1, a => z_pb o x m (z_p1 a o (z_b x m))
def z_put (a : AS) (o : Nat) (x : Int64) (n : Nat) : AS := z_pb o x n (if 0 < n ∧ a.1 1 o = 3 then aN a 3 o (z_pl a o) else a)
/-- there is room for m bytes -/
def z_rm (a : AS) (o m : Nat) : Prop := (a.1 1 o ≤ 2 → a.1 4 (a.1 2 o) + m ≤ 32) ∧ (a.1 1 o = 3 → a.1 3 o + m ≤ 64)
section
variable {e : Nat → Nat} {a b : AS} {M st : XS} {i d o N w r : Nat}
theorem z_sh_n {f t : Nat} {x : Int32} (hf : f ≠ 4) (hf' : f ≠ 5) : (z_sh a x).1 f t = a.1 f t := by
  unfold z_sh
  rw [aN_of, if_neg (fun z => hf' z.1)]
  by_cases h : a.1 4 21 < 60
  · rw [if_pos h, z_ad_n hf]
  · rw [if_neg h, z_ad_n hf, z_tk_n hf]
theorem z_sh_l {t : Nat} {x : Int32} : (z_sh a x).1 4 t = if t = 21 then (if a.1 4 21 < 60 then a.1 4 21 + 1 else a.1 4 21 - 1 + 1) else a.1 4 t := by
  unfold z_sh
  rw [aN_of, if_neg (by omega)]
  by_cases h : a.1 4 21 < 60
  · rw [if_pos h, z_ad_l]
    by_cases ht : t = 21
    · rw [if_pos ht, if_pos ht, if_pos h]
    · rw [if_neg ht, if_neg ht]
  · rw [if_neg h, z_ad_l]
    by_cases ht : t = 21
    · rw [if_pos ht, if_pos ht, if_neg h, z_tk_l, if_pos rfl]
    · rw [if_neg ht, if_neg ht, z_tk_l, if_neg ht]
theorem z_sh_5 {x : Int32} : (z_sh a x).1 5 0 = a.1 5 0 + 1 := by unfold z_sh; rw [aN_of, if_pos ⟨rfl, rfl⟩]
theorem z_sh_r {x : Int32} : (z_sh a x).2.1 = a.2.1 ∧ (z_sh a x).2.2.1.1 = a.2.2.1.1 ∧ (z_sh a x).2.2.2 = a.2.2.2 := by
  unfold z_sh
  by_cases h : a.1 4 21 < 60
  · rw [if_pos h]; exact ⟨rfl, rfl, rfl⟩
  · rw [if_neg h]; exact ⟨rfl, rfl, rfl⟩
theorem z_p1_r {x : Int32} : (z_p1 a o x).2.1 = a.2.1 ∧ (z_p1 a o x).2.2.1.1 = a.2.2.1.1 ∧ (z_p1 a o x).2.2.2 = a.2.2.2 := by
  unfold z_p1
  split
  · exact ⟨rfl, rfl, rfl⟩
  · split
    · exact ⟨rfl, rfl, rfl⟩
    · exact z_sh_r
theorem z_p1_n {f t : Nat} {x : Int32} (h3 : f ≠ 3) (h4 : f ≠ 4) (h5 : f ≠ 5) : (z_p1 a o x).1 f t = a.1 f t := by
  unfold z_p1
  split
  · exact z_ad_n h4
  · split
    · rw [aN_of, if_neg (fun z => h3 z.1)]; exact z_pt_n h4
    · exact z_sh_n h4 h5
theorem z_p1_O {x : Int32} (wo : W_O e a) (hp : a.1 1 o = 3 → a.1 3 o + 1 ≤ 64) : W_O e (z_p1 a o x) := by
  intro t ht
  have q := wo t ht
  rw [z_p1_n (by omega) (by omega) (by omega), z_p1_n (by omega) (by omega) (by omega), z_p1_r.1, z_h_1 z_p1_r.2.2]
  refine ⟨q.1, q.2.1, q.2.2.1, q.2.2.2.1, q.2.2.2.2.1, ?_⟩
  unfold z_p1
  split
  · rw [z_ad_n (by omega)]; exact q.2.2.2.2.2
  · split
    · rename_i h2 h3
      rw [aN_of]
      by_cases hto : t = o
      · subst hto; rw [if_pos ⟨rfl, rfl⟩]; exact ⟨fun _ z => absurd h3 z, hp h3⟩
      · rw [if_neg (fun z => hto z.2), z_pt_n (by omega)]; exact q.2.2.2.2.2
    · rw [z_sh_n (by omega) (by omega)]; exact q.2.2.2.2.2
theorem z_p1_o {x : Int32} (s k : Nat) : z_o (z_p1 a o x) s k = z_o a s k := z_o_co (fun t _ => ⟨z_p1_n (by omega) (by omega) (by omega), z_p1_n (by omega) (by omega) (by omega)⟩) s k
theorem z_p1_L {m : Nat} {x : Int32} (wo : W_O e a) (wl : W_L N a) (ho : o < 20) (hk : 0 < a.1 1 o) (hr : z_rm a o (m + 1)) : W_L (N + 1) (z_p1 a o x) := by
  obtain ⟨w1, w2, w3, w4, w5, w6, w7⟩ := wo o ho
  obtain ⟨l1, l2, l3, l4, l5, l6⟩ := wl
  refine ⟨by rw [z_p1_r.1]; exact l1, fun k hk => ?_, fun f hf => ?_, ?_, ?_, ?_⟩
  · rw [z_p1_o, z_p1_o]
    unfold z_p1
    split
    · rename_i h2
      rw [z_ad_l]
      by_cases hkk : k = a.1 2 o
      · rw [if_pos hkk, ← hkk]
        have q1 := hr.1 h2
        rw [← hkk] at q1
        refine ⟨by omega, fun z => ?_⟩
        have hz : 0 < z_o a (a.1 1 o) (a.1 2 o) := (z_c_ps 20 0).mpr ⟨o, by omega, by omega, decide_eq_true ⟨rfl, rfl⟩⟩
        have hcs : a.1 1 o = 1 ∨ a.1 1 o = 2 := by omega
        rcases hcs with hc | hc <;> rw [hc, ← hkk] at hz <;> omega
      · rw [if_neg hkk]; exact l2 k hk
    · split
      · rw [aN_of, if_neg (by omega), z_pt_l, if_neg (by omega)]; exact l2 k hk
      · rw [z_sh_l, if_neg (by omega)]; exact l2 k hk
  · unfold z_p1
    split
    · rename_i h2
      have := (w3 (by omega)).1
      rw [z_ad_l, if_neg (by omega)]; exact l3 f hf
    · split
      · rename_i h2 h3
        rw [aN_of, if_neg (by omega), z_pt_l]
        by_cases hkk : f = a.1 2 o
        · subst hkk
          rw [if_pos rfl]
          have := hr.2 h3
          have := l3 _ hf
          omega
        · rw [if_neg (by omega)]; exact l3 f hf
      · rw [z_sh_l, if_neg (by omega)]; exact l3 f hf
  · unfold z_p1
    split
    · rename_i h2
      have := (w3 (by omega)).1
      rw [z_ad_l, if_neg (by omega)]; exact l4
    · split
      · rename_i h2 h3
        have := w4 h3
        rw [aN_of, if_neg (by omega), z_pt_l, if_neg (by omega)]; exact l4
      · rw [z_sh_l, if_neg (by omega)]; exact l4
  · unfold z_p1
    split
    · rename_i h2
      have := (w3 (by omega)).1
      rw [z_ad_l, if_neg (by omega), z_ad_n (by omega)]; exact l5
    · split
      · rename_i h2 h3
        have := w4 h3
        rw [aN_of, if_neg (by omega), z_pt_l, if_neg (by omega), aN_of, if_neg (by omega), z_pt_n (by omega)]; exact l5
      · rw [z_sh_l, if_pos rfl, z_sh_5]; split <;> omega
  · unfold z_p1
    split
    · rw [z_ad_n (by omega)]; omega
    · split
      · rw [aN_of, if_neg (by omega), z_pt_n (by omega)]; omega
      · rw [z_sh_5]; omega
theorem z_p1_rm {m : Nat} {x : Int32} (ho : o < 20) (hr : z_rm a o (m + 1)) : z_rm (z_p1 a o x) o m := by
  unfold z_rm
  rw [z_p1_n (f := 1) (by omega) (by omega) (by omega), z_p1_n (f := 2) (by omega) (by omega) (by omega)]
  refine ⟨fun h2 => ?_, fun h3 => ?_⟩
  · unfold z_p1
    rw [if_pos h2, z_ad_l, if_pos rfl]
    have := hr.1 h2; omega
  · unfold z_p1
    rw [if_neg (by omega), if_pos h3, aN_of, if_pos ⟨rfl, rfl⟩]
    have := hr.2 h3; omega
theorem c_putByte {m : Nat} {x : Int32} (h : RC e a M st) (wo : W_O e a) (wl : W_L N a) (ho : o < 20) (hk : 0 < a.1 1 o) (hr : z_rm a o (m + 1)) : ∃ s', f_D_putByte 0 (some o) x st = some ((), s') ∧ RC e (z_p1 a o x) M s' := by
  unfold f_D_putByte z_p1
  dsimp only
  rcases c_kind h wo ho hk with ⟨hc, hf, h3, hr', p3, p4⟩ | ⟨hc, hf, h3, hr', p3, p4⟩ | ⟨hc, hf, h3, p3, p4⟩ | ⟨hc, h3, hr', p3, p4⟩
  · rw [p3, if_pos (by omega)]
    dsimp only
    rw [h.1.2.2.2.2.2.2.1 _ hf]
    dsimp only
    have := hr.1 (by omega)
    obtain ⟨s1, g1, g2⟩ := c_add (x := x) h (Or.inl ⟨hf, rfl⟩) (by omega)
    rw [g1]
    exact ⟨_, rfl, g2⟩
  · rw [p3, if_pos (by omega)]
    dsimp only
    rw [h.1.2.2.2.2.2.2.1 _ hf]
    dsimp only
    have := hr.1 (by omega)
    obtain ⟨s1, g1, g2⟩ := c_add (x := x) h (Or.inl ⟨hf, rfl⟩) (by omega)
    rw [g1]
    exact ⟨_, rfl, g2⟩
  · rw [p3, p4, if_neg (by omega), if_pos hc]
    dsimp only
    have := hr.2 hc
    rw [((h.2.2.2.1 o ho).2 hk).2.1]
    obtain ⟨s1, g1, g2⟩ := c_fput (x := x) h hf (show a.1 3 o < 64 by omega) (wl.2.2.1 _ hf)
    rw [g1]
    dsimp only
    rw [((g2.2.2.2.1 o ho).2 (by rw [z_pt_n (by omega)]; exact hk)).2.1, z_pt_n (by omega), n_su]
    exact ⟨_, rfl, c_pos g2⟩
  · rw [p3, p4, if_neg (by omega), if_neg (by omega)]
    dsimp only
    have := wl.2.2.2.2.1
    obtain ⟨s1, g1, g2⟩ := c_showByte (x := x) h (by omega)
    rw [g1]
    exact ⟨_, rfl, g2⟩
theorem n_m1 (m : Nat) : Int32.ofNat (m + 1) - 1 + -1 = Int32.ofNat m - 1 := by
  rw [n_p1, Int32.sub_eq_add_neg]
theorem c_put_30 {x : Int64} (ho : o < 20) : ∀ m n N a st, m < n → m < 1000 → RC e a M st → W_O e a → W_L N a → 0 < a.1 1 o → z_rm a o m →
    ∃ s', f_D_put_30 n 0 (some o) x (Int32.ofNat m - 1) st = some ((), s') ∧ RC e (z_pb o x m a) M s' ∧ W_O e (z_pb o x m a) ∧ W_L (N + m) (z_pb o x m a) := by
  intro m
  induction m with
  | zero =>
    intro n N a st hn hm h wo wl hk hr
    obtain ⟨n, rfl⟩ : ∃ m, n = m + 1 := ⟨n - 1, by omega⟩
    exact ⟨st, rfl, h, wo, wl⟩
  | succ m ih =>
    intro n N a st hn hm h wo wl hk hr
    obtain ⟨n, rfl⟩ : ∃ m, n = m + 1 := ⟨n - 1, by omega⟩
    unfold f_D_put_30
    rw [n_m1, n_p1, if_neg (n_ng (by omega))]
    obtain ⟨s1, g1, g2⟩ := c_putByte (m := m) (x := z_b x m) h wo wl ho hk hr
    unfold z_b at g1
    rw [g1]
    dsimp only
    obtain ⟨s2, k1, k2, k3, k4⟩ := ih n (N + 1) _ s1 (by omega) (by omega) g2 (z_p1_O wo (fun h3 => by have := hr.2 h3; omega)) (z_p1_L wo wl ho hk hr) (by rw [z_p1_n (by omega) (by omega) (by omega)]; exact hk) (z_p1_rm ho hr)
    exact ⟨s2, k1, k2, k3, by rw [show N + (m + 1) = N + 1 + m by omega]; exact k4⟩
def o_write (a : AS) (p d : Int32) (x : Int64) (n : Int32) : Int32 × Int32 × AS := match z_r a p with
  | none => (1, 0, a)
  | some i => if x_in n 9 then (match z_d a i d with
    | none => (0, -1, a)
    | some o => if a.2.1 2 o &&& 2 = 0 then (0, -1, a) else if a.1 1 o = 2 ∧ z_o a 1 (a.1 2 o) = 0 then (0, -5, a) else if z_w a o false n = true then (0, -6, z_wt a i 3 d n) else
        if a.1 1 o = 3 ∧ 64 < z_pl a o + n.toNatClampNeg then (0, -7, a) else (0, n, (z_k 8 0 (z_put a o x n.toNatClampNeg)).2)) else (2, 0, a)
/-- where a write goes through: there is room -/
theorem z_put_ok {m : Nat} (wo : W_O e a) (wl : W_L N a) (ho : o < 20) (hk : 0 < a.1 1 o) (hm : m ≤ 8) (hb : ¬ (a.1 1 o = 2 ∧ z_o a 1 (a.1 2 o) = 0)) (hr : ¬ a.2.1 2 o &&& 2 = 0) (hw : ¬ z_w a o false (Int32.ofNat m) = true) (hf : ¬ (a.1 1 o = 3 ∧ 64 < z_pl a o + m)) :
    let c := if 0 < m ∧ a.1 1 o = 3 then aN a 3 o (z_pl a o) else a
    W_O e c ∧ W_L N c ∧ 0 < c.1 1 o ∧ z_rm c o m := by
  obtain ⟨w1, w2, w3, w4, w5, w6, w7⟩ := wo o ho
  intro c
  by_cases h3 : a.1 1 o = 3
  · by_cases h0 : 0 < m
    · have hc : c = aN a 3 o (z_pl a o) := if_pos ⟨h0, h3⟩
      rw [hc]
      refine ⟨W_O_p wo (z_pl_le wo wl ho (w4 h3)) h3, wl, hk, ?_, ?_⟩
      · intro z; have z : a.1 1 o ≤ 2 := z; omega
      · intro _; rw [aN_of, if_pos ⟨rfl, rfl⟩]; omega
    · have hc : c = a := if_neg (fun z => h0 z.1)
      rw [hc]
      exact ⟨wo, wl, hk, fun z => by omega, fun _ => by omega⟩
  · have hc : c = a := if_neg (fun z => h3 z.2)
    rw [hc]
    refine ⟨wo, wl, hk, fun z => ?_, fun z => absurd z h3⟩
    have hcs : a.1 1 o = 1 ∨ a.1 1 o = 2 := by omega
    rcases hcs with h1 | h2
    · have q := (w3 (Or.inl h1)).2
      rw [q, h1] at hr
      exact absurd (by decide) hr
    · have hf := (w3 (Or.inr h2)).1
      rw [z_w_2 hm (wl.2.1 _ hf).1 h2, decide_eq_true_eq] at hw
      omega
theorem c_put' {m : Nat} {x : Int64} (h : RC e a M st) (wo : W_O e a) (wl : W_L N a) (ho : o < 20) (hk : 0 < a.1 1 o) (hm : m ≤ 8) (hb : ¬ (a.1 1 o = 2 ∧ z_o a 1 (a.1 2 o) = 0)) (hr : ¬ a.2.1 2 o &&& 2 = 0) (hw : ¬ z_w a o false (Int32.ofNat m) = true) (hf : ¬ (a.1 1 o = 3 ∧ 64 < z_pl a o + m)) :
    ∃ s', f_D_put 0 (some o) x (Int32.ofNat m) st = some ((), s') ∧ RC e (z_put a o x m) M s' ∧ W_O e (z_put a o x m) ∧ W_L (N + m) (z_put a o x m) := by
  obtain ⟨q1, q2, q3, q4⟩ := z_put_ok wo wl ho hk hm hb hr hw hf
  unfold z_put
  unfold f_D_put
  by_cases h0 : m = 0
  · rw [if_pos (show Int32.ofNat m ≤ 0 from n_up (i := 0) (by omega) (by omega))]
    rw [if_neg (fun z => by omega)] at q1 q2 q3 q4 ⊢
    exact c_put_30 ho m 100 N a st (by omega) (by omega) h q1 q2 q3 q4
  · rw [if_neg (show ¬ Int32.ofNat m ≤ 0 from n_ge (i := 0) (by omega) (by omega))]
    dsimp only
    rcases c_kind h wo ho hk with ⟨hc, hf', h3, hr', p3, p4⟩ | ⟨hc, hf', h3, hr', p3, p4⟩ | ⟨hc, hf', h3, p3, p4⟩ | ⟨hc, h3, hr', p3, p4⟩
    · rw [if_neg (fun z => by omega)] at q1 q2 q3 q4 ⊢
      rw [p4]
      exact c_put_30 ho m 100 N a st (by omega) (by omega) h q1 q2 q3 q4
    · rw [if_neg (fun z => by omega)] at q1 q2 q3 q4 ⊢
      rw [p4]
      exact c_put_30 ho m 100 N a st (by omega) (by omega) h q1 q2 q3 q4
    · rw [if_pos ⟨by omega, hc⟩] at q1 q2 q3 q4 ⊢
      rw [p4]
      dsimp only
      rw [c_place h ho hk hf']
      exact c_put_30 ho m 100 N _ _ (by omega) (by omega) (c_pos h) q1 q2 q3 q4
    · rw [if_neg (fun z => by omega)] at q1 q2 q3 q4 ⊢
      rw [p4]
      exact c_put_30 ho m 100 N a st (by omega) (by omega) h q1 q2 q3 q4
theorem z_pb_r {x : Int64} (m : Nat) : ∀ a, (z_pb o x m a).2.1 = a.2.1 ∧ (z_pb o x m a).2.2.1.1 = a.2.2.1.1 ∧ (z_pb o x m a).2.2.2 = a.2.2.2 ∧ ∀ f t, f ≠ 3 → f ≠ 4 → f ≠ 5 → (z_pb o x m a).1 f t = a.1 f t := by
  induction m with
  | zero => intro a; exact ⟨rfl, rfl, rfl, fun _ _ _ _ _ => rfl⟩
  | succ m ih =>
    intro a
    obtain ⟨h1, h2, h3, h4⟩ := ih (z_p1 a o (z_b x m))
    obtain ⟨g1, g2, g3⟩ := z_p1_r (a := a) (o := o) (x := z_b x m)
    exact ⟨h1.trans g1, h2.trans g2, h3.trans g3, fun f t f3 f4 f5 => (h4 f t f3 f4 f5).trans (z_p1_n f3 f4 f5)⟩
theorem z_put_r {x : Int64} {m : Nat} : (z_put a o x m).2.1 = a.2.1 ∧ (z_put a o x m).2.2.1.1 = a.2.2.1.1 ∧ (z_put a o x m).2.2.2 = a.2.2.2 ∧ ∀ f t, f ≠ 3 → f ≠ 4 → f ≠ 5 → (z_put a o x m).1 f t = a.1 f t := by
  unfold z_put
  obtain ⟨h1, h2, h3, h4⟩ := z_pb_r (o := o) (x := x) m (if 0 < m ∧ a.1 1 o = 3 then aN a 3 o (z_pl a o) else a)
  by_cases hc : 0 < m ∧ a.1 1 o = 3
  · rw [if_pos hc] at h1 h2 h3 h4 ⊢
    exact ⟨h1, h2, h3, fun f t f3 f4 f5 => (h4 f t f3 f4 f5).trans (by rw [aN_of, if_neg (fun z => f3 z.1)])⟩
  · rw [if_neg hc] at h1 h2 h3 h4 ⊢
    exact ⟨h1, h2, h3, h4⟩
theorem c_write (h : RC z_0 a M st) (wd : W_D a) (wo : W_O z_0 a) (wl : W_L N a) (wp : W_P a) (p d : Int32) (x : Int64) (n : Int32) :
    ∃ s', f_D_write 0 p d x n st = some (z_ret (o_write a p d x n).1 (o_write a p d x n).2.1, s') ∧ RC z_0 (o_write a p d x n).2.2 M s' := by
  unfold f_D_write o_write
  rw [c_readyProc h wp p]
  cases hz : z_r a p with
  | none => exact ⟨_, rfl, h⟩
  | some i =>
    obtain ⟨hi, rfl, hl⟩ := z_r_so hz
    dsimp only
    rw [c_checkAmount n]
    rcases n_ca n 9 with ⟨m, hm, hm', rfl⟩ | hn
    · have hn : x_in (Int32.ofNat m) 9 := n_in hm' hm
      rw [if_pos hn, if_pos hn, n_to hm']
      dsimp only
      rw [c_openingAt h hi d]
      dsimp only
      cases ho : z_d a i d with
      | none => exact ⟨_, rfl, h⟩
      | some o =>
        obtain ⟨j, hj, rfl, hs⟩ := z_d_so ho
        have hoo := wd i hi j hj o hs
        have hk : 0 < a.1 1 o := (wo o hoo).1.mpr (by have := z_h_po hi hj hs; omega)
        dsimp only
        rw [c_hindW h wo wl hoo hk (m := m) (by omega)]
        dsimp only
        by_cases hr : a.2.1 2 o &&& 2 = 0
        · rw [if_pos hr, if_pos hr, if_neg (by decide), if_neg (by decide)]
          exact ⟨_, rfl, h⟩
        · rw [if_neg hr, if_neg hr]
          by_cases hb : a.1 1 o = 2 ∧ z_o a 1 (a.1 2 o) = 0
          · rw [if_pos hb, if_pos hb, if_neg (by decide), if_neg (by decide)]
            exact ⟨_, rfl, h⟩
          · rw [if_neg hb, if_neg hb]
            by_cases hw : z_w a o false (Int32.ofNat m) = true
            · rw [if_pos hw, if_pos hw, if_pos rfl]
              unfold f_P_beWaiting
              dsimp only
              rw [if_neg (by decide)]
              exact ⟨_, rfl, c_wait (l := 3) h (by omega)⟩
            · rw [if_neg hw, if_neg hw]
              by_cases hf : a.1 1 o = 3 ∧ 64 < z_pl a o + m
              · rw [if_pos hf, if_pos hf, if_neg (by decide), if_neg (by decide)]
                exact ⟨_, rfl, h⟩
              · rw [if_neg hf, if_neg hf, if_neg (by decide), if_pos rfl]
                obtain ⟨s1, g1, g2, g3, g4⟩ := c_put' (x := x) h wo wl hoo hk (m := m) (by omega) hb hr hw hf
                rw [g1]
                dsimp only
                obtain ⟨r1, r2, r3, r4⟩ := z_put_r (a := a) (o := o) (x := x) (m := m)
                obtain ⟨s2, k1, k2⟩ := c_wakeAll g2 (by unfold W_D; rw [r3]; exact wd) g3 g4 (by intro t ht; rw [r4 0 t (by omega) (by omega) (by omega), r1, r3]; exact wp t ht)
                rw [k1]
                exact ⟨_, rfl, k2⟩
    · rw [if_neg hn, if_neg hn]
      exact ⟨_, rfl, h⟩
end
