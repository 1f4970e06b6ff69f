/-! THE CLASS: open, pipe, seek, unlink, rename, type -/
def z_fk (a : AS) : Option Nat := z_f (fun k => decide (z_o a 1 k + z_o a 2 k = 0)) 0 6
def z_ff (a : AS) : Option Nat := z_f (fun f => decide (a.2.1 3 f = 0 ∧ z_o a 3 f = 0)) 0 6
def z_fn (a : AS) (x : Int32) : Option Nat := z_f (fun f => decide (a.2.1 3 f = x)) 0 6
/-- the file f is opened by the name x, emptied or not -/
def z_op (a : AS) (i d o f : Nat) (x how : Int32) (em : Bool) : AS := aD (z_nw (if em = true then aN (aI a 3 f x) 4 (8 + f) 0 else aI a 3 f x) o 3 f (how &&& 7)) i d (some o)
/-- the file, a descriptor, an opening: all there? -/
def z_op2 (a : AS) (i : Nat) (x how : Int32) (f : Option Nat) (em : Bool) : Int32 × Int32 × AS := match f, z_fd a i, z_fo a with
  | some f, some d, some o => (0, Int32.ofNat d, z_op a i d o f x how em)
  | _, _, _ => (0, -4, a)
def o_open (a : AS) (p x how : Int32) : Int32 × Int32 × AS := match z_r a p with
  | none => (1, 0, a)
  | some i => if z_nm x = true then (if z_hw how = true then (match z_fn a x with
      | none => if how &&& 8 = 0 then (0, -2, a) else z_op2 a i x how (z_ff a) true
      | some f => if how &&& 16 = 0 then z_op2 a i x how (some f) (decide (how &&& 32 ≠ 0)) else (0, -3, a)) else (2, 0, a)) else (2, 0, a)
section
variable {e : Nat → Nat} {a b : AS} {M st : XS} {i d o N w r c : Nat}
theorem z_fk_so {k : Nat} (h : z_fk a = some k) : k < 6 ∧ z_o a 1 k + z_o a 2 k = 0 := by
  obtain ⟨_, h2, h3, _⟩ := z_f_so 6 0 h; exact ⟨by omega, of_decide_eq_true h3⟩
theorem z_ff_so {k : Nat} (h : z_ff a = some k) : k < 6 ∧ a.2.1 3 k = 0 ∧ z_o a 3 k = 0 := by
  obtain ⟨_, h2, h3, _⟩ := z_f_so 6 0 h; exact ⟨by omega, of_decide_eq_true h3⟩
theorem z_fn_so {k : Nat} {x : Int32} (h : z_fn a x = some k) : k < 6 ∧ a.2.1 3 k = x := by
  obtain ⟨_, h2, h3, _⟩ := z_f_so 6 0 h; exact ⟨by omega, of_decide_eq_true h3⟩
theorem c_ff0 (h : RC e a M st) (hi : i < 8) : f_P_freeFrom i 0 st = some (z_e (z_fd a i)) := c_freeFrom h hi (m := 0) (by omega)
theorem c_op_h {f : Nat} {how : Int32} (h : RC z_0 b M st) (hi : i < 8) (hd : d < 8) (hs : b.2.2.2 i d = none) (ho : o < 20) (hk : b.1 1 o = 0) (hf : f < 6) :
    ∃ s1, f_O_begin o none (some f) (how &&& 7) st = some ((), s1) ∧ ∃ s2, f_P_hold i (Int32.ofNat d) (some o) s1 = some ((), s2) ∧ RC z_0 (aD (z_nw b o 3 f (how &&& 7)) i d (some o)) M s2 := by
  obtain ⟨s1, g1, g2⟩ := c_new3 (r := how &&& 7) h ho hk hf
  obtain ⟨s2, g3, g4⟩ := c_hold_no g2 hi hd ho hs
  exact ⟨s1, g1, s2, g3, g4⟩
theorem c_open_66 {x how : Int32} {f5 fo : Option Nat} {em : Bool} (h : RC z_0 a M st) (wo : W_O z_0 a) (hi : i < 8) (hf : ∀ f, fo = some f → f < 6) (hem : em = (match f5 with | none => true | some _ => decide (how &&& 32 ≠ 0))) :
    ∃ s', f_D_open_66 0 x how (some i) f5 fo st = some (z_ret (z_op2 a i x how fo em).1 (z_op2 a i x how fo em).2.1, s') ∧ RC z_0 (z_op2 a i x how fo em).2.2 M s' := by
  unfold f_D_open_66 z_op2
  dsimp only
  rw [c_ff0 h hi, c_fo h wo]
  dsimp only
  cases fo with
  | none => exact ⟨_, rfl, h⟩
  | some f =>
    have hf6 := hf f rfl
    dsimp only
    cases hd : z_fd a i with
    | none => exact ⟨_, rfl, h⟩
    | some d =>
      obtain ⟨hd8, hdn⟩ := z_fd_so hd
      rw [if_neg (show ¬ (z_e (some d) < 0) from n_ng (by omega))]
      cases ho : z_fo a with
      | none => exact ⟨_, rfl, h⟩
      | some o =>
        obtain ⟨hoo, hk⟩ := z_fo_so ho
        dsimp only
        rw [show z_e (some d) = Int32.ofNat d from rfl]
        unfold z_op
        cases f5 with
        | none =>
          dsimp only at hem ⊢
          subst hem
          rw [if_pos rfl]
          unfold f_D_open_119
          dsimp only
          obtain ⟨s1, g1, s2, g2, g3⟩ := c_op_h (how := how) (b := aN (aI a 3 f x) 4 (8 + f) 0) (c_len (c_name (f := f) (v := x) h) hf6) hi hd8 hdn hoo hk hf6
          rw [g1]
          dsimp only
          rw [g2]
          exact ⟨_, rfl, g3⟩
        | some f' =>
          dsimp only at hem ⊢
          by_cases h32 : how &&& 32 = 0
          · rw [decide_eq_false (fun z => z h32)] at hem
            subst hem
            rw [if_pos h32, if_neg (by decide)]
            obtain ⟨s1, g1, s2, g2, g3⟩ := c_op_h (how := how) (b := aI a 3 f x) (c_name (f := f) (v := x) h) hi hd8 hdn hoo hk hf6
            rw [g1]
            dsimp only
            rw [g2]
            exact ⟨_, rfl, g3⟩
          · rw [decide_eq_true h32] at hem
            subst hem
            rw [if_neg h32, if_pos rfl]
            unfold f_D_open_119
            dsimp only
            obtain ⟨s1, g1, s2, g2, g3⟩ := c_op_h (how := how) (b := aN (aI a 3 f x) 4 (8 + f) 0) (c_len (c_name (f := f) (v := x) h) hf6) hi hd8 hdn hoo hk hf6
            rw [g1]
            dsimp only
            rw [g2]
            exact ⟨_, rfl, g3⟩
theorem c_open (h : RC z_0 a M st) (wo : W_O z_0 a) (wp : W_P a) (p x how : Int32) : ∃ s', f_D_open 0 p x how st = some (z_ret (o_open a p x how).1 (o_open a p x how).2.1, s') ∧ RC z_0 (o_open a p x how).2.2 M s' := by
  unfold f_D_open o_open
  rw [c_readyProc h wp p]
  cases hz : z_r a p with
  | none => exact ⟨_, rfl, h⟩
  | some i =>
    obtain ⟨hi, rfl, hl⟩ := z_r_so hz
    dsimp only
    rw [c_checkName x, c_checkHow how, c_fileNamed h x]
    by_cases hx : z_nm x = true
    · rw [if_pos hx, if_pos hx]
      dsimp only
      by_cases hh : z_hw how = true
      · rw [if_pos hh, if_pos hh]
        dsimp only
        have hd0 : z_f (fun o => decide (a.2.1 3 o = x)) 0 6 = z_fn a x := rfl
        rw [hd0]
        cases hf : z_fn a x with
        | none =>
          dsimp only
          by_cases h8 : how &&& 8 = 0
          · rw [if_pos h8, if_pos h8]; exact ⟨_, rfl, h⟩
          · rw [if_neg h8, if_neg h8]
            unfold f_D_open_37
            dsimp only
            rw [c_freeFile h]
            exact c_open_66 (f5 := none) (fo := z_ff a) (em := true) h wo hi (fun f hf => (z_ff_so hf).1) rfl
        | some f =>
          dsimp only
          unfold f_D_open_37
          dsimp only
          by_cases h16 : how &&& 16 = 0
          · rw [if_pos h16, if_pos h16]
            exact c_open_66 (f5 := some f) (fo := some f) h wo hi (fun f' hf' => by cases hf'; exact (z_fn_so hf).1) rfl
          · rw [if_neg h16, if_neg h16]; exact ⟨_, rfl, h⟩
      · rw [if_neg hh, if_neg hh]; exact ⟨_, rfl, h⟩
    · rw [if_neg hx, if_neg hx]; exact ⟨_, rfl, h⟩
/-- the next free descriptor, the next free opening -/
def z_fd2 (a : AS) (i r : Nat) : Option Nat := z_f (fun d => decide (a.2.2.2 i d = none)) (r + 1) (8 - (r + 1))
def z_fo2 (a : AS) (o : Nat) : Option Nat := z_f (fun t => decide (a.1 1 t = 0 ∧ t ≠ o)) 0 20
def z_pi (a : AS) (i r w o1 o2 k : Nat) : AS := aD (aD (z_nw (z_nw a o1 1 k 1) o2 2 k 2) i r (some o1)) i w (some o2)
def o_pipe (a : AS) (p : Int32) : Int32 × Int32 × AS := match z_r a p with
  | none => (1, 0, a)
  | some i => match z_fd a i, z_fo a, z_fk a with
    | some r, some o1, some k => match z_fd2 a i r, z_fo2 a o1 with
      | some w, some o2 => (0, Int32.ofNat (r + 8 * w), z_pi a i r w o1 o2 k)
      | _, _ => (0, -4, a)
    | _, _, _ => (0, -4, a)
theorem z_fd2_so {r w : Nat} (h : z_fd2 a i r = some w) : r < w ∧ w < 8 ∧ a.2.2.2 i w = none := by
  obtain ⟨h1, h2, h3, _⟩ := z_f_so _ _ h; exact ⟨by omega, by omega, of_decide_eq_true h3⟩
theorem z_fo2_so {t : Nat} (h : z_fo2 a o = some t) : t < 20 ∧ a.1 1 t = 0 ∧ t ≠ o := by
  obtain ⟨_, h2, h3, _⟩ := z_f_so 20 0 h; exact ⟨by omega, of_decide_eq_true h3⟩
theorem c_fo2 (h : RC z_0 a M st) (wo : W_O z_0 a) : f_D_freeOpening 0 (some o) st = some (z_fo2 a o) := by
  rw [c_freeOpening h (fun _ => Nat.zero_le _) (some o)]
  congr 1
  refine z_f_co 20 0 (fun t _ ht => ?_)
  have := (wo t (by omega)).1
  have e0 : z_0 t = 0 := rfl
  apply decide_eq_decide.mpr
  exact ⟨fun z => ⟨by have := z.1; omega, fun q => z.2 (by rw [q])⟩, fun z => ⟨by have := z.1; omega, fun q => z.2 (Option.some.inj q)⟩⟩
theorem c_pipe (h : RC z_0 a M st) (wo : W_O z_0 a) (wp : W_P a) (p : Int32) : ∃ s', f_D_pipe 0 p st = some (z_ret (o_pipe a p).1 (o_pipe a p).2.1, s') ∧ RC z_0 (o_pipe a p).2.2 M s' := by
  unfold f_D_pipe o_pipe
  rw [c_readyProc h wp p]
  cases hz : z_r a p with
  | none => exact ⟨_, rfl, h⟩
  | some i =>
    obtain ⟨hi, rfl, hl⟩ := z_r_so hz
    dsimp only
    rw [c_ff0 h hi, c_freePipe h, c_fo h wo]
    have hk0 : z_f (fun o => decide (z_o a 1 o + z_o a 2 o = 0)) 0 6 = z_fk a := rfl
    rw [hk0]
    dsimp only
    cases hr : z_fd a i with
    | none =>
      dsimp only
      rw [show z_e none + 1 = 0 from by decide, c_ff0 h hi, hr]
      dsimp only
      cases ho : z_fo a with
      | none =>
        rw [c_fo h wo]
        exact ⟨_, rfl, h⟩
      | some o1 =>
        rw [c_fo2 h wo]
        exact ⟨_, rfl, h⟩
    | some r =>
      obtain ⟨hr8, hrn⟩ := z_fd_so hr
      rw [show z_e (some r) + 1 = Int32.ofNat (r + 1) from n_su r, c_freeFrom h hi (by omega)]
      have hd2 : z_f (fun d => decide (a.2.2.2 i d = none)) (r + 1) (8 - (r + 1)) = z_fd2 a i r := rfl
      rw [hd2]
      dsimp only
      have hrr : ¬ (z_e (some r) < 0) := n_ng (by omega)
      cases ho : z_fo a with
      | none =>
        rw [c_fo h wo]
        dsimp only
        rw [if_neg hrr]
        split <;> exact ⟨_, rfl, h⟩
      | some o1 =>
        obtain ⟨ho1, hk1⟩ := z_fo_so ho
        rw [c_fo2 h wo]
        dsimp only
        rw [if_neg hrr]
        cases hk : z_fk a with
        | none =>
          dsimp only
          cases h2 : z_fd2 a i r with
          | none => exact ⟨_, rfl, h⟩
          | some w =>
            obtain ⟨_, hw8, hwn⟩ := z_fd2_so h2
            rw [if_neg (show ¬ (z_e (some w) < 0) from n_ng (by omega))]
            split <;> exact ⟨_, rfl, h⟩
        | some k =>
          obtain ⟨hk6, hkz⟩ := z_fk_so hk
          dsimp only
          cases h2 : z_fd2 a i r with
          | none => exact ⟨_, rfl, h⟩
          | some w =>
            obtain ⟨hrw, hw8, hwn⟩ := z_fd2_so h2
            rw [if_neg (show ¬ (z_e (some w) < 0) from n_ng (by omega))]
            cases h3 : z_fo2 a o1 with
            | none => exact ⟨_, rfl, h⟩
            | some o2 =>
              obtain ⟨ho2, hk2, hne⟩ := z_fo2_so h3
              dsimp only
              obtain ⟨s1, g1, g2⟩ := c_new1 h ho1 hk1 hk6
              rw [show (1 : Int32) = 1 from rfl, g1]
              dsimp only
              obtain ⟨s2, g3, g4⟩ := c_new2 g2 ho2 (by rw [z_nw_t hne]; exact hk2) hk6
              rw [g3]
              dsimp only
              obtain ⟨s3, g5, g6⟩ := c_hold_no g4 hi hr8 ho1 hrn
              rw [show z_e (some r) = Int32.ofNat r from rfl, g5]
              dsimp only
              obtain ⟨s4, g7, g8⟩ := c_hold_no g6 hi hw8 ho2 ((z_un (by omega)).trans hwn)
              rw [show z_e (some w) = Int32.ofNat w from rfl, g7]
              dsimp only
              rw [show (8 : Int32) = Int32.ofNat 8 from rfl, n_mu, n_ad]
              exact ⟨_, rfl, g8⟩
end
