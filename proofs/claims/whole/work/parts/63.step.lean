/-! THE LAW: class and reference side by side, call after call -/
theorem x_01 : x_in 0 1 := n_in (a := 0) (by omega) (by omega)
theorem l_eq (x : Int64) : lg_cmp x x = 0 := by
  unfold lg_cmp
  rw [if_neg (fun z => absurd (Int64.lt_iff_toInt_lt.mp z) (by omega)), if_pos rfl]
def z_c1 (c : Int32) : Prop := c = 0 ∨ c = 1
def z_c2 (c : Int32) : Prop := c = 0 ∨ c = 1 ∨ c = 2
section
variable {a b : AS} {M st s' : XS} {N : Nat}
theorem RC_fr (h : RC z_0 a M st) (h1 : ∀ q, q < 32 → s'.1 q = st.1 q ∧ s'.2.1 q = st.2.1 q ∧ s'.2.2.1 q = st.2.2.1 q) : RC z_0 a s' s' := by
  obtain ⟨k1, k2, k3, k4, k5, k6, k7, k8, k9⟩ := h
  refine ⟨?_, ?_, ?_, ?_, ?_, ?_, ?_, ?_, fun _ _ => ⟨rfl, rfl, rfl⟩⟩
  · unfold c_S
    rw [(h1 0 (by omega)).2.2, (h1 6 (by omega)).2.2, (h1 7 (by omega)).2.2, (h1 8 (by omega)).2.2, (h1 9 (by omega)).2.2, (h1 1 (by omega)).2.2, (h1 3 (by omega)).2.2, (h1 4 (by omega)).2.2, (h1 5 (by omega)).2.2]
    exact k1
  · rw [(h1 1 (by omega)).1, (h1 1 (by omega)).2.1]; exact k2
  · rw [(h1 10 (by omega)).2.2]; exact k3
  · rw [(h1 2 (by omega)).1, (h1 2 (by omega)).2.2]; exact k4
  · rw [(h1 3 (by omega)).1]; exact k5
  · rw [(h1 5 (by omega)).1, (h1 12 (by omega)).1]; exact k6
  · rw [(h1 4 (by omega)).1, (h1 11 (by omega)).1]; exact k7
  · rw [(h1 0 (by omega)).1]; exact k8
theorem RM_fr (h : RM a M st) (h1 : ∀ q, 32 ≤ q → q < 64 → s'.1 q = st.1 q ∧ s'.2.1 q = st.2.1 q ∧ s'.2.2.1 q = st.2.2.1 q) : RM a s' s' := by
  obtain ⟨⟨k1, k2, k3, k4, k5, k6, k7, k8⟩, k9⟩ := h
  refine ⟨⟨?_, ?_, ?_, ?_, ?_, ?_, ?_, fun _ _ => ⟨rfl, rfl, rfl⟩⟩, ?_⟩
  · rw [(h1 32 (by omega) (by omega)).2.2]; exact k1
  · rw [(h1 33 (by omega) (by omega)).1, (h1 34 (by omega) (by omega)).1, (h1 35 (by omega) (by omega)).1, (h1 37 (by omega) (by omega)).2.1]; exact k2
  · rw [(h1 36 (by omega) (by omega)).1]; exact k3
  · rw [(h1 38 (by omega) (by omega)).1, (h1 39 (by omega) (by omega)).1, (h1 40 (by omega) (by omega)).1, (h1 41 (by omega) (by omega)).1]; exact k4
  · rw [(h1 42 (by omega) (by omega)).1, (h1 43 (by omega) (by omega)).1, (h1 44 (by omega) (by omega)).1]; exact k5
  · rw [(h1 45 (by omega) (by omega)).1, (h1 46 (by omega) (by omega)).1, (h1 47 (by omega) (by omega)).1, (h1 48 (by omega) (by omega)).1]; exact k6
  · rw [(h1 32 (by omega) (by omega)).1, (h1 49 (by omega) (by omega)).1, (h1 50 (by omega) (by omega)).1, (h1 32 (by omega) (by omega)).2.1]; exact k7
  · rw [(h1 44 (by omega) (by omega)).1, (h1 45 (by omega) (by omega)).1]; exact k9
/-- the reference after the class, both at the picture b -/
theorem RL_2 {c : Int32} {s1 s5 s2 : XS} (h1 : RC z_0 b st s1) (h5 : ∀ q, q < 32 → s5.1 q = s1.1 q ∧ s5.2.1 q = s1.2.1 q ∧ s5.2.2.1 q = s1.2.2.1 q) (h2 : RY c b s5 s2) : RL b s2 := by
  have hm := h2.1.1.2.2.2.2.2.2.2
  refine ⟨RC_fr h1 (fun q hq => ?_), RM_fr ⟨h2.1.1, h2.2⟩ (fun _ _ _ => ⟨rfl, rfl, rfl⟩)⟩
  have m := hm q (Or.inl hq)
  have n := h5 q hq
  exact ⟨m.1.trans n.1, m.2.1.trans n.2.1, m.2.2.trans n.2.2⟩
theorem l_1 {v : Int32 × Int32 × AS} {m : XS → Option (Int32 × XS)} {r : Option ((Int32 ⊕ String) × XS)} {f : Option (Int32 × XS)} (h : RL a st) (hc : ∃ s1, r = some (z_ret v.1 v.2.1, s1) ∧ RC z_0 v.2.2 st s1) (hm : ∀ s, RM a s s → z_ok v s (m s)) (hv : z_c2 v.1)
    (h0 : ∀ x s, r = some (.inl x, s) → f = some (0, xsJ s 64 0 0 x.toInt64)) (h1 : ∀ s, r = some (.inr "java/lang/IllegalStateException", s) → f = some (1, s)) (h2 : v.1 = 2 → ∀ s, r = some (.inr "java/lang/IllegalArgumentException", s) → f = some (2, s)) :
    ∃ s5 b s2, f = some (v.1, s5) ∧ m s5 = some (b, s2) ∧ s2.1 32 0 0 = v.1 ∧ (v.1 = 0 → s2.2.1 64 0 0 = b.toInt64) ∧ RL v.2.2 s2 := by
  obtain ⟨s1, g1, g2⟩ := hc
  have hf := g2.2.2.2.2.2.2.2.2
  rcases hv with hv | hv | hv
  · have hr : r = some (.inl v.2.1, s1) := by rw [g1, hv]; rfl
    have e := h0 v.2.1 s1 hr
    obtain ⟨b, s2, k1, k2, k3⟩ := hm (xsJ s1 64 0 0 v.2.1.toInt64) (RM_fr h.2 (fun q hq hq' => by
      have := hf q hq
      exact ⟨this.1, (u_J (by omega)).trans this.2.1, this.2.2⟩))
    refine ⟨_, b, s2, by rw [e, hv], k1, k2.1.2, fun _ => ?_, RL_2 (s5 := xsJ s1 64 0 0 v.2.1.toInt64) g2 (fun q hq => ⟨rfl, u_J (by omega), rfl⟩) k2⟩
    rw [(k2.1.1.2.2.2.2.2.2.2 64 (Or.inr (by omega))).2.1, u_Je, z_ue, k3 hv]
  · have hr : r = some (.inr "java/lang/IllegalStateException", s1) := by rw [g1, hv]; rfl
    have e := h1 s1 hr
    obtain ⟨b, s2, k1, k2, k3⟩ := hm s1 (RM_fr h.2 (fun q hq hq' => hf q hq))
    exact ⟨s1, b, s2, by rw [e, hv], k1, k2.1.2, fun z => by rw [hv] at z; exact absurd z (by decide), RL_2 g2 (fun q hq => ⟨rfl, rfl, rfl⟩) k2⟩
  · have hr : r = some (.inr "java/lang/IllegalArgumentException", s1) := by rw [g1, hv]; rfl
    have e := h2 hv s1 hr
    obtain ⟨b, s2, k1, k2, k3⟩ := hm s1 (RM_fr h.2 (fun q hq hq' => hf q hq))
    exact ⟨s1, b, s2, by rw [e, hv], k1, k2.1.2, fun z => by rw [hv] at z; exact absurd z (by decide), RL_2 g2 (fun q hq => ⟨rfl, rfl, rfl⟩) k2⟩
theorem k_fork (p : Int32) : z_c1 (o_fork a p).1 := by
  unfold o_fork
  repeat' split
  all_goals first | exact Or.inl rfl | exact Or.inr rfl | exact Or.inr (Or.inl rfl) | exact Or.inr (Or.inr rfl)
theorem l_fork (h : RL a st) (w : WF N a) (p : Int32) : ∃ s5 b s2, f_L_fork (some 0) p (some 0) st = some ((o_fork a p).1, s5) ∧ f_M_fork 0 p s5 = some (b, s2) ∧ s2.1 32 0 0 = (o_fork a p).1 ∧ ((o_fork a p).1 = 0 → s2.2.1 64 0 0 = b.toInt64) ∧ RL (o_fork a p).2.2 s2 :=
  l_1 (m := fun s => f_M_fork 0 p s) h (c_fork h.1 w.1 w.2.2.2.1 p) (fun s hs => m_fork hs w.2.2.2.1 p) ((k_fork p).elim Or.inl (fun z => Or.inr (Or.inl z)))
    (fun y s e => by unfold f_L_fork; dsimp only; rw [e]; dsimp only; rw [if_pos x_01]; rfl) (fun s e => by unfold f_L_fork; dsimp only; rw [e]; dsimp only; rw [if_pos rfl]) (fun z => absurd z (by rcases k_fork (a := a) p with e | e <;> rw [e] <;> decide))
theorem k_exit (p : Int32) : z_c1 (o_exit a p).1 := by
  unfold o_exit
  repeat' split
  all_goals first | exact Or.inl rfl | exact Or.inr rfl | exact Or.inr (Or.inl rfl) | exact Or.inr (Or.inr rfl)
theorem l_exit (h : RL a st) (w : WF N a) (p : Int32) : ∃ s5 b s2, f_L_exit (some 0) p (some 0) st = some ((o_exit a p).1, s5) ∧ f_M_exit 0 p s5 = some (b, s2) ∧ s2.1 32 0 0 = (o_exit a p).1 ∧ ((o_exit a p).1 = 0 → s2.2.1 64 0 0 = b.toInt64) ∧ RL (o_exit a p).2.2 s2 :=
  l_1 (m := fun s => f_M_exit 0 p s) h (c_exit h.1 w.1 w.2.1 w.2.2.1 w.2.2.2.1 p) (fun s hs => m_exit hs w.1 w.2.1 w.2.2.1 w.2.2.2.1 p) ((k_exit p).elim Or.inl (fun z => Or.inr (Or.inl z)))
    (fun y s e => by unfold f_L_exit; dsimp only; rw [e]; dsimp only; rw [if_pos x_01]; rfl) (fun s e => by unfold f_L_exit; dsimp only; rw [e]; dsimp only; rw [if_pos rfl]) (fun z => absurd z (by rcases k_exit (a := a) p with e | e <;> rw [e] <;> decide))
theorem k_op2 {i : Nat} {y how : Int32} {f : Option Nat} {em : Bool} : z_c2 (z_op2 a i y how f em).1 := by
  unfold z_op2
  repeat' split
  all_goals exact Or.inl rfl
theorem k_open (p y how : Int32) : z_c2 (o_open a p y how).1 := by
  unfold o_open
  repeat' split
  all_goals first | exact k_op2 | exact Or.inl rfl | exact Or.inr (Or.inl rfl) | exact Or.inr (Or.inr rfl)
theorem l_open (h : RL a st) (w : WF N a) (p : Int32) (y : Int32) (how : Int32) : ∃ s5 b s2, f_L_open (some 0) p y how (some 0) st = some ((o_open a p y how).1, s5) ∧ f_M_open 0 p y how s5 = some (b, s2) ∧ s2.1 32 0 0 = (o_open a p y how).1 ∧ ((o_open a p y how).1 = 0 → s2.2.1 64 0 0 = b.toInt64) ∧ RL (o_open a p y how).2.2 s2 :=
  l_1 (m := fun s => f_M_open 0 p y how s) h (c_open h.1 w.2.1 w.2.2.2.1 p y how) (fun s hs => m_open hs w.1 w.2.1 w.2.2.2.1 p y how) (k_open p y how)
    (fun y s e => by unfold f_L_open; dsimp only; rw [e]; dsimp only; rw [if_pos x_01]; rfl) (fun s e => by unfold f_L_open; dsimp only; rw [e]; dsimp only; rw [if_pos rfl]) (fun _ s e => by unfold f_L_open; dsimp only; rw [e]; dsimp only; rw [if_neg (by decide), if_pos rfl])
theorem k_pipe (p : Int32) : z_c1 (o_pipe a p).1 := by
  unfold o_pipe
  repeat' split
  all_goals first | exact Or.inl rfl | exact Or.inr rfl | exact Or.inr (Or.inl rfl) | exact Or.inr (Or.inr rfl)
theorem l_pipe (h : RL a st) (w : WF N a) (p : Int32) : ∃ s5 b s2, f_L_pipe (some 0) p (some 0) st = some ((o_pipe a p).1, s5) ∧ f_M_pipe 0 p s5 = some (b, s2) ∧ s2.1 32 0 0 = (o_pipe a p).1 ∧ ((o_pipe a p).1 = 0 → s2.2.1 64 0 0 = b.toInt64) ∧ RL (o_pipe a p).2.2 s2 :=
  l_1 (m := fun s => f_M_pipe 0 p s) h (c_pipe h.1 w.2.1 w.2.2.2.1 p) (fun s hs => m_pipe hs w.1 w.2.1 w.2.2.1 w.2.2.2.1 p) ((k_pipe p).elim Or.inl (fun z => Or.inr (Or.inl z)))
    (fun y s e => by unfold f_L_pipe; dsimp only; rw [e]; dsimp only; rw [if_pos x_01]; rfl) (fun s e => by unfold f_L_pipe; dsimp only; rw [e]; dsimp only; rw [if_pos rfl]) (fun z => absurd z (by rcases k_pipe (a := a) p with e | e <;> rw [e] <;> decide))
theorem k_read (p : Int32) (d : Int32) (n : Int32) : z_c2 (o_read a p d n).1 := by
  unfold o_read
  repeat' split
  all_goals first | exact Or.inl rfl | exact Or.inr rfl | exact Or.inr (Or.inl rfl) | exact Or.inr (Or.inr rfl)
theorem l_read (h : RL a st) (w : WF N a) (p : Int32) (d : Int32) (n : Int32) : ∃ s5 b s2, f_L_read (some 0) p d n (some 0) st = some ((o_read a p d n).1, s5) ∧ f_M_read 0 p d n s5 = some (b, s2) ∧ s2.1 32 0 0 = (o_read a p d n).1 ∧ ((o_read a p d n).1 = 0 → s2.2.1 64 0 0 = b.toInt64) ∧ RL (o_read a p d n).2.2 s2 :=
  l_1 (m := fun s => f_M_read 0 p d n s) h (c_read h.1 w.1 w.2.1 w.2.2.1 w.2.2.2.1 p d n) (fun s hs => m_read hs w.1 w.2.1 w.2.2.1 w.2.2.2.1 p d n) (k_read p d n)
    (fun y s e => by unfold f_L_read; dsimp only; rw [e]; dsimp only; rw [if_pos x_01]; rfl) (fun s e => by unfold f_L_read; dsimp only; rw [e]; dsimp only; rw [if_pos rfl]) (fun _ s e => by unfold f_L_read; dsimp only; rw [e]; dsimp only; rw [if_neg (by decide), if_pos rfl])
theorem k_write (p : Int32) (d : Int32) (x : Int64) (n : Int32) : z_c2 (o_write a p d x n).1 := by
  unfold o_write
  repeat' split
  all_goals first | exact Or.inl rfl | exact Or.inr rfl | exact Or.inr (Or.inl rfl) | exact Or.inr (Or.inr rfl)
theorem l_write (h : RL a st) (w : WF N a) (hN : N < 2147483600) (p : Int32) (d : Int32) (x : Int64) (n : Int32) : ∃ s5 b s2, f_L_write (some 0) p d x n (some 0) st = some ((o_write a p d x n).1, s5) ∧ f_M_write 0 p d x n s5 = some (b, s2) ∧ s2.1 32 0 0 = (o_write a p d x n).1 ∧ ((o_write a p d x n).1 = 0 → s2.2.1 64 0 0 = b.toInt64) ∧ RL (o_write a p d x n).2.2 s2 :=
  l_1 (m := fun s => f_M_write 0 p d x n s) h (c_write h.1 w.1 w.2.1 w.2.2.1 w.2.2.2.1 p d x n) (fun s hs => m_write hs w.1 w.2.1 w.2.2.1 w.2.2.2.1 w.2.2.2.2 hN p d x n) (k_write p d x n)
    (fun y s e => by unfold f_L_write; dsimp only; rw [e]; dsimp only; rw [if_pos x_01]; rfl) (fun s e => by unfold f_L_write; dsimp only; rw [e]; dsimp only; rw [if_pos rfl]) (fun _ s e => by unfold f_L_write; dsimp only; rw [e]; dsimp only; rw [if_neg (by decide), if_pos rfl])
theorem k_close (p : Int32) (d : Int32) : z_c1 (o_close a p d).1 := by
  unfold o_close
  repeat' split
  all_goals first | exact Or.inl rfl | exact Or.inr rfl | exact Or.inr (Or.inl rfl) | exact Or.inr (Or.inr rfl)
theorem l_close (h : RL a st) (w : WF N a) (p : Int32) (d : Int32) : ∃ s5 b s2, f_L_close (some 0) p d (some 0) st = some ((o_close a p d).1, s5) ∧ f_M_close 0 p d s5 = some (b, s2) ∧ s2.1 32 0 0 = (o_close a p d).1 ∧ ((o_close a p d).1 = 0 → s2.2.1 64 0 0 = b.toInt64) ∧ RL (o_close a p d).2.2 s2 :=
  l_1 (m := fun s => f_M_close 0 p d s) h (c_close h.1 w.1 w.2.1 w.2.2.1 w.2.2.2.1 p d) (fun s hs => m_close hs w.1 w.2.1 w.2.2.1 w.2.2.2.1 p d) ((k_close p d).elim Or.inl (fun z => Or.inr (Or.inl z)))
    (fun y s e => by unfold f_L_close; dsimp only; rw [e]; dsimp only; rw [if_pos x_01]; rfl) (fun s e => by unfold f_L_close; dsimp only; rw [e]; dsimp only; rw [if_pos rfl]) (fun z => absurd z (by rcases k_close (a := a) p d with e | e <;> rw [e] <;> decide))
theorem k_dup (p : Int32) (d : Int32) (t : Int32) : z_c2 (o_dup a p d t).1 := by
  unfold o_dup
  repeat' split
  all_goals first | exact Or.inl rfl | exact Or.inr rfl | exact Or.inr (Or.inl rfl) | exact Or.inr (Or.inr rfl)
theorem l_dup (h : RL a st) (w : WF N a) (p : Int32) (d : Int32) (t : Int32) : ∃ s5 b s2, f_L_dup (some 0) p d t (some 0) st = some ((o_dup a p d t).1, s5) ∧ f_M_dup 0 p d t s5 = some (b, s2) ∧ s2.1 32 0 0 = (o_dup a p d t).1 ∧ ((o_dup a p d t).1 = 0 → s2.2.1 64 0 0 = b.toInt64) ∧ RL (o_dup a p d t).2.2 s2 :=
  l_1 (m := fun s => f_M_dup 0 p d t s) h (c_dup h.1 w.1 w.2.1 w.2.2.1 w.2.2.2.1 w.2.2.2.2 p d t) (fun s hs => m_dup hs w.1 w.2.1 w.2.2.1 w.2.2.2.1 p d t) (k_dup p d t)
    (fun y s e => by unfold f_L_dup; dsimp only; rw [e]; dsimp only; rw [if_pos x_01]; rfl) (fun s e => by unfold f_L_dup; dsimp only; rw [e]; dsimp only; rw [if_pos rfl]) (fun _ s e => by unfold f_L_dup; dsimp only; rw [e]; dsimp only; rw [if_neg (by decide), if_pos rfl])
theorem k_sk2 {o : Nat} {s v : Int32} : z_c2 (z_sk2 a o s v).1 := by
  unfold z_sk2
  repeat' split
  all_goals exact Or.inl rfl
theorem k_seek (p d v fr : Int32) : z_c2 (o_seek a p d v fr).1 := by
  unfold o_seek
  repeat' split
  all_goals first | exact k_sk2 | exact Or.inl rfl | exact Or.inr (Or.inl rfl) | exact Or.inr (Or.inr rfl)
theorem l_seek (h : RL a st) (w : WF N a) (p : Int32) (d : Int32) (v : Int32) (fr : Int32) : ∃ s5 b s2, f_L_seek (some 0) p d v fr (some 0) st = some ((o_seek a p d v fr).1, s5) ∧ f_M_seek 0 p d v fr s5 = some (b, s2) ∧ s2.1 32 0 0 = (o_seek a p d v fr).1 ∧ ((o_seek a p d v fr).1 = 0 → s2.2.1 64 0 0 = b.toInt64) ∧ RL (o_seek a p d v fr).2.2 s2 :=
  l_1 (m := fun s => f_M_seek 0 p d v fr s) h (c_seek h.1 w.1 w.2.1 w.2.2.2.1 p d v fr) (fun s hs => m_seek hs w.1 w.2.1 w.2.2.2.1 p d v fr) (k_seek p d v fr)
    (fun y s e => by unfold f_L_seek; dsimp only; rw [e]; dsimp only; rw [if_pos x_01]; rfl) (fun s e => by unfold f_L_seek; dsimp only; rw [e]; dsimp only; rw [if_pos rfl]) (fun _ s e => by unfold f_L_seek; dsimp only; rw [e]; dsimp only; rw [if_neg (by decide), if_pos rfl])
theorem k_unlink (p : Int32) (y : Int32) : z_c2 (o_unlink a p y).1 := by
  unfold o_unlink
  repeat' split
  all_goals first | exact Or.inl rfl | exact Or.inr rfl | exact Or.inr (Or.inl rfl) | exact Or.inr (Or.inr rfl)
theorem l_unlink (h : RL a st) (w : WF N a) (p : Int32) (y : Int32) : ∃ s5 b s2, f_L_unlink (some 0) p y (some 0) st = some ((o_unlink a p y).1, s5) ∧ f_M_unlink 0 p y s5 = some (b, s2) ∧ s2.1 32 0 0 = (o_unlink a p y).1 ∧ ((o_unlink a p y).1 = 0 → s2.2.1 64 0 0 = b.toInt64) ∧ RL (o_unlink a p y).2.2 s2 :=
  l_1 (m := fun s => f_M_unlink 0 p y s) h (c_unlink h.1 w.2.1 w.2.2.1 w.2.2.2.1 p y) (fun s hs => m_unlink hs w.1 w.2.1 w.2.2.1 w.2.2.2.1 p y) (k_unlink p y)
    (fun y s e => by unfold f_L_unlink; dsimp only; rw [e]; dsimp only; rw [if_pos x_01]; rfl) (fun s e => by unfold f_L_unlink; dsimp only; rw [e]; dsimp only; rw [if_pos rfl]) (fun _ s e => by unfold f_L_unlink; dsimp only; rw [e]; dsimp only; rw [if_neg (by decide), if_pos rfl])
theorem k_rename (p : Int32) (y : Int32) (v : Int32) : z_c2 (o_rename a p y v).1 := by
  unfold o_rename
  repeat' split
  all_goals first | exact Or.inl rfl | exact Or.inr rfl | exact Or.inr (Or.inl rfl) | exact Or.inr (Or.inr rfl)
theorem l_rename (h : RL a st) (w : WF N a) (p : Int32) (y : Int32) (v : Int32) : ∃ s5 b s2, f_L_rename (some 0) p y v (some 0) st = some ((o_rename a p y v).1, s5) ∧ f_M_rename 0 p y v s5 = some (b, s2) ∧ s2.1 32 0 0 = (o_rename a p y v).1 ∧ ((o_rename a p y v).1 = 0 → s2.2.1 64 0 0 = b.toInt64) ∧ RL (o_rename a p y v).2.2 s2 :=
  l_1 (m := fun s => f_M_rename 0 p y v s) h (c_rename h.1 w.2.1 w.2.2.1 w.2.2.2.1 p y v) (fun s hs => m_rename hs w.1 w.2.1 w.2.2.1 w.2.2.2.1 p y v) (k_rename p y v)
    (fun y s e => by unfold f_L_rename; dsimp only; rw [e]; dsimp only; rw [if_pos x_01]; rfl) (fun s e => by unfold f_L_rename; dsimp only; rw [e]; dsimp only; rw [if_pos rfl]) (fun _ s e => by unfold f_L_rename; dsimp only; rw [e]; dsimp only; rw [if_neg (by decide), if_pos rfl])
theorem l_type (h : RL a st) (w : WF N a) (y : Int32) : ∃ s5 b s2, f_L_type (some 0) y (some 0) st = some ((o_type a y).1, s5) ∧ f_M_type 0 y s5 = some (b, s2) ∧ s2.1 32 0 0 = (o_type a y).1 ∧ ((o_type a y).1 = 0 → s2.2.1 64 0 0 = b.toInt64) ∧ RL (o_type a y).2.2 s2 := by
  obtain ⟨s1, g1, g2⟩ := c_type h.1 w.1 w.2.1 w.2.2.1 w.2.2.2.1 y
  have hf := g2.2.2.2.2.2.2.2.2
  have hv : (o_type a y).1 = 0 ∨ (o_type a y).1 = 1 := by
    have : z_c1 (o_type a y).1 := by
      unfold o_type
      repeat' split
      all_goals first | exact Or.inl rfl | exact Or.inr rfl
    exact this
  rcases hv with hv | hv
  · obtain ⟨b, s2, k1, k2, k3⟩ := m_type (RM_fr (s' := xsJ s1 64 0 0 (o_type a y).2.1.toInt64) h.2 (fun q hq hq' => by
      have := hf q hq
      exact ⟨this.1, (u_J (by omega)).trans this.2.1, this.2.2⟩)) w.1 w.2.1 w.2.2.1 w.2.2.2.1 y
    refine ⟨_, b, s2, ?_, k1, k2.1.2, fun _ => ?_, RL_2 (s5 := xsJ s1 64 0 0 (o_type a y).2.1.toInt64) g2 (fun q hq => ⟨rfl, u_J (by omega), rfl⟩) k2⟩
    · unfold f_L_type
      dsimp only
      rw [g1, if_pos hv]
      dsimp only
      rw [if_pos x_01, hv]; rfl
    · rw [(k2.1.1.2.2.2.2.2.2.2 64 (Or.inr (by omega))).2.1, u_Je, z_ue, k3 hv]
  · obtain ⟨b, s2, k1, k2, k3⟩ := m_type (RM_fr (s' := s1) h.2 (fun q hq hq' => hf q hq)) w.1 w.2.1 w.2.2.1 w.2.2.2.1 y
    refine ⟨s1, b, s2, ?_, k1, k2.1.2, fun z => by rw [hv] at z; exact absurd z (by decide), RL_2 g2 (fun q hq => ⟨rfl, rfl, rfl⟩) k2⟩
    unfold f_L_type
    dsimp only
    rw [g1, if_neg (by rw [hv]; decide)]
    dsimp only
    rw [if_pos rfl, hv]
theorem l_0 (h : RL a st) : RL a (xsI st 32 0 0 0) := ⟨RC_fr h.1 (fun q hq => ⟨u_I (by omega), rfl, rfl⟩), RM_fr ⟨(m_coX h.2 0).1.1, (m_coX h.2 0).2⟩ (fun _ _ _ => ⟨rfl, rfl, rfl⟩)⟩
theorem l_spawn (h : RL a st) (w : WF N a) : ∃ s1 s2, f_D_spawn 0 st = some ((o_spawn a).1, s1) ∧ f_M_spawn 0 s1 = some ((o_spawn a).1, s2) ∧ RL (o_spawn a).2 s2 := by
  obtain ⟨s1, g1, g2⟩ := c_spawn h.1 w.2.1 w.2.2.2.1
  have hf := g2.2.2.2.2.2.2.2.2
  obtain ⟨s2, k1, k2⟩ := m_spawn (RM_fr (s' := s1) h.2 (fun q hq hq' => hf q hq)) w.1 w.2.1 w.2.2.2.1
  exact ⟨s1, s2, g1, k1, RL_2 g2 (fun q hq => ⟨rfl, rfl, rfl⟩) k2⟩
end
